def X5_seat_l20 (N : Nat) : Nat → HS → Nat → Nat → Int32 → Int32 → Int32 → Option HS
  | 0, _, _, _, _, _, _ => none
  | n + 1, h, v0, v1, v2, v3, v4 => (if (h.1 v0 2) ≤ v4 then some h else bd1 (X10_at N h (v1 + 9) v4) fun r5 => (if v4 < 0 ∨ 6 ≤ v4.toNatClampNeg then none else sq (wi h (v0 + 11) v4.toNatClampNeg (if (r5 + v2) < v3 then (r5 + v2) else v3)) fun h8 => X5_seat_l20 N n h8 v0 v1 v2 v3 (v4 + 1)))
set_option maxRecDepth 4000 in
set_option maxHeartbeats 2000000 in
theorem X5_seat_l20_w {p : Program} {l : Launch} {e : Env} {s : State} {m : MethodId} {args : Array Value} {below : List Frame} {meth : Method} {c : Code} {G : GT} {N : Nat} {z : HS} (E : CallFix p m c cX5_seat 5 s args UW RX5) (hr : meth.sig.returnType = none) (hlk : meth.locks = false) : ∀ (n : Nat) (h : HS) (H : Heap) (locs : List Loc) (ls : Array Slot) (v0 : Nat) (v1 : Nat) (v2 : Int32) (v3 : Int32) (v4 : Int32), X5_seat_l20 N n h v0 v1 v2 v3 v4 = some z → WD G s h H locs → sh v0 = 5 → sh v1 = 1 → lv_has ls 5 [(0, .ref (ad G v0)), (1, .ref (ad G v1)), (2, .int v2), (3, .int v3), (4, .int v4)] → W p l e ({ frames := 1, cells := 0, slots := 0, locals := 24 } : Room) s m args below meth c H locs 0 0 (MQ below (QC G none z) args s 0 0 (AD G)) (F0 m 20 ls []) := by
  intro n
  induction n with
  | zero =>
    intro h H locs ls v0 v1 v2 v3 v4 hf
    cases hf
  | succ n ih =>
    intro h H locs ls v0 v1 v2 v3 v4 hf w t_v0 t_v1 hl
    unfold X5_seat_l20 at hf
    refine lv_iload E.1 E.2.1 dX5_seat_20 (lv_at hl 4 rfl) ?_
    refine lv_aload_n E.1 E.2.1 dX5_seat_22 rfl (lv_at hl 0 rfl) ?_
    refine q_gi E w t_v0 fl_RX5_22 dX5_seat_23 ?_
    refine lv_icmp_ge (tgt := 57) E.1 E.2.1 dX5_seat_26 (by decide) (fun c3 => ?_) (fun c3 => ?_)
    · have hf := q_pos c3 hf
      have hf := Option.some.inj hf
      subst hf
      exact q_vret E w hr hlk dX5_seat_57
    · have hf := q_neg c3 hf
      refine lv_aload_n E.1 E.2.1 dX5_seat_29 rfl (lv_at hl 0 rfl) ?_
      refine q_gs E w 11 t_v0 fl_RX5_25 dX5_seat_30 ?_
      refine lv_iload E.1 E.2.1 dX5_seat_33 (lv_at hl 4 rfl) ?_
      refine lv_iload_n E.1 E.2.1 dX5_seat_35 rfl (lv_at hl 3 rfl) ?_
      refine lv_aload_n E.1 E.2.1 dX5_seat_36 rfl (lv_at hl 1 rfl) ?_
      refine q_gs E w 9 t_v1 fl_RX5_42 dX5_seat_37 ?_
      refine lv_iload E.1 E.2.1 dX5_seat_40 (lv_at hl 4 rfl) ?_
      obtain ⟨r5, hc4, hf⟩ := bd1_e hf
      refine k_Ni (As := [.ref (ad G (v1 + 9)), .int v4]) (rest := [.int v3, .int v4, .ref (ad G (v0 + 11))]) E w (X10_at_c ((lay_1_13 t_v1).1) hc4) mn_RX5_45 rfl rfl hl.1 ⟨Nat.le_of_ble_eq_true rfl, Nat.le_of_ble_eq_true rfl⟩ (Nat.le_of_ble_eq_true rfl) ⟨Nat.le_refl _, Nat.le_refl _⟩ dX5_seat_42 (fun H locs w => ?_)
      refine lv_iload_n E.1 E.2.1 dX5_seat_45 rfl (lv_at hl 2 rfl) ?_
      refine lv_iadd E.1 E.2.1 dX5_seat_46 ?_
      refine q_min E mm_RX5_36 hl.1 ⟨Nat.le_of_ble_eq_true rfl, Nat.le_of_ble_eq_true rfl⟩ ⟨Nat.le_refl _, Nat.le_refl _⟩ dX5_seat_47 ?_
      obtain ⟨b7, hf⟩ := q_if hf
      refine p_iast E w ((lay_5_3 t_v0).1) ((lay_5_3 t_v0).2) b7 dX5_seat_50 (fun h8 H locs eh w => ?_)
      have hf := sq_e eh hf
      clear eh
      refine lv_iinc (v := v4 + 1) (lv' := [(4, .int (v4 + 1)), (0, .ref (ad G v0)), (1, .ref (ad G v1)), (2, .int v2), (3, .int v3)]) E.1 E.2.1 dX5_seat_51 hl (k := 4) rfl rfl (by decide) rfl (fun ls hl => ?_)
      refine lv_goto (tgt := 20) E.1 E.2.1 dX5_seat_54 (by decide) ?_
      exact ih _ _ _ _ _ _ _ _ _ hf w t_v0 t_v1 (lv_sub hl [1, 2, 3, 4, 0] rfl)

def X5_seat (N : Nat) (h : HS) (v0 : Nat) (v1 : Nat) (v2 : Int32) (v3 : Int32) : Option HS := sq (wr h v0 v1) fun h1 => sq (wi h1 v0 2 (if 5 < (h1.1 v1 2) then 5 else (h1.1 v1 2))) fun h2 => X5_seat_l20 N N h2 v0 v1 v2 v3 0
set_option maxRecDepth 4000 in
set_option maxHeartbeats 2000000 in
theorem X5_seat_c {l : Launch} {G : GT} {N : Nat} {h : HS} {v0 : Nat} {v1 : Nat} {v2 : Int32} {v3 : Int32} {z : HS} (t_v0 : sh v0 = 5) (t_v1 : sh v1 = 1) (hf : X5_seat N h v0 v1 v2 v3 = some z) : CT l G yX5_seat cX5_seat 5 none 1 24 [.ref (ad G v0), .ref (ad G v1), .int v2, .int v3] h none z := by
  unfold X5_seat at hf
  refine CT.of (by decide) (Nat.le_of_ble_eq_true rfl) ?_
  intro p e s m below meth c ls E hr hlk w hl
  have hl : lv_has ls 5 [(0, .ref (ad G v0)), (1, .ref (ad G v1)), (2, .int v2), (3, .int v3)] := hl
  refine lv_aload_n E.1 E.2.1 dX5_seat_0 rfl (lv_at hl 0 rfl) ?_
  refine lv_aload_n E.1 E.2.1 dX5_seat_1 rfl (lv_at hl 1 rfl) ?_
  refine p_pr E w t_v0 fl_RX5_12 (by decide) (fp_5_0 _) ⟨fun z => absurd z (by decide), fun _ => t_v1⟩ dX5_seat_2 (fun h1 H locs eh w => ?_)
  have hf := sq_e eh hf
  clear eh
  refine lv_aload_n E.1 E.2.1 dX5_seat_5 rfl (lv_at hl 0 rfl) ?_
  refine lv_aload_n E.1 E.2.1 dX5_seat_6 rfl (lv_at hl 1 rfl) ?_
  refine q_gi E w t_v1 fl_RX5_35 dX5_seat_7 ?_
  refine lv_iconst (v := 5) E.1 E.2.1 dX5_seat_10 rfl ?_
  refine q_min E mm_RX5_36 hl.1 ⟨Nat.le_of_ble_eq_true rfl, Nat.le_of_ble_eq_true rfl⟩ ⟨Nat.le_refl _, Nat.le_refl _⟩ dX5_seat_11 ?_
  refine p_pi E w t_v0 fl_RX5_22 (fp_5_2 _) dX5_seat_14 (fun h2 H locs eh w => ?_)
  have hf := sq_e eh hf
  clear eh
  refine lv_iconst (v := 0) E.1 E.2.1 dX5_seat_17 rfl ?_
  refine lv_istore (lv' := [(4, .int 0), (0, .ref (ad G v0)), (1, .ref (ad G v1)), (2, .int v2), (3, .int v3)]) E.1 E.2.1 dX5_seat_18 hl (by decide) rfl (fun ls hl => ?_)
  exact X5_seat_l20_w E hr hlk N _ _ _ _ _ _ _ _ _ hf w t_v0 t_v1 (lv_sub hl [1, 2, 3, 4, 0] rfl)

def X5_sendOutAllBut_l2 (N : Nat) : Nat → HS → Nat → Int32 → Int32 → Option HS
  | 0, _, _, _, _ => none
  | n + 1, h, v0, v1, v2 => (if (h.1 v0 2) ≤ v2 then some h else (if ((v1 >>> (v2 &&& 31)) &&& 1) = 0 then (if v2 < 0 ∨ 6 ≤ v2.toNatClampNeg then none else sq (wi h (v0 + 11) v2.toNatClampNeg 0) fun h4 => X5_sendOutAllBut_l2 N n h4 v0 v1 (v2 + 1)) else X5_sendOutAllBut_l2 N n h v0 v1 (v2 + 1)))
set_option maxRecDepth 4000 in
set_option maxHeartbeats 2000000 in
theorem X5_sendOutAllBut_l2_w {p : Program} {l : Launch} {e : Env} {s : State} {m : MethodId} {args : Array Value} {below : List Frame} {meth : Method} {c : Code} {G : GT} {N : Nat} {z : HS} (E : CallFix p m c cX5_sendOutAllBut 3 s args UW RX5) (hr : meth.sig.returnType = none) (hlk : meth.locks = false) : ∀ (n : Nat) (h : HS) (H : Heap) (locs : List Loc) (ls : Array Slot) (v0 : Nat) (v1 : Int32) (v2 : Int32), X5_sendOutAllBut_l2 N n h v0 v1 v2 = some z → WD G s h H locs → sh v0 = 5 → lv_has ls 3 [(0, .ref (ad G v0)), (1, .int v1), (2, .int v2)] → W p l e ({ frames := 0, cells := 0, slots := 0, locals := 0 } : Room) s m args below meth c H locs 0 0 (MQ below (QC G none z) args s 0 0 (AD G)) (F0 m 2 ls []) := by
  intro n
  induction n with
  | zero =>
    intro h H locs ls v0 v1 v2 hf
    cases hf
  | succ n ih =>
    intro h H locs ls v0 v1 v2 hf w t_v0 hl
    unfold X5_sendOutAllBut_l2 at hf
    refine lv_iload_n E.1 E.2.1 dX5_sendOutAllBut_2 rfl (lv_at hl 2 rfl) ?_
    refine lv_aload_n E.1 E.2.1 dX5_sendOutAllBut_3 rfl (lv_at hl 0 rfl) ?_
    refine q_gi E w t_v0 fl_RX5_22 dX5_sendOutAllBut_4 ?_
    refine lv_icmp_ge (tgt := 31) E.1 E.2.1 dX5_sendOutAllBut_7 (by decide) (fun c1 => ?_) (fun c1 => ?_)
    · have hf := q_pos c1 hf
      have hf := Option.some.inj hf
      subst hf
      exact q_vret E w hr hlk dX5_sendOutAllBut_31
    · have hf := q_neg c1 hf
      refine lv_iload_n E.1 E.2.1 dX5_sendOutAllBut_10 rfl (lv_at hl 1 rfl) ?_
      refine lv_iload_n E.1 E.2.1 dX5_sendOutAllBut_11 rfl (lv_at hl 2 rfl) ?_
      refine lv_ishr E.1 E.2.1 dX5_sendOutAllBut_12 ?_
      refine lv_iconst (v := 1) E.1 E.2.1 dX5_sendOutAllBut_13 rfl ?_
      refine lv_iand E.1 E.2.1 dX5_sendOutAllBut_14 ?_
      refine lv_if_ne (tgt := 25) E.1 E.2.1 dX5_sendOutAllBut_15 (by decide) (fun c2 => ?_) (fun c2 => ?_)
      · have hf := q_neg c2 hf
        refine lv_iinc (v := v2 + 1) (lv' := [(2, .int (v2 + 1)), (0, .ref (ad G v0)), (1, .int v1)]) E.1 E.2.1 dX5_sendOutAllBut_25 hl (k := 2) rfl rfl (by decide) rfl (fun ls hl => ?_)
        refine lv_goto (tgt := 2) E.1 E.2.1 dX5_sendOutAllBut_28 (by decide) ?_
        exact ih _ _ _ _ _ _ _ hf w t_v0 (lv_sub hl [1, 2, 0] rfl)
      · have hf := q_pos c2 hf
        refine lv_aload_n E.1 E.2.1 dX5_sendOutAllBut_18 rfl (lv_at hl 0 rfl) ?_
        refine q_gs E w 11 t_v0 fl_RX5_25 dX5_sendOutAllBut_19 ?_
        refine lv_iload_n E.1 E.2.1 dX5_sendOutAllBut_22 rfl (lv_at hl 2 rfl) ?_
        refine lv_iconst (v := 0) E.1 E.2.1 dX5_sendOutAllBut_23 rfl ?_
        obtain ⟨b3, hf⟩ := q_if hf
        refine p_iast E w ((lay_5_3 t_v0).1) ((lay_5_3 t_v0).2) b3 dX5_sendOutAllBut_24 (fun h4 H locs eh w => ?_)
        have hf := sq_e eh hf
        clear eh
        refine lv_iinc (v := v2 + 1) (lv' := [(2, .int (v2 + 1)), (0, .ref (ad G v0)), (1, .int v1)]) E.1 E.2.1 dX5_sendOutAllBut_25 hl (k := 2) rfl rfl (by decide) rfl (fun ls hl => ?_)
        refine lv_goto (tgt := 2) E.1 E.2.1 dX5_sendOutAllBut_28 (by decide) ?_
        exact ih _ _ _ _ _ _ _ hf w t_v0 (lv_sub hl [1, 2, 0] rfl)

def X5_sendOutAllBut (N : Nat) (h : HS) (v0 : Nat) (v1 : Int32) : Option HS := X5_sendOutAllBut_l2 N N h v0 v1 0
set_option maxRecDepth 4000 in
set_option maxHeartbeats 2000000 in
theorem X5_sendOutAllBut_c {l : Launch} {G : GT} {N : Nat} {h : HS} {v0 : Nat} {v1 : Int32} {z : HS} (t_v0 : sh v0 = 5) (hf : X5_sendOutAllBut N h v0 v1 = some z) : CT l G yX5_sendOutAllBut cX5_sendOutAllBut 3 none 0 0 [.ref (ad G v0), .int v1] h none z := by
  unfold X5_sendOutAllBut at hf
  refine CT.of (by decide) (Nat.le_of_ble_eq_true rfl) ?_
  intro p e s m below meth c ls E hr hlk w hl
  have hl : lv_has ls 3 [(0, .ref (ad G v0)), (1, .int v1)] := hl
  refine lv_iconst (v := 0) E.1 E.2.1 dX5_sendOutAllBut_0 rfl ?_
  refine lv_istore_n (lv' := [(2, .int 0), (0, .ref (ad G v0)), (1, .int v1)]) E.1 E.2.1 dX5_sendOutAllBut_1 rfl hl (by decide) rfl (fun ls hl => ?_)
  exact X5_sendOutAllBut_l2_w E hr hlk N _ _ _ _ _ _ _ hf w t_v0 (lv_sub hl [1, 2, 0] rfl)

def X5_takeIn (N : Nat) (h : HS) (v0 : Nat) (v1 : Int32) : Option HS := (if (h.1 v0 2) = (h.1 (h.2 v0) 2) then (if (5 : Int32) < (h.1 v0 2) then some h else (if (h.1 v0 2) < 0 ∨ 6 ≤ (h.1 v0 2).toNatClampNeg then none else sq (wi h (v0 + 11) (h.1 v0 2).toNatClampNeg v1) fun h5 => sq (wi h5 v0 2 ((h5.1 v0 2) + 1)) fun h6 => some h6)) else some h)
set_option maxRecDepth 4000 in
set_option maxHeartbeats 2000000 in
theorem X5_takeIn_c {l : Launch} {G : GT} {N : Nat} {h : HS} {v0 : Nat} {v1 : Int32} {z : HS} (t_v0 : sh v0 = 5) (hf : X5_takeIn N h v0 v1 = some z) : CT l G yX5_takeIn cX5_takeIn 2 none 0 0 [.ref (ad G v0), .int v1] h none z := by
  unfold X5_takeIn at hf
  refine CT.of (by decide) (Nat.le_of_ble_eq_true rfl) ?_
  intro p e s m below meth c ls E hr hlk w hl
  have hl : lv_has ls 2 [(0, .ref (ad G v0)), (1, .int v1)] := hl
  refine lv_aload_n E.1 E.2.1 dX5_takeIn_0 rfl (lv_at hl 0 rfl) ?_
  refine q_gi E w t_v0 fl_RX5_22 dX5_takeIn_1 ?_
  refine lv_aload_n E.1 E.2.1 dX5_takeIn_4 rfl (lv_at hl 0 rfl) ?_
  refine q_gh E w t_v0 (by decide) fl_RX5_12 dX5_takeIn_5 (fun t1 => ?_)
  refine q_gi E w t1 fl_RX5_35 dX5_takeIn_8 ?_
  refine lv_icmp_ne (tgt := 42) E.1 E.2.1 dX5_takeIn_11 (by decide) (fun c2 => ?_) (fun c2 => ?_)
  · have hf := q_neg c2 hf
    have hf := Option.some.inj hf
    subst hf
    exact q_vret E w hr hlk dX5_takeIn_42
  · have hf := q_pos c2 hf
    refine lv_aload_n E.1 E.2.1 dX5_takeIn_14 rfl (lv_at hl 0 rfl) ?_
    refine q_gi E w t_v0 fl_RX5_22 dX5_takeIn_15 ?_
    refine lv_iconst (v := 5) E.1 E.2.1 dX5_takeIn_18 rfl ?_
    refine lv_icmp_gt (tgt := 42) E.1 E.2.1 dX5_takeIn_19 (by decide) (fun c3 => ?_) (fun c3 => ?_)
    · have hf := q_pos c3 hf
      have hf := Option.some.inj hf
      subst hf
      exact q_vret E w hr hlk dX5_takeIn_42
    · have hf := q_neg c3 hf
      refine lv_aload_n E.1 E.2.1 dX5_takeIn_22 rfl (lv_at hl 0 rfl) ?_
      refine q_gs E w 11 t_v0 fl_RX5_25 dX5_takeIn_23 ?_
      refine lv_aload_n E.1 E.2.1 dX5_takeIn_26 rfl (lv_at hl 0 rfl) ?_
      refine q_gi E w t_v0 fl_RX5_22 dX5_takeIn_27 ?_
      refine lv_iload_n E.1 E.2.1 dX5_takeIn_30 rfl (lv_at hl 1 rfl) ?_
      obtain ⟨b4, hf⟩ := q_if hf
      refine p_iast E w ((lay_5_3 t_v0).1) ((lay_5_3 t_v0).2) b4 dX5_takeIn_31 (fun h5 H locs eh w => ?_)
      have hf := sq_e eh hf
      clear eh
      refine lv_aload_n E.1 E.2.1 dX5_takeIn_32 rfl (lv_at hl 0 rfl) ?_
      refine lv_dup E.1 E.2.1 dX5_takeIn_33 rfl ?_
      refine q_gi E w t_v0 fl_RX5_22 dX5_takeIn_34 ?_
      refine lv_iconst (v := 1) E.1 E.2.1 dX5_takeIn_37 rfl ?_
      refine lv_iadd E.1 E.2.1 dX5_takeIn_38 ?_
      refine p_pi E w t_v0 fl_RX5_22 (fp_5_2 _) dX5_takeIn_39 (fun h6 H locs eh w => ?_)
      have hf := sq_e eh hf
      clear eh
      have hf := Option.some.inj hf
      subst hf
      exact q_vret E w hr hlk dX5_takeIn_42

def X5_canTake_b16 (N : Nat) (h : HS) (v0 : Nat) (v1 : Int32) (v2 : Int32) (u0 : Int32) : Option Int32 := (if (h.1 v0 2) ≤ v1 then some (nz 0) else bd1 (X10_at N h (v0 + 11) v1) fun r5 => bd1 (X10_at N h ((h.2 v0) + 4) v2) fun r9 => (if r5 < r9 then some (nz 0) else (if u0 = 0 then bd1 (X10_at N h ((h.2 v0) + 3) v2) fun r16 => bd1 (X1_reaches N h (h.2 v0) v1 r16 0) fun r19 => (if r19 = 0 then some (nz 0) else some (nz 1)) else some (nz 1))))
set_option maxRecDepth 4000 in
set_option maxHeartbeats 2000000 in
theorem X5_canTake_b16_w {p : Program} {l : Launch} {e : Env} {s : State} {m : MethodId} {args : Array Value} {below : List Frame} {meth : Method} {c : Code} {G : GT} {N : Nat} {z : Int32} {h : HS} (E : CallFix p m c cX5_canTake 4 s args UW RX5) (hr : meth.sig.returnType = (some .boolean)) (hlk : meth.locks = false) {H : Heap} {locs : List Loc} {ls : Array Slot} {v0 : Nat} {v1 : Int32} {v2 : Int32} {u0 : Int32} (hf : X5_canTake_b16 N h v0 v1 v2 u0 = some z) (w : WD G s h H locs) (t_v0 : sh v0 = 5) (hl : lv_has ls 4 [(0, .ref (ad G v0)), (1, .int v1), (2, .int v2)]) : W p l e ({ frames := 1, cells := 0, slots := 0, locals := 23 } : Room) s m args below meth c H locs 0 0 (MQ below (QC G (some (.int z)) h) args s 0 0 (AD G)) (F0 m 16 ls [.int u0]) := by
  unfold X5_canTake_b16 at hf
  refine lv_istore_n (lv' := [(3, .int u0), (0, .ref (ad G v0)), (1, .int v1), (2, .int v2)]) E.1 E.2.1 dX5_canTake_16 rfl hl (by decide) rfl (fun ls hl => ?_)
  refine lv_iload_n E.1 E.2.1 dX5_canTake_17 rfl (lv_at hl 2 rfl) ?_
  refine lv_aload_n E.1 E.2.1 dX5_canTake_18 rfl (lv_at hl 1 rfl) ?_
  refine q_gi E w t_v0 fl_RX5_22 dX5_canTake_19 ?_
  refine lv_icmp_ge (tgt := 78) E.1 E.2.1 dX5_canTake_22 (by decide) (fun c3 => ?_) (fun c3 => ?_)
  · have hf := q_pos c3 hf
    refine lv_iconst (v := 0) E.1 E.2.1 dX5_canTake_78 rfl ?_
    have hf := Option.some.inj hf
    subst hf
    exact q_zret E w hr hlk dX5_canTake_79
  · have hf := q_neg c3 hf
    refine lv_aload_n E.1 E.2.1 dX5_canTake_25 rfl (lv_at hl 1 rfl) ?_
    refine q_gs E w 11 t_v0 fl_RX5_25 dX5_canTake_26 ?_
    refine lv_iload_n E.1 E.2.1 dX5_canTake_29 rfl (lv_at hl 2 rfl) ?_
    obtain ⟨r5, hc4, hf⟩ := bd1_e hf
    refine k_Ni (As := [.ref (ad G (v0 + 11)), .int v1]) (rest := []) E w (X10_at_c ((lay_5_3 t_v0).1) hc4) mn_RX5_45 rfl rfl hl.1 ⟨Nat.le_of_ble_eq_true rfl, Nat.le_of_ble_eq_true rfl⟩ (Nat.le_of_ble_eq_true rfl) ⟨Nat.le_refl _, Nat.le_refl _⟩ dX5_canTake_30 (fun H locs w => ?_)
    refine lv_aload_n E.1 E.2.1 dX5_canTake_33 rfl (lv_at hl 1 rfl) ?_
    refine q_gh E w t_v0 (by decide) fl_RX5_12 dX5_canTake_34 (fun t7 => ?_)
    refine q_gs E w 4 t7 fl_RX5_63 dX5_canTake_37 ?_
    refine lv_iload_n E.1 E.2.1 dX5_canTake_40 rfl (lv_at hl 3 rfl) ?_
    obtain ⟨r9, hc8, hf⟩ := bd1_e hf
    refine k_Ni (As := [.ref (ad G ((h.2 v0) + 4)), .int v2]) (rest := [.int r5]) E w (X10_at_c ((lay_1_8 t7).1) hc8) mn_RX5_45 rfl rfl hl.1 ⟨Nat.le_of_ble_eq_true rfl, Nat.le_of_ble_eq_true rfl⟩ (Nat.le_of_ble_eq_true rfl) ⟨Nat.le_refl _, Nat.le_refl _⟩ dX5_canTake_41 (fun H locs w => ?_)
    refine lv_icmp_lt (tgt := 78) E.1 E.2.1 dX5_canTake_44 (by decide) (fun c11 => ?_) (fun c11 => ?_)
    · have hf := q_pos c11 hf
      refine lv_iconst (v := 0) E.1 E.2.1 dX5_canTake_78 rfl ?_
      have hf := Option.some.inj hf
      subst hf
      exact q_zret E w hr hlk dX5_canTake_79
    · have hf := q_neg c11 hf
      refine lv_iload_n E.1 E.2.1 dX5_canTake_47 rfl (lv_at hl 0 rfl) ?_
      refine lv_if_ne (tgt := 74) E.1 E.2.1 dX5_canTake_48 (by decide) (fun c12 => ?_) (fun c12 => ?_)
      · have hf := q_neg c12 hf
        refine lv_iconst (v := 1) E.1 E.2.1 dX5_canTake_74 rfl ?_
        refine lv_goto (tgt := 79) E.1 E.2.1 dX5_canTake_75 (by decide) ?_
        have hf := Option.some.inj hf
        subst hf
        exact q_zret E w hr hlk dX5_canTake_79
      · have hf := q_pos c12 hf
        refine lv_aload_n E.1 E.2.1 dX5_canTake_51 rfl (lv_at hl 1 rfl) ?_
        refine q_gh E w t_v0 (by decide) fl_RX5_12 dX5_canTake_52 (fun t13 => ?_)
        refine lv_iload_n E.1 E.2.1 dX5_canTake_55 rfl (lv_at hl 2 rfl) ?_
        refine lv_aload_n E.1 E.2.1 dX5_canTake_56 rfl (lv_at hl 1 rfl) ?_
        refine q_gh E w t_v0 (by decide) fl_RX5_12 dX5_canTake_57 (fun t14 => ?_)
        refine q_gs E w 3 t14 fl_RX5_70 dX5_canTake_60 ?_
        refine lv_iload_n E.1 E.2.1 dX5_canTake_63 rfl (lv_at hl 3 rfl) ?_
        obtain ⟨r16, hc15, hf⟩ := bd1_e hf
        refine k_Ni (As := [.ref (ad G ((h.2 v0) + 3)), .int v2]) (rest := [.int v1, .ref (ad G (h.2 v0))]) E w (X10_at_c ((lay_1_7 t14).1) hc15) mn_RX5_45 rfl rfl hl.1 ⟨Nat.le_of_ble_eq_true rfl, Nat.le_of_ble_eq_true rfl⟩ (Nat.le_of_ble_eq_true rfl) ⟨Nat.le_refl _, Nat.le_refl _⟩ dX5_canTake_64 (fun H locs w => ?_)
        refine lv_iconst (v := 0) E.1 E.2.1 dX5_canTake_67 rfl ?_
        obtain ⟨r19, hc18, hf⟩ := bd1_e hf
        refine k_Vi (As := [.int v1, .int r16, .int 0]) (rest := []) E w t13 ⟨by decide, rfl⟩ (X1_reaches_c t13 hc18) mv_RX5_73 rfl rfl hl.1 ⟨Nat.le_of_ble_eq_true rfl, Nat.le_of_ble_eq_true rfl⟩ (Nat.le_of_ble_eq_true rfl) ⟨Nat.le_refl _, Nat.le_refl _⟩ dX5_canTake_68 (fun H locs w => ?_)
        refine lv_if_eq (tgt := 78) E.1 E.2.1 dX5_canTake_71 (by decide) (fun c21 => ?_) (fun c21 => ?_)
        · have hf := q_pos c21 hf
          refine lv_iconst (v := 0) E.1 E.2.1 dX5_canTake_78 rfl ?_
          have hf := Option.some.inj hf
          subst hf
          exact q_zret E w hr hlk dX5_canTake_79
        · have hf := q_neg c21 hf
          refine lv_iconst (v := 1) E.1 E.2.1 dX5_canTake_74 rfl ?_
          refine lv_goto (tgt := 79) E.1 E.2.1 dX5_canTake_75 (by decide) ?_
          have hf := Option.some.inj hf
          subst hf
          exact q_zret E w hr hlk dX5_canTake_79

def X5_canTake (N : Nat) (h : HS) (v0 : Nat) (v1 : Int32) (v2 : Int32) : Option Int32 := (if v1 = (h.1 (h.2 v0) 2) then X5_canTake_b16 N h v0 v1 v2 1 else X5_canTake_b16 N h v0 v1 v2 0)
set_option maxRecDepth 4000 in
set_option maxHeartbeats 2000000 in
theorem X5_canTake_c {l : Launch} {G : GT} {N : Nat} {h : HS} {v0 : Nat} {v1 : Int32} {v2 : Int32} {z : Int32} (t_v0 : sh v0 = 5) (hf : X5_canTake N h v0 v1 v2 = some z) : CT l G yX5_canTake cX5_canTake 4 (some .boolean) 1 23 [.ref (ad G v0), .int v1, .int v2] h (some (.int z)) h := by
  unfold X5_canTake at hf
  refine CT.of (by decide) (Nat.le_of_ble_eq_true rfl) ?_
  intro p e s m below meth c ls E hr hlk w hl
  have hl : lv_has ls 4 [(0, .ref (ad G v0)), (1, .int v1), (2, .int v2)] := hl
  refine lv_iload_n E.1 E.2.1 dX5_canTake_0 rfl (lv_at hl 1 rfl) ?_
  refine lv_aload_n E.1 E.2.1 dX5_canTake_1 rfl (lv_at hl 0 rfl) ?_
  refine q_gh E w t_v0 (by decide) fl_RX5_12 dX5_canTake_2 (fun t1 => ?_)
  refine q_gi E w t1 fl_RX5_35 dX5_canTake_5 ?_
  refine lv_icmp_ne (tgt := 15) E.1 E.2.1 dX5_canTake_8 (by decide) (fun c2 => ?_) (fun c2 => ?_)
  · have hf := q_neg c2 hf
    refine lv_iconst (v := 0) E.1 E.2.1 dX5_canTake_15 rfl ?_
    exact X5_canTake_b16_w E hr hlk hf w t_v0 (lv_sub hl [0, 1, 2] rfl)
  · have hf := q_pos c2 hf
    refine lv_iconst (v := 1) E.1 E.2.1 dX5_canTake_11 rfl ?_
    refine lv_goto (tgt := 16) E.1 E.2.1 dX5_canTake_12 (by decide) ?_
    exact X5_canTake_b16_w E hr hlk hf w t_v0 (lv_sub hl [0, 1, 2] rfl)

def X5_prepares_l176 (N : Nat) : Nat → HS → Nat → Int32 → Int32 → Option (Int32 × HS)
  | 0, _, _, _, _ => none
  | n + 1, h, v0, v2, v3 => (if (h.1 v0 2) ≤ v3 then (if (0 : Int32) < 0 ∨ 9 ≤ (0 : Int32).toNatClampNeg then none else (if (h.1 (v0 + 13) (0 : Int32).toNatClampNeg) = 0 then some (nz 0, h) else (if 0 < v2 then some (nz 0, h) else some (nz 1, h)))) else bd1 (X10_at N h (v0 + 11) v3) fun r11 => X5_prepares_l176 N n h v0 (v2 - r11) (v3 + 1))
set_option maxRecDepth 4000 in
set_option maxHeartbeats 2000000 in
theorem X5_prepares_l176_w {p : Program} {l : Launch} {e : Env} {s : State} {m : MethodId} {args : Array Value} {below : List Frame} {meth : Method} {c : Code} {G : GT} {N : Nat} {z : (Int32 × HS)} (E : CallFix p m c cX5_prepares 6 s args UW RX5) (hr : meth.sig.returnType = (some .boolean)) (hlk : meth.locks = false) : ∀ (n : Nat) (h : HS) (H : Heap) (locs : List Loc) (ls : Array Slot) (v0 : Nat) (v2 : Int32) (v3 : Int32), X5_prepares_l176 N n h v0 v2 v3 = some z → WD G s h H locs → sh v0 = 5 → lv_has ls 6 [(0, .ref (ad G v0)), (2, .int v2), (3, .int v3)] → W p l e ({ frames := 2, cells := 0, slots := 0, locals := 46 } : Room) s m args below meth c H locs 0 0 (MQ below (QC G (some (.int z.1)) z.2) args s 0 0 (AD G)) (F0 m 176 ls []) := by
  intro n
  induction n with
  | zero =>
    intro h H locs ls v0 v2 v3 hf
    cases hf
  | succ n ih =>
    intro h H locs ls v0 v2 v3 hf w t_v0 hl
    unfold X5_prepares_l176 at hf
    refine lv_iload_n E.1 E.2.1 dX5_prepares_176 rfl (lv_at hl 2 rfl) ?_
    refine lv_aload_n E.1 E.2.1 dX5_prepares_177 rfl (lv_at hl 0 rfl) ?_
    refine q_gi E w t_v0 fl_RX5_22 dX5_prepares_178 ?_
    refine lv_icmp_ge (tgt := 201) E.1 E.2.1 dX5_prepares_181 (by decide) (fun c6 => ?_) (fun c6 => ?_)
    · have hf := q_pos c6 hf
      refine lv_aload_n E.1 E.2.1 dX5_prepares_201 rfl (lv_at hl 0 rfl) ?_
      refine q_gs E w 13 t_v0 fl_RX5_32 dX5_prepares_202 ?_
      refine lv_iconst (v := 0) E.1 E.2.1 dX5_prepares_205 rfl ?_
      obtain ⟨b7, hf⟩ := q_if hf
      refine q_iald E w ((lay_5_5 t_v0).1) ((lay_5_5 t_v0).2) b7 dX5_prepares_206 ?_
      refine lv_if_eq (tgt := 218) E.1 E.2.1 dX5_prepares_207 (by decide) (fun c8 => ?_) (fun c8 => ?_)
      · have hf := q_pos c8 hf
        refine lv_iconst (v := 0) E.1 E.2.1 dX5_prepares_218 rfl ?_
        have hf := Option.some.inj hf
        subst hf
        exact q_zret E w hr hlk dX5_prepares_219
      · have hf := q_neg c8 hf
        refine lv_iload_n E.1 E.2.1 dX5_prepares_210 rfl (lv_at hl 1 rfl) ?_
        refine lv_if_gt (tgt := 218) E.1 E.2.1 dX5_prepares_211 (by decide) (fun c9 => ?_) (fun c9 => ?_)
        · have hf := q_pos c9 hf
          refine lv_iconst (v := 0) E.1 E.2.1 dX5_prepares_218 rfl ?_
          have hf := Option.some.inj hf
          subst hf
          exact q_zret E w hr hlk dX5_prepares_219
        · have hf := q_neg c9 hf
          refine lv_iconst (v := 1) E.1 E.2.1 dX5_prepares_214 rfl ?_
          refine lv_goto (tgt := 219) E.1 E.2.1 dX5_prepares_215 (by decide) ?_
          have hf := Option.some.inj hf
          subst hf
          exact q_zret E w hr hlk dX5_prepares_219
    · have hf := q_neg c6 hf
      refine lv_iload_n E.1 E.2.1 dX5_prepares_184 rfl (lv_at hl 1 rfl) ?_
      refine lv_aload_n E.1 E.2.1 dX5_prepares_185 rfl (lv_at hl 0 rfl) ?_
      refine q_gs E w 11 t_v0 fl_RX5_25 dX5_prepares_186 ?_
      refine lv_iload_n E.1 E.2.1 dX5_prepares_189 rfl (lv_at hl 2 rfl) ?_
      obtain ⟨r11, hc10, hf⟩ := bd1_e hf
      refine k_Ni (As := [.ref (ad G (v0 + 11)), .int v3]) (rest := [.int v2]) E w (X10_at_c ((lay_5_3 t_v0).1) hc10) mn_RX5_45 rfl rfl hl.1 ⟨Nat.le_of_ble_eq_true rfl, Nat.le_of_ble_eq_true rfl⟩ (Nat.le_of_ble_eq_true rfl) ⟨Nat.le_refl _, Nat.le_refl _⟩ dX5_prepares_190 (fun H locs w => ?_)
      refine lv_isub E.1 E.2.1 dX5_prepares_193 ?_
      refine lv_istore_n (lv' := [(2, .int (v2 - r11)), (0, .ref (ad G v0)), (3, .int v3)]) E.1 E.2.1 dX5_prepares_194 rfl hl (by decide) rfl (fun ls hl => ?_)
      refine lv_iinc (v := v3 + 1) (lv' := [(3, .int (v3 + 1)), (2, .int (v2 - r11)), (0, .ref (ad G v0))]) E.1 E.2.1 dX5_prepares_195 hl (k := 2) rfl rfl (by decide) rfl (fun ls hl => ?_)
      refine lv_goto (tgt := 176) E.1 E.2.1 dX5_prepares_198 (by decide) ?_
      exact ih _ _ _ _ _ _ _ hf w t_v0 (lv_sub hl [2, 1, 0] rfl)

def X5_prepares_l107 (N : Nat) (K44 : HS → Nat → Int32 → Int32 → Option (Int32 × HS)) : Nat → HS → Nat → Int32 → Int32 → Int32 → Int32 → Option (Int32 × HS)
  | 0, _, _, _, _, _, _ => none
  | n + 1, h, v0, v2, v3, v4, v5 => (if v4 = 0 then K44 h v0 v2 (v3 + (-1)) else (if (6 : Int32) < v5 then K44 h v0 v2 (v3 + (-1)) else bd1 (X5_canTake N h v0 v5 v3) fun r25 => (if r25 = 0 then (if v3 < 0 ∨ 9 ≤ v3.toNatClampNeg then none else (if v3 < 0 ∨ 9 ≤ v3.toNatClampNeg then none else sq (wi h (v0 + 13) v3.toNatClampNeg ((h.1 (v0 + 13) v3.toNatClampNeg) &&& (((1 : Int32) <<< (v5 &&& 31)) ^^^ (-1)))) fun h30 => X5_prepares_l107 N K44 n h30 v0 v2 v3 v4 (v5 + 1))) else (if (v3 + 1) < 0 ∨ 9 ≤ (v3 + 1).toNatClampNeg then none else (if ((h.1 (v0 + 13) (v3 + 1).toNatClampNeg) &&& (((1 : Int32) <<< (v5 &&& 31)) ^^^ (-1))) = 0 then (if v3 < 0 ∨ 9 ≤ v3.toNatClampNeg then none else (if v3 < 0 ∨ 9 ≤ v3.toNatClampNeg then none else sq (wi h (v0 + 13) v3.toNatClampNeg ((h.1 (v0 + 13) v3.toNatClampNeg) &&& (((1 : Int32) <<< (v5 &&& 31)) ^^^ (-1)))) fun h35 => X5_prepares_l107 N K44 n h35 v0 v2 v3 v4 (v5 + 1))) else X5_prepares_l107 N K44 n h v0 v2 v3 v4 (v5 + 1))))))
set_option maxRecDepth 4000 in
set_option maxHeartbeats 2000000 in
theorem X5_prepares_l107_w {p : Program} {l : Launch} {e : Env} {s : State} {m : MethodId} {args : Array Value} {below : List Frame} {meth : Method} {c : Code} {G : GT} {N : Nat} {z : (Int32 × HS)} (E : CallFix p m c cX5_prepares 6 s args UW RX5) (hr : meth.sig.returnType = (some .boolean)) (hlk : meth.locks = false) {K44 : HS → Nat → Int32 → Int32 → Option (Int32 × HS)} (hK44 : ∀ (h : HS) (H : Heap) (locs : List Loc) (ls : Array Slot) (v0 : Nat) (v2 : Int32) (v3 : Int32), K44 h v0 v2 v3 = some z → WD G s h H locs → sh v0 = 5 → lv_has ls 6 [(0, .ref (ad G v0)), (2, .int v2), (3, .int v3)] → W p l e ({ frames := 2, cells := 0, slots := 0, locals := 46 } : Room) s m args below meth c H locs 0 0 (MQ below (QC G (some (.int z.1)) z.2) args s 0 0 (AD G)) (F0 m 44 ls [])) : ∀ (n : Nat) (h : HS) (H : Heap) (locs : List Loc) (ls : Array Slot) (v0 : Nat) (v2 : Int32) (v3 : Int32) (v4 : Int32) (v5 : Int32), X5_prepares_l107 N K44 n h v0 v2 v3 v4 v5 = some z → WD G s h H locs → sh v0 = 5 → lv_has ls 6 [(0, .ref (ad G v0)), (2, .int v2), (3, .int v3), (4, .int v4), (5, .int v5)] → W p l e ({ frames := 2, cells := 0, slots := 0, locals := 46 } : Room) s m args below meth c H locs 0 0 (MQ below (QC G (some (.int z.1)) z.2) args s 0 0 (AD G)) (F0 m 107 ls []) := by
  intro n
  induction n with
  | zero =>
    intro h H locs ls v0 v2 v3 v4 v5 hf
    cases hf
  | succ n ih =>
    intro h H locs ls v0 v2 v3 v4 v5 hf w t_v0 hl
    unfold X5_prepares_l107 at hf
    refine lv_iload E.1 E.2.1 dX5_prepares_107 (lv_at hl 3 rfl) ?_
    refine lv_if_eq (tgt := 168) E.1 E.2.1 dX5_prepares_109 (by decide) (fun c22 => ?_) (fun c22 => ?_)
    · have hf := q_pos c22 hf
      refine lv_iinc (v := v3 + (-1)) (lv' := [(3, .int (v3 + (-1))), (0, .ref (ad G v0)), (2, .int v2), (4, .int v4), (5, .int v5)]) E.1 E.2.1 dX5_prepares_168 hl (k := 2) rfl rfl (by decide) rfl (fun ls hl => ?_)
      refine lv_goto (tgt := 44) E.1 E.2.1 dX5_prepares_171 (by decide) ?_
      exact hK44 _ _ _ _ _ _ _ hf w t_v0 (lv_sub hl [1, 2, 0] rfl)
    · have hf := q_neg c22 hf
      refine lv_iload E.1 E.2.1 dX5_prepares_112 (lv_at hl 4 rfl) ?_
      refine lv_bipush (v := 6) E.1 E.2.1 dX5_prepares_114 rfl ?_
      refine lv_icmp_gt (tgt := 168) E.1 E.2.1 dX5_prepares_116 (by decide) (fun c23 => ?_) (fun c23 => ?_)
      · have hf := q_pos c23 hf
        refine lv_iinc (v := v3 + (-1)) (lv' := [(3, .int (v3 + (-1))), (0, .ref (ad G v0)), (2, .int v2), (4, .int v4), (5, .int v5)]) E.1 E.2.1 dX5_prepares_168 hl (k := 2) rfl rfl (by decide) rfl (fun ls hl => ?_)
        refine lv_goto (tgt := 44) E.1 E.2.1 dX5_prepares_171 (by decide) ?_
        exact hK44 _ _ _ _ _ _ _ hf w t_v0 (lv_sub hl [1, 2, 0] rfl)
      · have hf := q_neg c23 hf
        refine lv_aload_n E.1 E.2.1 dX5_prepares_119 rfl (lv_at hl 0 rfl) ?_
        refine lv_iload E.1 E.2.1 dX5_prepares_120 (lv_at hl 4 rfl) ?_
        refine lv_iload_n E.1 E.2.1 dX5_prepares_122 rfl (lv_at hl 2 rfl) ?_
        obtain ⟨r25, hc24, hf⟩ := bd1_e hf
        refine k_Vi (As := [.int v5, .int v3]) (rest := []) E w t_v0 ⟨by decide, rfl⟩ (X5_canTake_c t_v0 hc24) mv_RX5_66 rfl rfl hl.1 ⟨Nat.le_of_ble_eq_true rfl, Nat.le_of_ble_eq_true rfl⟩ (Nat.le_of_ble_eq_true rfl) ⟨Nat.le_refl _, Nat.le_refl _⟩ dX5_prepares_123 (fun H locs w => ?_)
        refine lv_if_eq (tgt := 147) E.1 E.2.1 dX5_prepares_126 (by decide) (fun c27 => ?_) (fun c27 => ?_)
        · have hf := q_pos c27 hf
          refine lv_aload_n E.1 E.2.1 dX5_prepares_147 rfl (lv_at hl 0 rfl) ?_
          refine q_gs E w 13 t_v0 fl_RX5_32 dX5_prepares_148 ?_
          refine lv_iload_n E.1 E.2.1 dX5_prepares_151 rfl (lv_at hl 2 rfl) ?_
          refine lv_dup2_11 E.1 E.2.1 dX5_prepares_152 rfl rfl ?_
          obtain ⟨b28, hf⟩ := q_if hf
          refine q_iald E w ((lay_5_5 t_v0).1) ((lay_5_5 t_v0).2) b28 dX5_prepares_153 ?_
          refine lv_iconst (v := 1) E.1 E.2.1 dX5_prepares_154 rfl ?_
          refine lv_iload E.1 E.2.1 dX5_prepares_155 (lv_at hl 4 rfl) ?_
          refine lv_ishl E.1 E.2.1 dX5_prepares_157 ?_
          refine lv_iconst (v := (-1)) E.1 E.2.1 dX5_prepares_158 rfl ?_
          refine lv_ixor E.1 E.2.1 dX5_prepares_159 ?_
          refine lv_iand E.1 E.2.1 dX5_prepares_160 ?_
          obtain ⟨b29, hf⟩ := q_if hf
          refine p_iast E w ((lay_5_5 t_v0).1) ((lay_5_5 t_v0).2) b29 dX5_prepares_161 (fun h30 H locs eh w => ?_)
          have hf := sq_e eh hf
          clear eh
          refine lv_iinc (v := v5 + 1) (lv' := [(5, .int (v5 + 1)), (0, .ref (ad G v0)), (2, .int v2), (3, .int v3), (4, .int v4)]) E.1 E.2.1 dX5_prepares_162 hl (k := 4) rfl rfl (by decide) rfl (fun ls hl => ?_)
          refine lv_goto (tgt := 107) E.1 E.2.1 dX5_prepares_165 (by decide) ?_
          exact ih _ _ _ _ _ _ _ _ _ hf w t_v0 (lv_sub hl [1, 2, 3, 4, 0] rfl)
        · have hf := q_neg c27 hf
          refine lv_aload_n E.1 E.2.1 dX5_prepares_129 rfl (lv_at hl 0 rfl) ?_
          refine q_gs E w 13 t_v0 fl_RX5_32 dX5_prepares_130 ?_
          refine lv_iload_n E.1 E.2.1 dX5_prepares_133 rfl (lv_at hl 2 rfl) ?_
          refine lv_iconst (v := 1) E.1 E.2.1 dX5_prepares_134 rfl ?_
          refine lv_iadd E.1 E.2.1 dX5_prepares_135 ?_
          obtain ⟨b31, hf⟩ := q_if hf
          refine q_iald E w ((lay_5_5 t_v0).1) ((lay_5_5 t_v0).2) b31 dX5_prepares_136 ?_
          refine lv_iconst (v := 1) E.1 E.2.1 dX5_prepares_137 rfl ?_
          refine lv_iload E.1 E.2.1 dX5_prepares_138 (lv_at hl 4 rfl) ?_
          refine lv_ishl E.1 E.2.1 dX5_prepares_140 ?_
          refine lv_iconst (v := (-1)) E.1 E.2.1 dX5_prepares_141 rfl ?_
          refine lv_ixor E.1 E.2.1 dX5_prepares_142 ?_
          refine lv_iand E.1 E.2.1 dX5_prepares_143 ?_
          refine lv_if_ne (tgt := 162) E.1 E.2.1 dX5_prepares_144 (by decide) (fun c32 => ?_) (fun c32 => ?_)
          · have hf := q_neg c32 hf
            refine lv_iinc (v := v5 + 1) (lv' := [(5, .int (v5 + 1)), (0, .ref (ad G v0)), (2, .int v2), (3, .int v3), (4, .int v4)]) E.1 E.2.1 dX5_prepares_162 hl (k := 4) rfl rfl (by decide) rfl (fun ls hl => ?_)
            refine lv_goto (tgt := 107) E.1 E.2.1 dX5_prepares_165 (by decide) ?_
            exact ih _ _ _ _ _ _ _ _ _ hf w t_v0 (lv_sub hl [1, 2, 3, 4, 0] rfl)
          · have hf := q_pos c32 hf
            refine lv_aload_n E.1 E.2.1 dX5_prepares_147 rfl (lv_at hl 0 rfl) ?_
            refine q_gs E w 13 t_v0 fl_RX5_32 dX5_prepares_148 ?_
            refine lv_iload_n E.1 E.2.1 dX5_prepares_151 rfl (lv_at hl 2 rfl) ?_
            refine lv_dup2_11 E.1 E.2.1 dX5_prepares_152 rfl rfl ?_
            obtain ⟨b33, hf⟩ := q_if hf
            refine q_iald E w ((lay_5_5 t_v0).1) ((lay_5_5 t_v0).2) b33 dX5_prepares_153 ?_
            refine lv_iconst (v := 1) E.1 E.2.1 dX5_prepares_154 rfl ?_
            refine lv_iload E.1 E.2.1 dX5_prepares_155 (lv_at hl 4 rfl) ?_
            refine lv_ishl E.1 E.2.1 dX5_prepares_157 ?_
            refine lv_iconst (v := (-1)) E.1 E.2.1 dX5_prepares_158 rfl ?_
            refine lv_ixor E.1 E.2.1 dX5_prepares_159 ?_
            refine lv_iand E.1 E.2.1 dX5_prepares_160 ?_
            obtain ⟨b34, hf⟩ := q_if hf
            refine p_iast E w ((lay_5_5 t_v0).1) ((lay_5_5 t_v0).2) b34 dX5_prepares_161 (fun h35 H locs eh w => ?_)
            have hf := sq_e eh hf
            clear eh
            refine lv_iinc (v := v5 + 1) (lv' := [(5, .int (v5 + 1)), (0, .ref (ad G v0)), (2, .int v2), (3, .int v3), (4, .int v4)]) E.1 E.2.1 dX5_prepares_162 hl (k := 4) rfl rfl (by decide) rfl (fun ls hl => ?_)
            refine lv_goto (tgt := 107) E.1 E.2.1 dX5_prepares_165 (by decide) ?_
            exact ih _ _ _ _ _ _ _ _ _ hf w t_v0 (lv_sub hl [1, 2, 3, 4, 0] rfl)

def X5_prepares_b79 (N : Nat) (h : HS) (K44 : HS → Nat → Int32 → Int32 → Option (Int32 × HS)) (v0 : Nat) (v3 : Int32) (v4 : Int32) (u0 : Int32) (u1 : Int32) : Option (Int32 × HS) := (if (v3 + 1) < 0 ∨ 9 ≤ (v3 + 1).toNatClampNeg then none else (if (h.1 (v0 + 13) (v3 + 1).toNatClampNeg) = 0 then (if v3 < 0 ∨ 9 ≤ v3.toNatClampNeg then none else sq (wi h (v0 + 13) v3.toNatClampNeg 0) fun h37 => X5_prepares_l107 N K44 N h37 v0 (u1 + u0) v3 v4 0) else (if v3 < 0 ∨ 9 ≤ v3.toNatClampNeg then none else sq (wi h (v0 + 13) v3.toNatClampNeg 127) fun h21 => X5_prepares_l107 N K44 N h21 v0 (u1 + u0) v3 v4 0)))
set_option maxRecDepth 4000 in
set_option maxHeartbeats 2000000 in
theorem X5_prepares_b79_w {p : Program} {l : Launch} {e : Env} {s : State} {m : MethodId} {args : Array Value} {below : List Frame} {meth : Method} {c : Code} {G : GT} {N : Nat} {z : (Int32 × HS)} {h : HS} (E : CallFix p m c cX5_prepares 6 s args UW RX5) (hr : meth.sig.returnType = (some .boolean)) (hlk : meth.locks = false) {K44 : HS → Nat → Int32 → Int32 → Option (Int32 × HS)} (hK44 : ∀ (h : HS) (H : Heap) (locs : List Loc) (ls : Array Slot) (v0 : Nat) (v2 : Int32) (v3 : Int32), K44 h v0 v2 v3 = some z → WD G s h H locs → sh v0 = 5 → lv_has ls 6 [(0, .ref (ad G v0)), (2, .int v2), (3, .int v3)] → W p l e ({ frames := 2, cells := 0, slots := 0, locals := 46 } : Room) s m args below meth c H locs 0 0 (MQ below (QC G (some (.int z.1)) z.2) args s 0 0 (AD G)) (F0 m 44 ls [])) {H : Heap} {locs : List Loc} {ls : Array Slot} {v0 : Nat} {v3 : Int32} {v4 : Int32} {u0 : Int32} {u1 : Int32} (hf : X5_prepares_b79 N h K44 v0 v3 v4 u0 u1 = some z) (w : WD G s h H locs) (t_v0 : sh v0 = 5) (hl : lv_has ls 6 [(0, .ref (ad G v0)), (3, .int v3), (4, .int v4)]) : W p l e ({ frames := 2, cells := 0, slots := 0, locals := 46 } : Room) s m args below meth c H locs 0 0 (MQ below (QC G (some (.int z.1)) z.2) args s 0 0 (AD G)) (F0 m 79 ls [.int u0, .int u1]) := by
  unfold X5_prepares_b79 at hf
  refine lv_iadd E.1 E.2.1 dX5_prepares_79 ?_
  refine lv_istore_n (lv' := [(2, .int (u1 + u0)), (0, .ref (ad G v0)), (3, .int v3), (4, .int v4)]) E.1 E.2.1 dX5_prepares_80 rfl hl (by decide) rfl (fun ls hl => ?_)
  refine lv_aload_n E.1 E.2.1 dX5_prepares_81 rfl (lv_at hl 1 rfl) ?_
  refine q_gs E w 13 t_v0 fl_RX5_32 dX5_prepares_82 ?_
  refine lv_iload_n E.1 E.2.1 dX5_prepares_85 rfl (lv_at hl 2 rfl) ?_
  refine lv_aload_n E.1 E.2.1 dX5_prepares_86 rfl (lv_at hl 1 rfl) ?_
  refine q_gs E w 13 t_v0 fl_RX5_32 dX5_prepares_87 ?_
  refine lv_iload_n E.1 E.2.1 dX5_prepares_90 rfl (lv_at hl 2 rfl) ?_
  refine lv_iconst (v := 1) E.1 E.2.1 dX5_prepares_91 rfl ?_
  refine lv_iadd E.1 E.2.1 dX5_prepares_92 ?_
  obtain ⟨b18, hf⟩ := q_if hf
  refine q_iald E w ((lay_5_5 t_v0).1) ((lay_5_5 t_v0).2) b18 dX5_prepares_93 ?_
  refine lv_if_ne (tgt := 101) E.1 E.2.1 dX5_prepares_94 (by decide) (fun c19 => ?_) (fun c19 => ?_)
  · have hf := q_neg c19 hf
    refine lv_bipush (v := 127) E.1 E.2.1 dX5_prepares_101 rfl ?_
    obtain ⟨b20, hf⟩ := q_if hf
    refine p_iast E w ((lay_5_5 t_v0).1) ((lay_5_5 t_v0).2) b20 dX5_prepares_103 (fun h21 H locs eh w => ?_)
    have hf := sq_e eh hf
    clear eh
    refine lv_iconst (v := 0) E.1 E.2.1 dX5_prepares_104 rfl ?_
    refine lv_istore (lv' := [(5, .int 0), (2, .int (u1 + u0)), (0, .ref (ad G v0)), (3, .int v3), (4, .int v4)]) E.1 E.2.1 dX5_prepares_105 hl (by decide) rfl (fun ls hl => ?_)
    exact X5_prepares_l107_w E hr hlk hK44 N _ _ _ _ _ _ _ _ _ hf w t_v0 (lv_sub hl [2, 1, 3, 4, 0] rfl)
  · have hf := q_pos c19 hf
    refine lv_iconst (v := 0) E.1 E.2.1 dX5_prepares_97 rfl ?_
    refine lv_goto (tgt := 103) E.1 E.2.1 dX5_prepares_98 (by decide) ?_
    obtain ⟨b36, hf⟩ := q_if hf
    refine p_iast E w ((lay_5_5 t_v0).1) ((lay_5_5 t_v0).2) b36 dX5_prepares_103 (fun h37 H locs eh w => ?_)
    have hf := sq_e eh hf
    clear eh
    refine lv_iconst (v := 0) E.1 E.2.1 dX5_prepares_104 rfl ?_
    refine lv_istore (lv' := [(5, .int 0), (2, .int (u1 + u0)), (0, .ref (ad G v0)), (3, .int v3), (4, .int v4)]) E.1 E.2.1 dX5_prepares_105 hl (by decide) rfl (fun ls hl => ?_)
    exact X5_prepares_l107_w E hr hlk hK44 N _ _ _ _ _ _ _ _ _ hf w t_v0 (lv_sub hl [2, 1, 3, 4, 0] rfl)

def X5_prepares_l44 (N : Nat) : Nat → HS → Nat → Int32 → Int32 → Option (Int32 × HS)
  | 0, _, _, _, _ => none
  | n + 1, h, v0, v2, v3 => (if v3 < 0 then X5_prepares_l176 N N h v0 v2 0 else bd1 (X1_sounds N h (h.2 v0) v3) fun r15 => (if r15 = 0 then X5_prepares_b79 N h (X5_prepares_l44 N n) v0 v3 r15 0 v2 else bd1 (X10_at N h ((h.2 v0) + 4) v3) fun r40 => X5_prepares_b79 N h (X5_prepares_l44 N n) v0 v3 r15 r40 v2))
set_option maxRecDepth 4000 in
set_option maxHeartbeats 2000000 in
theorem X5_prepares_l44_w {p : Program} {l : Launch} {e : Env} {s : State} {m : MethodId} {args : Array Value} {below : List Frame} {meth : Method} {c : Code} {G : GT} {N : Nat} {z : (Int32 × HS)} (E : CallFix p m c cX5_prepares 6 s args UW RX5) (hr : meth.sig.returnType = (some .boolean)) (hlk : meth.locks = false) : ∀ (n : Nat) (h : HS) (H : Heap) (locs : List Loc) (ls : Array Slot) (v0 : Nat) (v2 : Int32) (v3 : Int32), X5_prepares_l44 N n h v0 v2 v3 = some z → WD G s h H locs → sh v0 = 5 → lv_has ls 6 [(0, .ref (ad G v0)), (2, .int v2), (3, .int v3)] → W p l e ({ frames := 2, cells := 0, slots := 0, locals := 46 } : Room) s m args below meth c H locs 0 0 (MQ below (QC G (some (.int z.1)) z.2) args s 0 0 (AD G)) (F0 m 44 ls []) := by
  intro n
  induction n with
  | zero =>
    intro h H locs ls v0 v2 v3 hf
    cases hf
  | succ n ih =>
    intro h H locs ls v0 v2 v3 hf w t_v0 hl
    unfold X5_prepares_l44 at hf
    refine lv_iload_n E.1 E.2.1 dX5_prepares_44 rfl (lv_at hl 2 rfl) ?_
    refine lv_if_lt (tgt := 174) E.1 E.2.1 dX5_prepares_45 (by decide) (fun c5 => ?_) (fun c5 => ?_)
    · have hf := q_pos c5 hf
      refine lv_iconst (v := 0) E.1 E.2.1 dX5_prepares_174 rfl ?_
      refine lv_istore_n (lv' := [(3, .int 0), (0, .ref (ad G v0)), (2, .int v2)]) E.1 E.2.1 dX5_prepares_175 rfl hl (by decide) rfl (fun ls hl => ?_)
      exact X5_prepares_l176_w E hr hlk N _ _ _ _ _ _ _ hf w t_v0 (lv_sub hl [1, 2, 0] rfl)
    · have hf := q_neg c5 hf
      refine lv_aload_n E.1 E.2.1 dX5_prepares_48 rfl (lv_at hl 0 rfl) ?_
      refine q_gh E w t_v0 (by decide) fl_RX5_12 dX5_prepares_49 (fun t13 => ?_)
      refine lv_iload_n E.1 E.2.1 dX5_prepares_52 rfl (lv_at hl 2 rfl) ?_
      obtain ⟨r15, hc14, hf⟩ := bd1_e hf
      refine k_Vi (As := [.int v3]) (rest := []) E w t13 ⟨by decide, rfl⟩ (X1_sounds_c t13 hc14) mv_RX5_60 rfl rfl hl.1 ⟨Nat.le_of_ble_eq_true rfl, Nat.le_of_ble_eq_true rfl⟩ (Nat.le_of_ble_eq_true rfl) ⟨Nat.le_refl _, Nat.le_refl _⟩ dX5_prepares_53 (fun H locs w => ?_)
      refine lv_istore (lv' := [(4, .int r15), (0, .ref (ad G v0)), (2, .int v2), (3, .int v3)]) E.1 E.2.1 dX5_prepares_56 hl (by decide) rfl (fun ls hl => ?_)
      refine lv_iload_n E.1 E.2.1 dX5_prepares_58 rfl (lv_at hl 2 rfl) ?_
      refine lv_iload E.1 E.2.1 dX5_prepares_59 (lv_at hl 0 rfl) ?_
      refine lv_if_eq (tgt := 78) E.1 E.2.1 dX5_prepares_61 (by decide) (fun c17 => ?_) (fun c17 => ?_)
      · have hf := q_pos c17 hf
        refine lv_iconst (v := 0) E.1 E.2.1 dX5_prepares_78 rfl ?_
        exact X5_prepares_b79_w E hr hlk ih hf w t_v0 (lv_sub hl [1, 3, 0] rfl)
      · have hf := q_neg c17 hf
        refine lv_aload_n E.1 E.2.1 dX5_prepares_64 rfl (lv_at hl 1 rfl) ?_
        refine q_gh E w t_v0 (by decide) fl_RX5_12 dX5_prepares_65 (fun t38 => ?_)
        refine q_gs E w 4 t38 fl_RX5_63 dX5_prepares_68 ?_
        refine lv_iload_n E.1 E.2.1 dX5_prepares_71 rfl (lv_at hl 3 rfl) ?_
        obtain ⟨r40, hc39, hf⟩ := bd1_e hf
        refine k_Ni (As := [.ref (ad G ((h.2 v0) + 4)), .int v3]) (rest := [.int v2]) E w (X10_at_c ((lay_1_8 t38).1) hc39) mn_RX5_45 rfl rfl hl.1 ⟨Nat.le_of_ble_eq_true rfl, Nat.le_of_ble_eq_true rfl⟩ (Nat.le_of_ble_eq_true rfl) ⟨Nat.le_refl _, Nat.le_refl _⟩ dX5_prepares_72 (fun H locs w => ?_)
        refine lv_goto (tgt := 79) E.1 E.2.1 dX5_prepares_75 (by decide) ?_
        exact X5_prepares_b79_w E hr hlk ih hf w t_v0 (lv_sub hl [1, 3, 0] rfl)

def X5_prepares (N : Nat) (h : HS) (v0 : Nat) (v1 : Int32) : Option (Int32 × HS) := sq (wi h v0 1 (if 0 < (if (if 8 < (h.1 (h.2 v0) 1) then 8 else (h.1 (h.2 v0) 1)) < v1 then (if 8 < (h.1 (h.2 v0) 1) then 8 else (h.1 (h.2 v0) 1)) else v1) then (if (if 8 < (h.1 (h.2 v0) 1) then 8 else (h.1 (h.2 v0) 1)) < v1 then (if 8 < (h.1 (h.2 v0) 1) then 8 else (h.1 (h.2 v0) 1)) else v1) else 0)) fun h2 => (if (h2.1 v0 1) < 0 ∨ 9 ≤ (h2.1 v0 1).toNatClampNeg then none else sq (wi h2 (v0 + 13) (h2.1 v0 1).toNatClampNeg 127) fun h4 => X5_prepares_l44 N N h4 v0 0 ((h4.1 v0 1) - 1))
set_option maxRecDepth 4000 in
set_option maxHeartbeats 2000000 in
theorem X5_prepares_c {l : Launch} {G : GT} {N : Nat} {h : HS} {v0 : Nat} {v1 : Int32} {z : (Int32 × HS)} (t_v0 : sh v0 = 5) (hf : X5_prepares N h v0 v1 = some z) : CT l G yX5_prepares cX5_prepares 6 (some .boolean) 2 46 [.ref (ad G v0), .int v1] h (some (.int z.1)) z.2 := by
  unfold X5_prepares at hf
  refine CT.of (by decide) (Nat.le_of_ble_eq_true rfl) ?_
  intro p e s m below meth c ls E hr hlk w hl
  have hl : lv_has ls 6 [(0, .ref (ad G v0)), (1, .int v1)] := hl
  refine lv_aload_n E.1 E.2.1 dX5_prepares_0 rfl (lv_at hl 0 rfl) ?_
  refine lv_iconst (v := 0) E.1 E.2.1 dX5_prepares_1 rfl ?_
  refine lv_iload_n E.1 E.2.1 dX5_prepares_2 rfl (lv_at hl 1 rfl) ?_
  refine lv_aload_n E.1 E.2.1 dX5_prepares_3 rfl (lv_at hl 0 rfl) ?_
  refine q_gh E w t_v0 (by decide) fl_RX5_12 dX5_prepares_4 (fun t1 => ?_)
  refine q_gi E w t1 fl_RX5_56 dX5_prepares_7 ?_
  refine lv_bipush (v := 8) E.1 E.2.1 dX5_prepares_10 rfl ?_
  refine q_min E mm_RX5_36 hl.1 ⟨Nat.le_of_ble_eq_true rfl, Nat.le_of_ble_eq_true rfl⟩ ⟨Nat.le_refl _, Nat.le_refl _⟩ dX5_prepares_12 ?_
  refine q_min E mm_RX5_36 hl.1 ⟨Nat.le_of_ble_eq_true rfl, Nat.le_of_ble_eq_true rfl⟩ ⟨Nat.le_refl _, Nat.le_refl _⟩ dX5_prepares_15 ?_
  refine q_max E mm_RX5_57 hl.1 ⟨Nat.le_of_ble_eq_true rfl, Nat.le_of_ble_eq_true rfl⟩ ⟨Nat.le_refl _, Nat.le_refl _⟩ dX5_prepares_18 ?_
  refine p_pi E w t_v0 fl_RX5_18 (fp_5_1 _) dX5_prepares_21 (fun h2 H locs eh w => ?_)
  have hf := sq_e eh hf
  clear eh
  refine lv_aload_n E.1 E.2.1 dX5_prepares_24 rfl (lv_at hl 0 rfl) ?_
  refine q_gs E w 13 t_v0 fl_RX5_32 dX5_prepares_25 ?_
  refine lv_aload_n E.1 E.2.1 dX5_prepares_28 rfl (lv_at hl 0 rfl) ?_
  refine q_gi E w t_v0 fl_RX5_18 dX5_prepares_29 ?_
  refine lv_bipush (v := 127) E.1 E.2.1 dX5_prepares_32 rfl ?_
  obtain ⟨b3, hf⟩ := q_if hf
  refine p_iast E w ((lay_5_5 t_v0).1) ((lay_5_5 t_v0).2) b3 dX5_prepares_34 (fun h4 H locs eh w => ?_)
  have hf := sq_e eh hf
  clear eh
  refine lv_iconst (v := 0) E.1 E.2.1 dX5_prepares_35 rfl ?_
  refine lv_istore_n (lv' := [(2, .int 0), (0, .ref (ad G v0)), (1, .int v1)]) E.1 E.2.1 dX5_prepares_36 rfl hl (by decide) rfl (fun ls hl => ?_)
  refine lv_aload_n E.1 E.2.1 dX5_prepares_37 rfl (lv_at hl 1 rfl) ?_
  refine q_gi E w t_v0 fl_RX5_18 dX5_prepares_38 ?_
  refine lv_iconst (v := 1) E.1 E.2.1 dX5_prepares_41 rfl ?_
  refine lv_isub E.1 E.2.1 dX5_prepares_42 ?_
  refine lv_istore_n (lv' := [(3, .int ((h4.1 v0 1) - 1)), (2, .int 0), (0, .ref (ad G v0)), (1, .int v1)]) E.1 E.2.1 dX5_prepares_43 rfl hl (by decide) rfl (fun ls hl => ?_)
  exact X5_prepares_l44_w E hr hlk N _ _ _ _ _ _ _ hf w t_v0 (lv_sub hl [2, 1, 0] rfl)

def X5_maySing (N : Nat) (h : HS) (v0 : Nat) (v1 : Int32) (v2 : Int32) : Option Int32 := (if v1 < 0 then some (nz 0) else (if (nI (ln (v0 + 11))) ≤ v1 then some (nz 0) else bd1 (X10_at N h (v0 + 13) v2) fun r4 => (if ((r4 >>> (v1 &&& 31)) &&& 1) = 0 then some (nz 0) else (if v1 < 0 ∨ 6 ≤ v1.toNatClampNeg then none else bd1 (X10_at N h ((h.2 v0) + 4) v2) fun r10 => (if (h.1 (v0 + 11) v1.toNatClampNeg) < r10 then some (nz 0) else (if v2 = 0 then some (nz 1) else bd1 (X10_at N h (v0 + 12) (v2 - 1)) fun r15 => (if r15 = v1 then some (nz 0) else some (nz 1))))))))
set_option maxRecDepth 4000 in
set_option maxHeartbeats 2000000 in
theorem X5_maySing_c {l : Launch} {G : GT} {N : Nat} {h : HS} {v0 : Nat} {v1 : Int32} {v2 : Int32} {z : Int32} (t_v0 : sh v0 = 5) (hf : X5_maySing N h v0 v1 v2 = some z) : CT l G yX5_maySing cX5_maySing 3 (some .boolean) 1 21 [.ref (ad G v0), .int v1, .int v2] h (some (.int z)) h := by
  unfold X5_maySing at hf
  refine CT.of (by decide) (Nat.le_of_ble_eq_true rfl) ?_
  intro p e s m below meth c ls E hr hlk w hl
  have hl : lv_has ls 3 [(0, .ref (ad G v0)), (1, .int v1), (2, .int v2)] := hl
  refine lv_iload_n E.1 E.2.1 dX5_maySing_0 rfl (lv_at hl 1 rfl) ?_
  refine lv_if_lt (tgt := 70) E.1 E.2.1 dX5_maySing_1 (by decide) (fun c1 => ?_) (fun c1 => ?_)
  · have hf := q_pos c1 hf
    refine lv_iconst (v := 0) E.1 E.2.1 dX5_maySing_70 rfl ?_
    have hf := Option.some.inj hf
    subst hf
    exact q_zret E w hr hlk dX5_maySing_71
  · have hf := q_neg c1 hf
    refine lv_iload_n E.1 E.2.1 dX5_maySing_4 rfl (lv_at hl 1 rfl) ?_
    refine lv_aload_n E.1 E.2.1 dX5_maySing_5 rfl (lv_at hl 0 rfl) ?_
    refine q_gs E w 11 t_v0 fl_RX5_25 dX5_maySing_6 ?_
    refine q_alen (t := 1) E w ((lay_5_3 t_v0).1) (by decide) dX5_maySing_9 ?_
    refine lv_icmp_ge (tgt := 70) E.1 E.2.1 dX5_maySing_10 (by decide) (fun c2 => ?_) (fun c2 => ?_)
    · have hf := q_pos c2 hf
      refine lv_iconst (v := 0) E.1 E.2.1 dX5_maySing_70 rfl ?_
      have hf := Option.some.inj hf
      subst hf
      exact q_zret E w hr hlk dX5_maySing_71
    · have hf := q_neg c2 hf
      refine lv_aload_n E.1 E.2.1 dX5_maySing_13 rfl (lv_at hl 0 rfl) ?_
      refine q_gs E w 13 t_v0 fl_RX5_32 dX5_maySing_14 ?_
      refine lv_iload_n E.1 E.2.1 dX5_maySing_17 rfl (lv_at hl 2 rfl) ?_
      obtain ⟨r4, hc3, hf⟩ := bd1_e hf
      refine k_Ni (As := [.ref (ad G (v0 + 13)), .int v2]) (rest := []) E w (X10_at_c ((lay_5_5 t_v0).1) hc3) mn_RX5_45 rfl rfl hl.1 ⟨Nat.le_of_ble_eq_true rfl, Nat.le_of_ble_eq_true rfl⟩ (Nat.le_of_ble_eq_true rfl) ⟨Nat.le_refl _, Nat.le_refl _⟩ dX5_maySing_18 (fun H locs w => ?_)
      refine lv_iload_n E.1 E.2.1 dX5_maySing_21 rfl (lv_at hl 1 rfl) ?_
      refine lv_ishr E.1 E.2.1 dX5_maySing_22 ?_
      refine lv_iconst (v := 1) E.1 E.2.1 dX5_maySing_23 rfl ?_
      refine lv_iand E.1 E.2.1 dX5_maySing_24 ?_
      refine lv_if_eq (tgt := 70) E.1 E.2.1 dX5_maySing_25 (by decide) (fun c6 => ?_) (fun c6 => ?_)
      · have hf := q_pos c6 hf
        refine lv_iconst (v := 0) E.1 E.2.1 dX5_maySing_70 rfl ?_
        have hf := Option.some.inj hf
        subst hf
        exact q_zret E w hr hlk dX5_maySing_71
      · have hf := q_neg c6 hf
        refine lv_aload_n E.1 E.2.1 dX5_maySing_28 rfl (lv_at hl 0 rfl) ?_
        refine q_gs E w 11 t_v0 fl_RX5_25 dX5_maySing_29 ?_
        refine lv_iload_n E.1 E.2.1 dX5_maySing_32 rfl (lv_at hl 1 rfl) ?_
        obtain ⟨b7, hf⟩ := q_if hf
        refine q_iald E w ((lay_5_3 t_v0).1) ((lay_5_3 t_v0).2) b7 dX5_maySing_33 ?_
        refine lv_aload_n E.1 E.2.1 dX5_maySing_34 rfl (lv_at hl 0 rfl) ?_
        refine q_gh E w t_v0 (by decide) fl_RX5_12 dX5_maySing_35 (fun t8 => ?_)
        refine q_gs E w 4 t8 fl_RX5_63 dX5_maySing_38 ?_
        refine lv_iload_n E.1 E.2.1 dX5_maySing_41 rfl (lv_at hl 2 rfl) ?_
        obtain ⟨r10, hc9, hf⟩ := bd1_e hf
        refine k_Ni (As := [.ref (ad G ((h.2 v0) + 4)), .int v2]) (rest := [.int (h.1 (v0 + 11) v1.toNatClampNeg)]) E w (X10_at_c ((lay_1_8 t8).1) hc9) mn_RX5_45 rfl rfl hl.1 ⟨Nat.le_of_ble_eq_true rfl, Nat.le_of_ble_eq_true rfl⟩ (Nat.le_of_ble_eq_true rfl) ⟨Nat.le_refl _, Nat.le_refl _⟩ dX5_maySing_42 (fun H locs w => ?_)
        refine lv_icmp_lt (tgt := 70) E.1 E.2.1 dX5_maySing_45 (by decide) (fun c12 => ?_) (fun c12 => ?_)
        · have hf := q_pos c12 hf
          refine lv_iconst (v := 0) E.1 E.2.1 dX5_maySing_70 rfl ?_
          have hf := Option.some.inj hf
          subst hf
          exact q_zret E w hr hlk dX5_maySing_71
        · have hf := q_neg c12 hf
          refine lv_iload_n E.1 E.2.1 dX5_maySing_48 rfl (lv_at hl 2 rfl) ?_
          refine lv_if_eq (tgt := 66) E.1 E.2.1 dX5_maySing_49 (by decide) (fun c13 => ?_) (fun c13 => ?_)
          · have hf := q_pos c13 hf
            refine lv_iconst (v := 1) E.1 E.2.1 dX5_maySing_66 rfl ?_
            refine lv_goto (tgt := 71) E.1 E.2.1 dX5_maySing_67 (by decide) ?_
            have hf := Option.some.inj hf
            subst hf
            exact q_zret E w hr hlk dX5_maySing_71
          · have hf := q_neg c13 hf
            refine lv_aload_n E.1 E.2.1 dX5_maySing_52 rfl (lv_at hl 0 rfl) ?_
            refine q_gs E w 12 t_v0 fl_RX5_29 dX5_maySing_53 ?_
            refine lv_iload_n E.1 E.2.1 dX5_maySing_56 rfl (lv_at hl 2 rfl) ?_
            refine lv_iconst (v := 1) E.1 E.2.1 dX5_maySing_57 rfl ?_
            refine lv_isub E.1 E.2.1 dX5_maySing_58 ?_
            obtain ⟨r15, hc14, hf⟩ := bd1_e hf
            refine k_Ni (As := [.ref (ad G (v0 + 12)), .int (v2 - 1)]) (rest := []) E w (X10_at_c ((lay_5_4 t_v0).1) hc14) mn_RX5_45 rfl rfl hl.1 ⟨Nat.le_of_ble_eq_true rfl, Nat.le_of_ble_eq_true rfl⟩ (Nat.le_of_ble_eq_true rfl) ⟨Nat.le_refl _, Nat.le_refl _⟩ dX5_maySing_59 (fun H locs w => ?_)
            refine lv_iload_n E.1 E.2.1 dX5_maySing_62 rfl (lv_at hl 1 rfl) ?_
            refine lv_icmp_eq (tgt := 70) E.1 E.2.1 dX5_maySing_63 (by decide) (fun c17 => ?_) (fun c17 => ?_)
            · have hf := q_pos c17 hf
              refine lv_iconst (v := 0) E.1 E.2.1 dX5_maySing_70 rfl ?_
              have hf := Option.some.inj hf
              subst hf
              exact q_zret E w hr hlk dX5_maySing_71
            · have hf := q_neg c17 hf
              refine lv_iconst (v := 1) E.1 E.2.1 dX5_maySing_66 rfl ?_
              refine lv_goto (tgt := 71) E.1 E.2.1 dX5_maySing_67 (by decide) ?_
              have hf := Option.some.inj hf
              subst hf
              exact q_zret E w hr hlk dX5_maySing_71

def X5_places_l60 (N : Nat) (F_X5_places : HS → Nat → Int32 → Option (Int32 × HS)) : Nat → HS → Nat → Int32 → Int32 → Int32 → Option (Int32 × HS)
  | 0, _, _, _, _, _ => none
  | n + 1, h, v0, v1, v2, v3 => (if (h.1 v0 2) ≤ v3 then (if v1 < 0 ∨ 8 ≤ v1.toNatClampNeg then none else sq (wi h (v0 + 12) v1.toNatClampNeg (-1)) fun h17 => some (nz 0, h17)) else (if (nI (ln (v0 + 11))) ≤ v3 then (if v1 < 0 ∨ 8 ≤ v1.toNatClampNeg then none else sq (wi h (v0 + 12) v1.toNatClampNeg (-1)) fun h20 => some (nz 0, h20)) else bd1 (X5_maySing N h v0 v3 v1) fun r22 => (if r22 = 0 then X5_places_l60 N F_X5_places n h v0 v1 v2 (v3 + 1) else (if v1 < 0 ∨ 8 ≤ v1.toNatClampNeg then none else sq (wi h (v0 + 12) v1.toNatClampNeg v3) fun h26 => (if v3 < 0 ∨ 6 ≤ v3.toNatClampNeg then none else (if v3 < 0 ∨ 6 ≤ v3.toNatClampNeg then none else sq (wi h26 (v0 + 11) v3.toNatClampNeg ((h26.1 (v0 + 11) v3.toNatClampNeg) - v2)) fun h29 => bd2 (F_X5_places h29 v0 (v1 + 1)) fun r31 h32 => (if r31 = 0 then (if v3 < 0 ∨ 6 ≤ v3.toNatClampNeg then none else (if v3 < 0 ∨ 6 ≤ v3.toNatClampNeg then none else sq (wi h32 (v0 + 11) v3.toNatClampNeg ((h32.1 (v0 + 11) v3.toNatClampNeg) + v2)) fun h36 => X5_places_l60 N F_X5_places n h36 v0 v1 v2 (v3 + 1))) else some (nz 1, h32))))))))
set_option maxRecDepth 4000 in
set_option maxHeartbeats 2000000 in
theorem X5_places_l60_w {p : Program} {l : Launch} {e : Env} {s : State} {m : MethodId} {args : Array Value} {below : List Frame} {meth : Method} {c : Code} {G : GT} {N : Nat} {F_X5_places : HS → Nat → Int32 → Option (Int32 × HS)} {fr lo : Nat} {z : (Int32 × HS)} (E : CallFix p m c cX5_places 4 s args UW RX5) (hr : meth.sig.returnType = (some .boolean)) (hlk : meth.locks = false) (hF_X5_places : ∀ (h : HS) (v0 : Nat) (v1 : Int32) (z : (Int32 × HS)), F_X5_places h v0 v1 = some z → sh v0 = 5 → CT l G yX5_places cX5_places 4 (some .boolean) fr lo [.ref (ad G v0), .int v1] h (some (.int z.1)) z.2) : ∀ (n : Nat) (h : HS) (H : Heap) (locs : List Loc) (ls : Array Slot) (v0 : Nat) (v1 : Int32) (v2 : Int32) (v3 : Int32), X5_places_l60 N F_X5_places n h v0 v1 v2 v3 = some z → WD G s h H locs → sh v0 = 5 → lv_has ls 4 [(0, .ref (ad G v0)), (1, .int v1), (2, .int v2), (3, .int v3)] → W p l e ({ frames := fr + 2, cells := 0, slots := 0, locals := lo + 43 } : Room) s m args below meth c H locs 0 0 (MQ below (QC G (some (.int z.1)) z.2) args s 0 0 (AD G)) (F0 m 60 ls []) := by
  intro n
  induction n with
  | zero =>
    intro h H locs ls v0 v1 v2 v3 hf
    cases hf
  | succ n ih =>
    intro h H locs ls v0 v1 v2 v3 hf w t_v0 hl
    unfold X5_places_l60 at hf
    refine lv_iload_n E.1 E.2.1 dX5_places_60 rfl (lv_at hl 3 rfl) ?_
    refine lv_aload_n E.1 E.2.1 dX5_places_61 rfl (lv_at hl 0 rfl) ?_
    refine q_gi E w t_v0 fl_RX5_22 dX5_places_62 ?_
    refine lv_icmp_ge (tgt := 131) E.1 E.2.1 dX5_places_65 (by decide) (fun c15 => ?_) (fun c15 => ?_)
    · have hf := q_pos c15 hf
      refine lv_aload_n E.1 E.2.1 dX5_places_131 rfl (lv_at hl 0 rfl) ?_
      refine q_gs E w 12 t_v0 fl_RX5_29 dX5_places_132 ?_
      refine lv_iload_n E.1 E.2.1 dX5_places_135 rfl (lv_at hl 1 rfl) ?_
      refine lv_iconst (v := (-1)) E.1 E.2.1 dX5_places_136 rfl ?_
      obtain ⟨b16, hf⟩ := q_if hf
      refine p_iast E w ((lay_5_4 t_v0).1) ((lay_5_4 t_v0).2) b16 dX5_places_137 (fun h17 H locs eh w => ?_)
      have hf := sq_e eh hf
      clear eh
      refine lv_iconst (v := 0) E.1 E.2.1 dX5_places_138 rfl ?_
      have hf := Option.some.inj hf
      subst hf
      exact q_zret E w hr hlk dX5_places_139
    · have hf := q_neg c15 hf
      refine lv_iload_n E.1 E.2.1 dX5_places_68 rfl (lv_at hl 3 rfl) ?_
      refine lv_aload_n E.1 E.2.1 dX5_places_69 rfl (lv_at hl 0 rfl) ?_
      refine q_gs E w 11 t_v0 fl_RX5_25 dX5_places_70 ?_
      refine q_alen (t := 1) E w ((lay_5_3 t_v0).1) (by decide) dX5_places_73 ?_
      refine lv_icmp_ge (tgt := 131) E.1 E.2.1 dX5_places_74 (by decide) (fun c18 => ?_) (fun c18 => ?_)
      · have hf := q_pos c18 hf
        refine lv_aload_n E.1 E.2.1 dX5_places_131 rfl (lv_at hl 0 rfl) ?_
        refine q_gs E w 12 t_v0 fl_RX5_29 dX5_places_132 ?_
        refine lv_iload_n E.1 E.2.1 dX5_places_135 rfl (lv_at hl 1 rfl) ?_
        refine lv_iconst (v := (-1)) E.1 E.2.1 dX5_places_136 rfl ?_
        obtain ⟨b19, hf⟩ := q_if hf
        refine p_iast E w ((lay_5_4 t_v0).1) ((lay_5_4 t_v0).2) b19 dX5_places_137 (fun h20 H locs eh w => ?_)
        have hf := sq_e eh hf
        clear eh
        refine lv_iconst (v := 0) E.1 E.2.1 dX5_places_138 rfl ?_
        have hf := Option.some.inj hf
        subst hf
        exact q_zret E w hr hlk dX5_places_139
      · have hf := q_neg c18 hf
        refine lv_aload_n E.1 E.2.1 dX5_places_77 rfl (lv_at hl 0 rfl) ?_
        refine lv_iload_n E.1 E.2.1 dX5_places_78 rfl (lv_at hl 3 rfl) ?_
        refine lv_iload_n E.1 E.2.1 dX5_places_79 rfl (lv_at hl 1 rfl) ?_
        obtain ⟨r22, hc21, hf⟩ := bd1_e hf
        refine k_Vi (As := [.int v3, .int v1]) (rest := []) E w t_v0 ⟨by decide, rfl⟩ (X5_maySing_c t_v0 hc21) mv_RX5_77 rfl rfl hl.1 ⟨Nat.le_trans (Nat.le_of_ble_eq_true rfl) (Nat.le_add_left 2 fr), Nat.le_trans (Nat.le_of_ble_eq_true rfl) (Nat.le_add_left 43 lo)⟩ (Nat.le_of_ble_eq_true rfl) ⟨Nat.le_refl _, Nat.le_refl _⟩ dX5_places_80 (fun H locs w => ?_)
        refine lv_if_eq (tgt := 125) E.1 E.2.1 dX5_places_83 (by decide) (fun c24 => ?_) (fun c24 => ?_)
        · have hf := q_pos c24 hf
          refine lv_iinc (v := v3 + 1) (lv' := [(3, .int (v3 + 1)), (0, .ref (ad G v0)), (1, .int v1), (2, .int v2)]) E.1 E.2.1 dX5_places_125 hl (k := 3) rfl rfl (by decide) rfl (fun ls hl => ?_)
          refine lv_goto (tgt := 60) E.1 E.2.1 dX5_places_128 (by decide) ?_
          exact ih _ _ _ _ _ _ _ _ hf w t_v0 (lv_sub hl [1, 2, 3, 0] rfl)
        · have hf := q_neg c24 hf
          refine lv_aload_n E.1 E.2.1 dX5_places_86 rfl (lv_at hl 0 rfl) ?_
          refine q_gs E w 12 t_v0 fl_RX5_29 dX5_places_87 ?_
          refine lv_iload_n E.1 E.2.1 dX5_places_90 rfl (lv_at hl 1 rfl) ?_
          refine lv_iload_n E.1 E.2.1 dX5_places_91 rfl (lv_at hl 3 rfl) ?_
          obtain ⟨b25, hf⟩ := q_if hf
          refine p_iast E w ((lay_5_4 t_v0).1) ((lay_5_4 t_v0).2) b25 dX5_places_92 (fun h26 H locs eh w => ?_)
          have hf := sq_e eh hf
          clear eh
          refine lv_aload_n E.1 E.2.1 dX5_places_93 rfl (lv_at hl 0 rfl) ?_
          refine q_gs E w 11 t_v0 fl_RX5_25 dX5_places_94 ?_
          refine lv_iload_n E.1 E.2.1 dX5_places_97 rfl (lv_at hl 3 rfl) ?_
          refine lv_dup2_11 E.1 E.2.1 dX5_places_98 rfl rfl ?_
          obtain ⟨b27, hf⟩ := q_if hf
          refine q_iald E w ((lay_5_3 t_v0).1) ((lay_5_3 t_v0).2) b27 dX5_places_99 ?_
          refine lv_iload_n E.1 E.2.1 dX5_places_100 rfl (lv_at hl 2 rfl) ?_
          refine lv_isub E.1 E.2.1 dX5_places_101 ?_
          obtain ⟨b28, hf⟩ := q_if hf
          refine p_iast E w ((lay_5_3 t_v0).1) ((lay_5_3 t_v0).2) b28 dX5_places_102 (fun h29 H locs eh w => ?_)
          have hf := sq_e eh hf
          clear eh
          refine lv_aload_n E.1 E.2.1 dX5_places_103 rfl (lv_at hl 0 rfl) ?_
          refine lv_iload_n E.1 E.2.1 dX5_places_104 rfl (lv_at hl 1 rfl) ?_
          refine lv_iconst (v := 1) E.1 E.2.1 dX5_places_105 rfl ?_
          refine lv_iadd E.1 E.2.1 dX5_places_106 ?_
          obtain ⟨r31, h32, hc30, hf⟩ := bd2_e hf
          refine k_Vi (As := [.int (v1 + 1)]) (rest := []) E w t_v0 ⟨by decide, rfl⟩ (hF_X5_places _ _ _ _ hc30 t_v0) mv_RX5_53 rfl rfl hl.1 ⟨Nat.add_le_add_left (Nat.le_of_ble_eq_true rfl) fr, (by show 8 + (4 + 11) + lo ≤ lo + 43; omega)⟩ (Nat.le_of_ble_eq_true rfl) ⟨Nat.le_refl _, Nat.le_refl _⟩ dX5_places_107 (fun H locs w => ?_)
          refine lv_if_eq (tgt := 115) E.1 E.2.1 dX5_places_110 (by decide) (fun c33 => ?_) (fun c33 => ?_)
          · have hf := q_pos c33 hf
            refine lv_aload_n E.1 E.2.1 dX5_places_115 rfl (lv_at hl 0 rfl) ?_
            refine q_gs E w 11 t_v0 fl_RX5_25 dX5_places_116 ?_
            refine lv_iload_n E.1 E.2.1 dX5_places_119 rfl (lv_at hl 3 rfl) ?_
            refine lv_dup2_11 E.1 E.2.1 dX5_places_120 rfl rfl ?_
            obtain ⟨b34, hf⟩ := q_if hf
            refine q_iald E w ((lay_5_3 t_v0).1) ((lay_5_3 t_v0).2) b34 dX5_places_121 ?_
            refine lv_iload_n E.1 E.2.1 dX5_places_122 rfl (lv_at hl 2 rfl) ?_
            refine lv_iadd E.1 E.2.1 dX5_places_123 ?_
            obtain ⟨b35, hf⟩ := q_if hf
            refine p_iast E w ((lay_5_3 t_v0).1) ((lay_5_3 t_v0).2) b35 dX5_places_124 (fun h36 H locs eh w => ?_)
            have hf := sq_e eh hf
            clear eh
            refine lv_iinc (v := v3 + 1) (lv' := [(3, .int (v3 + 1)), (0, .ref (ad G v0)), (1, .int v1), (2, .int v2)]) E.1 E.2.1 dX5_places_125 hl (k := 3) rfl rfl (by decide) rfl (fun ls hl => ?_)
            refine lv_goto (tgt := 60) E.1 E.2.1 dX5_places_128 (by decide) ?_
            exact ih _ _ _ _ _ _ _ _ hf w t_v0 (lv_sub hl [1, 2, 3, 0] rfl)
          · have hf := q_neg c33 hf
            refine lv_iconst (v := 1) E.1 E.2.1 dX5_places_113 rfl ?_
            have hf := Option.some.inj hf
            subst hf
            exact q_zret E w hr hlk dX5_places_114

def X5_places_B (N : Nat) (F_X5_places : HS → Nat → Int32 → Option (Int32 × HS)) (h : HS) (v0 : Nat) (v1 : Int32) : Option (Int32 × HS) := (if v1 < 0 then some (nz 1, h) else (if (h.1 v0 1) ≤ v1 then some (nz 1, h) else (if v1 < (8 : Int32) then (if v1 < 0 ∨ 8 ≤ v1.toNatClampNeg then none else sq (wi h (v0 + 12) v1.toNatClampNeg (-1)) fun h5 => bd1 (X1_sounds N h5 (h5.2 v0) v1) fun r8 => (if r8 = 0 then bd2 (F_X5_places h5 v0 (v1 + 1)) fun r38 h39 => some (nz r38, h39) else bd1 (X10_at N h5 ((h5.2 v0) + 4) v1) fun r13 => X5_places_l60 N F_X5_places N h5 v0 v1 r13 0)) else some (nz 1, h))))
set_option maxRecDepth 4000 in
set_option maxHeartbeats 2000000 in
theorem X5_places_B_c {l : Launch} {G : GT} {N : Nat} {F_X5_places : HS → Nat → Int32 → Option (Int32 × HS)} {fr lo : Nat} (hF_X5_places : ∀ (h : HS) (v0 : Nat) (v1 : Int32) (z : (Int32 × HS)), F_X5_places h v0 v1 = some z → sh v0 = 5 → CT l G yX5_places cX5_places 4 (some .boolean) fr lo [.ref (ad G v0), .int v1] h (some (.int z.1)) z.2) {h : HS} {v0 : Nat} {v1 : Int32} {z : (Int32 × HS)} (t_v0 : sh v0 = 5) (hf : X5_places_B N F_X5_places h v0 v1 = some z) : CT l G yX5_places cX5_places 4 (some .boolean) (fr + 2) (lo + 43) [.ref (ad G v0), .int v1] h (some (.int z.1)) z.2 := by
  unfold X5_places_B at hf
  refine CT.of (by decide) (Nat.le_of_ble_eq_true rfl) ?_
  intro p e s m below meth c ls E hr hlk w hl
  have hl : lv_has ls 4 [(0, .ref (ad G v0)), (1, .int v1)] := hl
  refine lv_iload_n E.1 E.2.1 dX5_places_0 rfl (lv_at hl 1 rfl) ?_
  refine lv_if_lt (tgt := 18) E.1 E.2.1 dX5_places_1 (by decide) (fun c1 => ?_) (fun c1 => ?_)
  · have hf := q_pos c1 hf
    refine lv_iconst (v := 1) E.1 E.2.1 dX5_places_18 rfl ?_
    have hf := Option.some.inj hf
    subst hf
    exact q_zret E w hr hlk dX5_places_19
  · have hf := q_neg c1 hf
    refine lv_iload_n E.1 E.2.1 dX5_places_4 rfl (lv_at hl 1 rfl) ?_
    refine lv_aload_n E.1 E.2.1 dX5_places_5 rfl (lv_at hl 0 rfl) ?_
    refine q_gi E w t_v0 fl_RX5_18 dX5_places_6 ?_
    refine lv_icmp_ge (tgt := 18) E.1 E.2.1 dX5_places_9 (by decide) (fun c2 => ?_) (fun c2 => ?_)
    · have hf := q_pos c2 hf
      refine lv_iconst (v := 1) E.1 E.2.1 dX5_places_18 rfl ?_
      have hf := Option.some.inj hf
      subst hf
      exact q_zret E w hr hlk dX5_places_19
    · have hf := q_neg c2 hf
      refine lv_iload_n E.1 E.2.1 dX5_places_12 rfl (lv_at hl 1 rfl) ?_
      refine lv_bipush (v := 8) E.1 E.2.1 dX5_places_13 rfl ?_
      refine lv_icmp_lt (tgt := 20) E.1 E.2.1 dX5_places_15 (by decide) (fun c3 => ?_) (fun c3 => ?_)
      · have hf := q_pos c3 hf
        refine lv_aload_n E.1 E.2.1 dX5_places_20 rfl (lv_at hl 0 rfl) ?_
        refine q_gs E w 12 t_v0 fl_RX5_29 dX5_places_21 ?_
        refine lv_iload_n E.1 E.2.1 dX5_places_24 rfl (lv_at hl 1 rfl) ?_
        refine lv_iconst (v := (-1)) E.1 E.2.1 dX5_places_25 rfl ?_
        obtain ⟨b4, hf⟩ := q_if hf
        refine p_iast E w ((lay_5_4 t_v0).1) ((lay_5_4 t_v0).2) b4 dX5_places_26 (fun h5 H locs eh w => ?_)
        have hf := sq_e eh hf
        clear eh
        refine lv_aload_n E.1 E.2.1 dX5_places_27 rfl (lv_at hl 0 rfl) ?_
        refine q_gh E w t_v0 (by decide) fl_RX5_12 dX5_places_28 (fun t6 => ?_)
        refine lv_iload_n E.1 E.2.1 dX5_places_31 rfl (lv_at hl 1 rfl) ?_
        obtain ⟨r8, hc7, hf⟩ := bd1_e hf
        refine k_Vi (As := [.int v1]) (rest := []) E w t6 ⟨by decide, rfl⟩ (X1_sounds_c t6 hc7) mv_RX5_60 rfl rfl hl.1 ⟨Nat.le_trans (Nat.le_of_ble_eq_true rfl) (Nat.le_add_left 2 fr), Nat.le_trans (Nat.le_of_ble_eq_true rfl) (Nat.le_add_left 43 lo)⟩ (Nat.le_of_ble_eq_true rfl) ⟨Nat.le_refl _, Nat.le_refl _⟩ dX5_places_32 (fun H locs w => ?_)
        refine lv_if_ne (tgt := 46) E.1 E.2.1 dX5_places_35 (by decide) (fun c10 => ?_) (fun c10 => ?_)
        · have hf := q_neg c10 hf
          refine lv_aload_n E.1 E.2.1 dX5_places_46 rfl (lv_at hl 0 rfl) ?_
          refine q_gh E w t_v0 (by decide) fl_RX5_12 dX5_places_47 (fun t11 => ?_)
          refine q_gs E w 4 t11 fl_RX5_63 dX5_places_50 ?_
          refine lv_iload_n E.1 E.2.1 dX5_places_53 rfl (lv_at hl 1 rfl) ?_
          obtain ⟨r13, hc12, hf⟩ := bd1_e hf
          refine k_Ni (As := [.ref (ad G ((h5.2 v0) + 4)), .int v1]) (rest := []) E w (X10_at_c ((lay_1_8 t11).1) hc12) mn_RX5_45 rfl rfl hl.1 ⟨Nat.le_trans (Nat.le_of_ble_eq_true rfl) (Nat.le_add_left 2 fr), Nat.le_trans (Nat.le_of_ble_eq_true rfl) (Nat.le_add_left 43 lo)⟩ (Nat.le_of_ble_eq_true rfl) ⟨Nat.le_refl _, Nat.le_refl _⟩ dX5_places_54 (fun H locs w => ?_)
          refine lv_istore_n (lv' := [(2, .int r13), (0, .ref (ad G v0)), (1, .int v1)]) E.1 E.2.1 dX5_places_57 rfl hl (by decide) rfl (fun ls hl => ?_)
          refine lv_iconst (v := 0) E.1 E.2.1 dX5_places_58 rfl ?_
          refine lv_istore_n (lv' := [(3, .int 0), (2, .int r13), (0, .ref (ad G v0)), (1, .int v1)]) E.1 E.2.1 dX5_places_59 rfl hl (by decide) rfl (fun ls hl => ?_)
          exact X5_places_l60_w E hr hlk hF_X5_places N _ _ _ _ _ _ _ _ hf w t_v0 (lv_sub hl [2, 3, 1, 0] rfl)
        · have hf := q_pos c10 hf
          refine lv_aload_n E.1 E.2.1 dX5_places_38 rfl (lv_at hl 0 rfl) ?_
          refine lv_iload_n E.1 E.2.1 dX5_places_39 rfl (lv_at hl 1 rfl) ?_
          refine lv_iconst (v := 1) E.1 E.2.1 dX5_places_40 rfl ?_
          refine lv_iadd E.1 E.2.1 dX5_places_41 ?_
          obtain ⟨r38, h39, hc37, hf⟩ := bd2_e hf
          refine k_Vi (As := [.int (v1 + 1)]) (rest := []) E w t_v0 ⟨by decide, rfl⟩ (hF_X5_places _ _ _ _ hc37 t_v0) mv_RX5_53 rfl rfl hl.1 ⟨Nat.add_le_add_left (Nat.le_of_ble_eq_true rfl) fr, (by show 8 + (4 + 11) + lo ≤ lo + 43; omega)⟩ (Nat.le_of_ble_eq_true rfl) ⟨Nat.le_refl _, Nat.le_refl _⟩ dX5_places_42 (fun H locs w => ?_)
          have hf := Option.some.inj hf
          subst hf
          exact q_zret E w hr hlk dX5_places_45
      · have hf := q_neg c3 hf
        refine lv_iconst (v := 1) E.1 E.2.1 dX5_places_18 rfl ?_
        have hf := Option.some.inj hf
        subst hf
        exact q_zret E w hr hlk dX5_places_19

def X5_places_r (N : Nat) : Nat → HS → Nat → Int32 → Option (Int32 × HS)
  | 0 => (fun _ _ _ => none)
  | d + 1 => X5_places_B N (X5_places_r N d)

set_option maxRecDepth 4000 in
theorem X5_places_r_c {l : Launch} {G : GT} {N : Nat} : ∀ d : Nat, (∀ (h : HS) (v0 : Nat) (v1 : Int32) (z : (Int32 × HS)), (X5_places_r N d) h v0 v1 = some z → sh v0 = 5 → CT l G yX5_places cX5_places 4 (some .boolean) (2 * d) (43 * d) [.ref (ad G v0), .int v1] h (some (.int z.1)) z.2) := by
  intro d
  induction d with
  | zero =>
    exact (fun h v0 v1 z hf => by cases hf)
  | succ d ih =>
    exact (fun h v0 v1 z hf t0 => X5_places_B_c ih t0 hf)
def X5_places (N : Nat) (h : HS) (v0 : Nat) (v1 : Int32) : Option (Int32 × HS) := (X5_places_r N 12) h v0 v1
theorem X5_places_c {l : Launch} {G : GT} {N : Nat} {h : HS} {v0 : Nat} {v1 : Int32} {z : (Int32 × HS)} (tv0 : sh v0 = 5) (hf : X5_places N h v0 v1 = some z) : CT l G yX5_places cX5_places 4 (some .boolean) 24 516 [.ref (ad G v0), .int v1] h (some (.int z.1)) z.2 := (X5_places_r_c 12) _ _ _ _ hf tv0

def X5_fills (N : Nat) (h : HS) (v0 : Nat) (v1 : Int32) : Option (Int32 × HS) := bd2 (X5_prepares N h v0 v1) fun r2 h3 => (if r2 = 0 then some (nz 0, h3) else bd2 (X5_places N h3 v0 0) fun r6 h7 => (if r6 = 0 then some (nz 0, h7) else some (nz 1, h7)))
set_option maxRecDepth 4000 in
set_option maxHeartbeats 2000000 in
theorem X5_fills_c {l : Launch} {G : GT} {N : Nat} {h : HS} {v0 : Nat} {v1 : Int32} {z : (Int32 × HS)} (t_v0 : sh v0 = 5) (hf : X5_fills N h v0 v1 = some z) : CT l G yX5_fills cX5_fills 2 (some .boolean) 25 539 [.ref (ad G v0), .int v1] h (some (.int z.1)) z.2 := by
  unfold X5_fills at hf
  refine CT.of (by decide) (Nat.le_of_ble_eq_true rfl) ?_
  intro p e s m below meth c ls E hr hlk w hl
  have hl : lv_has ls 2 [(0, .ref (ad G v0)), (1, .int v1)] := hl
  refine lv_aload_n E.1 E.2.1 dX5_fills_0 rfl (lv_at hl 0 rfl) ?_
  refine lv_iload_n E.1 E.2.1 dX5_fills_1 rfl (lv_at hl 1 rfl) ?_
  obtain ⟨r2, h3, hc1, hf⟩ := bd2_e hf
  refine k_Vi (As := [.int v1]) (rest := []) E w t_v0 ⟨by decide, rfl⟩ (X5_prepares_c t_v0 hc1) mv_RX5_49 rfl rfl hl.1 ⟨Nat.le_of_ble_eq_true rfl, Nat.le_of_ble_eq_true rfl⟩ (Nat.le_of_ble_eq_true rfl) ⟨Nat.le_refl _, Nat.le_refl _⟩ dX5_fills_2 (fun H locs w => ?_)
  refine lv_if_eq (tgt := 20) E.1 E.2.1 dX5_fills_5 (by decide) (fun c4 => ?_) (fun c4 => ?_)
  · have hf := q_pos c4 hf
    refine lv_iconst (v := 0) E.1 E.2.1 dX5_fills_20 rfl ?_
    have hf := Option.some.inj hf
    subst hf
    exact q_zret E w hr hlk dX5_fills_21
  · have hf := q_neg c4 hf
    refine lv_aload_n E.1 E.2.1 dX5_fills_8 rfl (lv_at hl 0 rfl) ?_
    refine lv_iconst (v := 0) E.1 E.2.1 dX5_fills_9 rfl ?_
    obtain ⟨r6, h7, hc5, hf⟩ := bd2_e hf
    refine k_Vi (As := [.int 0]) (rest := []) E w t_v0 ⟨by decide, rfl⟩ (X5_places_c t_v0 hc5) mv_RX5_53 rfl rfl hl.1 ⟨Nat.le_of_ble_eq_true rfl, Nat.le_of_ble_eq_true rfl⟩ (Nat.le_of_ble_eq_true rfl) ⟨Nat.le_refl _, Nat.le_refl _⟩ dX5_fills_10 (fun H locs w => ?_)
    refine lv_if_eq (tgt := 20) E.1 E.2.1 dX5_fills_13 (by decide) (fun c8 => ?_) (fun c8 => ?_)
    · have hf := q_pos c8 hf
      refine lv_iconst (v := 0) E.1 E.2.1 dX5_fills_20 rfl ?_
      have hf := Option.some.inj hf
      subst hf
      exact q_zret E w hr hlk dX5_fills_21
    · have hf := q_neg c8 hf
      refine lv_iconst (v := 1) E.1 E.2.1 dX5_fills_16 rfl ?_
      refine lv_goto (tgt := 21) E.1 E.2.1 dX5_fills_17 (by decide) ?_
      have hf := Option.some.inj hf
      subst hf
      exact q_zret E w hr hlk dX5_fills_21

def X5_counts_l63 (N : Nat) (F_X5_counts : HS → Nat → Int32 → Option (Int32 × HS)) : Nat → HS → Nat → Int32 → Int32 → Int32 → Int32 → Option (Int32 × HS)
  | 0, _, _, _, _, _, _ => none
  | n + 1, h, v0, v1, v2, v3, v4 => (if (h.1 v0 2) ≤ v4 then some (v2, h) else (if (nI (ln (v0 + 11))) ≤ v4 then some (v2, h) else bd1 (X5_maySing N h v0 v4 v1) fun r18 => (if r18 = 0 then X5_counts_l63 N F_X5_counts n h v0 v1 v2 v3 (v4 + 1) else (if v1 < 0 ∨ 8 ≤ v1.toNatClampNeg then none else sq (wi h (v0 + 12) v1.toNatClampNeg v4) fun h22 => (if v4 < 0 ∨ 6 ≤ v4.toNatClampNeg then none else (if v4 < 0 ∨ 6 ≤ v4.toNatClampNeg then none else sq (wi h22 (v0 + 11) v4.toNatClampNeg ((h22.1 (v0 + 11) v4.toNatClampNeg) - v3)) fun h25 => bd2 (F_X5_counts h25 v0 (v1 + 1)) fun r27 h28 => (if v4 < 0 ∨ 6 ≤ v4.toNatClampNeg then none else (if v4 < 0 ∨ 6 ≤ v4.toNatClampNeg then none else sq (wi h28 (v0 + 11) v4.toNatClampNeg ((h28.1 (v0 + 11) v4.toNatClampNeg) + v3)) fun h31 => X5_counts_l63 N F_X5_counts n h31 v0 v1 (if (v2 + r27) < 999999 then (v2 + r27) else 999999) v3 (v4 + 1)))))))))
set_option maxRecDepth 4000 in
set_option maxHeartbeats 2000000 in
theorem X5_counts_l63_w {p : Program} {l : Launch} {e : Env} {s : State} {m : MethodId} {args : Array Value} {below : List Frame} {meth : Method} {c : Code} {G : GT} {N : Nat} {F_X5_counts : HS → Nat → Int32 → Option (Int32 × HS)} {fr lo : Nat} {z : (Int32 × HS)} (E : CallFix p m c cX5_counts 5 s args UW RX5) (hr : meth.sig.returnType = (some .int)) (hlk : meth.locks = false) (hF_X5_counts : ∀ (h : HS) (v0 : Nat) (v1 : Int32) (z : (Int32 × HS)), F_X5_counts h v0 v1 = some z → sh v0 = 5 → CT l G yX5_counts cX5_counts 5 (some .int) fr lo [.ref (ad G v0), .int v1] h (some (.int z.1)) z.2) : ∀ (n : Nat) (h : HS) (H : Heap) (locs : List Loc) (ls : Array Slot) (v0 : Nat) (v1 : Int32) (v2 : Int32) (v3 : Int32) (v4 : Int32), X5_counts_l63 N F_X5_counts n h v0 v1 v2 v3 v4 = some z → WD G s h H locs → sh v0 = 5 → lv_has ls 5 [(0, .ref (ad G v0)), (1, .int v1), (2, .int v2), (3, .int v3), (4, .int v4)] → W p l e ({ frames := fr + 2, cells := 0, slots := 0, locals := lo + 43 } : Room) s m args below meth c H locs 0 0 (MQ below (QC G (some (.int z.1)) z.2) args s 0 0 (AD G)) (F0 m 63 ls []) := by
  intro n
  induction n with
  | zero =>
    intro h H locs ls v0 v1 v2 v3 v4 hf
    cases hf
  | succ n ih =>
    intro h H locs ls v0 v1 v2 v3 v4 hf w t_v0 hl
    unfold X5_counts_l63 at hf
    refine lv_iload E.1 E.2.1 dX5_counts_63 (lv_at hl 4 rfl) ?_
    refine lv_aload_n E.1 E.2.1 dX5_counts_65 rfl (lv_at hl 0 rfl) ?_
    refine q_gi E w t_v0 fl_RX5_22 dX5_counts_66 ?_
    refine lv_icmp_ge (tgt := 143) E.1 E.2.1 dX5_counts_69 (by decide) (fun c15 => ?_) (fun c15 => ?_)
    · have hf := q_pos c15 hf
      refine lv_iload_n E.1 E.2.1 dX5_counts_143 rfl (lv_at hl 2 rfl) ?_
      have hf := Option.some.inj hf
      subst hf
      exact q_iret E w hr hlk dX5_counts_144
    · have hf := q_neg c15 hf
      refine lv_iload E.1 E.2.1 dX5_counts_72 (lv_at hl 4 rfl) ?_
      refine lv_aload_n E.1 E.2.1 dX5_counts_74 rfl (lv_at hl 0 rfl) ?_
      refine q_gs E w 11 t_v0 fl_RX5_25 dX5_counts_75 ?_
      refine q_alen (t := 1) E w ((lay_5_3 t_v0).1) (by decide) dX5_counts_78 ?_
      refine lv_icmp_ge (tgt := 143) E.1 E.2.1 dX5_counts_79 (by decide) (fun c16 => ?_) (fun c16 => ?_)
      · have hf := q_pos c16 hf
        refine lv_iload_n E.1 E.2.1 dX5_counts_143 rfl (lv_at hl 2 rfl) ?_
        have hf := Option.some.inj hf
        subst hf
        exact q_iret E w hr hlk dX5_counts_144
      · have hf := q_neg c16 hf
        refine lv_aload_n E.1 E.2.1 dX5_counts_82 rfl (lv_at hl 0 rfl) ?_
        refine lv_iload E.1 E.2.1 dX5_counts_83 (lv_at hl 4 rfl) ?_
        refine lv_iload_n E.1 E.2.1 dX5_counts_85 rfl (lv_at hl 1 rfl) ?_
        obtain ⟨r18, hc17, hf⟩ := bd1_e hf
        refine k_Vi (As := [.int v4, .int v1]) (rest := []) E w t_v0 ⟨by decide, rfl⟩ (X5_maySing_c t_v0 hc17) mv_RX5_77 rfl rfl hl.1 ⟨Nat.le_trans (Nat.le_of_ble_eq_true rfl) (Nat.le_add_left 2 fr), Nat.le_trans (Nat.le_of_ble_eq_true rfl) (Nat.le_add_left 43 lo)⟩ (Nat.le_of_ble_eq_true rfl) ⟨Nat.le_refl _, Nat.le_refl _⟩ dX5_counts_86 (fun H locs w => ?_)
        refine lv_if_eq (tgt := 137) E.1 E.2.1 dX5_counts_89 (by decide) (fun c20 => ?_) (fun c20 => ?_)
        · have hf := q_pos c20 hf
          refine lv_iinc (v := v4 + 1) (lv' := [(4, .int (v4 + 1)), (0, .ref (ad G v0)), (1, .int v1), (2, .int v2), (3, .int v3)]) E.1 E.2.1 dX5_counts_137 hl (k := 4) rfl rfl (by decide) rfl (fun ls hl => ?_)
          refine lv_goto (tgt := 63) E.1 E.2.1 dX5_counts_140 (by decide) ?_
          exact ih _ _ _ _ _ _ _ _ _ hf w t_v0 (lv_sub hl [1, 2, 3, 4, 0] rfl)
        · have hf := q_neg c20 hf
          refine lv_aload_n E.1 E.2.1 dX5_counts_92 rfl (lv_at hl 0 rfl) ?_
          refine q_gs E w 12 t_v0 fl_RX5_29 dX5_counts_93 ?_
          refine lv_iload_n E.1 E.2.1 dX5_counts_96 rfl (lv_at hl 1 rfl) ?_
          refine lv_iload E.1 E.2.1 dX5_counts_97 (lv_at hl 4 rfl) ?_
          obtain ⟨b21, hf⟩ := q_if hf
          refine p_iast E w ((lay_5_4 t_v0).1) ((lay_5_4 t_v0).2) b21 dX5_counts_99 (fun h22 H locs eh w => ?_)
          have hf := sq_e eh hf
          clear eh
          refine lv_aload_n E.1 E.2.1 dX5_counts_100 rfl (lv_at hl 0 rfl) ?_
          refine q_gs E w 11 t_v0 fl_RX5_25 dX5_counts_101 ?_
          refine lv_iload E.1 E.2.1 dX5_counts_104 (lv_at hl 4 rfl) ?_
          refine lv_dup2_11 E.1 E.2.1 dX5_counts_106 rfl rfl ?_
          obtain ⟨b23, hf⟩ := q_if hf
          refine q_iald E w ((lay_5_3 t_v0).1) ((lay_5_3 t_v0).2) b23 dX5_counts_107 ?_
          refine lv_iload_n E.1 E.2.1 dX5_counts_108 rfl (lv_at hl 3 rfl) ?_
          refine lv_isub E.1 E.2.1 dX5_counts_109 ?_
          obtain ⟨b24, hf⟩ := q_if hf
          refine p_iast E w ((lay_5_3 t_v0).1) ((lay_5_3 t_v0).2) b24 dX5_counts_110 (fun h25 H locs eh w => ?_)
          have hf := sq_e eh hf
          clear eh
          refine lv_ldc (v := 999999) E.1 E.2.1 E.2.2.2.1 (E.2.2.2.2 _ ct_RX5_84) dX5_counts_111 ?_
          refine lv_iload_n E.1 E.2.1 dX5_counts_113 rfl (lv_at hl 2 rfl) ?_
          refine lv_aload_n E.1 E.2.1 dX5_counts_114 rfl (lv_at hl 0 rfl) ?_
          refine lv_iload_n E.1 E.2.1 dX5_counts_115 rfl (lv_at hl 1 rfl) ?_
          refine lv_iconst (v := 1) E.1 E.2.1 dX5_counts_116 rfl ?_
          refine lv_iadd E.1 E.2.1 dX5_counts_117 ?_
          obtain ⟨r27, h28, hc26, hf⟩ := bd2_e hf
          refine k_Vi (As := [.int (v1 + 1)]) (rest := [.int v2, .int 999999]) E w t_v0 ⟨by decide, rfl⟩ (hF_X5_counts _ _ _ _ hc26 t_v0) mv_RX5_80 rfl rfl hl.1 ⟨Nat.add_le_add_left (Nat.le_of_ble_eq_true rfl) fr, (by show 8 + (5 + 11) + lo ≤ lo + 43; omega)⟩ (Nat.le_of_ble_eq_true rfl) ⟨Nat.le_refl _, Nat.le_refl _⟩ dX5_counts_118 (fun H locs w => ?_)
          refine lv_iadd E.1 E.2.1 dX5_counts_121 ?_
          refine q_min E mm_RX5_36 hl.1 ⟨Nat.le_trans (Nat.le_of_ble_eq_true rfl) (Nat.le_add_left 2 fr), Nat.le_trans (Nat.le_of_ble_eq_true rfl) (Nat.le_add_left 43 lo)⟩ ⟨Nat.le_refl _, Nat.le_refl _⟩ dX5_counts_122 ?_
          refine lv_istore_n (lv' := [(2, .int (if (v2 + r27) < 999999 then (v2 + r27) else 999999)), (0, .ref (ad G v0)), (1, .int v1), (3, .int v3), (4, .int v4)]) E.1 E.2.1 dX5_counts_125 rfl hl (by decide) rfl (fun ls hl => ?_)
          refine lv_aload_n E.1 E.2.1 dX5_counts_126 rfl (lv_at hl 1 rfl) ?_
          refine q_gs E w 11 t_v0 fl_RX5_25 dX5_counts_127 ?_
          refine lv_iload E.1 E.2.1 dX5_counts_130 (lv_at hl 4 rfl) ?_
          refine lv_dup2_11 E.1 E.2.1 dX5_counts_132 rfl rfl ?_
          obtain ⟨b29, hf⟩ := q_if hf
          refine q_iald E w ((lay_5_3 t_v0).1) ((lay_5_3 t_v0).2) b29 dX5_counts_133 ?_
          refine lv_iload_n E.1 E.2.1 dX5_counts_134 rfl (lv_at hl 3 rfl) ?_
          refine lv_iadd E.1 E.2.1 dX5_counts_135 ?_
          obtain ⟨b30, hf⟩ := q_if hf
          refine p_iast E w ((lay_5_3 t_v0).1) ((lay_5_3 t_v0).2) b30 dX5_counts_136 (fun h31 H locs eh w => ?_)
          have hf := sq_e eh hf
          clear eh
          refine lv_iinc (v := v4 + 1) (lv' := [(4, .int (v4 + 1)), (2, .int (if (v2 + r27) < 999999 then (v2 + r27) else 999999)), (0, .ref (ad G v0)), (1, .int v1), (3, .int v3)]) E.1 E.2.1 dX5_counts_137 hl (k := 4) rfl rfl (by decide) rfl (fun ls hl => ?_)
          refine lv_goto (tgt := 63) E.1 E.2.1 dX5_counts_140 (by decide) ?_
          exact ih _ _ _ _ _ _ _ _ _ hf w t_v0 (lv_sub hl [2, 3, 1, 4, 0] rfl)

def X5_counts_B (N : Nat) (F_X5_counts : HS → Nat → Int32 → Option (Int32 × HS)) (h : HS) (v0 : Nat) (v1 : Int32) : Option (Int32 × HS) := (if v1 < 0 then some (1, h) else (if (h.1 v0 1) ≤ v1 then some (1, h) else (if v1 < (8 : Int32) then (if v1 < 0 ∨ 8 ≤ v1.toNatClampNeg then none else sq (wi h (v0 + 12) v1.toNatClampNeg (-1)) fun h5 => bd1 (X1_sounds N h5 (h5.2 v0) v1) fun r8 => (if r8 = 0 then bd2 (F_X5_counts h5 v0 (v1 + 1)) fun r33 h34 => some (r33, h34) else bd1 (X10_at N h5 ((h5.2 v0) + 4) v1) fun r13 => X5_counts_l63 N F_X5_counts N h5 v0 v1 0 r13 0)) else some (1, h))))
set_option maxRecDepth 4000 in
set_option maxHeartbeats 2000000 in
theorem X5_counts_B_c {l : Launch} {G : GT} {N : Nat} {F_X5_counts : HS → Nat → Int32 → Option (Int32 × HS)} {fr lo : Nat} (hF_X5_counts : ∀ (h : HS) (v0 : Nat) (v1 : Int32) (z : (Int32 × HS)), F_X5_counts h v0 v1 = some z → sh v0 = 5 → CT l G yX5_counts cX5_counts 5 (some .int) fr lo [.ref (ad G v0), .int v1] h (some (.int z.1)) z.2) {h : HS} {v0 : Nat} {v1 : Int32} {z : (Int32 × HS)} (t_v0 : sh v0 = 5) (hf : X5_counts_B N F_X5_counts h v0 v1 = some z) : CT l G yX5_counts cX5_counts 5 (some .int) (fr + 2) (lo + 43) [.ref (ad G v0), .int v1] h (some (.int z.1)) z.2 := by
  unfold X5_counts_B at hf
  refine CT.of (by decide) (Nat.le_of_ble_eq_true rfl) ?_
  intro p e s m below meth c ls E hr hlk w hl
  have hl : lv_has ls 5 [(0, .ref (ad G v0)), (1, .int v1)] := hl
  refine lv_iload_n E.1 E.2.1 dX5_counts_0 rfl (lv_at hl 1 rfl) ?_
  refine lv_if_lt (tgt := 18) E.1 E.2.1 dX5_counts_1 (by decide) (fun c1 => ?_) (fun c1 => ?_)
  · have hf := q_pos c1 hf
    refine lv_iconst (v := 1) E.1 E.2.1 dX5_counts_18 rfl ?_
    have hf := Option.some.inj hf
    subst hf
    exact q_iret E w hr hlk dX5_counts_19
  · have hf := q_neg c1 hf
    refine lv_iload_n E.1 E.2.1 dX5_counts_4 rfl (lv_at hl 1 rfl) ?_
    refine lv_aload_n E.1 E.2.1 dX5_counts_5 rfl (lv_at hl 0 rfl) ?_
    refine q_gi E w t_v0 fl_RX5_18 dX5_counts_6 ?_
    refine lv_icmp_ge (tgt := 18) E.1 E.2.1 dX5_counts_9 (by decide) (fun c2 => ?_) (fun c2 => ?_)
    · have hf := q_pos c2 hf
      refine lv_iconst (v := 1) E.1 E.2.1 dX5_counts_18 rfl ?_
      have hf := Option.some.inj hf
      subst hf
      exact q_iret E w hr hlk dX5_counts_19
    · have hf := q_neg c2 hf
      refine lv_iload_n E.1 E.2.1 dX5_counts_12 rfl (lv_at hl 1 rfl) ?_
      refine lv_bipush (v := 8) E.1 E.2.1 dX5_counts_13 rfl ?_
      refine lv_icmp_lt (tgt := 20) E.1 E.2.1 dX5_counts_15 (by decide) (fun c3 => ?_) (fun c3 => ?_)
      · have hf := q_pos c3 hf
        refine lv_aload_n E.1 E.2.1 dX5_counts_20 rfl (lv_at hl 0 rfl) ?_
        refine q_gs E w 12 t_v0 fl_RX5_29 dX5_counts_21 ?_
        refine lv_iload_n E.1 E.2.1 dX5_counts_24 rfl (lv_at hl 1 rfl) ?_
        refine lv_iconst (v := (-1)) E.1 E.2.1 dX5_counts_25 rfl ?_
        obtain ⟨b4, hf⟩ := q_if hf
        refine p_iast E w ((lay_5_4 t_v0).1) ((lay_5_4 t_v0).2) b4 dX5_counts_26 (fun h5 H locs eh w => ?_)
        have hf := sq_e eh hf
        clear eh
        refine lv_aload_n E.1 E.2.1 dX5_counts_27 rfl (lv_at hl 0 rfl) ?_
        refine q_gh E w t_v0 (by decide) fl_RX5_12 dX5_counts_28 (fun t6 => ?_)
        refine lv_iload_n E.1 E.2.1 dX5_counts_31 rfl (lv_at hl 1 rfl) ?_
        obtain ⟨r8, hc7, hf⟩ := bd1_e hf
        refine k_Vi (As := [.int v1]) (rest := []) E w t6 ⟨by decide, rfl⟩ (X1_sounds_c t6 hc7) mv_RX5_60 rfl rfl hl.1 ⟨Nat.le_trans (Nat.le_of_ble_eq_true rfl) (Nat.le_add_left 2 fr), Nat.le_trans (Nat.le_of_ble_eq_true rfl) (Nat.le_add_left 43 lo)⟩ (Nat.le_of_ble_eq_true rfl) ⟨Nat.le_refl _, Nat.le_refl _⟩ dX5_counts_32 (fun H locs w => ?_)
        refine lv_if_ne (tgt := 46) E.1 E.2.1 dX5_counts_35 (by decide) (fun c10 => ?_) (fun c10 => ?_)
        · have hf := q_neg c10 hf
          refine lv_iconst (v := 0) E.1 E.2.1 dX5_counts_46 rfl ?_
          refine lv_istore_n (lv' := [(2, .int 0), (0, .ref (ad G v0)), (1, .int v1)]) E.1 E.2.1 dX5_counts_47 rfl hl (by decide) rfl (fun ls hl => ?_)
          refine lv_aload_n E.1 E.2.1 dX5_counts_48 rfl (lv_at hl 1 rfl) ?_
          refine q_gh E w t_v0 (by decide) fl_RX5_12 dX5_counts_49 (fun t11 => ?_)
          refine q_gs E w 4 t11 fl_RX5_63 dX5_counts_52 ?_
          refine lv_iload_n E.1 E.2.1 dX5_counts_55 rfl (lv_at hl 2 rfl) ?_
          obtain ⟨r13, hc12, hf⟩ := bd1_e hf
          refine k_Ni (As := [.ref (ad G ((h5.2 v0) + 4)), .int v1]) (rest := []) E w (X10_at_c ((lay_1_8 t11).1) hc12) mn_RX5_45 rfl rfl hl.1 ⟨Nat.le_trans (Nat.le_of_ble_eq_true rfl) (Nat.le_add_left 2 fr), Nat.le_trans (Nat.le_of_ble_eq_true rfl) (Nat.le_add_left 43 lo)⟩ (Nat.le_of_ble_eq_true rfl) ⟨Nat.le_refl _, Nat.le_refl _⟩ dX5_counts_56 (fun H locs w => ?_)
          refine lv_istore_n (lv' := [(3, .int r13), (2, .int 0), (0, .ref (ad G v0)), (1, .int v1)]) E.1 E.2.1 dX5_counts_59 rfl hl (by decide) rfl (fun ls hl => ?_)
          refine lv_iconst (v := 0) E.1 E.2.1 dX5_counts_60 rfl ?_
          refine lv_istore (lv' := [(4, .int 0), (3, .int r13), (2, .int 0), (0, .ref (ad G v0)), (1, .int v1)]) E.1 E.2.1 dX5_counts_61 hl (by decide) rfl (fun ls hl => ?_)
          exact X5_counts_l63_w E hr hlk hF_X5_counts N _ _ _ _ _ _ _ _ _ hf w t_v0 (lv_sub hl [3, 4, 2, 1, 0] rfl)
        · have hf := q_pos c10 hf
          refine lv_aload_n E.1 E.2.1 dX5_counts_38 rfl (lv_at hl 0 rfl) ?_
          refine lv_iload_n E.1 E.2.1 dX5_counts_39 rfl (lv_at hl 1 rfl) ?_
          refine lv_iconst (v := 1) E.1 E.2.1 dX5_counts_40 rfl ?_
          refine lv_iadd E.1 E.2.1 dX5_counts_41 ?_
          obtain ⟨r33, h34, hc32, hf⟩ := bd2_e hf
          refine k_Vi (As := [.int (v1 + 1)]) (rest := []) E w t_v0 ⟨by decide, rfl⟩ (hF_X5_counts _ _ _ _ hc32 t_v0) mv_RX5_80 rfl rfl hl.1 ⟨Nat.add_le_add_left (Nat.le_of_ble_eq_true rfl) fr, (by show 8 + (5 + 11) + lo ≤ lo + 43; omega)⟩ (Nat.le_of_ble_eq_true rfl) ⟨Nat.le_refl _, Nat.le_refl _⟩ dX5_counts_42 (fun H locs w => ?_)
          have hf := Option.some.inj hf
          subst hf
          exact q_iret E w hr hlk dX5_counts_45
      · have hf := q_neg c3 hf
        refine lv_iconst (v := 1) E.1 E.2.1 dX5_counts_18 rfl ?_
        have hf := Option.some.inj hf
        subst hf
        exact q_iret E w hr hlk dX5_counts_19

def X5_counts_r (N : Nat) : Nat → HS → Nat → Int32 → Option (Int32 × HS)
  | 0 => (fun _ _ _ => none)
  | d + 1 => X5_counts_B N (X5_counts_r N d)

set_option maxRecDepth 4000 in
theorem X5_counts_r_c {l : Launch} {G : GT} {N : Nat} : ∀ d : Nat, (∀ (h : HS) (v0 : Nat) (v1 : Int32) (z : (Int32 × HS)), (X5_counts_r N d) h v0 v1 = some z → sh v0 = 5 → CT l G yX5_counts cX5_counts 5 (some .int) (2 * d) (43 * d) [.ref (ad G v0), .int v1] h (some (.int z.1)) z.2) := by
  intro d
  induction d with
  | zero =>
    exact (fun h v0 v1 z hf => by cases hf)
  | succ d ih =>
    exact (fun h v0 v1 z hf t0 => X5_counts_B_c ih t0 hf)
def X5_counts (N : Nat) (h : HS) (v0 : Nat) (v1 : Int32) : Option (Int32 × HS) := (X5_counts_r N 12) h v0 v1
theorem X5_counts_c {l : Launch} {G : GT} {N : Nat} {h : HS} {v0 : Nat} {v1 : Int32} {z : (Int32 × HS)} (tv0 : sh v0 = 5) (hf : X5_counts N h v0 v1 = some z) : CT l G yX5_counts cX5_counts 5 (some .int) 24 516 [.ref (ad G v0), .int v1] h (some (.int z.1)) z.2 := (X5_counts_r_c 12) _ _ _ _ hf tv0

def X5_finds (N : Nat) (h : HS) (v0 : Nat) (v1 : Nat) : Option (Int32 × HS) := bd1 (X5_seat N h v0 v1 0 20) fun h3 => bd2 (X5_fills N h3 v0 8) fun r5 h6 => some (nz r5, h6)
set_option maxRecDepth 4000 in
set_option maxHeartbeats 2000000 in
theorem X5_finds_c {l : Launch} {G : GT} {N : Nat} {h : HS} {v0 : Nat} {v1 : Nat} {z : (Int32 × HS)} (t_v0 : sh v0 = 5) (t_v1 : sh v1 = 1) (hf : X5_finds N h v0 v1 = some z) : CT l G yX5_finds cX5_finds 2 (some .boolean) 26 560 [.ref (ad G v0), .ref (ad G v1)] h (some (.int z.1)) z.2 := by
  unfold X5_finds at hf
  refine CT.of (by decide) (Nat.le_of_ble_eq_true rfl) ?_
  intro p e s m below meth c ls E hr hlk w hl
  have hl : lv_has ls 2 [(0, .ref (ad G v0)), (1, .ref (ad G v1))] := hl
  refine lv_aload_n E.1 E.2.1 dX5_finds_0 rfl (lv_at hl 0 rfl) ?_
  refine lv_aload_n E.1 E.2.1 dX5_finds_1 rfl (lv_at hl 1 rfl) ?_
  refine lv_iconst (v := 0) E.1 E.2.1 dX5_finds_2 rfl ?_
  refine lv_bipush (v := 20) E.1 E.2.1 dX5_finds_3 rfl ?_
  obtain ⟨h3, hc1, hf⟩ := bd1_e hf
  refine k_Vv (As := [.ref (ad G v1), .int 0, .int 20]) (rest := []) E w t_v0 ⟨by decide, rfl⟩ (X5_seat_c t_v0 t_v1 hc1) mv_RX5_85 rfl rfl hl.1 ⟨Nat.le_of_ble_eq_true rfl, Nat.le_of_ble_eq_true rfl⟩ (Nat.le_of_ble_eq_true rfl) ⟨Nat.le_refl _, Nat.le_refl _⟩ dX5_finds_5 (fun H locs w => ?_)
  refine lv_aload_n E.1 E.2.1 dX5_finds_8 rfl (lv_at hl 0 rfl) ?_
  refine lv_bipush (v := 8) E.1 E.2.1 dX5_finds_9 rfl ?_
  obtain ⟨r5, h6, hc4, hf⟩ := bd2_e hf
  refine k_Vi (As := [.int 8]) (rest := []) E w t_v0 ⟨by decide, rfl⟩ (X5_fills_c t_v0 hc4) mv_RX5_89 rfl rfl hl.1 ⟨Nat.le_of_ble_eq_true rfl, Nat.le_of_ble_eq_true rfl⟩ (Nat.le_of_ble_eq_true rfl) ⟨Nat.le_refl _, Nat.le_refl _⟩ dX5_finds_11 (fun H locs w => ?_)
  have hf := Option.some.inj hf
  subst hf
  exact q_zret E w hr hlk dX5_finds_14

def X5_all (N : Nat) (h : HS) (v0 : Nat) (v1 : Nat) : Option (Int32 × HS) := bd1 (X5_seat N h v0 v1 0 20) fun h3 => bd2 (X5_prepares N h3 v0 8) fun r5 h6 => (if r5 = 0 then some (0, h6) else bd2 (X5_counts N h6 v0 0) fun r9 h10 => some (r9, h10))
set_option maxRecDepth 4000 in
set_option maxHeartbeats 2000000 in
theorem X5_all_c {l : Launch} {G : GT} {N : Nat} {h : HS} {v0 : Nat} {v1 : Nat} {z : (Int32 × HS)} (t_v0 : sh v0 = 5) (t_v1 : sh v1 = 1) (hf : X5_all N h v0 v1 = some z) : CT l G yX5_all cX5_all 2 (some .int) 25 540 [.ref (ad G v0), .ref (ad G v1)] h (some (.int z.1)) z.2 := by
  unfold X5_all at hf
  refine CT.of (by decide) (Nat.le_of_ble_eq_true rfl) ?_
  intro p e s m below meth c ls E hr hlk w hl
  have hl : lv_has ls 2 [(0, .ref (ad G v0)), (1, .ref (ad G v1))] := hl
  refine lv_aload_n E.1 E.2.1 dX5_all_0 rfl (lv_at hl 0 rfl) ?_
  refine lv_aload_n E.1 E.2.1 dX5_all_1 rfl (lv_at hl 1 rfl) ?_
  refine lv_iconst (v := 0) E.1 E.2.1 dX5_all_2 rfl ?_
  refine lv_bipush (v := 20) E.1 E.2.1 dX5_all_3 rfl ?_
  obtain ⟨h3, hc1, hf⟩ := bd1_e hf
  refine k_Vv (As := [.ref (ad G v1), .int 0, .int 20]) (rest := []) E w t_v0 ⟨by decide, rfl⟩ (X5_seat_c t_v0 t_v1 hc1) mv_RX5_85 rfl rfl hl.1 ⟨Nat.le_of_ble_eq_true rfl, Nat.le_of_ble_eq_true rfl⟩ (Nat.le_of_ble_eq_true rfl) ⟨Nat.le_refl _, Nat.le_refl _⟩ dX5_all_5 (fun H locs w => ?_)
  refine lv_aload_n E.1 E.2.1 dX5_all_8 rfl (lv_at hl 0 rfl) ?_
  refine lv_bipush (v := 8) E.1 E.2.1 dX5_all_9 rfl ?_
  obtain ⟨r5, h6, hc4, hf⟩ := bd2_e hf
  refine k_Vi (As := [.int 8]) (rest := []) E w t_v0 ⟨by decide, rfl⟩ (X5_prepares_c t_v0 hc4) mv_RX5_49 rfl rfl hl.1 ⟨Nat.le_of_ble_eq_true rfl, Nat.le_of_ble_eq_true rfl⟩ (Nat.le_of_ble_eq_true rfl) ⟨Nat.le_refl _, Nat.le_refl _⟩ dX5_all_11 (fun H locs w => ?_)
  refine lv_if_eq (tgt := 25) E.1 E.2.1 dX5_all_14 (by decide) (fun c7 => ?_) (fun c7 => ?_)
  · have hf := q_pos c7 hf
    refine lv_iconst (v := 0) E.1 E.2.1 dX5_all_25 rfl ?_
    have hf := Option.some.inj hf
    subst hf
    exact q_iret E w hr hlk dX5_all_26
  · have hf := q_neg c7 hf
    refine lv_aload_n E.1 E.2.1 dX5_all_17 rfl (lv_at hl 0 rfl) ?_
    refine lv_iconst (v := 0) E.1 E.2.1 dX5_all_18 rfl ?_
    obtain ⟨r9, h10, hc8, hf⟩ := bd2_e hf
    refine k_Vi (As := [.int 0]) (rest := []) E w t_v0 ⟨by decide, rfl⟩ (X5_counts_c t_v0 hc8) mv_RX5_80 rfl rfl hl.1 ⟨Nat.le_of_ble_eq_true rfl, Nat.le_of_ble_eq_true rfl⟩ (Nat.le_of_ble_eq_true rfl) ⟨Nat.le_refl _, Nat.le_refl _⟩ dX5_all_19 (fun H locs w => ?_)
    refine lv_goto (tgt := 26) E.1 E.2.1 dX5_all_22 (by decide) ?_
    have hf := Option.some.inj hf
    subst hf
    exact q_iret E w hr hlk dX5_all_26

def X5_singerOf (N : Nat) (h : HS) (v0 : Nat) (v1 : Int32) : Option Int32 := bd1 (X1_sounds N h (h.2 v0) v1) fun r3 => (if r3 = 0 then some 5 else bd1 (X10_at N h (v0 + 12) v1) fun r7 => some r7)
set_option maxRecDepth 4000 in
set_option maxHeartbeats 2000000 in
theorem X5_singerOf_c {l : Launch} {G : GT} {N : Nat} {h : HS} {v0 : Nat} {v1 : Int32} {z : Int32} (t_v0 : sh v0 = 5) (hf : X5_singerOf N h v0 v1 = some z) : CT l G yX5_singerOf cX5_singerOf 2 (some .int) 2 42 [.ref (ad G v0), .int v1] h (some (.int z)) h := by
  unfold X5_singerOf at hf
  refine CT.of (by decide) (Nat.le_of_ble_eq_true rfl) ?_
  intro p e s m below meth c ls E hr hlk w hl
  have hl : lv_has ls 2 [(0, .ref (ad G v0)), (1, .int v1)] := hl
  refine lv_aload_n E.1 E.2.1 dX5_singerOf_0 rfl (lv_at hl 0 rfl) ?_
  refine q_gh E w t_v0 (by decide) fl_RX5_12 dX5_singerOf_1 (fun t1 => ?_)
  refine lv_iload_n E.1 E.2.1 dX5_singerOf_4 rfl (lv_at hl 1 rfl) ?_
  obtain ⟨r3, hc2, hf⟩ := bd1_e hf
  refine k_Vi (As := [.int v1]) (rest := []) E w t1 ⟨by decide, rfl⟩ (X1_sounds_c t1 hc2) mv_RX5_60 rfl rfl hl.1 ⟨Nat.le_of_ble_eq_true rfl, Nat.le_of_ble_eq_true rfl⟩ (Nat.le_of_ble_eq_true rfl) ⟨Nat.le_refl _, Nat.le_refl _⟩ dX5_singerOf_5 (fun H locs w => ?_)
  refine lv_if_eq (tgt := 22) E.1 E.2.1 dX5_singerOf_8 (by decide) (fun c5 => ?_) (fun c5 => ?_)
  · have hf := q_pos c5 hf
    refine lv_iconst (v := 5) E.1 E.2.1 dX5_singerOf_22 rfl ?_
    have hf := Option.some.inj hf
    subst hf
    exact q_iret E w hr hlk dX5_singerOf_23
  · have hf := q_neg c5 hf
    refine lv_aload_n E.1 E.2.1 dX5_singerOf_11 rfl (lv_at hl 0 rfl) ?_
    refine q_gs E w 12 t_v0 fl_RX5_29 dX5_singerOf_12 ?_
    refine lv_iload_n E.1 E.2.1 dX5_singerOf_15 rfl (lv_at hl 1 rfl) ?_
    obtain ⟨r7, hc6, hf⟩ := bd1_e hf
    refine k_Ni (As := [.ref (ad G (v0 + 12)), .int v1]) (rest := []) E w (X10_at_c ((lay_5_4 t_v0).1) hc6) mn_RX5_45 rfl rfl hl.1 ⟨Nat.le_of_ble_eq_true rfl, Nat.le_of_ble_eq_true rfl⟩ (Nat.le_of_ble_eq_true rfl) ⟨Nat.le_refl _, Nat.le_refl _⟩ dX5_singerOf_16 (fun H locs w => ?_)
    refine lv_goto (tgt := 23) E.1 E.2.1 dX5_singerOf_19 (by decide) ?_
    have hf := Option.some.inj hf
    subst hf
    exact q_iret E w hr hlk dX5_singerOf_23

def X5_barsOf_l4 (N : Nat) (h : HS) : Nat → Nat → Int32 → Int32 → Int32 → Option Int32
  | 0, _, _, _, _ => none
  | n + 1, v0, v1, v2, v3 => (if (h.1 v0 1) ≤ v3 then some v2 else bd1 (X10_at N h (v0 + 12) v3) fun r3 => (if r3 = v1 then X5_barsOf_l4 N h n v0 v1 (v2 + 1) (v3 + 1) else X5_barsOf_l4 N h n v0 v1 v2 (v3 + 1)))
set_option maxRecDepth 4000 in
set_option maxHeartbeats 2000000 in
theorem X5_barsOf_l4_w {p : Program} {l : Launch} {e : Env} {s : State} {m : MethodId} {args : Array Value} {below : List Frame} {meth : Method} {c : Code} {G : GT} {N : Nat} {h : HS} {z : Int32} (E : CallFix p m c cX5_barsOf 4 s args UW RX5) (hr : meth.sig.returnType = (some .int)) (hlk : meth.locks = false) : ∀ (n : Nat) (H : Heap) (locs : List Loc) (ls : Array Slot) (v0 : Nat) (v1 : Int32) (v2 : Int32) (v3 : Int32), X5_barsOf_l4 N h n v0 v1 v2 v3 = some z → WD G s h H locs → sh v0 = 5 → lv_has ls 4 [(0, .ref (ad G v0)), (1, .int v1), (2, .int v2), (3, .int v3)] → W p l e ({ frames := 1, cells := 0, slots := 0, locals := 21 } : Room) s m args below meth c H locs 0 0 (MQ below (QC G (some (.int z)) h) args s 0 0 (AD G)) (F0 m 4 ls []) := by
  intro n
  induction n with
  | zero =>
    intro H locs ls v0 v1 v2 v3 hf
    cases hf
  | succ n ih =>
    intro H locs ls v0 v1 v2 v3 hf w t_v0 hl
    unfold X5_barsOf_l4 at hf
    refine lv_iload_n E.1 E.2.1 dX5_barsOf_4 rfl (lv_at hl 3 rfl) ?_
    refine lv_aload_n E.1 E.2.1 dX5_barsOf_5 rfl (lv_at hl 0 rfl) ?_
    refine q_gi E w t_v0 fl_RX5_18 dX5_barsOf_6 ?_
    refine lv_icmp_ge (tgt := 33) E.1 E.2.1 dX5_barsOf_9 (by decide) (fun c1 => ?_) (fun c1 => ?_)
    · have hf := q_pos c1 hf
      refine lv_iload_n E.1 E.2.1 dX5_barsOf_33 rfl (lv_at hl 2 rfl) ?_
      have hf := Option.some.inj hf
      subst hf
      exact q_iret E w hr hlk dX5_barsOf_34
    · have hf := q_neg c1 hf
      refine lv_aload_n E.1 E.2.1 dX5_barsOf_12 rfl (lv_at hl 0 rfl) ?_
      refine q_gs E w 12 t_v0 fl_RX5_29 dX5_barsOf_13 ?_
      refine lv_iload_n E.1 E.2.1 dX5_barsOf_16 rfl (lv_at hl 3 rfl) ?_
      obtain ⟨r3, hc2, hf⟩ := bd1_e hf
      refine k_Ni (As := [.ref (ad G (v0 + 12)), .int v3]) (rest := []) E w (X10_at_c ((lay_5_4 t_v0).1) hc2) mn_RX5_45 rfl rfl hl.1 ⟨Nat.le_of_ble_eq_true rfl, Nat.le_of_ble_eq_true rfl⟩ (Nat.le_of_ble_eq_true rfl) ⟨Nat.le_refl _, Nat.le_refl _⟩ dX5_barsOf_17 (fun H locs w => ?_)
      refine lv_iload_n E.1 E.2.1 dX5_barsOf_20 rfl (lv_at hl 1 rfl) ?_
      refine lv_icmp_ne (tgt := 27) E.1 E.2.1 dX5_barsOf_21 (by decide) (fun c5 => ?_) (fun c5 => ?_)
      · have hf := q_neg c5 hf
        refine lv_iinc (v := v3 + 1) (lv' := [(3, .int (v3 + 1)), (0, .ref (ad G v0)), (1, .int v1), (2, .int v2)]) E.1 E.2.1 dX5_barsOf_27 hl (k := 3) rfl rfl (by decide) rfl (fun ls hl => ?_)
        refine lv_goto (tgt := 4) E.1 E.2.1 dX5_barsOf_30 (by decide) ?_
        exact ih _ _ _ _ _ _ _ hf w t_v0 (lv_sub hl [1, 2, 3, 0] rfl)
      · have hf := q_pos c5 hf
        refine lv_iinc (v := v2 + 1) (lv' := [(2, .int (v2 + 1)), (0, .ref (ad G v0)), (1, .int v1), (3, .int v3)]) E.1 E.2.1 dX5_barsOf_24 hl (k := 2) rfl rfl (by decide) rfl (fun ls hl => ?_)
        refine lv_iinc (v := v3 + 1) (lv' := [(3, .int (v3 + 1)), (2, .int (v2 + 1)), (0, .ref (ad G v0)), (1, .int v1)]) E.1 E.2.1 dX5_barsOf_27 hl (k := 3) rfl rfl (by decide) rfl (fun ls hl => ?_)
        refine lv_goto (tgt := 4) E.1 E.2.1 dX5_barsOf_30 (by decide) ?_
        exact ih _ _ _ _ _ _ _ hf w t_v0 (lv_sub hl [2, 3, 1, 0] rfl)

def X5_barsOf (N : Nat) (h : HS) (v0 : Nat) (v1 : Int32) : Option Int32 := X5_barsOf_l4 N h N v0 v1 0 0
set_option maxRecDepth 4000 in
set_option maxHeartbeats 2000000 in
theorem X5_barsOf_c {l : Launch} {G : GT} {N : Nat} {h : HS} {v0 : Nat} {v1 : Int32} {z : Int32} (t_v0 : sh v0 = 5) (hf : X5_barsOf N h v0 v1 = some z) : CT l G yX5_barsOf cX5_barsOf 4 (some .int) 1 21 [.ref (ad G v0), .int v1] h (some (.int z)) h := by
  unfold X5_barsOf at hf
  refine CT.of (by decide) (Nat.le_of_ble_eq_true rfl) ?_
  intro p e s m below meth c ls E hr hlk w hl
  have hl : lv_has ls 4 [(0, .ref (ad G v0)), (1, .int v1)] := hl
  refine lv_iconst (v := 0) E.1 E.2.1 dX5_barsOf_0 rfl ?_
  refine lv_istore_n (lv' := [(2, .int 0), (0, .ref (ad G v0)), (1, .int v1)]) E.1 E.2.1 dX5_barsOf_1 rfl hl (by decide) rfl (fun ls hl => ?_)
  refine lv_iconst (v := 0) E.1 E.2.1 dX5_barsOf_2 rfl ?_
  refine lv_istore_n (lv' := [(3, .int 0), (2, .int 0), (0, .ref (ad G v0)), (1, .int v1)]) E.1 E.2.1 dX5_barsOf_3 rfl hl (by decide) rfl (fun ls hl => ?_)
  exact X5_barsOf_l4_w E hr hlk N _ _ _ _ _ _ _ hf w t_v0 (lv_sub hl [2, 3, 1, 0] rfl)

def X5_breathOf (N : Nat) (h : HS) (v0 : Nat) (v1 : Int32) : Option Int32 := bd1 (X10_at N h (v0 + 11) v1) fun r2 => some r2
set_option maxRecDepth 4000 in
set_option maxHeartbeats 2000000 in
theorem X5_breathOf_c {l : Launch} {G : GT} {N : Nat} {h : HS} {v0 : Nat} {v1 : Int32} {z : Int32} (t_v0 : sh v0 = 5) (hf : X5_breathOf N h v0 v1 = some z) : CT l G yX5_breathOf cX5_breathOf 2 (some .int) 1 21 [.ref (ad G v0), .int v1] h (some (.int z)) h := by
  unfold X5_breathOf at hf
  refine CT.of (by decide) (Nat.le_of_ble_eq_true rfl) ?_
  intro p e s m below meth c ls E hr hlk w hl
  have hl : lv_has ls 2 [(0, .ref (ad G v0)), (1, .int v1)] := hl
  refine lv_aload_n E.1 E.2.1 dX5_breathOf_0 rfl (lv_at hl 0 rfl) ?_
  refine q_gs E w 11 t_v0 fl_RX5_25 dX5_breathOf_1 ?_
  refine lv_iload_n E.1 E.2.1 dX5_breathOf_4 rfl (lv_at hl 1 rfl) ?_
  obtain ⟨r2, hc1, hf⟩ := bd1_e hf
  refine k_Ni (As := [.ref (ad G (v0 + 11)), .int v1]) (rest := []) E w (X10_at_c ((lay_5_3 t_v0).1) hc1) mn_RX5_45 rfl rfl hl.1 ⟨Nat.le_of_ble_eq_true rfl, Nat.le_of_ble_eq_true rfl⟩ (Nat.le_of_ble_eq_true rfl) ⟨Nat.le_refl _, Nat.le_refl _⟩ dX5_breathOf_5 (fun H locs w => ?_)
  have hf := Option.some.inj hf
  subst hf
  exact q_iret E w hr hlk dX5_breathOf_8

def X5_coldDreams_l4 (N : Nat) (h : HS) : Nat → Nat → Int32 → Int32 → Int32 → Option Int32
  | 0, _, _, _, _ => none
  | n + 1, v0, v1, v2, v3 => (if (h.1 v0 1) ≤ v3 then some v2 else bd1 (X1_sounds N h (h.2 v0) v3) fun r4 => (if r4 = 0 then X5_coldDreams_l4 N h n v0 v1 v2 (v3 + 1) else bd1 (X10_at N h (v0 + 12) v3) fun r8 => (if r8 = v1 then bd1 (X10_at N h ((h.2 v0) + 3) v3) fun r14 => bd1 (X1_reaches N h (h.2 v0) v1 r14 1) fun r17 => (if r17 = 0 then bd1 (X10_at N h ((h.2 v0) + 5) v3) fun r22 => X5_coldDreams_l4 N h n v0 v1 (v2 ||| ((1 : Int32) <<< (r22 &&& 31))) (v3 + 1) else X5_coldDreams_l4 N h n v0 v1 v2 (v3 + 1)) else X5_coldDreams_l4 N h n v0 v1 v2 (v3 + 1))))
set_option maxRecDepth 4000 in
set_option maxHeartbeats 2000000 in
theorem X5_coldDreams_l4_w {p : Program} {l : Launch} {e : Env} {s : State} {m : MethodId} {args : Array Value} {below : List Frame} {meth : Method} {c : Code} {G : GT} {N : Nat} {h : HS} {z : Int32} (E : CallFix p m c cX5_coldDreams 4 s args UW RX5) (hr : meth.sig.returnType = (some .int)) (hlk : meth.locks = false) : ∀ (n : Nat) (H : Heap) (locs : List Loc) (ls : Array Slot) (v0 : Nat) (v1 : Int32) (v2 : Int32) (v3 : Int32), X5_coldDreams_l4 N h n v0 v1 v2 v3 = some z → WD G s h H locs → sh v0 = 5 → lv_has ls 4 [(0, .ref (ad G v0)), (1, .int v1), (2, .int v2), (3, .int v3)] → W p l e ({ frames := 2, cells := 0, slots := 0, locals := 42 } : Room) s m args below meth c H locs 0 0 (MQ below (QC G (some (.int z)) h) args s 0 0 (AD G)) (F0 m 4 ls []) := by
  intro n
  induction n with
  | zero =>
    intro H locs ls v0 v1 v2 v3 hf
    cases hf
  | succ n ih =>
    intro H locs ls v0 v1 v2 v3 hf w t_v0 hl
    unfold X5_coldDreams_l4 at hf
    refine lv_iload_n E.1 E.2.1 dX5_coldDreams_4 rfl (lv_at hl 3 rfl) ?_
    refine lv_aload_n E.1 E.2.1 dX5_coldDreams_5 rfl (lv_at hl 0 rfl) ?_
    refine q_gi E w t_v0 fl_RX5_18 dX5_coldDreams_6 ?_
    refine lv_icmp_ge (tgt := 80) E.1 E.2.1 dX5_coldDreams_9 (by decide) (fun c1 => ?_) (fun c1 => ?_)
    · have hf := q_pos c1 hf
      refine lv_iload_n E.1 E.2.1 dX5_coldDreams_80 rfl (lv_at hl 2 rfl) ?_
      have hf := Option.some.inj hf
      subst hf
      exact q_iret E w hr hlk dX5_coldDreams_81
    · have hf := q_neg c1 hf
      refine lv_aload_n E.1 E.2.1 dX5_coldDreams_12 rfl (lv_at hl 0 rfl) ?_
      refine q_gh E w t_v0 (by decide) fl_RX5_12 dX5_coldDreams_13 (fun t2 => ?_)
      refine lv_iload_n E.1 E.2.1 dX5_coldDreams_16 rfl (lv_at hl 3 rfl) ?_
      obtain ⟨r4, hc3, hf⟩ := bd1_e hf
      refine k_Vi (As := [.int v3]) (rest := []) E w t2 ⟨by decide, rfl⟩ (X1_sounds_c t2 hc3) mv_RX5_60 rfl rfl hl.1 ⟨Nat.le_of_ble_eq_true rfl, Nat.le_of_ble_eq_true rfl⟩ (Nat.le_of_ble_eq_true rfl) ⟨Nat.le_refl _, Nat.le_refl _⟩ dX5_coldDreams_17 (fun H locs w => ?_)
      refine lv_if_eq (tgt := 74) E.1 E.2.1 dX5_coldDreams_20 (by decide) (fun c6 => ?_) (fun c6 => ?_)
      · have hf := q_pos c6 hf
        refine lv_iinc (v := v3 + 1) (lv' := [(3, .int (v3 + 1)), (0, .ref (ad G v0)), (1, .int v1), (2, .int v2)]) E.1 E.2.1 dX5_coldDreams_74 hl (k := 3) rfl rfl (by decide) rfl (fun ls hl => ?_)
        refine lv_goto (tgt := 4) E.1 E.2.1 dX5_coldDreams_77 (by decide) ?_
        exact ih _ _ _ _ _ _ _ hf w t_v0 (lv_sub hl [1, 2, 3, 0] rfl)
      · have hf := q_neg c6 hf
        refine lv_aload_n E.1 E.2.1 dX5_coldDreams_23 rfl (lv_at hl 0 rfl) ?_
        refine q_gs E w 12 t_v0 fl_RX5_29 dX5_coldDreams_24 ?_
        refine lv_iload_n E.1 E.2.1 dX5_coldDreams_27 rfl (lv_at hl 3 rfl) ?_
        obtain ⟨r8, hc7, hf⟩ := bd1_e hf
        refine k_Ni (As := [.ref (ad G (v0 + 12)), .int v3]) (rest := []) E w (X10_at_c ((lay_5_4 t_v0).1) hc7) mn_RX5_45 rfl rfl hl.1 ⟨Nat.le_of_ble_eq_true rfl, Nat.le_of_ble_eq_true rfl⟩ (Nat.le_of_ble_eq_true rfl) ⟨Nat.le_refl _, Nat.le_refl _⟩ dX5_coldDreams_28 (fun H locs w => ?_)
        refine lv_iload_n E.1 E.2.1 dX5_coldDreams_31 rfl (lv_at hl 1 rfl) ?_
        refine lv_icmp_ne (tgt := 74) E.1 E.2.1 dX5_coldDreams_32 (by decide) (fun c10 => ?_) (fun c10 => ?_)
        · have hf := q_neg c10 hf
          refine lv_iinc (v := v3 + 1) (lv' := [(3, .int (v3 + 1)), (0, .ref (ad G v0)), (1, .int v1), (2, .int v2)]) E.1 E.2.1 dX5_coldDreams_74 hl (k := 3) rfl rfl (by decide) rfl (fun ls hl => ?_)
          refine lv_goto (tgt := 4) E.1 E.2.1 dX5_coldDreams_77 (by decide) ?_
          exact ih _ _ _ _ _ _ _ hf w t_v0 (lv_sub hl [1, 2, 3, 0] rfl)
        · have hf := q_pos c10 hf
          refine lv_aload_n E.1 E.2.1 dX5_coldDreams_35 rfl (lv_at hl 0 rfl) ?_
          refine q_gh E w t_v0 (by decide) fl_RX5_12 dX5_coldDreams_36 (fun t11 => ?_)
          refine lv_iload_n E.1 E.2.1 dX5_coldDreams_39 rfl (lv_at hl 1 rfl) ?_
          refine lv_aload_n E.1 E.2.1 dX5_coldDreams_40 rfl (lv_at hl 0 rfl) ?_
          refine q_gh E w t_v0 (by decide) fl_RX5_12 dX5_coldDreams_41 (fun t12 => ?_)
          refine q_gs E w 3 t12 fl_RX5_70 dX5_coldDreams_44 ?_
          refine lv_iload_n E.1 E.2.1 dX5_coldDreams_47 rfl (lv_at hl 3 rfl) ?_
          obtain ⟨r14, hc13, hf⟩ := bd1_e hf
          refine k_Ni (As := [.ref (ad G ((h.2 v0) + 3)), .int v3]) (rest := [.int v1, .ref (ad G (h.2 v0))]) E w (X10_at_c ((lay_1_7 t12).1) hc13) mn_RX5_45 rfl rfl hl.1 ⟨Nat.le_of_ble_eq_true rfl, Nat.le_of_ble_eq_true rfl⟩ (Nat.le_of_ble_eq_true rfl) ⟨Nat.le_refl _, Nat.le_refl _⟩ dX5_coldDreams_48 (fun H locs w => ?_)
          refine lv_iconst (v := 1) E.1 E.2.1 dX5_coldDreams_51 rfl ?_
          obtain ⟨r17, hc16, hf⟩ := bd1_e hf
          refine k_Vi (As := [.int v1, .int r14, .int 1]) (rest := []) E w t11 ⟨by decide, rfl⟩ (X1_reaches_c t11 hc16) mv_RX5_73 rfl rfl hl.1 ⟨Nat.le_of_ble_eq_true rfl, Nat.le_of_ble_eq_true rfl⟩ (Nat.le_of_ble_eq_true rfl) ⟨Nat.le_refl _, Nat.le_refl _⟩ dX5_coldDreams_52 (fun H locs w => ?_)
          refine lv_if_ne (tgt := 74) E.1 E.2.1 dX5_coldDreams_55 (by decide) (fun c19 => ?_) (fun c19 => ?_)
          · have hf := q_neg c19 hf
            refine lv_iinc (v := v3 + 1) (lv' := [(3, .int (v3 + 1)), (0, .ref (ad G v0)), (1, .int v1), (2, .int v2)]) E.1 E.2.1 dX5_coldDreams_74 hl (k := 3) rfl rfl (by decide) rfl (fun ls hl => ?_)
            refine lv_goto (tgt := 4) E.1 E.2.1 dX5_coldDreams_77 (by decide) ?_
            exact ih _ _ _ _ _ _ _ hf w t_v0 (lv_sub hl [1, 2, 3, 0] rfl)
          · have hf := q_pos c19 hf
            refine lv_iload_n E.1 E.2.1 dX5_coldDreams_58 rfl (lv_at hl 2 rfl) ?_
            refine lv_iconst (v := 1) E.1 E.2.1 dX5_coldDreams_59 rfl ?_
            refine lv_aload_n E.1 E.2.1 dX5_coldDreams_60 rfl (lv_at hl 0 rfl) ?_
            refine q_gh E w t_v0 (by decide) fl_RX5_12 dX5_coldDreams_61 (fun t20 => ?_)
            refine q_gs E w 5 t20 fl_RX5_92 dX5_coldDreams_64 ?_
            refine lv_iload_n E.1 E.2.1 dX5_coldDreams_67 rfl (lv_at hl 3 rfl) ?_
            obtain ⟨r22, hc21, hf⟩ := bd1_e hf
            refine k_Ni (As := [.ref (ad G ((h.2 v0) + 5)), .int v3]) (rest := [.int 1, .int v2]) E w (X10_at_c ((lay_1_9 t20).1) hc21) mn_RX5_45 rfl rfl hl.1 ⟨Nat.le_of_ble_eq_true rfl, Nat.le_of_ble_eq_true rfl⟩ (Nat.le_of_ble_eq_true rfl) ⟨Nat.le_refl _, Nat.le_refl _⟩ dX5_coldDreams_68 (fun H locs w => ?_)
            refine lv_ishl E.1 E.2.1 dX5_coldDreams_71 ?_
            refine lv_ior E.1 E.2.1 dX5_coldDreams_72 ?_
            refine lv_istore_n (lv' := [(2, .int (v2 ||| ((1 : Int32) <<< (r22 &&& 31)))), (0, .ref (ad G v0)), (1, .int v1), (3, .int v3)]) E.1 E.2.1 dX5_coldDreams_73 rfl hl (by decide) rfl (fun ls hl => ?_)
            refine lv_iinc (v := v3 + 1) (lv' := [(3, .int (v3 + 1)), (2, .int (v2 ||| ((1 : Int32) <<< (r22 &&& 31)))), (0, .ref (ad G v0)), (1, .int v1)]) E.1 E.2.1 dX5_coldDreams_74 hl (k := 3) rfl rfl (by decide) rfl (fun ls hl => ?_)
            refine lv_goto (tgt := 4) E.1 E.2.1 dX5_coldDreams_77 (by decide) ?_
            exact ih _ _ _ _ _ _ _ hf w t_v0 (lv_sub hl [2, 3, 1, 0] rfl)

def X5_coldDreams (N : Nat) (h : HS) (v0 : Nat) (v1 : Int32) : Option Int32 := X5_coldDreams_l4 N h N v0 v1 0 0
set_option maxRecDepth 4000 in
set_option maxHeartbeats 2000000 in
theorem X5_coldDreams_c {l : Launch} {G : GT} {N : Nat} {h : HS} {v0 : Nat} {v1 : Int32} {z : Int32} (t_v0 : sh v0 = 5) (hf : X5_coldDreams N h v0 v1 = some z) : CT l G yX5_coldDreams cX5_coldDreams 4 (some .int) 2 42 [.ref (ad G v0), .int v1] h (some (.int z)) h := by
  unfold X5_coldDreams at hf
  refine CT.of (by decide) (Nat.le_of_ble_eq_true rfl) ?_
  intro p e s m below meth c ls E hr hlk w hl
  have hl : lv_has ls 4 [(0, .ref (ad G v0)), (1, .int v1)] := hl
  refine lv_iconst (v := 0) E.1 E.2.1 dX5_coldDreams_0 rfl ?_
  refine lv_istore_n (lv' := [(2, .int 0), (0, .ref (ad G v0)), (1, .int v1)]) E.1 E.2.1 dX5_coldDreams_1 rfl hl (by decide) rfl (fun ls hl => ?_)
  refine lv_iconst (v := 0) E.1 E.2.1 dX5_coldDreams_2 rfl ?_
  refine lv_istore_n (lv' := [(3, .int 0), (2, .int 0), (0, .ref (ad G v0)), (1, .int v1)]) E.1 E.2.1 dX5_coldDreams_3 rfl hl (by decide) rfl (fun ls hl => ?_)
  exact X5_coldDreams_l4_w E hr hlk N _ _ _ _ _ _ _ hf w t_v0 (lv_sub hl [2, 3, 1, 0] rfl)

def X5_fewest_l12 (N : Nat) (K2 : HS → Nat → Nat → Int32 → Option (Int32 × HS)) : Nat → HS → Nat → Nat → Int32 → Int32 → Option (Int32 × HS)
  | 0, _, _, _, _, _ => none
  | n + 1, h, v0, v1, v2, v3 => bd1 (X1_everybody N h v1) fun r3 => (if r3 < v3 then K2 h v0 v1 (v2 + 1) else bd1 (J6_bitCount_0f7a4 N h v3) fun r7 => (if r7 = v2 then bd1 (X5_seat N h v0 v1 0 20) fun h12 => bd1 (X5_sendOutAllBut N h12 v0 v3) fun h15 => bd2 (X5_fills N h15 v0 8) fun r17 h18 => (if r17 = 0 then X5_fewest_l12 N K2 n h18 v0 v1 v2 (v3 + 1) else some (v3, h18)) else X5_fewest_l12 N K2 n h v0 v1 v2 (v3 + 1)))
set_option maxRecDepth 4000 in
set_option maxHeartbeats 2000000 in
theorem X5_fewest_l12_w {p : Program} {l : Launch} {e : Env} {s : State} {m : MethodId} {args : Array Value} {below : List Frame} {meth : Method} {c : Code} {G : GT} {N : Nat} {z : (Int32 × HS)} (E : CallFix p m c cX5_fewest 4 s args UW RX5) (hr : meth.sig.returnType = (some .int)) (hlk : meth.locks = false) {K2 : HS → Nat → Nat → Int32 → Option (Int32 × HS)} (hK2 : ∀ (h : HS) (H : Heap) (locs : List Loc) (ls : Array Slot) (v0 : Nat) (v1 : Nat) (v2 : Int32), K2 h v0 v1 v2 = some z → WD G s h H locs → sh v0 = 5 → sh v1 = 1 → lv_has ls 4 [(0, .ref (ad G v0)), (1, .ref (ad G v1)), (2, .int v2)] → W p l e ({ frames := 26, cells := 0, slots := 0, locals := 560 } : Room) s m args below meth c H locs 0 0 (MQ below (QC G (some (.int z.1)) z.2) args s 0 0 (AD G)) (F0 m 2 ls [])) : ∀ (n : Nat) (h : HS) (H : Heap) (locs : List Loc) (ls : Array Slot) (v0 : Nat) (v1 : Nat) (v2 : Int32) (v3 : Int32), X5_fewest_l12 N K2 n h v0 v1 v2 v3 = some z → WD G s h H locs → sh v0 = 5 → sh v1 = 1 → lv_has ls 4 [(0, .ref (ad G v0)), (1, .ref (ad G v1)), (2, .int v2), (3, .int v3)] → W p l e ({ frames := 26, cells := 0, slots := 0, locals := 560 } : Room) s m args below meth c H locs 0 0 (MQ below (QC G (some (.int z.1)) z.2) args s 0 0 (AD G)) (F0 m 12 ls []) := by
  intro n
  induction n with
  | zero =>
    intro h H locs ls v0 v1 v2 v3 hf
    cases hf
  | succ n ih =>
    intro h H locs ls v0 v1 v2 v3 hf w t_v0 t_v1 hl
    unfold X5_fewest_l12 at hf
    refine lv_iload_n E.1 E.2.1 dX5_fewest_12 rfl (lv_at hl 3 rfl) ?_
    refine lv_aload_n E.1 E.2.1 dX5_fewest_13 rfl (lv_at hl 1 rfl) ?_
    obtain ⟨r3, hc2, hf⟩ := bd1_e hf
    refine k_Vi (As := []) (rest := [.int v3]) E w t_v1 ⟨by decide, rfl⟩ (X1_everybody_c t_v1 hc2) mv_RX5_95 rfl rfl hl.1 ⟨Nat.le_of_ble_eq_true rfl, Nat.le_of_ble_eq_true rfl⟩ (Nat.le_of_ble_eq_true rfl) ⟨Nat.le_refl _, Nat.le_refl _⟩ dX5_fewest_14 (fun H locs w => ?_)
    refine lv_icmp_gt (tgt := 58) E.1 E.2.1 dX5_fewest_17 (by decide) (fun c5 => ?_) (fun c5 => ?_)
    · have hf := q_pos c5 hf
      refine lv_iinc (v := v2 + 1) (lv' := [(2, .int (v2 + 1)), (0, .ref (ad G v0)), (1, .ref (ad G v1)), (3, .int v3)]) E.1 E.2.1 dX5_fewest_58 hl (k := 2) rfl rfl (by decide) rfl (fun ls hl => ?_)
      refine lv_goto (tgt := 2) E.1 E.2.1 dX5_fewest_61 (by decide) ?_
      exact hK2 _ _ _ _ _ _ _ hf w t_v0 t_v1 (lv_sub hl [1, 2, 0] rfl)
    · have hf := q_neg c5 hf
      refine lv_iload_n E.1 E.2.1 dX5_fewest_20 rfl (lv_at hl 3 rfl) ?_
      obtain ⟨r7, hc6, hf⟩ := bd1_e hf
      refine k_Si (As := [.int v3]) (rest := []) E w (J6_bitCount_0f7a4_c  hc6) ms_RX5_99 rfl rfl hl.1 ⟨Nat.le_of_ble_eq_true rfl, Nat.le_of_ble_eq_true rfl⟩ (Nat.le_of_ble_eq_true rfl) ⟨Nat.le_refl _, Nat.le_refl _⟩ dX5_fewest_21 (fun H locs w => ?_)
      refine lv_iload_n E.1 E.2.1 dX5_fewest_24 rfl (lv_at hl 2 rfl) ?_
      refine lv_icmp_ne (tgt := 52) E.1 E.2.1 dX5_fewest_25 (by decide) (fun c9 => ?_) (fun c9 => ?_)
      · have hf := q_neg c9 hf
        refine lv_iinc (v := v3 + 1) (lv' := [(3, .int (v3 + 1)), (0, .ref (ad G v0)), (1, .ref (ad G v1)), (2, .int v2)]) E.1 E.2.1 dX5_fewest_52 hl (k := 3) rfl rfl (by decide) rfl (fun ls hl => ?_)
        refine lv_goto (tgt := 12) E.1 E.2.1 dX5_fewest_55 (by decide) ?_
        exact ih _ _ _ _ _ _ _ _ hf w t_v0 t_v1 (lv_sub hl [1, 2, 3, 0] rfl)
      · have hf := q_pos c9 hf
        refine lv_aload_n E.1 E.2.1 dX5_fewest_28 rfl (lv_at hl 0 rfl) ?_
        refine lv_aload_n E.1 E.2.1 dX5_fewest_29 rfl (lv_at hl 1 rfl) ?_
        refine lv_iconst (v := 0) E.1 E.2.1 dX5_fewest_30 rfl ?_
        refine lv_bipush (v := 20) E.1 E.2.1 dX5_fewest_31 rfl ?_
        obtain ⟨h12, hc10, hf⟩ := bd1_e hf
        refine k_Vv (As := [.ref (ad G v1), .int 0, .int 20]) (rest := []) E w t_v0 ⟨by decide, rfl⟩ (X5_seat_c t_v0 t_v1 hc10) mv_RX5_85 rfl rfl hl.1 ⟨Nat.le_of_ble_eq_true rfl, Nat.le_of_ble_eq_true rfl⟩ (Nat.le_of_ble_eq_true rfl) ⟨Nat.le_refl _, Nat.le_refl _⟩ dX5_fewest_33 (fun H locs w => ?_)
        refine lv_aload_n E.1 E.2.1 dX5_fewest_36 rfl (lv_at hl 0 rfl) ?_
        refine lv_iload_n E.1 E.2.1 dX5_fewest_37 rfl (lv_at hl 3 rfl) ?_
        obtain ⟨h15, hc13, hf⟩ := bd1_e hf
        refine k_Vv (As := [.int v3]) (rest := []) E w t_v0 ⟨by decide, rfl⟩ (X5_sendOutAllBut_c t_v0 hc13) mv_RX5_104 rfl rfl hl.1 ⟨Nat.le_of_ble_eq_true rfl, Nat.le_of_ble_eq_true rfl⟩ (Nat.le_of_ble_eq_true rfl) ⟨Nat.le_refl _, Nat.le_refl _⟩ dX5_fewest_38 (fun H locs w => ?_)
        refine lv_aload_n E.1 E.2.1 dX5_fewest_41 rfl (lv_at hl 0 rfl) ?_
        refine lv_bipush (v := 8) E.1 E.2.1 dX5_fewest_42 rfl ?_
        obtain ⟨r17, h18, hc16, hf⟩ := bd2_e hf
        refine k_Vi (As := [.int 8]) (rest := []) E w t_v0 ⟨by decide, rfl⟩ (X5_fills_c t_v0 hc16) mv_RX5_89 rfl rfl hl.1 ⟨Nat.le_of_ble_eq_true rfl, Nat.le_of_ble_eq_true rfl⟩ (Nat.le_of_ble_eq_true rfl) ⟨Nat.le_refl _, Nat.le_refl _⟩ dX5_fewest_44 (fun H locs w => ?_)
        refine lv_if_eq (tgt := 52) E.1 E.2.1 dX5_fewest_47 (by decide) (fun c19 => ?_) (fun c19 => ?_)
        · have hf := q_pos c19 hf
          refine lv_iinc (v := v3 + 1) (lv' := [(3, .int (v3 + 1)), (0, .ref (ad G v0)), (1, .ref (ad G v1)), (2, .int v2)]) E.1 E.2.1 dX5_fewest_52 hl (k := 3) rfl rfl (by decide) rfl (fun ls hl => ?_)
          refine lv_goto (tgt := 12) E.1 E.2.1 dX5_fewest_55 (by decide) ?_
          exact ih _ _ _ _ _ _ _ _ hf w t_v0 t_v1 (lv_sub hl [1, 2, 3, 0] rfl)
        · have hf := q_neg c19 hf
          refine lv_iload_n E.1 E.2.1 dX5_fewest_50 rfl (lv_at hl 3 rfl) ?_
          have hf := Option.some.inj hf
          subst hf
          exact q_iret E w hr hlk dX5_fewest_51

def X5_fewest_l2 (N : Nat) : Nat → HS → Nat → Nat → Int32 → Option (Int32 × HS)
  | 0, _, _, _, _ => none
  | n + 1, h, v0, v1, v2 => (if (h.1 v1 2) < v2 then some ((-1), h) else X5_fewest_l12 N (X5_fewest_l2 N n) N h v0 v1 v2 0)
set_option maxRecDepth 4000 in
set_option maxHeartbeats 2000000 in
theorem X5_fewest_l2_w {p : Program} {l : Launch} {e : Env} {s : State} {m : MethodId} {args : Array Value} {below : List Frame} {meth : Method} {c : Code} {G : GT} {N : Nat} {z : (Int32 × HS)} (E : CallFix p m c cX5_fewest 4 s args UW RX5) (hr : meth.sig.returnType = (some .int)) (hlk : meth.locks = false) : ∀ (n : Nat) (h : HS) (H : Heap) (locs : List Loc) (ls : Array Slot) (v0 : Nat) (v1 : Nat) (v2 : Int32), X5_fewest_l2 N n h v0 v1 v2 = some z → WD G s h H locs → sh v0 = 5 → sh v1 = 1 → lv_has ls 4 [(0, .ref (ad G v0)), (1, .ref (ad G v1)), (2, .int v2)] → W p l e ({ frames := 26, cells := 0, slots := 0, locals := 560 } : Room) s m args below meth c H locs 0 0 (MQ below (QC G (some (.int z.1)) z.2) args s 0 0 (AD G)) (F0 m 2 ls []) := by
  intro n
  induction n with
  | zero =>
    intro h H locs ls v0 v1 v2 hf
    cases hf
  | succ n ih =>
    intro h H locs ls v0 v1 v2 hf w t_v0 t_v1 hl
    unfold X5_fewest_l2 at hf
    refine lv_iload_n E.1 E.2.1 dX5_fewest_2 rfl (lv_at hl 2 rfl) ?_
    refine lv_aload_n E.1 E.2.1 dX5_fewest_3 rfl (lv_at hl 1 rfl) ?_
    refine q_gi E w t_v1 fl_RX5_35 dX5_fewest_4 ?_
    refine lv_icmp_gt (tgt := 64) E.1 E.2.1 dX5_fewest_7 (by decide) (fun c1 => ?_) (fun c1 => ?_)
    · have hf := q_pos c1 hf
      refine lv_iconst (v := (-1)) E.1 E.2.1 dX5_fewest_64 rfl ?_
      have hf := Option.some.inj hf
      subst hf
      exact q_iret E w hr hlk dX5_fewest_65
    · have hf := q_neg c1 hf
      refine lv_iconst (v := 0) E.1 E.2.1 dX5_fewest_10 rfl ?_
      refine lv_istore_n (lv' := [(3, .int 0), (0, .ref (ad G v0)), (1, .ref (ad G v1)), (2, .int v2)]) E.1 E.2.1 dX5_fewest_11 rfl hl (by decide) rfl (fun ls hl => ?_)
      exact X5_fewest_l12_w E hr hlk ih N _ _ _ _ _ _ _ _ hf w t_v0 t_v1 (lv_sub hl [1, 2, 3, 0] rfl)

def X5_fewest (N : Nat) (h : HS) (v0 : Nat) (v1 : Nat) : Option (Int32 × HS) := X5_fewest_l2 N N h v0 v1 0
set_option maxRecDepth 4000 in
set_option maxHeartbeats 2000000 in
theorem X5_fewest_c {l : Launch} {G : GT} {N : Nat} {h : HS} {v0 : Nat} {v1 : Nat} {z : (Int32 × HS)} (t_v0 : sh v0 = 5) (t_v1 : sh v1 = 1) (hf : X5_fewest N h v0 v1 = some z) : CT l G yX5_fewest cX5_fewest 4 (some .int) 26 560 [.ref (ad G v0), .ref (ad G v1)] h (some (.int z.1)) z.2 := by
  unfold X5_fewest at hf
  refine CT.of (by decide) (Nat.le_of_ble_eq_true rfl) ?_
  intro p e s m below meth c ls E hr hlk w hl
  have hl : lv_has ls 4 [(0, .ref (ad G v0)), (1, .ref (ad G v1))] := hl
  refine lv_iconst (v := 0) E.1 E.2.1 dX5_fewest_0 rfl ?_
  refine lv_istore_n (lv' := [(2, .int 0), (0, .ref (ad G v0)), (1, .ref (ad G v1))]) E.1 E.2.1 dX5_fewest_1 rfl hl (by decide) rfl (fun ls hl => ?_)
  exact X5_fewest_l2_w E hr hlk N _ _ _ _ _ _ _ hf w t_v0 t_v1 (lv_sub hl [1, 2, 0] rfl)

def X5_farWith_l5 (N : Nat) : Nat → HS → Nat → Nat → Int32 → Int32 → Option (Int32 × HS)
  | 0, _, _, _, _, _ => none
  | n + 1, h, v0, v1, v2, v3 => (if v3 ≤ 0 then some (0, h) else bd1 (X5_seat N h v0 v1 v2 (20 + v2)) fun h4 => bd2 (X5_fills N h4 v0 v3) fun r6 h7 => (if r6 = 0 then X5_farWith_l5 N n h7 v0 v1 v2 (v3 + (-1)) else some (v3, h7)))
set_option maxRecDepth 4000 in
set_option maxHeartbeats 2000000 in
theorem X5_farWith_l5_w {p : Program} {l : Launch} {e : Env} {s : State} {m : MethodId} {args : Array Value} {below : List Frame} {meth : Method} {c : Code} {G : GT} {N : Nat} {z : (Int32 × HS)} (E : CallFix p m c cX5_farWith 4 s args UW RX5) (hr : meth.sig.returnType = (some .int)) (hlk : meth.locks = false) : ∀ (n : Nat) (h : HS) (H : Heap) (locs : List Loc) (ls : Array Slot) (v0 : Nat) (v1 : Nat) (v2 : Int32) (v3 : Int32), X5_farWith_l5 N n h v0 v1 v2 v3 = some z → WD G s h H locs → sh v0 = 5 → sh v1 = 1 → lv_has ls 4 [(0, .ref (ad G v0)), (1, .ref (ad G v1)), (2, .int v2), (3, .int v3)] → W p l e ({ frames := 26, cells := 0, slots := 0, locals := 560 } : Room) s m args below meth c H locs 0 0 (MQ below (QC G (some (.int z.1)) z.2) args s 0 0 (AD G)) (F0 m 5 ls []) := by
  intro n
  induction n with
  | zero =>
    intro h H locs ls v0 v1 v2 v3 hf
    cases hf
  | succ n ih =>
    intro h H locs ls v0 v1 v2 v3 hf w t_v0 t_v1 hl
    unfold X5_farWith_l5 at hf
    refine lv_iload_n E.1 E.2.1 dX5_farWith_5 rfl (lv_at hl 3 rfl) ?_
    refine lv_if_le (tgt := 35) E.1 E.2.1 dX5_farWith_6 (by decide) (fun c1 => ?_) (fun c1 => ?_)
    · have hf := q_pos c1 hf
      refine lv_iconst (v := 0) E.1 E.2.1 dX5_farWith_35 rfl ?_
      have hf := Option.some.inj hf
      subst hf
      exact q_iret E w hr hlk dX5_farWith_36
    · have hf := q_neg c1 hf
      refine lv_aload_n E.1 E.2.1 dX5_farWith_9 rfl (lv_at hl 0 rfl) ?_
      refine lv_aload_n E.1 E.2.1 dX5_farWith_10 rfl (lv_at hl 1 rfl) ?_
      refine lv_iload_n E.1 E.2.1 dX5_farWith_11 rfl (lv_at hl 2 rfl) ?_
      refine lv_bipush (v := 20) E.1 E.2.1 dX5_farWith_12 rfl ?_
      refine lv_iload_n E.1 E.2.1 dX5_farWith_14 rfl (lv_at hl 2 rfl) ?_
      refine lv_iadd E.1 E.2.1 dX5_farWith_15 ?_
      obtain ⟨h4, hc2, hf⟩ := bd1_e hf
      refine k_Vv (As := [.ref (ad G v1), .int v2, .int (20 + v2)]) (rest := []) E w t_v0 ⟨by decide, rfl⟩ (X5_seat_c t_v0 t_v1 hc2) mv_RX5_85 rfl rfl hl.1 ⟨Nat.le_of_ble_eq_true rfl, Nat.le_of_ble_eq_true rfl⟩ (Nat.le_of_ble_eq_true rfl) ⟨Nat.le_refl _, Nat.le_refl _⟩ dX5_farWith_16 (fun H locs w => ?_)
      refine lv_aload_n E.1 E.2.1 dX5_farWith_19 rfl (lv_at hl 0 rfl) ?_
      refine lv_iload_n E.1 E.2.1 dX5_farWith_20 rfl (lv_at hl 3 rfl) ?_
      obtain ⟨r6, h7, hc5, hf⟩ := bd2_e hf
      refine k_Vi (As := [.int v3]) (rest := []) E w t_v0 ⟨by decide, rfl⟩ (X5_fills_c t_v0 hc5) mv_RX5_89 rfl rfl hl.1 ⟨Nat.le_of_ble_eq_true rfl, Nat.le_of_ble_eq_true rfl⟩ (Nat.le_of_ble_eq_true rfl) ⟨Nat.le_refl _, Nat.le_refl _⟩ dX5_farWith_21 (fun H locs w => ?_)
      refine lv_if_eq (tgt := 29) E.1 E.2.1 dX5_farWith_24 (by decide) (fun c8 => ?_) (fun c8 => ?_)
      · have hf := q_pos c8 hf
        refine lv_iinc (v := v3 + (-1)) (lv' := [(3, .int (v3 + (-1))), (0, .ref (ad G v0)), (1, .ref (ad G v1)), (2, .int v2)]) E.1 E.2.1 dX5_farWith_29 hl (k := 3) rfl rfl (by decide) rfl (fun ls hl => ?_)
        refine lv_goto (tgt := 5) E.1 E.2.1 dX5_farWith_32 (by decide) ?_
        exact ih _ _ _ _ _ _ _ _ hf w t_v0 t_v1 (lv_sub hl [1, 2, 3, 0] rfl)
      · have hf := q_neg c8 hf
        refine lv_iload_n E.1 E.2.1 dX5_farWith_27 rfl (lv_at hl 3 rfl) ?_
        have hf := Option.some.inj hf
        subst hf
        exact q_iret E w hr hlk dX5_farWith_28

def X5_farWith (N : Nat) (h : HS) (v0 : Nat) (v1 : Nat) (v2 : Int32) : Option (Int32 × HS) := X5_farWith_l5 N N h v0 v1 v2 (h.1 v1 1)
set_option maxRecDepth 4000 in
set_option maxHeartbeats 2000000 in
theorem X5_farWith_c {l : Launch} {G : GT} {N : Nat} {h : HS} {v0 : Nat} {v1 : Nat} {v2 : Int32} {z : (Int32 × HS)} (t_v0 : sh v0 = 5) (t_v1 : sh v1 = 1) (hf : X5_farWith N h v0 v1 v2 = some z) : CT l G yX5_farWith cX5_farWith 4 (some .int) 26 560 [.ref (ad G v0), .ref (ad G v1), .int v2] h (some (.int z.1)) z.2 := by
  unfold X5_farWith at hf
  refine CT.of (by decide) (Nat.le_of_ble_eq_true rfl) ?_
  intro p e s m below meth c ls E hr hlk w hl
  have hl : lv_has ls 4 [(0, .ref (ad G v0)), (1, .ref (ad G v1)), (2, .int v2)] := hl
  refine lv_aload_n E.1 E.2.1 dX5_farWith_0 rfl (lv_at hl 1 rfl) ?_
  refine q_gi E w t_v1 fl_RX5_56 dX5_farWith_1 ?_
  refine lv_istore_n (lv' := [(3, .int (h.1 v1 1)), (0, .ref (ad G v0)), (1, .ref (ad G v1)), (2, .int v2)]) E.1 E.2.1 dX5_farWith_4 rfl hl (by decide) rfl (fun ls hl => ?_)
  exact X5_farWith_l5_w E hr hlk N _ _ _ _ _ _ _ _ hf w t_v0 t_v1 (lv_sub hl [1, 2, 3, 0] rfl)

def X5_spares_l4 (N : Nat) : Nat → HS → Nat → Nat → Int32 → Int32 → Option (Int32 × HS)
  | 0, _, _, _, _, _ => none
  | n + 1, h, v0, v1, v2, v3 => (if (h.1 v1 2) ≤ v3 then some (v2, h) else bd1 (X5_seat N h v0 v1 0 20) fun h4 => bd1 (X5_sendOutAllBut N h4 v0 (((1 : Int32) <<< (v3 &&& 31)) ^^^ (-1))) fun h7 => bd2 (X5_fills N h7 v0 8) fun r9 h10 => (if r9 = 0 then X5_spares_l4 N n h10 v0 v1 v2 (v3 + 1) else X5_spares_l4 N n h10 v0 v1 (v2 ||| ((1 : Int32) <<< (v3 &&& 31))) (v3 + 1)))
set_option maxRecDepth 4000 in
set_option maxHeartbeats 2000000 in
theorem X5_spares_l4_w {p : Program} {l : Launch} {e : Env} {s : State} {m : MethodId} {args : Array Value} {below : List Frame} {meth : Method} {c : Code} {G : GT} {N : Nat} {z : (Int32 × HS)} (E : CallFix p m c cX5_spares 4 s args UW RX5) (hr : meth.sig.returnType = (some .int)) (hlk : meth.locks = false) : ∀ (n : Nat) (h : HS) (H : Heap) (locs : List Loc) (ls : Array Slot) (v0 : Nat) (v1 : Nat) (v2 : Int32) (v3 : Int32), X5_spares_l4 N n h v0 v1 v2 v3 = some z → WD G s h H locs → sh v0 = 5 → sh v1 = 1 → lv_has ls 4 [(0, .ref (ad G v0)), (1, .ref (ad G v1)), (2, .int v2), (3, .int v3)] → W p l e ({ frames := 26, cells := 0, slots := 0, locals := 560 } : Room) s m args below meth c H locs 0 0 (MQ below (QC G (some (.int z.1)) z.2) args s 0 0 (AD G)) (F0 m 4 ls []) := by
  intro n
  induction n with
  | zero =>
    intro h H locs ls v0 v1 v2 v3 hf
    cases hf
  | succ n ih =>
    intro h H locs ls v0 v1 v2 v3 hf w t_v0 t_v1 hl
    unfold X5_spares_l4 at hf
    refine lv_iload_n E.1 E.2.1 dX5_spares_4 rfl (lv_at hl 3 rfl) ?_
    refine lv_aload_n E.1 E.2.1 dX5_spares_5 rfl (lv_at hl 1 rfl) ?_
    refine q_gi E w t_v1 fl_RX5_35 dX5_spares_6 ?_
    refine lv_icmp_ge (tgt := 50) E.1 E.2.1 dX5_spares_9 (by decide) (fun c1 => ?_) (fun c1 => ?_)
    · have hf := q_pos c1 hf
      refine lv_iload_n E.1 E.2.1 dX5_spares_50 rfl (lv_at hl 2 rfl) ?_
      have hf := Option.some.inj hf
      subst hf
      exact q_iret E w hr hlk dX5_spares_51
    · have hf := q_neg c1 hf
      refine lv_aload_n E.1 E.2.1 dX5_spares_12 rfl (lv_at hl 0 rfl) ?_
      refine lv_aload_n E.1 E.2.1 dX5_spares_13 rfl (lv_at hl 1 rfl) ?_
      refine lv_iconst (v := 0) E.1 E.2.1 dX5_spares_14 rfl ?_
      refine lv_bipush (v := 20) E.1 E.2.1 dX5_spares_15 rfl ?_
      obtain ⟨h4, hc2, hf⟩ := bd1_e hf
      refine k_Vv (As := [.ref (ad G v1), .int 0, .int 20]) (rest := []) E w t_v0 ⟨by decide, rfl⟩ (X5_seat_c t_v0 t_v1 hc2) mv_RX5_85 rfl rfl hl.1 ⟨Nat.le_of_ble_eq_true rfl, Nat.le_of_ble_eq_true rfl⟩ (Nat.le_of_ble_eq_true rfl) ⟨Nat.le_refl _, Nat.le_refl _⟩ dX5_spares_17 (fun H locs w => ?_)
      refine lv_aload_n E.1 E.2.1 dX5_spares_20 rfl (lv_at hl 0 rfl) ?_
      refine lv_iconst (v := 1) E.1 E.2.1 dX5_spares_21 rfl ?_
      refine lv_iload_n E.1 E.2.1 dX5_spares_22 rfl (lv_at hl 3 rfl) ?_
      refine lv_ishl E.1 E.2.1 dX5_spares_23 ?_
      refine lv_iconst (v := (-1)) E.1 E.2.1 dX5_spares_24 rfl ?_
      refine lv_ixor E.1 E.2.1 dX5_spares_25 ?_
      obtain ⟨h7, hc5, hf⟩ := bd1_e hf
      refine k_Vv (As := [.int (((1 : Int32) <<< (v3 &&& 31)) ^^^ (-1))]) (rest := []) E w t_v0 ⟨by decide, rfl⟩ (X5_sendOutAllBut_c t_v0 hc5) mv_RX5_104 rfl rfl hl.1 ⟨Nat.le_of_ble_eq_true rfl, Nat.le_of_ble_eq_true rfl⟩ (Nat.le_of_ble_eq_true rfl) ⟨Nat.le_refl _, Nat.le_refl _⟩ dX5_spares_26 (fun H locs w => ?_)
      refine lv_aload_n E.1 E.2.1 dX5_spares_29 rfl (lv_at hl 0 rfl) ?_
      refine lv_bipush (v := 8) E.1 E.2.1 dX5_spares_30 rfl ?_
      obtain ⟨r9, h10, hc8, hf⟩ := bd2_e hf
      refine k_Vi (As := [.int 8]) (rest := []) E w t_v0 ⟨by decide, rfl⟩ (X5_fills_c t_v0 hc8) mv_RX5_89 rfl rfl hl.1 ⟨Nat.le_of_ble_eq_true rfl, Nat.le_of_ble_eq_true rfl⟩ (Nat.le_of_ble_eq_true rfl) ⟨Nat.le_refl _, Nat.le_refl _⟩ dX5_spares_32 (fun H locs w => ?_)
      refine lv_if_eq (tgt := 44) E.1 E.2.1 dX5_spares_35 (by decide) (fun c11 => ?_) (fun c11 => ?_)
      · have hf := q_pos c11 hf
        refine lv_iinc (v := v3 + 1) (lv' := [(3, .int (v3 + 1)), (0, .ref (ad G v0)), (1, .ref (ad G v1)), (2, .int v2)]) E.1 E.2.1 dX5_spares_44 hl (k := 3) rfl rfl (by decide) rfl (fun ls hl => ?_)
        refine lv_goto (tgt := 4) E.1 E.2.1 dX5_spares_47 (by decide) ?_
        exact ih _ _ _ _ _ _ _ _ hf w t_v0 t_v1 (lv_sub hl [1, 2, 3, 0] rfl)
      · have hf := q_neg c11 hf
        refine lv_iload_n E.1 E.2.1 dX5_spares_38 rfl (lv_at hl 2 rfl) ?_
        refine lv_iconst (v := 1) E.1 E.2.1 dX5_spares_39 rfl ?_
        refine lv_iload_n E.1 E.2.1 dX5_spares_40 rfl (lv_at hl 3 rfl) ?_
        refine lv_ishl E.1 E.2.1 dX5_spares_41 ?_
        refine lv_ior E.1 E.2.1 dX5_spares_42 ?_
        refine lv_istore_n (lv' := [(2, .int (v2 ||| ((1 : Int32) <<< (v3 &&& 31)))), (0, .ref (ad G v0)), (1, .ref (ad G v1)), (3, .int v3)]) E.1 E.2.1 dX5_spares_43 rfl hl (by decide) rfl (fun ls hl => ?_)
        refine lv_iinc (v := v3 + 1) (lv' := [(3, .int (v3 + 1)), (2, .int (v2 ||| ((1 : Int32) <<< (v3 &&& 31)))), (0, .ref (ad G v0)), (1, .ref (ad G v1))]) E.1 E.2.1 dX5_spares_44 hl (k := 3) rfl rfl (by decide) rfl (fun ls hl => ?_)
        refine lv_goto (tgt := 4) E.1 E.2.1 dX5_spares_47 (by decide) ?_
        exact ih _ _ _ _ _ _ _ _ hf w t_v0 t_v1 (lv_sub hl [2, 3, 1, 0] rfl)

def X5_spares (N : Nat) (h : HS) (v0 : Nat) (v1 : Nat) : Option (Int32 × HS) := X5_spares_l4 N N h v0 v1 0 0
set_option maxRecDepth 4000 in
set_option maxHeartbeats 2000000 in
theorem X5_spares_c {l : Launch} {G : GT} {N : Nat} {h : HS} {v0 : Nat} {v1 : Nat} {z : (Int32 × HS)} (t_v0 : sh v0 = 5) (t_v1 : sh v1 = 1) (hf : X5_spares N h v0 v1 = some z) : CT l G yX5_spares cX5_spares 4 (some .int) 26 560 [.ref (ad G v0), .ref (ad G v1)] h (some (.int z.1)) z.2 := by
  unfold X5_spares at hf
  refine CT.of (by decide) (Nat.le_of_ble_eq_true rfl) ?_
  intro p e s m below meth c ls E hr hlk w hl
  have hl : lv_has ls 4 [(0, .ref (ad G v0)), (1, .ref (ad G v1))] := hl
  refine lv_iconst (v := 0) E.1 E.2.1 dX5_spares_0 rfl ?_
  refine lv_istore_n (lv' := [(2, .int 0), (0, .ref (ad G v0)), (1, .ref (ad G v1))]) E.1 E.2.1 dX5_spares_1 rfl hl (by decide) rfl (fun ls hl => ?_)
  refine lv_iconst (v := 0) E.1 E.2.1 dX5_spares_2 rfl ?_
  refine lv_istore_n (lv' := [(3, .int 0), (2, .int 0), (0, .ref (ad G v0)), (1, .ref (ad G v1))]) E.1 E.2.1 dX5_spares_3 rfl hl (by decide) rfl (fun ls hl => ?_)
  exact X5_spares_l4_w E hr hlk N _ _ _ _ _ _ _ _ hf w t_v0 t_v1 (lv_sub hl [2, 3, 1, 0] rfl)

def X5_cure_l2 (N : Nat) : Nat → HS → Nat → Nat → Int32 → Option (Int32 × HS)
  | 0, _, _, _, _ => none
  | n + 1, h, v0, v1, v2 => (if (20 : Int32) < v2 then some ((-1), h) else bd1 (X5_seat N h v0 v1 v2 (20 + v2)) fun h4 => bd2 (X5_fills N h4 v0 8) fun r6 h7 => (if r6 = 0 then X5_cure_l2 N n h7 v0 v1 (v2 + 1) else some (v2, h7)))
set_option maxRecDepth 4000 in
set_option maxHeartbeats 2000000 in
theorem X5_cure_l2_w {p : Program} {l : Launch} {e : Env} {s : State} {m : MethodId} {args : Array Value} {below : List Frame} {meth : Method} {c : Code} {G : GT} {N : Nat} {z : (Int32 × HS)} (E : CallFix p m c cX5_cure 3 s args UW RX5) (hr : meth.sig.returnType = (some .int)) (hlk : meth.locks = false) : ∀ (n : Nat) (h : HS) (H : Heap) (locs : List Loc) (ls : Array Slot) (v0 : Nat) (v1 : Nat) (v2 : Int32), X5_cure_l2 N n h v0 v1 v2 = some z → WD G s h H locs → sh v0 = 5 → sh v1 = 1 → lv_has ls 3 [(0, .ref (ad G v0)), (1, .ref (ad G v1)), (2, .int v2)] → W p l e ({ frames := 26, cells := 0, slots := 0, locals := 560 } : Room) s m args below meth c H locs 0 0 (MQ below (QC G (some (.int z.1)) z.2) args s 0 0 (AD G)) (F0 m 2 ls []) := by
  intro n
  induction n with
  | zero =>
    intro h H locs ls v0 v1 v2 hf
    cases hf
  | succ n ih =>
    intro h H locs ls v0 v1 v2 hf w t_v0 t_v1 hl
    unfold X5_cure_l2 at hf
    refine lv_iload_n E.1 E.2.1 dX5_cure_2 rfl (lv_at hl 2 rfl) ?_
    refine lv_bipush (v := 20) E.1 E.2.1 dX5_cure_3 rfl ?_
    refine lv_icmp_gt (tgt := 35) E.1 E.2.1 dX5_cure_5 (by decide) (fun c1 => ?_) (fun c1 => ?_)
    · have hf := q_pos c1 hf
      refine lv_iconst (v := (-1)) E.1 E.2.1 dX5_cure_35 rfl ?_
      have hf := Option.some.inj hf
      subst hf
      exact q_iret E w hr hlk dX5_cure_36
    · have hf := q_neg c1 hf
      refine lv_aload_n E.1 E.2.1 dX5_cure_8 rfl (lv_at hl 0 rfl) ?_
      refine lv_aload_n E.1 E.2.1 dX5_cure_9 rfl (lv_at hl 1 rfl) ?_
      refine lv_iload_n E.1 E.2.1 dX5_cure_10 rfl (lv_at hl 2 rfl) ?_
      refine lv_bipush (v := 20) E.1 E.2.1 dX5_cure_11 rfl ?_
      refine lv_iload_n E.1 E.2.1 dX5_cure_13 rfl (lv_at hl 2 rfl) ?_
      refine lv_iadd E.1 E.2.1 dX5_cure_14 ?_
      obtain ⟨h4, hc2, hf⟩ := bd1_e hf
      refine k_Vv (As := [.ref (ad G v1), .int v2, .int (20 + v2)]) (rest := []) E w t_v0 ⟨by decide, rfl⟩ (X5_seat_c t_v0 t_v1 hc2) mv_RX5_85 rfl rfl hl.1 ⟨Nat.le_of_ble_eq_true rfl, Nat.le_of_ble_eq_true rfl⟩ (Nat.le_of_ble_eq_true rfl) ⟨Nat.le_refl _, Nat.le_refl _⟩ dX5_cure_15 (fun H locs w => ?_)
      refine lv_aload_n E.1 E.2.1 dX5_cure_18 rfl (lv_at hl 0 rfl) ?_
      refine lv_bipush (v := 8) E.1 E.2.1 dX5_cure_19 rfl ?_
      obtain ⟨r6, h7, hc5, hf⟩ := bd2_e hf
      refine k_Vi (As := [.int 8]) (rest := []) E w t_v0 ⟨by decide, rfl⟩ (X5_fills_c t_v0 hc5) mv_RX5_89 rfl rfl hl.1 ⟨Nat.le_of_ble_eq_true rfl, Nat.le_of_ble_eq_true rfl⟩ (Nat.le_of_ble_eq_true rfl) ⟨Nat.le_refl _, Nat.le_refl _⟩ dX5_cure_21 (fun H locs w => ?_)
      refine lv_if_eq (tgt := 29) E.1 E.2.1 dX5_cure_24 (by decide) (fun c8 => ?_) (fun c8 => ?_)
      · have hf := q_pos c8 hf
        refine lv_iinc (v := v2 + 1) (lv' := [(2, .int (v2 + 1)), (0, .ref (ad G v0)), (1, .ref (ad G v1))]) E.1 E.2.1 dX5_cure_29 hl (k := 2) rfl rfl (by decide) rfl (fun ls hl => ?_)
        refine lv_goto (tgt := 2) E.1 E.2.1 dX5_cure_32 (by decide) ?_
        exact ih _ _ _ _ _ _ _ hf w t_v0 t_v1 (lv_sub hl [1, 2, 0] rfl)
      · have hf := q_neg c8 hf
        refine lv_iload_n E.1 E.2.1 dX5_cure_27 rfl (lv_at hl 2 rfl) ?_
        have hf := Option.some.inj hf
        subst hf
        exact q_iret E w hr hlk dX5_cure_28

def X5_cure (N : Nat) (h : HS) (v0 : Nat) (v1 : Nat) : Option (Int32 × HS) := X5_cure_l2 N N h v0 v1 0
set_option maxRecDepth 4000 in
set_option maxHeartbeats 2000000 in
theorem X5_cure_c {l : Launch} {G : GT} {N : Nat} {h : HS} {v0 : Nat} {v1 : Nat} {z : (Int32 × HS)} (t_v0 : sh v0 = 5) (t_v1 : sh v1 = 1) (hf : X5_cure N h v0 v1 = some z) : CT l G yX5_cure cX5_cure 3 (some .int) 26 560 [.ref (ad G v0), .ref (ad G v1)] h (some (.int z.1)) z.2 := by
  unfold X5_cure at hf
  refine CT.of (by decide) (Nat.le_of_ble_eq_true rfl) ?_
  intro p e s m below meth c ls E hr hlk w hl
  have hl : lv_has ls 3 [(0, .ref (ad G v0)), (1, .ref (ad G v1))] := hl
  refine lv_iconst (v := 0) E.1 E.2.1 dX5_cure_0 rfl ?_
  refine lv_istore_n (lv' := [(2, .int 0), (0, .ref (ad G v0)), (1, .ref (ad G v1))]) E.1 E.2.1 dX5_cure_1 rfl hl (by decide) rfl (fun ls hl => ?_)
  exact X5_cure_l2_w E hr hlk N _ _ _ _ _ _ _ hf w t_v0 t_v1 (lv_sub hl [1, 2, 0] rfl)

def X5_easiest_l2 (N : Nat) : Nat → HS → Nat → Nat → Int32 → Option (Int32 × HS)
  | 0, _, _, _, _ => none
  | n + 1, h, v0, v1, v2 => (if (20 : Int32) < v2 then some ((-1), h) else bd1 (X5_seat N h v0 v1 0 v2) fun h4 => bd2 (X5_fills N h4 v0 8) fun r6 h7 => (if r6 = 0 then X5_easiest_l2 N n h7 v0 v1 (v2 + 1) else some (v2, h7)))
set_option maxRecDepth 4000 in
set_option maxHeartbeats 2000000 in
theorem X5_easiest_l2_w {p : Program} {l : Launch} {e : Env} {s : State} {m : MethodId} {args : Array Value} {below : List Frame} {meth : Method} {c : Code} {G : GT} {N : Nat} {z : (Int32 × HS)} (E : CallFix p m c cX5_easiest 3 s args UW RX5) (hr : meth.sig.returnType = (some .int)) (hlk : meth.locks = false) : ∀ (n : Nat) (h : HS) (H : Heap) (locs : List Loc) (ls : Array Slot) (v0 : Nat) (v1 : Nat) (v2 : Int32), X5_easiest_l2 N n h v0 v1 v2 = some z → WD G s h H locs → sh v0 = 5 → sh v1 = 1 → lv_has ls 3 [(0, .ref (ad G v0)), (1, .ref (ad G v1)), (2, .int v2)] → W p l e ({ frames := 26, cells := 0, slots := 0, locals := 560 } : Room) s m args below meth c H locs 0 0 (MQ below (QC G (some (.int z.1)) z.2) args s 0 0 (AD G)) (F0 m 2 ls []) := by
  intro n
  induction n with
  | zero =>
    intro h H locs ls v0 v1 v2 hf
    cases hf
  | succ n ih =>
    intro h H locs ls v0 v1 v2 hf w t_v0 t_v1 hl
    unfold X5_easiest_l2 at hf
    refine lv_iload_n E.1 E.2.1 dX5_easiest_2 rfl (lv_at hl 2 rfl) ?_
    refine lv_bipush (v := 20) E.1 E.2.1 dX5_easiest_3 rfl ?_
    refine lv_icmp_gt (tgt := 32) E.1 E.2.1 dX5_easiest_5 (by decide) (fun c1 => ?_) (fun c1 => ?_)
    · have hf := q_pos c1 hf
      refine lv_iconst (v := (-1)) E.1 E.2.1 dX5_easiest_32 rfl ?_
      have hf := Option.some.inj hf
      subst hf
      exact q_iret E w hr hlk dX5_easiest_33
    · have hf := q_neg c1 hf
      refine lv_aload_n E.1 E.2.1 dX5_easiest_8 rfl (lv_at hl 0 rfl) ?_
      refine lv_aload_n E.1 E.2.1 dX5_easiest_9 rfl (lv_at hl 1 rfl) ?_
      refine lv_iconst (v := 0) E.1 E.2.1 dX5_easiest_10 rfl ?_
      refine lv_iload_n E.1 E.2.1 dX5_easiest_11 rfl (lv_at hl 2 rfl) ?_
      obtain ⟨h4, hc2, hf⟩ := bd1_e hf
      refine k_Vv (As := [.ref (ad G v1), .int 0, .int v2]) (rest := []) E w t_v0 ⟨by decide, rfl⟩ (X5_seat_c t_v0 t_v1 hc2) mv_RX5_85 rfl rfl hl.1 ⟨Nat.le_of_ble_eq_true rfl, Nat.le_of_ble_eq_true rfl⟩ (Nat.le_of_ble_eq_true rfl) ⟨Nat.le_refl _, Nat.le_refl _⟩ dX5_easiest_12 (fun H locs w => ?_)
      refine lv_aload_n E.1 E.2.1 dX5_easiest_15 rfl (lv_at hl 0 rfl) ?_
      refine lv_bipush (v := 8) E.1 E.2.1 dX5_easiest_16 rfl ?_
      obtain ⟨r6, h7, hc5, hf⟩ := bd2_e hf
      refine k_Vi (As := [.int 8]) (rest := []) E w t_v0 ⟨by decide, rfl⟩ (X5_fills_c t_v0 hc5) mv_RX5_89 rfl rfl hl.1 ⟨Nat.le_of_ble_eq_true rfl, Nat.le_of_ble_eq_true rfl⟩ (Nat.le_of_ble_eq_true rfl) ⟨Nat.le_refl _, Nat.le_refl _⟩ dX5_easiest_18 (fun H locs w => ?_)
      refine lv_if_eq (tgt := 26) E.1 E.2.1 dX5_easiest_21 (by decide) (fun c8 => ?_) (fun c8 => ?_)
      · have hf := q_pos c8 hf
        refine lv_iinc (v := v2 + 1) (lv' := [(2, .int (v2 + 1)), (0, .ref (ad G v0)), (1, .ref (ad G v1))]) E.1 E.2.1 dX5_easiest_26 hl (k := 2) rfl rfl (by decide) rfl (fun ls hl => ?_)
        refine lv_goto (tgt := 2) E.1 E.2.1 dX5_easiest_29 (by decide) ?_
        exact ih _ _ _ _ _ _ _ hf w t_v0 t_v1 (lv_sub hl [1, 2, 0] rfl)
      · have hf := q_neg c8 hf
        refine lv_iload_n E.1 E.2.1 dX5_easiest_24 rfl (lv_at hl 2 rfl) ?_
        have hf := Option.some.inj hf
        subst hf
        exact q_iret E w hr hlk dX5_easiest_25

def X5_easiest (N : Nat) (h : HS) (v0 : Nat) (v1 : Nat) : Option (Int32 × HS) := X5_easiest_l2 N N h v0 v1 0
set_option maxRecDepth 4000 in
set_option maxHeartbeats 2000000 in
theorem X5_easiest_c {l : Launch} {G : GT} {N : Nat} {h : HS} {v0 : Nat} {v1 : Nat} {z : (Int32 × HS)} (t_v0 : sh v0 = 5) (t_v1 : sh v1 = 1) (hf : X5_easiest N h v0 v1 = some z) : CT l G yX5_easiest cX5_easiest 3 (some .int) 26 560 [.ref (ad G v0), .ref (ad G v1)] h (some (.int z.1)) z.2 := by
  unfold X5_easiest at hf
  refine CT.of (by decide) (Nat.le_of_ble_eq_true rfl) ?_
  intro p e s m below meth c ls E hr hlk w hl
  have hl : lv_has ls 3 [(0, .ref (ad G v0)), (1, .ref (ad G v1))] := hl
  refine lv_iconst (v := 0) E.1 E.2.1 dX5_easiest_0 rfl ?_
  refine lv_istore_n (lv' := [(2, .int 0), (0, .ref (ad G v0)), (1, .ref (ad G v1))]) E.1 E.2.1 dX5_easiest_1 rfl hl (by decide) rfl (fun ls hl => ?_)
  exact X5_easiest_l2_w E hr hlk N _ _ _ _ _ _ _ hf w t_v0 t_v1 (lv_sub hl [1, 2, 0] rfl)

def X5_hired_l2 (N : Nat) : Nat → HS → Nat → Nat → Int32 → Option (Int32 × HS)
  | 0, _, _, _, _ => none
  | n + 1, h, v0, v1, v2 => (if (20 : Int32) < v2 then some ((-1), h) else bd1 (X5_seat N h v0 v1 0 20) fun h4 => bd1 (X5_takeIn N h4 v0 v2) fun h7 => bd2 (X5_fills N h7 v0 8) fun r9 h10 => (if r9 = 0 then X5_hired_l2 N n h10 v0 v1 (v2 + 1) else some (v2, h10)))
set_option maxRecDepth 4000 in
set_option maxHeartbeats 2000000 in
theorem X5_hired_l2_w {p : Program} {l : Launch} {e : Env} {s : State} {m : MethodId} {args : Array Value} {below : List Frame} {meth : Method} {c : Code} {G : GT} {N : Nat} {z : (Int32 × HS)} (E : CallFix p m c cX5_hired 3 s args UW RX5) (hr : meth.sig.returnType = (some .int)) (hlk : meth.locks = false) : ∀ (n : Nat) (h : HS) (H : Heap) (locs : List Loc) (ls : Array Slot) (v0 : Nat) (v1 : Nat) (v2 : Int32), X5_hired_l2 N n h v0 v1 v2 = some z → WD G s h H locs → sh v0 = 5 → sh v1 = 1 → lv_has ls 3 [(0, .ref (ad G v0)), (1, .ref (ad G v1)), (2, .int v2)] → W p l e ({ frames := 26, cells := 0, slots := 0, locals := 560 } : Room) s m args below meth c H locs 0 0 (MQ below (QC G (some (.int z.1)) z.2) args s 0 0 (AD G)) (F0 m 2 ls []) := by
  intro n
  induction n with
  | zero =>
    intro h H locs ls v0 v1 v2 hf
    cases hf
  | succ n ih =>
    intro h H locs ls v0 v1 v2 hf w t_v0 t_v1 hl
    unfold X5_hired_l2 at hf
    refine lv_iload_n E.1 E.2.1 dX5_hired_2 rfl (lv_at hl 2 rfl) ?_
    refine lv_bipush (v := 20) E.1 E.2.1 dX5_hired_3 rfl ?_
    refine lv_icmp_gt (tgt := 38) E.1 E.2.1 dX5_hired_5 (by decide) (fun c1 => ?_) (fun c1 => ?_)
    · have hf := q_pos c1 hf
      refine lv_iconst (v := (-1)) E.1 E.2.1 dX5_hired_38 rfl ?_
      have hf := Option.some.inj hf
      subst hf
      exact q_iret E w hr hlk dX5_hired_39
    · have hf := q_neg c1 hf
      refine lv_aload_n E.1 E.2.1 dX5_hired_8 rfl (lv_at hl 0 rfl) ?_
      refine lv_aload_n E.1 E.2.1 dX5_hired_9 rfl (lv_at hl 1 rfl) ?_
      refine lv_iconst (v := 0) E.1 E.2.1 dX5_hired_10 rfl ?_
      refine lv_bipush (v := 20) E.1 E.2.1 dX5_hired_11 rfl ?_
      obtain ⟨h4, hc2, hf⟩ := bd1_e hf
      refine k_Vv (As := [.ref (ad G v1), .int 0, .int 20]) (rest := []) E w t_v0 ⟨by decide, rfl⟩ (X5_seat_c t_v0 t_v1 hc2) mv_RX5_85 rfl rfl hl.1 ⟨Nat.le_of_ble_eq_true rfl, Nat.le_of_ble_eq_true rfl⟩ (Nat.le_of_ble_eq_true rfl) ⟨Nat.le_refl _, Nat.le_refl _⟩ dX5_hired_13 (fun H locs w => ?_)
      refine lv_aload_n E.1 E.2.1 dX5_hired_16 rfl (lv_at hl 0 rfl) ?_
      refine lv_iload_n E.1 E.2.1 dX5_hired_17 rfl (lv_at hl 2 rfl) ?_
      obtain ⟨h7, hc5, hf⟩ := bd1_e hf
      refine k_Vv (As := [.int v2]) (rest := []) E w t_v0 ⟨by decide, rfl⟩ (X5_takeIn_c t_v0 hc5) mv_RX5_108 rfl rfl hl.1 ⟨Nat.le_of_ble_eq_true rfl, Nat.le_of_ble_eq_true rfl⟩ (Nat.le_of_ble_eq_true rfl) ⟨Nat.le_refl _, Nat.le_refl _⟩ dX5_hired_18 (fun H locs w => ?_)
      refine lv_aload_n E.1 E.2.1 dX5_hired_21 rfl (lv_at hl 0 rfl) ?_
      refine lv_bipush (v := 8) E.1 E.2.1 dX5_hired_22 rfl ?_
      obtain ⟨r9, h10, hc8, hf⟩ := bd2_e hf
      refine k_Vi (As := [.int 8]) (rest := []) E w t_v0 ⟨by decide, rfl⟩ (X5_fills_c t_v0 hc8) mv_RX5_89 rfl rfl hl.1 ⟨Nat.le_of_ble_eq_true rfl, Nat.le_of_ble_eq_true rfl⟩ (Nat.le_of_ble_eq_true rfl) ⟨Nat.le_refl _, Nat.le_refl _⟩ dX5_hired_24 (fun H locs w => ?_)
      refine lv_if_eq (tgt := 32) E.1 E.2.1 dX5_hired_27 (by decide) (fun c11 => ?_) (fun c11 => ?_)
      · have hf := q_pos c11 hf
        refine lv_iinc (v := v2 + 1) (lv' := [(2, .int (v2 + 1)), (0, .ref (ad G v0)), (1, .ref (ad G v1))]) E.1 E.2.1 dX5_hired_32 hl (k := 2) rfl rfl (by decide) rfl (fun ls hl => ?_)
        refine lv_goto (tgt := 2) E.1 E.2.1 dX5_hired_35 (by decide) ?_
        exact ih _ _ _ _ _ _ _ hf w t_v0 t_v1 (lv_sub hl [1, 2, 0] rfl)
      · have hf := q_neg c11 hf
        refine lv_iload_n E.1 E.2.1 dX5_hired_30 rfl (lv_at hl 2 rfl) ?_
        have hf := Option.some.inj hf
        subst hf
        exact q_iret E w hr hlk dX5_hired_31

def X5_hired (N : Nat) (h : HS) (v0 : Nat) (v1 : Nat) : Option (Int32 × HS) := X5_hired_l2 N N h v0 v1 0
set_option maxRecDepth 4000 in
set_option maxHeartbeats 2000000 in
theorem X5_hired_c {l : Launch} {G : GT} {N : Nat} {h : HS} {v0 : Nat} {v1 : Nat} {z : (Int32 × HS)} (t_v0 : sh v0 = 5) (t_v1 : sh v1 = 1) (hf : X5_hired N h v0 v1 = some z) : CT l G yX5_hired cX5_hired 3 (some .int) 26 560 [.ref (ad G v0), .ref (ad G v1)] h (some (.int z.1)) z.2 := by
  unfold X5_hired at hf
  refine CT.of (by decide) (Nat.le_of_ble_eq_true rfl) ?_
  intro p e s m below meth c ls E hr hlk w hl
  have hl : lv_has ls 3 [(0, .ref (ad G v0)), (1, .ref (ad G v1))] := hl
  refine lv_iconst (v := 0) E.1 E.2.1 dX5_hired_0 rfl ?_
  refine lv_istore_n (lv' := [(2, .int 0), (0, .ref (ad G v0)), (1, .ref (ad G v1))]) E.1 E.2.1 dX5_hired_1 rfl hl (by decide) rfl (fun ls hl => ?_)
  exact X5_hired_l2_w E hr hlk N _ _ _ _ _ _ _ hf w t_v0 t_v1 (lv_sub hl [1, 2, 0] rfl)

def X2_agree_b26 (N : Nat) (h : HS) (K2 : Int32 → Nat → Int32 → Option Int32) (v0 : Int32) (v1 : Nat) (v2 : Int32) (u0 : Int32) : Option Int32 := bd1 (X10_at N h (v1 + 2) v2) fun r7 => (if ((v0 >>> (r7 &&& 31)) &&& 1) = 0 then (if u0 = (1 : Int32) then K2 v0 v1 (v2 + 1) else some (nz 0)) else (if u0 = (0 : Int32) then K2 v0 v1 (v2 + 1) else some (nz 0)))
set_option maxRecDepth 4000 in
set_option maxHeartbeats 2000000 in
theorem X2_agree_b26_w {p : Program} {l : Launch} {e : Env} {s : State} {m : MethodId} {args : Array Value} {below : List Frame} {meth : Method} {c : Code} {G : GT} {N : Nat} {z : Int32} {h : HS} (E : CallFix p m c cX2_agree 5 s args UW RX2) (hr : meth.sig.returnType = (some .boolean)) (hlk : meth.locks = false) {K2 : Int32 → Nat → Int32 → Option Int32} (hK2 : ∀ (H : Heap) (locs : List Loc) (ls : Array Slot) (v0 : Int32) (v1 : Nat) (v2 : Int32), K2 v0 v1 v2 = some z → WD G s h H locs → sh v1 = 6 → lv_has ls 5 [(0, .int v0), (1, .ref (ad G v1)), (2, .int v2)] → W p l e ({ frames := 1, cells := 0, slots := 0, locals := 21 } : Room) s m args below meth c H locs 0 0 (MQ below (QC G (some (.int z)) h) args s 0 0 (AD G)) (F0 m 2 ls [])) {H : Heap} {locs : List Loc} {ls : Array Slot} {v0 : Int32} {v1 : Nat} {v2 : Int32} {u0 : Int32} (hf : X2_agree_b26 N h K2 v0 v1 v2 u0 = some z) (w : WD G s h H locs) (t_v1 : sh v1 = 6) (hl : lv_has ls 5 [(0, .int v0), (1, .ref (ad G v1)), (2, .int v2)]) : W p l e ({ frames := 1, cells := 0, slots := 0, locals := 21 } : Room) s m args below meth c H locs 0 0 (MQ below (QC G (some (.int z)) h) args s 0 0 (AD G)) (F0 m 26 ls [.int u0]) := by
  unfold X2_agree_b26 at hf
  refine lv_istore_n (lv' := [(3, .int u0), (0, .int v0), (1, .ref (ad G v1)), (2, .int v2)]) E.1 E.2.1 dX2_agree_26 rfl hl (by decide) rfl (fun ls hl => ?_)
  refine lv_iload_n E.1 E.2.1 dX2_agree_27 rfl (lv_at hl 1 rfl) ?_
  refine lv_aload_n E.1 E.2.1 dX2_agree_28 rfl (lv_at hl 2 rfl) ?_
  refine q_gs E w 2 t_v1 fl_RX2_47 dX2_agree_29 ?_
  refine lv_iload_n E.1 E.2.1 dX2_agree_32 rfl (lv_at hl 3 rfl) ?_
  obtain ⟨r7, hc6, hf⟩ := bd1_e hf
  refine k_Ni (As := [.ref (ad G (v1 + 2)), .int v2]) (rest := [.int v0]) E w (X10_at_c ((lay_6_2 t_v1).1) hc6) mn_RX2_43 rfl rfl hl.1 ⟨Nat.le_of_ble_eq_true rfl, Nat.le_of_ble_eq_true rfl⟩ (Nat.le_of_ble_eq_true rfl) ⟨Nat.le_refl _, Nat.le_refl _⟩ dX2_agree_33 (fun H locs w => ?_)
  refine lv_ishr E.1 E.2.1 dX2_agree_36 ?_
  refine lv_iconst (v := 1) E.1 E.2.1 dX2_agree_37 rfl ?_
  refine lv_iand E.1 E.2.1 dX2_agree_38 ?_
  refine lv_if_ne (tgt := 46) E.1 E.2.1 dX2_agree_39 (by decide) (fun c9 => ?_) (fun c9 => ?_)
  · have hf := q_neg c9 hf
    refine lv_iconst (v := 0) E.1 E.2.1 dX2_agree_46 rfl ?_
    refine lv_istore (lv' := [(4, .int 0), (3, .int u0), (0, .int v0), (1, .ref (ad G v1)), (2, .int v2)]) E.1 E.2.1 dX2_agree_47 hl (by decide) rfl (fun ls hl => ?_)
    refine lv_iload_n E.1 E.2.1 dX2_agree_49 rfl (lv_at hl 1 rfl) ?_
    refine lv_iload E.1 E.2.1 dX2_agree_50 (lv_at hl 0 rfl) ?_
    refine lv_icmp_eq (tgt := 57) E.1 E.2.1 dX2_agree_52 (by decide) (fun c10 => ?_) (fun c10 => ?_)
    · have hf := q_pos c10 hf
      refine lv_iinc (v := v2 + 1) (lv' := [(2, .int (v2 + 1)), (4, .int 0), (3, .int u0), (0, .int v0), (1, .ref (ad G v1))]) E.1 E.2.1 dX2_agree_57 hl (k := 4) rfl rfl (by decide) rfl (fun ls hl => ?_)
      refine lv_goto (tgt := 2) E.1 E.2.1 dX2_agree_60 (by decide) ?_
      exact hK2 _ _ _ _ _ _ hf w t_v1 (lv_sub hl [3, 4, 0] rfl)
    · have hf := q_neg c10 hf
      refine lv_iconst (v := 0) E.1 E.2.1 dX2_agree_55 rfl ?_
      have hf := Option.some.inj hf
      subst hf
      exact q_zret E w hr hlk dX2_agree_56
  · have hf := q_pos c9 hf
    refine lv_iconst (v := 1) E.1 E.2.1 dX2_agree_42 rfl ?_
    refine lv_goto (tgt := 47) E.1 E.2.1 dX2_agree_43 (by decide) ?_
    refine lv_istore (lv' := [(4, .int 1), (3, .int u0), (0, .int v0), (1, .ref (ad G v1)), (2, .int v2)]) E.1 E.2.1 dX2_agree_47 hl (by decide) rfl (fun ls hl => ?_)
    refine lv_iload_n E.1 E.2.1 dX2_agree_49 rfl (lv_at hl 1 rfl) ?_
    refine lv_iload E.1 E.2.1 dX2_agree_50 (lv_at hl 0 rfl) ?_
    refine lv_icmp_eq (tgt := 57) E.1 E.2.1 dX2_agree_52 (by decide) (fun c11 => ?_) (fun c11 => ?_)
    · have hf := q_pos c11 hf
      refine lv_iinc (v := v2 + 1) (lv' := [(2, .int (v2 + 1)), (4, .int 1), (3, .int u0), (0, .int v0), (1, .ref (ad G v1))]) E.1 E.2.1 dX2_agree_57 hl (k := 4) rfl rfl (by decide) rfl (fun ls hl => ?_)
      refine lv_goto (tgt := 2) E.1 E.2.1 dX2_agree_60 (by decide) ?_
      exact hK2 _ _ _ _ _ _ hf w t_v1 (lv_sub hl [3, 4, 0] rfl)
    · have hf := q_neg c11 hf
      refine lv_iconst (v := 0) E.1 E.2.1 dX2_agree_55 rfl ?_
      have hf := Option.some.inj hf
      subst hf
      exact q_zret E w hr hlk dX2_agree_56

def X2_agree_l2 (N : Nat) (h : HS) : Nat → Int32 → Nat → Int32 → Option Int32
  | 0, _, _, _ => none
  | n + 1, v0, v1, v2 => (if (h.1 v1 3) ≤ v2 then some (nz 1) else bd1 (X10_at N h (v1 + 1) v2) fun r3 => (if r3 = 0 then X2_agree_b26 N h (X2_agree_l2 N h n) v0 v1 v2 0 else X2_agree_b26 N h (X2_agree_l2 N h n) v0 v1 v2 1))
set_option maxRecDepth 4000 in
set_option maxHeartbeats 2000000 in
theorem X2_agree_l2_w {p : Program} {l : Launch} {e : Env} {s : State} {m : MethodId} {args : Array Value} {below : List Frame} {meth : Method} {c : Code} {G : GT} {N : Nat} {h : HS} {z : Int32} (E : CallFix p m c cX2_agree 5 s args UW RX2) (hr : meth.sig.returnType = (some .boolean)) (hlk : meth.locks = false) : ∀ (n : Nat) (H : Heap) (locs : List Loc) (ls : Array Slot) (v0 : Int32) (v1 : Nat) (v2 : Int32), X2_agree_l2 N h n v0 v1 v2 = some z → WD G s h H locs → sh v1 = 6 → lv_has ls 5 [(0, .int v0), (1, .ref (ad G v1)), (2, .int v2)] → W p l e ({ frames := 1, cells := 0, slots := 0, locals := 21 } : Room) s m args below meth c H locs 0 0 (MQ below (QC G (some (.int z)) h) args s 0 0 (AD G)) (F0 m 2 ls []) := by
  intro n
  induction n with
  | zero =>
    intro H locs ls v0 v1 v2 hf
    cases hf
  | succ n ih =>
    intro H locs ls v0 v1 v2 hf w t_v1 hl
    unfold X2_agree_l2 at hf
    refine lv_iload_n E.1 E.2.1 dX2_agree_2 rfl (lv_at hl 2 rfl) ?_
    refine lv_aload_n E.1 E.2.1 dX2_agree_3 rfl (lv_at hl 1 rfl) ?_
    refine q_gi E w t_v1 fl_RX2_35 dX2_agree_4 ?_
    refine lv_icmp_ge (tgt := 63) E.1 E.2.1 dX2_agree_7 (by decide) (fun c1 => ?_) (fun c1 => ?_)
    · have hf := q_pos c1 hf
      refine lv_iconst (v := 1) E.1 E.2.1 dX2_agree_63 rfl ?_
      have hf := Option.some.inj hf
      subst hf
      exact q_zret E w hr hlk dX2_agree_64
    · have hf := q_neg c1 hf
      refine lv_aload_n E.1 E.2.1 dX2_agree_10 rfl (lv_at hl 1 rfl) ?_
      refine q_gs E w 1 t_v1 fl_RX2_40 dX2_agree_11 ?_
      refine lv_iload_n E.1 E.2.1 dX2_agree_14 rfl (lv_at hl 2 rfl) ?_
      obtain ⟨r3, hc2, hf⟩ := bd1_e hf
      refine k_Ni (As := [.ref (ad G (v1 + 1)), .int v2]) (rest := []) E w (X10_at_c ((lay_6_1 t_v1).1) hc2) mn_RX2_43 rfl rfl hl.1 ⟨Nat.le_of_ble_eq_true rfl, Nat.le_of_ble_eq_true rfl⟩ (Nat.le_of_ble_eq_true rfl) ⟨Nat.le_refl _, Nat.le_refl _⟩ dX2_agree_15 (fun H locs w => ?_)
      refine lv_if_eq (tgt := 25) E.1 E.2.1 dX2_agree_18 (by decide) (fun c5 => ?_) (fun c5 => ?_)
      · have hf := q_pos c5 hf
        refine lv_iconst (v := 0) E.1 E.2.1 dX2_agree_25 rfl ?_
        exact X2_agree_b26_w E hr hlk ih hf w t_v1 (lv_sub hl [0, 1, 2] rfl)
      · have hf := q_neg c5 hf
        refine lv_iconst (v := 1) E.1 E.2.1 dX2_agree_21 rfl ?_
        refine lv_goto (tgt := 26) E.1 E.2.1 dX2_agree_22 (by decide) ?_
        exact X2_agree_b26_w E hr hlk ih hf w t_v1 (lv_sub hl [0, 1, 2] rfl)

def X2_agree (N : Nat) (h : HS) (v0 : Int32) (v1 : Nat) : Option Int32 := X2_agree_l2 N h N v0 v1 0
set_option maxRecDepth 4000 in
set_option maxHeartbeats 2000000 in
theorem X2_agree_c {l : Launch} {G : GT} {N : Nat} {h : HS} {v0 : Int32} {v1 : Nat} {z : Int32} (t_v1 : sh v1 = 6) (hf : X2_agree N h v0 v1 = some z) : CT l G yX2_agree cX2_agree 5 (some .boolean) 1 21 [.int v0, .ref (ad G v1)] h (some (.int z)) h := by
  unfold X2_agree at hf
  refine CT.of (by decide) (Nat.le_of_ble_eq_true rfl) ?_
  intro p e s m below meth c ls E hr hlk w hl
  have hl : lv_has ls 5 [(0, .int v0), (1, .ref (ad G v1))] := hl
  refine lv_iconst (v := 0) E.1 E.2.1 dX2_agree_0 rfl ?_
  refine lv_istore_n (lv' := [(2, .int 0), (0, .int v0), (1, .ref (ad G v1))]) E.1 E.2.1 dX2_agree_1 rfl hl (by decide) rfl (fun ls hl => ?_)
  exact X2_agree_l2_w E hr hlk N _ _ _ _ _ _ hf w t_v1 (lv_sub hl [1, 2, 0] rfl)

def X2_judge_b62 (N : Nat) (h : HS) (K8 : HS → Nat → Nat → Nat → Nat → Int32 → Option HS) (v0 : Nat) (v1 : Nat) (v2 : Nat) (v3 : Nat) (v4 : Int32) : Option HS := (if v4 < 0 ∨ 6 ≤ v4.toNatClampNeg then none else bd1 (X2_agree N h (h.1 (v0 + 1) v4.toNatClampNeg) v2) fun r13 => (if r13 = 0 then K8 h v0 v1 v2 v3 (v4 + 1) else sq (wi h v0 1 ((h.1 v0 1) ||| ((1 : Int32) <<< (v4 &&& 31)))) fun h16 => K8 h16 v0 v1 v2 v3 (v4 + 1)))
set_option maxRecDepth 4000 in
set_option maxHeartbeats 2000000 in
theorem X2_judge_b62_w {p : Program} {l : Launch} {e : Env} {s : State} {m : MethodId} {args : Array Value} {below : List Frame} {meth : Method} {c : Code} {G : GT} {N : Nat} {z : HS} {h : HS} (E : CallFix p m c cX2_judge 5 s args UW RX2) (hr : meth.sig.returnType = none) (hlk : meth.locks = false) {K8 : HS → Nat → Nat → Nat → Nat → Int32 → Option HS} (hK8 : ∀ (h : HS) (H : Heap) (locs : List Loc) (ls : Array Slot) (v0 : Nat) (v1 : Nat) (v2 : Nat) (v3 : Nat) (v4 : Int32), K8 h v0 v1 v2 v3 v4 = some z → WD G s h H locs → sh v0 = 2 → sh v1 = 1 → sh v2 = 6 → sh v3 = 5 → lv_has ls 5 [(0, .ref (ad G v0)), (1, .ref (ad G v1)), (2, .ref (ad G v2)), (3, .ref (ad G v3)), (4, .int v4)] → W p l e ({ frames := 3, cells := 0, slots := 0, locals := 65 } : Room) s m args below meth c H locs 0 0 (MQ below (QC G none z) args s 0 0 (AD G)) (F0 m 8 ls [])) {H : Heap} {locs : List Loc} {ls : Array Slot} {v0 : Nat} {v1 : Nat} {v2 : Nat} {v3 : Nat} {v4 : Int32} (hf : X2_judge_b62 N h K8 v0 v1 v2 v3 v4 = some z) (w : WD G s h H locs) (t_v0 : sh v0 = 2) (t_v1 : sh v1 = 1) (t_v2 : sh v2 = 6) (t_v3 : sh v3 = 5) (hl : lv_has ls 5 [(0, .ref (ad G v0)), (1, .ref (ad G v1)), (2, .ref (ad G v2)), (3, .ref (ad G v3)), (4, .int v4)]) : W p l e ({ frames := 3, cells := 0, slots := 0, locals := 65 } : Room) s m args below meth c H locs 0 0 (MQ below (QC G none z) args s 0 0 (AD G)) (F0 m 62 ls []) := by
  unfold X2_judge_b62 at hf
  refine lv_aload_n E.1 E.2.1 dX2_judge_62 rfl (lv_at hl 0 rfl) ?_
  refine q_gs E w 1 t_v0 fl_RX2_9 dX2_judge_63 ?_
  refine lv_iload E.1 E.2.1 dX2_judge_66 (lv_at hl 4 rfl) ?_
  obtain ⟨b11, hf⟩ := q_if hf
  refine q_iald E w ((lay_2_0 t_v0).1) ((lay_2_0 t_v0).2) b11 dX2_judge_68 ?_
  refine lv_aload_n E.1 E.2.1 dX2_judge_69 rfl (lv_at hl 2 rfl) ?_
  obtain ⟨r13, hc12, hf⟩ := bd1_e hf
  refine k_Si (As := [.int (h.1 (v0 + 1) v4.toNatClampNeg), .ref (ad G v2)]) (rest := []) E w (X2_agree_c t_v2 hc12) ms_RX2_31 rfl rfl hl.1 ⟨Nat.le_of_ble_eq_true rfl, Nat.le_of_ble_eq_true rfl⟩ (Nat.le_of_ble_eq_true rfl) ⟨Nat.le_refl _, Nat.le_refl _⟩ dX2_judge_70 (fun H locs w => ?_)
  refine lv_if_eq (tgt := 89) E.1 E.2.1 dX2_judge_73 (by decide) (fun c15 => ?_) (fun c15 => ?_)
  · have hf := q_pos c15 hf
    refine lv_iinc (v := v4 + 1) (lv' := [(4, .int (v4 + 1)), (0, .ref (ad G v0)), (1, .ref (ad G v1)), (2, .ref (ad G v2)), (3, .ref (ad G v3))]) E.1 E.2.1 dX2_judge_89 hl (k := 4) rfl rfl (by decide) rfl (fun ls hl => ?_)
    refine lv_goto (tgt := 8) E.1 E.2.1 dX2_judge_92 (by decide) ?_
    exact hK8 _ _ _ _ _ _ _ _ _ hf w t_v0 t_v1 t_v2 t_v3 (lv_sub hl [1, 2, 3, 4, 0] rfl)
  · have hf := q_neg c15 hf
    refine lv_aload_n E.1 E.2.1 dX2_judge_76 rfl (lv_at hl 0 rfl) ?_
    refine lv_dup E.1 E.2.1 dX2_judge_77 rfl ?_
    refine q_gi E w t_v0 fl_RX2_15 dX2_judge_78 ?_
    refine lv_iconst (v := 1) E.1 E.2.1 dX2_judge_81 rfl ?_
    refine lv_iload E.1 E.2.1 dX2_judge_82 (lv_at hl 4 rfl) ?_
    refine lv_ishl E.1 E.2.1 dX2_judge_84 ?_
    refine lv_ior E.1 E.2.1 dX2_judge_85 ?_
    refine p_pi E w t_v0 fl_RX2_15 (fp_2_1 _) dX2_judge_86 (fun h16 H locs eh w => ?_)
    have hf := sq_e eh hf
    clear eh
    refine lv_iinc (v := v4 + 1) (lv' := [(4, .int (v4 + 1)), (0, .ref (ad G v0)), (1, .ref (ad G v1)), (2, .ref (ad G v2)), (3, .ref (ad G v3))]) E.1 E.2.1 dX2_judge_89 hl (k := 4) rfl rfl (by decide) rfl (fun ls hl => ?_)
    refine lv_goto (tgt := 8) E.1 E.2.1 dX2_judge_92 (by decide) ?_
    exact hK8 _ _ _ _ _ _ _ _ _ hf w t_v0 t_v1 t_v2 t_v3 (lv_sub hl [1, 2, 3, 4, 0] rfl)

def X2_judge_l8 (N : Nat) : Nat → HS → Nat → Nat → Nat → Nat → Int32 → Option HS
  | 0, _, _, _, _, _, _ => none
  | n + 1, h, v0, v1, v2, v3, v4 => (if (5 : Int32) < v4 then some h else (if (nI (ln (v0 + 1))) ≤ v4 then some h else (if v4 = (5 : Int32) then (if v4 < 0 ∨ 6 ≤ v4.toNatClampNeg then none else sq (wi h (v0 + 1) v4.toNatClampNeg 0) fun h22 => (if v4 = (5 : Int32) then X2_judge_b62 N h22 (X2_judge_l8 N n) v0 v1 v2 v3 v4 else bd1 (X1_hasSinger N h22 v1 v4) fun r25 => (if r25 = 0 then X2_judge_l8 N n h22 v0 v1 v2 v3 (v4 + 1) else X2_judge_b62 N h22 (X2_judge_l8 N n) v0 v1 v2 v3 v4))) else bd1 (X5_coldDreams N h v3 v4) fun r6 => (if v4 < 0 ∨ 6 ≤ v4.toNatClampNeg then none else sq (wi h (v0 + 1) v4.toNatClampNeg r6) fun h9 => (if v4 = (5 : Int32) then X2_judge_b62 N h9 (X2_judge_l8 N n) v0 v1 v2 v3 v4 else bd1 (X1_hasSinger N h9 v1 v4) fun r18 => (if r18 = 0 then X2_judge_l8 N n h9 v0 v1 v2 v3 (v4 + 1) else X2_judge_b62 N h9 (X2_judge_l8 N n) v0 v1 v2 v3 v4))))))
set_option maxRecDepth 4000 in
set_option maxHeartbeats 2000000 in
theorem X2_judge_l8_w {p : Program} {l : Launch} {e : Env} {s : State} {m : MethodId} {args : Array Value} {below : List Frame} {meth : Method} {c : Code} {G : GT} {N : Nat} {z : HS} (E : CallFix p m c cX2_judge 5 s args UW RX2) (hr : meth.sig.returnType = none) (hlk : meth.locks = false) : ∀ (n : Nat) (h : HS) (H : Heap) (locs : List Loc) (ls : Array Slot) (v0 : Nat) (v1 : Nat) (v2 : Nat) (v3 : Nat) (v4 : Int32), X2_judge_l8 N n h v0 v1 v2 v3 v4 = some z → WD G s h H locs → sh v0 = 2 → sh v1 = 1 → sh v2 = 6 → sh v3 = 5 → lv_has ls 5 [(0, .ref (ad G v0)), (1, .ref (ad G v1)), (2, .ref (ad G v2)), (3, .ref (ad G v3)), (4, .int v4)] → W p l e ({ frames := 3, cells := 0, slots := 0, locals := 65 } : Room) s m args below meth c H locs 0 0 (MQ below (QC G none z) args s 0 0 (AD G)) (F0 m 8 ls []) := by
  intro n
  induction n with
  | zero =>
    intro h H locs ls v0 v1 v2 v3 v4 hf
    cases hf
  | succ n ih =>
    intro h H locs ls v0 v1 v2 v3 v4 hf w t_v0 t_v1 t_v2 t_v3 hl
    unfold X2_judge_l8 at hf
    refine lv_iload E.1 E.2.1 dX2_judge_8 (lv_at hl 4 rfl) ?_
    refine lv_iconst (v := 5) E.1 E.2.1 dX2_judge_10 rfl ?_
    refine lv_icmp_gt (tgt := 95) E.1 E.2.1 dX2_judge_11 (by decide) (fun c2 => ?_) (fun c2 => ?_)
    · have hf := q_pos c2 hf
      have hf := Option.some.inj hf
      subst hf
      exact q_vret E w hr hlk dX2_judge_95
    · have hf := q_neg c2 hf
      refine lv_iload E.1 E.2.1 dX2_judge_14 (lv_at hl 4 rfl) ?_
      refine lv_aload_n E.1 E.2.1 dX2_judge_16 rfl (lv_at hl 0 rfl) ?_
      refine q_gs E w 1 t_v0 fl_RX2_9 dX2_judge_17 ?_
      refine q_alen (t := 1) E w ((lay_2_0 t_v0).1) (by decide) dX2_judge_20 ?_
      refine lv_icmp_ge (tgt := 95) E.1 E.2.1 dX2_judge_21 (by decide) (fun c3 => ?_) (fun c3 => ?_)
      · have hf := q_pos c3 hf
        have hf := Option.some.inj hf
        subst hf
        exact q_vret E w hr hlk dX2_judge_95
      · have hf := q_neg c3 hf
        refine lv_aload_n E.1 E.2.1 dX2_judge_24 rfl (lv_at hl 0 rfl) ?_
        refine q_gs E w 1 t_v0 fl_RX2_9 dX2_judge_25 ?_
        refine lv_iload E.1 E.2.1 dX2_judge_28 (lv_at hl 4 rfl) ?_
        refine lv_iload E.1 E.2.1 dX2_judge_30 (lv_at hl 4 rfl) ?_
        refine lv_iconst (v := 5) E.1 E.2.1 dX2_judge_32 rfl ?_
        refine lv_icmp_ne (tgt := 40) E.1 E.2.1 dX2_judge_33 (by decide) (fun c4 => ?_) (fun c4 => ?_)
        · have hf := q_neg c4 hf
          refine lv_aload_n E.1 E.2.1 dX2_judge_40 rfl (lv_at hl 3 rfl) ?_
          refine lv_iload E.1 E.2.1 dX2_judge_41 (lv_at hl 4 rfl) ?_
          obtain ⟨r6, hc5, hf⟩ := bd1_e hf
          refine k_Vi (As := [.int v4]) (rest := [.int v4, .ref (ad G (v0 + 1))]) E w t_v3 ⟨by decide, rfl⟩ (X5_coldDreams_c t_v3 hc5) mv_RX2_19 rfl rfl hl.1 ⟨Nat.le_of_ble_eq_true rfl, Nat.le_of_ble_eq_true rfl⟩ (Nat.le_of_ble_eq_true rfl) ⟨Nat.le_refl _, Nat.le_refl _⟩ dX2_judge_43 (fun H locs w => ?_)
          obtain ⟨b8, hf⟩ := q_if hf
          refine p_iast E w ((lay_2_0 t_v0).1) ((lay_2_0 t_v0).2) b8 dX2_judge_46 (fun h9 H locs eh w => ?_)
          have hf := sq_e eh hf
          clear eh
          refine lv_iload E.1 E.2.1 dX2_judge_47 (lv_at hl 4 rfl) ?_
          refine lv_iconst (v := 5) E.1 E.2.1 dX2_judge_49 rfl ?_
          refine lv_icmp_eq (tgt := 62) E.1 E.2.1 dX2_judge_50 (by decide) (fun c10 => ?_) (fun c10 => ?_)
          · have hf := q_pos c10 hf
            exact X2_judge_b62_w E hr hlk ih hf w t_v0 t_v1 t_v2 t_v3 (lv_sub hl [0, 1, 2, 3, 4] rfl)
          · have hf := q_neg c10 hf
            refine lv_aload_n E.1 E.2.1 dX2_judge_53 rfl (lv_at hl 1 rfl) ?_
            refine lv_iload E.1 E.2.1 dX2_judge_54 (lv_at hl 4 rfl) ?_
            obtain ⟨r18, hc17, hf⟩ := bd1_e hf
            refine k_Vi (As := [.int v4]) (rest := []) E w t_v1 ⟨by decide, rfl⟩ (X1_hasSinger_c t_v1 hc17) mv_RX2_25 rfl rfl hl.1 ⟨Nat.le_of_ble_eq_true rfl, Nat.le_of_ble_eq_true rfl⟩ (Nat.le_of_ble_eq_true rfl) ⟨Nat.le_refl _, Nat.le_refl _⟩ dX2_judge_56 (fun H locs w => ?_)
            refine lv_if_eq (tgt := 89) E.1 E.2.1 dX2_judge_59 (by decide) (fun c20 => ?_) (fun c20 => ?_)
            · have hf := q_pos c20 hf
              refine lv_iinc (v := v4 + 1) (lv' := [(4, .int (v4 + 1)), (0, .ref (ad G v0)), (1, .ref (ad G v1)), (2, .ref (ad G v2)), (3, .ref (ad G v3))]) E.1 E.2.1 dX2_judge_89 hl (k := 4) rfl rfl (by decide) rfl (fun ls hl => ?_)
              refine lv_goto (tgt := 8) E.1 E.2.1 dX2_judge_92 (by decide) ?_
              exact ih _ _ _ _ _ _ _ _ _ hf w t_v0 t_v1 t_v2 t_v3 (lv_sub hl [1, 2, 3, 4, 0] rfl)
            · have hf := q_neg c20 hf
              exact X2_judge_b62_w E hr hlk ih hf w t_v0 t_v1 t_v2 t_v3 (lv_sub hl [0, 1, 2, 3, 4] rfl)
        · have hf := q_pos c4 hf
          refine lv_iconst (v := 0) E.1 E.2.1 dX2_judge_36 rfl ?_
          refine lv_goto (tgt := 46) E.1 E.2.1 dX2_judge_37 (by decide) ?_
          obtain ⟨b21, hf⟩ := q_if hf
          refine p_iast E w ((lay_2_0 t_v0).1) ((lay_2_0 t_v0).2) b21 dX2_judge_46 (fun h22 H locs eh w => ?_)
          have hf := sq_e eh hf
          clear eh
          refine lv_iload E.1 E.2.1 dX2_judge_47 (lv_at hl 4 rfl) ?_
          refine lv_iconst (v := 5) E.1 E.2.1 dX2_judge_49 rfl ?_
          refine lv_icmp_eq (tgt := 62) E.1 E.2.1 dX2_judge_50 (by decide) (fun c23 => ?_) (fun c23 => ?_)
          · have hf := q_pos c23 hf
            exact X2_judge_b62_w E hr hlk ih hf w t_v0 t_v1 t_v2 t_v3 (lv_sub hl [0, 1, 2, 3, 4] rfl)
          · have hf := q_neg c23 hf
            refine lv_aload_n E.1 E.2.1 dX2_judge_53 rfl (lv_at hl 1 rfl) ?_
            refine lv_iload E.1 E.2.1 dX2_judge_54 (lv_at hl 4 rfl) ?_
            obtain ⟨r25, hc24, hf⟩ := bd1_e hf
            refine k_Vi (As := [.int v4]) (rest := []) E w t_v1 ⟨by decide, rfl⟩ (X1_hasSinger_c t_v1 hc24) mv_RX2_25 rfl rfl hl.1 ⟨Nat.le_of_ble_eq_true rfl, Nat.le_of_ble_eq_true rfl⟩ (Nat.le_of_ble_eq_true rfl) ⟨Nat.le_refl _, Nat.le_refl _⟩ dX2_judge_56 (fun H locs w => ?_)
            refine lv_if_eq (tgt := 89) E.1 E.2.1 dX2_judge_59 (by decide) (fun c27 => ?_) (fun c27 => ?_)
            · have hf := q_pos c27 hf
              refine lv_iinc (v := v4 + 1) (lv' := [(4, .int (v4 + 1)), (0, .ref (ad G v0)), (1, .ref (ad G v1)), (2, .ref (ad G v2)), (3, .ref (ad G v3))]) E.1 E.2.1 dX2_judge_89 hl (k := 4) rfl rfl (by decide) rfl (fun ls hl => ?_)
              refine lv_goto (tgt := 8) E.1 E.2.1 dX2_judge_92 (by decide) ?_
              exact ih _ _ _ _ _ _ _ _ _ hf w t_v0 t_v1 t_v2 t_v3 (lv_sub hl [1, 2, 3, 4, 0] rfl)
            · have hf := q_neg c27 hf
              exact X2_judge_b62_w E hr hlk ih hf w t_v0 t_v1 t_v2 t_v3 (lv_sub hl [0, 1, 2, 3, 4] rfl)

def X2_judge (N : Nat) (h : HS) (v0 : Nat) (v1 : Nat) (v2 : Nat) (v3 : Nat) : Option HS := sq (wi h v0 1 0) fun h1 => X2_judge_l8 N N h1 v0 v1 v2 v3 0
set_option maxRecDepth 4000 in
set_option maxHeartbeats 2000000 in
theorem X2_judge_c {l : Launch} {G : GT} {N : Nat} {h : HS} {v0 : Nat} {v1 : Nat} {v2 : Nat} {v3 : Nat} {z : HS} (t_v0 : sh v0 = 2) (t_v1 : sh v1 = 1) (t_v2 : sh v2 = 6) (t_v3 : sh v3 = 5) (hf : X2_judge N h v0 v1 v2 v3 = some z) : CT l G yX2_judge cX2_judge 5 none 3 65 [.ref (ad G v0), .ref (ad G v1), .ref (ad G v2), .ref (ad G v3)] h none z := by
  unfold X2_judge at hf
  refine CT.of (by decide) (Nat.le_of_ble_eq_true rfl) ?_
  intro p e s m below meth c ls E hr hlk w hl
  have hl : lv_has ls 5 [(0, .ref (ad G v0)), (1, .ref (ad G v1)), (2, .ref (ad G v2)), (3, .ref (ad G v3))] := hl
  refine lv_aload_n E.1 E.2.1 dX2_judge_0 rfl (lv_at hl 0 rfl) ?_
  refine lv_iconst (v := 0) E.1 E.2.1 dX2_judge_1 rfl ?_
  refine p_pi E w t_v0 fl_RX2_15 (fp_2_1 _) dX2_judge_2 (fun h1 H locs eh w => ?_)
  have hf := sq_e eh hf
  clear eh
  refine lv_iconst (v := 0) E.1 E.2.1 dX2_judge_5 rfl ?_
  refine lv_istore (lv' := [(4, .int 0), (0, .ref (ad G v0)), (1, .ref (ad G v1)), (2, .ref (ad G v2)), (3, .ref (ad G v3))]) E.1 E.2.1 dX2_judge_6 hl (by decide) rfl (fun ls hl => ?_)
  exact X2_judge_l8_w E hr hlk N _ _ _ _ _ _ _ _ _ hf w t_v0 t_v1 t_v2 t_v3 (lv_sub hl [1, 2, 3, 4, 0] rfl)

def X2_leftAtWorst_l7 (N : Nat) (h : HS) : Nat → Nat → Int32 → Int32 → Int32 → Int32 → Option Int32
  | 0, _, _, _, _, _ => none
  | n + 1, v0, v1, v2, v3, v4 => (if (5 : Int32) < v4 then some (if v2 < v3 then v3 else v2) else bd1 (X10_at N h (v0 + 1) v4) fun r3 => X2_leftAtWorst_l7 N h n v0 v1 (v2 + ((((h.1 v0 1) >>> (v4 &&& 31)) &&& 1) * ((r3 >>> (v1 &&& 31)) &&& 1))) (v3 + ((((h.1 v0 1) >>> (v4 &&& 31)) &&& 1) * (1 - ((r3 >>> (v1 &&& 31)) &&& 1)))) (v4 + 1))
set_option maxRecDepth 4000 in
set_option maxHeartbeats 2000000 in
theorem X2_leftAtWorst_l7_w {p : Program} {l : Launch} {e : Env} {s : State} {m : MethodId} {args : Array Value} {below : List Frame} {meth : Method} {c : Code} {G : GT} {N : Nat} {h : HS} {z : Int32} (E : CallFix p m c cX2_leftAtWorst 7 s args UW RX2) (hr : meth.sig.returnType = (some .int)) (hlk : meth.locks = false) : ∀ (n : Nat) (H : Heap) (locs : List Loc) (ls : Array Slot) (v0 : Nat) (v1 : Int32) (v2 : Int32) (v3 : Int32) (v4 : Int32), X2_leftAtWorst_l7 N h n v0 v1 v2 v3 v4 = some z → WD G s h H locs → sh v0 = 2 → lv_has ls 7 [(0, .ref (ad G v0)), (1, .int v1), (2, .int v2), (3, .int v3), (4, .int v4)] → W p l e ({ frames := 1, cells := 0, slots := 0, locals := 24 } : Room) s m args below meth c H locs 0 0 (MQ below (QC G (some (.int z)) h) args s 0 0 (AD G)) (F0 m 7 ls []) := by
  intro n
  induction n with
  | zero =>
    intro H locs ls v0 v1 v2 v3 v4 hf
    cases hf
  | succ n ih =>
    intro H locs ls v0 v1 v2 v3 v4 hf w t_v0 hl
    unfold X2_leftAtWorst_l7 at hf
    refine lv_iload E.1 E.2.1 dX2_leftAtWorst_7 (lv_at hl 4 rfl) ?_
    refine lv_iconst (v := 5) E.1 E.2.1 dX2_leftAtWorst_9 rfl ?_
    refine lv_icmp_gt (tgt := 63) E.1 E.2.1 dX2_leftAtWorst_10 (by decide) (fun c1 => ?_) (fun c1 => ?_)
    · have hf := q_pos c1 hf
      refine lv_iload_n E.1 E.2.1 dX2_leftAtWorst_63 rfl (lv_at hl 2 rfl) ?_
      refine lv_iload_n E.1 E.2.1 dX2_leftAtWorst_64 rfl (lv_at hl 3 rfl) ?_
      refine q_max E mm_RX2_56 hl.1 ⟨Nat.le_of_ble_eq_true rfl, Nat.le_of_ble_eq_true rfl⟩ ⟨Nat.le_refl _, Nat.le_refl _⟩ dX2_leftAtWorst_65 ?_
      have hf := Option.some.inj hf
      subst hf
      exact q_iret E w hr hlk dX2_leftAtWorst_68
    · have hf := q_neg c1 hf
      refine lv_aload_n E.1 E.2.1 dX2_leftAtWorst_13 rfl (lv_at hl 0 rfl) ?_
      refine q_gi E w t_v0 fl_RX2_15 dX2_leftAtWorst_14 ?_
      refine lv_iload E.1 E.2.1 dX2_leftAtWorst_17 (lv_at hl 4 rfl) ?_
      refine lv_ishr E.1 E.2.1 dX2_leftAtWorst_19 ?_
      refine lv_iconst (v := 1) E.1 E.2.1 dX2_leftAtWorst_20 rfl ?_
      refine lv_iand E.1 E.2.1 dX2_leftAtWorst_21 ?_
      refine lv_istore (lv' := [(5, .int (((h.1 v0 1) >>> (v4 &&& 31)) &&& 1)), (0, .ref (ad G v0)), (1, .int v1), (2, .int v2), (3, .int v3), (4, .int v4)]) E.1 E.2.1 dX2_leftAtWorst_22 hl (by decide) rfl (fun ls hl => ?_)
      refine lv_aload_n E.1 E.2.1 dX2_leftAtWorst_24 rfl (lv_at hl 1 rfl) ?_
      refine q_gs E w 1 t_v0 fl_RX2_9 dX2_leftAtWorst_25 ?_
      refine lv_iload E.1 E.2.1 dX2_leftAtWorst_28 (lv_at hl 5 rfl) ?_
      obtain ⟨r3, hc2, hf⟩ := bd1_e hf
      refine k_Ni (As := [.ref (ad G (v0 + 1)), .int v4]) (rest := []) E w (X10_at_c ((lay_2_0 t_v0).1) hc2) mn_RX2_43 rfl rfl hl.1 ⟨Nat.le_of_ble_eq_true rfl, Nat.le_of_ble_eq_true rfl⟩ (Nat.le_of_ble_eq_true rfl) ⟨Nat.le_refl _, Nat.le_refl _⟩ dX2_leftAtWorst_30 (fun H locs w => ?_)
      refine lv_iload_n E.1 E.2.1 dX2_leftAtWorst_33 rfl (lv_at hl 2 rfl) ?_
      refine lv_ishr E.1 E.2.1 dX2_leftAtWorst_34 ?_
      refine lv_iconst (v := 1) E.1 E.2.1 dX2_leftAtWorst_35 rfl ?_
      refine lv_iand E.1 E.2.1 dX2_leftAtWorst_36 ?_
      refine lv_istore (lv' := [(6, .int ((r3 >>> (v1 &&& 31)) &&& 1)), (5, .int (((h.1 v0 1) >>> (v4 &&& 31)) &&& 1)), (0, .ref (ad G v0)), (1, .int v1), (2, .int v2), (3, .int v3), (4, .int v4)]) E.1 E.2.1 dX2_leftAtWorst_37 hl (by decide) rfl (fun ls hl => ?_)
      refine lv_iload_n E.1 E.2.1 dX2_leftAtWorst_39 rfl (lv_at hl 4 rfl) ?_
      refine lv_iload E.1 E.2.1 dX2_leftAtWorst_40 (lv_at hl 1 rfl) ?_
      refine lv_iload E.1 E.2.1 dX2_leftAtWorst_42 (lv_at hl 0 rfl) ?_
      refine lv_imul E.1 E.2.1 dX2_leftAtWorst_44 ?_
      refine lv_iadd E.1 E.2.1 dX2_leftAtWorst_45 ?_
      refine lv_istore_n (lv' := [(2, .int (v2 + ((((h.1 v0 1) >>> (v4 &&& 31)) &&& 1) * ((r3 >>> (v1 &&& 31)) &&& 1)))), (6, .int ((r3 >>> (v1 &&& 31)) &&& 1)), (5, .int (((h.1 v0 1) >>> (v4 &&& 31)) &&& 1)), (0, .ref (ad G v0)), (1, .int v1), (3, .int v3), (4, .int v4)]) E.1 E.2.1 dX2_leftAtWorst_46 rfl hl (by decide) rfl (fun ls hl => ?_)
      refine lv_iload_n E.1 E.2.1 dX2_leftAtWorst_47 rfl (lv_at hl 5 rfl) ?_
      refine lv_iload E.1 E.2.1 dX2_leftAtWorst_48 (lv_at hl 2 rfl) ?_
      refine lv_iconst (v := 1) E.1 E.2.1 dX2_leftAtWorst_50 rfl ?_
      refine lv_iload E.1 E.2.1 dX2_leftAtWorst_51 (lv_at hl 1 rfl) ?_
      refine lv_isub E.1 E.2.1 dX2_leftAtWorst_53 ?_
      refine lv_imul E.1 E.2.1 dX2_leftAtWorst_54 ?_
      refine lv_iadd E.1 E.2.1 dX2_leftAtWorst_55 ?_
      refine lv_istore_n (lv' := [(3, .int (v3 + ((((h.1 v0 1) >>> (v4 &&& 31)) &&& 1) * (1 - ((r3 >>> (v1 &&& 31)) &&& 1))))), (2, .int (v2 + ((((h.1 v0 1) >>> (v4 &&& 31)) &&& 1) * ((r3 >>> (v1 &&& 31)) &&& 1)))), (6, .int ((r3 >>> (v1 &&& 31)) &&& 1)), (5, .int (((h.1 v0 1) >>> (v4 &&& 31)) &&& 1)), (0, .ref (ad G v0)), (1, .int v1), (4, .int v4)]) E.1 E.2.1 dX2_leftAtWorst_56 rfl hl (by decide) rfl (fun ls hl => ?_)
      refine lv_iinc (v := v4 + 1) (lv' := [(4, .int (v4 + 1)), (3, .int (v3 + ((((h.1 v0 1) >>> (v4 &&& 31)) &&& 1) * (1 - ((r3 >>> (v1 &&& 31)) &&& 1))))), (2, .int (v2 + ((((h.1 v0 1) >>> (v4 &&& 31)) &&& 1) * ((r3 >>> (v1 &&& 31)) &&& 1)))), (6, .int ((r3 >>> (v1 &&& 31)) &&& 1)), (5, .int (((h.1 v0 1) >>> (v4 &&& 31)) &&& 1)), (0, .ref (ad G v0)), (1, .int v1)]) E.1 E.2.1 dX2_leftAtWorst_57 hl (k := 6) rfl rfl (by decide) rfl (fun ls hl => ?_)
      refine lv_goto (tgt := 7) E.1 E.2.1 dX2_leftAtWorst_60 (by decide) ?_
      exact ih _ _ _ _ _ _ _ _ hf w t_v0 (lv_sub hl [5, 6, 2, 1, 0] rfl)

def X2_leftAtWorst (N : Nat) (h : HS) (v0 : Nat) (v1 : Int32) : Option Int32 := X2_leftAtWorst_l7 N h N v0 v1 0 0 0
set_option maxRecDepth 4000 in
set_option maxHeartbeats 2000000 in
theorem X2_leftAtWorst_c {l : Launch} {G : GT} {N : Nat} {h : HS} {v0 : Nat} {v1 : Int32} {z : Int32} (t_v0 : sh v0 = 2) (hf : X2_leftAtWorst N h v0 v1 = some z) : CT l G yX2_leftAtWorst cX2_leftAtWorst 7 (some .int) 1 24 [.ref (ad G v0), .int v1] h (some (.int z)) h := by
  unfold X2_leftAtWorst at hf
  refine CT.of (by decide) (Nat.le_of_ble_eq_true rfl) ?_
  intro p e s m below meth c ls E hr hlk w hl
  have hl : lv_has ls 7 [(0, .ref (ad G v0)), (1, .int v1)] := hl
  refine lv_iconst (v := 0) E.1 E.2.1 dX2_leftAtWorst_0 rfl ?_
  refine lv_istore_n (lv' := [(2, .int 0), (0, .ref (ad G v0)), (1, .int v1)]) E.1 E.2.1 dX2_leftAtWorst_1 rfl hl (by decide) rfl (fun ls hl => ?_)
  refine lv_iconst (v := 0) E.1 E.2.1 dX2_leftAtWorst_2 rfl ?_
  refine lv_istore_n (lv' := [(3, .int 0), (2, .int 0), (0, .ref (ad G v0)), (1, .int v1)]) E.1 E.2.1 dX2_leftAtWorst_3 rfl hl (by decide) rfl (fun ls hl => ?_)
  refine lv_iconst (v := 0) E.1 E.2.1 dX2_leftAtWorst_4 rfl ?_
  refine lv_istore (lv' := [(4, .int 0), (3, .int 0), (2, .int 0), (0, .ref (ad G v0)), (1, .int v1)]) E.1 E.2.1 dX2_leftAtWorst_5 hl (by decide) rfl (fun ls hl => ?_)
  exact X2_leftAtWorst_l7_w E hr hlk N _ _ _ _ _ _ _ _ hf w t_v0 (lv_sub hl [3, 4, 2, 1, 0] rfl)

def X2_question_l7 (N : Nat) (h : HS) : Nat → Nat → Nat → Int32 → Int32 → Int32 → Option Int32
  | 0, _, _, _, _, _ => none
  | n + 1, v0, v1, v2, v3, v4 => (if (h.1 v1 0) ≤ v4 then some v2 else (if (h.1 v0 1) = 0 then some v2 else bd1 (X2_leftAtWorst N h v0 v4) fun r4 => (if v2 = ((-1) : Int32) then X2_question_l7 N h n v0 v1 v4 r4 (v4 + 1) else (if v3 ≤ r4 then X2_question_l7 N h n v0 v1 v2 v3 (v4 + 1) else X2_question_l7 N h n v0 v1 v4 r4 (v4 + 1)))))
set_option maxRecDepth 4000 in
set_option maxHeartbeats 2000000 in
theorem X2_question_l7_w {p : Program} {l : Launch} {e : Env} {s : State} {m : MethodId} {args : Array Value} {below : List Frame} {meth : Method} {c : Code} {G : GT} {N : Nat} {h : HS} {z : Int32} (E : CallFix p m c cX2_question 6 s args UW RX2) (hr : meth.sig.returnType = (some .int)) (hlk : meth.locks = false) : ∀ (n : Nat) (H : Heap) (locs : List Loc) (ls : Array Slot) (v0 : Nat) (v1 : Nat) (v2 : Int32) (v3 : Int32) (v4 : Int32), X2_question_l7 N h n v0 v1 v2 v3 v4 = some z → WD G s h H locs → sh v0 = 2 → sh v1 = 1 → lv_has ls 6 [(0, .ref (ad G v0)), (1, .ref (ad G v1)), (2, .int v2), (3, .int v3), (4, .int v4)] → W p l e ({ frames := 2, cells := 0, slots := 0, locals := 50 } : Room) s m args below meth c H locs 0 0 (MQ below (QC G (some (.int z)) h) args s 0 0 (AD G)) (F0 m 7 ls []) := by
  intro n
  induction n with
  | zero =>
    intro H locs ls v0 v1 v2 v3 v4 hf
    cases hf
  | succ n ih =>
    intro H locs ls v0 v1 v2 v3 v4 hf w t_v0 t_v1 hl
    unfold X2_question_l7 at hf
    refine lv_iload E.1 E.2.1 dX2_question_7 (lv_at hl 4 rfl) ?_
    refine lv_aload_n E.1 E.2.1 dX2_question_9 rfl (lv_at hl 1 rfl) ?_
    refine q_gi E w t_v1 fl_RX2_50 dX2_question_10 ?_
    refine lv_icmp_ge (tgt := 54) E.1 E.2.1 dX2_question_13 (by decide) (fun c1 => ?_) (fun c1 => ?_)
    · have hf := q_pos c1 hf
      refine lv_iload_n E.1 E.2.1 dX2_question_54 rfl (lv_at hl 2 rfl) ?_
      have hf := Option.some.inj hf
      subst hf
      exact q_iret E w hr hlk dX2_question_55
    · have hf := q_neg c1 hf
      refine lv_aload_n E.1 E.2.1 dX2_question_16 rfl (lv_at hl 0 rfl) ?_
      refine q_gi E w t_v0 fl_RX2_15 dX2_question_17 ?_
      refine lv_if_eq (tgt := 54) E.1 E.2.1 dX2_question_20 (by decide) (fun c2 => ?_) (fun c2 => ?_)
      · have hf := q_pos c2 hf
        refine lv_iload_n E.1 E.2.1 dX2_question_54 rfl (lv_at hl 2 rfl) ?_
        have hf := Option.some.inj hf
        subst hf
        exact q_iret E w hr hlk dX2_question_55
      · have hf := q_neg c2 hf
        refine lv_aload_n E.1 E.2.1 dX2_question_23 rfl (lv_at hl 0 rfl) ?_
        refine lv_iload E.1 E.2.1 dX2_question_24 (lv_at hl 4 rfl) ?_
        obtain ⟨r4, hc3, hf⟩ := bd1_e hf
        refine k_Vi (As := [.int v4]) (rest := []) E w t_v0 ⟨by decide, rfl⟩ (X2_leftAtWorst_c t_v0 hc3) mv_RX2_53 rfl rfl hl.1 ⟨Nat.le_of_ble_eq_true rfl, Nat.le_of_ble_eq_true rfl⟩ (Nat.le_of_ble_eq_true rfl) ⟨Nat.le_refl _, Nat.le_refl _⟩ dX2_question_26 (fun H locs w => ?_)
        refine lv_istore (lv' := [(5, .int r4), (0, .ref (ad G v0)), (1, .ref (ad G v1)), (2, .int v2), (3, .int v3), (4, .int v4)]) E.1 E.2.1 dX2_question_29 hl (by decide) rfl (fun ls hl => ?_)
        refine lv_iload_n E.1 E.2.1 dX2_question_31 rfl (lv_at hl 3 rfl) ?_
        refine lv_iconst (v := (-1)) E.1 E.2.1 dX2_question_32 rfl ?_
        refine lv_icmp_eq (tgt := 42) E.1 E.2.1 dX2_question_33 (by decide) (fun c6 => ?_) (fun c6 => ?_)
        · have hf := q_pos c6 hf
          refine lv_iload E.1 E.2.1 dX2_question_42 (lv_at hl 5 rfl) ?_
          refine lv_istore_n (lv' := [(2, .int v4), (5, .int r4), (0, .ref (ad G v0)), (1, .ref (ad G v1)), (3, .int v3), (4, .int v4)]) E.1 E.2.1 dX2_question_44 rfl hl (by decide) rfl (fun ls hl => ?_)
          refine lv_iload E.1 E.2.1 dX2_question_45 (lv_at hl 1 rfl) ?_
          refine lv_istore_n (lv' := [(3, .int r4), (2, .int v4), (5, .int r4), (0, .ref (ad G v0)), (1, .ref (ad G v1)), (4, .int v4)]) E.1 E.2.1 dX2_question_47 rfl hl (by decide) rfl (fun ls hl => ?_)
          refine lv_iinc (v := v4 + 1) (lv' := [(4, .int (v4 + 1)), (3, .int r4), (2, .int v4), (5, .int r4), (0, .ref (ad G v0)), (1, .ref (ad G v1))]) E.1 E.2.1 dX2_question_48 hl (k := 5) rfl rfl (by decide) rfl (fun ls hl => ?_)
          refine lv_goto (tgt := 7) E.1 E.2.1 dX2_question_51 (by decide) ?_
          exact ih _ _ _ _ _ _ _ _ hf w t_v0 t_v1 (lv_sub hl [4, 5, 2, 1, 0] rfl)
        · have hf := q_neg c6 hf
          refine lv_iload E.1 E.2.1 dX2_question_36 (lv_at hl 0 rfl) ?_
          refine lv_iload_n E.1 E.2.1 dX2_question_38 rfl (lv_at hl 4 rfl) ?_
          refine lv_icmp_ge (tgt := 48) E.1 E.2.1 dX2_question_39 (by decide) (fun c7 => ?_) (fun c7 => ?_)
          · have hf := q_pos c7 hf
            refine lv_iinc (v := v4 + 1) (lv' := [(4, .int (v4 + 1)), (5, .int r4), (0, .ref (ad G v0)), (1, .ref (ad G v1)), (2, .int v2), (3, .int v3)]) E.1 E.2.1 dX2_question_48 hl (k := 5) rfl rfl (by decide) rfl (fun ls hl => ?_)
            refine lv_goto (tgt := 7) E.1 E.2.1 dX2_question_51 (by decide) ?_
            exact ih _ _ _ _ _ _ _ _ hf w t_v0 t_v1 (lv_sub hl [2, 3, 4, 5, 0] rfl)
          · have hf := q_neg c7 hf
            refine lv_iload E.1 E.2.1 dX2_question_42 (lv_at hl 5 rfl) ?_
            refine lv_istore_n (lv' := [(2, .int v4), (5, .int r4), (0, .ref (ad G v0)), (1, .ref (ad G v1)), (3, .int v3), (4, .int v4)]) E.1 E.2.1 dX2_question_44 rfl hl (by decide) rfl (fun ls hl => ?_)
            refine lv_iload E.1 E.2.1 dX2_question_45 (lv_at hl 1 rfl) ?_
            refine lv_istore_n (lv' := [(3, .int r4), (2, .int v4), (5, .int r4), (0, .ref (ad G v0)), (1, .ref (ad G v1)), (4, .int v4)]) E.1 E.2.1 dX2_question_47 rfl hl (by decide) rfl (fun ls hl => ?_)
            refine lv_iinc (v := v4 + 1) (lv' := [(4, .int (v4 + 1)), (3, .int r4), (2, .int v4), (5, .int r4), (0, .ref (ad G v0)), (1, .ref (ad G v1))]) E.1 E.2.1 dX2_question_48 hl (k := 5) rfl rfl (by decide) rfl (fun ls hl => ?_)
            refine lv_goto (tgt := 7) E.1 E.2.1 dX2_question_51 (by decide) ?_
            exact ih _ _ _ _ _ _ _ _ hf w t_v0 t_v1 (lv_sub hl [4, 5, 2, 1, 0] rfl)

def X2_question (N : Nat) (h : HS) (v0 : Nat) (v1 : Nat) : Option Int32 := X2_question_l7 N h N v0 v1 (-1) 0 0
set_option maxRecDepth 4000 in
set_option maxHeartbeats 2000000 in
theorem X2_question_c {l : Launch} {G : GT} {N : Nat} {h : HS} {v0 : Nat} {v1 : Nat} {z : Int32} (t_v0 : sh v0 = 2) (t_v1 : sh v1 = 1) (hf : X2_question N h v0 v1 = some z) : CT l G yX2_question cX2_question 6 (some .int) 2 50 [.ref (ad G v0), .ref (ad G v1)] h (some (.int z)) h := by
  unfold X2_question at hf
  refine CT.of (by decide) (Nat.le_of_ble_eq_true rfl) ?_
  intro p e s m below meth c ls E hr hlk w hl
  have hl : lv_has ls 6 [(0, .ref (ad G v0)), (1, .ref (ad G v1))] := hl
  refine lv_iconst (v := (-1)) E.1 E.2.1 dX2_question_0 rfl ?_
  refine lv_istore_n (lv' := [(2, .int (-1)), (0, .ref (ad G v0)), (1, .ref (ad G v1))]) E.1 E.2.1 dX2_question_1 rfl hl (by decide) rfl (fun ls hl => ?_)
  refine lv_iconst (v := 0) E.1 E.2.1 dX2_question_2 rfl ?_
  refine lv_istore_n (lv' := [(3, .int 0), (2, .int (-1)), (0, .ref (ad G v0)), (1, .ref (ad G v1))]) E.1 E.2.1 dX2_question_3 rfl hl (by decide) rfl (fun ls hl => ?_)
  refine lv_iconst (v := 0) E.1 E.2.1 dX2_question_4 rfl ?_
  refine lv_istore (lv' := [(4, .int 0), (3, .int 0), (2, .int (-1)), (0, .ref (ad G v0)), (1, .ref (ad G v1))]) E.1 E.2.1 dX2_question_5 hl (by decide) rfl (fun ls hl => ?_)
  exact X2_question_l7_w E hr hlk N _ _ _ _ _ _ _ _ hf w t_v0 t_v1 (lv_sub hl [3, 4, 2, 1, 0] rfl)
