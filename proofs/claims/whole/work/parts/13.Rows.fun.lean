def X6_add (N : Nat) (h : HS) (v0 : Nat) (v1 : Int32) (v2 : Int32) : Option HS := (if (h.1 v0 3) < 0 then some h else (if (h.1 v0 0) ≤ (h.1 v0 3) then some h else (if (h.1 v0 3) < 0 ∨ ln (v0 + 1) ≤ (h.1 v0 3).toNatClampNeg then none else sq (wi h (v0 + 1) (h.1 v0 3).toNatClampNeg v1) fun h4 => (if (h4.1 v0 3) < 0 ∨ ln (v0 + 2) ≤ (h4.1 v0 3).toNatClampNeg then none else sq (wi h4 (v0 + 2) (h4.1 v0 3).toNatClampNeg v2) fun h6 => sq (wi h6 v0 3 ((h6.1 v0 3) + 1)) fun h7 => some h7))))
set_option maxRecDepth 4000 in
set_option maxHeartbeats 2000000 in
theorem X6_add_c {l : Launch} {G : GT} {N : Nat} {h : HS} {v0 : Nat} {v1 : Int32} {v2 : Int32} {z : HS} (t_v0 : sh v0 = 6) (hf : X6_add N h v0 v1 v2 = some z) : CT l G yX6_add cX6_add 3 none 0 0 [.ref (ad G v0), .int v1, .int v2] h none z := by
  unfold X6_add at hf
  refine CT.of (by decide) (Nat.le_of_ble_eq_true rfl) ?_
  intro p e s m below meth c ls E hr hlk w hl
  have hl : lv_has ls 3 [(0, .ref (ad G v0)), (1, .int v1), (2, .int v2)] := hl
  refine lv_aload_n E.1 E.2.1 dX6_add_0 rfl (lv_at hl 0 rfl) ?_
  refine q_gi E w t_v0 fl_RX6_7 dX6_add_1 ?_
  refine lv_if_lt (tgt := 48) E.1 E.2.1 dX6_add_4 (by decide) (fun c1 => ?_) (fun c1 => ?_)
  · have hf := q_pos c1 hf
    have hf := Option.some.inj hf
    subst hf
    exact q_vret E w hr hlk dX6_add_48
  · have hf := q_neg c1 hf
    refine lv_aload_n E.1 E.2.1 dX6_add_7 rfl (lv_at hl 0 rfl) ?_
    refine q_gi E w t_v0 fl_RX6_7 dX6_add_8 ?_
    refine lv_aload_n E.1 E.2.1 dX6_add_11 rfl (lv_at hl 0 rfl) ?_
    refine q_gi E w t_v0 fl_RX6_19 dX6_add_12 ?_
    refine lv_icmp_ge (tgt := 48) E.1 E.2.1 dX6_add_15 (by decide) (fun c2 => ?_) (fun c2 => ?_)
    · have hf := q_pos c2 hf
      have hf := Option.some.inj hf
      subst hf
      exact q_vret E w hr hlk dX6_add_48
    · have hf := q_neg c2 hf
      refine lv_aload_n E.1 E.2.1 dX6_add_18 rfl (lv_at hl 0 rfl) ?_
      refine q_gs E w 1 t_v0 fl_RX6_22 dX6_add_19 ?_
      refine lv_aload_n E.1 E.2.1 dX6_add_22 rfl (lv_at hl 0 rfl) ?_
      refine q_gi E w t_v0 fl_RX6_7 dX6_add_23 ?_
      refine lv_iload_n E.1 E.2.1 dX6_add_26 rfl (lv_at hl 1 rfl) ?_
      obtain ⟨b3, hf⟩ := q_if hf
      refine p_iast E w ((lay_6_1 t_v0).1) rfl b3 dX6_add_27 (fun h4 H locs eh w => ?_)
      have hf := sq_e eh hf
      clear eh
      refine lv_aload_n E.1 E.2.1 dX6_add_28 rfl (lv_at hl 0 rfl) ?_
      refine q_gs E w 2 t_v0 fl_RX6_26 dX6_add_29 ?_
      refine lv_aload_n E.1 E.2.1 dX6_add_32 rfl (lv_at hl 0 rfl) ?_
      refine q_gi E w t_v0 fl_RX6_7 dX6_add_33 ?_
      refine lv_iload_n E.1 E.2.1 dX6_add_36 rfl (lv_at hl 2 rfl) ?_
      obtain ⟨b5, hf⟩ := q_if hf
      refine p_iast E w ((lay_6_2 t_v0).1) rfl b5 dX6_add_37 (fun h6 H locs eh w => ?_)
      have hf := sq_e eh hf
      clear eh
      refine lv_aload_n E.1 E.2.1 dX6_add_38 rfl (lv_at hl 0 rfl) ?_
      refine lv_dup E.1 E.2.1 dX6_add_39 rfl ?_
      refine q_gi E w t_v0 fl_RX6_7 dX6_add_40 ?_
      refine lv_iconst (v := 1) E.1 E.2.1 dX6_add_43 rfl ?_
      refine lv_iadd E.1 E.2.1 dX6_add_44 ?_
      refine p_pi E w t_v0 fl_RX6_7 (fp_6_3 _) dX6_add_45 (fun h7 H locs eh w => ?_)
      have hf := sq_e eh hf
      clear eh
      have hf := Option.some.inj hf
      subst hf
      exact q_vret E w hr hlk dX6_add_48

def X6_numbersBelow_l2 (N : Nat) (h : HS) : Nat → Nat → Int32 → Int32 → Option Int32
  | 0, _, _, _ => none
  | n + 1, v0, v1, v2 => (if (h.1 v0 3) ≤ v2 then some (nz 1) else (if (h.1 v0 0) ≤ v2 then some (nz 1) else (if v2 < 0 ∨ ln (v0 + 2) ≤ v2.toNatClampNeg then none else (if (h.1 (v0 + 2) v2.toNatClampNeg) < v1 then X6_numbersBelow_l2 N h n v0 v1 (v2 + 1) else some (nz 0)))))
set_option maxRecDepth 4000 in
set_option maxHeartbeats 2000000 in
theorem X6_numbersBelow_l2_w {p : Program} {l : Launch} {e : Env} {s : State} {m : MethodId} {args : Array Value} {below : List Frame} {meth : Method} {c : Code} {G : GT} {N : Nat} {h : HS} {z : Int32} (E : CallFix p m c cX6_numbersBelow 3 s args UW RX6) (hr : meth.sig.returnType = (some .boolean)) (hlk : meth.locks = false) : ∀ (n : Nat) (H : Heap) (locs : List Loc) (ls : Array Slot) (v0 : Nat) (v1 : Int32) (v2 : Int32), X6_numbersBelow_l2 N h n v0 v1 v2 = some z → WD G s h H locs → sh v0 = 6 → lv_has ls 3 [(0, .ref (ad G v0)), (1, .int v1), (2, .int v2)] → W p l e ({ frames := 0, cells := 0, slots := 0, locals := 0 } : Room) s m args below meth c H locs 0 0 (MQ below (QC G (some (.int z)) h) args s 0 0 (AD G)) (F0 m 2 ls []) := by
  intro n
  induction n with
  | zero =>
    intro H locs ls v0 v1 v2 hf
    cases hf
  | succ n ih =>
    intro H locs ls v0 v1 v2 hf w t_v0 hl
    unfold X6_numbersBelow_l2 at hf
    refine lv_iload_n E.1 E.2.1 dX6_numbersBelow_2 rfl (lv_at hl 2 rfl) ?_
    refine lv_aload_n E.1 E.2.1 dX6_numbersBelow_3 rfl (lv_at hl 0 rfl) ?_
    refine q_gi E w t_v0 fl_RX6_7 dX6_numbersBelow_4 ?_
    refine lv_icmp_ge (tgt := 36) E.1 E.2.1 dX6_numbersBelow_7 (by decide) (fun c1 => ?_) (fun c1 => ?_)
    · have hf := q_pos c1 hf
      refine lv_iconst (v := 1) E.1 E.2.1 dX6_numbersBelow_36 rfl ?_
      have hf := Option.some.inj hf
      subst hf
      exact q_zret E w hr hlk dX6_numbersBelow_37
    · have hf := q_neg c1 hf
      refine lv_iload_n E.1 E.2.1 dX6_numbersBelow_10 rfl (lv_at hl 2 rfl) ?_
      refine lv_aload_n E.1 E.2.1 dX6_numbersBelow_11 rfl (lv_at hl 0 rfl) ?_
      refine q_gi E w t_v0 fl_RX6_19 dX6_numbersBelow_12 ?_
      refine lv_icmp_ge (tgt := 36) E.1 E.2.1 dX6_numbersBelow_15 (by decide) (fun c2 => ?_) (fun c2 => ?_)
      · have hf := q_pos c2 hf
        refine lv_iconst (v := 1) E.1 E.2.1 dX6_numbersBelow_36 rfl ?_
        have hf := Option.some.inj hf
        subst hf
        exact q_zret E w hr hlk dX6_numbersBelow_37
      · have hf := q_neg c2 hf
        refine lv_aload_n E.1 E.2.1 dX6_numbersBelow_18 rfl (lv_at hl 0 rfl) ?_
        refine q_gs E w 2 t_v0 fl_RX6_26 dX6_numbersBelow_19 ?_
        refine lv_iload_n E.1 E.2.1 dX6_numbersBelow_22 rfl (lv_at hl 2 rfl) ?_
        obtain ⟨b3, hf⟩ := q_if hf
        refine q_iald E w ((lay_6_2 t_v0).1) rfl b3 dX6_numbersBelow_23 ?_
        refine lv_iload_n E.1 E.2.1 dX6_numbersBelow_24 rfl (lv_at hl 1 rfl) ?_
        refine lv_icmp_lt (tgt := 30) E.1 E.2.1 dX6_numbersBelow_25 (by decide) (fun c4 => ?_) (fun c4 => ?_)
        · have hf := q_pos c4 hf
          refine lv_iinc (v := v2 + 1) (lv' := [(2, .int (v2 + 1)), (0, .ref (ad G v0)), (1, .int v1)]) E.1 E.2.1 dX6_numbersBelow_30 hl (k := 2) rfl rfl (by decide) rfl (fun ls hl => ?_)
          refine lv_goto (tgt := 2) E.1 E.2.1 dX6_numbersBelow_33 (by decide) ?_
          exact ih _ _ _ _ _ _ hf w t_v0 (lv_sub hl [1, 2, 0] rfl)
        · have hf := q_neg c4 hf
          refine lv_iconst (v := 0) E.1 E.2.1 dX6_numbersBelow_28 rfl ?_
          have hf := Option.some.inj hf
          subst hf
          exact q_zret E w hr hlk dX6_numbersBelow_29

def X6_numbersBelow (N : Nat) (h : HS) (v0 : Nat) (v1 : Int32) : Option Int32 := X6_numbersBelow_l2 N h N v0 v1 0
set_option maxRecDepth 4000 in
set_option maxHeartbeats 2000000 in
theorem X6_numbersBelow_c {l : Launch} {G : GT} {N : Nat} {h : HS} {v0 : Nat} {v1 : Int32} {z : Int32} (t_v0 : sh v0 = 6) (hf : X6_numbersBelow N h v0 v1 = some z) : CT l G yX6_numbersBelow cX6_numbersBelow 3 (some .boolean) 0 0 [.ref (ad G v0), .int v1] h (some (.int z)) h := by
  unfold X6_numbersBelow at hf
  refine CT.of (by decide) (Nat.le_of_ble_eq_true rfl) ?_
  intro p e s m below meth c ls E hr hlk w hl
  have hl : lv_has ls 3 [(0, .ref (ad G v0)), (1, .int v1)] := hl
  refine lv_iconst (v := 0) E.1 E.2.1 dX6_numbersBelow_0 rfl ?_
  refine lv_istore_n (lv' := [(2, .int 0), (0, .ref (ad G v0)), (1, .int v1)]) E.1 E.2.1 dX6_numbersBelow_1 rfl hl (by decide) rfl (fun ls hl => ?_)
  exact X6_numbersBelow_l2_w E hr hlk N _ _ _ _ _ _ hf w t_v0 (lv_sub hl [1, 2, 0] rfl)

def X6_copy_l7 (N : Nat) : Nat → HS → Nat → Nat → Int32 → Option HS
  | 0, _, _, _, _ => none
  | n + 1, h, v0, v1, v2 => (if (h.1 v1 3) ≤ v2 then some h else bd1 (X10_at N h (v1 + 1) v2) fun r4 => bd1 (X10_at N h (v1 + 2) v2) fun r7 => bd1 (X6_add N h v0 r4 r7) fun h11 => X6_copy_l7 N n h11 v0 v1 (v2 + 1))
set_option maxRecDepth 4000 in
set_option maxHeartbeats 2000000 in
theorem X6_copy_l7_w {p : Program} {l : Launch} {e : Env} {s : State} {m : MethodId} {args : Array Value} {below : List Frame} {meth : Method} {c : Code} {G : GT} {N : Nat} {z : HS} (E : CallFix p m c cX6_copy 3 s args UW RX6) (hr : meth.sig.returnType = none) (hlk : meth.locks = false) : ∀ (n : Nat) (h : HS) (H : Heap) (locs : List Loc) (ls : Array Slot) (v0 : Nat) (v1 : Nat) (v2 : Int32), X6_copy_l7 N n h v0 v1 v2 = some z → WD G s h H locs → sh v0 = 6 → sh v1 = 6 → lv_has ls 3 [(0, .ref (ad G v0)), (1, .ref (ad G v1)), (2, .int v2)] → W p l e ({ frames := 1, cells := 0, slots := 0, locals := 22 } : Room) s m args below meth c H locs 0 0 (MQ below (QC G none z) args s 0 0 (AD G)) (F0 m 7 ls []) := by
  intro n
  induction n with
  | zero =>
    intro h H locs ls v0 v1 v2 hf
    cases hf
  | succ n ih =>
    intro h H locs ls v0 v1 v2 hf w t_v0 t_v1 hl
    unfold X6_copy_l7 at hf
    refine lv_iload_n E.1 E.2.1 dX6_copy_7 rfl (lv_at hl 2 rfl) ?_
    refine lv_aload_n E.1 E.2.1 dX6_copy_8 rfl (lv_at hl 1 rfl) ?_
    refine q_gi E w t_v1 fl_RX6_7 dX6_copy_9 ?_
    refine lv_icmp_ge (tgt := 41) E.1 E.2.1 dX6_copy_12 (by decide) (fun c2 => ?_) (fun c2 => ?_)
    · have hf := q_pos c2 hf
      have hf := Option.some.inj hf
      subst hf
      exact q_vret E w hr hlk dX6_copy_41
    · have hf := q_neg c2 hf
      refine lv_aload_n E.1 E.2.1 dX6_copy_15 rfl (lv_at hl 0 rfl) ?_
      refine lv_aload_n E.1 E.2.1 dX6_copy_16 rfl (lv_at hl 1 rfl) ?_
      refine q_gs E w 1 t_v1 fl_RX6_22 dX6_copy_17 ?_
      refine lv_iload_n E.1 E.2.1 dX6_copy_20 rfl (lv_at hl 2 rfl) ?_
      obtain ⟨r4, hc3, hf⟩ := bd1_e hf
      refine k_Ni (As := [.ref (ad G (v1 + 1)), .int v2]) (rest := [.ref (ad G v0)]) E w (X10_at_c ((lay_6_1 t_v1).1) hc3) mn_RX6_29 rfl rfl hl.1 ⟨Nat.le_of_ble_eq_true rfl, Nat.le_of_ble_eq_true rfl⟩ (Nat.le_of_ble_eq_true rfl) ⟨Nat.le_refl _, Nat.le_refl _⟩ dX6_copy_21 (fun H locs w => ?_)
      refine lv_aload_n E.1 E.2.1 dX6_copy_24 rfl (lv_at hl 1 rfl) ?_
      refine q_gs E w 2 t_v1 fl_RX6_26 dX6_copy_25 ?_
      refine lv_iload_n E.1 E.2.1 dX6_copy_28 rfl (lv_at hl 2 rfl) ?_
      obtain ⟨r7, hc6, hf⟩ := bd1_e hf
      refine k_Ni (As := [.ref (ad G (v1 + 2)), .int v2]) (rest := [.int r4, .ref (ad G v0)]) E w (X10_at_c ((lay_6_2 t_v1).1) hc6) mn_RX6_29 rfl rfl hl.1 ⟨Nat.le_of_ble_eq_true rfl, Nat.le_of_ble_eq_true rfl⟩ (Nat.le_of_ble_eq_true rfl) ⟨Nat.le_refl _, Nat.le_refl _⟩ dX6_copy_29 (fun H locs w => ?_)
      obtain ⟨h11, hc9, hf⟩ := bd1_e hf
      refine k_Vv (As := [.int r4, .int r7]) (rest := []) E w t_v0 ⟨by decide, rfl⟩ (X6_add_c t_v0 hc9) mv_RX6_35 rfl rfl hl.1 ⟨Nat.le_of_ble_eq_true rfl, Nat.le_of_ble_eq_true rfl⟩ (Nat.le_of_ble_eq_true rfl) ⟨Nat.le_refl _, Nat.le_refl _⟩ dX6_copy_32 (fun H locs w => ?_)
      refine lv_iinc (v := v2 + 1) (lv' := [(2, .int (v2 + 1)), (0, .ref (ad G v0)), (1, .ref (ad G v1))]) E.1 E.2.1 dX6_copy_35 hl (k := 2) rfl rfl (by decide) rfl (fun ls hl => ?_)
      refine lv_goto (tgt := 7) E.1 E.2.1 dX6_copy_38 (by decide) ?_
      exact ih _ _ _ _ _ _ _ hf w t_v0 t_v1 (lv_sub hl [1, 2, 0] rfl)

def X6_copy (N : Nat) (h : HS) (v0 : Nat) (v1 : Nat) : Option HS := sq (wi h v0 3 0) fun h1 => X6_copy_l7 N N h1 v0 v1 0
set_option maxRecDepth 4000 in
set_option maxHeartbeats 2000000 in
theorem X6_copy_c {l : Launch} {G : GT} {N : Nat} {h : HS} {v0 : Nat} {v1 : Nat} {z : HS} (t_v0 : sh v0 = 6) (t_v1 : sh v1 = 6) (hf : X6_copy N h v0 v1 = some z) : CT l G yX6_copy cX6_copy 3 none 1 22 [.ref (ad G v0), .ref (ad G v1)] h none z := by
  unfold X6_copy at hf
  refine CT.of (by decide) (Nat.le_of_ble_eq_true rfl) ?_
  intro p e s m below meth c ls E hr hlk w hl
  have hl : lv_has ls 3 [(0, .ref (ad G v0)), (1, .ref (ad G v1))] := hl
  refine lv_aload_n E.1 E.2.1 dX6_copy_0 rfl (lv_at hl 0 rfl) ?_
  refine lv_iconst (v := 0) E.1 E.2.1 dX6_copy_1 rfl ?_
  refine p_pi E w t_v0 fl_RX6_7 (fp_6_3 _) dX6_copy_2 (fun h1 H locs eh w => ?_)
  have hf := sq_e eh hf
  clear eh
  refine lv_iconst (v := 0) E.1 E.2.1 dX6_copy_5 rfl ?_
  refine lv_istore_n (lv' := [(2, .int 0), (0, .ref (ad G v0)), (1, .ref (ad G v1))]) E.1 E.2.1 dX6_copy_6 rfl hl (by decide) rfl (fun ls hl => ?_)
  exact X6_copy_l7_w E hr hlk N _ _ _ _ _ _ _ hf w t_v0 t_v1 (lv_sub hl [1, 2, 0] rfl)

def X7_put_l3 (N : Nat) : Nat → HS → Nat → Int32 → Int32 → Option HS
  | 0, _, _, _, _ => none
  | n + 1, h, v0, v1, v2 => (if v2 < 0 then some h else (if (h.1 v0 1) < 0 then X7_put_l3 N n h v0 v1 (v2 + (-8)) else (if (600 : Int32) ≤ (h.1 v0 1) then X7_put_l3 N n h v0 v1 (v2 + (-8)) else (if (h.1 v0 1) < 0 ∨ 600 ≤ (h.1 v0 1).toNatClampNeg then none else sq (wi h (v0 + 1) (h.1 v0 1).toNatClampNeg ((v1 >>> (v2 &&& 31)).toInt8.toInt32).toInt8.toInt32) fun h5 => sq (wi h5 v0 1 ((h5.1 v0 1) + 1)) fun h6 => X7_put_l3 N n h6 v0 v1 (v2 + (-8))))))
set_option maxRecDepth 4000 in
set_option maxHeartbeats 2000000 in
theorem X7_put_l3_w {p : Program} {l : Launch} {e : Env} {s : State} {m : MethodId} {args : Array Value} {below : List Frame} {meth : Method} {c : Code} {G : GT} {N : Nat} {z : HS} (E : CallFix p m c cX7_put 3 s args UW RX7) (hr : meth.sig.returnType = none) (hlk : meth.locks = false) : ∀ (n : Nat) (h : HS) (H : Heap) (locs : List Loc) (ls : Array Slot) (v0 : Nat) (v1 : Int32) (v2 : Int32), X7_put_l3 N n h v0 v1 v2 = some z → WD G s h H locs → sh v0 = 7 → lv_has ls 3 [(0, .ref (ad G v0)), (1, .int v1), (2, .int v2)] → W p l e ({ frames := 0, cells := 0, slots := 0, locals := 0 } : Room) s m args below meth c H locs 0 0 (MQ below (QC G none z) args s 0 0 (AD G)) (F0 m 3 ls []) := by
  intro n
  induction n with
  | zero =>
    intro h H locs ls v0 v1 v2 hf
    cases hf
  | succ n ih =>
    intro h H locs ls v0 v1 v2 hf w t_v0 hl
    unfold X7_put_l3 at hf
    refine lv_iload_n E.1 E.2.1 dX7_put_3 rfl (lv_at hl 2 rfl) ?_
    refine lv_if_lt (tgt := 53) E.1 E.2.1 dX7_put_4 (by decide) (fun c1 => ?_) (fun c1 => ?_)
    · have hf := q_pos c1 hf
      have hf := Option.some.inj hf
      subst hf
      exact q_vret E w hr hlk dX7_put_53
    · have hf := q_neg c1 hf
      refine lv_aload_n E.1 E.2.1 dX7_put_7 rfl (lv_at hl 0 rfl) ?_
      refine q_gi E w t_v0 fl_RX7_15 dX7_put_8 ?_
      refine lv_if_lt (tgt := 47) E.1 E.2.1 dX7_put_11 (by decide) (fun c2 => ?_) (fun c2 => ?_)
      · have hf := q_pos c2 hf
        refine lv_iinc (v := v2 + (-8)) (lv' := [(2, .int (v2 + (-8))), (0, .ref (ad G v0)), (1, .int v1)]) E.1 E.2.1 dX7_put_47 hl (k := 2) rfl rfl (by decide) rfl (fun ls hl => ?_)
        refine lv_goto (tgt := 3) E.1 E.2.1 dX7_put_50 (by decide) ?_
        exact ih _ _ _ _ _ _ _ hf w t_v0 (lv_sub hl [1, 2, 0] rfl)
      · have hf := q_neg c2 hf
        refine lv_aload_n E.1 E.2.1 dX7_put_14 rfl (lv_at hl 0 rfl) ?_
        refine q_gi E w t_v0 fl_RX7_15 dX7_put_15 ?_
        refine lv_sipush (v := 600) E.1 E.2.1 dX7_put_18 rfl ?_
        refine lv_icmp_ge (tgt := 47) E.1 E.2.1 dX7_put_21 (by decide) (fun c3 => ?_) (fun c3 => ?_)
        · have hf := q_pos c3 hf
          refine lv_iinc (v := v2 + (-8)) (lv' := [(2, .int (v2 + (-8))), (0, .ref (ad G v0)), (1, .int v1)]) E.1 E.2.1 dX7_put_47 hl (k := 2) rfl rfl (by decide) rfl (fun ls hl => ?_)
          refine lv_goto (tgt := 3) E.1 E.2.1 dX7_put_50 (by decide) ?_
          exact ih _ _ _ _ _ _ _ hf w t_v0 (lv_sub hl [1, 2, 0] rfl)
        · have hf := q_neg c3 hf
          refine lv_aload_n E.1 E.2.1 dX7_put_24 rfl (lv_at hl 0 rfl) ?_
          refine q_gs E w 1 t_v0 fl_RX7_9 dX7_put_25 ?_
          refine lv_aload_n E.1 E.2.1 dX7_put_28 rfl (lv_at hl 0 rfl) ?_
          refine q_gi E w t_v0 fl_RX7_15 dX7_put_29 ?_
          refine lv_iload_n E.1 E.2.1 dX7_put_32 rfl (lv_at hl 1 rfl) ?_
          refine lv_iload_n E.1 E.2.1 dX7_put_33 rfl (lv_at hl 2 rfl) ?_
          refine lv_ishr E.1 E.2.1 dX7_put_34 ?_
          refine lv_i2b (v := (v1 >>> (v2 &&& 31)).toInt8.toInt32) E.1 E.2.1 dX7_put_35 rfl ?_
          obtain ⟨b4, hf⟩ := q_if hf
          refine p_bast E w ((lay_7_0 t_v0).1) ((lay_7_0 t_v0).2) b4 dX7_put_36 (fun h5 H locs eh w => ?_)
          have hf := sq_e eh hf
          clear eh
          refine lv_aload_n E.1 E.2.1 dX7_put_37 rfl (lv_at hl 0 rfl) ?_
          refine lv_dup E.1 E.2.1 dX7_put_38 rfl ?_
          refine q_gi E w t_v0 fl_RX7_15 dX7_put_39 ?_
          refine lv_iconst (v := 1) E.1 E.2.1 dX7_put_42 rfl ?_
          refine lv_iadd E.1 E.2.1 dX7_put_43 ?_
          refine p_pi E w t_v0 fl_RX7_15 (fp_7_1 _) dX7_put_44 (fun h6 H locs eh w => ?_)
          have hf := sq_e eh hf
          clear eh
          refine lv_iinc (v := v2 + (-8)) (lv' := [(2, .int (v2 + (-8))), (0, .ref (ad G v0)), (1, .int v1)]) E.1 E.2.1 dX7_put_47 hl (k := 2) rfl rfl (by decide) rfl (fun ls hl => ?_)
          refine lv_goto (tgt := 3) E.1 E.2.1 dX7_put_50 (by decide) ?_
          exact ih _ _ _ _ _ _ _ hf w t_v0 (lv_sub hl [1, 2, 0] rfl)

def X7_put (N : Nat) (h : HS) (v0 : Nat) (v1 : Int32) : Option HS := X7_put_l3 N N h v0 v1 24
set_option maxRecDepth 4000 in
set_option maxHeartbeats 2000000 in
theorem X7_put_c {l : Launch} {G : GT} {N : Nat} {h : HS} {v0 : Nat} {v1 : Int32} {z : HS} (t_v0 : sh v0 = 7) (hf : X7_put N h v0 v1 = some z) : CT l G yX7_put cX7_put 3 none 0 0 [.ref (ad G v0), .int v1] h none z := by
  unfold X7_put at hf
  refine CT.of (by decide) (Nat.le_of_ble_eq_true rfl) ?_
  intro p e s m below meth c ls E hr hlk w hl
  have hl : lv_has ls 3 [(0, .ref (ad G v0)), (1, .int v1)] := hl
  refine lv_bipush (v := 24) E.1 E.2.1 dX7_put_0 rfl ?_
  refine lv_istore_n (lv' := [(2, .int 24), (0, .ref (ad G v0)), (1, .int v1)]) E.1 E.2.1 dX7_put_2 rfl hl (by decide) rfl (fun ls hl => ?_)
  exact X7_put_l3_w E hr hlk N _ _ _ _ _ _ _ hf w t_v0 (lv_sub hl [1, 2, 0] rfl)

def X7_houseAt (N : Nat) (h : HS) (v0 : Nat) (v1 : Int32) : Option Nat := (if v1 < 0 then some 0 else (if (0 : Int32) < 0 ∨ 3 ≤ (0 : Int32).toNatClampNeg then none else (if (h.1 (v0 + 2) (0 : Int32).toNatClampNeg) ≤ v1 then some 0 else (if (2 : Int32) ≤ v1 then some 0 else (if v1 < 0 ∨ 2 ≤ v1.toNatClampNeg then none else some (ra (v0 + 3) v1.toNatClampNeg))))))
set_option maxRecDepth 4000 in
set_option maxHeartbeats 2000000 in
theorem X7_houseAt_c {l : Launch} {G : GT} {N : Nat} {h : HS} {v0 : Nat} {v1 : Int32} {z : Nat} (t_v0 : sh v0 = 7) (hf : X7_houseAt N h v0 v1 = some z) : CT l G yX7_houseAt cX7_houseAt 2 (some (.object RX1)) 0 0 [.ref (ad G v0), .int v1] h (some (rfv G z)) h := by
  unfold X7_houseAt at hf
  refine CT.of (by decide) (Nat.le_of_ble_eq_true rfl) ?_
  intro p e s m below meth c ls E hr hlk w hl
  have hl : lv_has ls 2 [(0, .ref (ad G v0)), (1, .int v1)] := hl
  refine lv_iload_n E.1 E.2.1 dX7_houseAt_0 rfl (lv_at hl 1 rfl) ?_
  refine lv_if_lt (tgt := 28) E.1 E.2.1 dX7_houseAt_1 (by decide) (fun c1 => ?_) (fun c1 => ?_)
  · have hf := q_pos c1 hf
    refine lv_null E.1 E.2.1 dX7_houseAt_28 ?_
    have hf := Option.some.inj hf
    subst hf
    exact q_aret (v := .null) E w hr (Or.inl ⟨_, rfl⟩) (Or.inl rfl) hlk dX7_houseAt_29
  · have hf := q_neg c1 hf
    refine lv_iload_n E.1 E.2.1 dX7_houseAt_4 rfl (lv_at hl 1 rfl) ?_
    refine lv_aload_n E.1 E.2.1 dX7_houseAt_5 rfl (lv_at hl 0 rfl) ?_
    refine q_gs E w 2 t_v0 fl_RX7_25 dX7_houseAt_6 ?_
    refine lv_iconst (v := 0) E.1 E.2.1 dX7_houseAt_9 rfl ?_
    obtain ⟨b2, hf⟩ := q_if hf
    refine q_iald E w ((lay_7_4 t_v0).1) ((lay_7_4 t_v0).2) b2 dX7_houseAt_10 ?_
    refine lv_icmp_ge (tgt := 28) E.1 E.2.1 dX7_houseAt_11 (by decide) (fun c3 => ?_) (fun c3 => ?_)
    · have hf := q_pos c3 hf
      refine lv_null E.1 E.2.1 dX7_houseAt_28 ?_
      have hf := Option.some.inj hf
      subst hf
      exact q_aret (v := .null) E w hr (Or.inl ⟨_, rfl⟩) (Or.inl rfl) hlk dX7_houseAt_29
    · have hf := q_neg c3 hf
      refine lv_iload_n E.1 E.2.1 dX7_houseAt_14 rfl (lv_at hl 1 rfl) ?_
      refine lv_iconst (v := 2) E.1 E.2.1 dX7_houseAt_15 rfl ?_
      refine lv_icmp_ge (tgt := 28) E.1 E.2.1 dX7_houseAt_16 (by decide) (fun c4 => ?_) (fun c4 => ?_)
      · have hf := q_pos c4 hf
        refine lv_null E.1 E.2.1 dX7_houseAt_28 ?_
        have hf := Option.some.inj hf
        subst hf
        exact q_aret (v := .null) E w hr (Or.inl ⟨_, rfl⟩) (Or.inl rfl) hlk dX7_houseAt_29
      · have hf := q_neg c4 hf
        refine lv_aload_n E.1 E.2.1 dX7_houseAt_19 rfl (lv_at hl 0 rfl) ?_
        refine q_gs E w 3 t_v0 fl_RX7_32 dX7_houseAt_20 ?_
        refine lv_iload_n E.1 E.2.1 dX7_houseAt_23 rfl (lv_at hl 1 rfl) ?_
        obtain ⟨b5, hf⟩ := q_if hf
        have t6 : sh (ra (v0 + 3) v1.toNatClampNeg) = 1 := lay_ra ((lay_7_5 t_v0).1) ((lay_7_5 t_v0).2) (by decide) rfl b5
        refine q_aald (t := 3) E w ((lay_7_5 t_v0).1) (by decide) ((lay_7_5 t_v0).2) b5 dX7_houseAt_24 ?_
        refine lv_goto (tgt := 29) E.1 E.2.1 dX7_houseAt_25 (by decide) ?_
        have hf := Option.some.inj hf
        subst hf
        rw [rfv_p G (by rw [t6]; decide)]
        exact q_aret E w hr (Or.inl ⟨_, rfl⟩) (Or.inr ⟨_, rfl⟩) hlk dX7_houseAt_29

theorem X7_houseAt_t {N : Nat} {h : HS} {v0 : Nat} {v1 : Int32} {z : Nat} (t0 : sh v0 = 7) (hf : X7_houseAt N h v0 v1 = some z) : z = 0 ∨ sh z = 1 := by
  unfold X7_houseAt at hf
  repeat' split at hf
  all_goals first
    | (cases hf; exact Or.inl rfl)
    | (rename_i b; cases hf; exact Or.inr (lay_ra ((lay_7_5 t0).1) ((lay_7_5 t0).2) (by decide) rfl b))
    | cases hf

def X7_nightsAt (N : Nat) (h : HS) (v0 : Nat) (v1 : Int32) : Option Nat := (if v1 < 0 then some 0 else (if (1 : Int32) < 0 ∨ 3 ≤ (1 : Int32).toNatClampNeg then none else (if (h.1 (v0 + 2) (1 : Int32).toNatClampNeg) ≤ v1 then some 0 else (if (2 : Int32) ≤ v1 then some 0 else (if v1 < 0 ∨ 2 ≤ v1.toNatClampNeg then none else some (ra (v0 + 24) v1.toNatClampNeg))))))
set_option maxRecDepth 4000 in
set_option maxHeartbeats 2000000 in
theorem X7_nightsAt_c {l : Launch} {G : GT} {N : Nat} {h : HS} {v0 : Nat} {v1 : Int32} {z : Nat} (t_v0 : sh v0 = 7) (hf : X7_nightsAt N h v0 v1 = some z) : CT l G yX7_nightsAt cX7_nightsAt 2 (some (.object RX6)) 0 0 [.ref (ad G v0), .int v1] h (some (rfv G z)) h := by
  unfold X7_nightsAt at hf
  refine CT.of (by decide) (Nat.le_of_ble_eq_true rfl) ?_
  intro p e s m below meth c ls E hr hlk w hl
  have hl : lv_has ls 2 [(0, .ref (ad G v0)), (1, .int v1)] := hl
  refine lv_iload_n E.1 E.2.1 dX7_nightsAt_0 rfl (lv_at hl 1 rfl) ?_
  refine lv_if_lt (tgt := 28) E.1 E.2.1 dX7_nightsAt_1 (by decide) (fun c1 => ?_) (fun c1 => ?_)
  · have hf := q_pos c1 hf
    refine lv_null E.1 E.2.1 dX7_nightsAt_28 ?_
    have hf := Option.some.inj hf
    subst hf
    exact q_aret (v := .null) E w hr (Or.inl ⟨_, rfl⟩) (Or.inl rfl) hlk dX7_nightsAt_29
  · have hf := q_neg c1 hf
    refine lv_iload_n E.1 E.2.1 dX7_nightsAt_4 rfl (lv_at hl 1 rfl) ?_
    refine lv_aload_n E.1 E.2.1 dX7_nightsAt_5 rfl (lv_at hl 0 rfl) ?_
    refine q_gs E w 2 t_v0 fl_RX7_25 dX7_nightsAt_6 ?_
    refine lv_iconst (v := 1) E.1 E.2.1 dX7_nightsAt_9 rfl ?_
    obtain ⟨b2, hf⟩ := q_if hf
    refine q_iald E w ((lay_7_4 t_v0).1) ((lay_7_4 t_v0).2) b2 dX7_nightsAt_10 ?_
    refine lv_icmp_ge (tgt := 28) E.1 E.2.1 dX7_nightsAt_11 (by decide) (fun c3 => ?_) (fun c3 => ?_)
    · have hf := q_pos c3 hf
      refine lv_null E.1 E.2.1 dX7_nightsAt_28 ?_
      have hf := Option.some.inj hf
      subst hf
      exact q_aret (v := .null) E w hr (Or.inl ⟨_, rfl⟩) (Or.inl rfl) hlk dX7_nightsAt_29
    · have hf := q_neg c3 hf
      refine lv_iload_n E.1 E.2.1 dX7_nightsAt_14 rfl (lv_at hl 1 rfl) ?_
      refine lv_iconst (v := 2) E.1 E.2.1 dX7_nightsAt_15 rfl ?_
      refine lv_icmp_ge (tgt := 28) E.1 E.2.1 dX7_nightsAt_16 (by decide) (fun c4 => ?_) (fun c4 => ?_)
      · have hf := q_pos c4 hf
        refine lv_null E.1 E.2.1 dX7_nightsAt_28 ?_
        have hf := Option.some.inj hf
        subst hf
        exact q_aret (v := .null) E w hr (Or.inl ⟨_, rfl⟩) (Or.inl rfl) hlk dX7_nightsAt_29
      · have hf := q_neg c4 hf
        refine lv_aload_n E.1 E.2.1 dX7_nightsAt_19 rfl (lv_at hl 0 rfl) ?_
        refine q_gs E w 24 t_v0 fl_RX7_41 dX7_nightsAt_20 ?_
        refine lv_iload_n E.1 E.2.1 dX7_nightsAt_23 rfl (lv_at hl 1 rfl) ?_
        obtain ⟨b5, hf⟩ := q_if hf
        have t6 : sh (ra (v0 + 24) v1.toNatClampNeg) = 6 := lay_ra ((lay_7_6 t_v0).1) ((lay_7_6 t_v0).2) (by decide) rfl b5
        refine q_aald (t := 4) E w ((lay_7_6 t_v0).1) (by decide) ((lay_7_6 t_v0).2) b5 dX7_nightsAt_24 ?_
        refine lv_goto (tgt := 29) E.1 E.2.1 dX7_nightsAt_25 (by decide) ?_
        have hf := Option.some.inj hf
        subst hf
        rw [rfv_p G (by rw [t6]; decide)]
        exact q_aret E w hr (Or.inl ⟨_, rfl⟩) (Or.inr ⟨_, rfl⟩) hlk dX7_nightsAt_29

theorem X7_nightsAt_t {N : Nat} {h : HS} {v0 : Nat} {v1 : Int32} {z : Nat} (t0 : sh v0 = 7) (hf : X7_nightsAt N h v0 v1 = some z) : z = 0 ∨ sh z = 6 := by
  unfold X7_nightsAt at hf
  repeat' split at hf
  all_goals first
    | (cases hf; exact Or.inl rfl)
    | (rename_i b; cases hf; exact Or.inr (lay_ra ((lay_7_6 t0).1) ((lay_7_6 t0).2) (by decide) rfl b))
    | cases hf

def X7_morningsAt (N : Nat) (h : HS) (v0 : Nat) (v1 : Int32) : Option Nat := (if v1 < 0 then some 0 else (if (2 : Int32) < 0 ∨ 3 ≤ (2 : Int32).toNatClampNeg then none else (if (h.1 (v0 + 2) (2 : Int32).toNatClampNeg) ≤ v1 then some 0 else (if (2 : Int32) ≤ v1 then some 0 else (if v1 < 0 ∨ 2 ≤ v1.toNatClampNeg then none else some (ra (v0 + 31) v1.toNatClampNeg))))))
set_option maxRecDepth 4000 in
set_option maxHeartbeats 2000000 in
theorem X7_morningsAt_c {l : Launch} {G : GT} {N : Nat} {h : HS} {v0 : Nat} {v1 : Int32} {z : Nat} (t_v0 : sh v0 = 7) (hf : X7_morningsAt N h v0 v1 = some z) : CT l G yX7_morningsAt cX7_morningsAt 2 (some (.object RX6)) 0 0 [.ref (ad G v0), .int v1] h (some (rfv G z)) h := by
  unfold X7_morningsAt at hf
  refine CT.of (by decide) (Nat.le_of_ble_eq_true rfl) ?_
  intro p e s m below meth c ls E hr hlk w hl
  have hl : lv_has ls 2 [(0, .ref (ad G v0)), (1, .int v1)] := hl
  refine lv_iload_n E.1 E.2.1 dX7_morningsAt_0 rfl (lv_at hl 1 rfl) ?_
  refine lv_if_lt (tgt := 28) E.1 E.2.1 dX7_morningsAt_1 (by decide) (fun c1 => ?_) (fun c1 => ?_)
  · have hf := q_pos c1 hf
    refine lv_null E.1 E.2.1 dX7_morningsAt_28 ?_
    have hf := Option.some.inj hf
    subst hf
    exact q_aret (v := .null) E w hr (Or.inl ⟨_, rfl⟩) (Or.inl rfl) hlk dX7_morningsAt_29
  · have hf := q_neg c1 hf
    refine lv_iload_n E.1 E.2.1 dX7_morningsAt_4 rfl (lv_at hl 1 rfl) ?_
    refine lv_aload_n E.1 E.2.1 dX7_morningsAt_5 rfl (lv_at hl 0 rfl) ?_
    refine q_gs E w 2 t_v0 fl_RX7_25 dX7_morningsAt_6 ?_
    refine lv_iconst (v := 2) E.1 E.2.1 dX7_morningsAt_9 rfl ?_
    obtain ⟨b2, hf⟩ := q_if hf
    refine q_iald E w ((lay_7_4 t_v0).1) ((lay_7_4 t_v0).2) b2 dX7_morningsAt_10 ?_
    refine lv_icmp_ge (tgt := 28) E.1 E.2.1 dX7_morningsAt_11 (by decide) (fun c3 => ?_) (fun c3 => ?_)
    · have hf := q_pos c3 hf
      refine lv_null E.1 E.2.1 dX7_morningsAt_28 ?_
      have hf := Option.some.inj hf
      subst hf
      exact q_aret (v := .null) E w hr (Or.inl ⟨_, rfl⟩) (Or.inl rfl) hlk dX7_morningsAt_29
    · have hf := q_neg c3 hf
      refine lv_iload_n E.1 E.2.1 dX7_morningsAt_14 rfl (lv_at hl 1 rfl) ?_
      refine lv_iconst (v := 2) E.1 E.2.1 dX7_morningsAt_15 rfl ?_
      refine lv_icmp_ge (tgt := 28) E.1 E.2.1 dX7_morningsAt_16 (by decide) (fun c4 => ?_) (fun c4 => ?_)
      · have hf := q_pos c4 hf
        refine lv_null E.1 E.2.1 dX7_morningsAt_28 ?_
        have hf := Option.some.inj hf
        subst hf
        exact q_aret (v := .null) E w hr (Or.inl ⟨_, rfl⟩) (Or.inl rfl) hlk dX7_morningsAt_29
      · have hf := q_neg c4 hf
        refine lv_aload_n E.1 E.2.1 dX7_morningsAt_19 rfl (lv_at hl 0 rfl) ?_
        refine q_gs E w 31 t_v0 fl_RX7_45 dX7_morningsAt_20 ?_
        refine lv_iload_n E.1 E.2.1 dX7_morningsAt_23 rfl (lv_at hl 1 rfl) ?_
        obtain ⟨b5, hf⟩ := q_if hf
        have t6 : sh (ra (v0 + 31) v1.toNatClampNeg) = 6 := lay_ra ((lay_7_7 t_v0).1) ((lay_7_7 t_v0).2) (by decide) rfl b5
        refine q_aald (t := 4) E w ((lay_7_7 t_v0).1) (by decide) ((lay_7_7 t_v0).2) b5 dX7_morningsAt_24 ?_
        refine lv_goto (tgt := 29) E.1 E.2.1 dX7_morningsAt_25 (by decide) ?_
        have hf := Option.some.inj hf
        subst hf
        rw [rfv_p G (by rw [t6]; decide)]
        exact q_aret E w hr (Or.inl ⟨_, rfl⟩) (Or.inr ⟨_, rfl⟩) hlk dX7_morningsAt_29

theorem X7_morningsAt_t {N : Nat} {h : HS} {v0 : Nat} {v1 : Int32} {z : Nat} (t0 : sh v0 = 7) (hf : X7_morningsAt N h v0 v1 = some z) : z = 0 ∨ sh z = 6 := by
  unfold X7_morningsAt at hf
  repeat' split at hf
  all_goals first
    | (cases hf; exact Or.inl rfl)
    | (rename_i b; cases hf; exact Or.inr (lay_ra ((lay_7_7 t0).1) ((lay_7_7 t0).2) (by decide) rfl b))
    | cases hf

def X7_numberFor (N : Nat) (h : HS) (v0 : Nat) (v1 : Int32) (v2 : Int32) : Option Int32 := (if v1 < 0 then some (-1) else (if v1 < (3 : Int32) then (if v2 = ((-1) : Int32) then (if v1 < 0 ∨ 3 ≤ v1.toNatClampNeg then none else (if (2 : Int32) ≤ (h.1 (v0 + 2) v1.toNatClampNeg) then some (-1) else (if v1 < 0 ∨ 3 ≤ v1.toNatClampNeg then none else some (h.1 (v0 + 2) v1.toNatClampNeg)))) else (if v2 < 0 then some (-1) else (if v1 < 0 ∨ 3 ≤ v1.toNatClampNeg then none else (if (h.1 (v0 + 2) v1.toNatClampNeg) ≤ v2 then some (-1) else some v2)))) else some (-1)))
set_option maxRecDepth 4000 in
set_option maxHeartbeats 2000000 in
theorem X7_numberFor_c {l : Launch} {G : GT} {N : Nat} {h : HS} {v0 : Nat} {v1 : Int32} {v2 : Int32} {z : Int32} (t_v0 : sh v0 = 7) (hf : X7_numberFor N h v0 v1 v2 = some z) : CT l G yX7_numberFor cX7_numberFor 3 (some .int) 0 0 [.ref (ad G v0), .int v1, .int v2] h (some (.int z)) h := by
  unfold X7_numberFor at hf
  refine CT.of (by decide) (Nat.le_of_ble_eq_true rfl) ?_
  intro p e s m below meth c ls E hr hlk w hl
  have hl : lv_has ls 3 [(0, .ref (ad G v0)), (1, .int v1), (2, .int v2)] := hl
  refine lv_iload_n E.1 E.2.1 dX7_numberFor_0 rfl (lv_at hl 1 rfl) ?_
  refine lv_if_lt (tgt := 9) E.1 E.2.1 dX7_numberFor_1 (by decide) (fun c1 => ?_) (fun c1 => ?_)
  · have hf := q_pos c1 hf
    refine lv_iconst (v := (-1)) E.1 E.2.1 dX7_numberFor_9 rfl ?_
    have hf := Option.some.inj hf
    subst hf
    exact q_iret E w hr hlk dX7_numberFor_10
  · have hf := q_neg c1 hf
    refine lv_iload_n E.1 E.2.1 dX7_numberFor_4 rfl (lv_at hl 1 rfl) ?_
    refine lv_iconst (v := 3) E.1 E.2.1 dX7_numberFor_5 rfl ?_
    refine lv_icmp_lt (tgt := 11) E.1 E.2.1 dX7_numberFor_6 (by decide) (fun c2 => ?_) (fun c2 => ?_)
    · have hf := q_pos c2 hf
      refine lv_iload_n E.1 E.2.1 dX7_numberFor_11 rfl (lv_at hl 2 rfl) ?_
      refine lv_iconst (v := (-1)) E.1 E.2.1 dX7_numberFor_12 rfl ?_
      refine lv_icmp_ne (tgt := 37) E.1 E.2.1 dX7_numberFor_13 (by decide) (fun c3 => ?_) (fun c3 => ?_)
      · have hf := q_neg c3 hf
        refine lv_iload_n E.1 E.2.1 dX7_numberFor_37 rfl (lv_at hl 2 rfl) ?_
        refine lv_if_lt (tgt := 55) E.1 E.2.1 dX7_numberFor_38 (by decide) (fun c4 => ?_) (fun c4 => ?_)
        · have hf := q_pos c4 hf
          refine lv_iconst (v := (-1)) E.1 E.2.1 dX7_numberFor_55 rfl ?_
          have hf := Option.some.inj hf
          subst hf
          exact q_iret E w hr hlk dX7_numberFor_56
        · have hf := q_neg c4 hf
          refine lv_iload_n E.1 E.2.1 dX7_numberFor_41 rfl (lv_at hl 2 rfl) ?_
          refine lv_aload_n E.1 E.2.1 dX7_numberFor_42 rfl (lv_at hl 0 rfl) ?_
          refine q_gs E w 2 t_v0 fl_RX7_25 dX7_numberFor_43 ?_
          refine lv_iload_n E.1 E.2.1 dX7_numberFor_46 rfl (lv_at hl 1 rfl) ?_
          obtain ⟨b5, hf⟩ := q_if hf
          refine q_iald E w ((lay_7_4 t_v0).1) ((lay_7_4 t_v0).2) b5 dX7_numberFor_47 ?_
          refine lv_icmp_ge (tgt := 55) E.1 E.2.1 dX7_numberFor_48 (by decide) (fun c6 => ?_) (fun c6 => ?_)
          · have hf := q_pos c6 hf
            refine lv_iconst (v := (-1)) E.1 E.2.1 dX7_numberFor_55 rfl ?_
            have hf := Option.some.inj hf
            subst hf
            exact q_iret E w hr hlk dX7_numberFor_56
          · have hf := q_neg c6 hf
            refine lv_iload_n E.1 E.2.1 dX7_numberFor_51 rfl (lv_at hl 2 rfl) ?_
            refine lv_goto (tgt := 56) E.1 E.2.1 dX7_numberFor_52 (by decide) ?_
            have hf := Option.some.inj hf
            subst hf
            exact q_iret E w hr hlk dX7_numberFor_56
      · have hf := q_pos c3 hf
        refine lv_aload_n E.1 E.2.1 dX7_numberFor_16 rfl (lv_at hl 0 rfl) ?_
        refine q_gs E w 2 t_v0 fl_RX7_25 dX7_numberFor_17 ?_
        refine lv_iload_n E.1 E.2.1 dX7_numberFor_20 rfl (lv_at hl 1 rfl) ?_
        obtain ⟨b7, hf⟩ := q_if hf
        refine q_iald E w ((lay_7_4 t_v0).1) ((lay_7_4 t_v0).2) b7 dX7_numberFor_21 ?_
        refine lv_iconst (v := 2) E.1 E.2.1 dX7_numberFor_22 rfl ?_
        refine lv_icmp_ge (tgt := 35) E.1 E.2.1 dX7_numberFor_23 (by decide) (fun c8 => ?_) (fun c8 => ?_)
        · have hf := q_pos c8 hf
          refine lv_iconst (v := (-1)) E.1 E.2.1 dX7_numberFor_35 rfl ?_
          have hf := Option.some.inj hf
          subst hf
          exact q_iret E w hr hlk dX7_numberFor_36
        · have hf := q_neg c8 hf
          refine lv_aload_n E.1 E.2.1 dX7_numberFor_26 rfl (lv_at hl 0 rfl) ?_
          refine q_gs E w 2 t_v0 fl_RX7_25 dX7_numberFor_27 ?_
          refine lv_iload_n E.1 E.2.1 dX7_numberFor_30 rfl (lv_at hl 1 rfl) ?_
          obtain ⟨b9, hf⟩ := q_if hf
          refine q_iald E w ((lay_7_4 t_v0).1) ((lay_7_4 t_v0).2) b9 dX7_numberFor_31 ?_
          refine lv_goto (tgt := 36) E.1 E.2.1 dX7_numberFor_32 (by decide) ?_
          have hf := Option.some.inj hf
          subst hf
          exact q_iret E w hr hlk dX7_numberFor_36
    · have hf := q_neg c2 hf
      refine lv_iconst (v := (-1)) E.1 E.2.1 dX7_numberFor_9 rfl ?_
      have hf := Option.some.inj hf
      subst hf
      exact q_iret E w hr hlk dX7_numberFor_10

def X7_keep (N : Nat) (h : HS) (v0 : Nat) (v1 : Int32) (v2 : Int32) (v3 : Nat) (v4 : Nat) : Option HS := (if v1 < 0 then some h else (if (3 : Int32) ≤ v1 then some h else (if v2 < 0 then some h else (if v2 < (2 : Int32) then (if v1 = 0 then (if v2 < 0 ∨ 2 ≤ v2.toNatClampNeg then none else bd1 (X1_copy N h (ra (v0 + 3) v2.toNatClampNeg) v3) fun h27 => (if v1 < 0 ∨ 3 ≤ v1.toNatClampNeg then none else (if v1 < 0 ∨ 3 ≤ v1.toNatClampNeg then none else sq (wi h27 (v0 + 2) v1.toNatClampNeg (if (h27.1 (v0 + 2) v1.toNatClampNeg) < (v2 + 1) then (v2 + 1) else (h27.1 (v0 + 2) v1.toNatClampNeg))) fun h30 => some h30))) else (if v1 = (1 : Int32) then (if v2 < 0 ∨ 2 ≤ v2.toNatClampNeg then none else bd1 (X6_copy N h (ra (v0 + 24) v2.toNatClampNeg) v4) fun h19 => (if v1 < 0 ∨ 3 ≤ v1.toNatClampNeg then none else (if v1 < 0 ∨ 3 ≤ v1.toNatClampNeg then none else sq (wi h19 (v0 + 2) v1.toNatClampNeg (if (h19.1 (v0 + 2) v1.toNatClampNeg) < (v2 + 1) then (v2 + 1) else (h19.1 (v0 + 2) v1.toNatClampNeg))) fun h22 => some h22))) else (if v2 < 0 ∨ 2 ≤ v2.toNatClampNeg then none else bd1 (X6_copy N h (ra (v0 + 31) v2.toNatClampNeg) v4) fun h11 => (if v1 < 0 ∨ 3 ≤ v1.toNatClampNeg then none else (if v1 < 0 ∨ 3 ≤ v1.toNatClampNeg then none else sq (wi h11 (v0 + 2) v1.toNatClampNeg (if (h11.1 (v0 + 2) v1.toNatClampNeg) < (v2 + 1) then (v2 + 1) else (h11.1 (v0 + 2) v1.toNatClampNeg))) fun h14 => some h14))))) else some h))))
set_option maxRecDepth 4000 in
set_option maxHeartbeats 2000000 in
theorem X7_keep_c {l : Launch} {G : GT} {N : Nat} {h : HS} {v0 : Nat} {v1 : Int32} {v2 : Int32} {v3 : Nat} {v4 : Nat} {z : HS} (t_v0 : sh v0 = 7) (t_v3 : sh v3 = 1) (t_v4 : sh v4 = 6) (hf : X7_keep N h v0 v1 v2 v3 v4 = some z) : CT l G yX7_keep cX7_keep 5 none 2 61 [.ref (ad G v0), .int v1, .int v2, .ref (ad G v3), .ref (ad G v4)] h none z := by
  unfold X7_keep at hf
  refine CT.of (by decide) (Nat.le_of_ble_eq_true rfl) ?_
  intro p e s m below meth c ls E hr hlk w hl
  have hl : lv_has ls 5 [(0, .ref (ad G v0)), (1, .int v1), (2, .int v2), (3, .ref (ad G v3)), (4, .ref (ad G v4))] := hl
  refine lv_iload_n E.1 E.2.1 dX7_keep_0 rfl (lv_at hl 1 rfl) ?_
  refine lv_if_lt (tgt := 18) E.1 E.2.1 dX7_keep_1 (by decide) (fun c1 => ?_) (fun c1 => ?_)
  · have hf := q_pos c1 hf
    have hf := Option.some.inj hf
    subst hf
    exact q_vret E w hr hlk dX7_keep_18
  · have hf := q_neg c1 hf
    refine lv_iload_n E.1 E.2.1 dX7_keep_4 rfl (lv_at hl 1 rfl) ?_
    refine lv_iconst (v := 3) E.1 E.2.1 dX7_keep_5 rfl ?_
    refine lv_icmp_ge (tgt := 18) E.1 E.2.1 dX7_keep_6 (by decide) (fun c2 => ?_) (fun c2 => ?_)
    · have hf := q_pos c2 hf
      have hf := Option.some.inj hf
      subst hf
      exact q_vret E w hr hlk dX7_keep_18
    · have hf := q_neg c2 hf
      refine lv_iload_n E.1 E.2.1 dX7_keep_9 rfl (lv_at hl 2 rfl) ?_
      refine lv_if_lt (tgt := 18) E.1 E.2.1 dX7_keep_10 (by decide) (fun c3 => ?_) (fun c3 => ?_)
      · have hf := q_pos c3 hf
        have hf := Option.some.inj hf
        subst hf
        exact q_vret E w hr hlk dX7_keep_18
      · have hf := q_neg c3 hf
        refine lv_iload_n E.1 E.2.1 dX7_keep_13 rfl (lv_at hl 2 rfl) ?_
        refine lv_iconst (v := 2) E.1 E.2.1 dX7_keep_14 rfl ?_
        refine lv_icmp_lt (tgt := 19) E.1 E.2.1 dX7_keep_15 (by decide) (fun c4 => ?_) (fun c4 => ?_)
        · have hf := q_pos c4 hf
          refine lv_iload_n E.1 E.2.1 dX7_keep_19 rfl (lv_at hl 1 rfl) ?_
          refine lv_if_ne (tgt := 36) E.1 E.2.1 dX7_keep_20 (by decide) (fun c5 => ?_) (fun c5 => ?_)
          · have hf := q_neg c5 hf
            refine lv_iload_n E.1 E.2.1 dX7_keep_36 rfl (lv_at hl 1 rfl) ?_
            refine lv_iconst (v := 1) E.1 E.2.1 dX7_keep_37 rfl ?_
            refine lv_icmp_ne (tgt := 55) E.1 E.2.1 dX7_keep_38 (by decide) (fun c6 => ?_) (fun c6 => ?_)
            · have hf := q_neg c6 hf
              refine lv_aload_n E.1 E.2.1 dX7_keep_55 rfl (lv_at hl 0 rfl) ?_
              refine q_gs E w 31 t_v0 fl_RX7_45 dX7_keep_56 ?_
              refine lv_iload_n E.1 E.2.1 dX7_keep_59 rfl (lv_at hl 2 rfl) ?_
              obtain ⟨b7, hf⟩ := q_if hf
              have t8 : sh (ra (v0 + 31) v2.toNatClampNeg) = 6 := lay_ra ((lay_7_7 t_v0).1) ((lay_7_7 t_v0).2) (by decide) rfl b7
              refine q_aald (t := 4) E w ((lay_7_7 t_v0).1) (by decide) ((lay_7_7 t_v0).2) b7 dX7_keep_60 ?_
              refine lv_aload E.1 E.2.1 dX7_keep_61 (lv_at hl 4 rfl) ?_
              obtain ⟨h11, hc9, hf⟩ := bd1_e hf
              refine k_Vv (As := [.ref (ad G v4)]) (rest := []) E w t8 ⟨by decide, rfl⟩ (X6_copy_c t8 t_v4 hc9) mv_RX7_52 rfl rfl hl.1 ⟨Nat.le_of_ble_eq_true rfl, Nat.le_of_ble_eq_true rfl⟩ (Nat.le_of_ble_eq_true rfl) ⟨Nat.le_refl _, Nat.le_refl _⟩ dX7_keep_63 (fun H locs w => ?_)
              refine lv_aload_n E.1 E.2.1 dX7_keep_66 rfl (lv_at hl 0 rfl) ?_
              refine q_gs E w 2 t_v0 fl_RX7_25 dX7_keep_67 ?_
              refine lv_iload_n E.1 E.2.1 dX7_keep_70 rfl (lv_at hl 1 rfl) ?_
              refine lv_aload_n E.1 E.2.1 dX7_keep_71 rfl (lv_at hl 0 rfl) ?_
              refine q_gs E w 2 t_v0 fl_RX7_25 dX7_keep_72 ?_
              refine lv_iload_n E.1 E.2.1 dX7_keep_75 rfl (lv_at hl 1 rfl) ?_
              obtain ⟨b12, hf⟩ := q_if hf
              refine q_iald E w ((lay_7_4 t_v0).1) ((lay_7_4 t_v0).2) b12 dX7_keep_76 ?_
              refine lv_iload_n E.1 E.2.1 dX7_keep_77 rfl (lv_at hl 2 rfl) ?_
              refine lv_iconst (v := 1) E.1 E.2.1 dX7_keep_78 rfl ?_
              refine lv_iadd E.1 E.2.1 dX7_keep_79 ?_
              refine q_max E mm_RX7_55 hl.1 ⟨Nat.le_of_ble_eq_true rfl, Nat.le_of_ble_eq_true rfl⟩ ⟨Nat.le_refl _, Nat.le_refl _⟩ dX7_keep_80 ?_
              obtain ⟨b13, hf⟩ := q_if hf
              refine p_iast E w ((lay_7_4 t_v0).1) ((lay_7_4 t_v0).2) b13 dX7_keep_83 (fun h14 H locs eh w => ?_)
              have hf := sq_e eh hf
              clear eh
              have hf := Option.some.inj hf
              subst hf
              exact q_vret E w hr hlk dX7_keep_84
            · have hf := q_pos c6 hf
              refine lv_aload_n E.1 E.2.1 dX7_keep_41 rfl (lv_at hl 0 rfl) ?_
              refine q_gs E w 24 t_v0 fl_RX7_41 dX7_keep_42 ?_
              refine lv_iload_n E.1 E.2.1 dX7_keep_45 rfl (lv_at hl 2 rfl) ?_
              obtain ⟨b15, hf⟩ := q_if hf
              have t16 : sh (ra (v0 + 24) v2.toNatClampNeg) = 6 := lay_ra ((lay_7_6 t_v0).1) ((lay_7_6 t_v0).2) (by decide) rfl b15
              refine q_aald (t := 4) E w ((lay_7_6 t_v0).1) (by decide) ((lay_7_6 t_v0).2) b15 dX7_keep_46 ?_
              refine lv_aload E.1 E.2.1 dX7_keep_47 (lv_at hl 4 rfl) ?_
              obtain ⟨h19, hc17, hf⟩ := bd1_e hf
              refine k_Vv (As := [.ref (ad G v4)]) (rest := []) E w t16 ⟨by decide, rfl⟩ (X6_copy_c t16 t_v4 hc17) mv_RX7_52 rfl rfl hl.1 ⟨Nat.le_of_ble_eq_true rfl, Nat.le_of_ble_eq_true rfl⟩ (Nat.le_of_ble_eq_true rfl) ⟨Nat.le_refl _, Nat.le_refl _⟩ dX7_keep_49 (fun H locs w => ?_)
              refine lv_goto (tgt := 66) E.1 E.2.1 dX7_keep_52 (by decide) ?_
              refine lv_aload_n E.1 E.2.1 dX7_keep_66 rfl (lv_at hl 0 rfl) ?_
              refine q_gs E w 2 t_v0 fl_RX7_25 dX7_keep_67 ?_
              refine lv_iload_n E.1 E.2.1 dX7_keep_70 rfl (lv_at hl 1 rfl) ?_
              refine lv_aload_n E.1 E.2.1 dX7_keep_71 rfl (lv_at hl 0 rfl) ?_
              refine q_gs E w 2 t_v0 fl_RX7_25 dX7_keep_72 ?_
              refine lv_iload_n E.1 E.2.1 dX7_keep_75 rfl (lv_at hl 1 rfl) ?_
              obtain ⟨b20, hf⟩ := q_if hf
              refine q_iald E w ((lay_7_4 t_v0).1) ((lay_7_4 t_v0).2) b20 dX7_keep_76 ?_
              refine lv_iload_n E.1 E.2.1 dX7_keep_77 rfl (lv_at hl 2 rfl) ?_
              refine lv_iconst (v := 1) E.1 E.2.1 dX7_keep_78 rfl ?_
              refine lv_iadd E.1 E.2.1 dX7_keep_79 ?_
              refine q_max E mm_RX7_55 hl.1 ⟨Nat.le_of_ble_eq_true rfl, Nat.le_of_ble_eq_true rfl⟩ ⟨Nat.le_refl _, Nat.le_refl _⟩ dX7_keep_80 ?_
              obtain ⟨b21, hf⟩ := q_if hf
              refine p_iast E w ((lay_7_4 t_v0).1) ((lay_7_4 t_v0).2) b21 dX7_keep_83 (fun h22 H locs eh w => ?_)
              have hf := sq_e eh hf
              clear eh
              have hf := Option.some.inj hf
              subst hf
              exact q_vret E w hr hlk dX7_keep_84
          · have hf := q_pos c5 hf
            refine lv_aload_n E.1 E.2.1 dX7_keep_23 rfl (lv_at hl 0 rfl) ?_
            refine q_gs E w 3 t_v0 fl_RX7_32 dX7_keep_24 ?_
            refine lv_iload_n E.1 E.2.1 dX7_keep_27 rfl (lv_at hl 2 rfl) ?_
            obtain ⟨b23, hf⟩ := q_if hf
            have t24 : sh (ra (v0 + 3) v2.toNatClampNeg) = 1 := lay_ra ((lay_7_5 t_v0).1) ((lay_7_5 t_v0).2) (by decide) rfl b23
            refine q_aald (t := 3) E w ((lay_7_5 t_v0).1) (by decide) ((lay_7_5 t_v0).2) b23 dX7_keep_28 ?_
            refine lv_aload_n E.1 E.2.1 dX7_keep_29 rfl (lv_at hl 3 rfl) ?_
            obtain ⟨h27, hc25, hf⟩ := bd1_e hf
            refine k_Vv (As := [.ref (ad G v3)]) (rest := []) E w t24 ⟨by decide, rfl⟩ (X1_copy_c t24 t_v3 hc25) mv_RX7_48 rfl rfl hl.1 ⟨Nat.le_of_ble_eq_true rfl, Nat.le_of_ble_eq_true rfl⟩ (Nat.le_of_ble_eq_true rfl) ⟨Nat.le_refl _, Nat.le_refl _⟩ dX7_keep_30 (fun H locs w => ?_)
            refine lv_goto (tgt := 66) E.1 E.2.1 dX7_keep_33 (by decide) ?_
            refine lv_aload_n E.1 E.2.1 dX7_keep_66 rfl (lv_at hl 0 rfl) ?_
            refine q_gs E w 2 t_v0 fl_RX7_25 dX7_keep_67 ?_
            refine lv_iload_n E.1 E.2.1 dX7_keep_70 rfl (lv_at hl 1 rfl) ?_
            refine lv_aload_n E.1 E.2.1 dX7_keep_71 rfl (lv_at hl 0 rfl) ?_
            refine q_gs E w 2 t_v0 fl_RX7_25 dX7_keep_72 ?_
            refine lv_iload_n E.1 E.2.1 dX7_keep_75 rfl (lv_at hl 1 rfl) ?_
            obtain ⟨b28, hf⟩ := q_if hf
            refine q_iald E w ((lay_7_4 t_v0).1) ((lay_7_4 t_v0).2) b28 dX7_keep_76 ?_
            refine lv_iload_n E.1 E.2.1 dX7_keep_77 rfl (lv_at hl 2 rfl) ?_
            refine lv_iconst (v := 1) E.1 E.2.1 dX7_keep_78 rfl ?_
            refine lv_iadd E.1 E.2.1 dX7_keep_79 ?_
            refine q_max E mm_RX7_55 hl.1 ⟨Nat.le_of_ble_eq_true rfl, Nat.le_of_ble_eq_true rfl⟩ ⟨Nat.le_refl _, Nat.le_refl _⟩ dX7_keep_80 ?_
            obtain ⟨b29, hf⟩ := q_if hf
            refine p_iast E w ((lay_7_4 t_v0).1) ((lay_7_4 t_v0).2) b29 dX7_keep_83 (fun h30 H locs eh w => ?_)
            have hf := sq_e eh hf
            clear eh
            have hf := Option.some.inj hf
            subst hf
            exact q_vret E w hr hlk dX7_keep_84
        · have hf := q_neg c4 hf
          have hf := Option.some.inj hf
          subst hf
          exact q_vret E w hr hlk dX7_keep_18

def X7_copy_l56 (N : Nat) : Nat → HS → Nat → Nat → Int32 → Option HS
  | 0, _, _, _, _ => none
  | n + 1, h, v0, v1, v2 => (if (2 : Int32) ≤ v2 then some h else (if v2 < 0 ∨ 2 ≤ v2.toNatClampNeg then none else (if v2 < 0 ∨ 2 ≤ v2.toNatClampNeg then none else bd1 (X1_copy N h (ra (v0 + 3) v2.toNatClampNeg) (ra (v1 + 3) v2.toNatClampNeg)) fun h13 => (if v2 < 0 ∨ 2 ≤ v2.toNatClampNeg then none else (if v2 < 0 ∨ 2 ≤ v2.toNatClampNeg then none else bd1 (X6_copy N h13 (ra (v0 + 24) v2.toNatClampNeg) (ra (v1 + 24) v2.toNatClampNeg)) fun h20 => (if v2 < 0 ∨ 2 ≤ v2.toNatClampNeg then none else (if v2 < 0 ∨ 2 ≤ v2.toNatClampNeg then none else bd1 (X6_copy N h20 (ra (v0 + 31) v2.toNatClampNeg) (ra (v1 + 31) v2.toNatClampNeg)) fun h27 => X7_copy_l56 N n h27 v0 v1 (v2 + 1))))))))
set_option maxRecDepth 4000 in
set_option maxHeartbeats 2000000 in
theorem X7_copy_l56_w {p : Program} {l : Launch} {e : Env} {s : State} {m : MethodId} {args : Array Value} {below : List Frame} {meth : Method} {c : Code} {G : GT} {N : Nat} {z : HS} (E : CallFix p m c cX7_copy 3 s args UW RX7) (hr : meth.sig.returnType = none) (hlk : meth.locks = false) : ∀ (n : Nat) (h : HS) (H : Heap) (locs : List Loc) (ls : Array Slot) (v0 : Nat) (v1 : Nat) (v2 : Int32), X7_copy_l56 N n h v0 v1 v2 = some z → WD G s h H locs → sh v0 = 7 → sh v1 = 7 → lv_has ls 3 [(0, .ref (ad G v0)), (1, .ref (ad G v1)), (2, .int v2)] → W p l e ({ frames := 2, cells := 0, slots := 0, locals := 61 } : Room) s m args below meth c H locs 0 0 (MQ below (QC G none z) args s 0 0 (AD G)) (F0 m 56 ls []) := by
  intro n
  induction n with
  | zero =>
    intro h H locs ls v0 v1 v2 hf
    cases hf
  | succ n ih =>
    intro h H locs ls v0 v1 v2 hf w t_v0 t_v1 hl
    unfold X7_copy_l56 at hf
    refine lv_iload_n E.1 E.2.1 dX7_copy_56 rfl (lv_at hl 2 rfl) ?_
    refine lv_iconst (v := 2) E.1 E.2.1 dX7_copy_57 rfl ?_
    refine lv_icmp_ge (tgt := 112) E.1 E.2.1 dX7_copy_58 (by decide) (fun c6 => ?_) (fun c6 => ?_)
    · have hf := q_pos c6 hf
      have hf := Option.some.inj hf
      subst hf
      exact q_vret E w hr hlk dX7_copy_112
    · have hf := q_neg c6 hf
      refine lv_aload_n E.1 E.2.1 dX7_copy_61 rfl (lv_at hl 0 rfl) ?_
      refine q_gs E w 3 t_v0 fl_RX7_32 dX7_copy_62 ?_
      refine lv_iload_n E.1 E.2.1 dX7_copy_65 rfl (lv_at hl 2 rfl) ?_
      obtain ⟨b7, hf⟩ := q_if hf
      have t8 : sh (ra (v0 + 3) v2.toNatClampNeg) = 1 := lay_ra ((lay_7_5 t_v0).1) ((lay_7_5 t_v0).2) (by decide) rfl b7
      refine q_aald (t := 3) E w ((lay_7_5 t_v0).1) (by decide) ((lay_7_5 t_v0).2) b7 dX7_copy_66 ?_
      refine lv_aload_n E.1 E.2.1 dX7_copy_67 rfl (lv_at hl 1 rfl) ?_
      refine q_gs E w 3 t_v1 fl_RX7_32 dX7_copy_68 ?_
      refine lv_iload_n E.1 E.2.1 dX7_copy_71 rfl (lv_at hl 2 rfl) ?_
      obtain ⟨b9, hf⟩ := q_if hf
      have t10 : sh (ra (v1 + 3) v2.toNatClampNeg) = 1 := lay_ra ((lay_7_5 t_v1).1) ((lay_7_5 t_v1).2) (by decide) rfl b9
      refine q_aald (t := 3) E w ((lay_7_5 t_v1).1) (by decide) ((lay_7_5 t_v1).2) b9 dX7_copy_72 ?_
      obtain ⟨h13, hc11, hf⟩ := bd1_e hf
      refine k_Vv (As := [.ref (ad G (ra (v1 + 3) v2.toNatClampNeg))]) (rest := []) E w t8 ⟨by decide, rfl⟩ (X1_copy_c t8 t10 hc11) mv_RX7_48 rfl rfl hl.1 ⟨Nat.le_of_ble_eq_true rfl, Nat.le_of_ble_eq_true rfl⟩ (Nat.le_of_ble_eq_true rfl) ⟨Nat.le_refl _, Nat.le_refl _⟩ dX7_copy_73 (fun H locs w => ?_)
      refine lv_aload_n E.1 E.2.1 dX7_copy_76 rfl (lv_at hl 0 rfl) ?_
      refine q_gs E w 24 t_v0 fl_RX7_41 dX7_copy_77 ?_
      refine lv_iload_n E.1 E.2.1 dX7_copy_80 rfl (lv_at hl 2 rfl) ?_
      obtain ⟨b14, hf⟩ := q_if hf
      have t15 : sh (ra (v0 + 24) v2.toNatClampNeg) = 6 := lay_ra ((lay_7_6 t_v0).1) ((lay_7_6 t_v0).2) (by decide) rfl b14
      refine q_aald (t := 4) E w ((lay_7_6 t_v0).1) (by decide) ((lay_7_6 t_v0).2) b14 dX7_copy_81 ?_
      refine lv_aload_n E.1 E.2.1 dX7_copy_82 rfl (lv_at hl 1 rfl) ?_
      refine q_gs E w 24 t_v1 fl_RX7_41 dX7_copy_83 ?_
      refine lv_iload_n E.1 E.2.1 dX7_copy_86 rfl (lv_at hl 2 rfl) ?_
      obtain ⟨b16, hf⟩ := q_if hf
      have t17 : sh (ra (v1 + 24) v2.toNatClampNeg) = 6 := lay_ra ((lay_7_6 t_v1).1) ((lay_7_6 t_v1).2) (by decide) rfl b16
      refine q_aald (t := 4) E w ((lay_7_6 t_v1).1) (by decide) ((lay_7_6 t_v1).2) b16 dX7_copy_87 ?_
      obtain ⟨h20, hc18, hf⟩ := bd1_e hf
      refine k_Vv (As := [.ref (ad G (ra (v1 + 24) v2.toNatClampNeg))]) (rest := []) E w t15 ⟨by decide, rfl⟩ (X6_copy_c t15 t17 hc18) mv_RX7_52 rfl rfl hl.1 ⟨Nat.le_of_ble_eq_true rfl, Nat.le_of_ble_eq_true rfl⟩ (Nat.le_of_ble_eq_true rfl) ⟨Nat.le_refl _, Nat.le_refl _⟩ dX7_copy_88 (fun H locs w => ?_)
      refine lv_aload_n E.1 E.2.1 dX7_copy_91 rfl (lv_at hl 0 rfl) ?_
      refine q_gs E w 31 t_v0 fl_RX7_45 dX7_copy_92 ?_
      refine lv_iload_n E.1 E.2.1 dX7_copy_95 rfl (lv_at hl 2 rfl) ?_
      obtain ⟨b21, hf⟩ := q_if hf
      have t22 : sh (ra (v0 + 31) v2.toNatClampNeg) = 6 := lay_ra ((lay_7_7 t_v0).1) ((lay_7_7 t_v0).2) (by decide) rfl b21
      refine q_aald (t := 4) E w ((lay_7_7 t_v0).1) (by decide) ((lay_7_7 t_v0).2) b21 dX7_copy_96 ?_
      refine lv_aload_n E.1 E.2.1 dX7_copy_97 rfl (lv_at hl 1 rfl) ?_
      refine q_gs E w 31 t_v1 fl_RX7_45 dX7_copy_98 ?_
      refine lv_iload_n E.1 E.2.1 dX7_copy_101 rfl (lv_at hl 2 rfl) ?_
      obtain ⟨b23, hf⟩ := q_if hf
      have t24 : sh (ra (v1 + 31) v2.toNatClampNeg) = 6 := lay_ra ((lay_7_7 t_v1).1) ((lay_7_7 t_v1).2) (by decide) rfl b23
      refine q_aald (t := 4) E w ((lay_7_7 t_v1).1) (by decide) ((lay_7_7 t_v1).2) b23 dX7_copy_102 ?_
      obtain ⟨h27, hc25, hf⟩ := bd1_e hf
      refine k_Vv (As := [.ref (ad G (ra (v1 + 31) v2.toNatClampNeg))]) (rest := []) E w t22 ⟨by decide, rfl⟩ (X6_copy_c t22 t24 hc25) mv_RX7_52 rfl rfl hl.1 ⟨Nat.le_of_ble_eq_true rfl, Nat.le_of_ble_eq_true rfl⟩ (Nat.le_of_ble_eq_true rfl) ⟨Nat.le_refl _, Nat.le_refl _⟩ dX7_copy_103 (fun H locs w => ?_)
      refine lv_iinc (v := v2 + 1) (lv' := [(2, .int (v2 + 1)), (0, .ref (ad G v0)), (1, .ref (ad G v1))]) E.1 E.2.1 dX7_copy_106 hl (k := 2) rfl rfl (by decide) rfl (fun ls hl => ?_)
      refine lv_goto (tgt := 56) E.1 E.2.1 dX7_copy_109 (by decide) ?_
      exact ih _ _ _ _ _ _ _ hf w t_v0 t_v1 (lv_sub hl [1, 2, 0] rfl)

def X7_copy (N : Nat) (h : HS) (v0 : Nat) (v1 : Nat) : Option HS := sq (wa h (v0 + 1) (va_cpy (h.1 (v1 + 1)) (h.1 (v0 + 1)) 0 0 600)) fun h1 => sq (wi h1 v0 1 (h1.1 v1 1)) fun h2 => sq (wi h2 v0 2 (h2.1 v1 2)) fun h3 => sq (wi h3 v0 3 (h3.1 v1 3)) fun h4 => sq (wa h4 (v0 + 2) (va_cpy (h4.1 (v1 + 2)) (h4.1 (v0 + 2)) 0 0 3)) fun h5 => X7_copy_l56 N N h5 v0 v1 0
set_option maxRecDepth 4000 in
set_option maxHeartbeats 2000000 in
theorem X7_copy_c {l : Launch} {G : GT} {N : Nat} {h : HS} {v0 : Nat} {v1 : Nat} {z : HS} (t_v0 : sh v0 = 7) (t_v1 : sh v1 = 7) (hf : X7_copy N h v0 v1 = some z) : CT l G yX7_copy cX7_copy 3 none 2 61 [.ref (ad G v0), .ref (ad G v1)] h none z := by
  unfold X7_copy at hf
  refine CT.of (by decide) (Nat.le_of_ble_eq_true rfl) ?_
  intro p e s m below meth c ls E hr hlk w hl
  have hl : lv_has ls 3 [(0, .ref (ad G v0)), (1, .ref (ad G v1))] := hl
  refine lv_aload_n E.1 E.2.1 dX7_copy_0 rfl (lv_at hl 1 rfl) ?_
  refine q_gs E w 1 t_v1 fl_RX7_9 dX7_copy_1 ?_
  refine lv_iconst (v := 0) E.1 E.2.1 dX7_copy_4 rfl ?_
  refine lv_aload_n E.1 E.2.1 dX7_copy_5 rfl (lv_at hl 0 rfl) ?_
  refine q_gs E w 1 t_v0 fl_RX7_9 dX7_copy_6 ?_
  refine lv_iconst (v := 0) E.1 E.2.1 dX7_copy_9 rfl ?_
  refine lv_sipush (v := 600) E.1 E.2.1 dX7_copy_10 rfl ?_
  refine p_copy E w (t := 0) (by decide) ((lay_7_0 t_v1).1) ((lay_7_0 t_v0).1) ((lay_7_0 t_v1).2) ((lay_7_0 t_v0).2) mc_RX7_61 hl.1 (sp := 0) (dp := 0) (n := 600) (by decide) (by decide) (by decide) (by decide) (by decide) ⟨Nat.le_of_ble_eq_true rfl, Nat.le_of_ble_eq_true rfl⟩ dX7_copy_13 (fun h1 H locs eh w => ?_)
  have hf := sq_e eh hf
  clear eh
  refine lv_aload_n E.1 E.2.1 dX7_copy_16 rfl (lv_at hl 0 rfl) ?_
  refine lv_aload_n E.1 E.2.1 dX7_copy_17 rfl (lv_at hl 1 rfl) ?_
  refine q_gi E w t_v1 fl_RX7_15 dX7_copy_18 ?_
  refine p_pi E w t_v0 fl_RX7_15 (fp_7_1 _) dX7_copy_21 (fun h2 H locs eh w => ?_)
  have hf := sq_e eh hf
  clear eh
  refine lv_aload_n E.1 E.2.1 dX7_copy_24 rfl (lv_at hl 0 rfl) ?_
  refine lv_aload_n E.1 E.2.1 dX7_copy_25 rfl (lv_at hl 1 rfl) ?_
  refine q_gi E w t_v1 fl_RX7_19 dX7_copy_26 ?_
  refine p_pi E w t_v0 fl_RX7_19 (fp_7_2 _) dX7_copy_29 (fun h3 H locs eh w => ?_)
  have hf := sq_e eh hf
  clear eh
  refine lv_aload_n E.1 E.2.1 dX7_copy_32 rfl (lv_at hl 0 rfl) ?_
  refine lv_aload_n E.1 E.2.1 dX7_copy_33 rfl (lv_at hl 1 rfl) ?_
  refine q_gi E w t_v1 fl_RX7_22 dX7_copy_34 ?_
  refine p_pi E w t_v0 fl_RX7_22 (fp_7_3 _) dX7_copy_37 (fun h4 H locs eh w => ?_)
  have hf := sq_e eh hf
  clear eh
  refine lv_aload_n E.1 E.2.1 dX7_copy_40 rfl (lv_at hl 1 rfl) ?_
  refine q_gs E w 2 t_v1 fl_RX7_25 dX7_copy_41 ?_
  refine lv_iconst (v := 0) E.1 E.2.1 dX7_copy_44 rfl ?_
  refine lv_aload_n E.1 E.2.1 dX7_copy_45 rfl (lv_at hl 0 rfl) ?_
  refine q_gs E w 2 t_v0 fl_RX7_25 dX7_copy_46 ?_
  refine lv_iconst (v := 0) E.1 E.2.1 dX7_copy_49 rfl ?_
  refine lv_iconst (v := 3) E.1 E.2.1 dX7_copy_50 rfl ?_
  refine p_copy E w (t := 1) (by decide) ((lay_7_4 t_v1).1) ((lay_7_4 t_v0).1) ((lay_7_4 t_v1).2) ((lay_7_4 t_v0).2) mc_RX7_61 hl.1 (sp := 0) (dp := 0) (n := 3) (by decide) (by decide) (by decide) (by decide) (by decide) ⟨Nat.le_of_ble_eq_true rfl, Nat.le_of_ble_eq_true rfl⟩ dX7_copy_51 (fun h5 H locs eh w => ?_)
  have hf := sq_e eh hf
  clear eh
  refine lv_iconst (v := 0) E.1 E.2.1 dX7_copy_54 rfl ?_
  refine lv_istore_n (lv' := [(2, .int 0), (0, .ref (ad G v0)), (1, .ref (ad G v1))]) E.1 E.2.1 dX7_copy_55 rfl hl (by decide) rfl (fun ls hl => ?_)
  exact X7_copy_l56_w E hr hlk N _ _ _ _ _ _ _ hf w t_v0 t_v1 (lv_sub hl [1, 2, 0] rfl)
