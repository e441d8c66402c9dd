def X11_longOf (N : Nat) (h : HS) (v0 : Nat) (v1 : Int32) : Option Int32 := (if ((((h.1 v0 12) + 17) + 1) + (4 * v1)) < 0 ∨ 3736 ≤ ((((h.1 v0 12) + 17) + 1) + (4 * v1)).toNatClampNeg then none else some (h.1 (v0 + 1) ((((h.1 v0 12) + 17) + 1) + (4 * v1)).toNatClampNeg))
set_option maxRecDepth 4000 in
set_option maxHeartbeats 2000000 in
theorem X11_longOf_c {l : Launch} {G : GT} {N : Nat} {h : HS} {v0 : Nat} {v1 : Int32} {z : Int32} (t_v0 : sh v0 = 11) (hf : X11_longOf N h v0 v1 = some z) : CT l G yX11_longOf cX11_longOf 2 (some .int) 0 0 [.ref (ad G v0), .int v1] h (some (.int z)) h := by
  unfold X11_longOf at hf
  refine CT.of (by decide) (Nat.le_of_ble_eq_true rfl) ?_
  intro p e s m below meth c ls E hr hlk w hl
  have hl : lv_has ls 2 [(0, .ref (ad G v0)), (1, .int v1)] := hl
  refine lv_aload_n E.1 E.2.1 dX11_longOf_0 rfl (lv_at hl 0 rfl) ?_
  refine q_gs E w 1 t_v0 fl_RX11_7 dX11_longOf_1 ?_
  refine lv_aload_n E.1 E.2.1 dX11_longOf_4 rfl (lv_at hl 0 rfl) ?_
  refine q_gi E w t_v0 fl_RX11_182 dX11_longOf_5 ?_
  refine lv_bipush (v := 17) E.1 E.2.1 dX11_longOf_8 rfl ?_
  refine lv_iadd E.1 E.2.1 dX11_longOf_10 ?_
  refine lv_iconst (v := 1) E.1 E.2.1 dX11_longOf_11 rfl ?_
  refine lv_iadd E.1 E.2.1 dX11_longOf_12 ?_
  refine lv_iconst (v := 4) E.1 E.2.1 dX11_longOf_13 rfl ?_
  refine lv_iload_n E.1 E.2.1 dX11_longOf_14 rfl (lv_at hl 1 rfl) ?_
  refine lv_imul E.1 E.2.1 dX11_longOf_15 ?_
  refine lv_iadd E.1 E.2.1 dX11_longOf_16 ?_
  obtain ⟨b1, hf⟩ := q_if hf
  refine q_iald E w ((lay_11_0 t_v0).1) ((lay_11_0 t_v0).2) b1 dX11_longOf_17 ?_
  have hf := Option.some.inj hf
  subst hf
  exact q_iret E w hr hlk dX11_longOf_18

def X11_floorOf (N : Nat) (h : HS) (v0 : Nat) (v1 : Int32) : Option Int32 := (if ((((h.1 v0 12) + 17) + 2) + (4 * v1)) < 0 ∨ 3736 ≤ ((((h.1 v0 12) + 17) + 2) + (4 * v1)).toNatClampNeg then none else some (h.1 (v0 + 1) ((((h.1 v0 12) + 17) + 2) + (4 * v1)).toNatClampNeg))
set_option maxRecDepth 4000 in
set_option maxHeartbeats 2000000 in
theorem X11_floorOf_c {l : Launch} {G : GT} {N : Nat} {h : HS} {v0 : Nat} {v1 : Int32} {z : Int32} (t_v0 : sh v0 = 11) (hf : X11_floorOf N h v0 v1 = some z) : CT l G yX11_floorOf cX11_floorOf 2 (some .int) 0 0 [.ref (ad G v0), .int v1] h (some (.int z)) h := by
  unfold X11_floorOf at hf
  refine CT.of (by decide) (Nat.le_of_ble_eq_true rfl) ?_
  intro p e s m below meth c ls E hr hlk w hl
  have hl : lv_has ls 2 [(0, .ref (ad G v0)), (1, .int v1)] := hl
  refine lv_aload_n E.1 E.2.1 dX11_floorOf_0 rfl (lv_at hl 0 rfl) ?_
  refine q_gs E w 1 t_v0 fl_RX11_7 dX11_floorOf_1 ?_
  refine lv_aload_n E.1 E.2.1 dX11_floorOf_4 rfl (lv_at hl 0 rfl) ?_
  refine q_gi E w t_v0 fl_RX11_182 dX11_floorOf_5 ?_
  refine lv_bipush (v := 17) E.1 E.2.1 dX11_floorOf_8 rfl ?_
  refine lv_iadd E.1 E.2.1 dX11_floorOf_10 ?_
  refine lv_iconst (v := 2) E.1 E.2.1 dX11_floorOf_11 rfl ?_
  refine lv_iadd E.1 E.2.1 dX11_floorOf_12 ?_
  refine lv_iconst (v := 4) E.1 E.2.1 dX11_floorOf_13 rfl ?_
  refine lv_iload_n E.1 E.2.1 dX11_floorOf_14 rfl (lv_at hl 1 rfl) ?_
  refine lv_imul E.1 E.2.1 dX11_floorOf_15 ?_
  refine lv_iadd E.1 E.2.1 dX11_floorOf_16 ?_
  obtain ⟨b1, hf⟩ := q_if hf
  refine q_iald E w ((lay_11_0 t_v0).1) ((lay_11_0 t_v0).2) b1 dX11_floorOf_17 ?_
  have hf := Option.some.inj hf
  subst hf
  exact q_iret E w hr hlk dX11_floorOf_18

def X11_riskOf (N : Nat) (h : HS) (v0 : Nat) (v1 : Int32) : Option Int32 := bd1 (X11_noteOf N h v0 v1) fun r2 => (if r2 = 0 then some 0 else (if ((((h.1 v0 12) + 17) + 3) + (4 * v1)) < 0 ∨ 3736 ≤ ((((h.1 v0 12) + 17) + 3) + (4 * v1)).toNatClampNeg then none else some (h.1 (v0 + 1) ((((h.1 v0 12) + 17) + 3) + (4 * v1)).toNatClampNeg)))
set_option maxRecDepth 4000 in
set_option maxHeartbeats 2000000 in
theorem X11_riskOf_c {l : Launch} {G : GT} {N : Nat} {h : HS} {v0 : Nat} {v1 : Int32} {z : Int32} (t_v0 : sh v0 = 11) (hf : X11_riskOf N h v0 v1 = some z) : CT l G yX11_riskOf cX11_riskOf 2 (some .int) 1 21 [.ref (ad G v0), .int v1] h (some (.int z)) h := by
  unfold X11_riskOf at hf
  refine CT.of (by decide) (Nat.le_of_ble_eq_true rfl) ?_
  intro p e s m below meth c ls E hr hlk w hl
  have hl : lv_has ls 2 [(0, .ref (ad G v0)), (1, .int v1)] := hl
  refine lv_aload_n E.1 E.2.1 dX11_riskOf_0 rfl (lv_at hl 0 rfl) ?_
  refine lv_iload_n E.1 E.2.1 dX11_riskOf_1 rfl (lv_at hl 1 rfl) ?_
  obtain ⟨r2, hc1, hf⟩ := bd1_e hf
  refine k_Vi (As := [.int v1]) (rest := []) E w t_v0 ⟨by decide, rfl⟩ (X11_noteOf_c t_v0 hc1) mv_RX11_194 rfl rfl hl.1 ⟨Nat.le_of_ble_eq_true rfl, Nat.le_of_ble_eq_true rfl⟩ (Nat.le_of_ble_eq_true rfl) ⟨Nat.le_refl _, Nat.le_refl _⟩ dX11_riskOf_2 (fun H locs w => ?_)
  refine lv_if_ne (tgt := 12) E.1 E.2.1 dX11_riskOf_5 (by decide) (fun c4 => ?_) (fun c4 => ?_)
  · have hf := q_neg c4 hf
    refine lv_aload_n E.1 E.2.1 dX11_riskOf_12 rfl (lv_at hl 0 rfl) ?_
    refine q_gs E w 1 t_v0 fl_RX11_7 dX11_riskOf_13 ?_
    refine lv_aload_n E.1 E.2.1 dX11_riskOf_16 rfl (lv_at hl 0 rfl) ?_
    refine q_gi E w t_v0 fl_RX11_182 dX11_riskOf_17 ?_
    refine lv_bipush (v := 17) E.1 E.2.1 dX11_riskOf_20 rfl ?_
    refine lv_iadd E.1 E.2.1 dX11_riskOf_22 ?_
    refine lv_iconst (v := 3) E.1 E.2.1 dX11_riskOf_23 rfl ?_
    refine lv_iadd E.1 E.2.1 dX11_riskOf_24 ?_
    refine lv_iconst (v := 4) E.1 E.2.1 dX11_riskOf_25 rfl ?_
    refine lv_iload_n E.1 E.2.1 dX11_riskOf_26 rfl (lv_at hl 1 rfl) ?_
    refine lv_imul E.1 E.2.1 dX11_riskOf_27 ?_
    refine lv_iadd E.1 E.2.1 dX11_riskOf_28 ?_
    obtain ⟨b5, hf⟩ := q_if hf
    refine q_iald E w ((lay_11_0 t_v0).1) ((lay_11_0 t_v0).2) b5 dX11_riskOf_29 ?_
    have hf := Option.some.inj hf
    subst hf
    exact q_iret E w hr hlk dX11_riskOf_30
  · have hf := q_pos c4 hf
    refine lv_iconst (v := 0) E.1 E.2.1 dX11_riskOf_8 rfl ?_
    refine lv_goto (tgt := 30) E.1 E.2.1 dX11_riskOf_9 (by decide) ?_
    have hf := Option.some.inj hf
    subst hf
    exact q_iret E w hr hlk dX11_riskOf_30

def X11_breathOf (N : Nat) (h : HS) (v0 : Nat) (v1 : Int32) : Option Int32 := (if ((((h.1 v0 12) + 49) + 2) + (3 * v1)) < 0 ∨ 3736 ≤ ((((h.1 v0 12) + 49) + 2) + (3 * v1)).toNatClampNeg then none else some (h.1 (v0 + 1) ((((h.1 v0 12) + 49) + 2) + (3 * v1)).toNatClampNeg))
set_option maxRecDepth 4000 in
set_option maxHeartbeats 2000000 in
theorem X11_breathOf_c {l : Launch} {G : GT} {N : Nat} {h : HS} {v0 : Nat} {v1 : Int32} {z : Int32} (t_v0 : sh v0 = 11) (hf : X11_breathOf N h v0 v1 = some z) : CT l G yX11_breathOf cX11_breathOf 2 (some .int) 0 0 [.ref (ad G v0), .int v1] h (some (.int z)) h := by
  unfold X11_breathOf at hf
  refine CT.of (by decide) (Nat.le_of_ble_eq_true rfl) ?_
  intro p e s m below meth c ls E hr hlk w hl
  have hl : lv_has ls 2 [(0, .ref (ad G v0)), (1, .int v1)] := hl
  refine lv_aload_n E.1 E.2.1 dX11_breathOf_0 rfl (lv_at hl 0 rfl) ?_
  refine q_gs E w 1 t_v0 fl_RX11_7 dX11_breathOf_1 ?_
  refine lv_aload_n E.1 E.2.1 dX11_breathOf_4 rfl (lv_at hl 0 rfl) ?_
  refine q_gi E w t_v0 fl_RX11_182 dX11_breathOf_5 ?_
  refine lv_bipush (v := 49) E.1 E.2.1 dX11_breathOf_8 rfl ?_
  refine lv_iadd E.1 E.2.1 dX11_breathOf_10 ?_
  refine lv_iconst (v := 2) E.1 E.2.1 dX11_breathOf_11 rfl ?_
  refine lv_iadd E.1 E.2.1 dX11_breathOf_12 ?_
  refine lv_iconst (v := 3) E.1 E.2.1 dX11_breathOf_13 rfl ?_
  refine lv_iload_n E.1 E.2.1 dX11_breathOf_14 rfl (lv_at hl 1 rfl) ?_
  refine lv_imul E.1 E.2.1 dX11_breathOf_15 ?_
  refine lv_iadd E.1 E.2.1 dX11_breathOf_16 ?_
  obtain ⟨b1, hf⟩ := q_if hf
  refine q_iald E w ((lay_11_0 t_v0).1) ((lay_11_0 t_v0).2) b1 dX11_breathOf_17 ?_
  have hf := Option.some.inj hf
  subst hf
  exact q_iret E w hr hlk dX11_breathOf_18

def X11_isWalled (N : Nat) (h : HS) (v0 : Nat) (v1 : Int32) : Option Int32 := (if ((h.1 v0 12) + 4) < 0 ∨ 3736 ≤ ((h.1 v0 12) + 4).toNatClampNeg then none else (if (((h.1 (v0 + 1) ((h.1 v0 12) + 4).toNatClampNeg) >>> (v1 &&& 31)) &&& 1) = (1 : Int32) then some (nz 1) else some (nz 0)))
set_option maxRecDepth 4000 in
set_option maxHeartbeats 2000000 in
theorem X11_isWalled_c {l : Launch} {G : GT} {N : Nat} {h : HS} {v0 : Nat} {v1 : Int32} {z : Int32} (t_v0 : sh v0 = 11) (hf : X11_isWalled N h v0 v1 = some z) : CT l G yX11_isWalled cX11_isWalled 2 (some .boolean) 0 0 [.ref (ad G v0), .int v1] h (some (.int z)) h := by
  unfold X11_isWalled at hf
  refine CT.of (by decide) (Nat.le_of_ble_eq_true rfl) ?_
  intro p e s m below meth c ls E hr hlk w hl
  have hl : lv_has ls 2 [(0, .ref (ad G v0)), (1, .int v1)] := hl
  refine lv_aload_n E.1 E.2.1 dX11_isWalled_0 rfl (lv_at hl 0 rfl) ?_
  refine q_gs E w 1 t_v0 fl_RX11_7 dX11_isWalled_1 ?_
  refine lv_aload_n E.1 E.2.1 dX11_isWalled_4 rfl (lv_at hl 0 rfl) ?_
  refine q_gi E w t_v0 fl_RX11_182 dX11_isWalled_5 ?_
  refine lv_iconst (v := 4) E.1 E.2.1 dX11_isWalled_8 rfl ?_
  refine lv_iadd E.1 E.2.1 dX11_isWalled_9 ?_
  obtain ⟨b1, hf⟩ := q_if hf
  refine q_iald E w ((lay_11_0 t_v0).1) ((lay_11_0 t_v0).2) b1 dX11_isWalled_10 ?_
  refine lv_iload_n E.1 E.2.1 dX11_isWalled_11 rfl (lv_at hl 1 rfl) ?_
  refine lv_ishr E.1 E.2.1 dX11_isWalled_12 ?_
  refine lv_iconst (v := 1) E.1 E.2.1 dX11_isWalled_13 rfl ?_
  refine lv_iand E.1 E.2.1 dX11_isWalled_14 ?_
  refine lv_iconst (v := 1) E.1 E.2.1 dX11_isWalled_15 rfl ?_
  refine lv_icmp_ne (tgt := 23) E.1 E.2.1 dX11_isWalled_16 (by decide) (fun c2 => ?_) (fun c2 => ?_)
  · have hf := q_neg c2 hf
    refine lv_iconst (v := 0) E.1 E.2.1 dX11_isWalled_23 rfl ?_
    have hf := Option.some.inj hf
    subst hf
    exact q_zret E w hr hlk dX11_isWalled_24
  · have hf := q_pos c2 hf
    refine lv_iconst (v := 1) E.1 E.2.1 dX11_isWalled_19 rfl ?_
    refine lv_goto (tgt := 24) E.1 E.2.1 dX11_isWalled_20 (by decide) ?_
    have hf := Option.some.inj hf
    subst hf
    exact q_zret E w hr hlk dX11_isWalled_24

def X11_reaches (N : Nat) (h : HS) (v0 : Nat) (v1 : Int32) (v2 : Int32) (v3 : Int32) : Option Int32 := (if (((h.1 v0 12) + 49) + (3 * v1)) < 0 ∨ 3736 ≤ (((h.1 v0 12) + 49) + (3 * v1)).toNatClampNeg then none else (if ((((h.1 v0 12) + 49) + 1) + (3 * v1)) < 0 ∨ 3736 ≤ ((((h.1 v0 12) + 49) + 1) + (3 * v1)).toNatClampNeg then none else bd1 (X11_isIn N h v2 (h.1 (v0 + 1) (((h.1 v0 12) + 49) + (3 * v1)).toNatClampNeg) ((h.1 (v0 + 1) ((((h.1 v0 12) + 49) + 1) + (3 * v1)).toNatClampNeg) - v3)) fun r4 => some (nz r4)))
set_option maxRecDepth 4000 in
set_option maxHeartbeats 2000000 in
theorem X11_reaches_c {l : Launch} {G : GT} {N : Nat} {h : HS} {v0 : Nat} {v1 : Int32} {v2 : Int32} {v3 : Int32} {z : Int32} (t_v0 : sh v0 = 11) (hf : X11_reaches N h v0 v1 v2 v3 = some z) : CT l G yX11_reaches cX11_reaches 4 (some .boolean) 1 22 [.ref (ad G v0), .int v1, .int v2, .int v3] h (some (.int z)) h := by
  unfold X11_reaches at hf
  refine CT.of (by decide) (Nat.le_of_ble_eq_true rfl) ?_
  intro p e s m below meth c ls E hr hlk w hl
  have hl : lv_has ls 4 [(0, .ref (ad G v0)), (1, .int v1), (2, .int v2), (3, .int v3)] := hl
  refine lv_iload_n E.1 E.2.1 dX11_reaches_0 rfl (lv_at hl 2 rfl) ?_
  refine lv_aload_n E.1 E.2.1 dX11_reaches_1 rfl (lv_at hl 0 rfl) ?_
  refine q_gs E w 1 t_v0 fl_RX11_7 dX11_reaches_2 ?_
  refine lv_aload_n E.1 E.2.1 dX11_reaches_5 rfl (lv_at hl 0 rfl) ?_
  refine q_gi E w t_v0 fl_RX11_182 dX11_reaches_6 ?_
  refine lv_bipush (v := 49) E.1 E.2.1 dX11_reaches_9 rfl ?_
  refine lv_iadd E.1 E.2.1 dX11_reaches_11 ?_
  refine lv_iconst (v := 3) E.1 E.2.1 dX11_reaches_12 rfl ?_
  refine lv_iload_n E.1 E.2.1 dX11_reaches_13 rfl (lv_at hl 1 rfl) ?_
  refine lv_imul E.1 E.2.1 dX11_reaches_14 ?_
  refine lv_iadd E.1 E.2.1 dX11_reaches_15 ?_
  obtain ⟨b1, hf⟩ := q_if hf
  refine q_iald E w ((lay_11_0 t_v0).1) ((lay_11_0 t_v0).2) b1 dX11_reaches_16 ?_
  refine lv_aload_n E.1 E.2.1 dX11_reaches_17 rfl (lv_at hl 0 rfl) ?_
  refine q_gs E w 1 t_v0 fl_RX11_7 dX11_reaches_18 ?_
  refine lv_aload_n E.1 E.2.1 dX11_reaches_21 rfl (lv_at hl 0 rfl) ?_
  refine q_gi E w t_v0 fl_RX11_182 dX11_reaches_22 ?_
  refine lv_bipush (v := 49) E.1 E.2.1 dX11_reaches_25 rfl ?_
  refine lv_iadd E.1 E.2.1 dX11_reaches_27 ?_
  refine lv_iconst (v := 1) E.1 E.2.1 dX11_reaches_28 rfl ?_
  refine lv_iadd E.1 E.2.1 dX11_reaches_29 ?_
  refine lv_iconst (v := 3) E.1 E.2.1 dX11_reaches_30 rfl ?_
  refine lv_iload_n E.1 E.2.1 dX11_reaches_31 rfl (lv_at hl 1 rfl) ?_
  refine lv_imul E.1 E.2.1 dX11_reaches_32 ?_
  refine lv_iadd E.1 E.2.1 dX11_reaches_33 ?_
  obtain ⟨b2, hf⟩ := q_if hf
  refine q_iald E w ((lay_11_0 t_v0).1) ((lay_11_0 t_v0).2) b2 dX11_reaches_34 ?_
  refine lv_iload_n E.1 E.2.1 dX11_reaches_35 rfl (lv_at hl 3 rfl) ?_
  refine lv_isub E.1 E.2.1 dX11_reaches_36 ?_
  obtain ⟨r4, hc3, hf⟩ := bd1_e hf
  refine k_Si (As := [.int v2, .int (h.1 (v0 + 1) (((h.1 v0 12) + 49) + (3 * v1)).toNatClampNeg), .int ((h.1 (v0 + 1) ((((h.1 v0 12) + 49) + 1) + (3 * v1)).toNatClampNeg) - v3)]) (rest := []) E w (X11_isIn_c  hc3) ms_RX11_123 rfl rfl hl.1 ⟨Nat.le_of_ble_eq_true rfl, Nat.le_of_ble_eq_true rfl⟩ (Nat.le_of_ble_eq_true rfl) ⟨Nat.le_refl _, Nat.le_refl _⟩ dX11_reaches_37 (fun H locs w => ?_)
  have hf := Option.some.inj hf
  subst hf
  exact q_zret E w hr hlk dX11_reaches_40

def X11_house (N : Nat) (h : HS) (v0 : Nat) (v1 : Int32) (v2 : Int32) : Option (Int32 × HS) := bd2 (X11_isHouse N h v0 v1) fun r2 h3 => (if r2 = 0 then some ((-1), h3) else bd1 (X11_isIn N h3 v2 0 4) fun r6 => (if r6 = 0 then (if (v2 / 10) = 1 then bd1 (X11_isFloor N h3 v0 (v2 - v2 / 10 * 10)) fun r11 => (if r11 = 0 then some ((-1), h3) else bd1 (X11_rentOf N h3 v0 (v2 - v2 / 10 * 10)) fun r15 => some (r15, h3)) else (if (v2 / 10) = 2 then bd1 (X11_isFloor N h3 v0 (v2 - v2 / 10 * 10)) fun r19 => (if r19 = 0 then some ((-1), h3) else bd1 (X11_peopleOf N h3 v0 (v2 - v2 / 10 * 10)) fun r23 => some (r23, h3)) else (if (v2 / 10) = 3 then bd1 (X11_isBar N h3 v0 (v2 - v2 / 10 * 10)) fun r27 => (if r27 = 0 then some ((-1), h3) else (if (((((h3.1 v0 12) + 17) + (4 * (v2 - v2 / 10 * 10))) + (v2 / 10)) - 3) < 0 ∨ 3736 ≤ (((((h3.1 v0 12) + 17) + (4 * (v2 - v2 / 10 * 10))) + (v2 / 10)) - 3).toNatClampNeg then none else some (h3.1 (v0 + 1) (((((h3.1 v0 12) + 17) + (4 * (v2 - v2 / 10 * 10))) + (v2 / 10)) - 3).toNatClampNeg, h3))) else (if (v2 / 10) = 4 then bd1 (X11_isBar N h3 v0 (v2 - v2 / 10 * 10)) fun r33 => (if r33 = 0 then some ((-1), h3) else (if (((((h3.1 v0 12) + 17) + (4 * (v2 - v2 / 10 * 10))) + (v2 / 10)) - 3) < 0 ∨ 3736 ≤ (((((h3.1 v0 12) + 17) + (4 * (v2 - v2 / 10 * 10))) + (v2 / 10)) - 3).toNatClampNeg then none else some (h3.1 (v0 + 1) (((((h3.1 v0 12) + 17) + (4 * (v2 - v2 / 10 * 10))) + (v2 / 10)) - 3).toNatClampNeg, h3))) else (if (v2 / 10) = 5 then bd1 (X11_isBar N h3 v0 (v2 - v2 / 10 * 10)) fun r39 => (if r39 = 0 then some ((-1), h3) else (if (((((h3.1 v0 12) + 17) + (4 * (v2 - v2 / 10 * 10))) + (v2 / 10)) - 3) < 0 ∨ 3736 ≤ (((((h3.1 v0 12) + 17) + (4 * (v2 - v2 / 10 * 10))) + (v2 / 10)) - 3).toNatClampNeg then none else some (h3.1 (v0 + 1) (((((h3.1 v0 12) + 17) + (4 * (v2 - v2 / 10 * 10))) + (v2 / 10)) - 3).toNatClampNeg, h3))) else (if (v2 / 10) = 6 then bd1 (X11_isBar N h3 v0 (v2 - v2 / 10 * 10)) fun r45 => (if r45 = 0 then some ((-1), h3) else (if (((((h3.1 v0 12) + 17) + (4 * (v2 - v2 / 10 * 10))) + (v2 / 10)) - 3) < 0 ∨ 3736 ≤ (((((h3.1 v0 12) + 17) + (4 * (v2 - v2 / 10 * 10))) + (v2 / 10)) - 3).toNatClampNeg then none else some (h3.1 (v0 + 1) (((((h3.1 v0 12) + 17) + (4 * (v2 - v2 / 10 * 10))) + (v2 / 10)) - 3).toNatClampNeg, h3))) else (if (v2 / 10) = 7 then bd1 (X11_isSinger N h3 v0 (v2 - v2 / 10 * 10)) fun r51 => (if r51 = 0 then some ((-1), h3) else (if (((((h3.1 v0 12) + 49) + (3 * (v2 - v2 / 10 * 10))) + (v2 / 10)) - 7) < 0 ∨ 3736 ≤ (((((h3.1 v0 12) + 49) + (3 * (v2 - v2 / 10 * 10))) + (v2 / 10)) - 7).toNatClampNeg then none else some (h3.1 (v0 + 1) (((((h3.1 v0 12) + 49) + (3 * (v2 - v2 / 10 * 10))) + (v2 / 10)) - 7).toNatClampNeg, h3))) else (if (v2 / 10) = 8 then bd1 (X11_isSinger N h3 v0 (v2 - v2 / 10 * 10)) fun r57 => (if r57 = 0 then some ((-1), h3) else (if (((((h3.1 v0 12) + 49) + (3 * (v2 - v2 / 10 * 10))) + (v2 / 10)) - 7) < 0 ∨ 3736 ≤ (((((h3.1 v0 12) + 49) + (3 * (v2 - v2 / 10 * 10))) + (v2 / 10)) - 7).toNatClampNeg then none else some (h3.1 (v0 + 1) (((((h3.1 v0 12) + 49) + (3 * (v2 - v2 / 10 * 10))) + (v2 / 10)) - 7).toNatClampNeg, h3))) else (if (v2 / 10) = 9 then bd1 (X11_isSinger N h3 v0 (v2 - v2 / 10 * 10)) fun r63 => (if r63 = 0 then some ((-1), h3) else (if (((((h3.1 v0 12) + 49) + (3 * (v2 - v2 / 10 * 10))) + (v2 / 10)) - 7) < 0 ∨ 3736 ≤ (((((h3.1 v0 12) + 49) + (3 * (v2 - v2 / 10 * 10))) + (v2 / 10)) - 7).toNatClampNeg then none else some (h3.1 (v0 + 1) (((((h3.1 v0 12) + 49) + (3 * (v2 - v2 / 10 * 10))) + (v2 / 10)) - 7).toNatClampNeg, h3))) else some ((-1), h3)))))))))) else (if ((h3.1 v0 12) + v2) < 0 ∨ 3736 ≤ ((h3.1 v0 12) + v2).toNatClampNeg then none else some (h3.1 (v0 + 1) ((h3.1 v0 12) + v2).toNatClampNeg, h3))))
set_option maxRecDepth 4000 in
set_option maxHeartbeats 2000000 in
theorem X11_house_c {l : Launch} {G : GT} {N : Nat} {h : HS} {v0 : Nat} {v1 : Int32} {v2 : Int32} {z : (Int32 × HS)} (t_v0 : sh v0 = 11) (hf : X11_house N h v0 v1 v2 = some z) : CT l G yX11_house cX11_house 4 (some .int) 3 65 [.ref (ad G v0), .int v1, .int v2] h (some (.int z.1)) z.2 := by
  unfold X11_house at hf
  refine CT.of (by decide) (Nat.le_of_ble_eq_true rfl) ?_
  intro p e s m below meth c ls E hr hlk w hl
  have hl : lv_has ls 4 [(0, .ref (ad G v0)), (1, .int v1), (2, .int v2)] := hl
  refine lv_aload_n E.1 E.2.1 dX11_house_0 rfl (lv_at hl 0 rfl) ?_
  refine lv_iload_n E.1 E.2.1 dX11_house_1 rfl (lv_at hl 1 rfl) ?_
  obtain ⟨r2, h3, hc1, hf⟩ := bd2_e hf
  refine k_Vi (As := [.int v1]) (rest := []) E w t_v0 ⟨by decide, rfl⟩ (X11_isHouse_c t_v0 hc1) mv_RX11_197 rfl rfl hl.1 ⟨Nat.le_of_ble_eq_true rfl, Nat.le_of_ble_eq_true rfl⟩ (Nat.le_of_ble_eq_true rfl) ⟨Nat.le_refl _, Nat.le_refl _⟩ dX11_house_2 (fun H locs w => ?_)
  refine lv_if_ne (tgt := 10) E.1 E.2.1 dX11_house_5 (by decide) (fun c4 => ?_) (fun c4 => ?_)
  · have hf := q_neg c4 hf
    refine lv_iload_n E.1 E.2.1 dX11_house_10 rfl (lv_at hl 2 rfl) ?_
    refine lv_iconst (v := 0) E.1 E.2.1 dX11_house_11 rfl ?_
    refine lv_iconst (v := 4) E.1 E.2.1 dX11_house_12 rfl ?_
    obtain ⟨r6, hc5, hf⟩ := bd1_e hf
    refine k_Si (As := [.int v2, .int 0, .int 4]) (rest := []) E w (X11_isIn_c  hc5) ms_RX11_123 rfl rfl hl.1 ⟨Nat.le_of_ble_eq_true rfl, Nat.le_of_ble_eq_true rfl⟩ (Nat.le_of_ble_eq_true rfl) ⟨Nat.le_refl _, Nat.le_refl _⟩ dX11_house_13 (fun H locs w => ?_)
    refine lv_if_eq (tgt := 31) E.1 E.2.1 dX11_house_16 (by decide) (fun c8 => ?_) (fun c8 => ?_)
    · have hf := q_pos c8 hf
      refine lv_iload_n E.1 E.2.1 dX11_house_31 rfl (lv_at hl 2 rfl) ?_
      refine lv_bipush (v := 10) E.1 E.2.1 dX11_house_32 rfl ?_
      refine lv_irem E.1 E.2.1 dX11_house_34 (by decide) ?_
      refine lv_istore_n (lv' := [(3, .int (v2 - v2 / 10 * 10)), (0, .ref (ad G v0)), (1, .int v1), (2, .int v2)]) E.1 E.2.1 dX11_house_35 rfl hl (by decide) rfl (fun ls hl => ?_)
      refine lv_iload_n E.1 E.2.1 dX11_house_36 rfl (lv_at hl 3 rfl) ?_
      refine lv_bipush (v := 10) E.1 E.2.1 dX11_house_37 rfl ?_
      refine lv_idiv E.1 E.2.1 dX11_house_39 (by decide) ?_
      by_cases c9 : (v2 / 10) = 1
      · have hf := q_pos c9 hf
        refine lv_tableIn (off := 52) (tgt := 92) E.1 E.2.1 dX11_house_40 (by rw [c9]; decide) (by rw [c9]; decide) (by rw [c9]; rfl) (by decide) ?_
        refine lv_aload_n E.1 E.2.1 dX11_house_92 rfl (lv_at hl 1 rfl) ?_
        refine lv_iload_n E.1 E.2.1 dX11_house_93 rfl (lv_at hl 0 rfl) ?_
        obtain ⟨r11, hc10, hf⟩ := bd1_e hf
        refine k_Vi (As := [.int (v2 - v2 / 10 * 10)]) (rest := []) E w t_v0 ⟨by decide, rfl⟩ (X11_isFloor_c t_v0 hc10) mv_RX11_200 rfl rfl hl.1 ⟨Nat.le_of_ble_eq_true rfl, Nat.le_of_ble_eq_true rfl⟩ (Nat.le_of_ble_eq_true rfl) ⟨Nat.le_refl _, Nat.le_refl _⟩ dX11_house_94 (fun H locs w => ?_)
        refine lv_if_eq (tgt := 108) E.1 E.2.1 dX11_house_97 (by decide) (fun c13 => ?_) (fun c13 => ?_)
        · have hf := q_pos c13 hf
          refine lv_iconst (v := (-1)) E.1 E.2.1 dX11_house_108 rfl ?_
          have hf := Option.some.inj hf
          subst hf
          exact q_iret E w hr hlk dX11_house_109
        · have hf := q_neg c13 hf
          refine lv_aload_n E.1 E.2.1 dX11_house_100 rfl (lv_at hl 1 rfl) ?_
          refine lv_iload_n E.1 E.2.1 dX11_house_101 rfl (lv_at hl 0 rfl) ?_
          obtain ⟨r15, hc14, hf⟩ := bd1_e hf
          refine k_Vi (As := [.int (v2 - v2 / 10 * 10)]) (rest := []) E w t_v0 ⟨by decide, rfl⟩ (X11_rentOf_c t_v0 hc14) mv_RX11_203 rfl rfl hl.1 ⟨Nat.le_of_ble_eq_true rfl, Nat.le_of_ble_eq_true rfl⟩ (Nat.le_of_ble_eq_true rfl) ⟨Nat.le_refl _, Nat.le_refl _⟩ dX11_house_102 (fun H locs w => ?_)
          refine lv_goto (tgt := 109) E.1 E.2.1 dX11_house_105 (by decide) ?_
          have hf := Option.some.inj hf
          subst hf
          exact q_iret E w hr hlk dX11_house_109
      have hf := q_neg c9 hf
      by_cases c17 : (v2 / 10) = 2
      · have hf := q_pos c17 hf
        refine lv_tableIn (off := 70) (tgt := 110) E.1 E.2.1 dX11_house_40 (by rw [c17]; decide) (by rw [c17]; decide) (by rw [c17]; rfl) (by decide) ?_
        refine lv_aload_n E.1 E.2.1 dX11_house_110 rfl (lv_at hl 1 rfl) ?_
        refine lv_iload_n E.1 E.2.1 dX11_house_111 rfl (lv_at hl 0 rfl) ?_
        obtain ⟨r19, hc18, hf⟩ := bd1_e hf
        refine k_Vi (As := [.int (v2 - v2 / 10 * 10)]) (rest := []) E w t_v0 ⟨by decide, rfl⟩ (X11_isFloor_c t_v0 hc18) mv_RX11_200 rfl rfl hl.1 ⟨Nat.le_of_ble_eq_true rfl, Nat.le_of_ble_eq_true rfl⟩ (Nat.le_of_ble_eq_true rfl) ⟨Nat.le_refl _, Nat.le_refl _⟩ dX11_house_112 (fun H locs w => ?_)
        refine lv_if_eq (tgt := 126) E.1 E.2.1 dX11_house_115 (by decide) (fun c21 => ?_) (fun c21 => ?_)
        · have hf := q_pos c21 hf
          refine lv_iconst (v := (-1)) E.1 E.2.1 dX11_house_126 rfl ?_
          have hf := Option.some.inj hf
          subst hf
          exact q_iret E w hr hlk dX11_house_127
        · have hf := q_neg c21 hf
          refine lv_aload_n E.1 E.2.1 dX11_house_118 rfl (lv_at hl 1 rfl) ?_
          refine lv_iload_n E.1 E.2.1 dX11_house_119 rfl (lv_at hl 0 rfl) ?_
          obtain ⟨r23, hc22, hf⟩ := bd1_e hf
          refine k_Vi (As := [.int (v2 - v2 / 10 * 10)]) (rest := []) E w t_v0 ⟨by decide, rfl⟩ (X11_peopleOf_c t_v0 hc22) mv_RX11_206 rfl rfl hl.1 ⟨Nat.le_of_ble_eq_true rfl, Nat.le_of_ble_eq_true rfl⟩ (Nat.le_of_ble_eq_true rfl) ⟨Nat.le_refl _, Nat.le_refl _⟩ dX11_house_120 (fun H locs w => ?_)
          refine lv_goto (tgt := 127) E.1 E.2.1 dX11_house_123 (by decide) ?_
          have hf := Option.some.inj hf
          subst hf
          exact q_iret E w hr hlk dX11_house_127
      have hf := q_neg c17 hf
      by_cases c25 : (v2 / 10) = 3
      · have hf := q_pos c25 hf
        refine lv_tableIn (off := 88) (tgt := 128) E.1 E.2.1 dX11_house_40 (by rw [c25]; decide) (by rw [c25]; decide) (by rw [c25]; rfl) (by decide) ?_
        refine lv_aload_n E.1 E.2.1 dX11_house_128 rfl (lv_at hl 1 rfl) ?_
        refine lv_iload_n E.1 E.2.1 dX11_house_129 rfl (lv_at hl 0 rfl) ?_
        obtain ⟨r27, hc26, hf⟩ := bd1_e hf
        refine k_Vi (As := [.int (v2 - v2 / 10 * 10)]) (rest := []) E w t_v0 ⟨by decide, rfl⟩ (X11_isBar_c t_v0 hc26) mv_RX11_209 rfl rfl hl.1 ⟨Nat.le_of_ble_eq_true rfl, Nat.le_of_ble_eq_true rfl⟩ (Nat.le_of_ble_eq_true rfl) ⟨Nat.le_refl _, Nat.le_refl _⟩ dX11_house_130 (fun H locs w => ?_)
        refine lv_if_eq (tgt := 162) E.1 E.2.1 dX11_house_133 (by decide) (fun c29 => ?_) (fun c29 => ?_)
        · have hf := q_pos c29 hf
          refine lv_iconst (v := (-1)) E.1 E.2.1 dX11_house_162 rfl ?_
          have hf := Option.some.inj hf
          subst hf
          exact q_iret E w hr hlk dX11_house_163
        · have hf := q_neg c29 hf
          refine lv_aload_n E.1 E.2.1 dX11_house_136 rfl (lv_at hl 1 rfl) ?_
          refine q_gs E w 1 t_v0 fl_RX11_7 dX11_house_137 ?_
          refine lv_aload_n E.1 E.2.1 dX11_house_140 rfl (lv_at hl 1 rfl) ?_
          refine q_gi E w t_v0 fl_RX11_182 dX11_house_141 ?_
          refine lv_bipush (v := 17) E.1 E.2.1 dX11_house_144 rfl ?_
          refine lv_iadd E.1 E.2.1 dX11_house_146 ?_
          refine lv_iconst (v := 4) E.1 E.2.1 dX11_house_147 rfl ?_
          refine lv_iload_n E.1 E.2.1 dX11_house_148 rfl (lv_at hl 0 rfl) ?_
          refine lv_imul E.1 E.2.1 dX11_house_149 ?_
          refine lv_iadd E.1 E.2.1 dX11_house_150 ?_
          refine lv_iload_n E.1 E.2.1 dX11_house_151 rfl (lv_at hl 3 rfl) ?_
          refine lv_bipush (v := 10) E.1 E.2.1 dX11_house_152 rfl ?_
          refine lv_idiv E.1 E.2.1 dX11_house_154 (by decide) ?_
          refine lv_iadd E.1 E.2.1 dX11_house_155 ?_
          refine lv_iconst (v := 3) E.1 E.2.1 dX11_house_156 rfl ?_
          refine lv_isub E.1 E.2.1 dX11_house_157 ?_
          obtain ⟨b30, hf⟩ := q_if hf
          refine q_iald E w ((lay_11_0 t_v0).1) ((lay_11_0 t_v0).2) b30 dX11_house_158 ?_
          refine lv_goto (tgt := 163) E.1 E.2.1 dX11_house_159 (by decide) ?_
          have hf := Option.some.inj hf
          subst hf
          exact q_iret E w hr hlk dX11_house_163
      have hf := q_neg c25 hf
      by_cases c31 : (v2 / 10) = 4
      · have hf := q_pos c31 hf
        refine lv_tableIn (off := 88) (tgt := 128) E.1 E.2.1 dX11_house_40 (by rw [c31]; decide) (by rw [c31]; decide) (by rw [c31]; rfl) (by decide) ?_
        refine lv_aload_n E.1 E.2.1 dX11_house_128 rfl (lv_at hl 1 rfl) ?_
        refine lv_iload_n E.1 E.2.1 dX11_house_129 rfl (lv_at hl 0 rfl) ?_
        obtain ⟨r33, hc32, hf⟩ := bd1_e hf
        refine k_Vi (As := [.int (v2 - v2 / 10 * 10)]) (rest := []) E w t_v0 ⟨by decide, rfl⟩ (X11_isBar_c t_v0 hc32) mv_RX11_209 rfl rfl hl.1 ⟨Nat.le_of_ble_eq_true rfl, Nat.le_of_ble_eq_true rfl⟩ (Nat.le_of_ble_eq_true rfl) ⟨Nat.le_refl _, Nat.le_refl _⟩ dX11_house_130 (fun H locs w => ?_)
        refine lv_if_eq (tgt := 162) E.1 E.2.1 dX11_house_133 (by decide) (fun c35 => ?_) (fun c35 => ?_)
        · have hf := q_pos c35 hf
          refine lv_iconst (v := (-1)) E.1 E.2.1 dX11_house_162 rfl ?_
          have hf := Option.some.inj hf
          subst hf
          exact q_iret E w hr hlk dX11_house_163
        · have hf := q_neg c35 hf
          refine lv_aload_n E.1 E.2.1 dX11_house_136 rfl (lv_at hl 1 rfl) ?_
          refine q_gs E w 1 t_v0 fl_RX11_7 dX11_house_137 ?_
          refine lv_aload_n E.1 E.2.1 dX11_house_140 rfl (lv_at hl 1 rfl) ?_
          refine q_gi E w t_v0 fl_RX11_182 dX11_house_141 ?_
          refine lv_bipush (v := 17) E.1 E.2.1 dX11_house_144 rfl ?_
          refine lv_iadd E.1 E.2.1 dX11_house_146 ?_
          refine lv_iconst (v := 4) E.1 E.2.1 dX11_house_147 rfl ?_
          refine lv_iload_n E.1 E.2.1 dX11_house_148 rfl (lv_at hl 0 rfl) ?_
          refine lv_imul E.1 E.2.1 dX11_house_149 ?_
          refine lv_iadd E.1 E.2.1 dX11_house_150 ?_
          refine lv_iload_n E.1 E.2.1 dX11_house_151 rfl (lv_at hl 3 rfl) ?_
          refine lv_bipush (v := 10) E.1 E.2.1 dX11_house_152 rfl ?_
          refine lv_idiv E.1 E.2.1 dX11_house_154 (by decide) ?_
          refine lv_iadd E.1 E.2.1 dX11_house_155 ?_
          refine lv_iconst (v := 3) E.1 E.2.1 dX11_house_156 rfl ?_
          refine lv_isub E.1 E.2.1 dX11_house_157 ?_
          obtain ⟨b36, hf⟩ := q_if hf
          refine q_iald E w ((lay_11_0 t_v0).1) ((lay_11_0 t_v0).2) b36 dX11_house_158 ?_
          refine lv_goto (tgt := 163) E.1 E.2.1 dX11_house_159 (by decide) ?_
          have hf := Option.some.inj hf
          subst hf
          exact q_iret E w hr hlk dX11_house_163
      have hf := q_neg c31 hf
      by_cases c37 : (v2 / 10) = 5
      · have hf := q_pos c37 hf
        refine lv_tableIn (off := 88) (tgt := 128) E.1 E.2.1 dX11_house_40 (by rw [c37]; decide) (by rw [c37]; decide) (by rw [c37]; rfl) (by decide) ?_
        refine lv_aload_n E.1 E.2.1 dX11_house_128 rfl (lv_at hl 1 rfl) ?_
        refine lv_iload_n E.1 E.2.1 dX11_house_129 rfl (lv_at hl 0 rfl) ?_
        obtain ⟨r39, hc38, hf⟩ := bd1_e hf
        refine k_Vi (As := [.int (v2 - v2 / 10 * 10)]) (rest := []) E w t_v0 ⟨by decide, rfl⟩ (X11_isBar_c t_v0 hc38) mv_RX11_209 rfl rfl hl.1 ⟨Nat.le_of_ble_eq_true rfl, Nat.le_of_ble_eq_true rfl⟩ (Nat.le_of_ble_eq_true rfl) ⟨Nat.le_refl _, Nat.le_refl _⟩ dX11_house_130 (fun H locs w => ?_)
        refine lv_if_eq (tgt := 162) E.1 E.2.1 dX11_house_133 (by decide) (fun c41 => ?_) (fun c41 => ?_)
        · have hf := q_pos c41 hf
          refine lv_iconst (v := (-1)) E.1 E.2.1 dX11_house_162 rfl ?_
          have hf := Option.some.inj hf
          subst hf
          exact q_iret E w hr hlk dX11_house_163
        · have hf := q_neg c41 hf
          refine lv_aload_n E.1 E.2.1 dX11_house_136 rfl (lv_at hl 1 rfl) ?_
          refine q_gs E w 1 t_v0 fl_RX11_7 dX11_house_137 ?_
          refine lv_aload_n E.1 E.2.1 dX11_house_140 rfl (lv_at hl 1 rfl) ?_
          refine q_gi E w t_v0 fl_RX11_182 dX11_house_141 ?_
          refine lv_bipush (v := 17) E.1 E.2.1 dX11_house_144 rfl ?_
          refine lv_iadd E.1 E.2.1 dX11_house_146 ?_
          refine lv_iconst (v := 4) E.1 E.2.1 dX11_house_147 rfl ?_
          refine lv_iload_n E.1 E.2.1 dX11_house_148 rfl (lv_at hl 0 rfl) ?_
          refine lv_imul E.1 E.2.1 dX11_house_149 ?_
          refine lv_iadd E.1 E.2.1 dX11_house_150 ?_
          refine lv_iload_n E.1 E.2.1 dX11_house_151 rfl (lv_at hl 3 rfl) ?_
          refine lv_bipush (v := 10) E.1 E.2.1 dX11_house_152 rfl ?_
          refine lv_idiv E.1 E.2.1 dX11_house_154 (by decide) ?_
          refine lv_iadd E.1 E.2.1 dX11_house_155 ?_
          refine lv_iconst (v := 3) E.1 E.2.1 dX11_house_156 rfl ?_
          refine lv_isub E.1 E.2.1 dX11_house_157 ?_
          obtain ⟨b42, hf⟩ := q_if hf
          refine q_iald E w ((lay_11_0 t_v0).1) ((lay_11_0 t_v0).2) b42 dX11_house_158 ?_
          refine lv_goto (tgt := 163) E.1 E.2.1 dX11_house_159 (by decide) ?_
          have hf := Option.some.inj hf
          subst hf
          exact q_iret E w hr hlk dX11_house_163
      have hf := q_neg c37 hf
      by_cases c43 : (v2 / 10) = 6
      · have hf := q_pos c43 hf
        refine lv_tableIn (off := 88) (tgt := 128) E.1 E.2.1 dX11_house_40 (by rw [c43]; decide) (by rw [c43]; decide) (by rw [c43]; rfl) (by decide) ?_
        refine lv_aload_n E.1 E.2.1 dX11_house_128 rfl (lv_at hl 1 rfl) ?_
        refine lv_iload_n E.1 E.2.1 dX11_house_129 rfl (lv_at hl 0 rfl) ?_
        obtain ⟨r45, hc44, hf⟩ := bd1_e hf
        refine k_Vi (As := [.int (v2 - v2 / 10 * 10)]) (rest := []) E w t_v0 ⟨by decide, rfl⟩ (X11_isBar_c t_v0 hc44) mv_RX11_209 rfl rfl hl.1 ⟨Nat.le_of_ble_eq_true rfl, Nat.le_of_ble_eq_true rfl⟩ (Nat.le_of_ble_eq_true rfl) ⟨Nat.le_refl _, Nat.le_refl _⟩ dX11_house_130 (fun H locs w => ?_)
        refine lv_if_eq (tgt := 162) E.1 E.2.1 dX11_house_133 (by decide) (fun c47 => ?_) (fun c47 => ?_)
        · have hf := q_pos c47 hf
          refine lv_iconst (v := (-1)) E.1 E.2.1 dX11_house_162 rfl ?_
          have hf := Option.some.inj hf
          subst hf
          exact q_iret E w hr hlk dX11_house_163
        · have hf := q_neg c47 hf
          refine lv_aload_n E.1 E.2.1 dX11_house_136 rfl (lv_at hl 1 rfl) ?_
          refine q_gs E w 1 t_v0 fl_RX11_7 dX11_house_137 ?_
          refine lv_aload_n E.1 E.2.1 dX11_house_140 rfl (lv_at hl 1 rfl) ?_
          refine q_gi E w t_v0 fl_RX11_182 dX11_house_141 ?_
          refine lv_bipush (v := 17) E.1 E.2.1 dX11_house_144 rfl ?_
          refine lv_iadd E.1 E.2.1 dX11_house_146 ?_
          refine lv_iconst (v := 4) E.1 E.2.1 dX11_house_147 rfl ?_
          refine lv_iload_n E.1 E.2.1 dX11_house_148 rfl (lv_at hl 0 rfl) ?_
          refine lv_imul E.1 E.2.1 dX11_house_149 ?_
          refine lv_iadd E.1 E.2.1 dX11_house_150 ?_
          refine lv_iload_n E.1 E.2.1 dX11_house_151 rfl (lv_at hl 3 rfl) ?_
          refine lv_bipush (v := 10) E.1 E.2.1 dX11_house_152 rfl ?_
          refine lv_idiv E.1 E.2.1 dX11_house_154 (by decide) ?_
          refine lv_iadd E.1 E.2.1 dX11_house_155 ?_
          refine lv_iconst (v := 3) E.1 E.2.1 dX11_house_156 rfl ?_
          refine lv_isub E.1 E.2.1 dX11_house_157 ?_
          obtain ⟨b48, hf⟩ := q_if hf
          refine q_iald E w ((lay_11_0 t_v0).1) ((lay_11_0 t_v0).2) b48 dX11_house_158 ?_
          refine lv_goto (tgt := 163) E.1 E.2.1 dX11_house_159 (by decide) ?_
          have hf := Option.some.inj hf
          subst hf
          exact q_iret E w hr hlk dX11_house_163
      have hf := q_neg c43 hf
      by_cases c49 : (v2 / 10) = 7
      · have hf := q_pos c49 hf
        refine lv_tableIn (off := 124) (tgt := 164) E.1 E.2.1 dX11_house_40 (by rw [c49]; decide) (by rw [c49]; decide) (by rw [c49]; rfl) (by decide) ?_
        refine lv_aload_n E.1 E.2.1 dX11_house_164 rfl (lv_at hl 1 rfl) ?_
        refine lv_iload_n E.1 E.2.1 dX11_house_165 rfl (lv_at hl 0 rfl) ?_
        obtain ⟨r51, hc50, hf⟩ := bd1_e hf
        refine k_Vi (As := [.int (v2 - v2 / 10 * 10)]) (rest := []) E w t_v0 ⟨by decide, rfl⟩ (X11_isSinger_c t_v0 hc50) mv_RX11_212 rfl rfl hl.1 ⟨Nat.le_of_ble_eq_true rfl, Nat.le_of_ble_eq_true rfl⟩ (Nat.le_of_ble_eq_true rfl) ⟨Nat.le_refl _, Nat.le_refl _⟩ dX11_house_166 (fun H locs w => ?_)
        refine lv_if_eq (tgt := 199) E.1 E.2.1 dX11_house_169 (by decide) (fun c53 => ?_) (fun c53 => ?_)
        · have hf := q_pos c53 hf
          refine lv_iconst (v := (-1)) E.1 E.2.1 dX11_house_199 rfl ?_
          have hf := Option.some.inj hf
          subst hf
          exact q_iret E w hr hlk dX11_house_200
        · have hf := q_neg c53 hf
          refine lv_aload_n E.1 E.2.1 dX11_house_172 rfl (lv_at hl 1 rfl) ?_
          refine q_gs E w 1 t_v0 fl_RX11_7 dX11_house_173 ?_
          refine lv_aload_n E.1 E.2.1 dX11_house_176 rfl (lv_at hl 1 rfl) ?_
          refine q_gi E w t_v0 fl_RX11_182 dX11_house_177 ?_
          refine lv_bipush (v := 49) E.1 E.2.1 dX11_house_180 rfl ?_
          refine lv_iadd E.1 E.2.1 dX11_house_182 ?_
          refine lv_iconst (v := 3) E.1 E.2.1 dX11_house_183 rfl ?_
          refine lv_iload_n E.1 E.2.1 dX11_house_184 rfl (lv_at hl 0 rfl) ?_
          refine lv_imul E.1 E.2.1 dX11_house_185 ?_
          refine lv_iadd E.1 E.2.1 dX11_house_186 ?_
          refine lv_iload_n E.1 E.2.1 dX11_house_187 rfl (lv_at hl 3 rfl) ?_
          refine lv_bipush (v := 10) E.1 E.2.1 dX11_house_188 rfl ?_
          refine lv_idiv E.1 E.2.1 dX11_house_190 (by decide) ?_
          refine lv_iadd E.1 E.2.1 dX11_house_191 ?_
          refine lv_bipush (v := 7) E.1 E.2.1 dX11_house_192 rfl ?_
          refine lv_isub E.1 E.2.1 dX11_house_194 ?_
          obtain ⟨b54, hf⟩ := q_if hf
          refine q_iald E w ((lay_11_0 t_v0).1) ((lay_11_0 t_v0).2) b54 dX11_house_195 ?_
          refine lv_goto (tgt := 200) E.1 E.2.1 dX11_house_196 (by decide) ?_
          have hf := Option.some.inj hf
          subst hf
          exact q_iret E w hr hlk dX11_house_200
      have hf := q_neg c49 hf
      by_cases c55 : (v2 / 10) = 8
      · have hf := q_pos c55 hf
        refine lv_tableIn (off := 124) (tgt := 164) E.1 E.2.1 dX11_house_40 (by rw [c55]; decide) (by rw [c55]; decide) (by rw [c55]; rfl) (by decide) ?_
        refine lv_aload_n E.1 E.2.1 dX11_house_164 rfl (lv_at hl 1 rfl) ?_
        refine lv_iload_n E.1 E.2.1 dX11_house_165 rfl (lv_at hl 0 rfl) ?_
        obtain ⟨r57, hc56, hf⟩ := bd1_e hf
        refine k_Vi (As := [.int (v2 - v2 / 10 * 10)]) (rest := []) E w t_v0 ⟨by decide, rfl⟩ (X11_isSinger_c t_v0 hc56) mv_RX11_212 rfl rfl hl.1 ⟨Nat.le_of_ble_eq_true rfl, Nat.le_of_ble_eq_true rfl⟩ (Nat.le_of_ble_eq_true rfl) ⟨Nat.le_refl _, Nat.le_refl _⟩ dX11_house_166 (fun H locs w => ?_)
        refine lv_if_eq (tgt := 199) E.1 E.2.1 dX11_house_169 (by decide) (fun c59 => ?_) (fun c59 => ?_)
        · have hf := q_pos c59 hf
          refine lv_iconst (v := (-1)) E.1 E.2.1 dX11_house_199 rfl ?_
          have hf := Option.some.inj hf
          subst hf
          exact q_iret E w hr hlk dX11_house_200
        · have hf := q_neg c59 hf
          refine lv_aload_n E.1 E.2.1 dX11_house_172 rfl (lv_at hl 1 rfl) ?_
          refine q_gs E w 1 t_v0 fl_RX11_7 dX11_house_173 ?_
          refine lv_aload_n E.1 E.2.1 dX11_house_176 rfl (lv_at hl 1 rfl) ?_
          refine q_gi E w t_v0 fl_RX11_182 dX11_house_177 ?_
          refine lv_bipush (v := 49) E.1 E.2.1 dX11_house_180 rfl ?_
          refine lv_iadd E.1 E.2.1 dX11_house_182 ?_
          refine lv_iconst (v := 3) E.1 E.2.1 dX11_house_183 rfl ?_
          refine lv_iload_n E.1 E.2.1 dX11_house_184 rfl (lv_at hl 0 rfl) ?_
          refine lv_imul E.1 E.2.1 dX11_house_185 ?_
          refine lv_iadd E.1 E.2.1 dX11_house_186 ?_
          refine lv_iload_n E.1 E.2.1 dX11_house_187 rfl (lv_at hl 3 rfl) ?_
          refine lv_bipush (v := 10) E.1 E.2.1 dX11_house_188 rfl ?_
          refine lv_idiv E.1 E.2.1 dX11_house_190 (by decide) ?_
          refine lv_iadd E.1 E.2.1 dX11_house_191 ?_
          refine lv_bipush (v := 7) E.1 E.2.1 dX11_house_192 rfl ?_
          refine lv_isub E.1 E.2.1 dX11_house_194 ?_
          obtain ⟨b60, hf⟩ := q_if hf
          refine q_iald E w ((lay_11_0 t_v0).1) ((lay_11_0 t_v0).2) b60 dX11_house_195 ?_
          refine lv_goto (tgt := 200) E.1 E.2.1 dX11_house_196 (by decide) ?_
          have hf := Option.some.inj hf
          subst hf
          exact q_iret E w hr hlk dX11_house_200
      have hf := q_neg c55 hf
      by_cases c61 : (v2 / 10) = 9
      · have hf := q_pos c61 hf
        refine lv_tableIn (off := 124) (tgt := 164) E.1 E.2.1 dX11_house_40 (by rw [c61]; decide) (by rw [c61]; decide) (by rw [c61]; rfl) (by decide) ?_
        refine lv_aload_n E.1 E.2.1 dX11_house_164 rfl (lv_at hl 1 rfl) ?_
        refine lv_iload_n E.1 E.2.1 dX11_house_165 rfl (lv_at hl 0 rfl) ?_
        obtain ⟨r63, hc62, hf⟩ := bd1_e hf
        refine k_Vi (As := [.int (v2 - v2 / 10 * 10)]) (rest := []) E w t_v0 ⟨by decide, rfl⟩ (X11_isSinger_c t_v0 hc62) mv_RX11_212 rfl rfl hl.1 ⟨Nat.le_of_ble_eq_true rfl, Nat.le_of_ble_eq_true rfl⟩ (Nat.le_of_ble_eq_true rfl) ⟨Nat.le_refl _, Nat.le_refl _⟩ dX11_house_166 (fun H locs w => ?_)
        refine lv_if_eq (tgt := 199) E.1 E.2.1 dX11_house_169 (by decide) (fun c65 => ?_) (fun c65 => ?_)
        · have hf := q_pos c65 hf
          refine lv_iconst (v := (-1)) E.1 E.2.1 dX11_house_199 rfl ?_
          have hf := Option.some.inj hf
          subst hf
          exact q_iret E w hr hlk dX11_house_200
        · have hf := q_neg c65 hf
          refine lv_aload_n E.1 E.2.1 dX11_house_172 rfl (lv_at hl 1 rfl) ?_
          refine q_gs E w 1 t_v0 fl_RX11_7 dX11_house_173 ?_
          refine lv_aload_n E.1 E.2.1 dX11_house_176 rfl (lv_at hl 1 rfl) ?_
          refine q_gi E w t_v0 fl_RX11_182 dX11_house_177 ?_
          refine lv_bipush (v := 49) E.1 E.2.1 dX11_house_180 rfl ?_
          refine lv_iadd E.1 E.2.1 dX11_house_182 ?_
          refine lv_iconst (v := 3) E.1 E.2.1 dX11_house_183 rfl ?_
          refine lv_iload_n E.1 E.2.1 dX11_house_184 rfl (lv_at hl 0 rfl) ?_
          refine lv_imul E.1 E.2.1 dX11_house_185 ?_
          refine lv_iadd E.1 E.2.1 dX11_house_186 ?_
          refine lv_iload_n E.1 E.2.1 dX11_house_187 rfl (lv_at hl 3 rfl) ?_
          refine lv_bipush (v := 10) E.1 E.2.1 dX11_house_188 rfl ?_
          refine lv_idiv E.1 E.2.1 dX11_house_190 (by decide) ?_
          refine lv_iadd E.1 E.2.1 dX11_house_191 ?_
          refine lv_bipush (v := 7) E.1 E.2.1 dX11_house_192 rfl ?_
          refine lv_isub E.1 E.2.1 dX11_house_194 ?_
          obtain ⟨b66, hf⟩ := q_if hf
          refine q_iald E w ((lay_11_0 t_v0).1) ((lay_11_0 t_v0).2) b66 dX11_house_195 ?_
          refine lv_goto (tgt := 200) E.1 E.2.1 dX11_house_196 (by decide) ?_
          have hf := Option.some.inj hf
          subst hf
          exact q_iret E w hr hlk dX11_house_200
      have hf := q_neg c61 hf
      refine lv_tableOut (tgt := 201) E.1 E.2.1 dX11_house_40 (by have := ne_i c9 (z := 1) (by decide); have := ne_i c17 (z := 2) (by decide); have := ne_i c25 (z := 3) (by decide); have := ne_i c31 (z := 4) (by decide); have := ne_i c37 (z := 5) (by decide); have := ne_i c43 (z := 6) (by decide); have := ne_i c49 (z := 7) (by decide); have := ne_i c55 (z := 8) (by decide); have := ne_i c61 (z := 9) (by decide); omega) (by decide) ?_
      refine lv_iconst (v := (-1)) E.1 E.2.1 dX11_house_201 rfl ?_
      have hf := Option.some.inj hf
      subst hf
      exact q_iret E w hr hlk dX11_house_202
    · have hf := q_neg c8 hf
      refine lv_aload_n E.1 E.2.1 dX11_house_19 rfl (lv_at hl 0 rfl) ?_
      refine q_gs E w 1 t_v0 fl_RX11_7 dX11_house_20 ?_
      refine lv_aload_n E.1 E.2.1 dX11_house_23 rfl (lv_at hl 0 rfl) ?_
      refine q_gi E w t_v0 fl_RX11_182 dX11_house_24 ?_
      refine lv_iload_n E.1 E.2.1 dX11_house_27 rfl (lv_at hl 2 rfl) ?_
      refine lv_iadd E.1 E.2.1 dX11_house_28 ?_
      obtain ⟨b67, hf⟩ := q_if hf
      refine q_iald E w ((lay_11_0 t_v0).1) ((lay_11_0 t_v0).2) b67 dX11_house_29 ?_
      have hf := Option.some.inj hf
      subst hf
      exact q_iret E w hr hlk dX11_house_30
  · have hf := q_pos c4 hf
    refine lv_iconst (v := (-1)) E.1 E.2.1 dX11_house_8 rfl ?_
    have hf := Option.some.inj hf
    subst hf
    exact q_iret E w hr hlk dX11_house_9

def X11_laysRows_l56 (N : Nat) : Nat → HS → Nat → Int32 → Int32 → Int32 → Option HS
  | 0, _, _, _, _, _ => none
  | n + 1, h, v0, v2, v3, v4 => (if (6 : Int32) ≤ v4 then sq (wi h v0 22 v2) fun h4 => sq (wi h4 v0 21 0) fun h5 => (if (0 : Int32) < 0 ∨ 8 ≤ (0 : Int32).toNatClampNeg then none else sq (wi h5 (v0 + 5) (0 : Int32).toNatClampNeg (-1)) fun h7 => some h7) else (if v4 < 0 ∨ 6 ≤ v4.toNatClampNeg then none else sq (wi h (v0 + 6) v4.toNatClampNeg 0) fun h9 => (if (h9.1 v0 15) ≤ v4 then (if v4 < 0 ∨ 6 ≤ v4.toNatClampNeg then none else sq (wi h9 (v0 + 7) v4.toNatClampNeg 99999999) fun h12 => X11_laysRows_l56 N n h12 v0 v2 v3 (v4 + 1)) else bd1 (X11_breathOf N h9 v0 v4) fun r14 => (if v4 < 0 ∨ 6 ≤ v4.toNatClampNeg then none else sq (wi h9 (v0 + 7) v4.toNatClampNeg (r14 + v3)) fun h17 => X11_laysRows_l56 N n h17 v0 v2 v3 (v4 + 1)))))
set_option maxRecDepth 4000 in
set_option maxHeartbeats 2000000 in
theorem X11_laysRows_l56_w {p : Program} {l : Launch} {e : Env} {s : State} {m : MethodId} {args : Array Value} {below : List Frame} {meth : Method} {c : Code} {G : GT} {N : Nat} {z : HS} (E : CallFix p m c cX11_laysRows 5 s args UW RX11) (hr : meth.sig.returnType = none) (hlk : meth.locks = false) : ∀ (n : Nat) (h : HS) (H : Heap) (locs : List Loc) (ls : Array Slot) (v0 : Nat) (v2 : Int32) (v3 : Int32) (v4 : Int32), X11_laysRows_l56 N n h v0 v2 v3 v4 = some z → WD G s h H locs → sh v0 = 11 → lv_has ls 5 [(0, .ref (ad G v0)), (2, .int v2), (3, .int v3), (4, .int v4)] → W p l e ({ frames := 1, cells := 0, slots := 0, locals := 21 } : Room) s m args below meth c H locs 0 0 (MQ below (QC G none z) args s 0 0 (AD G)) (F0 m 56 ls []) := by
  intro n
  induction n with
  | zero =>
    intro h H locs ls v0 v2 v3 v4 hf
    cases hf
  | succ n ih =>
    intro h H locs ls v0 v2 v3 v4 hf w t_v0 hl
    unfold X11_laysRows_l56 at hf
    refine lv_iload E.1 E.2.1 dX11_laysRows_56 (lv_at hl 3 rfl) ?_
    refine lv_bipush (v := 6) E.1 E.2.1 dX11_laysRows_58 rfl ?_
    refine lv_icmp_ge (tgt := 106) E.1 E.2.1 dX11_laysRows_60 (by decide) (fun c3 => ?_) (fun c3 => ?_)
    · have hf := q_pos c3 hf
      refine lv_aload_n E.1 E.2.1 dX11_laysRows_106 rfl (lv_at hl 0 rfl) ?_
      refine lv_iload_n E.1 E.2.1 dX11_laysRows_107 rfl (lv_at hl 1 rfl) ?_
      refine p_pi E w t_v0 fl_RX11_222 (fp_11_22 _) dX11_laysRows_108 (fun h4 H locs eh w => ?_)
      have hf := sq_e eh hf
      clear eh
      refine lv_aload_n E.1 E.2.1 dX11_laysRows_111 rfl (lv_at hl 0 rfl) ?_
      refine lv_iconst (v := 0) E.1 E.2.1 dX11_laysRows_112 rfl ?_
      refine p_pi E w t_v0 fl_RX11_225 (fp_11_21 _) dX11_laysRows_113 (fun h5 H locs eh w => ?_)
      have hf := sq_e eh hf
      clear eh
      refine lv_aload_n E.1 E.2.1 dX11_laysRows_116 rfl (lv_at hl 0 rfl) ?_
      refine q_gs E w 5 t_v0 fl_RX11_23 dX11_laysRows_117 ?_
      refine lv_iconst (v := 0) E.1 E.2.1 dX11_laysRows_120 rfl ?_
      refine lv_iconst (v := (-1)) E.1 E.2.1 dX11_laysRows_121 rfl ?_
      obtain ⟨b6, hf⟩ := q_if hf
      refine p_iast E w ((lay_11_17 t_v0).1) ((lay_11_17 t_v0).2) b6 dX11_laysRows_122 (fun h7 H locs eh w => ?_)
      have hf := sq_e eh hf
      clear eh
      have hf := Option.some.inj hf
      subst hf
      exact q_vret E w hr hlk dX11_laysRows_123
    · have hf := q_neg c3 hf
      refine lv_aload_n E.1 E.2.1 dX11_laysRows_63 rfl (lv_at hl 0 rfl) ?_
      refine q_gs E w 6 t_v0 fl_RX11_26 dX11_laysRows_64 ?_
      refine lv_iload E.1 E.2.1 dX11_laysRows_67 (lv_at hl 3 rfl) ?_
      refine lv_iconst (v := 0) E.1 E.2.1 dX11_laysRows_69 rfl ?_
      obtain ⟨b8, hf⟩ := q_if hf
      refine p_iast E w ((lay_11_18 t_v0).1) ((lay_11_18 t_v0).2) b8 dX11_laysRows_70 (fun h9 H locs eh w => ?_)
      have hf := sq_e eh hf
      clear eh
      refine lv_aload_n E.1 E.2.1 dX11_laysRows_71 rfl (lv_at hl 0 rfl) ?_
      refine q_gs E w 7 t_v0 fl_RX11_29 dX11_laysRows_72 ?_
      refine lv_iload E.1 E.2.1 dX11_laysRows_75 (lv_at hl 3 rfl) ?_
      refine lv_iload E.1 E.2.1 dX11_laysRows_77 (lv_at hl 3 rfl) ?_
      refine lv_aload_n E.1 E.2.1 dX11_laysRows_79 rfl (lv_at hl 0 rfl) ?_
      refine q_gi E w t_v0 fl_RX11_191 dX11_laysRows_80 ?_
      refine lv_icmp_ge (tgt := 97) E.1 E.2.1 dX11_laysRows_83 (by decide) (fun c10 => ?_) (fun c10 => ?_)
      · have hf := q_pos c10 hf
        refine lv_ldc (v := 99999999) E.1 E.2.1 E.2.2.2.1 (E.2.2.2.2 _ ct_RX11_221) dX11_laysRows_97 ?_
        obtain ⟨b11, hf⟩ := q_if hf
        refine p_iast E w ((lay_11_19 t_v0).1) ((lay_11_19 t_v0).2) b11 dX11_laysRows_99 (fun h12 H locs eh w => ?_)
        have hf := sq_e eh hf
        clear eh
        refine lv_iinc (v := v4 + 1) (lv' := [(4, .int (v4 + 1)), (0, .ref (ad G v0)), (2, .int v2), (3, .int v3)]) E.1 E.2.1 dX11_laysRows_100 hl (k := 3) rfl rfl (by decide) rfl (fun ls hl => ?_)
        refine lv_goto (tgt := 56) E.1 E.2.1 dX11_laysRows_103 (by decide) ?_
        exact ih _ _ _ _ _ _ _ _ hf w t_v0 (lv_sub hl [1, 2, 3, 0] rfl)
      · have hf := q_neg c10 hf
        refine lv_aload_n E.1 E.2.1 dX11_laysRows_86 rfl (lv_at hl 0 rfl) ?_
        refine lv_iload E.1 E.2.1 dX11_laysRows_87 (lv_at hl 3 rfl) ?_
        obtain ⟨r14, hc13, hf⟩ := bd1_e hf
        refine k_Vi (As := [.int v4]) (rest := [.int v4, .ref (ad G (v0 + 7))]) E w t_v0 ⟨by decide, rfl⟩ (X11_breathOf_c t_v0 hc13) mv_RX11_218 rfl rfl hl.1 ⟨Nat.le_of_ble_eq_true rfl, Nat.le_of_ble_eq_true rfl⟩ (Nat.le_of_ble_eq_true rfl) ⟨Nat.le_refl _, Nat.le_refl _⟩ dX11_laysRows_89 (fun H locs w => ?_)
        refine lv_iload_n E.1 E.2.1 dX11_laysRows_92 rfl (lv_at hl 2 rfl) ?_
        refine lv_iadd E.1 E.2.1 dX11_laysRows_93 ?_
        refine lv_goto (tgt := 99) E.1 E.2.1 dX11_laysRows_94 (by decide) ?_
        obtain ⟨b16, hf⟩ := q_if hf
        refine p_iast E w ((lay_11_19 t_v0).1) ((lay_11_19 t_v0).2) b16 dX11_laysRows_99 (fun h17 H locs eh w => ?_)
        have hf := sq_e eh hf
        clear eh
        refine lv_iinc (v := v4 + 1) (lv' := [(4, .int (v4 + 1)), (0, .ref (ad G v0)), (2, .int v2), (3, .int v3)]) E.1 E.2.1 dX11_laysRows_100 hl (k := 3) rfl rfl (by decide) rfl (fun ls hl => ?_)
        refine lv_goto (tgt := 56) E.1 E.2.1 dX11_laysRows_103 (by decide) ?_
        exact ih _ _ _ _ _ _ _ _ hf w t_v0 (lv_sub hl [1, 2, 3, 0] rfl)

def X11_laysRows_l8 (N : Nat) : Nat → HS → Nat → Int32 → Int32 → Int32 → Int32 → Option HS
  | 0, _, _, _, _, _, _ => none
  | n + 1, h, v0, v1, v2, v3, v4 => (if v1 ≤ v4 then X11_laysRows_l56 N N h v0 v2 v3 0 else bd1 (X11_noteOf N h v0 v4) fun r19 => (if r19 = 0 then X11_laysRows_l8 N n h v0 v1 v2 v3 (v4 + 1) else (if (h.1 v0 20) < 0 ∨ 8 ≤ (h.1 v0 20).toNatClampNeg then none else sq (wi h (v0 + 4) (h.1 v0 20).toNatClampNeg v4) fun h23 => sq (wi h23 v0 20 ((h23.1 v0 20) + 1)) fun h24 => X11_laysRows_l8 N n h24 v0 v1 v2 v3 (v4 + 1))))
set_option maxRecDepth 4000 in
set_option maxHeartbeats 2000000 in
theorem X11_laysRows_l8_w {p : Program} {l : Launch} {e : Env} {s : State} {m : MethodId} {args : Array Value} {below : List Frame} {meth : Method} {c : Code} {G : GT} {N : Nat} {z : HS} (E : CallFix p m c cX11_laysRows 5 s args UW RX11) (hr : meth.sig.returnType = none) (hlk : meth.locks = false) : ∀ (n : Nat) (h : HS) (H : Heap) (locs : List Loc) (ls : Array Slot) (v0 : Nat) (v1 : Int32) (v2 : Int32) (v3 : Int32) (v4 : Int32), X11_laysRows_l8 N n h v0 v1 v2 v3 v4 = some z → WD G s h H locs → sh v0 = 11 → lv_has ls 5 [(0, .ref (ad G v0)), (1, .int v1), (2, .int v2), (3, .int v3), (4, .int v4)] → W p l e ({ frames := 1, cells := 0, slots := 0, locals := 21 } : Room) s m args below meth c H locs 0 0 (MQ below (QC G none z) args s 0 0 (AD G)) (F0 m 8 ls []) := by
  intro n
  induction n with
  | zero =>
    intro h H locs ls v0 v1 v2 v3 v4 hf
    cases hf
  | succ n ih =>
    intro h H locs ls v0 v1 v2 v3 v4 hf w t_v0 hl
    unfold X11_laysRows_l8 at hf
    refine lv_iload E.1 E.2.1 dX11_laysRows_8 (lv_at hl 4 rfl) ?_
    refine lv_iload_n E.1 E.2.1 dX11_laysRows_10 rfl (lv_at hl 1 rfl) ?_
    refine lv_icmp_ge (tgt := 53) E.1 E.2.1 dX11_laysRows_11 (by decide) (fun c2 => ?_) (fun c2 => ?_)
    · have hf := q_pos c2 hf
      refine lv_iconst (v := 0) E.1 E.2.1 dX11_laysRows_53 rfl ?_
      refine lv_istore (lv' := [(4, .int 0), (0, .ref (ad G v0)), (1, .int v1), (2, .int v2), (3, .int v3)]) E.1 E.2.1 dX11_laysRows_54 hl (by decide) rfl (fun ls hl => ?_)
      exact X11_laysRows_l56_w E hr hlk N _ _ _ _ _ _ _ _ hf w t_v0 (lv_sub hl [1, 3, 4, 0] rfl)
    · have hf := q_neg c2 hf
      refine lv_aload_n E.1 E.2.1 dX11_laysRows_14 rfl (lv_at hl 0 rfl) ?_
      refine lv_iload E.1 E.2.1 dX11_laysRows_15 (lv_at hl 4 rfl) ?_
      obtain ⟨r19, hc18, hf⟩ := bd1_e hf
      refine k_Vi (As := [.int v4]) (rest := []) E w t_v0 ⟨by decide, rfl⟩ (X11_noteOf_c t_v0 hc18) mv_RX11_194 rfl rfl hl.1 ⟨Nat.le_of_ble_eq_true rfl, Nat.le_of_ble_eq_true rfl⟩ (Nat.le_of_ble_eq_true rfl) ⟨Nat.le_refl _, Nat.le_refl _⟩ dX11_laysRows_17 (fun H locs w => ?_)
      refine lv_if_ne (tgt := 26) E.1 E.2.1 dX11_laysRows_20 (by decide) (fun c21 => ?_) (fun c21 => ?_)
      · have hf := q_neg c21 hf
        refine lv_aload_n E.1 E.2.1 dX11_laysRows_26 rfl (lv_at hl 0 rfl) ?_
        refine q_gs E w 4 t_v0 fl_RX11_20 dX11_laysRows_27 ?_
        refine lv_aload_n E.1 E.2.1 dX11_laysRows_30 rfl (lv_at hl 0 rfl) ?_
        refine q_gi E w t_v0 fl_RX11_215 dX11_laysRows_31 ?_
        refine lv_iload E.1 E.2.1 dX11_laysRows_34 (lv_at hl 4 rfl) ?_
        obtain ⟨b22, hf⟩ := q_if hf
        refine p_iast E w ((lay_11_16 t_v0).1) ((lay_11_16 t_v0).2) b22 dX11_laysRows_36 (fun h23 H locs eh w => ?_)
        have hf := sq_e eh hf
        clear eh
        refine lv_aload_n E.1 E.2.1 dX11_laysRows_37 rfl (lv_at hl 0 rfl) ?_
        refine lv_dup E.1 E.2.1 dX11_laysRows_38 rfl ?_
        refine q_gi E w t_v0 fl_RX11_215 dX11_laysRows_39 ?_
        refine lv_iconst (v := 1) E.1 E.2.1 dX11_laysRows_42 rfl ?_
        refine lv_iadd E.1 E.2.1 dX11_laysRows_43 ?_
        refine p_pi E w t_v0 fl_RX11_215 (fp_11_20 _) dX11_laysRows_44 (fun h24 H locs eh w => ?_)
        have hf := sq_e eh hf
        clear eh
        refine lv_iinc (v := v4 + 1) (lv' := [(4, .int (v4 + 1)), (0, .ref (ad G v0)), (1, .int v1), (2, .int v2), (3, .int v3)]) E.1 E.2.1 dX11_laysRows_47 hl (k := 4) rfl rfl (by decide) rfl (fun ls hl => ?_)
        refine lv_goto (tgt := 8) E.1 E.2.1 dX11_laysRows_50 (by decide) ?_
        exact ih _ _ _ _ _ _ _ _ _ hf w t_v0 (lv_sub hl [1, 2, 3, 4, 0] rfl)
      · have hf := q_pos c21 hf
        refine lv_goto (tgt := 47) E.1 E.2.1 dX11_laysRows_23 (by decide) ?_
        refine lv_iinc (v := v4 + 1) (lv' := [(4, .int (v4 + 1)), (0, .ref (ad G v0)), (1, .int v1), (2, .int v2), (3, .int v3)]) E.1 E.2.1 dX11_laysRows_47 hl (k := 4) rfl rfl (by decide) rfl (fun ls hl => ?_)
        refine lv_goto (tgt := 8) E.1 E.2.1 dX11_laysRows_50 (by decide) ?_
        exact ih _ _ _ _ _ _ _ _ _ hf w t_v0 (lv_sub hl [1, 2, 3, 4, 0] rfl)

def X11_laysRows (N : Nat) (h : HS) (v0 : Nat) (v1 : Int32) (v2 : Int32) (v3 : Int32) : Option HS := sq (wi h v0 20 0) fun h1 => X11_laysRows_l8 N N h1 v0 v1 v2 v3 0
set_option maxRecDepth 4000 in
set_option maxHeartbeats 2000000 in
theorem X11_laysRows_c {l : Launch} {G : GT} {N : Nat} {h : HS} {v0 : Nat} {v1 : Int32} {v2 : Int32} {v3 : Int32} {z : HS} (t_v0 : sh v0 = 11) (hf : X11_laysRows N h v0 v1 v2 v3 = some z) : CT l G yX11_laysRows cX11_laysRows 5 none 1 21 [.ref (ad G v0), .int v1, .int v2, .int v3] h none z := by
  unfold X11_laysRows at hf
  refine CT.of (by decide) (Nat.le_of_ble_eq_true rfl) ?_
  intro p e s m below meth c ls E hr hlk w hl
  have hl : lv_has ls 5 [(0, .ref (ad G v0)), (1, .int v1), (2, .int v2), (3, .int v3)] := hl
  refine lv_aload_n E.1 E.2.1 dX11_laysRows_0 rfl (lv_at hl 0 rfl) ?_
  refine lv_iconst (v := 0) E.1 E.2.1 dX11_laysRows_1 rfl ?_
  refine p_pi E w t_v0 fl_RX11_215 (fp_11_20 _) dX11_laysRows_2 (fun h1 H locs eh w => ?_)
  have hf := sq_e eh hf
  clear eh
  refine lv_iconst (v := 0) E.1 E.2.1 dX11_laysRows_5 rfl ?_
  refine lv_istore (lv' := [(4, .int 0), (0, .ref (ad G v0)), (1, .int v1), (2, .int v2), (3, .int v3)]) E.1 E.2.1 dX11_laysRows_6 hl (by decide) rfl (fun ls hl => ?_)
  exact X11_laysRows_l8_w E hr hlk N _ _ _ _ _ _ _ _ _ hf w t_v0 (lv_sub hl [1, 2, 3, 4, 0] rfl)

def X11_maySing_b86 (N : Nat) (h : HS) (v0 : Nat) (v1 : Int32) (v2 : Int32) : Option Int32 := (if v1 < 0 ∨ 6 ≤ v1.toNatClampNeg then none else bd1 (X11_longOf N h v0 v2) fun r7 => (if v1 < 0 ∨ 6 ≤ v1.toNatClampNeg then none else (if (h.1 (v0 + 7) v1.toNatClampNeg) < ((h.1 (v0 + 6) v1.toNatClampNeg) + r7) then some (nz 0) else some (nz 1))))
set_option maxRecDepth 4000 in
set_option maxHeartbeats 2000000 in
theorem X11_maySing_b86_w {p : Program} {l : Launch} {e : Env} {s : State} {m : MethodId} {args : Array Value} {below : List Frame} {meth : Method} {c : Code} {G : GT} {N : Nat} {z : Int32} {h : HS} (E : CallFix p m c cX11_maySing 3 s args UW RX11) (hr : meth.sig.returnType = (some .boolean)) (hlk : meth.locks = false) {H : Heap} {locs : List Loc} {ls : Array Slot} {v0 : Nat} {v1 : Int32} {v2 : Int32} (hf : X11_maySing_b86 N h v0 v1 v2 = some z) (w : WD G s h H locs) (t_v0 : sh v0 = 11) (hl : lv_has ls 3 [(0, .ref (ad G v0)), (1, .int v1), (2, .int v2)]) : W p l e ({ frames := 2, cells := 0, slots := 0, locals := 45 } : Room) s m args below meth c H locs 0 0 (MQ below (QC G (some (.int z)) h) args s 0 0 (AD G)) (F0 m 86 ls []) := by
  unfold X11_maySing_b86 at hf
  refine lv_aload_n E.1 E.2.1 dX11_maySing_86 rfl (lv_at hl 0 rfl) ?_
  refine q_gs E w 6 t_v0 fl_RX11_26 dX11_maySing_87 ?_
  refine lv_iload_n E.1 E.2.1 dX11_maySing_90 rfl (lv_at hl 1 rfl) ?_
  obtain ⟨b5, hf⟩ := q_if hf
  refine q_iald E w ((lay_11_18 t_v0).1) ((lay_11_18 t_v0).2) b5 dX11_maySing_91 ?_
  refine lv_aload_n E.1 E.2.1 dX11_maySing_92 rfl (lv_at hl 0 rfl) ?_
  refine lv_iload_n E.1 E.2.1 dX11_maySing_93 rfl (lv_at hl 2 rfl) ?_
  obtain ⟨r7, hc6, hf⟩ := bd1_e hf
  refine k_Vi (As := [.int v2]) (rest := [.int (h.1 (v0 + 6) v1.toNatClampNeg)]) E w t_v0 ⟨by decide, rfl⟩ (X11_longOf_c t_v0 hc6) mv_RX11_231 rfl rfl hl.1 ⟨Nat.le_of_ble_eq_true rfl, Nat.le_of_ble_eq_true rfl⟩ (Nat.le_of_ble_eq_true rfl) ⟨Nat.le_refl _, Nat.le_refl _⟩ dX11_maySing_94 (fun H locs w => ?_)
  refine lv_iadd E.1 E.2.1 dX11_maySing_97 ?_
  refine lv_aload_n E.1 E.2.1 dX11_maySing_98 rfl (lv_at hl 0 rfl) ?_
  refine q_gs E w 7 t_v0 fl_RX11_29 dX11_maySing_99 ?_
  refine lv_iload_n E.1 E.2.1 dX11_maySing_102 rfl (lv_at hl 1 rfl) ?_
  obtain ⟨b9, hf⟩ := q_if hf
  refine q_iald E w ((lay_11_19 t_v0).1) ((lay_11_19 t_v0).2) b9 dX11_maySing_103 ?_
  refine lv_icmp_gt (tgt := 111) E.1 E.2.1 dX11_maySing_104 (by decide) (fun c10 => ?_) (fun c10 => ?_)
  · have hf := q_pos c10 hf
    refine lv_iconst (v := 0) E.1 E.2.1 dX11_maySing_111 rfl ?_
    have hf := Option.some.inj hf
    subst hf
    exact q_zret E w hr hlk dX11_maySing_112
  · have hf := q_neg c10 hf
    refine lv_iconst (v := 1) E.1 E.2.1 dX11_maySing_107 rfl ?_
    refine lv_goto (tgt := 112) E.1 E.2.1 dX11_maySing_108 (by decide) ?_
    have hf := Option.some.inj hf
    subst hf
    exact q_zret E w hr hlk dX11_maySing_112

def X11_maySing_b45 (N : Nat) (h : HS) (v0 : Nat) (v1 : Int32) (v2 : Int32) : Option Int32 := (if (h.1 v0 21) ≤ 0 then X11_maySing_b86 N h v0 v1 v2 else (if ((h.1 v0 21) - 1) < 0 ∨ 8 ≤ ((h.1 v0 21) - 1).toNatClampNeg then none else (if (h.1 (v0 + 4) ((h.1 v0 21) - 1).toNatClampNeg) = (v2 - 1) then (if ((h.1 v0 21) - 1) < 0 ∨ 8 ≤ ((h.1 v0 21) - 1).toNatClampNeg then none else (if (h.1 (v0 + 5) ((h.1 v0 21) - 1).toNatClampNeg) = v1 then some (nz 0) else X11_maySing_b86 N h v0 v1 v2)) else X11_maySing_b86 N h v0 v1 v2)))
set_option maxRecDepth 4000 in
set_option maxHeartbeats 2000000 in
theorem X11_maySing_b45_w {p : Program} {l : Launch} {e : Env} {s : State} {m : MethodId} {args : Array Value} {below : List Frame} {meth : Method} {c : Code} {G : GT} {N : Nat} {z : Int32} {h : HS} (E : CallFix p m c cX11_maySing 3 s args UW RX11) (hr : meth.sig.returnType = (some .boolean)) (hlk : meth.locks = false) {H : Heap} {locs : List Loc} {ls : Array Slot} {v0 : Nat} {v1 : Int32} {v2 : Int32} (hf : X11_maySing_b45 N h v0 v1 v2 = some z) (w : WD G s h H locs) (t_v0 : sh v0 = 11) (hl : lv_has ls 3 [(0, .ref (ad G v0)), (1, .int v1), (2, .int v2)]) : W p l e ({ frames := 2, cells := 0, slots := 0, locals := 45 } : Room) s m args below meth c H locs 0 0 (MQ below (QC G (some (.int z)) h) args s 0 0 (AD G)) (F0 m 45 ls []) := by
  unfold X11_maySing_b45 at hf
  refine lv_aload_n E.1 E.2.1 dX11_maySing_45 rfl (lv_at hl 0 rfl) ?_
  refine q_gi E w t_v0 fl_RX11_225 dX11_maySing_46 ?_
  refine lv_if_le (tgt := 86) E.1 E.2.1 dX11_maySing_49 (by decide) (fun c4 => ?_) (fun c4 => ?_)
  · have hf := q_pos c4 hf
    exact X11_maySing_b86_w E hr hlk hf w t_v0 (lv_sub hl [0, 1, 2] rfl)
  · have hf := q_neg c4 hf
    refine lv_aload_n E.1 E.2.1 dX11_maySing_52 rfl (lv_at hl 0 rfl) ?_
    refine q_gs E w 4 t_v0 fl_RX11_20 dX11_maySing_53 ?_
    refine lv_aload_n E.1 E.2.1 dX11_maySing_56 rfl (lv_at hl 0 rfl) ?_
    refine q_gi E w t_v0 fl_RX11_225 dX11_maySing_57 ?_
    refine lv_iconst (v := 1) E.1 E.2.1 dX11_maySing_60 rfl ?_
    refine lv_isub E.1 E.2.1 dX11_maySing_61 ?_
    obtain ⟨b11, hf⟩ := q_if hf
    refine q_iald E w ((lay_11_16 t_v0).1) ((lay_11_16 t_v0).2) b11 dX11_maySing_62 ?_
    refine lv_iload_n E.1 E.2.1 dX11_maySing_63 rfl (lv_at hl 2 rfl) ?_
    refine lv_iconst (v := 1) E.1 E.2.1 dX11_maySing_64 rfl ?_
    refine lv_isub E.1 E.2.1 dX11_maySing_65 ?_
    refine lv_icmp_ne (tgt := 86) E.1 E.2.1 dX11_maySing_66 (by decide) (fun c12 => ?_) (fun c12 => ?_)
    · have hf := q_neg c12 hf
      exact X11_maySing_b86_w E hr hlk hf w t_v0 (lv_sub hl [0, 1, 2] rfl)
    · have hf := q_pos c12 hf
      refine lv_aload_n E.1 E.2.1 dX11_maySing_69 rfl (lv_at hl 0 rfl) ?_
      refine q_gs E w 5 t_v0 fl_RX11_23 dX11_maySing_70 ?_
      refine lv_aload_n E.1 E.2.1 dX11_maySing_73 rfl (lv_at hl 0 rfl) ?_
      refine q_gi E w t_v0 fl_RX11_225 dX11_maySing_74 ?_
      refine lv_iconst (v := 1) E.1 E.2.1 dX11_maySing_77 rfl ?_
      refine lv_isub E.1 E.2.1 dX11_maySing_78 ?_
      obtain ⟨b13, hf⟩ := q_if hf
      refine q_iald E w ((lay_11_17 t_v0).1) ((lay_11_17 t_v0).2) b13 dX11_maySing_79 ?_
      refine lv_iload_n E.1 E.2.1 dX11_maySing_80 rfl (lv_at hl 1 rfl) ?_
      refine lv_icmp_ne (tgt := 86) E.1 E.2.1 dX11_maySing_81 (by decide) (fun c14 => ?_) (fun c14 => ?_)
      · have hf := q_neg c14 hf
        exact X11_maySing_b86_w E hr hlk hf w t_v0 (lv_sub hl [0, 1, 2] rfl)
      · have hf := q_pos c14 hf
        refine lv_iconst (v := 0) E.1 E.2.1 dX11_maySing_84 rfl ?_
        have hf := Option.some.inj hf
        subst hf
        exact q_zret E w hr hlk dX11_maySing_85

def X11_maySing (N : Nat) (h : HS) (v0 : Nat) (v1 : Int32) : Option Int32 := (if (h.1 v0 21) < 0 ∨ 8 ≤ (h.1 v0 21).toNatClampNeg then none else (if (((h.1 v0 22) >>> (v1 &&& 31)) &&& 1) = 0 then some (nz 0) else (if (h.1 v0 15) ≤ v1 then X11_maySing_b45 N h v0 v1 (h.1 (v0 + 4) (h.1 v0 21).toNatClampNeg) else bd1 (X11_noteOf N h v0 (h.1 (v0 + 4) (h.1 v0 21).toNatClampNeg)) fun r16 => bd1 (X11_reaches N h v0 v1 r16 0) fun r19 => (if r19 = 0 then some (nz 0) else X11_maySing_b45 N h v0 v1 (h.1 (v0 + 4) (h.1 v0 21).toNatClampNeg)))))
set_option maxRecDepth 4000 in
set_option maxHeartbeats 2000000 in
theorem X11_maySing_c {l : Launch} {G : GT} {N : Nat} {h : HS} {v0 : Nat} {v1 : Int32} {z : Int32} (t_v0 : sh v0 = 11) (hf : X11_maySing N h v0 v1 = some z) : CT l G yX11_maySing cX11_maySing 3 (some .boolean) 2 45 [.ref (ad G v0), .int v1] h (some (.int z)) h := by
  unfold X11_maySing at hf
  refine CT.of (by decide) (Nat.le_of_ble_eq_true rfl) ?_
  intro p e s m below meth c ls E hr hlk w hl
  have hl : lv_has ls 3 [(0, .ref (ad G v0)), (1, .int v1)] := hl
  refine lv_aload_n E.1 E.2.1 dX11_maySing_0 rfl (lv_at hl 0 rfl) ?_
  refine q_gs E w 4 t_v0 fl_RX11_20 dX11_maySing_1 ?_
  refine lv_aload_n E.1 E.2.1 dX11_maySing_4 rfl (lv_at hl 0 rfl) ?_
  refine q_gi E w t_v0 fl_RX11_225 dX11_maySing_5 ?_
  obtain ⟨b1, hf⟩ := q_if hf
  refine q_iald E w ((lay_11_16 t_v0).1) ((lay_11_16 t_v0).2) b1 dX11_maySing_8 ?_
  refine lv_istore_n (lv' := [(2, .int (h.1 (v0 + 4) (h.1 v0 21).toNatClampNeg)), (0, .ref (ad G v0)), (1, .int v1)]) E.1 E.2.1 dX11_maySing_9 rfl hl (by decide) rfl (fun ls hl => ?_)
  refine lv_aload_n E.1 E.2.1 dX11_maySing_10 rfl (lv_at hl 1 rfl) ?_
  refine q_gi E w t_v0 fl_RX11_222 dX11_maySing_11 ?_
  refine lv_iload_n E.1 E.2.1 dX11_maySing_14 rfl (lv_at hl 2 rfl) ?_
  refine lv_ishr E.1 E.2.1 dX11_maySing_15 ?_
  refine lv_iconst (v := 1) E.1 E.2.1 dX11_maySing_16 rfl ?_
  refine lv_iand E.1 E.2.1 dX11_maySing_17 ?_
  refine lv_if_eq (tgt := 43) E.1 E.2.1 dX11_maySing_18 (by decide) (fun c2 => ?_) (fun c2 => ?_)
  · have hf := q_pos c2 hf
    refine lv_iconst (v := 0) E.1 E.2.1 dX11_maySing_43 rfl ?_
    have hf := Option.some.inj hf
    subst hf
    exact q_zret E w hr hlk dX11_maySing_44
  · have hf := q_neg c2 hf
    refine lv_iload_n E.1 E.2.1 dX11_maySing_21 rfl (lv_at hl 2 rfl) ?_
    refine lv_aload_n E.1 E.2.1 dX11_maySing_22 rfl (lv_at hl 1 rfl) ?_
    refine q_gi E w t_v0 fl_RX11_191 dX11_maySing_23 ?_
    refine lv_icmp_ge (tgt := 45) E.1 E.2.1 dX11_maySing_26 (by decide) (fun c3 => ?_) (fun c3 => ?_)
    · have hf := q_pos c3 hf
      exact X11_maySing_b45_w E hr hlk hf w t_v0 (lv_sub hl [1, 2, 0] rfl)
    · have hf := q_neg c3 hf
      refine lv_aload_n E.1 E.2.1 dX11_maySing_29 rfl (lv_at hl 1 rfl) ?_
      refine lv_iload_n E.1 E.2.1 dX11_maySing_30 rfl (lv_at hl 2 rfl) ?_
      refine lv_aload_n E.1 E.2.1 dX11_maySing_31 rfl (lv_at hl 1 rfl) ?_
      refine lv_iload_n E.1 E.2.1 dX11_maySing_32 rfl (lv_at hl 0 rfl) ?_
      obtain ⟨r16, hc15, hf⟩ := bd1_e hf
      refine k_Vi (As := [.int (h.1 (v0 + 4) (h.1 v0 21).toNatClampNeg)]) (rest := [.int v1, .ref (ad G v0)]) E w t_v0 ⟨by decide, rfl⟩ (X11_noteOf_c t_v0 hc15) mv_RX11_194 rfl rfl hl.1 ⟨Nat.le_of_ble_eq_true rfl, Nat.le_of_ble_eq_true rfl⟩ (Nat.le_of_ble_eq_true rfl) ⟨Nat.le_refl _, Nat.le_refl _⟩ dX11_maySing_33 (fun H locs w => ?_)
      refine lv_iconst (v := 0) E.1 E.2.1 dX11_maySing_36 rfl ?_
      obtain ⟨r19, hc18, hf⟩ := bd1_e hf
      refine k_Vi (As := [.int v1, .int r16, .int 0]) (rest := []) E w t_v0 ⟨by decide, rfl⟩ (X11_reaches_c t_v0 hc18) mv_RX11_228 rfl rfl hl.1 ⟨Nat.le_of_ble_eq_true rfl, Nat.le_of_ble_eq_true rfl⟩ (Nat.le_of_ble_eq_true rfl) ⟨Nat.le_refl _, Nat.le_refl _⟩ dX11_maySing_37 (fun H locs w => ?_)
      refine lv_if_ne (tgt := 45) E.1 E.2.1 dX11_maySing_40 (by decide) (fun c21 => ?_) (fun c21 => ?_)
      · have hf := q_neg c21 hf
        exact X11_maySing_b45_w E hr hlk hf w t_v0 (lv_sub hl [1, 2, 0] rfl)
      · have hf := q_pos c21 hf
        refine lv_iconst (v := 0) E.1 E.2.1 dX11_maySing_43 rfl ?_
        have hf := Option.some.inj hf
        subst hf
        exact q_zret E w hr hlk dX11_maySing_44

def X11_goesOn_b142 (N : Nat) (h : HS) (K31 : HS → Nat → Option (Int32 × HS)) (v0 : Nat) (v1 : Int32) : Option (Int32 × HS) := (if (h.1 v0 21) < 0 ∨ 8 ≤ (h.1 v0 21).toNatClampNeg then none else (if (h.1 (v0 + 5) (h.1 v0 21).toNatClampNeg) = (6 : Int32) then (if (h.1 v0 21) < 0 ∨ 8 ≤ (h.1 v0 21).toNatClampNeg then none else sq (wi h (v0 + 5) (h.1 v0 21).toNatClampNeg (-1)) fun h25 => sq (wi h25 v0 21 ((h25.1 v0 21) - 1)) fun h26 => K31 h26 v0) else (if (h.1 v0 21) < 0 ∨ 8 ≤ (h.1 v0 21).toNatClampNeg then none else (if (h.1 (v0 + 5) (h.1 v0 21).toNatClampNeg) < 0 ∨ 6 ≤ (h.1 (v0 + 5) (h.1 v0 21).toNatClampNeg).toNatClampNeg then none else bd1 (X11_longOf N h v0 v1) fun r16 => (if (h.1 (v0 + 5) (h.1 v0 21).toNatClampNeg) < 0 ∨ 6 ≤ (h.1 (v0 + 5) (h.1 v0 21).toNatClampNeg).toNatClampNeg then none else sq (wi h (v0 + 6) (h.1 (v0 + 5) (h.1 v0 21).toNatClampNeg).toNatClampNeg ((h.1 (v0 + 6) (h.1 (v0 + 5) (h.1 v0 21).toNatClampNeg).toNatClampNeg) + r16)) fun h19 => (if (h19.1 v0 21) = ((h19.1 v0 20) - 1) then some (nz 1, h19) else sq (wi h19 v0 21 ((h19.1 v0 21) + 1)) fun h21 => (if (h21.1 v0 21) < 0 ∨ 8 ≤ (h21.1 v0 21).toNatClampNeg then none else sq (wi h21 (v0 + 5) (h21.1 v0 21).toNatClampNeg (-1)) fun h23 => K31 h23 v0)))))))
set_option maxRecDepth 4000 in
set_option maxHeartbeats 2000000 in
theorem X11_goesOn_b142_w {p : Program} {l : Launch} {e : Env} {s : State} {m : MethodId} {args : Array Value} {below : List Frame} {meth : Method} {c : Code} {G : GT} {N : Nat} {z : (Int32 × HS)} {h : HS} (E : CallFix p m c cX11_goesOn 2 s args UW RX11) (hr : meth.sig.returnType = (some .boolean)) (hlk : meth.locks = false) {K31 : HS → Nat → Option (Int32 × HS)} (hK31 : ∀ (h : HS) (H : Heap) (locs : List Loc) (ls : Array Slot) (v0 : Nat), K31 h v0 = some z → WD G s h H locs → sh v0 = 11 → lv_has ls 2 [(0, .ref (ad G v0))] → W p l e ({ frames := 3, cells := 0, slots := 0, locals := 67 } : Room) s m args below meth c H locs 0 0 (MQ below (QC G (some (.int z.1)) z.2) args s 0 0 (AD G)) (F0 m 31 ls [])) {H : Heap} {locs : List Loc} {ls : Array Slot} {v0 : Nat} {v1 : Int32} (hf : X11_goesOn_b142 N h K31 v0 v1 = some z) (w : WD G s h H locs) (t_v0 : sh v0 = 11) (hl : lv_has ls 2 [(0, .ref (ad G v0)), (1, .int v1)]) : W p l e ({ frames := 3, cells := 0, slots := 0, locals := 67 } : Room) s m args below meth c H locs 0 0 (MQ below (QC G (some (.int z.1)) z.2) args s 0 0 (AD G)) (F0 m 142 ls []) := by
  unfold X11_goesOn_b142 at hf
  refine lv_aload_n E.1 E.2.1 dX11_goesOn_142 rfl (lv_at hl 0 rfl) ?_
  refine q_gs E w 5 t_v0 fl_RX11_23 dX11_goesOn_143 ?_
  refine lv_aload_n E.1 E.2.1 dX11_goesOn_146 rfl (lv_at hl 0 rfl) ?_
  refine q_gi E w t_v0 fl_RX11_225 dX11_goesOn_147 ?_
  obtain ⟨b11, hf⟩ := q_if hf
  refine q_iald E w ((lay_11_17 t_v0).1) ((lay_11_17 t_v0).2) b11 dX11_goesOn_150 ?_
  refine lv_bipush (v := 6) E.1 E.2.1 dX11_goesOn_151 rfl ?_
  refine lv_icmp_ne (tgt := 179) E.1 E.2.1 dX11_goesOn_153 (by decide) (fun c12 => ?_) (fun c12 => ?_)
  · have hf := q_neg c12 hf
    refine lv_aload_n E.1 E.2.1 dX11_goesOn_179 rfl (lv_at hl 0 rfl) ?_
    refine q_gs E w 6 t_v0 fl_RX11_26 dX11_goesOn_180 ?_
    refine lv_aload_n E.1 E.2.1 dX11_goesOn_183 rfl (lv_at hl 0 rfl) ?_
    refine q_gs E w 5 t_v0 fl_RX11_23 dX11_goesOn_184 ?_
    refine lv_aload_n E.1 E.2.1 dX11_goesOn_187 rfl (lv_at hl 0 rfl) ?_
    refine q_gi E w t_v0 fl_RX11_225 dX11_goesOn_188 ?_
    obtain ⟨b13, hf⟩ := q_if hf
    refine q_iald E w ((lay_11_17 t_v0).1) ((lay_11_17 t_v0).2) b13 dX11_goesOn_191 ?_
    refine lv_dup2_11 E.1 E.2.1 dX11_goesOn_192 rfl rfl ?_
    obtain ⟨b14, hf⟩ := q_if hf
    refine q_iald E w ((lay_11_18 t_v0).1) ((lay_11_18 t_v0).2) b14 dX11_goesOn_193 ?_
    refine lv_aload_n E.1 E.2.1 dX11_goesOn_194 rfl (lv_at hl 0 rfl) ?_
    refine lv_iload_n E.1 E.2.1 dX11_goesOn_195 rfl (lv_at hl 1 rfl) ?_
    obtain ⟨r16, hc15, hf⟩ := bd1_e hf
    refine k_Vi (As := [.int v1]) (rest := [.int (h.1 (v0 + 6) (h.1 (v0 + 5) (h.1 v0 21).toNatClampNeg).toNatClampNeg), .int (h.1 (v0 + 5) (h.1 v0 21).toNatClampNeg), .ref (ad G (v0 + 6))]) E w t_v0 ⟨by decide, rfl⟩ (X11_longOf_c t_v0 hc15) mv_RX11_231 rfl rfl hl.1 ⟨Nat.le_of_ble_eq_true rfl, Nat.le_of_ble_eq_true rfl⟩ (Nat.le_of_ble_eq_true rfl) ⟨Nat.le_refl _, Nat.le_refl _⟩ dX11_goesOn_196 (fun H locs w => ?_)
    refine lv_iadd E.1 E.2.1 dX11_goesOn_199 ?_
    obtain ⟨b18, hf⟩ := q_if hf
    refine p_iast E w ((lay_11_18 t_v0).1) ((lay_11_18 t_v0).2) b18 dX11_goesOn_200 (fun h19 H locs eh w => ?_)
    have hf := sq_e eh hf
    clear eh
    refine lv_aload_n E.1 E.2.1 dX11_goesOn_201 rfl (lv_at hl 0 rfl) ?_
    refine q_gi E w t_v0 fl_RX11_225 dX11_goesOn_202 ?_
    refine lv_aload_n E.1 E.2.1 dX11_goesOn_205 rfl (lv_at hl 0 rfl) ?_
    refine q_gi E w t_v0 fl_RX11_215 dX11_goesOn_206 ?_
    refine lv_iconst (v := 1) E.1 E.2.1 dX11_goesOn_209 rfl ?_
    refine lv_isub E.1 E.2.1 dX11_goesOn_210 ?_
    refine lv_icmp_ne (tgt := 216) E.1 E.2.1 dX11_goesOn_211 (by decide) (fun c20 => ?_) (fun c20 => ?_)
    · have hf := q_neg c20 hf
      refine lv_aload_n E.1 E.2.1 dX11_goesOn_216 rfl (lv_at hl 0 rfl) ?_
      refine lv_dup E.1 E.2.1 dX11_goesOn_217 rfl ?_
      refine q_gi E w t_v0 fl_RX11_225 dX11_goesOn_218 ?_
      refine lv_iconst (v := 1) E.1 E.2.1 dX11_goesOn_221 rfl ?_
      refine lv_iadd E.1 E.2.1 dX11_goesOn_222 ?_
      refine p_pi E w t_v0 fl_RX11_225 (fp_11_21 _) dX11_goesOn_223 (fun h21 H locs eh w => ?_)
      have hf := sq_e eh hf
      clear eh
      refine lv_aload_n E.1 E.2.1 dX11_goesOn_226 rfl (lv_at hl 0 rfl) ?_
      refine q_gs E w 5 t_v0 fl_RX11_23 dX11_goesOn_227 ?_
      refine lv_aload_n E.1 E.2.1 dX11_goesOn_230 rfl (lv_at hl 0 rfl) ?_
      refine q_gi E w t_v0 fl_RX11_225 dX11_goesOn_231 ?_
      refine lv_iconst (v := (-1)) E.1 E.2.1 dX11_goesOn_234 rfl ?_
      obtain ⟨b22, hf⟩ := q_if hf
      refine p_iast E w ((lay_11_17 t_v0).1) ((lay_11_17 t_v0).2) b22 dX11_goesOn_235 (fun h23 H locs eh w => ?_)
      have hf := sq_e eh hf
      clear eh
      refine lv_goto (tgt := 31) E.1 E.2.1 dX11_goesOn_236 (by decide) ?_
      exact hK31 _ _ _ _ _ hf w t_v0 (lv_sub hl [0] rfl)
    · have hf := q_pos c20 hf
      refine lv_iconst (v := 1) E.1 E.2.1 dX11_goesOn_214 rfl ?_
      have hf := Option.some.inj hf
      subst hf
      exact q_zret E w hr hlk dX11_goesOn_215
  · have hf := q_pos c12 hf
    refine lv_aload_n E.1 E.2.1 dX11_goesOn_156 rfl (lv_at hl 0 rfl) ?_
    refine q_gs E w 5 t_v0 fl_RX11_23 dX11_goesOn_157 ?_
    refine lv_aload_n E.1 E.2.1 dX11_goesOn_160 rfl (lv_at hl 0 rfl) ?_
    refine q_gi E w t_v0 fl_RX11_225 dX11_goesOn_161 ?_
    refine lv_iconst (v := (-1)) E.1 E.2.1 dX11_goesOn_164 rfl ?_
    obtain ⟨b24, hf⟩ := q_if hf
    refine p_iast E w ((lay_11_17 t_v0).1) ((lay_11_17 t_v0).2) b24 dX11_goesOn_165 (fun h25 H locs eh w => ?_)
    have hf := sq_e eh hf
    clear eh
    refine lv_aload_n E.1 E.2.1 dX11_goesOn_166 rfl (lv_at hl 0 rfl) ?_
    refine lv_dup E.1 E.2.1 dX11_goesOn_167 rfl ?_
    refine q_gi E w t_v0 fl_RX11_225 dX11_goesOn_168 ?_
    refine lv_iconst (v := 1) E.1 E.2.1 dX11_goesOn_171 rfl ?_
    refine lv_isub E.1 E.2.1 dX11_goesOn_172 ?_
    refine p_pi E w t_v0 fl_RX11_225 (fp_11_21 _) dX11_goesOn_173 (fun h26 H locs eh w => ?_)
    have hf := sq_e eh hf
    clear eh
    refine lv_goto (tgt := 31) E.1 E.2.1 dX11_goesOn_176 (by decide) ?_
    exact hK31 _ _ _ _ _ hf w t_v0 (lv_sub hl [0] rfl)

def X11_goesOn_l96 (N : Nat) (K31 : HS → Nat → Option (Int32 × HS)) : Nat → HS → Nat → Int32 → Option (Int32 × HS)
  | 0, _, _, _ => none
  | n + 1, h, v0, v1 => (if (h.1 v0 21) < 0 ∨ 8 ≤ (h.1 v0 21).toNatClampNeg then none else (if (6 : Int32) ≤ (h.1 (v0 + 5) (h.1 v0 21).toNatClampNeg) then X11_goesOn_b142 N h K31 v0 v1 else (if (h.1 v0 21) < 0 ∨ 8 ≤ (h.1 v0 21).toNatClampNeg then none else bd1 (X11_maySing N h v0 (h.1 (v0 + 5) (h.1 v0 21).toNatClampNeg)) fun r29 => (if r29 = 0 then (if (h.1 v0 21) < 0 ∨ 8 ≤ (h.1 v0 21).toNatClampNeg then none else (if (h.1 v0 21) < 0 ∨ 8 ≤ (h.1 v0 21).toNatClampNeg then none else sq (wi h (v0 + 5) (h.1 v0 21).toNatClampNeg ((h.1 (v0 + 5) (h.1 v0 21).toNatClampNeg) + 1)) fun h34 => X11_goesOn_l96 N K31 n h34 v0 v1)) else X11_goesOn_b142 N h K31 v0 v1))))
set_option maxRecDepth 4000 in
set_option maxHeartbeats 2000000 in
theorem X11_goesOn_l96_w {p : Program} {l : Launch} {e : Env} {s : State} {m : MethodId} {args : Array Value} {below : List Frame} {meth : Method} {c : Code} {G : GT} {N : Nat} {z : (Int32 × HS)} (E : CallFix p m c cX11_goesOn 2 s args UW RX11) (hr : meth.sig.returnType = (some .boolean)) (hlk : meth.locks = false) {K31 : HS → Nat → Option (Int32 × HS)} (hK31 : ∀ (h : HS) (H : Heap) (locs : List Loc) (ls : Array Slot) (v0 : Nat), K31 h v0 = some z → WD G s h H locs → sh v0 = 11 → lv_has ls 2 [(0, .ref (ad G v0))] → W p l e ({ frames := 3, cells := 0, slots := 0, locals := 67 } : Room) s m args below meth c H locs 0 0 (MQ below (QC G (some (.int z.1)) z.2) args s 0 0 (AD G)) (F0 m 31 ls [])) : ∀ (n : Nat) (h : HS) (H : Heap) (locs : List Loc) (ls : Array Slot) (v0 : Nat) (v1 : Int32), X11_goesOn_l96 N K31 n h v0 v1 = some z → WD G s h H locs → sh v0 = 11 → lv_has ls 2 [(0, .ref (ad G v0)), (1, .int v1)] → W p l e ({ frames := 3, cells := 0, slots := 0, locals := 67 } : Room) s m args below meth c H locs 0 0 (MQ below (QC G (some (.int z.1)) z.2) args s 0 0 (AD G)) (F0 m 96 ls []) := by
  intro n
  induction n with
  | zero =>
    intro h H locs ls v0 v1 hf
    cases hf
  | succ n ih =>
    intro h H locs ls v0 v1 hf w t_v0 hl
    unfold X11_goesOn_l96 at hf
    refine lv_aload_n E.1 E.2.1 dX11_goesOn_96 rfl (lv_at hl 0 rfl) ?_
    refine q_gs E w 5 t_v0 fl_RX11_23 dX11_goesOn_97 ?_
    refine lv_aload_n E.1 E.2.1 dX11_goesOn_100 rfl (lv_at hl 0 rfl) ?_
    refine q_gi E w t_v0 fl_RX11_225 dX11_goesOn_101 ?_
    obtain ⟨b9, hf⟩ := q_if hf
    refine q_iald E w ((lay_11_17 t_v0).1) ((lay_11_17 t_v0).2) b9 dX11_goesOn_104 ?_
    refine lv_bipush (v := 6) E.1 E.2.1 dX11_goesOn_105 rfl ?_
    refine lv_icmp_ge (tgt := 142) E.1 E.2.1 dX11_goesOn_107 (by decide) (fun c10 => ?_) (fun c10 => ?_)
    · have hf := q_pos c10 hf
      exact X11_goesOn_b142_w E hr hlk hK31 hf w t_v0 (lv_sub hl [0, 1] rfl)
    · have hf := q_neg c10 hf
      refine lv_aload_n E.1 E.2.1 dX11_goesOn_110 rfl (lv_at hl 0 rfl) ?_
      refine lv_aload_n E.1 E.2.1 dX11_goesOn_111 rfl (lv_at hl 0 rfl) ?_
      refine q_gs E w 5 t_v0 fl_RX11_23 dX11_goesOn_112 ?_
      refine lv_aload_n E.1 E.2.1 dX11_goesOn_115 rfl (lv_at hl 0 rfl) ?_
      refine q_gi E w t_v0 fl_RX11_225 dX11_goesOn_116 ?_
      obtain ⟨b27, hf⟩ := q_if hf
      refine q_iald E w ((lay_11_17 t_v0).1) ((lay_11_17 t_v0).2) b27 dX11_goesOn_119 ?_
      obtain ⟨r29, hc28, hf⟩ := bd1_e hf
      refine k_Vi (As := [.int (h.1 (v0 + 5) (h.1 v0 21).toNatClampNeg)]) (rest := []) E w t_v0 ⟨by decide, rfl⟩ (X11_maySing_c t_v0 hc28) mv_RX11_234 rfl rfl hl.1 ⟨Nat.le_of_ble_eq_true rfl, Nat.le_of_ble_eq_true rfl⟩ (Nat.le_of_ble_eq_true rfl) ⟨Nat.le_refl _, Nat.le_refl _⟩ dX11_goesOn_120 (fun H locs w => ?_)
      refine lv_if_ne (tgt := 142) E.1 E.2.1 dX11_goesOn_123 (by decide) (fun c31 => ?_) (fun c31 => ?_)
      · have hf := q_neg c31 hf
        exact X11_goesOn_b142_w E hr hlk hK31 hf w t_v0 (lv_sub hl [0, 1] rfl)
      · have hf := q_pos c31 hf
        refine lv_aload_n E.1 E.2.1 dX11_goesOn_126 rfl (lv_at hl 0 rfl) ?_
        refine q_gs E w 5 t_v0 fl_RX11_23 dX11_goesOn_127 ?_
        refine lv_aload_n E.1 E.2.1 dX11_goesOn_130 rfl (lv_at hl 0 rfl) ?_
        refine q_gi E w t_v0 fl_RX11_225 dX11_goesOn_131 ?_
        refine lv_dup2_11 E.1 E.2.1 dX11_goesOn_134 rfl rfl ?_
        obtain ⟨b32, hf⟩ := q_if hf
        refine q_iald E w ((lay_11_17 t_v0).1) ((lay_11_17 t_v0).2) b32 dX11_goesOn_135 ?_
        refine lv_iconst (v := 1) E.1 E.2.1 dX11_goesOn_136 rfl ?_
        refine lv_iadd E.1 E.2.1 dX11_goesOn_137 ?_
        obtain ⟨b33, hf⟩ := q_if hf
        refine p_iast E w ((lay_11_17 t_v0).1) ((lay_11_17 t_v0).2) b33 dX11_goesOn_138 (fun h34 H locs eh w => ?_)
        have hf := sq_e eh hf
        clear eh
        refine lv_goto (tgt := 96) E.1 E.2.1 dX11_goesOn_139 (by decide) ?_
        exact ih _ _ _ _ _ _ hf w t_v0 (lv_sub hl [0, 1] rfl)

def X11_goesOn_l31 (N : Nat) : Nat → HS → Nat → Option (Int32 × HS)
  | 0, _, _ => none
  | n + 1, h, v0 => (if (h.1 v0 21) < 0 then some (nz 0, h) else (if (h.1 v0 21) < 0 ∨ 8 ≤ (h.1 v0 21).toNatClampNeg then none else (if (h.1 v0 21) < 0 ∨ 8 ≤ (h.1 v0 21).toNatClampNeg then none else (if (h.1 (v0 + 5) (h.1 v0 21).toNatClampNeg) = ((-1) : Int32) then (if (h.1 v0 21) < 0 ∨ 8 ≤ (h.1 v0 21).toNatClampNeg then none else (if (h.1 v0 21) < 0 ∨ 8 ≤ (h.1 v0 21).toNatClampNeg then none else sq (wi h (v0 + 5) (h.1 v0 21).toNatClampNeg ((h.1 (v0 + 5) (h.1 v0 21).toNatClampNeg) + 1)) fun h8 => X11_goesOn_l96 N (X11_goesOn_l31 N n) N h8 v0 (h.1 (v0 + 4) (h.1 v0 21).toNatClampNeg))) else (if (h.1 v0 21) < 0 ∨ 8 ≤ (h.1 v0 21).toNatClampNeg then none else (if (h.1 (v0 + 5) (h.1 v0 21).toNatClampNeg) < 0 ∨ 6 ≤ (h.1 (v0 + 5) (h.1 v0 21).toNatClampNeg).toNatClampNeg then none else bd1 (X11_longOf N h v0 (h.1 (v0 + 4) (h.1 v0 21).toNatClampNeg)) fun r38 => (if (h.1 (v0 + 5) (h.1 v0 21).toNatClampNeg) < 0 ∨ 6 ≤ (h.1 (v0 + 5) (h.1 v0 21).toNatClampNeg).toNatClampNeg then none else sq (wi h (v0 + 6) (h.1 (v0 + 5) (h.1 v0 21).toNatClampNeg).toNatClampNeg ((h.1 (v0 + 6) (h.1 (v0 + 5) (h.1 v0 21).toNatClampNeg).toNatClampNeg) - r38)) fun h41 => (if (h41.1 v0 21) < 0 ∨ 8 ≤ (h41.1 v0 21).toNatClampNeg then none else (if (h41.1 v0 21) < 0 ∨ 8 ≤ (h41.1 v0 21).toNatClampNeg then none else sq (wi h41 (v0 + 5) (h41.1 v0 21).toNatClampNeg ((h41.1 (v0 + 5) (h41.1 v0 21).toNatClampNeg) + 1)) fun h44 => X11_goesOn_l96 N (X11_goesOn_l31 N n) N h44 v0 (h.1 (v0 + 4) (h.1 v0 21).toNatClampNeg))))))))))
set_option maxRecDepth 4000 in
set_option maxHeartbeats 2000000 in
theorem X11_goesOn_l31_w {p : Program} {l : Launch} {e : Env} {s : State} {m : MethodId} {args : Array Value} {below : List Frame} {meth : Method} {c : Code} {G : GT} {N : Nat} {z : (Int32 × HS)} (E : CallFix p m c cX11_goesOn 2 s args UW RX11) (hr : meth.sig.returnType = (some .boolean)) (hlk : meth.locks = false) : ∀ (n : Nat) (h : HS) (H : Heap) (locs : List Loc) (ls : Array Slot) (v0 : Nat), X11_goesOn_l31 N n h v0 = some z → WD G s h H locs → sh v0 = 11 → lv_has ls 2 [(0, .ref (ad G v0))] → W p l e ({ frames := 3, cells := 0, slots := 0, locals := 67 } : Room) s m args below meth c H locs 0 0 (MQ below (QC G (some (.int z.1)) z.2) args s 0 0 (AD G)) (F0 m 31 ls []) := by
  intro n
  induction n with
  | zero =>
    intro h H locs ls v0 hf
    cases hf
  | succ n ih =>
    intro h H locs ls v0 hf w t_v0 hl
    unfold X11_goesOn_l31 at hf
    refine lv_aload_n E.1 E.2.1 dX11_goesOn_31 rfl (lv_at hl 0 rfl) ?_
    refine q_gi E w t_v0 fl_RX11_225 dX11_goesOn_32 ?_
    refine lv_if_lt (tgt := 239) E.1 E.2.1 dX11_goesOn_35 (by decide) (fun c2 => ?_) (fun c2 => ?_)
    · have hf := q_pos c2 hf
      refine lv_iconst (v := 0) E.1 E.2.1 dX11_goesOn_239 rfl ?_
      have hf := Option.some.inj hf
      subst hf
      exact q_zret E w hr hlk dX11_goesOn_240
    · have hf := q_neg c2 hf
      refine lv_aload_n E.1 E.2.1 dX11_goesOn_38 rfl (lv_at hl 0 rfl) ?_
      refine q_gs E w 4 t_v0 fl_RX11_20 dX11_goesOn_39 ?_
      refine lv_aload_n E.1 E.2.1 dX11_goesOn_42 rfl (lv_at hl 0 rfl) ?_
      refine q_gi E w t_v0 fl_RX11_225 dX11_goesOn_43 ?_
      obtain ⟨b3, hf⟩ := q_if hf
      refine q_iald E w ((lay_11_16 t_v0).1) ((lay_11_16 t_v0).2) b3 dX11_goesOn_46 ?_
      refine lv_istore_n (lv' := [(1, .int (h.1 (v0 + 4) (h.1 v0 21).toNatClampNeg)), (0, .ref (ad G v0))]) E.1 E.2.1 dX11_goesOn_47 rfl hl (by decide) rfl (fun ls hl => ?_)
      refine lv_aload_n E.1 E.2.1 dX11_goesOn_48 rfl (lv_at hl 1 rfl) ?_
      refine q_gs E w 5 t_v0 fl_RX11_23 dX11_goesOn_49 ?_
      refine lv_aload_n E.1 E.2.1 dX11_goesOn_52 rfl (lv_at hl 1 rfl) ?_
      refine q_gi E w t_v0 fl_RX11_225 dX11_goesOn_53 ?_
      obtain ⟨b4, hf⟩ := q_if hf
      refine q_iald E w ((lay_11_17 t_v0).1) ((lay_11_17 t_v0).2) b4 dX11_goesOn_56 ?_
      refine lv_iconst (v := (-1)) E.1 E.2.1 dX11_goesOn_57 rfl ?_
      refine lv_icmp_eq (tgt := 83) E.1 E.2.1 dX11_goesOn_58 (by decide) (fun c5 => ?_) (fun c5 => ?_)
      · have hf := q_pos c5 hf
        refine lv_aload_n E.1 E.2.1 dX11_goesOn_83 rfl (lv_at hl 1 rfl) ?_
        refine q_gs E w 5 t_v0 fl_RX11_23 dX11_goesOn_84 ?_
        refine lv_aload_n E.1 E.2.1 dX11_goesOn_87 rfl (lv_at hl 1 rfl) ?_
        refine q_gi E w t_v0 fl_RX11_225 dX11_goesOn_88 ?_
        refine lv_dup2_11 E.1 E.2.1 dX11_goesOn_91 rfl rfl ?_
        obtain ⟨b6, hf⟩ := q_if hf
        refine q_iald E w ((lay_11_17 t_v0).1) ((lay_11_17 t_v0).2) b6 dX11_goesOn_92 ?_
        refine lv_iconst (v := 1) E.1 E.2.1 dX11_goesOn_93 rfl ?_
        refine lv_iadd E.1 E.2.1 dX11_goesOn_94 ?_
        obtain ⟨b7, hf⟩ := q_if hf
        refine p_iast E w ((lay_11_17 t_v0).1) ((lay_11_17 t_v0).2) b7 dX11_goesOn_95 (fun h8 H locs eh w => ?_)
        have hf := sq_e eh hf
        clear eh
        exact X11_goesOn_l96_w E hr hlk ih N _ _ _ _ _ _ hf w t_v0 (lv_sub hl [1, 0] rfl)
      · have hf := q_neg c5 hf
        refine lv_aload_n E.1 E.2.1 dX11_goesOn_61 rfl (lv_at hl 1 rfl) ?_
        refine q_gs E w 6 t_v0 fl_RX11_26 dX11_goesOn_62 ?_
        refine lv_aload_n E.1 E.2.1 dX11_goesOn_65 rfl (lv_at hl 1 rfl) ?_
        refine q_gs E w 5 t_v0 fl_RX11_23 dX11_goesOn_66 ?_
        refine lv_aload_n E.1 E.2.1 dX11_goesOn_69 rfl (lv_at hl 1 rfl) ?_
        refine q_gi E w t_v0 fl_RX11_225 dX11_goesOn_70 ?_
        obtain ⟨b35, hf⟩ := q_if hf
        refine q_iald E w ((lay_11_17 t_v0).1) ((lay_11_17 t_v0).2) b35 dX11_goesOn_73 ?_
        refine lv_dup2_11 E.1 E.2.1 dX11_goesOn_74 rfl rfl ?_
        obtain ⟨b36, hf⟩ := q_if hf
        refine q_iald E w ((lay_11_18 t_v0).1) ((lay_11_18 t_v0).2) b36 dX11_goesOn_75 ?_
        refine lv_aload_n E.1 E.2.1 dX11_goesOn_76 rfl (lv_at hl 1 rfl) ?_
        refine lv_iload_n E.1 E.2.1 dX11_goesOn_77 rfl (lv_at hl 0 rfl) ?_
        obtain ⟨r38, hc37, hf⟩ := bd1_e hf
        refine k_Vi (As := [.int (h.1 (v0 + 4) (h.1 v0 21).toNatClampNeg)]) (rest := [.int (h.1 (v0 + 6) (h.1 (v0 + 5) (h.1 v0 21).toNatClampNeg).toNatClampNeg), .int (h.1 (v0 + 5) (h.1 v0 21).toNatClampNeg), .ref (ad G (v0 + 6))]) E w t_v0 ⟨by decide, rfl⟩ (X11_longOf_c t_v0 hc37) mv_RX11_231 rfl rfl hl.1 ⟨Nat.le_of_ble_eq_true rfl, Nat.le_of_ble_eq_true rfl⟩ (Nat.le_of_ble_eq_true rfl) ⟨Nat.le_refl _, Nat.le_refl _⟩ dX11_goesOn_78 (fun H locs w => ?_)
        refine lv_isub E.1 E.2.1 dX11_goesOn_81 ?_
        obtain ⟨b40, hf⟩ := q_if hf
        refine p_iast E w ((lay_11_18 t_v0).1) ((lay_11_18 t_v0).2) b40 dX11_goesOn_82 (fun h41 H locs eh w => ?_)
        have hf := sq_e eh hf
        clear eh
        refine lv_aload_n E.1 E.2.1 dX11_goesOn_83 rfl (lv_at hl 1 rfl) ?_
        refine q_gs E w 5 t_v0 fl_RX11_23 dX11_goesOn_84 ?_
        refine lv_aload_n E.1 E.2.1 dX11_goesOn_87 rfl (lv_at hl 1 rfl) ?_
        refine q_gi E w t_v0 fl_RX11_225 dX11_goesOn_88 ?_
        refine lv_dup2_11 E.1 E.2.1 dX11_goesOn_91 rfl rfl ?_
        obtain ⟨b42, hf⟩ := q_if hf
        refine q_iald E w ((lay_11_17 t_v0).1) ((lay_11_17 t_v0).2) b42 dX11_goesOn_92 ?_
        refine lv_iconst (v := 1) E.1 E.2.1 dX11_goesOn_93 rfl ?_
        refine lv_iadd E.1 E.2.1 dX11_goesOn_94 ?_
        obtain ⟨b43, hf⟩ := q_if hf
        refine p_iast E w ((lay_11_17 t_v0).1) ((lay_11_17 t_v0).2) b43 dX11_goesOn_95 (fun h44 H locs eh w => ?_)
        have hf := sq_e eh hf
        clear eh
        exact X11_goesOn_l96_w E hr hlk ih N _ _ _ _ _ _ hf w t_v0 (lv_sub hl [1, 0] rfl)

def X11_goesOn (N : Nat) (h : HS) (v0 : Nat) : Option (Int32 × HS) := (if (h.1 v0 20) = 0 then sq (wi h v0 21 ((h.1 v0 21) - 1)) fun h45 => (if (h45.1 v0 21) = ((-1) : Int32) then some (nz 1, h45) else some (nz 0, h45)) else X11_goesOn_l31 N N h v0)
set_option maxRecDepth 4000 in
set_option maxHeartbeats 2000000 in
theorem X11_goesOn_c {l : Launch} {G : GT} {N : Nat} {h : HS} {v0 : Nat} {z : (Int32 × HS)} (t_v0 : sh v0 = 11) (hf : X11_goesOn N h v0 = some z) : CT l G yX11_goesOn cX11_goesOn 2 (some .boolean) 3 67 [.ref (ad G v0)] h (some (.int z.1)) z.2 := by
  unfold X11_goesOn at hf
  refine CT.of (by decide) (Nat.le_of_ble_eq_true rfl) ?_
  intro p e s m below meth c ls E hr hlk w hl
  have hl : lv_has ls 2 [(0, .ref (ad G v0))] := hl
  refine lv_aload_n E.1 E.2.1 dX11_goesOn_0 rfl (lv_at hl 0 rfl) ?_
  refine q_gi E w t_v0 fl_RX11_215 dX11_goesOn_1 ?_
  refine lv_if_ne (tgt := 31) E.1 E.2.1 dX11_goesOn_4 (by decide) (fun c1 => ?_) (fun c1 => ?_)
  · have hf := q_neg c1 hf
    exact X11_goesOn_l31_w E hr hlk N _ _ _ _ _ hf w t_v0 (lv_sub hl [0] rfl)
  · have hf := q_pos c1 hf
    refine lv_aload_n E.1 E.2.1 dX11_goesOn_7 rfl (lv_at hl 0 rfl) ?_
    refine lv_dup E.1 E.2.1 dX11_goesOn_8 rfl ?_
    refine q_gi E w t_v0 fl_RX11_225 dX11_goesOn_9 ?_
    refine lv_iconst (v := 1) E.1 E.2.1 dX11_goesOn_12 rfl ?_
    refine lv_isub E.1 E.2.1 dX11_goesOn_13 ?_
    refine p_pi E w t_v0 fl_RX11_225 (fp_11_21 _) dX11_goesOn_14 (fun h45 H locs eh w => ?_)
    have hf := sq_e eh hf
    clear eh
    refine lv_aload_n E.1 E.2.1 dX11_goesOn_17 rfl (lv_at hl 0 rfl) ?_
    refine q_gi E w t_v0 fl_RX11_225 dX11_goesOn_18 ?_
    refine lv_iconst (v := (-1)) E.1 E.2.1 dX11_goesOn_21 rfl ?_
    refine lv_icmp_ne (tgt := 29) E.1 E.2.1 dX11_goesOn_22 (by decide) (fun c46 => ?_) (fun c46 => ?_)
    · have hf := q_neg c46 hf
      refine lv_iconst (v := 0) E.1 E.2.1 dX11_goesOn_29 rfl ?_
      have hf := Option.some.inj hf
      subst hf
      exact q_zret E w hr hlk dX11_goesOn_30
    · have hf := q_pos c46 hf
      refine lv_iconst (v := 1) E.1 E.2.1 dX11_goesOn_25 rfl ?_
      refine lv_goto (tgt := 30) E.1 E.2.1 dX11_goesOn_26 (by decide) ?_
      have hf := Option.some.inj hf
      subst hf
      exact q_zret E w hr hlk dX11_goesOn_30

def X11_everybody (N : Nat) (h : HS) (v0 : Nat) : Option Int32 := some (((1 : Int32) <<< ((h.1 v0 15) &&& 31)) - 1)
set_option maxRecDepth 4000 in
set_option maxHeartbeats 2000000 in
theorem X11_everybody_c {l : Launch} {G : GT} {N : Nat} {h : HS} {v0 : Nat} {z : Int32} (t_v0 : sh v0 = 11) (hf : X11_everybody N h v0 = some z) : CT l G yX11_everybody cX11_everybody 1 (some .int) 0 0 [.ref (ad G v0)] h (some (.int z)) h := by
  unfold X11_everybody at hf
  refine CT.of (by decide) (Nat.le_of_ble_eq_true rfl) ?_
  intro p e s m below meth c ls E hr hlk w hl
  have hl : lv_has ls 1 [(0, .ref (ad G v0))] := hl
  refine lv_iconst (v := 1) E.1 E.2.1 dX11_everybody_0 rfl ?_
  refine lv_aload_n E.1 E.2.1 dX11_everybody_1 rfl (lv_at hl 0 rfl) ?_
  refine q_gi E w t_v0 fl_RX11_191 dX11_everybody_2 ?_
  refine lv_ishl E.1 E.2.1 dX11_everybody_5 ?_
  refine lv_iconst (v := 1) E.1 E.2.1 dX11_everybody_6 rfl ?_
  refine lv_isub E.1 E.2.1 dX11_everybody_7 ?_
  have hf := Option.some.inj hf
  subst hf
  exact q_iret E w hr hlk dX11_everybody_8

def X11_isRota (N : Nat) (h : HS) (v0 : Nat) (v1 : Int32) (v2 : Int32) (v3 : Int32) : Option (Int32 × HS) := bd1 (X11_laysRows N h v0 v1 v2 v3) fun h3 => bd2 (X11_goesOn N h3 v0) fun r5 h6 => some (nz r5, h6)
set_option maxRecDepth 4000 in
set_option maxHeartbeats 2000000 in
theorem X11_isRota_c {l : Launch} {G : GT} {N : Nat} {h : HS} {v0 : Nat} {v1 : Int32} {v2 : Int32} {v3 : Int32} {z : (Int32 × HS)} (t_v0 : sh v0 = 11) (hf : X11_isRota N h v0 v1 v2 v3 = some z) : CT l G yX11_isRota cX11_isRota 4 (some .boolean) 4 88 [.ref (ad G v0), .int v1, .int v2, .int v3] h (some (.int z.1)) z.2 := by
  unfold X11_isRota at hf
  refine CT.of (by decide) (Nat.le_of_ble_eq_true rfl) ?_
  intro p e s m below meth c ls E hr hlk w hl
  have hl : lv_has ls 4 [(0, .ref (ad G v0)), (1, .int v1), (2, .int v2), (3, .int v3)] := hl
  refine lv_aload_n E.1 E.2.1 dX11_isRota_0 rfl (lv_at hl 0 rfl) ?_
  refine lv_iload_n E.1 E.2.1 dX11_isRota_1 rfl (lv_at hl 1 rfl) ?_
  refine lv_iload_n E.1 E.2.1 dX11_isRota_2 rfl (lv_at hl 2 rfl) ?_
  refine lv_iload_n E.1 E.2.1 dX11_isRota_3 rfl (lv_at hl 3 rfl) ?_
  obtain ⟨h3, hc1, hf⟩ := bd1_e hf
  refine k_Vv (As := [.int v1, .int v2, .int v3]) (rest := []) E w t_v0 ⟨by decide, rfl⟩ (X11_laysRows_c t_v0 hc1) mv_RX11_237 rfl rfl hl.1 ⟨Nat.le_of_ble_eq_true rfl, Nat.le_of_ble_eq_true rfl⟩ (Nat.le_of_ble_eq_true rfl) ⟨Nat.le_refl _, Nat.le_refl _⟩ dX11_isRota_4 (fun H locs w => ?_)
  refine lv_aload_n E.1 E.2.1 dX11_isRota_7 rfl (lv_at hl 0 rfl) ?_
  obtain ⟨r5, h6, hc4, hf⟩ := bd2_e hf
  refine k_Vi (As := []) (rest := []) E w t_v0 ⟨by decide, rfl⟩ (X11_goesOn_c t_v0 hc4) mv_RX11_241 rfl rfl hl.1 ⟨Nat.le_of_ble_eq_true rfl, Nat.le_of_ble_eq_true rfl⟩ (Nat.le_of_ble_eq_true rfl) ⟨Nat.le_refl _, Nat.le_refl _⟩ dX11_isRota_8 (fun H locs w => ?_)
  have hf := Option.some.inj hf
  subst hf
  exact q_zret E w hr hlk dX11_isRota_11

def X11_singerOf_l4 (N : Nat) (h : HS) : Nat → Nat → Int32 → Int32 → Int32 → Option Int32
  | 0, _, _, _, _ => none
  | n + 1, v0, v1, v2, v3 => (if (h.1 v0 20) ≤ v3 then some v2 else (if v3 < 0 ∨ 8 ≤ v3.toNatClampNeg then none else (if (h.1 (v0 + 4) v3.toNatClampNeg) = v1 then (if v3 < 0 ∨ 8 ≤ v3.toNatClampNeg then none else X11_singerOf_l4 N h n v0 v1 (h.1 (v0 + 5) v3.toNatClampNeg) (v3 + 1)) else X11_singerOf_l4 N h n v0 v1 v2 (v3 + 1))))
set_option maxRecDepth 4000 in
set_option maxHeartbeats 2000000 in
theorem X11_singerOf_l4_w {p : Program} {l : Launch} {e : Env} {s : State} {m : MethodId} {args : Array Value} {below : List Frame} {meth : Method} {c : Code} {G : GT} {N : Nat} {h : HS} {z : Int32} (E : CallFix p m c cX11_singerOf 4 s args UW RX11) (hr : meth.sig.returnType = (some .int)) (hlk : meth.locks = false) : ∀ (n : Nat) (H : Heap) (locs : List Loc) (ls : Array Slot) (v0 : Nat) (v1 : Int32) (v2 : Int32) (v3 : Int32), X11_singerOf_l4 N h n v0 v1 v2 v3 = some z → WD G s h H locs → sh v0 = 11 → lv_has ls 4 [(0, .ref (ad G v0)), (1, .int v1), (2, .int v2), (3, .int v3)] → W p l e ({ frames := 0, cells := 0, slots := 0, locals := 0 } : Room) s m args below meth c H locs 0 0 (MQ below (QC G (some (.int z)) h) args s 0 0 (AD G)) (F0 m 4 ls []) := by
  intro n
  induction n with
  | zero =>
    intro H locs ls v0 v1 v2 v3 hf
    cases hf
  | succ n ih =>
    intro H locs ls v0 v1 v2 v3 hf w t_v0 hl
    unfold X11_singerOf_l4 at hf
    refine lv_iload_n E.1 E.2.1 dX11_singerOf_4 rfl (lv_at hl 3 rfl) ?_
    refine lv_aload_n E.1 E.2.1 dX11_singerOf_5 rfl (lv_at hl 0 rfl) ?_
    refine q_gi E w t_v0 fl_RX11_215 dX11_singerOf_6 ?_
    refine lv_icmp_ge (tgt := 39) E.1 E.2.1 dX11_singerOf_9 (by decide) (fun c1 => ?_) (fun c1 => ?_)
    · have hf := q_pos c1 hf
      refine lv_iload_n E.1 E.2.1 dX11_singerOf_39 rfl (lv_at hl 2 rfl) ?_
      have hf := Option.some.inj hf
      subst hf
      exact q_iret E w hr hlk dX11_singerOf_40
    · have hf := q_neg c1 hf
      refine lv_aload_n E.1 E.2.1 dX11_singerOf_12 rfl (lv_at hl 0 rfl) ?_
      refine q_gs E w 4 t_v0 fl_RX11_20 dX11_singerOf_13 ?_
      refine lv_iload_n E.1 E.2.1 dX11_singerOf_16 rfl (lv_at hl 3 rfl) ?_
      obtain ⟨b2, hf⟩ := q_if hf
      refine q_iald E w ((lay_11_16 t_v0).1) ((lay_11_16 t_v0).2) b2 dX11_singerOf_17 ?_
      refine lv_iload_n E.1 E.2.1 dX11_singerOf_18 rfl (lv_at hl 1 rfl) ?_
      refine lv_icmp_ne (tgt := 31) E.1 E.2.1 dX11_singerOf_19 (by decide) (fun c3 => ?_) (fun c3 => ?_)
      · have hf := q_neg c3 hf
        refine lv_iload_n E.1 E.2.1 dX11_singerOf_31 rfl (lv_at hl 2 rfl) ?_
        refine lv_istore_n (lv' := [(2, .int v2), (0, .ref (ad G v0)), (1, .int v1), (3, .int v3)]) E.1 E.2.1 dX11_singerOf_32 rfl hl (by decide) rfl (fun ls hl => ?_)
        refine lv_iinc (v := v3 + 1) (lv' := [(3, .int (v3 + 1)), (2, .int v2), (0, .ref (ad G v0)), (1, .int v1)]) E.1 E.2.1 dX11_singerOf_33 hl (k := 3) rfl rfl (by decide) rfl (fun ls hl => ?_)
        refine lv_goto (tgt := 4) E.1 E.2.1 dX11_singerOf_36 (by decide) ?_
        exact ih _ _ _ _ _ _ _ hf w t_v0 (lv_sub hl [2, 3, 1, 0] rfl)
      · have hf := q_pos c3 hf
        refine lv_aload_n E.1 E.2.1 dX11_singerOf_22 rfl (lv_at hl 0 rfl) ?_
        refine q_gs E w 5 t_v0 fl_RX11_23 dX11_singerOf_23 ?_
        refine lv_iload_n E.1 E.2.1 dX11_singerOf_26 rfl (lv_at hl 3 rfl) ?_
        obtain ⟨b4, hf⟩ := q_if hf
        refine q_iald E w ((lay_11_17 t_v0).1) ((lay_11_17 t_v0).2) b4 dX11_singerOf_27 ?_
        refine lv_goto (tgt := 32) E.1 E.2.1 dX11_singerOf_28 (by decide) ?_
        refine lv_istore_n (lv' := [(2, .int (h.1 (v0 + 5) v3.toNatClampNeg)), (0, .ref (ad G v0)), (1, .int v1), (3, .int v3)]) E.1 E.2.1 dX11_singerOf_32 rfl hl (by decide) rfl (fun ls hl => ?_)
        refine lv_iinc (v := v3 + 1) (lv' := [(3, .int (v3 + 1)), (2, .int (h.1 (v0 + 5) v3.toNatClampNeg)), (0, .ref (ad G v0)), (1, .int v1)]) E.1 E.2.1 dX11_singerOf_33 hl (k := 3) rfl rfl (by decide) rfl (fun ls hl => ?_)
        refine lv_goto (tgt := 4) E.1 E.2.1 dX11_singerOf_36 (by decide) ?_
        exact ih _ _ _ _ _ _ _ hf w t_v0 (lv_sub hl [2, 3, 1, 0] rfl)

def X11_singerOf (N : Nat) (h : HS) (v0 : Nat) (v1 : Int32) : Option Int32 := X11_singerOf_l4 N h N v0 v1 5 0
set_option maxRecDepth 4000 in
set_option maxHeartbeats 2000000 in
theorem X11_singerOf_c {l : Launch} {G : GT} {N : Nat} {h : HS} {v0 : Nat} {v1 : Int32} {z : Int32} (t_v0 : sh v0 = 11) (hf : X11_singerOf N h v0 v1 = some z) : CT l G yX11_singerOf cX11_singerOf 4 (some .int) 0 0 [.ref (ad G v0), .int v1] h (some (.int z)) h := by
  unfold X11_singerOf at hf
  refine CT.of (by decide) (Nat.le_of_ble_eq_true rfl) ?_
  intro p e s m below meth c ls E hr hlk w hl
  have hl : lv_has ls 4 [(0, .ref (ad G v0)), (1, .int v1)] := hl
  refine lv_iconst (v := 5) E.1 E.2.1 dX11_singerOf_0 rfl ?_
  refine lv_istore_n (lv' := [(2, .int 5), (0, .ref (ad G v0)), (1, .int v1)]) E.1 E.2.1 dX11_singerOf_1 rfl hl (by decide) rfl (fun ls hl => ?_)
  refine lv_iconst (v := 0) E.1 E.2.1 dX11_singerOf_2 rfl ?_
  refine lv_istore_n (lv' := [(3, .int 0), (2, .int 5), (0, .ref (ad G v0)), (1, .int v1)]) E.1 E.2.1 dX11_singerOf_3 rfl hl (by decide) rfl (fun ls hl => ?_)
  exact X11_singerOf_l4_w E hr hlk N _ _ _ _ _ _ _ hf w t_v0 (lv_sub hl [2, 3, 1, 0] rfl)

def X11_rota (N : Nat) (h : HS) (v0 : Nat) (v1 : Int32) (v2 : Int32) : Option (Int32 × HS) := bd2 (X11_isHouse N h v0 v1) fun r2 h3 => (if r2 = 0 then some ((-1), h3) else bd1 (X11_isBar N h3 v0 v2) fun r6 => (if r6 = 0 then some ((-1), h3) else bd1 (X11_everybody N h3 v0) fun r10 => bd2 (X11_isRota N h3 v0 (h3.1 v0 14) r10 0) fun r13 h14 => (if r13 = 0 then some ((-1), h14) else bd1 (X11_singerOf N h14 v0 v2) fun r17 => some (r17, h14))))
set_option maxRecDepth 4000 in
set_option maxHeartbeats 2000000 in
theorem X11_rota_c {l : Launch} {G : GT} {N : Nat} {h : HS} {v0 : Nat} {v1 : Int32} {v2 : Int32} {z : (Int32 × HS)} (t_v0 : sh v0 = 11) (hf : X11_rota N h v0 v1 v2 = some z) : CT l G yX11_rota cX11_rota 3 (some .int) 5 111 [.ref (ad G v0), .int v1, .int v2] h (some (.int z.1)) z.2 := by
  unfold X11_rota at hf
  refine CT.of (by decide) (Nat.le_of_ble_eq_true rfl) ?_
  intro p e s m below meth c ls E hr hlk w hl
  have hl : lv_has ls 3 [(0, .ref (ad G v0)), (1, .int v1), (2, .int v2)] := hl
  refine lv_aload_n E.1 E.2.1 dX11_rota_0 rfl (lv_at hl 0 rfl) ?_
  refine lv_iload_n E.1 E.2.1 dX11_rota_1 rfl (lv_at hl 1 rfl) ?_
  obtain ⟨r2, h3, hc1, hf⟩ := bd2_e hf
  refine k_Vi (As := [.int v1]) (rest := []) E w t_v0 ⟨by decide, rfl⟩ (X11_isHouse_c t_v0 hc1) mv_RX11_197 rfl rfl hl.1 ⟨Nat.le_of_ble_eq_true rfl, Nat.le_of_ble_eq_true rfl⟩ (Nat.le_of_ble_eq_true rfl) ⟨Nat.le_refl _, Nat.le_refl _⟩ dX11_rota_2 (fun H locs w => ?_)
  refine lv_if_eq (tgt := 32) E.1 E.2.1 dX11_rota_5 (by decide) (fun c4 => ?_) (fun c4 => ?_)
  · have hf := q_pos c4 hf
    refine lv_iconst (v := (-1)) E.1 E.2.1 dX11_rota_32 rfl ?_
    have hf := Option.some.inj hf
    subst hf
    exact q_iret E w hr hlk dX11_rota_33
  · have hf := q_neg c4 hf
    refine lv_aload_n E.1 E.2.1 dX11_rota_8 rfl (lv_at hl 0 rfl) ?_
    refine lv_iload_n E.1 E.2.1 dX11_rota_9 rfl (lv_at hl 2 rfl) ?_
    obtain ⟨r6, hc5, hf⟩ := bd1_e hf
    refine k_Vi (As := [.int v2]) (rest := []) E w t_v0 ⟨by decide, rfl⟩ (X11_isBar_c t_v0 hc5) mv_RX11_209 rfl rfl hl.1 ⟨Nat.le_of_ble_eq_true rfl, Nat.le_of_ble_eq_true rfl⟩ (Nat.le_of_ble_eq_true rfl) ⟨Nat.le_refl _, Nat.le_refl _⟩ dX11_rota_10 (fun H locs w => ?_)
    refine lv_if_eq (tgt := 32) E.1 E.2.1 dX11_rota_13 (by decide) (fun c8 => ?_) (fun c8 => ?_)
    · have hf := q_pos c8 hf
      refine lv_iconst (v := (-1)) E.1 E.2.1 dX11_rota_32 rfl ?_
      have hf := Option.some.inj hf
      subst hf
      exact q_iret E w hr hlk dX11_rota_33
    · have hf := q_neg c8 hf
      refine lv_aload_n E.1 E.2.1 dX11_rota_16 rfl (lv_at hl 0 rfl) ?_
      refine lv_aload_n E.1 E.2.1 dX11_rota_17 rfl (lv_at hl 0 rfl) ?_
      refine q_gi E w t_v0 fl_RX11_188 dX11_rota_18 ?_
      refine lv_aload_n E.1 E.2.1 dX11_rota_21 rfl (lv_at hl 0 rfl) ?_
      obtain ⟨r10, hc9, hf⟩ := bd1_e hf
      refine k_Vi (As := []) (rest := [.int (h3.1 v0 14), .ref (ad G v0)]) E w t_v0 ⟨by decide, rfl⟩ (X11_everybody_c t_v0 hc9) mv_RX11_245 rfl rfl hl.1 ⟨Nat.le_of_ble_eq_true rfl, Nat.le_of_ble_eq_true rfl⟩ (Nat.le_of_ble_eq_true rfl) ⟨Nat.le_refl _, Nat.le_refl _⟩ dX11_rota_22 (fun H locs w => ?_)
      refine lv_iconst (v := 0) E.1 E.2.1 dX11_rota_25 rfl ?_
      obtain ⟨r13, h14, hc12, hf⟩ := bd2_e hf
      refine k_Vi (As := [.int (h3.1 v0 14), .int r10, .int 0]) (rest := []) E w t_v0 ⟨by decide, rfl⟩ (X11_isRota_c t_v0 hc12) mv_RX11_249 rfl rfl hl.1 ⟨Nat.le_of_ble_eq_true rfl, Nat.le_of_ble_eq_true rfl⟩ (Nat.le_of_ble_eq_true rfl) ⟨Nat.le_refl _, Nat.le_refl _⟩ dX11_rota_26 (fun H locs w => ?_)
      refine lv_if_ne (tgt := 34) E.1 E.2.1 dX11_rota_29 (by decide) (fun c15 => ?_) (fun c15 => ?_)
      · have hf := q_neg c15 hf
        refine lv_aload_n E.1 E.2.1 dX11_rota_34 rfl (lv_at hl 0 rfl) ?_
        refine lv_iload_n E.1 E.2.1 dX11_rota_35 rfl (lv_at hl 2 rfl) ?_
        obtain ⟨r17, hc16, hf⟩ := bd1_e hf
        refine k_Vi (As := [.int v2]) (rest := []) E w t_v0 ⟨by decide, rfl⟩ (X11_singerOf_c t_v0 hc16) mv_RX11_252 rfl rfl hl.1 ⟨Nat.le_of_ble_eq_true rfl, Nat.le_of_ble_eq_true rfl⟩ (Nat.le_of_ble_eq_true rfl) ⟨Nat.le_refl _, Nat.le_refl _⟩ dX11_rota_36 (fun H locs w => ?_)
        have hf := Option.some.inj hf
        subst hf
        exact q_iret E w hr hlk dX11_rota_39
      · have hf := q_pos c15 hf
        refine lv_iconst (v := (-1)) E.1 E.2.1 dX11_rota_32 rfl ?_
        have hf := Option.some.inj hf
        subst hf
        exact q_iret E w hr hlk dX11_rota_33

def X11_bitsOf_l4 (N : Nat) (h : HS) : Nat → Int32 → Int32 → Int32 → Option Int32
  | 0, _, _, _ => none
  | n + 1, v0, v1, v2 => (if (10 : Int32) ≤ v2 then some v1 else X11_bitsOf_l4 N h n v0 (v1 + ((v0 >>> (v2 &&& 31)) &&& 1)) (v2 + 1))
set_option maxRecDepth 4000 in
set_option maxHeartbeats 2000000 in
theorem X11_bitsOf_l4_w {p : Program} {l : Launch} {e : Env} {s : State} {m : MethodId} {args : Array Value} {below : List Frame} {meth : Method} {c : Code} {G : GT} {N : Nat} {h : HS} {z : Int32} (E : CallFix p m c cX11_bitsOf 3 s args UW RX11) (hr : meth.sig.returnType = (some .int)) (hlk : meth.locks = false) : ∀ (n : Nat) (H : Heap) (locs : List Loc) (ls : Array Slot) (v0 : Int32) (v1 : Int32) (v2 : Int32), X11_bitsOf_l4 N h n v0 v1 v2 = some z → WD G s h H locs → lv_has ls 3 [(0, .int v0), (1, .int v1), (2, .int v2)] → W p l e ({ frames := 0, cells := 0, slots := 0, locals := 0 } : Room) s m args below meth c H locs 0 0 (MQ below (QC G (some (.int z)) h) args s 0 0 (AD G)) (F0 m 4 ls []) := by
  intro n
  induction n with
  | zero =>
    intro H locs ls v0 v1 v2 hf
    cases hf
  | succ n ih =>
    intro H locs ls v0 v1 v2 hf w  hl
    unfold X11_bitsOf_l4 at hf
    refine lv_iload_n E.1 E.2.1 dX11_bitsOf_4 rfl (lv_at hl 2 rfl) ?_
    refine lv_bipush (v := 10) E.1 E.2.1 dX11_bitsOf_5 rfl ?_
    refine lv_icmp_ge (tgt := 24) E.1 E.2.1 dX11_bitsOf_7 (by decide) (fun c1 => ?_) (fun c1 => ?_)
    · have hf := q_pos c1 hf
      refine lv_iload_n E.1 E.2.1 dX11_bitsOf_24 rfl (lv_at hl 1 rfl) ?_
      have hf := Option.some.inj hf
      subst hf
      exact q_iret E w hr hlk dX11_bitsOf_25
    · have hf := q_neg c1 hf
      refine lv_iload_n E.1 E.2.1 dX11_bitsOf_10 rfl (lv_at hl 1 rfl) ?_
      refine lv_iload_n E.1 E.2.1 dX11_bitsOf_11 rfl (lv_at hl 0 rfl) ?_
      refine lv_iload_n E.1 E.2.1 dX11_bitsOf_12 rfl (lv_at hl 2 rfl) ?_
      refine lv_ishr E.1 E.2.1 dX11_bitsOf_13 ?_
      refine lv_iconst (v := 1) E.1 E.2.1 dX11_bitsOf_14 rfl ?_
      refine lv_iand E.1 E.2.1 dX11_bitsOf_15 ?_
      refine lv_iadd E.1 E.2.1 dX11_bitsOf_16 ?_
      refine lv_istore_n (lv' := [(1, .int (v1 + ((v0 >>> (v2 &&& 31)) &&& 1))), (0, .int v0), (2, .int v2)]) E.1 E.2.1 dX11_bitsOf_17 rfl hl (by decide) rfl (fun ls hl => ?_)
      refine lv_iinc (v := v2 + 1) (lv' := [(2, .int (v2 + 1)), (1, .int (v1 + ((v0 >>> (v2 &&& 31)) &&& 1))), (0, .int v0)]) E.1 E.2.1 dX11_bitsOf_18 hl (k := 2) rfl rfl (by decide) rfl (fun ls hl => ?_)
      refine lv_goto (tgt := 4) E.1 E.2.1 dX11_bitsOf_21 (by decide) ?_
      exact ih _ _ _ _ _ _ hf w  (lv_sub hl [2, 1, 0] rfl)

def X11_bitsOf (N : Nat) (h : HS) (v0 : Int32) : Option Int32 := X11_bitsOf_l4 N h N v0 0 0
set_option maxRecDepth 4000 in
set_option maxHeartbeats 2000000 in
theorem X11_bitsOf_c {l : Launch} {G : GT} {N : Nat} {h : HS} {v0 : Int32} {z : Int32} (hf : X11_bitsOf N h v0 = some z) : CT l G yX11_bitsOf cX11_bitsOf 3 (some .int) 0 0 [.int v0] h (some (.int z)) h := by
  unfold X11_bitsOf at hf
  refine CT.of (by decide) (Nat.le_of_ble_eq_true rfl) ?_
  intro p e s m below meth c ls E hr hlk w hl
  have hl : lv_has ls 3 [(0, .int v0)] := hl
  refine lv_iconst (v := 0) E.1 E.2.1 dX11_bitsOf_0 rfl ?_
  refine lv_istore_n (lv' := [(1, .int 0), (0, .int v0)]) E.1 E.2.1 dX11_bitsOf_1 rfl hl (by decide) rfl (fun ls hl => ?_)
  refine lv_iconst (v := 0) E.1 E.2.1 dX11_bitsOf_2 rfl ?_
  refine lv_istore_n (lv' := [(2, .int 0), (1, .int 0), (0, .int v0)]) E.1 E.2.1 dX11_bitsOf_3 rfl hl (by decide) rfl (fun ls hl => ?_)
  exact X11_bitsOf_l4_w E hr hlk N _ _ _ _ _ _ hf w  (lv_sub hl [2, 1, 0] rfl)

def X11_few_l15 (N : Nat) : Nat → HS → Nat → Int32 → Int32 → Int32 → Option (Int32 × HS)
  | 0, _, _, _, _, _ => none
  | n + 1, h, v0, v2, v3, v4 => bd1 (X11_everybody N h v0) fun r6 => (if r6 < v4 then (if v3 = ((-1) : Int32) then some (v3, h) else (if v2 = 0 then bd1 (X11_bitsOf N h v3) fun r12 => some (r12, h) else some (v3, h))) else (if v3 = ((-1) : Int32) then bd2 (X11_isRota N h v0 (h.1 v0 14) v4 0) fun r16 h17 => (if r16 = 0 then X11_few_l15 N n h17 v0 v2 v3 (v4 + 1) else X11_few_l15 N n h17 v0 v2 v4 (v4 + 1)) else bd1 (X11_bitsOf N h v4) fun r20 => bd1 (X11_bitsOf N h v3) fun r23 => (if r23 ≤ r20 then X11_few_l15 N n h v0 v2 v3 (v4 + 1) else bd2 (X11_isRota N h v0 (h.1 v0 14) v4 0) fun r27 h28 => (if r27 = 0 then X11_few_l15 N n h28 v0 v2 v3 (v4 + 1) else X11_few_l15 N n h28 v0 v2 v4 (v4 + 1)))))
set_option maxRecDepth 4000 in
set_option maxHeartbeats 2000000 in
theorem X11_few_l15_w {p : Program} {l : Launch} {e : Env} {s : State} {m : MethodId} {args : Array Value} {below : List Frame} {meth : Method} {c : Code} {G : GT} {N : Nat} {z : (Int32 × HS)} (E : CallFix p m c cX11_few 5 s args UW RX11) (hr : meth.sig.returnType = (some .int)) (hlk : meth.locks = false) : ∀ (n : Nat) (h : HS) (H : Heap) (locs : List Loc) (ls : Array Slot) (v0 : Nat) (v2 : Int32) (v3 : Int32) (v4 : Int32), X11_few_l15 N n h v0 v2 v3 v4 = some z → WD G s h H locs → sh v0 = 11 → lv_has ls 5 [(0, .ref (ad G v0)), (2, .int v2), (3, .int v3), (4, .int v4)] → W p l e ({ frames := 5, cells := 0, slots := 0, locals := 111 } : Room) s m args below meth c H locs 0 0 (MQ below (QC G (some (.int z.1)) z.2) args s 0 0 (AD G)) (F0 m 15 ls []) := by
  intro n
  induction n with
  | zero =>
    intro h H locs ls v0 v2 v3 v4 hf
    cases hf
  | succ n ih =>
    intro h H locs ls v0 v2 v3 v4 hf w t_v0 hl
    unfold X11_few_l15 at hf
    refine lv_iload E.1 E.2.1 dX11_few_15 (lv_at hl 3 rfl) ?_
    refine lv_aload_n E.1 E.2.1 dX11_few_17 rfl (lv_at hl 0 rfl) ?_
    obtain ⟨r6, hc5, hf⟩ := bd1_e hf
    refine k_Vi (As := []) (rest := [.int v4]) E w t_v0 ⟨by decide, rfl⟩ (X11_everybody_c t_v0 hc5) mv_RX11_245 rfl rfl hl.1 ⟨Nat.le_of_ble_eq_true rfl, Nat.le_of_ble_eq_true rfl⟩ (Nat.le_of_ble_eq_true rfl) ⟨Nat.le_refl _, Nat.le_refl _⟩ dX11_few_18 (fun H locs w => ?_)
    refine lv_icmp_gt (tgt := 64) E.1 E.2.1 dX11_few_21 (by decide) (fun c8 => ?_) (fun c8 => ?_)
    · have hf := q_pos c8 hf
      refine lv_iload_n E.1 E.2.1 dX11_few_64 rfl (lv_at hl 2 rfl) ?_
      refine lv_iconst (v := (-1)) E.1 E.2.1 dX11_few_65 rfl ?_
      refine lv_icmp_eq (tgt := 73) E.1 E.2.1 dX11_few_66 (by decide) (fun c9 => ?_) (fun c9 => ?_)
      · have hf := q_pos c9 hf
        refine lv_iload_n E.1 E.2.1 dX11_few_73 rfl (lv_at hl 2 rfl) ?_
        refine lv_goto (tgt := 81) E.1 E.2.1 dX11_few_74 (by decide) ?_
        have hf := Option.some.inj hf
        subst hf
        exact q_iret E w hr hlk dX11_few_81
      · have hf := q_neg c9 hf
        refine lv_iload_n E.1 E.2.1 dX11_few_69 rfl (lv_at hl 1 rfl) ?_
        refine lv_if_eq (tgt := 77) E.1 E.2.1 dX11_few_70 (by decide) (fun c10 => ?_) (fun c10 => ?_)
        · have hf := q_pos c10 hf
          refine lv_iload_n E.1 E.2.1 dX11_few_77 rfl (lv_at hl 2 rfl) ?_
          obtain ⟨r12, hc11, hf⟩ := bd1_e hf
          refine k_Si (As := [.int v3]) (rest := []) E w (X11_bitsOf_c  hc11) ms_RX11_255 rfl rfl hl.1 ⟨Nat.le_of_ble_eq_true rfl, Nat.le_of_ble_eq_true rfl⟩ (Nat.le_of_ble_eq_true rfl) ⟨Nat.le_refl _, Nat.le_refl _⟩ dX11_few_78 (fun H locs w => ?_)
          have hf := Option.some.inj hf
          subst hf
          exact q_iret E w hr hlk dX11_few_81
        · have hf := q_neg c10 hf
          refine lv_iload_n E.1 E.2.1 dX11_few_73 rfl (lv_at hl 2 rfl) ?_
          refine lv_goto (tgt := 81) E.1 E.2.1 dX11_few_74 (by decide) ?_
          have hf := Option.some.inj hf
          subst hf
          exact q_iret E w hr hlk dX11_few_81
    · have hf := q_neg c8 hf
      refine lv_iload_n E.1 E.2.1 dX11_few_24 rfl (lv_at hl 2 rfl) ?_
      refine lv_iconst (v := (-1)) E.1 E.2.1 dX11_few_25 rfl ?_
      refine lv_icmp_eq (tgt := 41) E.1 E.2.1 dX11_few_26 (by decide) (fun c14 => ?_) (fun c14 => ?_)
      · have hf := q_pos c14 hf
        refine lv_aload_n E.1 E.2.1 dX11_few_41 rfl (lv_at hl 0 rfl) ?_
        refine lv_aload_n E.1 E.2.1 dX11_few_42 rfl (lv_at hl 0 rfl) ?_
        refine q_gi E w t_v0 fl_RX11_188 dX11_few_43 ?_
        refine lv_iload E.1 E.2.1 dX11_few_46 (lv_at hl 3 rfl) ?_
        refine lv_iconst (v := 0) E.1 E.2.1 dX11_few_48 rfl ?_
        obtain ⟨r16, h17, hc15, hf⟩ := bd2_e hf
        refine k_Vi (As := [.int (h.1 v0 14), .int v4, .int 0]) (rest := []) E w t_v0 ⟨by decide, rfl⟩ (X11_isRota_c t_v0 hc15) mv_RX11_249 rfl rfl hl.1 ⟨Nat.le_of_ble_eq_true rfl, Nat.le_of_ble_eq_true rfl⟩ (Nat.le_of_ble_eq_true rfl) ⟨Nat.le_refl _, Nat.le_refl _⟩ dX11_few_49 (fun H locs w => ?_)
        refine lv_if_eq (tgt := 58) E.1 E.2.1 dX11_few_52 (by decide) (fun c18 => ?_) (fun c18 => ?_)
        · have hf := q_pos c18 hf
          refine lv_iinc (v := v4 + 1) (lv' := [(4, .int (v4 + 1)), (0, .ref (ad G v0)), (2, .int v2), (3, .int v3)]) E.1 E.2.1 dX11_few_58 hl (k := 3) rfl rfl (by decide) rfl (fun ls hl => ?_)
          refine lv_goto (tgt := 15) E.1 E.2.1 dX11_few_61 (by decide) ?_
          exact ih _ _ _ _ _ _ _ _ hf w t_v0 (lv_sub hl [1, 2, 3, 0] rfl)
        · have hf := q_neg c18 hf
          refine lv_iload E.1 E.2.1 dX11_few_55 (lv_at hl 3 rfl) ?_
          refine lv_istore_n (lv' := [(3, .int v4), (0, .ref (ad G v0)), (2, .int v2), (4, .int v4)]) E.1 E.2.1 dX11_few_57 rfl hl (by decide) rfl (fun ls hl => ?_)
          refine lv_iinc (v := v4 + 1) (lv' := [(4, .int (v4 + 1)), (3, .int v4), (0, .ref (ad G v0)), (2, .int v2)]) E.1 E.2.1 dX11_few_58 hl (k := 3) rfl rfl (by decide) rfl (fun ls hl => ?_)
          refine lv_goto (tgt := 15) E.1 E.2.1 dX11_few_61 (by decide) ?_
          exact ih _ _ _ _ _ _ _ _ hf w t_v0 (lv_sub hl [2, 3, 1, 0] rfl)
      · have hf := q_neg c14 hf
        refine lv_iload E.1 E.2.1 dX11_few_29 (lv_at hl 3 rfl) ?_
        obtain ⟨r20, hc19, hf⟩ := bd1_e hf
        refine k_Si (As := [.int v4]) (rest := []) E w (X11_bitsOf_c  hc19) ms_RX11_255 rfl rfl hl.1 ⟨Nat.le_of_ble_eq_true rfl, Nat.le_of_ble_eq_true rfl⟩ (Nat.le_of_ble_eq_true rfl) ⟨Nat.le_refl _, Nat.le_refl _⟩ dX11_few_31 (fun H locs w => ?_)
        refine lv_iload_n E.1 E.2.1 dX11_few_34 rfl (lv_at hl 2 rfl) ?_
        obtain ⟨r23, hc22, hf⟩ := bd1_e hf
        refine k_Si (As := [.int v3]) (rest := [.int r20]) E w (X11_bitsOf_c  hc22) ms_RX11_255 rfl rfl hl.1 ⟨Nat.le_of_ble_eq_true rfl, Nat.le_of_ble_eq_true rfl⟩ (Nat.le_of_ble_eq_true rfl) ⟨Nat.le_refl _, Nat.le_refl _⟩ dX11_few_35 (fun H locs w => ?_)
        refine lv_icmp_ge (tgt := 58) E.1 E.2.1 dX11_few_38 (by decide) (fun c25 => ?_) (fun c25 => ?_)
        · have hf := q_pos c25 hf
          refine lv_iinc (v := v4 + 1) (lv' := [(4, .int (v4 + 1)), (0, .ref (ad G v0)), (2, .int v2), (3, .int v3)]) E.1 E.2.1 dX11_few_58 hl (k := 3) rfl rfl (by decide) rfl (fun ls hl => ?_)
          refine lv_goto (tgt := 15) E.1 E.2.1 dX11_few_61 (by decide) ?_
          exact ih _ _ _ _ _ _ _ _ hf w t_v0 (lv_sub hl [1, 2, 3, 0] rfl)
        · have hf := q_neg c25 hf
          refine lv_aload_n E.1 E.2.1 dX11_few_41 rfl (lv_at hl 0 rfl) ?_
          refine lv_aload_n E.1 E.2.1 dX11_few_42 rfl (lv_at hl 0 rfl) ?_
          refine q_gi E w t_v0 fl_RX11_188 dX11_few_43 ?_
          refine lv_iload E.1 E.2.1 dX11_few_46 (lv_at hl 3 rfl) ?_
          refine lv_iconst (v := 0) E.1 E.2.1 dX11_few_48 rfl ?_
          obtain ⟨r27, h28, hc26, hf⟩ := bd2_e hf
          refine k_Vi (As := [.int (h.1 v0 14), .int v4, .int 0]) (rest := []) E w t_v0 ⟨by decide, rfl⟩ (X11_isRota_c t_v0 hc26) mv_RX11_249 rfl rfl hl.1 ⟨Nat.le_of_ble_eq_true rfl, Nat.le_of_ble_eq_true rfl⟩ (Nat.le_of_ble_eq_true rfl) ⟨Nat.le_refl _, Nat.le_refl _⟩ dX11_few_49 (fun H locs w => ?_)
          refine lv_if_eq (tgt := 58) E.1 E.2.1 dX11_few_52 (by decide) (fun c29 => ?_) (fun c29 => ?_)
          · have hf := q_pos c29 hf
            refine lv_iinc (v := v4 + 1) (lv' := [(4, .int (v4 + 1)), (0, .ref (ad G v0)), (2, .int v2), (3, .int v3)]) E.1 E.2.1 dX11_few_58 hl (k := 3) rfl rfl (by decide) rfl (fun ls hl => ?_)
            refine lv_goto (tgt := 15) E.1 E.2.1 dX11_few_61 (by decide) ?_
            exact ih _ _ _ _ _ _ _ _ hf w t_v0 (lv_sub hl [1, 2, 3, 0] rfl)
          · have hf := q_neg c29 hf
            refine lv_iload E.1 E.2.1 dX11_few_55 (lv_at hl 3 rfl) ?_
            refine lv_istore_n (lv' := [(3, .int v4), (0, .ref (ad G v0)), (2, .int v2), (4, .int v4)]) E.1 E.2.1 dX11_few_57 rfl hl (by decide) rfl (fun ls hl => ?_)
            refine lv_iinc (v := v4 + 1) (lv' := [(4, .int (v4 + 1)), (3, .int v4), (0, .ref (ad G v0)), (2, .int v2)]) E.1 E.2.1 dX11_few_58 hl (k := 3) rfl rfl (by decide) rfl (fun ls hl => ?_)
            refine lv_goto (tgt := 15) E.1 E.2.1 dX11_few_61 (by decide) ?_
            exact ih _ _ _ _ _ _ _ _ hf w t_v0 (lv_sub hl [2, 3, 1, 0] rfl)

def X11_few (N : Nat) (h : HS) (v0 : Nat) (v1 : Int32) (v2 : Int32) : Option (Int32 × HS) := bd2 (X11_isHouse N h v0 v1) fun r2 h3 => (if r2 = 0 then some ((-1), h3) else X11_few_l15 N N h3 v0 v2 (-1) 0)
set_option maxRecDepth 4000 in
set_option maxHeartbeats 2000000 in
theorem X11_few_c {l : Launch} {G : GT} {N : Nat} {h : HS} {v0 : Nat} {v1 : Int32} {v2 : Int32} {z : (Int32 × HS)} (t_v0 : sh v0 = 11) (hf : X11_few N h v0 v1 v2 = some z) : CT l G yX11_few cX11_few 5 (some .int) 5 111 [.ref (ad G v0), .int v1, .int v2] h (some (.int z.1)) z.2 := by
  unfold X11_few at hf
  refine CT.of (by decide) (Nat.le_of_ble_eq_true rfl) ?_
  intro p e s m below meth c ls E hr hlk w hl
  have hl : lv_has ls 5 [(0, .ref (ad G v0)), (1, .int v1), (2, .int v2)] := hl
  refine lv_aload_n E.1 E.2.1 dX11_few_0 rfl (lv_at hl 0 rfl) ?_
  refine lv_iload_n E.1 E.2.1 dX11_few_1 rfl (lv_at hl 1 rfl) ?_
  obtain ⟨r2, h3, hc1, hf⟩ := bd2_e hf
  refine k_Vi (As := [.int v1]) (rest := []) E w t_v0 ⟨by decide, rfl⟩ (X11_isHouse_c t_v0 hc1) mv_RX11_197 rfl rfl hl.1 ⟨Nat.le_of_ble_eq_true rfl, Nat.le_of_ble_eq_true rfl⟩ (Nat.le_of_ble_eq_true rfl) ⟨Nat.le_refl _, Nat.le_refl _⟩ dX11_few_2 (fun H locs w => ?_)
  refine lv_if_ne (tgt := 10) E.1 E.2.1 dX11_few_5 (by decide) (fun c4 => ?_) (fun c4 => ?_)
  · have hf := q_neg c4 hf
    refine lv_iconst (v := (-1)) E.1 E.2.1 dX11_few_10 rfl ?_
    refine lv_istore_n (lv' := [(3, .int (-1)), (0, .ref (ad G v0)), (1, .int v1), (2, .int v2)]) E.1 E.2.1 dX11_few_11 rfl hl (by decide) rfl (fun ls hl => ?_)
    refine lv_iconst (v := 0) E.1 E.2.1 dX11_few_12 rfl ?_
    refine lv_istore (lv' := [(4, .int 0), (3, .int (-1)), (0, .ref (ad G v0)), (1, .int v1), (2, .int v2)]) E.1 E.2.1 dX11_few_13 hl (by decide) rfl (fun ls hl => ?_)
    exact X11_few_l15_w E hr hlk N _ _ _ _ _ _ _ _ hf w t_v0 (lv_sub hl [2, 4, 1, 0] rfl)
  · have hf := q_pos c4 hf
    refine lv_iconst (v := (-1)) E.1 E.2.1 dX11_few_8 rfl ?_
    have hf := Option.some.inj hf
    subst hf
    exact q_iret E w hr hlk dX11_few_9

def X11_farBy_l5 (N : Nat) : Nat → HS → Nat → Int32 → Int32 → Option (Int32 × HS)
  | 0, _, _, _, _ => none
  | n + 1, h, v0, v1, v2 => bd1 (X11_everybody N h v0) fun r2 => bd2 (X11_isRota N h v0 v2 r2 v1) fun r5 h6 => (if r5 = 0 then X11_farBy_l5 N n h6 v0 v1 (v2 + (-1)) else some (v2, h6))
set_option maxRecDepth 4000 in
set_option maxHeartbeats 2000000 in
theorem X11_farBy_l5_w {p : Program} {l : Launch} {e : Env} {s : State} {m : MethodId} {args : Array Value} {below : List Frame} {meth : Method} {c : Code} {G : GT} {N : Nat} {z : (Int32 × HS)} (E : CallFix p m c cX11_farBy 3 s args UW RX11) (hr : meth.sig.returnType = (some .int)) (hlk : meth.locks = false) : ∀ (n : Nat) (h : HS) (H : Heap) (locs : List Loc) (ls : Array Slot) (v0 : Nat) (v1 : Int32) (v2 : Int32), X11_farBy_l5 N n h v0 v1 v2 = some z → WD G s h H locs → sh v0 = 11 → lv_has ls 3 [(0, .ref (ad G v0)), (1, .int v1), (2, .int v2)] → W p l e ({ frames := 5, cells := 0, slots := 0, locals := 111 } : Room) s m args below meth c H locs 0 0 (MQ below (QC G (some (.int z.1)) z.2) args s 0 0 (AD G)) (F0 m 5 ls []) := by
  intro n
  induction n with
  | zero =>
    intro h H locs ls v0 v1 v2 hf
    cases hf
  | succ n ih =>
    intro h H locs ls v0 v1 v2 hf w t_v0 hl
    unfold X11_farBy_l5 at hf
    refine lv_aload_n E.1 E.2.1 dX11_farBy_5 rfl (lv_at hl 0 rfl) ?_
    refine lv_iload_n E.1 E.2.1 dX11_farBy_6 rfl (lv_at hl 2 rfl) ?_
    refine lv_aload_n E.1 E.2.1 dX11_farBy_7 rfl (lv_at hl 0 rfl) ?_
    obtain ⟨r2, hc1, hf⟩ := bd1_e hf
    refine k_Vi (As := []) (rest := [.int v2, .ref (ad G v0)]) E w t_v0 ⟨by decide, rfl⟩ (X11_everybody_c t_v0 hc1) mv_RX11_245 rfl rfl hl.1 ⟨Nat.le_of_ble_eq_true rfl, Nat.le_of_ble_eq_true rfl⟩ (Nat.le_of_ble_eq_true rfl) ⟨Nat.le_refl _, Nat.le_refl _⟩ dX11_farBy_8 (fun H locs w => ?_)
    refine lv_iload_n E.1 E.2.1 dX11_farBy_11 rfl (lv_at hl 1 rfl) ?_
    obtain ⟨r5, h6, hc4, hf⟩ := bd2_e hf
    refine k_Vi (As := [.int v2, .int r2, .int v1]) (rest := []) E w t_v0 ⟨by decide, rfl⟩ (X11_isRota_c t_v0 hc4) mv_RX11_249 rfl rfl hl.1 ⟨Nat.le_of_ble_eq_true rfl, Nat.le_of_ble_eq_true rfl⟩ (Nat.le_of_ble_eq_true rfl) ⟨Nat.le_refl _, Nat.le_refl _⟩ dX11_farBy_12 (fun H locs w => ?_)
    refine lv_if_ne (tgt := 24) E.1 E.2.1 dX11_farBy_15 (by decide) (fun c7 => ?_) (fun c7 => ?_)
    · have hf := q_neg c7 hf
      refine lv_iload_n E.1 E.2.1 dX11_farBy_24 rfl (lv_at hl 2 rfl) ?_
      have hf := Option.some.inj hf
      subst hf
      exact q_iret E w hr hlk dX11_farBy_25
    · have hf := q_pos c7 hf
      refine lv_iinc (v := v2 + (-1)) (lv' := [(2, .int (v2 + (-1))), (0, .ref (ad G v0)), (1, .int v1)]) E.1 E.2.1 dX11_farBy_18 hl (k := 2) rfl rfl (by decide) rfl (fun ls hl => ?_)
      refine lv_goto (tgt := 5) E.1 E.2.1 dX11_farBy_21 (by decide) ?_
      exact ih _ _ _ _ _ _ _ hf w t_v0 (lv_sub hl [1, 2, 0] rfl)

def X11_farBy (N : Nat) (h : HS) (v0 : Nat) (v1 : Int32) : Option (Int32 × HS) := X11_farBy_l5 N N h v0 v1 (h.1 v0 14)
set_option maxRecDepth 4000 in
set_option maxHeartbeats 2000000 in
theorem X11_farBy_c {l : Launch} {G : GT} {N : Nat} {h : HS} {v0 : Nat} {v1 : Int32} {z : (Int32 × HS)} (t_v0 : sh v0 = 11) (hf : X11_farBy N h v0 v1 = some z) : CT l G yX11_farBy cX11_farBy 3 (some .int) 5 111 [.ref (ad G v0), .int v1] h (some (.int z.1)) z.2 := by
  unfold X11_farBy at hf
  refine CT.of (by decide) (Nat.le_of_ble_eq_true rfl) ?_
  intro p e s m below meth c ls E hr hlk w hl
  have hl : lv_has ls 3 [(0, .ref (ad G v0)), (1, .int v1)] := hl
  refine lv_aload_n E.1 E.2.1 dX11_farBy_0 rfl (lv_at hl 0 rfl) ?_
  refine q_gi E w t_v0 fl_RX11_188 dX11_farBy_1 ?_
  refine lv_istore_n (lv' := [(2, .int (h.1 v0 14)), (0, .ref (ad G v0)), (1, .int v1)]) E.1 E.2.1 dX11_farBy_4 rfl hl (by decide) rfl (fun ls hl => ?_)
  exact X11_farBy_l5_w E hr hlk N _ _ _ _ _ _ _ hf w t_v0 (lv_sub hl [1, 2, 0] rfl)

def X11_isReached_l4 (N : Nat) (h : HS) : Nat → Nat → Int32 → Int32 → Int32 → Option Int32
  | 0, _, _, _, _ => none
  | n + 1, v0, v1, v2, v3 => (if (h.1 v0 15) ≤ v3 then some (nz v2) else (if v2 = 0 then bd1 (X11_reaches N h v0 v3 v1 0) fun r4 => (if r4 = 0 then X11_isReached_l4 N h n v0 v1 0 (v3 + 1) else X11_isReached_l4 N h n v0 v1 1 (v3 + 1)) else X11_isReached_l4 N h n v0 v1 1 (v3 + 1)))
set_option maxRecDepth 4000 in
set_option maxHeartbeats 2000000 in
theorem X11_isReached_l4_w {p : Program} {l : Launch} {e : Env} {s : State} {m : MethodId} {args : Array Value} {below : List Frame} {meth : Method} {c : Code} {G : GT} {N : Nat} {h : HS} {z : Int32} (E : CallFix p m c cX11_isReached 4 s args UW RX11) (hr : meth.sig.returnType = (some .boolean)) (hlk : meth.locks = false) : ∀ (n : Nat) (H : Heap) (locs : List Loc) (ls : Array Slot) (v0 : Nat) (v1 : Int32) (v2 : Int32) (v3 : Int32), X11_isReached_l4 N h n v0 v1 v2 v3 = some z → WD G s h H locs → sh v0 = 11 → lv_has ls 4 [(0, .ref (ad G v0)), (1, .int v1), (2, .int v2), (3, .int v3)] → W p l e ({ frames := 2, cells := 0, slots := 0, locals := 45 } : Room) s m args below meth c H locs 0 0 (MQ below (QC G (some (.int z)) h) args s 0 0 (AD G)) (F0 m 4 ls []) := by
  intro n
  induction n with
  | zero =>
    intro H locs ls v0 v1 v2 v3 hf
    cases hf
  | succ n ih =>
    intro H locs ls v0 v1 v2 v3 hf w t_v0 hl
    unfold X11_isReached_l4 at hf
    refine lv_iload_n E.1 E.2.1 dX11_isReached_4 rfl (lv_at hl 3 rfl) ?_
    refine lv_aload_n E.1 E.2.1 dX11_isReached_5 rfl (lv_at hl 0 rfl) ?_
    refine q_gi E w t_v0 fl_RX11_191 dX11_isReached_6 ?_
    refine lv_icmp_ge (tgt := 38) E.1 E.2.1 dX11_isReached_9 (by decide) (fun c1 => ?_) (fun c1 => ?_)
    · have hf := q_pos c1 hf
      refine lv_iload_n E.1 E.2.1 dX11_isReached_38 rfl (lv_at hl 2 rfl) ?_
      have hf := Option.some.inj hf
      subst hf
      exact q_zret E w hr hlk dX11_isReached_39
    · have hf := q_neg c1 hf
      refine lv_iload_n E.1 E.2.1 dX11_isReached_12 rfl (lv_at hl 2 rfl) ?_
      refine lv_if_ne (tgt := 26) E.1 E.2.1 dX11_isReached_13 (by decide) (fun c2 => ?_) (fun c2 => ?_)
      · have hf := q_neg c2 hf
        refine lv_iconst (v := 1) E.1 E.2.1 dX11_isReached_26 rfl ?_
        refine lv_goto (tgt := 31) E.1 E.2.1 dX11_isReached_27 (by decide) ?_
        refine lv_istore_n (lv' := [(2, .int 1), (0, .ref (ad G v0)), (1, .int v1), (3, .int v3)]) E.1 E.2.1 dX11_isReached_31 rfl hl (by decide) rfl (fun ls hl => ?_)
        refine lv_iinc (v := v3 + 1) (lv' := [(3, .int (v3 + 1)), (2, .int 1), (0, .ref (ad G v0)), (1, .int v1)]) E.1 E.2.1 dX11_isReached_32 hl (k := 3) rfl rfl (by decide) rfl (fun ls hl => ?_)
        refine lv_goto (tgt := 4) E.1 E.2.1 dX11_isReached_35 (by decide) ?_
        exact ih _ _ _ _ _ _ _ hf w t_v0 (lv_sub hl [2, 3, 1, 0] rfl)
      · have hf := q_pos c2 hf
        refine lv_aload_n E.1 E.2.1 dX11_isReached_16 rfl (lv_at hl 0 rfl) ?_
        refine lv_iload_n E.1 E.2.1 dX11_isReached_17 rfl (lv_at hl 3 rfl) ?_
        refine lv_iload_n E.1 E.2.1 dX11_isReached_18 rfl (lv_at hl 1 rfl) ?_
        refine lv_iconst (v := 0) E.1 E.2.1 dX11_isReached_19 rfl ?_
        obtain ⟨r4, hc3, hf⟩ := bd1_e hf
        refine k_Vi (As := [.int v3, .int v1, .int 0]) (rest := []) E w t_v0 ⟨by decide, rfl⟩ (X11_reaches_c t_v0 hc3) mv_RX11_228 rfl rfl hl.1 ⟨Nat.le_of_ble_eq_true rfl, Nat.le_of_ble_eq_true rfl⟩ (Nat.le_of_ble_eq_true rfl) ⟨Nat.le_refl _, Nat.le_refl _⟩ dX11_isReached_20 (fun H locs w => ?_)
        refine lv_if_eq (tgt := 30) E.1 E.2.1 dX11_isReached_23 (by decide) (fun c6 => ?_) (fun c6 => ?_)
        · have hf := q_pos c6 hf
          refine lv_iconst (v := 0) E.1 E.2.1 dX11_isReached_30 rfl ?_
          refine lv_istore_n (lv' := [(2, .int 0), (0, .ref (ad G v0)), (1, .int v1), (3, .int v3)]) E.1 E.2.1 dX11_isReached_31 rfl hl (by decide) rfl (fun ls hl => ?_)
          refine lv_iinc (v := v3 + 1) (lv' := [(3, .int (v3 + 1)), (2, .int 0), (0, .ref (ad G v0)), (1, .int v1)]) E.1 E.2.1 dX11_isReached_32 hl (k := 3) rfl rfl (by decide) rfl (fun ls hl => ?_)
          refine lv_goto (tgt := 4) E.1 E.2.1 dX11_isReached_35 (by decide) ?_
          exact ih _ _ _ _ _ _ _ hf w t_v0 (lv_sub hl [2, 3, 1, 0] rfl)
        · have hf := q_neg c6 hf
          refine lv_iconst (v := 1) E.1 E.2.1 dX11_isReached_26 rfl ?_
          refine lv_goto (tgt := 31) E.1 E.2.1 dX11_isReached_27 (by decide) ?_
          refine lv_istore_n (lv' := [(2, .int 1), (0, .ref (ad G v0)), (1, .int v1), (3, .int v3)]) E.1 E.2.1 dX11_isReached_31 rfl hl (by decide) rfl (fun ls hl => ?_)
          refine lv_iinc (v := v3 + 1) (lv' := [(3, .int (v3 + 1)), (2, .int 1), (0, .ref (ad G v0)), (1, .int v1)]) E.1 E.2.1 dX11_isReached_32 hl (k := 3) rfl rfl (by decide) rfl (fun ls hl => ?_)
          refine lv_goto (tgt := 4) E.1 E.2.1 dX11_isReached_35 (by decide) ?_
          exact ih _ _ _ _ _ _ _ hf w t_v0 (lv_sub hl [2, 3, 1, 0] rfl)

def X11_isReached (N : Nat) (h : HS) (v0 : Nat) (v1 : Int32) : Option Int32 := X11_isReached_l4 N h N v0 v1 0 0
set_option maxRecDepth 4000 in
set_option maxHeartbeats 2000000 in
theorem X11_isReached_c {l : Launch} {G : GT} {N : Nat} {h : HS} {v0 : Nat} {v1 : Int32} {z : Int32} (t_v0 : sh v0 = 11) (hf : X11_isReached N h v0 v1 = some z) : CT l G yX11_isReached cX11_isReached 4 (some .boolean) 2 45 [.ref (ad G v0), .int v1] h (some (.int z)) h := by
  unfold X11_isReached at hf
  refine CT.of (by decide) (Nat.le_of_ble_eq_true rfl) ?_
  intro p e s m below meth c ls E hr hlk w hl
  have hl : lv_has ls 4 [(0, .ref (ad G v0)), (1, .int v1)] := hl
  refine lv_iconst (v := 0) E.1 E.2.1 dX11_isReached_0 rfl ?_
  refine lv_istore_n (lv' := [(2, .int 0), (0, .ref (ad G v0)), (1, .int v1)]) E.1 E.2.1 dX11_isReached_1 rfl hl (by decide) rfl (fun ls hl => ?_)
  refine lv_iconst (v := 0) E.1 E.2.1 dX11_isReached_2 rfl ?_
  refine lv_istore_n (lv' := [(3, .int 0), (2, .int 0), (0, .ref (ad G v0)), (1, .int v1)]) E.1 E.2.1 dX11_isReached_3 rfl hl (by decide) rfl (fun ls hl => ?_)
  exact X11_isReached_l4_w E hr hlk N _ _ _ _ _ _ _ hf w t_v0 (lv_sub hl [2, 3, 1, 0] rfl)

def X11_far_l25 (N : Nat) : Nat → HS → Nat → Int32 → Int32 → Option (Int32 × HS)
  | 0, _, _, _, _ => none
  | n + 1, h, v0, v3, v4 => (if (h.1 v0 14) ≤ v4 then some (v3, h) else bd1 (X11_noteOf N h v0 v4) fun r8 => (if r8 ≤ 0 then X11_far_l25 N n h v0 (v3 ||| 0) (v4 + 1) else bd1 (X11_noteOf N h v0 v4) fun r12 => bd1 (X11_isReached N h v0 r12) fun r15 => (if r15 = 0 then X11_far_l25 N n h v0 (v3 ||| ((1 : Int32) <<< (v4 &&& 31))) (v4 + 1) else X11_far_l25 N n h v0 (v3 ||| 0) (v4 + 1))))
set_option maxRecDepth 4000 in
set_option maxHeartbeats 2000000 in
theorem X11_far_l25_w {p : Program} {l : Launch} {e : Env} {s : State} {m : MethodId} {args : Array Value} {below : List Frame} {meth : Method} {c : Code} {G : GT} {N : Nat} {z : (Int32 × HS)} (E : CallFix p m c cX11_far 5 s args UW RX11) (hr : meth.sig.returnType = (some .int)) (hlk : meth.locks = false) : ∀ (n : Nat) (h : HS) (H : Heap) (locs : List Loc) (ls : Array Slot) (v0 : Nat) (v3 : Int32) (v4 : Int32), X11_far_l25 N n h v0 v3 v4 = some z → WD G s h H locs → sh v0 = 11 → lv_has ls 5 [(0, .ref (ad G v0)), (3, .int v3), (4, .int v4)] → W p l e ({ frames := 6, cells := 0, slots := 0, locals := 133 } : Room) s m args below meth c H locs 0 0 (MQ below (QC G (some (.int z.1)) z.2) args s 0 0 (AD G)) (F0 m 25 ls []) := by
  intro n
  induction n with
  | zero =>
    intro h H locs ls v0 v3 v4 hf
    cases hf
  | succ n ih =>
    intro h H locs ls v0 v3 v4 hf w t_v0 hl
    unfold X11_far_l25 at hf
    refine lv_iload E.1 E.2.1 dX11_far_25 (lv_at hl 2 rfl) ?_
    refine lv_aload_n E.1 E.2.1 dX11_far_27 rfl (lv_at hl 0 rfl) ?_
    refine q_gi E w t_v0 fl_RX11_188 dX11_far_28 ?_
    refine lv_icmp_ge (tgt := 73) E.1 E.2.1 dX11_far_31 (by decide) (fun c6 => ?_) (fun c6 => ?_)
    · have hf := q_pos c6 hf
      refine lv_iload_n E.1 E.2.1 dX11_far_73 rfl (lv_at hl 1 rfl) ?_
      have hf := Option.some.inj hf
      subst hf
      exact q_iret E w hr hlk dX11_far_74
    · have hf := q_neg c6 hf
      refine lv_iload_n E.1 E.2.1 dX11_far_34 rfl (lv_at hl 1 rfl) ?_
      refine lv_aload_n E.1 E.2.1 dX11_far_35 rfl (lv_at hl 0 rfl) ?_
      refine lv_iload E.1 E.2.1 dX11_far_36 (lv_at hl 2 rfl) ?_
      obtain ⟨r8, hc7, hf⟩ := bd1_e hf
      refine k_Vi (As := [.int v4]) (rest := [.int v3]) E w t_v0 ⟨by decide, rfl⟩ (X11_noteOf_c t_v0 hc7) mv_RX11_194 rfl rfl hl.1 ⟨Nat.le_of_ble_eq_true rfl, Nat.le_of_ble_eq_true rfl⟩ (Nat.le_of_ble_eq_true rfl) ⟨Nat.le_refl _, Nat.le_refl _⟩ dX11_far_38 (fun H locs w => ?_)
      refine lv_if_le (tgt := 64) E.1 E.2.1 dX11_far_41 (by decide) (fun c10 => ?_) (fun c10 => ?_)
      · have hf := q_pos c10 hf
        refine lv_iconst (v := 0) E.1 E.2.1 dX11_far_64 rfl ?_
        refine lv_ior E.1 E.2.1 dX11_far_65 ?_
        refine lv_istore_n (lv' := [(3, .int (v3 ||| 0)), (0, .ref (ad G v0)), (4, .int v4)]) E.1 E.2.1 dX11_far_66 rfl hl (by decide) rfl (fun ls hl => ?_)
        refine lv_iinc (v := v4 + 1) (lv' := [(4, .int (v4 + 1)), (3, .int (v3 ||| 0)), (0, .ref (ad G v0))]) E.1 E.2.1 dX11_far_67 hl (k := 2) rfl rfl (by decide) rfl (fun ls hl => ?_)
        refine lv_goto (tgt := 25) E.1 E.2.1 dX11_far_70 (by decide) ?_
        exact ih _ _ _ _ _ _ _ hf w t_v0 (lv_sub hl [2, 1, 0] rfl)
      · have hf := q_neg c10 hf
        refine lv_aload_n E.1 E.2.1 dX11_far_44 rfl (lv_at hl 0 rfl) ?_
        refine lv_aload_n E.1 E.2.1 dX11_far_45 rfl (lv_at hl 0 rfl) ?_
        refine lv_iload E.1 E.2.1 dX11_far_46 (lv_at hl 2 rfl) ?_
        obtain ⟨r12, hc11, hf⟩ := bd1_e hf
        refine k_Vi (As := [.int v4]) (rest := [.ref (ad G v0), .int v3]) E w t_v0 ⟨by decide, rfl⟩ (X11_noteOf_c t_v0 hc11) mv_RX11_194 rfl rfl hl.1 ⟨Nat.le_of_ble_eq_true rfl, Nat.le_of_ble_eq_true rfl⟩ (Nat.le_of_ble_eq_true rfl) ⟨Nat.le_refl _, Nat.le_refl _⟩ dX11_far_48 (fun H locs w => ?_)
        obtain ⟨r15, hc14, hf⟩ := bd1_e hf
        refine k_Vi (As := [.int r12]) (rest := [.int v3]) E w t_v0 ⟨by decide, rfl⟩ (X11_isReached_c t_v0 hc14) mv_RX11_261 rfl rfl hl.1 ⟨Nat.le_of_ble_eq_true rfl, Nat.le_of_ble_eq_true rfl⟩ (Nat.le_of_ble_eq_true rfl) ⟨Nat.le_refl _, Nat.le_refl _⟩ dX11_far_51 (fun H locs w => ?_)
        refine lv_if_ne (tgt := 64) E.1 E.2.1 dX11_far_54 (by decide) (fun c17 => ?_) (fun c17 => ?_)
        · have hf := q_neg c17 hf
          refine lv_iconst (v := 0) E.1 E.2.1 dX11_far_64 rfl ?_
          refine lv_ior E.1 E.2.1 dX11_far_65 ?_
          refine lv_istore_n (lv' := [(3, .int (v3 ||| 0)), (0, .ref (ad G v0)), (4, .int v4)]) E.1 E.2.1 dX11_far_66 rfl hl (by decide) rfl (fun ls hl => ?_)
          refine lv_iinc (v := v4 + 1) (lv' := [(4, .int (v4 + 1)), (3, .int (v3 ||| 0)), (0, .ref (ad G v0))]) E.1 E.2.1 dX11_far_67 hl (k := 2) rfl rfl (by decide) rfl (fun ls hl => ?_)
          refine lv_goto (tgt := 25) E.1 E.2.1 dX11_far_70 (by decide) ?_
          exact ih _ _ _ _ _ _ _ hf w t_v0 (lv_sub hl [2, 1, 0] rfl)
        · have hf := q_pos c17 hf
          refine lv_iconst (v := 1) E.1 E.2.1 dX11_far_57 rfl ?_
          refine lv_iload E.1 E.2.1 dX11_far_58 (lv_at hl 2 rfl) ?_
          refine lv_ishl E.1 E.2.1 dX11_far_60 ?_
          refine lv_goto (tgt := 65) E.1 E.2.1 dX11_far_61 (by decide) ?_
          refine lv_ior E.1 E.2.1 dX11_far_65 ?_
          refine lv_istore_n (lv' := [(3, .int (v3 ||| ((1 : Int32) <<< (v4 &&& 31)))), (0, .ref (ad G v0)), (4, .int v4)]) E.1 E.2.1 dX11_far_66 rfl hl (by decide) rfl (fun ls hl => ?_)
          refine lv_iinc (v := v4 + 1) (lv' := [(4, .int (v4 + 1)), (3, .int (v3 ||| ((1 : Int32) <<< (v4 &&& 31)))), (0, .ref (ad G v0))]) E.1 E.2.1 dX11_far_67 hl (k := 2) rfl rfl (by decide) rfl (fun ls hl => ?_)
          refine lv_goto (tgt := 25) E.1 E.2.1 dX11_far_70 (by decide) ?_
          exact ih _ _ _ _ _ _ _ hf w t_v0 (lv_sub hl [2, 1, 0] rfl)

def X11_far (N : Nat) (h : HS) (v0 : Nat) (v1 : Int32) (v2 : Int32) : Option (Int32 × HS) := bd2 (X11_isHouse N h v0 v1) fun r2 h3 => (if r2 = 0 then some ((-1), h3) else (if v2 = 0 then bd2 (X11_farBy N h3 v0 0) fun r19 h20 => some (r19, h20) else X11_far_l25 N N h3 v0 0 0))
set_option maxRecDepth 4000 in
set_option maxHeartbeats 2000000 in
theorem X11_far_c {l : Launch} {G : GT} {N : Nat} {h : HS} {v0 : Nat} {v1 : Int32} {v2 : Int32} {z : (Int32 × HS)} (t_v0 : sh v0 = 11) (hf : X11_far N h v0 v1 v2 = some z) : CT l G yX11_far cX11_far 5 (some .int) 6 133 [.ref (ad G v0), .int v1, .int v2] h (some (.int z.1)) z.2 := by
  unfold X11_far at hf
  refine CT.of (by decide) (Nat.le_of_ble_eq_true rfl) ?_
  intro p e s m below meth c ls E hr hlk w hl
  have hl : lv_has ls 5 [(0, .ref (ad G v0)), (1, .int v1), (2, .int v2)] := hl
  refine lv_aload_n E.1 E.2.1 dX11_far_0 rfl (lv_at hl 0 rfl) ?_
  refine lv_iload_n E.1 E.2.1 dX11_far_1 rfl (lv_at hl 1 rfl) ?_
  obtain ⟨r2, h3, hc1, hf⟩ := bd2_e hf
  refine k_Vi (As := [.int v1]) (rest := []) E w t_v0 ⟨by decide, rfl⟩ (X11_isHouse_c t_v0 hc1) mv_RX11_197 rfl rfl hl.1 ⟨Nat.le_of_ble_eq_true rfl, Nat.le_of_ble_eq_true rfl⟩ (Nat.le_of_ble_eq_true rfl) ⟨Nat.le_refl _, Nat.le_refl _⟩ dX11_far_2 (fun H locs w => ?_)
  refine lv_if_ne (tgt := 10) E.1 E.2.1 dX11_far_5 (by decide) (fun c4 => ?_) (fun c4 => ?_)
  · have hf := q_neg c4 hf
    refine lv_iload_n E.1 E.2.1 dX11_far_10 rfl (lv_at hl 2 rfl) ?_
    refine lv_if_ne (tgt := 20) E.1 E.2.1 dX11_far_11 (by decide) (fun c5 => ?_) (fun c5 => ?_)
    · have hf := q_neg c5 hf
      refine lv_iconst (v := 0) E.1 E.2.1 dX11_far_20 rfl ?_
      refine lv_istore_n (lv' := [(3, .int 0), (0, .ref (ad G v0)), (1, .int v1), (2, .int v2)]) E.1 E.2.1 dX11_far_21 rfl hl (by decide) rfl (fun ls hl => ?_)
      refine lv_iconst (v := 0) E.1 E.2.1 dX11_far_22 rfl ?_
      refine lv_istore (lv' := [(4, .int 0), (3, .int 0), (0, .ref (ad G v0)), (1, .int v1), (2, .int v2)]) E.1 E.2.1 dX11_far_23 hl (by decide) rfl (fun ls hl => ?_)
      exact X11_far_l25_w E hr hlk N _ _ _ _ _ _ _ hf w t_v0 (lv_sub hl [2, 1, 0] rfl)
    · have hf := q_pos c5 hf
      refine lv_aload_n E.1 E.2.1 dX11_far_14 rfl (lv_at hl 0 rfl) ?_
      refine lv_iconst (v := 0) E.1 E.2.1 dX11_far_15 rfl ?_
      obtain ⟨r19, h20, hc18, hf⟩ := bd2_e hf
      refine k_Vi (As := [.int 0]) (rest := []) E w t_v0 ⟨by decide, rfl⟩ (X11_farBy_c t_v0 hc18) mv_RX11_258 rfl rfl hl.1 ⟨Nat.le_of_ble_eq_true rfl, Nat.le_of_ble_eq_true rfl⟩ (Nat.le_of_ble_eq_true rfl) ⟨Nat.le_refl _, Nat.le_refl _⟩ dX11_far_16 (fun H locs w => ?_)
      have hf := Option.some.inj hf
      subst hf
      exact q_iret E w hr hlk dX11_far_19
  · have hf := q_pos c4 hf
    refine lv_iconst (v := (-1)) E.1 E.2.1 dX11_far_8 rfl ?_
    have hf := Option.some.inj hf
    subst hf
    exact q_iret E w hr hlk dX11_far_9

def X11_sung_l40 (N : Nat) : Nat → HS → Nat → Int32 → Int32 → Int32 → Int32 → Option (Int32 × HS)
  | 0, _, _, _, _, _, _ => none
  | n + 1, h, v0, v2, v3, v4, v5 => (if (h.1 v0 20) ≤ v5 then (if v3 = 0 then some (v4, h) else bd1 (X11_breathOf N h v0 v2) fun r19 => (if v2 < 0 ∨ 6 ≤ v2.toNatClampNeg then none else some (r19 - (h.1 (v0 + 6) v2.toNatClampNeg), h))) else (if v5 < 0 ∨ 8 ≤ v5.toNatClampNeg then none else (if (h.1 (v0 + 5) v5.toNatClampNeg) = v2 then X11_sung_l40 N n h v0 v2 v3 (v4 + 1) (v5 + 1) else X11_sung_l40 N n h v0 v2 v3 (v4 + 0) (v5 + 1))))
set_option maxRecDepth 4000 in
set_option maxHeartbeats 2000000 in
theorem X11_sung_l40_w {p : Program} {l : Launch} {e : Env} {s : State} {m : MethodId} {args : Array Value} {below : List Frame} {meth : Method} {c : Code} {G : GT} {N : Nat} {z : (Int32 × HS)} (E : CallFix p m c cX11_sung 6 s args UW RX11) (hr : meth.sig.returnType = (some .int)) (hlk : meth.locks = false) : ∀ (n : Nat) (h : HS) (H : Heap) (locs : List Loc) (ls : Array Slot) (v0 : Nat) (v2 : Int32) (v3 : Int32) (v4 : Int32) (v5 : Int32), X11_sung_l40 N n h v0 v2 v3 v4 v5 = some z → WD G s h H locs → sh v0 = 11 → lv_has ls 6 [(0, .ref (ad G v0)), (2, .int v2), (3, .int v3), (4, .int v4), (5, .int v5)] → W p l e ({ frames := 5, cells := 0, slots := 0, locals := 111 } : Room) s m args below meth c H locs 0 0 (MQ below (QC G (some (.int z.1)) z.2) args s 0 0 (AD G)) (F0 m 40 ls []) := by
  intro n
  induction n with
  | zero =>
    intro h H locs ls v0 v2 v3 v4 v5 hf
    cases hf
  | succ n ih =>
    intro h H locs ls v0 v2 v3 v4 v5 hf w t_v0 hl
    unfold X11_sung_l40 at hf
    refine lv_iload E.1 E.2.1 dX11_sung_40 (lv_at hl 4 rfl) ?_
    refine lv_aload_n E.1 E.2.1 dX11_sung_42 rfl (lv_at hl 0 rfl) ?_
    refine q_gi E w t_v0 fl_RX11_215 dX11_sung_43 ?_
    refine lv_icmp_ge (tgt := 76) E.1 E.2.1 dX11_sung_46 (by decide) (fun c16 => ?_) (fun c16 => ?_)
    · have hf := q_pos c16 hf
      refine lv_iload_n E.1 E.2.1 dX11_sung_76 rfl (lv_at hl 2 rfl) ?_
      refine lv_if_eq (tgt := 95) E.1 E.2.1 dX11_sung_77 (by decide) (fun c17 => ?_) (fun c17 => ?_)
      · have hf := q_pos c17 hf
        refine lv_iload E.1 E.2.1 dX11_sung_95 (lv_at hl 3 rfl) ?_
        have hf := Option.some.inj hf
        subst hf
        exact q_iret E w hr hlk dX11_sung_97
      · have hf := q_neg c17 hf
        refine lv_aload_n E.1 E.2.1 dX11_sung_80 rfl (lv_at hl 0 rfl) ?_
        refine lv_iload_n E.1 E.2.1 dX11_sung_81 rfl (lv_at hl 1 rfl) ?_
        obtain ⟨r19, hc18, hf⟩ := bd1_e hf
        refine k_Vi (As := [.int v2]) (rest := []) E w t_v0 ⟨by decide, rfl⟩ (X11_breathOf_c t_v0 hc18) mv_RX11_218 rfl rfl hl.1 ⟨Nat.le_of_ble_eq_true rfl, Nat.le_of_ble_eq_true rfl⟩ (Nat.le_of_ble_eq_true rfl) ⟨Nat.le_refl _, Nat.le_refl _⟩ dX11_sung_82 (fun H locs w => ?_)
        refine lv_aload_n E.1 E.2.1 dX11_sung_85 rfl (lv_at hl 0 rfl) ?_
        refine q_gs E w 6 t_v0 fl_RX11_26 dX11_sung_86 ?_
        refine lv_iload_n E.1 E.2.1 dX11_sung_89 rfl (lv_at hl 1 rfl) ?_
        obtain ⟨b21, hf⟩ := q_if hf
        refine q_iald E w ((lay_11_18 t_v0).1) ((lay_11_18 t_v0).2) b21 dX11_sung_90 ?_
        refine lv_isub E.1 E.2.1 dX11_sung_91 ?_
        refine lv_goto (tgt := 97) E.1 E.2.1 dX11_sung_92 (by decide) ?_
        have hf := Option.some.inj hf
        subst hf
        exact q_iret E w hr hlk dX11_sung_97
    · have hf := q_neg c16 hf
      refine lv_iload E.1 E.2.1 dX11_sung_49 (lv_at hl 3 rfl) ?_
      refine lv_aload_n E.1 E.2.1 dX11_sung_51 rfl (lv_at hl 0 rfl) ?_
      refine q_gs E w 5 t_v0 fl_RX11_23 dX11_sung_52 ?_
      refine lv_iload E.1 E.2.1 dX11_sung_55 (lv_at hl 4 rfl) ?_
      obtain ⟨b22, hf⟩ := q_if hf
      refine q_iald E w ((lay_11_17 t_v0).1) ((lay_11_17 t_v0).2) b22 dX11_sung_57 ?_
      refine lv_iload_n E.1 E.2.1 dX11_sung_58 rfl (lv_at hl 1 rfl) ?_
      refine lv_icmp_ne (tgt := 66) E.1 E.2.1 dX11_sung_59 (by decide) (fun c23 => ?_) (fun c23 => ?_)
      · have hf := q_neg c23 hf
        refine lv_iconst (v := 0) E.1 E.2.1 dX11_sung_66 rfl ?_
        refine lv_iadd E.1 E.2.1 dX11_sung_67 ?_
        refine lv_istore (lv' := [(4, .int (v4 + 0)), (0, .ref (ad G v0)), (2, .int v2), (3, .int v3), (5, .int v5)]) E.1 E.2.1 dX11_sung_68 hl (by decide) rfl (fun ls hl => ?_)
        refine lv_iinc (v := v5 + 1) (lv' := [(5, .int (v5 + 1)), (4, .int (v4 + 0)), (0, .ref (ad G v0)), (2, .int v2), (3, .int v3)]) E.1 E.2.1 dX11_sung_70 hl (k := 4) rfl rfl (by decide) rfl (fun ls hl => ?_)
        refine lv_goto (tgt := 40) E.1 E.2.1 dX11_sung_73 (by decide) ?_
        exact ih _ _ _ _ _ _ _ _ _ hf w t_v0 (lv_sub hl [2, 3, 4, 1, 0] rfl)
      · have hf := q_pos c23 hf
        refine lv_iconst (v := 1) E.1 E.2.1 dX11_sung_62 rfl ?_
        refine lv_goto (tgt := 67) E.1 E.2.1 dX11_sung_63 (by decide) ?_
        refine lv_iadd E.1 E.2.1 dX11_sung_67 ?_
        refine lv_istore (lv' := [(4, .int (v4 + 1)), (0, .ref (ad G v0)), (2, .int v2), (3, .int v3), (5, .int v5)]) E.1 E.2.1 dX11_sung_68 hl (by decide) rfl (fun ls hl => ?_)
        refine lv_iinc (v := v5 + 1) (lv' := [(5, .int (v5 + 1)), (4, .int (v4 + 1)), (0, .ref (ad G v0)), (2, .int v2), (3, .int v3)]) E.1 E.2.1 dX11_sung_70 hl (k := 4) rfl rfl (by decide) rfl (fun ls hl => ?_)
        refine lv_goto (tgt := 40) E.1 E.2.1 dX11_sung_73 (by decide) ?_
        exact ih _ _ _ _ _ _ _ _ _ hf w t_v0 (lv_sub hl [2, 3, 4, 1, 0] rfl)

def X11_sung (N : Nat) (h : HS) (v0 : Nat) (v1 : Int32) (v2 : Int32) (v3 : Int32) : Option (Int32 × HS) := bd2 (X11_isHouse N h v0 v1) fun r2 h3 => (if r2 = 0 then some ((-1), h3) else bd1 (X11_isSinger N h3 v0 v2) fun r6 => (if r6 = 0 then some ((-1), h3) else bd1 (X11_everybody N h3 v0) fun r10 => bd2 (X11_isRota N h3 v0 (h3.1 v0 14) r10 0) fun r13 h14 => (if r13 = 0 then some ((-1), h14) else X11_sung_l40 N N h14 v0 v2 v3 0 0)))
set_option maxRecDepth 4000 in
set_option maxHeartbeats 2000000 in
theorem X11_sung_c {l : Launch} {G : GT} {N : Nat} {h : HS} {v0 : Nat} {v1 : Int32} {v2 : Int32} {v3 : Int32} {z : (Int32 × HS)} (t_v0 : sh v0 = 11) (hf : X11_sung N h v0 v1 v2 v3 = some z) : CT l G yX11_sung cX11_sung 6 (some .int) 5 111 [.ref (ad G v0), .int v1, .int v2, .int v3] h (some (.int z.1)) z.2 := by
  unfold X11_sung at hf
  refine CT.of (by decide) (Nat.le_of_ble_eq_true rfl) ?_
  intro p e s m below meth c ls E hr hlk w hl
  have hl : lv_has ls 6 [(0, .ref (ad G v0)), (1, .int v1), (2, .int v2), (3, .int v3)] := hl
  refine lv_aload_n E.1 E.2.1 dX11_sung_0 rfl (lv_at hl 0 rfl) ?_
  refine lv_iload_n E.1 E.2.1 dX11_sung_1 rfl (lv_at hl 1 rfl) ?_
  obtain ⟨r2, h3, hc1, hf⟩ := bd2_e hf
  refine k_Vi (As := [.int v1]) (rest := []) E w t_v0 ⟨by decide, rfl⟩ (X11_isHouse_c t_v0 hc1) mv_RX11_197 rfl rfl hl.1 ⟨Nat.le_of_ble_eq_true rfl, Nat.le_of_ble_eq_true rfl⟩ (Nat.le_of_ble_eq_true rfl) ⟨Nat.le_refl _, Nat.le_refl _⟩ dX11_sung_2 (fun H locs w => ?_)
  refine lv_if_eq (tgt := 32) E.1 E.2.1 dX11_sung_5 (by decide) (fun c4 => ?_) (fun c4 => ?_)
  · have hf := q_pos c4 hf
    refine lv_iconst (v := (-1)) E.1 E.2.1 dX11_sung_32 rfl ?_
    have hf := Option.some.inj hf
    subst hf
    exact q_iret E w hr hlk dX11_sung_33
  · have hf := q_neg c4 hf
    refine lv_aload_n E.1 E.2.1 dX11_sung_8 rfl (lv_at hl 0 rfl) ?_
    refine lv_iload_n E.1 E.2.1 dX11_sung_9 rfl (lv_at hl 2 rfl) ?_
    obtain ⟨r6, hc5, hf⟩ := bd1_e hf
    refine k_Vi (As := [.int v2]) (rest := []) E w t_v0 ⟨by decide, rfl⟩ (X11_isSinger_c t_v0 hc5) mv_RX11_212 rfl rfl hl.1 ⟨Nat.le_of_ble_eq_true rfl, Nat.le_of_ble_eq_true rfl⟩ (Nat.le_of_ble_eq_true rfl) ⟨Nat.le_refl _, Nat.le_refl _⟩ dX11_sung_10 (fun H locs w => ?_)
    refine lv_if_eq (tgt := 32) E.1 E.2.1 dX11_sung_13 (by decide) (fun c8 => ?_) (fun c8 => ?_)
    · have hf := q_pos c8 hf
      refine lv_iconst (v := (-1)) E.1 E.2.1 dX11_sung_32 rfl ?_
      have hf := Option.some.inj hf
      subst hf
      exact q_iret E w hr hlk dX11_sung_33
    · have hf := q_neg c8 hf
      refine lv_aload_n E.1 E.2.1 dX11_sung_16 rfl (lv_at hl 0 rfl) ?_
      refine lv_aload_n E.1 E.2.1 dX11_sung_17 rfl (lv_at hl 0 rfl) ?_
      refine q_gi E w t_v0 fl_RX11_188 dX11_sung_18 ?_
      refine lv_aload_n E.1 E.2.1 dX11_sung_21 rfl (lv_at hl 0 rfl) ?_
      obtain ⟨r10, hc9, hf⟩ := bd1_e hf
      refine k_Vi (As := []) (rest := [.int (h3.1 v0 14), .ref (ad G v0)]) E w t_v0 ⟨by decide, rfl⟩ (X11_everybody_c t_v0 hc9) mv_RX11_245 rfl rfl hl.1 ⟨Nat.le_of_ble_eq_true rfl, Nat.le_of_ble_eq_true rfl⟩ (Nat.le_of_ble_eq_true rfl) ⟨Nat.le_refl _, Nat.le_refl _⟩ dX11_sung_22 (fun H locs w => ?_)
      refine lv_iconst (v := 0) E.1 E.2.1 dX11_sung_25 rfl ?_
      obtain ⟨r13, h14, hc12, hf⟩ := bd2_e hf
      refine k_Vi (As := [.int (h3.1 v0 14), .int r10, .int 0]) (rest := []) E w t_v0 ⟨by decide, rfl⟩ (X11_isRota_c t_v0 hc12) mv_RX11_249 rfl rfl hl.1 ⟨Nat.le_of_ble_eq_true rfl, Nat.le_of_ble_eq_true rfl⟩ (Nat.le_of_ble_eq_true rfl) ⟨Nat.le_refl _, Nat.le_refl _⟩ dX11_sung_26 (fun H locs w => ?_)
      refine lv_if_ne (tgt := 34) E.1 E.2.1 dX11_sung_29 (by decide) (fun c15 => ?_) (fun c15 => ?_)
      · have hf := q_neg c15 hf
        refine lv_iconst (v := 0) E.1 E.2.1 dX11_sung_34 rfl ?_
        refine lv_istore (lv' := [(4, .int 0), (0, .ref (ad G v0)), (1, .int v1), (2, .int v2), (3, .int v3)]) E.1 E.2.1 dX11_sung_35 hl (by decide) rfl (fun ls hl => ?_)
        refine lv_iconst (v := 0) E.1 E.2.1 dX11_sung_37 rfl ?_
        refine lv_istore (lv' := [(5, .int 0), (4, .int 0), (0, .ref (ad G v0)), (1, .int v1), (2, .int v2), (3, .int v3)]) E.1 E.2.1 dX11_sung_38 hl (by decide) rfl (fun ls hl => ?_)
        exact X11_sung_l40_w E hr hlk N _ _ _ _ _ _ _ _ _ hf w t_v0 (lv_sub hl [2, 4, 5, 1, 0] rfl)
      · have hf := q_pos c15 hf
        refine lv_iconst (v := (-1)) E.1 E.2.1 dX11_sung_32 rfl ?_
        have hf := Option.some.inj hf
        subst hf
        exact q_iret E w hr hlk dX11_sung_33

def X11_spareOf_l4 (N : Nat) : Nat → HS → Nat → Int32 → Int32 → Option (Int32 × HS)
  | 0, _, _, _, _ => none
  | n + 1, h, v0, v1, v2 => (if (h.1 v0 15) ≤ v2 then bd1 (X11_everybody N h v0) fun r3 => bd2 (X11_isRota N h v0 (h.1 v0 14) r3 0) fun r6 h7 => (if r6 = 0 then some (0, h7) else some (v1, h7)) else bd1 (X11_everybody N h v0) fun r10 => bd2 (X11_isRota N h v0 (h.1 v0 14) (r10 &&& (((1 : Int32) <<< (v2 &&& 31)) ^^^ (-1))) 0) fun r13 h14 => (if r13 = 0 then X11_spareOf_l4 N n h14 v0 (v1 ||| 0) (v2 + 1) else X11_spareOf_l4 N n h14 v0 (v1 ||| ((1 : Int32) <<< (v2 &&& 31))) (v2 + 1)))
set_option maxRecDepth 4000 in
set_option maxHeartbeats 2000000 in
theorem X11_spareOf_l4_w {p : Program} {l : Launch} {e : Env} {s : State} {m : MethodId} {args : Array Value} {below : List Frame} {meth : Method} {c : Code} {G : GT} {N : Nat} {z : (Int32 × HS)} (E : CallFix p m c cX11_spareOf 3 s args UW RX11) (hr : meth.sig.returnType = (some .int)) (hlk : meth.locks = false) : ∀ (n : Nat) (h : HS) (H : Heap) (locs : List Loc) (ls : Array Slot) (v0 : Nat) (v1 : Int32) (v2 : Int32), X11_spareOf_l4 N n h v0 v1 v2 = some z → WD G s h H locs → sh v0 = 11 → lv_has ls 3 [(0, .ref (ad G v0)), (1, .int v1), (2, .int v2)] → W p l e ({ frames := 5, cells := 0, slots := 0, locals := 111 } : Room) s m args below meth c H locs 0 0 (MQ below (QC G (some (.int z.1)) z.2) args s 0 0 (AD G)) (F0 m 4 ls []) := by
  intro n
  induction n with
  | zero =>
    intro h H locs ls v0 v1 v2 hf
    cases hf
  | succ n ih =>
    intro h H locs ls v0 v1 v2 hf w t_v0 hl
    unfold X11_spareOf_l4 at hf
    refine lv_iload_n E.1 E.2.1 dX11_spareOf_4 rfl (lv_at hl 2 rfl) ?_
    refine lv_aload_n E.1 E.2.1 dX11_spareOf_5 rfl (lv_at hl 0 rfl) ?_
    refine q_gi E w t_v0 fl_RX11_191 dX11_spareOf_6 ?_
    refine lv_icmp_ge (tgt := 50) E.1 E.2.1 dX11_spareOf_9 (by decide) (fun c1 => ?_) (fun c1 => ?_)
    · have hf := q_pos c1 hf
      refine lv_aload_n E.1 E.2.1 dX11_spareOf_50 rfl (lv_at hl 0 rfl) ?_
      refine lv_aload_n E.1 E.2.1 dX11_spareOf_51 rfl (lv_at hl 0 rfl) ?_
      refine q_gi E w t_v0 fl_RX11_188 dX11_spareOf_52 ?_
      refine lv_aload_n E.1 E.2.1 dX11_spareOf_55 rfl (lv_at hl 0 rfl) ?_
      obtain ⟨r3, hc2, hf⟩ := bd1_e hf
      refine k_Vi (As := []) (rest := [.int (h.1 v0 14), .ref (ad G v0)]) E w t_v0 ⟨by decide, rfl⟩ (X11_everybody_c t_v0 hc2) mv_RX11_245 rfl rfl hl.1 ⟨Nat.le_of_ble_eq_true rfl, Nat.le_of_ble_eq_true rfl⟩ (Nat.le_of_ble_eq_true rfl) ⟨Nat.le_refl _, Nat.le_refl _⟩ dX11_spareOf_56 (fun H locs w => ?_)
      refine lv_iconst (v := 0) E.1 E.2.1 dX11_spareOf_59 rfl ?_
      obtain ⟨r6, h7, hc5, hf⟩ := bd2_e hf
      refine k_Vi (As := [.int (h.1 v0 14), .int r3, .int 0]) (rest := []) E w t_v0 ⟨by decide, rfl⟩ (X11_isRota_c t_v0 hc5) mv_RX11_249 rfl rfl hl.1 ⟨Nat.le_of_ble_eq_true rfl, Nat.le_of_ble_eq_true rfl⟩ (Nat.le_of_ble_eq_true rfl) ⟨Nat.le_refl _, Nat.le_refl _⟩ dX11_spareOf_60 (fun H locs w => ?_)
      refine lv_if_eq (tgt := 70) E.1 E.2.1 dX11_spareOf_63 (by decide) (fun c8 => ?_) (fun c8 => ?_)
      · have hf := q_pos c8 hf
        refine lv_iconst (v := 0) E.1 E.2.1 dX11_spareOf_70 rfl ?_
        have hf := Option.some.inj hf
        subst hf
        exact q_iret E w hr hlk dX11_spareOf_71
      · have hf := q_neg c8 hf
        refine lv_iload_n E.1 E.2.1 dX11_spareOf_66 rfl (lv_at hl 1 rfl) ?_
        refine lv_goto (tgt := 71) E.1 E.2.1 dX11_spareOf_67 (by decide) ?_
        have hf := Option.some.inj hf
        subst hf
        exact q_iret E w hr hlk dX11_spareOf_71
    · have hf := q_neg c1 hf
      refine lv_iload_n E.1 E.2.1 dX11_spareOf_12 rfl (lv_at hl 1 rfl) ?_
      refine lv_aload_n E.1 E.2.1 dX11_spareOf_13 rfl (lv_at hl 0 rfl) ?_
      refine lv_aload_n E.1 E.2.1 dX11_spareOf_14 rfl (lv_at hl 0 rfl) ?_
      refine q_gi E w t_v0 fl_RX11_188 dX11_spareOf_15 ?_
      refine lv_aload_n E.1 E.2.1 dX11_spareOf_18 rfl (lv_at hl 0 rfl) ?_
      obtain ⟨r10, hc9, hf⟩ := bd1_e hf
      refine k_Vi (As := []) (rest := [.int (h.1 v0 14), .ref (ad G v0), .int v1]) E w t_v0 ⟨by decide, rfl⟩ (X11_everybody_c t_v0 hc9) mv_RX11_245 rfl rfl hl.1 ⟨Nat.le_of_ble_eq_true rfl, Nat.le_of_ble_eq_true rfl⟩ (Nat.le_of_ble_eq_true rfl) ⟨Nat.le_refl _, Nat.le_refl _⟩ dX11_spareOf_19 (fun H locs w => ?_)
      refine lv_iconst (v := 1) E.1 E.2.1 dX11_spareOf_22 rfl ?_
      refine lv_iload_n E.1 E.2.1 dX11_spareOf_23 rfl (lv_at hl 2 rfl) ?_
      refine lv_ishl E.1 E.2.1 dX11_spareOf_24 ?_
      refine lv_iconst (v := (-1)) E.1 E.2.1 dX11_spareOf_25 rfl ?_
      refine lv_ixor E.1 E.2.1 dX11_spareOf_26 ?_
      refine lv_iand E.1 E.2.1 dX11_spareOf_27 ?_
      refine lv_iconst (v := 0) E.1 E.2.1 dX11_spareOf_28 rfl ?_
      obtain ⟨r13, h14, hc12, hf⟩ := bd2_e hf
      refine k_Vi (As := [.int (h.1 v0 14), .int (r10 &&& (((1 : Int32) <<< (v2 &&& 31)) ^^^ (-1))), .int 0]) (rest := [.int v1]) E w t_v0 ⟨by decide, rfl⟩ (X11_isRota_c t_v0 hc12) mv_RX11_249 rfl rfl hl.1 ⟨Nat.le_of_ble_eq_true rfl, Nat.le_of_ble_eq_true rfl⟩ (Nat.le_of_ble_eq_true rfl) ⟨Nat.le_refl _, Nat.le_refl _⟩ dX11_spareOf_29 (fun H locs w => ?_)
      refine lv_if_eq (tgt := 41) E.1 E.2.1 dX11_spareOf_32 (by decide) (fun c15 => ?_) (fun c15 => ?_)
      · have hf := q_pos c15 hf
        refine lv_iconst (v := 0) E.1 E.2.1 dX11_spareOf_41 rfl ?_
        refine lv_ior E.1 E.2.1 dX11_spareOf_42 ?_
        refine lv_istore_n (lv' := [(1, .int (v1 ||| 0)), (0, .ref (ad G v0)), (2, .int v2)]) E.1 E.2.1 dX11_spareOf_43 rfl hl (by decide) rfl (fun ls hl => ?_)
        refine lv_iinc (v := v2 + 1) (lv' := [(2, .int (v2 + 1)), (1, .int (v1 ||| 0)), (0, .ref (ad G v0))]) E.1 E.2.1 dX11_spareOf_44 hl (k := 2) rfl rfl (by decide) rfl (fun ls hl => ?_)
        refine lv_goto (tgt := 4) E.1 E.2.1 dX11_spareOf_47 (by decide) ?_
        exact ih _ _ _ _ _ _ _ hf w t_v0 (lv_sub hl [2, 1, 0] rfl)
      · have hf := q_neg c15 hf
        refine lv_iconst (v := 1) E.1 E.2.1 dX11_spareOf_35 rfl ?_
        refine lv_iload_n E.1 E.2.1 dX11_spareOf_36 rfl (lv_at hl 2 rfl) ?_
        refine lv_ishl E.1 E.2.1 dX11_spareOf_37 ?_
        refine lv_goto (tgt := 42) E.1 E.2.1 dX11_spareOf_38 (by decide) ?_
        refine lv_ior E.1 E.2.1 dX11_spareOf_42 ?_
        refine lv_istore_n (lv' := [(1, .int (v1 ||| ((1 : Int32) <<< (v2 &&& 31)))), (0, .ref (ad G v0)), (2, .int v2)]) E.1 E.2.1 dX11_spareOf_43 rfl hl (by decide) rfl (fun ls hl => ?_)
        refine lv_iinc (v := v2 + 1) (lv' := [(2, .int (v2 + 1)), (1, .int (v1 ||| ((1 : Int32) <<< (v2 &&& 31)))), (0, .ref (ad G v0))]) E.1 E.2.1 dX11_spareOf_44 hl (k := 2) rfl rfl (by decide) rfl (fun ls hl => ?_)
        refine lv_goto (tgt := 4) E.1 E.2.1 dX11_spareOf_47 (by decide) ?_
        exact ih _ _ _ _ _ _ _ hf w t_v0 (lv_sub hl [2, 1, 0] rfl)

def X11_spareOf (N : Nat) (h : HS) (v0 : Nat) : Option (Int32 × HS) := X11_spareOf_l4 N N h v0 0 0
set_option maxRecDepth 4000 in
set_option maxHeartbeats 2000000 in
theorem X11_spareOf_c {l : Launch} {G : GT} {N : Nat} {h : HS} {v0 : Nat} {z : (Int32 × HS)} (t_v0 : sh v0 = 11) (hf : X11_spareOf N h v0 = some z) : CT l G yX11_spareOf cX11_spareOf 3 (some .int) 5 111 [.ref (ad G v0)] h (some (.int z.1)) z.2 := by
  unfold X11_spareOf at hf
  refine CT.of (by decide) (Nat.le_of_ble_eq_true rfl) ?_
  intro p e s m below meth c ls E hr hlk w hl
  have hl : lv_has ls 3 [(0, .ref (ad G v0))] := hl
  refine lv_iconst (v := 0) E.1 E.2.1 dX11_spareOf_0 rfl ?_
  refine lv_istore_n (lv' := [(1, .int 0), (0, .ref (ad G v0))]) E.1 E.2.1 dX11_spareOf_1 rfl hl (by decide) rfl (fun ls hl => ?_)
  refine lv_iconst (v := 0) E.1 E.2.1 dX11_spareOf_2 rfl ?_
  refine lv_istore_n (lv' := [(2, .int 0), (1, .int 0), (0, .ref (ad G v0))]) E.1 E.2.1 dX11_spareOf_3 rfl hl (by decide) rfl (fun ls hl => ?_)
  exact X11_spareOf_l4_w E hr hlk N _ _ _ _ _ _ _ hf w t_v0 (lv_sub hl [2, 1, 0] rfl)

def X11_rotasOf_l15 (N : Nat) : Nat → HS → Nat → Int32 → Option (Int32 × HS)
  | 0, _, _, _ => none
  | n + 1, h, v0, v1 => (if (999999 : Int32) ≤ v1 then some (v1, h) else bd2 (X11_goesOn N h v0) fun r9 h10 => (if r9 = 0 then some (v1, h10) else X11_rotasOf_l15 N n h10 v0 (v1 + 1)))
set_option maxRecDepth 4000 in
set_option maxHeartbeats 2000000 in
theorem X11_rotasOf_l15_w {p : Program} {l : Launch} {e : Env} {s : State} {m : MethodId} {args : Array Value} {below : List Frame} {meth : Method} {c : Code} {G : GT} {N : Nat} {z : (Int32 × HS)} (E : CallFix p m c cX11_rotasOf 2 s args UW RX11) (hr : meth.sig.returnType = (some .int)) (hlk : meth.locks = false) : ∀ (n : Nat) (h : HS) (H : Heap) (locs : List Loc) (ls : Array Slot) (v0 : Nat) (v1 : Int32), X11_rotasOf_l15 N n h v0 v1 = some z → WD G s h H locs → sh v0 = 11 → lv_has ls 2 [(0, .ref (ad G v0)), (1, .int v1)] → W p l e ({ frames := 4, cells := 0, slots := 0, locals := 88 } : Room) s m args below meth c H locs 0 0 (MQ below (QC G (some (.int z.1)) z.2) args s 0 0 (AD G)) (F0 m 15 ls []) := by
  intro n
  induction n with
  | zero =>
    intro h H locs ls v0 v1 hf
    cases hf
  | succ n ih =>
    intro h H locs ls v0 v1 hf w t_v0 hl
    unfold X11_rotasOf_l15 at hf
    refine lv_iload_n E.1 E.2.1 dX11_rotasOf_15 rfl (lv_at hl 1 rfl) ?_
    refine lv_ldcw (v := 999999) E.1 E.2.1 E.2.2.2.1 (E.2.2.2.2 _ ct_RX11_264) dX11_rotasOf_16 ?_
    refine lv_icmp_ge (tgt := 35) E.1 E.2.1 dX11_rotasOf_19 (by decide) (fun c7 => ?_) (fun c7 => ?_)
    · have hf := q_pos c7 hf
      refine lv_iload_n E.1 E.2.1 dX11_rotasOf_35 rfl (lv_at hl 1 rfl) ?_
      have hf := Option.some.inj hf
      subst hf
      exact q_iret E w hr hlk dX11_rotasOf_36
    · have hf := q_neg c7 hf
      refine lv_aload_n E.1 E.2.1 dX11_rotasOf_22 rfl (lv_at hl 0 rfl) ?_
      obtain ⟨r9, h10, hc8, hf⟩ := bd2_e hf
      refine k_Vi (As := []) (rest := []) E w t_v0 ⟨by decide, rfl⟩ (X11_goesOn_c t_v0 hc8) mv_RX11_241 rfl rfl hl.1 ⟨Nat.le_of_ble_eq_true rfl, Nat.le_of_ble_eq_true rfl⟩ (Nat.le_of_ble_eq_true rfl) ⟨Nat.le_refl _, Nat.le_refl _⟩ dX11_rotasOf_23 (fun H locs w => ?_)
      refine lv_if_eq (tgt := 35) E.1 E.2.1 dX11_rotasOf_26 (by decide) (fun c11 => ?_) (fun c11 => ?_)
      · have hf := q_pos c11 hf
        refine lv_iload_n E.1 E.2.1 dX11_rotasOf_35 rfl (lv_at hl 1 rfl) ?_
        have hf := Option.some.inj hf
        subst hf
        exact q_iret E w hr hlk dX11_rotasOf_36
      · have hf := q_neg c11 hf
        refine lv_iinc (v := v1 + 1) (lv' := [(1, .int (v1 + 1)), (0, .ref (ad G v0))]) E.1 E.2.1 dX11_rotasOf_29 hl (k := 1) rfl rfl (by decide) rfl (fun ls hl => ?_)
        refine lv_goto (tgt := 15) E.1 E.2.1 dX11_rotasOf_32 (by decide) ?_
        exact ih _ _ _ _ _ _ hf w t_v0 (lv_sub hl [1, 0] rfl)

def X11_rotasOf (N : Nat) (h : HS) (v0 : Nat) : Option (Int32 × HS) := bd1 (X11_everybody N h v0) fun r2 => bd1 (X11_laysRows N h v0 (h.1 v0 14) r2 0) fun h6 => X11_rotasOf_l15 N N h6 v0 0
set_option maxRecDepth 4000 in
set_option maxHeartbeats 2000000 in
theorem X11_rotasOf_c {l : Launch} {G : GT} {N : Nat} {h : HS} {v0 : Nat} {z : (Int32 × HS)} (t_v0 : sh v0 = 11) (hf : X11_rotasOf N h v0 = some z) : CT l G yX11_rotasOf cX11_rotasOf 2 (some .int) 4 88 [.ref (ad G v0)] h (some (.int z.1)) z.2 := by
  unfold X11_rotasOf at hf
  refine CT.of (by decide) (Nat.le_of_ble_eq_true rfl) ?_
  intro p e s m below meth c ls E hr hlk w hl
  have hl : lv_has ls 2 [(0, .ref (ad G v0))] := hl
  refine lv_iconst (v := 0) E.1 E.2.1 dX11_rotasOf_0 rfl ?_
  refine lv_istore_n (lv' := [(1, .int 0), (0, .ref (ad G v0))]) E.1 E.2.1 dX11_rotasOf_1 rfl hl (by decide) rfl (fun ls hl => ?_)
  refine lv_aload_n E.1 E.2.1 dX11_rotasOf_2 rfl (lv_at hl 1 rfl) ?_
  refine lv_aload_n E.1 E.2.1 dX11_rotasOf_3 rfl (lv_at hl 1 rfl) ?_
  refine q_gi E w t_v0 fl_RX11_188 dX11_rotasOf_4 ?_
  refine lv_aload_n E.1 E.2.1 dX11_rotasOf_7 rfl (lv_at hl 1 rfl) ?_
  obtain ⟨r2, hc1, hf⟩ := bd1_e hf
  refine k_Vi (As := []) (rest := [.int (h.1 v0 14), .ref (ad G v0)]) E w t_v0 ⟨by decide, rfl⟩ (X11_everybody_c t_v0 hc1) mv_RX11_245 rfl rfl hl.1 ⟨Nat.le_of_ble_eq_true rfl, Nat.le_of_ble_eq_true rfl⟩ (Nat.le_of_ble_eq_true rfl) ⟨Nat.le_refl _, Nat.le_refl _⟩ dX11_rotasOf_8 (fun H locs w => ?_)
  refine lv_iconst (v := 0) E.1 E.2.1 dX11_rotasOf_11 rfl ?_
  obtain ⟨h6, hc4, hf⟩ := bd1_e hf
  refine k_Vv (As := [.int (h.1 v0 14), .int r2, .int 0]) (rest := []) E w t_v0 ⟨by decide, rfl⟩ (X11_laysRows_c t_v0 hc4) mv_RX11_237 rfl rfl hl.1 ⟨Nat.le_of_ble_eq_true rfl, Nat.le_of_ble_eq_true rfl⟩ (Nat.le_of_ble_eq_true rfl) ⟨Nat.le_refl _, Nat.le_refl _⟩ dX11_rotasOf_12 (fun H locs w => ?_)
  exact X11_rotasOf_l15_w E hr hlk N _ _ _ _ _ _ hf w t_v0 (lv_sub hl [1, 0] rfl)

def X11_cureOf_l2 (N : Nat) : Nat → HS → Nat → Int32 → Option (Int32 × HS)
  | 0, _, _, _ => none
  | n + 1, h, v0, v1 => (if (21 : Int32) ≤ v1 then (if (21 : Int32) ≤ v1 then some ((-1), h) else some (v1, h)) else bd1 (X11_everybody N h v0) fun r4 => bd2 (X11_isRota N h v0 (h.1 v0 14) r4 v1) fun r7 h8 => (if r7 = 0 then X11_cureOf_l2 N n h8 v0 (v1 + 1) else (if (21 : Int32) ≤ v1 then some ((-1), h8) else some (v1, h8))))
set_option maxRecDepth 4000 in
set_option maxHeartbeats 2000000 in
theorem X11_cureOf_l2_w {p : Program} {l : Launch} {e : Env} {s : State} {m : MethodId} {args : Array Value} {below : List Frame} {meth : Method} {c : Code} {G : GT} {N : Nat} {z : (Int32 × HS)} (E : CallFix p m c cX11_cureOf 2 s args UW RX11) (hr : meth.sig.returnType = (some .int)) (hlk : meth.locks = false) : ∀ (n : Nat) (h : HS) (H : Heap) (locs : List Loc) (ls : Array Slot) (v0 : Nat) (v1 : Int32), X11_cureOf_l2 N n h v0 v1 = some z → WD G s h H locs → sh v0 = 11 → lv_has ls 2 [(0, .ref (ad G v0)), (1, .int v1)] → W p l e ({ frames := 5, cells := 0, slots := 0, locals := 111 } : Room) s m args below meth c H locs 0 0 (MQ below (QC G (some (.int z.1)) z.2) args s 0 0 (AD G)) (F0 m 2 ls []) := by
  intro n
  induction n with
  | zero =>
    intro h H locs ls v0 v1 hf
    cases hf
  | succ n ih =>
    intro h H locs ls v0 v1 hf w t_v0 hl
    unfold X11_cureOf_l2 at hf
    refine lv_iload_n E.1 E.2.1 dX11_cureOf_2 rfl (lv_at hl 1 rfl) ?_
    refine lv_bipush (v := 21) E.1 E.2.1 dX11_cureOf_3 rfl ?_
    refine lv_icmp_ge (tgt := 30) E.1 E.2.1 dX11_cureOf_5 (by decide) (fun c1 => ?_) (fun c1 => ?_)
    · have hf := q_pos c1 hf
      refine lv_iload_n E.1 E.2.1 dX11_cureOf_30 rfl (lv_at hl 1 rfl) ?_
      refine lv_bipush (v := 21) E.1 E.2.1 dX11_cureOf_31 rfl ?_
      refine lv_icmp_ge (tgt := 40) E.1 E.2.1 dX11_cureOf_33 (by decide) (fun c2 => ?_) (fun c2 => ?_)
      · have hf := q_pos c2 hf
        refine lv_iconst (v := (-1)) E.1 E.2.1 dX11_cureOf_40 rfl ?_
        have hf := Option.some.inj hf
        subst hf
        exact q_iret E w hr hlk dX11_cureOf_41
      · have hf := q_neg c2 hf
        refine lv_iload_n E.1 E.2.1 dX11_cureOf_36 rfl (lv_at hl 1 rfl) ?_
        refine lv_goto (tgt := 41) E.1 E.2.1 dX11_cureOf_37 (by decide) ?_
        have hf := Option.some.inj hf
        subst hf
        exact q_iret E w hr hlk dX11_cureOf_41
    · have hf := q_neg c1 hf
      refine lv_aload_n E.1 E.2.1 dX11_cureOf_8 rfl (lv_at hl 0 rfl) ?_
      refine lv_aload_n E.1 E.2.1 dX11_cureOf_9 rfl (lv_at hl 0 rfl) ?_
      refine q_gi E w t_v0 fl_RX11_188 dX11_cureOf_10 ?_
      refine lv_aload_n E.1 E.2.1 dX11_cureOf_13 rfl (lv_at hl 0 rfl) ?_
      obtain ⟨r4, hc3, hf⟩ := bd1_e hf
      refine k_Vi (As := []) (rest := [.int (h.1 v0 14), .ref (ad G v0)]) E w t_v0 ⟨by decide, rfl⟩ (X11_everybody_c t_v0 hc3) mv_RX11_245 rfl rfl hl.1 ⟨Nat.le_of_ble_eq_true rfl, Nat.le_of_ble_eq_true rfl⟩ (Nat.le_of_ble_eq_true rfl) ⟨Nat.le_refl _, Nat.le_refl _⟩ dX11_cureOf_14 (fun H locs w => ?_)
      refine lv_iload_n E.1 E.2.1 dX11_cureOf_17 rfl (lv_at hl 1 rfl) ?_
      obtain ⟨r7, h8, hc6, hf⟩ := bd2_e hf
      refine k_Vi (As := [.int (h.1 v0 14), .int r4, .int v1]) (rest := []) E w t_v0 ⟨by decide, rfl⟩ (X11_isRota_c t_v0 hc6) mv_RX11_249 rfl rfl hl.1 ⟨Nat.le_of_ble_eq_true rfl, Nat.le_of_ble_eq_true rfl⟩ (Nat.le_of_ble_eq_true rfl) ⟨Nat.le_refl _, Nat.le_refl _⟩ dX11_cureOf_18 (fun H locs w => ?_)
      refine lv_if_ne (tgt := 30) E.1 E.2.1 dX11_cureOf_21 (by decide) (fun c9 => ?_) (fun c9 => ?_)
      · have hf := q_neg c9 hf
        refine lv_iload_n E.1 E.2.1 dX11_cureOf_30 rfl (lv_at hl 1 rfl) ?_
        refine lv_bipush (v := 21) E.1 E.2.1 dX11_cureOf_31 rfl ?_
        refine lv_icmp_ge (tgt := 40) E.1 E.2.1 dX11_cureOf_33 (by decide) (fun c10 => ?_) (fun c10 => ?_)
        · have hf := q_pos c10 hf
          refine lv_iconst (v := (-1)) E.1 E.2.1 dX11_cureOf_40 rfl ?_
          have hf := Option.some.inj hf
          subst hf
          exact q_iret E w hr hlk dX11_cureOf_41
        · have hf := q_neg c10 hf
          refine lv_iload_n E.1 E.2.1 dX11_cureOf_36 rfl (lv_at hl 1 rfl) ?_
          refine lv_goto (tgt := 41) E.1 E.2.1 dX11_cureOf_37 (by decide) ?_
          have hf := Option.some.inj hf
          subst hf
          exact q_iret E w hr hlk dX11_cureOf_41
      · have hf := q_pos c9 hf
        refine lv_iinc (v := v1 + 1) (lv' := [(1, .int (v1 + 1)), (0, .ref (ad G v0))]) E.1 E.2.1 dX11_cureOf_24 hl (k := 1) rfl rfl (by decide) rfl (fun ls hl => ?_)
        refine lv_goto (tgt := 2) E.1 E.2.1 dX11_cureOf_27 (by decide) ?_
        exact ih _ _ _ _ _ _ hf w t_v0 (lv_sub hl [1, 0] rfl)

def X11_cureOf (N : Nat) (h : HS) (v0 : Nat) : Option (Int32 × HS) := X11_cureOf_l2 N N h v0 0
set_option maxRecDepth 4000 in
set_option maxHeartbeats 2000000 in
theorem X11_cureOf_c {l : Launch} {G : GT} {N : Nat} {h : HS} {v0 : Nat} {z : (Int32 × HS)} (t_v0 : sh v0 = 11) (hf : X11_cureOf N h v0 = some z) : CT l G yX11_cureOf cX11_cureOf 2 (some .int) 5 111 [.ref (ad G v0)] h (some (.int z.1)) z.2 := by
  unfold X11_cureOf at hf
  refine CT.of (by decide) (Nat.le_of_ble_eq_true rfl) ?_
  intro p e s m below meth c ls E hr hlk w hl
  have hl : lv_has ls 2 [(0, .ref (ad G v0))] := hl
  refine lv_iconst (v := 0) E.1 E.2.1 dX11_cureOf_0 rfl ?_
  refine lv_istore_n (lv' := [(1, .int 0), (0, .ref (ad G v0))]) E.1 E.2.1 dX11_cureOf_1 rfl hl (by decide) rfl (fun ls hl => ?_)
  exact X11_cureOf_l2_w E hr hlk N _ _ _ _ _ _ hf w t_v0 (lv_sub hl [1, 0] rfl)

def X11_dreamsBy_l22 (N : Nat) : Nat → HS → Nat → Int32 → Int32 → Int32 → Option (Int32 × HS)
  | 0, _, _, _, _, _ => none
  | n + 1, h, v0, v1, v2, v3 => (if (h.1 v0 20) ≤ v3 then some (v2, h) else (if v3 < 0 ∨ 8 ≤ v3.toNatClampNeg then none else (if (h.1 (v0 + 5) v3.toNatClampNeg) = v1 then (if v3 < 0 ∨ 8 ≤ v3.toNatClampNeg then none else bd1 (X11_noteOf N h v0 (h.1 (v0 + 4) v3.toNatClampNeg)) fun r13 => bd1 (X11_reaches N h v0 v1 r13 2) fun r16 => (if r16 = 0 then (if v3 < 0 ∨ 8 ≤ v3.toNatClampNeg then none else bd1 (X11_floorOf N h v0 (h.1 (v0 + 4) v3.toNatClampNeg)) fun r21 => X11_dreamsBy_l22 N n h v0 v1 (v2 ||| ((1 : Int32) <<< (r21 &&& 31))) (v3 + 1)) else X11_dreamsBy_l22 N n h v0 v1 (v2 ||| 0) (v3 + 1))) else X11_dreamsBy_l22 N n h v0 v1 (v2 ||| 0) (v3 + 1))))
set_option maxRecDepth 4000 in
set_option maxHeartbeats 2000000 in
theorem X11_dreamsBy_l22_w {p : Program} {l : Launch} {e : Env} {s : State} {m : MethodId} {args : Array Value} {below : List Frame} {meth : Method} {c : Code} {G : GT} {N : Nat} {z : (Int32 × HS)} (E : CallFix p m c cX11_dreamsBy 4 s args UW RX11) (hr : meth.sig.returnType = (some .int)) (hlk : meth.locks = false) : ∀ (n : Nat) (h : HS) (H : Heap) (locs : List Loc) (ls : Array Slot) (v0 : Nat) (v1 : Int32) (v2 : Int32) (v3 : Int32), X11_dreamsBy_l22 N n h v0 v1 v2 v3 = some z → WD G s h H locs → sh v0 = 11 → lv_has ls 4 [(0, .ref (ad G v0)), (1, .int v1), (2, .int v2), (3, .int v3)] → W p l e ({ frames := 5, cells := 0, slots := 0, locals := 111 } : Room) s m args below meth c H locs 0 0 (MQ below (QC G (some (.int z.1)) z.2) args s 0 0 (AD G)) (F0 m 22 ls []) := by
  intro n
  induction n with
  | zero =>
    intro h H locs ls v0 v1 v2 v3 hf
    cases hf
  | succ n ih =>
    intro h H locs ls v0 v1 v2 v3 hf w t_v0 hl
    unfold X11_dreamsBy_l22 at hf
    refine lv_iload_n E.1 E.2.1 dX11_dreamsBy_22 rfl (lv_at hl 3 rfl) ?_
    refine lv_aload_n E.1 E.2.1 dX11_dreamsBy_23 rfl (lv_at hl 0 rfl) ?_
    refine q_gi E w t_v0 fl_RX11_215 dX11_dreamsBy_24 ?_
    refine lv_icmp_ge (tgt := 84) E.1 E.2.1 dX11_dreamsBy_27 (by decide) (fun c8 => ?_) (fun c8 => ?_)
    · have hf := q_pos c8 hf
      refine lv_iload_n E.1 E.2.1 dX11_dreamsBy_84 rfl (lv_at hl 2 rfl) ?_
      have hf := Option.some.inj hf
      subst hf
      exact q_iret E w hr hlk dX11_dreamsBy_85
    · have hf := q_neg c8 hf
      refine lv_iload_n E.1 E.2.1 dX11_dreamsBy_30 rfl (lv_at hl 2 rfl) ?_
      refine lv_aload_n E.1 E.2.1 dX11_dreamsBy_31 rfl (lv_at hl 0 rfl) ?_
      refine q_gs E w 5 t_v0 fl_RX11_23 dX11_dreamsBy_32 ?_
      refine lv_iload_n E.1 E.2.1 dX11_dreamsBy_35 rfl (lv_at hl 3 rfl) ?_
      obtain ⟨b9, hf⟩ := q_if hf
      refine q_iald E w ((lay_11_17 t_v0).1) ((lay_11_17 t_v0).2) b9 dX11_dreamsBy_36 ?_
      refine lv_iload_n E.1 E.2.1 dX11_dreamsBy_37 rfl (lv_at hl 1 rfl) ?_
      refine lv_icmp_ne (tgt := 75) E.1 E.2.1 dX11_dreamsBy_38 (by decide) (fun c10 => ?_) (fun c10 => ?_)
      · have hf := q_neg c10 hf
        refine lv_iconst (v := 0) E.1 E.2.1 dX11_dreamsBy_75 rfl ?_
        refine lv_ior E.1 E.2.1 dX11_dreamsBy_76 ?_
        refine lv_istore_n (lv' := [(2, .int (v2 ||| 0)), (0, .ref (ad G v0)), (1, .int v1), (3, .int v3)]) E.1 E.2.1 dX11_dreamsBy_77 rfl hl (by decide) rfl (fun ls hl => ?_)
        refine lv_iinc (v := v3 + 1) (lv' := [(3, .int (v3 + 1)), (2, .int (v2 ||| 0)), (0, .ref (ad G v0)), (1, .int v1)]) E.1 E.2.1 dX11_dreamsBy_78 hl (k := 3) rfl rfl (by decide) rfl (fun ls hl => ?_)
        refine lv_goto (tgt := 22) E.1 E.2.1 dX11_dreamsBy_81 (by decide) ?_
        exact ih _ _ _ _ _ _ _ _ hf w t_v0 (lv_sub hl [2, 3, 1, 0] rfl)
      · have hf := q_pos c10 hf
        refine lv_aload_n E.1 E.2.1 dX11_dreamsBy_41 rfl (lv_at hl 0 rfl) ?_
        refine lv_iload_n E.1 E.2.1 dX11_dreamsBy_42 rfl (lv_at hl 1 rfl) ?_
        refine lv_aload_n E.1 E.2.1 dX11_dreamsBy_43 rfl (lv_at hl 0 rfl) ?_
        refine lv_aload_n E.1 E.2.1 dX11_dreamsBy_44 rfl (lv_at hl 0 rfl) ?_
        refine q_gs E w 4 t_v0 fl_RX11_20 dX11_dreamsBy_45 ?_
        refine lv_iload_n E.1 E.2.1 dX11_dreamsBy_48 rfl (lv_at hl 3 rfl) ?_
        obtain ⟨b11, hf⟩ := q_if hf
        refine q_iald E w ((lay_11_16 t_v0).1) ((lay_11_16 t_v0).2) b11 dX11_dreamsBy_49 ?_
        obtain ⟨r13, hc12, hf⟩ := bd1_e hf
        refine k_Vi (As := [.int (h.1 (v0 + 4) v3.toNatClampNeg)]) (rest := [.int v1, .ref (ad G v0), .int v2]) E w t_v0 ⟨by decide, rfl⟩ (X11_noteOf_c t_v0 hc12) mv_RX11_194 rfl rfl hl.1 ⟨Nat.le_of_ble_eq_true rfl, Nat.le_of_ble_eq_true rfl⟩ (Nat.le_of_ble_eq_true rfl) ⟨Nat.le_refl _, Nat.le_refl _⟩ dX11_dreamsBy_50 (fun H locs w => ?_)
        refine lv_iconst (v := 2) E.1 E.2.1 dX11_dreamsBy_53 rfl ?_
        obtain ⟨r16, hc15, hf⟩ := bd1_e hf
        refine k_Vi (As := [.int v1, .int r13, .int 2]) (rest := [.int v2]) E w t_v0 ⟨by decide, rfl⟩ (X11_reaches_c t_v0 hc15) mv_RX11_228 rfl rfl hl.1 ⟨Nat.le_of_ble_eq_true rfl, Nat.le_of_ble_eq_true rfl⟩ (Nat.le_of_ble_eq_true rfl) ⟨Nat.le_refl _, Nat.le_refl _⟩ dX11_dreamsBy_54 (fun H locs w => ?_)
        refine lv_if_ne (tgt := 75) E.1 E.2.1 dX11_dreamsBy_57 (by decide) (fun c18 => ?_) (fun c18 => ?_)
        · have hf := q_neg c18 hf
          refine lv_iconst (v := 0) E.1 E.2.1 dX11_dreamsBy_75 rfl ?_
          refine lv_ior E.1 E.2.1 dX11_dreamsBy_76 ?_
          refine lv_istore_n (lv' := [(2, .int (v2 ||| 0)), (0, .ref (ad G v0)), (1, .int v1), (3, .int v3)]) E.1 E.2.1 dX11_dreamsBy_77 rfl hl (by decide) rfl (fun ls hl => ?_)
          refine lv_iinc (v := v3 + 1) (lv' := [(3, .int (v3 + 1)), (2, .int (v2 ||| 0)), (0, .ref (ad G v0)), (1, .int v1)]) E.1 E.2.1 dX11_dreamsBy_78 hl (k := 3) rfl rfl (by decide) rfl (fun ls hl => ?_)
          refine lv_goto (tgt := 22) E.1 E.2.1 dX11_dreamsBy_81 (by decide) ?_
          exact ih _ _ _ _ _ _ _ _ hf w t_v0 (lv_sub hl [2, 3, 1, 0] rfl)
        · have hf := q_pos c18 hf
          refine lv_iconst (v := 1) E.1 E.2.1 dX11_dreamsBy_60 rfl ?_
          refine lv_aload_n E.1 E.2.1 dX11_dreamsBy_61 rfl (lv_at hl 0 rfl) ?_
          refine lv_aload_n E.1 E.2.1 dX11_dreamsBy_62 rfl (lv_at hl 0 rfl) ?_
          refine q_gs E w 4 t_v0 fl_RX11_20 dX11_dreamsBy_63 ?_
          refine lv_iload_n E.1 E.2.1 dX11_dreamsBy_66 rfl (lv_at hl 3 rfl) ?_
          obtain ⟨b19, hf⟩ := q_if hf
          refine q_iald E w ((lay_11_16 t_v0).1) ((lay_11_16 t_v0).2) b19 dX11_dreamsBy_67 ?_
          obtain ⟨r21, hc20, hf⟩ := bd1_e hf
          refine k_Vi (As := [.int (h.1 (v0 + 4) v3.toNatClampNeg)]) (rest := [.int 1, .int v2]) E w t_v0 ⟨by decide, rfl⟩ (X11_floorOf_c t_v0 hc20) mv_RX11_265 rfl rfl hl.1 ⟨Nat.le_of_ble_eq_true rfl, Nat.le_of_ble_eq_true rfl⟩ (Nat.le_of_ble_eq_true rfl) ⟨Nat.le_refl _, Nat.le_refl _⟩ dX11_dreamsBy_68 (fun H locs w => ?_)
          refine lv_ishl E.1 E.2.1 dX11_dreamsBy_71 ?_
          refine lv_goto (tgt := 76) E.1 E.2.1 dX11_dreamsBy_72 (by decide) ?_
          refine lv_ior E.1 E.2.1 dX11_dreamsBy_76 ?_
          refine lv_istore_n (lv' := [(2, .int (v2 ||| ((1 : Int32) <<< (r21 &&& 31)))), (0, .ref (ad G v0)), (1, .int v1), (3, .int v3)]) E.1 E.2.1 dX11_dreamsBy_77 rfl hl (by decide) rfl (fun ls hl => ?_)
          refine lv_iinc (v := v3 + 1) (lv' := [(3, .int (v3 + 1)), (2, .int (v2 ||| ((1 : Int32) <<< (r21 &&& 31)))), (0, .ref (ad G v0)), (1, .int v1)]) E.1 E.2.1 dX11_dreamsBy_78 hl (k := 3) rfl rfl (by decide) rfl (fun ls hl => ?_)
          refine lv_goto (tgt := 22) E.1 E.2.1 dX11_dreamsBy_81 (by decide) ?_
          exact ih _ _ _ _ _ _ _ _ hf w t_v0 (lv_sub hl [2, 3, 1, 0] rfl)

def X11_dreamsBy (N : Nat) (h : HS) (v0 : Nat) (v1 : Int32) : Option (Int32 × HS) := bd1 (X11_everybody N h v0) fun r2 => bd2 (X11_isRota N h v0 (h.1 v0 14) r2 0) fun r5 h6 => (if r5 = 0 then some ((-1), h6) else X11_dreamsBy_l22 N N h6 v0 v1 0 0)
set_option maxRecDepth 4000 in
set_option maxHeartbeats 2000000 in
theorem X11_dreamsBy_c {l : Launch} {G : GT} {N : Nat} {h : HS} {v0 : Nat} {v1 : Int32} {z : (Int32 × HS)} (t_v0 : sh v0 = 11) (hf : X11_dreamsBy N h v0 v1 = some z) : CT l G yX11_dreamsBy cX11_dreamsBy 4 (some .int) 5 111 [.ref (ad G v0), .int v1] h (some (.int z.1)) z.2 := by
  unfold X11_dreamsBy at hf
  refine CT.of (by decide) (Nat.le_of_ble_eq_true rfl) ?_
  intro p e s m below meth c ls E hr hlk w hl
  have hl : lv_has ls 4 [(0, .ref (ad G v0)), (1, .int v1)] := hl
  refine lv_aload_n E.1 E.2.1 dX11_dreamsBy_0 rfl (lv_at hl 0 rfl) ?_
  refine lv_aload_n E.1 E.2.1 dX11_dreamsBy_1 rfl (lv_at hl 0 rfl) ?_
  refine q_gi E w t_v0 fl_RX11_188 dX11_dreamsBy_2 ?_
  refine lv_aload_n E.1 E.2.1 dX11_dreamsBy_5 rfl (lv_at hl 0 rfl) ?_
  obtain ⟨r2, hc1, hf⟩ := bd1_e hf
  refine k_Vi (As := []) (rest := [.int (h.1 v0 14), .ref (ad G v0)]) E w t_v0 ⟨by decide, rfl⟩ (X11_everybody_c t_v0 hc1) mv_RX11_245 rfl rfl hl.1 ⟨Nat.le_of_ble_eq_true rfl, Nat.le_of_ble_eq_true rfl⟩ (Nat.le_of_ble_eq_true rfl) ⟨Nat.le_refl _, Nat.le_refl _⟩ dX11_dreamsBy_6 (fun H locs w => ?_)
  refine lv_iconst (v := 0) E.1 E.2.1 dX11_dreamsBy_9 rfl ?_
  obtain ⟨r5, h6, hc4, hf⟩ := bd2_e hf
  refine k_Vi (As := [.int (h.1 v0 14), .int r2, .int 0]) (rest := []) E w t_v0 ⟨by decide, rfl⟩ (X11_isRota_c t_v0 hc4) mv_RX11_249 rfl rfl hl.1 ⟨Nat.le_of_ble_eq_true rfl, Nat.le_of_ble_eq_true rfl⟩ (Nat.le_of_ble_eq_true rfl) ⟨Nat.le_refl _, Nat.le_refl _⟩ dX11_dreamsBy_10 (fun H locs w => ?_)
  refine lv_if_ne (tgt := 18) E.1 E.2.1 dX11_dreamsBy_13 (by decide) (fun c7 => ?_) (fun c7 => ?_)
  · have hf := q_neg c7 hf
    refine lv_iconst (v := 0) E.1 E.2.1 dX11_dreamsBy_18 rfl ?_
    refine lv_istore_n (lv' := [(2, .int 0), (0, .ref (ad G v0)), (1, .int v1)]) E.1 E.2.1 dX11_dreamsBy_19 rfl hl (by decide) rfl (fun ls hl => ?_)
    refine lv_iconst (v := 0) E.1 E.2.1 dX11_dreamsBy_20 rfl ?_
    refine lv_istore_n (lv' := [(3, .int 0), (2, .int 0), (0, .ref (ad G v0)), (1, .int v1)]) E.1 E.2.1 dX11_dreamsBy_21 rfl hl (by decide) rfl (fun ls hl => ?_)
    exact X11_dreamsBy_l22_w E hr hlk N _ _ _ _ _ _ _ _ hf w t_v0 (lv_sub hl [2, 3, 1, 0] rfl)
  · have hf := q_pos c7 hf
    refine lv_iconst (v := (-1)) E.1 E.2.1 dX11_dreamsBy_16 rfl ?_
    have hf := Option.some.inj hf
    subst hf
    exact q_iret E w hr hlk dX11_dreamsBy_17

def X11_peopleIn_l4 (N : Nat) (h : HS) : Nat → Nat → Int32 → Int32 → Int32 → Option Int32
  | 0, _, _, _, _ => none
  | n + 1, v0, v1, v2, v3 => (if (h.1 v0 13) ≤ v3 then some v2 else bd1 (X11_peopleOf N h v0 v3) fun r3 => X11_peopleIn_l4 N h n v0 v1 (v2 + (((v1 >>> (v3 &&& 31)) &&& 1) * r3)) (v3 + 1))
set_option maxRecDepth 4000 in
set_option maxHeartbeats 2000000 in
theorem X11_peopleIn_l4_w {p : Program} {l : Launch} {e : Env} {s : State} {m : MethodId} {args : Array Value} {below : List Frame} {meth : Method} {c : Code} {G : GT} {N : Nat} {h : HS} {z : Int32} (E : CallFix p m c cX11_peopleIn 4 s args UW RX11) (hr : meth.sig.returnType = (some .int)) (hlk : meth.locks = false) : ∀ (n : Nat) (H : Heap) (locs : List Loc) (ls : Array Slot) (v0 : Nat) (v1 : Int32) (v2 : Int32) (v3 : Int32), X11_peopleIn_l4 N h n v0 v1 v2 v3 = some z → WD G s h H locs → sh v0 = 11 → lv_has ls 4 [(0, .ref (ad G v0)), (1, .int v1), (2, .int v2), (3, .int v3)] → W p l e ({ frames := 1, cells := 0, slots := 0, locals := 21 } : Room) s m args below meth c H locs 0 0 (MQ below (QC G (some (.int z)) h) args s 0 0 (AD G)) (F0 m 4 ls []) := by
  intro n
  induction n with
  | zero =>
    intro H locs ls v0 v1 v2 v3 hf
    cases hf
  | succ n ih =>
    intro H locs ls v0 v1 v2 v3 hf w t_v0 hl
    unfold X11_peopleIn_l4 at hf
    refine lv_iload_n E.1 E.2.1 dX11_peopleIn_4 rfl (lv_at hl 3 rfl) ?_
    refine lv_aload_n E.1 E.2.1 dX11_peopleIn_5 rfl (lv_at hl 0 rfl) ?_
    refine q_gi E w t_v0 fl_RX11_185 dX11_peopleIn_6 ?_
    refine lv_icmp_ge (tgt := 32) E.1 E.2.1 dX11_peopleIn_9 (by decide) (fun c1 => ?_) (fun c1 => ?_)
    · have hf := q_pos c1 hf
      refine lv_iload_n E.1 E.2.1 dX11_peopleIn_32 rfl (lv_at hl 2 rfl) ?_
      have hf := Option.some.inj hf
      subst hf
      exact q_iret E w hr hlk dX11_peopleIn_33
    · have hf := q_neg c1 hf
      refine lv_iload_n E.1 E.2.1 dX11_peopleIn_12 rfl (lv_at hl 2 rfl) ?_
      refine lv_iload_n E.1 E.2.1 dX11_peopleIn_13 rfl (lv_at hl 1 rfl) ?_
      refine lv_iload_n E.1 E.2.1 dX11_peopleIn_14 rfl (lv_at hl 3 rfl) ?_
      refine lv_ishr E.1 E.2.1 dX11_peopleIn_15 ?_
      refine lv_iconst (v := 1) E.1 E.2.1 dX11_peopleIn_16 rfl ?_
      refine lv_iand E.1 E.2.1 dX11_peopleIn_17 ?_
      refine lv_aload_n E.1 E.2.1 dX11_peopleIn_18 rfl (lv_at hl 0 rfl) ?_
      refine lv_iload_n E.1 E.2.1 dX11_peopleIn_19 rfl (lv_at hl 3 rfl) ?_
      obtain ⟨r3, hc2, hf⟩ := bd1_e hf
      refine k_Vi (As := [.int v3]) (rest := [.int ((v1 >>> (v3 &&& 31)) &&& 1), .int v2]) E w t_v0 ⟨by decide, rfl⟩ (X11_peopleOf_c t_v0 hc2) mv_RX11_206 rfl rfl hl.1 ⟨Nat.le_of_ble_eq_true rfl, Nat.le_of_ble_eq_true rfl⟩ (Nat.le_of_ble_eq_true rfl) ⟨Nat.le_refl _, Nat.le_refl _⟩ dX11_peopleIn_20 (fun H locs w => ?_)
      refine lv_imul E.1 E.2.1 dX11_peopleIn_23 ?_
      refine lv_iadd E.1 E.2.1 dX11_peopleIn_24 ?_
      refine lv_istore_n (lv' := [(2, .int (v2 + (((v1 >>> (v3 &&& 31)) &&& 1) * r3))), (0, .ref (ad G v0)), (1, .int v1), (3, .int v3)]) E.1 E.2.1 dX11_peopleIn_25 rfl hl (by decide) rfl (fun ls hl => ?_)
      refine lv_iinc (v := v3 + 1) (lv' := [(3, .int (v3 + 1)), (2, .int (v2 + (((v1 >>> (v3 &&& 31)) &&& 1) * r3))), (0, .ref (ad G v0)), (1, .int v1)]) E.1 E.2.1 dX11_peopleIn_26 hl (k := 3) rfl rfl (by decide) rfl (fun ls hl => ?_)
      refine lv_goto (tgt := 4) E.1 E.2.1 dX11_peopleIn_29 (by decide) ?_
      exact ih _ _ _ _ _ _ _ hf w t_v0 (lv_sub hl [2, 3, 1, 0] rfl)

def X11_peopleIn (N : Nat) (h : HS) (v0 : Nat) (v1 : Int32) : Option Int32 := X11_peopleIn_l4 N h N v0 v1 0 0
set_option maxRecDepth 4000 in
set_option maxHeartbeats 2000000 in
theorem X11_peopleIn_c {l : Launch} {G : GT} {N : Nat} {h : HS} {v0 : Nat} {v1 : Int32} {z : Int32} (t_v0 : sh v0 = 11) (hf : X11_peopleIn N h v0 v1 = some z) : CT l G yX11_peopleIn cX11_peopleIn 4 (some .int) 1 21 [.ref (ad G v0), .int v1] h (some (.int z)) h := by
  unfold X11_peopleIn at hf
  refine CT.of (by decide) (Nat.le_of_ble_eq_true rfl) ?_
  intro p e s m below meth c ls E hr hlk w hl
  have hl : lv_has ls 4 [(0, .ref (ad G v0)), (1, .int v1)] := hl
  refine lv_iconst (v := 0) E.1 E.2.1 dX11_peopleIn_0 rfl ?_
  refine lv_istore_n (lv' := [(2, .int 0), (0, .ref (ad G v0)), (1, .int v1)]) E.1 E.2.1 dX11_peopleIn_1 rfl hl (by decide) rfl (fun ls hl => ?_)
  refine lv_iconst (v := 0) E.1 E.2.1 dX11_peopleIn_2 rfl ?_
  refine lv_istore_n (lv' := [(3, .int 0), (2, .int 0), (0, .ref (ad G v0)), (1, .int v1)]) E.1 E.2.1 dX11_peopleIn_3 rfl hl (by decide) rfl (fun ls hl => ?_)
  exact X11_peopleIn_l4_w E hr hlk N _ _ _ _ _ _ _ hf w t_v0 (lv_sub hl [2, 3, 1, 0] rfl)

def X11_spare (N : Nat) (h : HS) (v0 : Nat) (v1 : Int32) (v2 : Int32) : Option (Int32 × HS) := bd2 (X11_isHouse N h v0 v1) fun r2 h3 => (if r2 = 0 then some ((-2), h3) else bd1 (X11_isIn N h3 v2 10 19) fun r6 => (if r6 = 0 then bd1 (X11_isIn N h3 v2 20 29) fun r10 => (if r10 = 0 then (if v2 = 0 then bd2 (X11_spareOf N h3 v0) fun r15 h16 => some (r15, h16) else (if v2 = 1 then bd2 (X11_rotasOf N h3 v0) fun r19 h20 => some (r19, h20) else (if v2 = 2 then bd2 (X11_cureOf N h3 v0) fun r23 h24 => some (r23, h24) else some ((-2), h3)))) else bd1 (X11_isSinger N h3 v0 (v2 - 20)) fun r26 => (if r26 = 0 then (if v2 = 0 then bd2 (X11_spareOf N h3 v0) fun r31 h32 => some (r31, h32) else (if v2 = 1 then bd2 (X11_rotasOf N h3 v0) fun r35 h36 => some (r35, h36) else (if v2 = 2 then bd2 (X11_cureOf N h3 v0) fun r39 h40 => some (r39, h40) else some ((-2), h3)))) else bd2 (X11_dreamsBy N h3 v0 (v2 - 20)) fun r42 h43 => (if r42 = ((-1) : Int32) then some ((-1), h43) else bd1 (X11_peopleIn N h43 v0 r42) fun r46 => some (r46, h43)))) else bd2 (X11_farBy N h3 v0 (v2 - 10)) fun r49 h50 => some (r49, h50)))
set_option maxRecDepth 4000 in
set_option maxHeartbeats 2000000 in
theorem X11_spare_c {l : Launch} {G : GT} {N : Nat} {h : HS} {v0 : Nat} {v1 : Int32} {v2 : Int32} {z : (Int32 × HS)} (t_v0 : sh v0 = 11) (hf : X11_spare N h v0 v1 v2 = some z) : CT l G yX11_spare cX11_spare 4 (some .int) 6 134 [.ref (ad G v0), .int v1, .int v2] h (some (.int z.1)) z.2 := by
  unfold X11_spare at hf
  refine CT.of (by decide) (Nat.le_of_ble_eq_true rfl) ?_
  intro p e s m below meth c ls E hr hlk w hl
  have hl : lv_has ls 4 [(0, .ref (ad G v0)), (1, .int v1), (2, .int v2)] := hl
  refine lv_aload_n E.1 E.2.1 dX11_spare_0 rfl (lv_at hl 0 rfl) ?_
  refine lv_iload_n E.1 E.2.1 dX11_spare_1 rfl (lv_at hl 1 rfl) ?_
  obtain ⟨r2, h3, hc1, hf⟩ := bd2_e hf
  refine k_Vi (As := [.int v1]) (rest := []) E w t_v0 ⟨by decide, rfl⟩ (X11_isHouse_c t_v0 hc1) mv_RX11_197 rfl rfl hl.1 ⟨Nat.le_of_ble_eq_true rfl, Nat.le_of_ble_eq_true rfl⟩ (Nat.le_of_ble_eq_true rfl) ⟨Nat.le_refl _, Nat.le_refl _⟩ dX11_spare_2 (fun H locs w => ?_)
  refine lv_if_ne (tgt := 11) E.1 E.2.1 dX11_spare_5 (by decide) (fun c4 => ?_) (fun c4 => ?_)
  · have hf := q_neg c4 hf
    refine lv_iload_n E.1 E.2.1 dX11_spare_11 rfl (lv_at hl 2 rfl) ?_
    refine lv_bipush (v := 10) E.1 E.2.1 dX11_spare_12 rfl ?_
    refine lv_bipush (v := 19) E.1 E.2.1 dX11_spare_14 rfl ?_
    obtain ⟨r6, hc5, hf⟩ := bd1_e hf
    refine k_Si (As := [.int v2, .int 10, .int 19]) (rest := []) E w (X11_isIn_c  hc5) ms_RX11_123 rfl rfl hl.1 ⟨Nat.le_of_ble_eq_true rfl, Nat.le_of_ble_eq_true rfl⟩ (Nat.le_of_ble_eq_true rfl) ⟨Nat.le_refl _, Nat.le_refl _⟩ dX11_spare_16 (fun H locs w => ?_)
    refine lv_if_eq (tgt := 31) E.1 E.2.1 dX11_spare_19 (by decide) (fun c8 => ?_) (fun c8 => ?_)
    · have hf := q_pos c8 hf
      refine lv_iload_n E.1 E.2.1 dX11_spare_31 rfl (lv_at hl 2 rfl) ?_
      refine lv_bipush (v := 20) E.1 E.2.1 dX11_spare_32 rfl ?_
      refine lv_bipush (v := 29) E.1 E.2.1 dX11_spare_34 rfl ?_
      obtain ⟨r10, hc9, hf⟩ := bd1_e hf
      refine k_Si (As := [.int v2, .int 20, .int 29]) (rest := []) E w (X11_isIn_c  hc9) ms_RX11_123 rfl rfl hl.1 ⟨Nat.le_of_ble_eq_true rfl, Nat.le_of_ble_eq_true rfl⟩ (Nat.le_of_ble_eq_true rfl) ⟨Nat.le_refl _, Nat.le_refl _⟩ dX11_spare_36 (fun H locs w => ?_)
      refine lv_if_eq (tgt := 77) E.1 E.2.1 dX11_spare_39 (by decide) (fun c12 => ?_) (fun c12 => ?_)
      · have hf := q_pos c12 hf
        refine lv_iload_n E.1 E.2.1 dX11_spare_77 rfl (lv_at hl 2 rfl) ?_
        by_cases c13 : v2 = 0
        · have hf := q_pos c13 hf
          refine lv_tableIn (off := 26) (tgt := 104) E.1 E.2.1 dX11_spare_78 (by rw [c13]; decide) (by rw [c13]; decide) (by rw [c13]; rfl) (by decide) ?_
          refine lv_aload_n E.1 E.2.1 dX11_spare_104 rfl (lv_at hl 0 rfl) ?_
          obtain ⟨r15, h16, hc14, hf⟩ := bd2_e hf
          refine k_Vi (As := []) (rest := []) E w t_v0 ⟨by decide, rfl⟩ (X11_spareOf_c t_v0 hc14) mv_RX11_274 rfl rfl hl.1 ⟨Nat.le_of_ble_eq_true rfl, Nat.le_of_ble_eq_true rfl⟩ (Nat.le_of_ble_eq_true rfl) ⟨Nat.le_refl _, Nat.le_refl _⟩ dX11_spare_105 (fun H locs w => ?_)
          have hf := Option.some.inj hf
          subst hf
          exact q_iret E w hr hlk dX11_spare_108
        have hf := q_neg c13 hf
        by_cases c17 : v2 = 1
        · have hf := q_pos c17 hf
          refine lv_tableIn (off := 31) (tgt := 109) E.1 E.2.1 dX11_spare_78 (by rw [c17]; decide) (by rw [c17]; decide) (by rw [c17]; rfl) (by decide) ?_
          refine lv_aload_n E.1 E.2.1 dX11_spare_109 rfl (lv_at hl 0 rfl) ?_
          obtain ⟨r19, h20, hc18, hf⟩ := bd2_e hf
          refine k_Vi (As := []) (rest := []) E w t_v0 ⟨by decide, rfl⟩ (X11_rotasOf_c t_v0 hc18) mv_RX11_277 rfl rfl hl.1 ⟨Nat.le_of_ble_eq_true rfl, Nat.le_of_ble_eq_true rfl⟩ (Nat.le_of_ble_eq_true rfl) ⟨Nat.le_refl _, Nat.le_refl _⟩ dX11_spare_110 (fun H locs w => ?_)
          have hf := Option.some.inj hf
          subst hf
          exact q_iret E w hr hlk dX11_spare_113
        have hf := q_neg c17 hf
        by_cases c21 : v2 = 2
        · have hf := q_pos c21 hf
          refine lv_tableIn (off := 36) (tgt := 114) E.1 E.2.1 dX11_spare_78 (by rw [c21]; decide) (by rw [c21]; decide) (by rw [c21]; rfl) (by decide) ?_
          refine lv_aload_n E.1 E.2.1 dX11_spare_114 rfl (lv_at hl 0 rfl) ?_
          obtain ⟨r23, h24, hc22, hf⟩ := bd2_e hf
          refine k_Vi (As := []) (rest := []) E w t_v0 ⟨by decide, rfl⟩ (X11_cureOf_c t_v0 hc22) mv_RX11_280 rfl rfl hl.1 ⟨Nat.le_of_ble_eq_true rfl, Nat.le_of_ble_eq_true rfl⟩ (Nat.le_of_ble_eq_true rfl) ⟨Nat.le_refl _, Nat.le_refl _⟩ dX11_spare_115 (fun H locs w => ?_)
          have hf := Option.some.inj hf
          subst hf
          exact q_iret E w hr hlk dX11_spare_118
        have hf := q_neg c21 hf
        refine lv_tableOut (tgt := 119) E.1 E.2.1 dX11_spare_78 (by have := ne_i c13 (z := 0) (by decide); have := ne_i c17 (z := 1) (by decide); have := ne_i c21 (z := 2) (by decide); omega) (by decide) ?_
        refine lv_bipush (v := (-2)) E.1 E.2.1 dX11_spare_119 rfl ?_
        have hf := Option.some.inj hf
        subst hf
        exact q_iret E w hr hlk dX11_spare_121
      · have hf := q_neg c12 hf
        refine lv_aload_n E.1 E.2.1 dX11_spare_42 rfl (lv_at hl 0 rfl) ?_
        refine lv_iload_n E.1 E.2.1 dX11_spare_43 rfl (lv_at hl 2 rfl) ?_
        refine lv_bipush (v := 20) E.1 E.2.1 dX11_spare_44 rfl ?_
        refine lv_isub E.1 E.2.1 dX11_spare_46 ?_
        obtain ⟨r26, hc25, hf⟩ := bd1_e hf
        refine k_Vi (As := [.int (v2 - 20)]) (rest := []) E w t_v0 ⟨by decide, rfl⟩ (X11_isSinger_c t_v0 hc25) mv_RX11_212 rfl rfl hl.1 ⟨Nat.le_of_ble_eq_true rfl, Nat.le_of_ble_eq_true rfl⟩ (Nat.le_of_ble_eq_true rfl) ⟨Nat.le_refl _, Nat.le_refl _⟩ dX11_spare_47 (fun H locs w => ?_)
        refine lv_if_eq (tgt := 77) E.1 E.2.1 dX11_spare_50 (by decide) (fun c28 => ?_) (fun c28 => ?_)
        · have hf := q_pos c28 hf
          refine lv_iload_n E.1 E.2.1 dX11_spare_77 rfl (lv_at hl 2 rfl) ?_
          by_cases c29 : v2 = 0
          · have hf := q_pos c29 hf
            refine lv_tableIn (off := 26) (tgt := 104) E.1 E.2.1 dX11_spare_78 (by rw [c29]; decide) (by rw [c29]; decide) (by rw [c29]; rfl) (by decide) ?_
            refine lv_aload_n E.1 E.2.1 dX11_spare_104 rfl (lv_at hl 0 rfl) ?_
            obtain ⟨r31, h32, hc30, hf⟩ := bd2_e hf
            refine k_Vi (As := []) (rest := []) E w t_v0 ⟨by decide, rfl⟩ (X11_spareOf_c t_v0 hc30) mv_RX11_274 rfl rfl hl.1 ⟨Nat.le_of_ble_eq_true rfl, Nat.le_of_ble_eq_true rfl⟩ (Nat.le_of_ble_eq_true rfl) ⟨Nat.le_refl _, Nat.le_refl _⟩ dX11_spare_105 (fun H locs w => ?_)
            have hf := Option.some.inj hf
            subst hf
            exact q_iret E w hr hlk dX11_spare_108
          have hf := q_neg c29 hf
          by_cases c33 : v2 = 1
          · have hf := q_pos c33 hf
            refine lv_tableIn (off := 31) (tgt := 109) E.1 E.2.1 dX11_spare_78 (by rw [c33]; decide) (by rw [c33]; decide) (by rw [c33]; rfl) (by decide) ?_
            refine lv_aload_n E.1 E.2.1 dX11_spare_109 rfl (lv_at hl 0 rfl) ?_
            obtain ⟨r35, h36, hc34, hf⟩ := bd2_e hf
            refine k_Vi (As := []) (rest := []) E w t_v0 ⟨by decide, rfl⟩ (X11_rotasOf_c t_v0 hc34) mv_RX11_277 rfl rfl hl.1 ⟨Nat.le_of_ble_eq_true rfl, Nat.le_of_ble_eq_true rfl⟩ (Nat.le_of_ble_eq_true rfl) ⟨Nat.le_refl _, Nat.le_refl _⟩ dX11_spare_110 (fun H locs w => ?_)
            have hf := Option.some.inj hf
            subst hf
            exact q_iret E w hr hlk dX11_spare_113
          have hf := q_neg c33 hf
          by_cases c37 : v2 = 2
          · have hf := q_pos c37 hf
            refine lv_tableIn (off := 36) (tgt := 114) E.1 E.2.1 dX11_spare_78 (by rw [c37]; decide) (by rw [c37]; decide) (by rw [c37]; rfl) (by decide) ?_
            refine lv_aload_n E.1 E.2.1 dX11_spare_114 rfl (lv_at hl 0 rfl) ?_
            obtain ⟨r39, h40, hc38, hf⟩ := bd2_e hf
            refine k_Vi (As := []) (rest := []) E w t_v0 ⟨by decide, rfl⟩ (X11_cureOf_c t_v0 hc38) mv_RX11_280 rfl rfl hl.1 ⟨Nat.le_of_ble_eq_true rfl, Nat.le_of_ble_eq_true rfl⟩ (Nat.le_of_ble_eq_true rfl) ⟨Nat.le_refl _, Nat.le_refl _⟩ dX11_spare_115 (fun H locs w => ?_)
            have hf := Option.some.inj hf
            subst hf
            exact q_iret E w hr hlk dX11_spare_118
          have hf := q_neg c37 hf
          refine lv_tableOut (tgt := 119) E.1 E.2.1 dX11_spare_78 (by have := ne_i c29 (z := 0) (by decide); have := ne_i c33 (z := 1) (by decide); have := ne_i c37 (z := 2) (by decide); omega) (by decide) ?_
          refine lv_bipush (v := (-2)) E.1 E.2.1 dX11_spare_119 rfl ?_
          have hf := Option.some.inj hf
          subst hf
          exact q_iret E w hr hlk dX11_spare_121
        · have hf := q_neg c28 hf
          refine lv_aload_n E.1 E.2.1 dX11_spare_53 rfl (lv_at hl 0 rfl) ?_
          refine lv_iload_n E.1 E.2.1 dX11_spare_54 rfl (lv_at hl 2 rfl) ?_
          refine lv_bipush (v := 20) E.1 E.2.1 dX11_spare_55 rfl ?_
          refine lv_isub E.1 E.2.1 dX11_spare_57 ?_
          obtain ⟨r42, h43, hc41, hf⟩ := bd2_e hf
          refine k_Vi (As := [.int (v2 - 20)]) (rest := []) E w t_v0 ⟨by decide, rfl⟩ (X11_dreamsBy_c t_v0 hc41) mv_RX11_268 rfl rfl hl.1 ⟨Nat.le_of_ble_eq_true rfl, Nat.le_of_ble_eq_true rfl⟩ (Nat.le_of_ble_eq_true rfl) ⟨Nat.le_refl _, Nat.le_refl _⟩ dX11_spare_58 (fun H locs w => ?_)
          refine lv_istore_n (lv' := [(3, .int r42), (0, .ref (ad G v0)), (1, .int v1), (2, .int v2)]) E.1 E.2.1 dX11_spare_61 rfl hl (by decide) rfl (fun ls hl => ?_)
          refine lv_iload_n E.1 E.2.1 dX11_spare_62 rfl (lv_at hl 0 rfl) ?_
          refine lv_iconst (v := (-1)) E.1 E.2.1 dX11_spare_63 rfl ?_
          refine lv_icmp_ne (tgt := 71) E.1 E.2.1 dX11_spare_64 (by decide) (fun c44 => ?_) (fun c44 => ?_)
          · have hf := q_neg c44 hf
            refine lv_aload_n E.1 E.2.1 dX11_spare_71 rfl (lv_at hl 1 rfl) ?_
            refine lv_iload_n E.1 E.2.1 dX11_spare_72 rfl (lv_at hl 0 rfl) ?_
            obtain ⟨r46, hc45, hf⟩ := bd1_e hf
            refine k_Vi (As := [.int r42]) (rest := []) E w t_v0 ⟨by decide, rfl⟩ (X11_peopleIn_c t_v0 hc45) mv_RX11_271 rfl rfl hl.1 ⟨Nat.le_of_ble_eq_true rfl, Nat.le_of_ble_eq_true rfl⟩ (Nat.le_of_ble_eq_true rfl) ⟨Nat.le_refl _, Nat.le_refl _⟩ dX11_spare_73 (fun H locs w => ?_)
            have hf := Option.some.inj hf
            subst hf
            exact q_iret E w hr hlk dX11_spare_76
          · have hf := q_pos c44 hf
            refine lv_iconst (v := (-1)) E.1 E.2.1 dX11_spare_67 rfl ?_
            refine lv_goto (tgt := 76) E.1 E.2.1 dX11_spare_68 (by decide) ?_
            have hf := Option.some.inj hf
            subst hf
            exact q_iret E w hr hlk dX11_spare_76
    · have hf := q_neg c8 hf
      refine lv_aload_n E.1 E.2.1 dX11_spare_22 rfl (lv_at hl 0 rfl) ?_
      refine lv_iload_n E.1 E.2.1 dX11_spare_23 rfl (lv_at hl 2 rfl) ?_
      refine lv_bipush (v := 10) E.1 E.2.1 dX11_spare_24 rfl ?_
      refine lv_isub E.1 E.2.1 dX11_spare_26 ?_
      obtain ⟨r49, h50, hc48, hf⟩ := bd2_e hf
      refine k_Vi (As := [.int (v2 - 10)]) (rest := []) E w t_v0 ⟨by decide, rfl⟩ (X11_farBy_c t_v0 hc48) mv_RX11_258 rfl rfl hl.1 ⟨Nat.le_of_ble_eq_true rfl, Nat.le_of_ble_eq_true rfl⟩ (Nat.le_of_ble_eq_true rfl) ⟨Nat.le_refl _, Nat.le_refl _⟩ dX11_spare_27 (fun H locs w => ?_)
      have hf := Option.some.inj hf
      subst hf
      exact q_iret E w hr hlk dX11_spare_30
  · have hf := q_pos c4 hf
    refine lv_bipush (v := (-2)) E.1 E.2.1 dX11_spare_8 rfl ?_
    have hf := Option.some.inj hf
    subst hf
    exact q_iret E w hr hlk dX11_spare_10

def X11_ease_l108 (N : Nat) (K39 : HS → Nat → Int32 → Int32 → Option (Int32 × HS)) : Nat → HS → Nat → Int32 → Int32 → Int32 → Option (Int32 × HS)
  | 0, _, _, _, _, _ => none
  | n + 1, h, v0, v2, v3, v5 => (if (h.1 v0 14) ≤ v5 then K39 h v0 v2 v3 else bd1 (X11_singerOf N h v0 v5) fun r23 => (if v5 < 0 ∨ 8 ≤ v5.toNatClampNeg then none else sq (wi h (v0 + 8) v5.toNatClampNeg r23) fun h26 => X11_ease_l108 N K39 n h26 v0 v2 v3 (v5 + 1)))
set_option maxRecDepth 4000 in
set_option maxHeartbeats 2000000 in
theorem X11_ease_l108_w {p : Program} {l : Launch} {e : Env} {s : State} {m : MethodId} {args : Array Value} {below : List Frame} {meth : Method} {c : Code} {G : GT} {N : Nat} {z : (Int32 × HS)} (E : CallFix p m c cX11_ease 6 s args UW RX11) (hr : meth.sig.returnType = (some .int)) (hlk : meth.locks = false) {K39 : HS → Nat → Int32 → Int32 → Option (Int32 × HS)} (hK39 : ∀ (h : HS) (H : Heap) (locs : List Loc) (ls : Array Slot) (v0 : Nat) (v2 : Int32) (v3 : Int32), K39 h v0 v2 v3 = some z → WD G s h H locs → sh v0 = 11 → lv_has ls 6 [(0, .ref (ad G v0)), (2, .int v2), (3, .int v3)] → W p l e ({ frames := 4, cells := 0, slots := 0, locals := 88 } : Room) s m args below meth c H locs 0 0 (MQ below (QC G (some (.int z.1)) z.2) args s 0 0 (AD G)) (F0 m 39 ls [])) : ∀ (n : Nat) (h : HS) (H : Heap) (locs : List Loc) (ls : Array Slot) (v0 : Nat) (v2 : Int32) (v3 : Int32) (v5 : Int32), X11_ease_l108 N K39 n h v0 v2 v3 v5 = some z → WD G s h H locs → sh v0 = 11 → lv_has ls 6 [(0, .ref (ad G v0)), (2, .int v2), (3, .int v3), (5, .int v5)] → W p l e ({ frames := 4, cells := 0, slots := 0, locals := 88 } : Room) s m args below meth c H locs 0 0 (MQ below (QC G (some (.int z.1)) z.2) args s 0 0 (AD G)) (F0 m 108 ls []) := by
  intro n
  induction n with
  | zero =>
    intro h H locs ls v0 v2 v3 v5 hf
    cases hf
  | succ n ih =>
    intro h H locs ls v0 v2 v3 v5 hf w t_v0 hl
    unfold X11_ease_l108 at hf
    refine lv_iload E.1 E.2.1 dX11_ease_108 (lv_at hl 3 rfl) ?_
    refine lv_aload_n E.1 E.2.1 dX11_ease_110 rfl (lv_at hl 0 rfl) ?_
    refine q_gi E w t_v0 fl_RX11_188 dX11_ease_111 ?_
    refine lv_icmp_ge (tgt := 136) E.1 E.2.1 dX11_ease_114 (by decide) (fun c21 => ?_) (fun c21 => ?_)
    · have hf := q_pos c21 hf
      refine lv_goto (tgt := 39) E.1 E.2.1 dX11_ease_136 (by decide) ?_
      exact hK39 _ _ _ _ _ _ _ hf w t_v0 (lv_sub hl [0, 1, 2] rfl)
    · have hf := q_neg c21 hf
      refine lv_aload_n E.1 E.2.1 dX11_ease_117 rfl (lv_at hl 0 rfl) ?_
      refine q_gs E w 8 t_v0 fl_RX11_32 dX11_ease_118 ?_
      refine lv_iload E.1 E.2.1 dX11_ease_121 (lv_at hl 3 rfl) ?_
      refine lv_aload_n E.1 E.2.1 dX11_ease_123 rfl (lv_at hl 0 rfl) ?_
      refine lv_iload E.1 E.2.1 dX11_ease_124 (lv_at hl 3 rfl) ?_
      obtain ⟨r23, hc22, hf⟩ := bd1_e hf
      refine k_Vi (As := [.int v5]) (rest := [.int v5, .ref (ad G (v0 + 8))]) E w t_v0 ⟨by decide, rfl⟩ (X11_singerOf_c t_v0 hc22) mv_RX11_252 rfl rfl hl.1 ⟨Nat.le_of_ble_eq_true rfl, Nat.le_of_ble_eq_true rfl⟩ (Nat.le_of_ble_eq_true rfl) ⟨Nat.le_refl _, Nat.le_refl _⟩ dX11_ease_126 (fun H locs w => ?_)
      obtain ⟨b25, hf⟩ := q_if hf
      refine p_iast E w ((lay_11_23 t_v0).1) ((lay_11_23 t_v0).2) b25 dX11_ease_129 (fun h26 H locs eh w => ?_)
      have hf := sq_e eh hf
      clear eh
      refine lv_iinc (v := v5 + 1) (lv' := [(5, .int (v5 + 1)), (0, .ref (ad G v0)), (2, .int v2), (3, .int v3)]) E.1 E.2.1 dX11_ease_130 hl (k := 3) rfl rfl (by decide) rfl (fun ls hl => ?_)
      refine lv_goto (tgt := 108) E.1 E.2.1 dX11_ease_133 (by decide) ?_
      exact ih _ _ _ _ _ _ _ _ hf w t_v0 (lv_sub hl [1, 2, 3, 0] rfl)

def X11_ease_l52 (N : Nat) (K39 : HS → Nat → Int32 → Int32 → Option (Int32 × HS)) : Nat → HS → Nat → Int32 → Int32 → Int32 → Int32 → Option (Int32 × HS)
  | 0, _, _, _, _, _, _ => none
  | n + 1, h, v0, v2, v3, v4, v5 => (if (h.1 v0 15) ≤ v5 then (if v4 < v3 then X11_ease_l108 N K39 N h v0 v2 v4 0 else K39 h v0 v2 v3) else (if v5 < 0 ∨ 6 ≤ v5.toNatClampNeg then none else (if (h.1 (v0 + 6) v5.toNatClampNeg) ≤ v4 then X11_ease_l52 N K39 n h v0 v2 v3 v4 (v5 + 1) else (if v5 < 0 ∨ 6 ≤ v5.toNatClampNeg then none else X11_ease_l52 N K39 n h v0 v2 v3 (h.1 (v0 + 6) v5.toNatClampNeg) (v5 + 1)))))
set_option maxRecDepth 4000 in
set_option maxHeartbeats 2000000 in
theorem X11_ease_l52_w {p : Program} {l : Launch} {e : Env} {s : State} {m : MethodId} {args : Array Value} {below : List Frame} {meth : Method} {c : Code} {G : GT} {N : Nat} {z : (Int32 × HS)} (E : CallFix p m c cX11_ease 6 s args UW RX11) (hr : meth.sig.returnType = (some .int)) (hlk : meth.locks = false) {K39 : HS → Nat → Int32 → Int32 → Option (Int32 × HS)} (hK39 : ∀ (h : HS) (H : Heap) (locs : List Loc) (ls : Array Slot) (v0 : Nat) (v2 : Int32) (v3 : Int32), K39 h v0 v2 v3 = some z → WD G s h H locs → sh v0 = 11 → lv_has ls 6 [(0, .ref (ad G v0)), (2, .int v2), (3, .int v3)] → W p l e ({ frames := 4, cells := 0, slots := 0, locals := 88 } : Room) s m args below meth c H locs 0 0 (MQ below (QC G (some (.int z.1)) z.2) args s 0 0 (AD G)) (F0 m 39 ls [])) : ∀ (n : Nat) (h : HS) (H : Heap) (locs : List Loc) (ls : Array Slot) (v0 : Nat) (v2 : Int32) (v3 : Int32) (v4 : Int32) (v5 : Int32), X11_ease_l52 N K39 n h v0 v2 v3 v4 v5 = some z → WD G s h H locs → sh v0 = 11 → lv_has ls 6 [(0, .ref (ad G v0)), (2, .int v2), (3, .int v3), (4, .int v4), (5, .int v5)] → W p l e ({ frames := 4, cells := 0, slots := 0, locals := 88 } : Room) s m args below meth c H locs 0 0 (MQ below (QC G (some (.int z.1)) z.2) args s 0 0 (AD G)) (F0 m 52 ls []) := by
  intro n
  induction n with
  | zero =>
    intro h H locs ls v0 v2 v3 v4 v5 hf
    cases hf
  | succ n ih =>
    intro h H locs ls v0 v2 v3 v4 v5 hf w t_v0 hl
    unfold X11_ease_l52 at hf
    refine lv_iload E.1 E.2.1 dX11_ease_52 (lv_at hl 4 rfl) ?_
    refine lv_aload_n E.1 E.2.1 dX11_ease_54 rfl (lv_at hl 0 rfl) ?_
    refine q_gi E w t_v0 fl_RX11_191 dX11_ease_55 ?_
    refine lv_icmp_ge (tgt := 93) E.1 E.2.1 dX11_ease_58 (by decide) (fun c19 => ?_) (fun c19 => ?_)
    · have hf := q_pos c19 hf
      refine lv_iload E.1 E.2.1 dX11_ease_93 (lv_at hl 3 rfl) ?_
      refine lv_iload_n E.1 E.2.1 dX11_ease_95 rfl (lv_at hl 2 rfl) ?_
      refine lv_icmp_lt (tgt := 102) E.1 E.2.1 dX11_ease_96 (by decide) (fun c20 => ?_) (fun c20 => ?_)
      · have hf := q_pos c20 hf
        refine lv_iload E.1 E.2.1 dX11_ease_102 (lv_at hl 3 rfl) ?_
        refine lv_istore_n (lv' := [(3, .int v4), (0, .ref (ad G v0)), (2, .int v2), (4, .int v4), (5, .int v5)]) E.1 E.2.1 dX11_ease_104 rfl hl (by decide) rfl (fun ls hl => ?_)
        refine lv_iconst (v := 0) E.1 E.2.1 dX11_ease_105 rfl ?_
        refine lv_istore (lv' := [(5, .int 0), (3, .int v4), (0, .ref (ad G v0)), (2, .int v2), (4, .int v4)]) E.1 E.2.1 dX11_ease_106 hl (by decide) rfl (fun ls hl => ?_)
        exact X11_ease_l108_w E hr hlk hK39 N _ _ _ _ _ _ _ _ hf w t_v0 (lv_sub hl [2, 3, 1, 0] rfl)
      · have hf := q_neg c20 hf
        refine lv_goto (tgt := 39) E.1 E.2.1 dX11_ease_99 (by decide) ?_
        exact hK39 _ _ _ _ _ _ _ hf w t_v0 (lv_sub hl [0, 1, 2] rfl)
    · have hf := q_neg c19 hf
      refine lv_aload_n E.1 E.2.1 dX11_ease_61 rfl (lv_at hl 0 rfl) ?_
      refine q_gs E w 6 t_v0 fl_RX11_26 dX11_ease_62 ?_
      refine lv_iload E.1 E.2.1 dX11_ease_65 (lv_at hl 4 rfl) ?_
      obtain ⟨b27, hf⟩ := q_if hf
      refine q_iald E w ((lay_11_18 t_v0).1) ((lay_11_18 t_v0).2) b27 dX11_ease_67 ?_
      refine lv_iload E.1 E.2.1 dX11_ease_68 (lv_at hl 3 rfl) ?_
      refine lv_icmp_le (tgt := 83) E.1 E.2.1 dX11_ease_70 (by decide) (fun c28 => ?_) (fun c28 => ?_)
      · have hf := q_pos c28 hf
        refine lv_iload E.1 E.2.1 dX11_ease_83 (lv_at hl 3 rfl) ?_
        refine lv_istore (lv' := [(4, .int v4), (0, .ref (ad G v0)), (2, .int v2), (3, .int v3), (5, .int v5)]) E.1 E.2.1 dX11_ease_85 hl (by decide) rfl (fun ls hl => ?_)
        refine lv_iinc (v := v5 + 1) (lv' := [(5, .int (v5 + 1)), (4, .int v4), (0, .ref (ad G v0)), (2, .int v2), (3, .int v3)]) E.1 E.2.1 dX11_ease_87 hl (k := 4) rfl rfl (by decide) rfl (fun ls hl => ?_)
        refine lv_goto (tgt := 52) E.1 E.2.1 dX11_ease_90 (by decide) ?_
        exact ih _ _ _ _ _ _ _ _ _ hf w t_v0 (lv_sub hl [2, 3, 4, 1, 0] rfl)
      · have hf := q_neg c28 hf
        refine lv_aload_n E.1 E.2.1 dX11_ease_73 rfl (lv_at hl 0 rfl) ?_
        refine q_gs E w 6 t_v0 fl_RX11_26 dX11_ease_74 ?_
        refine lv_iload E.1 E.2.1 dX11_ease_77 (lv_at hl 4 rfl) ?_
        obtain ⟨b29, hf⟩ := q_if hf
        refine q_iald E w ((lay_11_18 t_v0).1) ((lay_11_18 t_v0).2) b29 dX11_ease_79 ?_
        refine lv_goto (tgt := 85) E.1 E.2.1 dX11_ease_80 (by decide) ?_
        refine lv_istore (lv' := [(4, .int (h.1 (v0 + 6) v5.toNatClampNeg)), (0, .ref (ad G v0)), (2, .int v2), (3, .int v3), (5, .int v5)]) E.1 E.2.1 dX11_ease_85 hl (by decide) rfl (fun ls hl => ?_)
        refine lv_iinc (v := v5 + 1) (lv' := [(5, .int (v5 + 1)), (4, .int (h.1 (v0 + 6) v5.toNatClampNeg)), (0, .ref (ad G v0)), (2, .int v2), (3, .int v3)]) E.1 E.2.1 dX11_ease_87 hl (k := 4) rfl rfl (by decide) rfl (fun ls hl => ?_)
        refine lv_goto (tgt := 52) E.1 E.2.1 dX11_ease_90 (by decide) ?_
        exact ih _ _ _ _ _ _ _ _ _ hf w t_v0 (lv_sub hl [2, 3, 4, 1, 0] rfl)

def X11_ease_l39 (N : Nat) : Nat → HS → Nat → Int32 → Int32 → Option (Int32 × HS)
  | 0, _, _, _, _ => none
  | n + 1, h, v0, v2, v3 => bd2 (X11_goesOn N h v0) fun r13 h14 => (if r13 = 0 then (if v3 = (99999999 : Int32) then some ((-1), h14) else (if v2 = ((-1) : Int32) then some (v3, h14) else (if v2 < 0 ∨ 8 ≤ v2.toNatClampNeg then none else some (h14.1 (v0 + 8) v2.toNatClampNeg, h14)))) else X11_ease_l52 N (X11_ease_l39 N n) N h14 v0 v2 v3 0 0)
set_option maxRecDepth 4000 in
set_option maxHeartbeats 2000000 in
theorem X11_ease_l39_w {p : Program} {l : Launch} {e : Env} {s : State} {m : MethodId} {args : Array Value} {below : List Frame} {meth : Method} {c : Code} {G : GT} {N : Nat} {z : (Int32 × HS)} (E : CallFix p m c cX11_ease 6 s args UW RX11) (hr : meth.sig.returnType = (some .int)) (hlk : meth.locks = false) : ∀ (n : Nat) (h : HS) (H : Heap) (locs : List Loc) (ls : Array Slot) (v0 : Nat) (v2 : Int32) (v3 : Int32), X11_ease_l39 N n h v0 v2 v3 = some z → WD G s h H locs → sh v0 = 11 → lv_has ls 6 [(0, .ref (ad G v0)), (2, .int v2), (3, .int v3)] → W p l e ({ frames := 4, cells := 0, slots := 0, locals := 88 } : Room) s m args below meth c H locs 0 0 (MQ below (QC G (some (.int z.1)) z.2) args s 0 0 (AD G)) (F0 m 39 ls []) := by
  intro n
  induction n with
  | zero =>
    intro h H locs ls v0 v2 v3 hf
    cases hf
  | succ n ih =>
    intro h H locs ls v0 v2 v3 hf w t_v0 hl
    unfold X11_ease_l39 at hf
    refine lv_aload_n E.1 E.2.1 dX11_ease_39 rfl (lv_at hl 0 rfl) ?_
    obtain ⟨r13, h14, hc12, hf⟩ := bd2_e hf
    refine k_Vi (As := []) (rest := []) E w t_v0 ⟨by decide, rfl⟩ (X11_goesOn_c t_v0 hc12) mv_RX11_241 rfl rfl hl.1 ⟨Nat.le_of_ble_eq_true rfl, Nat.le_of_ble_eq_true rfl⟩ (Nat.le_of_ble_eq_true rfl) ⟨Nat.le_refl _, Nat.le_refl _⟩ dX11_ease_40 (fun H locs w => ?_)
    refine lv_if_eq (tgt := 139) E.1 E.2.1 dX11_ease_43 (by decide) (fun c15 => ?_) (fun c15 => ?_)
    · have hf := q_pos c15 hf
      refine lv_iload_n E.1 E.2.1 dX11_ease_139 rfl (lv_at hl 2 rfl) ?_
      refine lv_ldc (v := 99999999) E.1 E.2.1 E.2.2.2.1 (E.2.2.2.2 _ ct_RX11_221) dX11_ease_140 ?_
      refine lv_icmp_ne (tgt := 149) E.1 E.2.1 dX11_ease_142 (by decide) (fun c16 => ?_) (fun c16 => ?_)
      · have hf := q_neg c16 hf
        refine lv_iload_n E.1 E.2.1 dX11_ease_149 rfl (lv_at hl 1 rfl) ?_
        refine lv_iconst (v := (-1)) E.1 E.2.1 dX11_ease_150 rfl ?_
        refine lv_icmp_ne (tgt := 158) E.1 E.2.1 dX11_ease_151 (by decide) (fun c17 => ?_) (fun c17 => ?_)
        · have hf := q_neg c17 hf
          refine lv_aload_n E.1 E.2.1 dX11_ease_158 rfl (lv_at hl 0 rfl) ?_
          refine q_gs E w 8 t_v0 fl_RX11_32 dX11_ease_159 ?_
          refine lv_iload_n E.1 E.2.1 dX11_ease_162 rfl (lv_at hl 1 rfl) ?_
          obtain ⟨b18, hf⟩ := q_if hf
          refine q_iald E w ((lay_11_23 t_v0).1) ((lay_11_23 t_v0).2) b18 dX11_ease_163 ?_
          have hf := Option.some.inj hf
          subst hf
          exact q_iret E w hr hlk dX11_ease_164
        · have hf := q_pos c17 hf
          refine lv_iload_n E.1 E.2.1 dX11_ease_154 rfl (lv_at hl 2 rfl) ?_
          refine lv_goto (tgt := 164) E.1 E.2.1 dX11_ease_155 (by decide) ?_
          have hf := Option.some.inj hf
          subst hf
          exact q_iret E w hr hlk dX11_ease_164
      · have hf := q_pos c16 hf
        refine lv_iconst (v := (-1)) E.1 E.2.1 dX11_ease_145 rfl ?_
        refine lv_goto (tgt := 164) E.1 E.2.1 dX11_ease_146 (by decide) ?_
        have hf := Option.some.inj hf
        subst hf
        exact q_iret E w hr hlk dX11_ease_164
    · have hf := q_neg c15 hf
      refine lv_iconst (v := 0) E.1 E.2.1 dX11_ease_46 rfl ?_
      refine lv_istore (lv' := [(4, .int 0), (0, .ref (ad G v0)), (2, .int v2), (3, .int v3)]) E.1 E.2.1 dX11_ease_47 hl (by decide) rfl (fun ls hl => ?_)
      refine lv_iconst (v := 0) E.1 E.2.1 dX11_ease_49 rfl ?_
      refine lv_istore (lv' := [(5, .int 0), (4, .int 0), (0, .ref (ad G v0)), (2, .int v2), (3, .int v3)]) E.1 E.2.1 dX11_ease_50 hl (by decide) rfl (fun ls hl => ?_)
      exact X11_ease_l52_w E hr hlk ih N _ _ _ _ _ _ _ _ _ hf w t_v0 (lv_sub hl [2, 3, 4, 1, 0] rfl)

def X11_ease (N : Nat) (h : HS) (v0 : Nat) (v1 : Int32) (v2 : Int32) : Option (Int32 × HS) := bd2 (X11_isHouse N h v0 v1) fun r2 h3 => (if r2 = 0 then some ((-1), h3) else (if v2 = ((-1) : Int32) then bd1 (X11_everybody N h3 v0) fun r7 => bd1 (X11_laysRows N h3 v0 (h3.1 v0 14) r7 0) fun h11 => X11_ease_l39 N N h11 v0 v2 99999999 else bd1 (X11_isBar N h3 v0 v2) fun r31 => (if r31 = 0 then some ((-1), h3) else bd1 (X11_everybody N h3 v0) fun r35 => bd1 (X11_laysRows N h3 v0 (h3.1 v0 14) r35 0) fun h39 => X11_ease_l39 N N h39 v0 v2 99999999)))
set_option maxRecDepth 4000 in
set_option maxHeartbeats 2000000 in
theorem X11_ease_c {l : Launch} {G : GT} {N : Nat} {h : HS} {v0 : Nat} {v1 : Int32} {v2 : Int32} {z : (Int32 × HS)} (t_v0 : sh v0 = 11) (hf : X11_ease N h v0 v1 v2 = some z) : CT l G yX11_ease cX11_ease 6 (some .int) 4 88 [.ref (ad G v0), .int v1, .int v2] h (some (.int z.1)) z.2 := by
  unfold X11_ease at hf
  refine CT.of (by decide) (Nat.le_of_ble_eq_true rfl) ?_
  intro p e s m below meth c ls E hr hlk w hl
  have hl : lv_has ls 6 [(0, .ref (ad G v0)), (1, .int v1), (2, .int v2)] := hl
  refine lv_aload_n E.1 E.2.1 dX11_ease_0 rfl (lv_at hl 0 rfl) ?_
  refine lv_iload_n E.1 E.2.1 dX11_ease_1 rfl (lv_at hl 1 rfl) ?_
  obtain ⟨r2, h3, hc1, hf⟩ := bd2_e hf
  refine k_Vi (As := [.int v1]) (rest := []) E w t_v0 ⟨by decide, rfl⟩ (X11_isHouse_c t_v0 hc1) mv_RX11_197 rfl rfl hl.1 ⟨Nat.le_of_ble_eq_true rfl, Nat.le_of_ble_eq_true rfl⟩ (Nat.le_of_ble_eq_true rfl) ⟨Nat.le_refl _, Nat.le_refl _⟩ dX11_ease_2 (fun H locs w => ?_)
  refine lv_if_eq (tgt := 21) E.1 E.2.1 dX11_ease_5 (by decide) (fun c4 => ?_) (fun c4 => ?_)
  · have hf := q_pos c4 hf
    refine lv_iconst (v := (-1)) E.1 E.2.1 dX11_ease_21 rfl ?_
    have hf := Option.some.inj hf
    subst hf
    exact q_iret E w hr hlk dX11_ease_22
  · have hf := q_neg c4 hf
    refine lv_iload_n E.1 E.2.1 dX11_ease_8 rfl (lv_at hl 2 rfl) ?_
    refine lv_iconst (v := (-1)) E.1 E.2.1 dX11_ease_9 rfl ?_
    refine lv_icmp_eq (tgt := 23) E.1 E.2.1 dX11_ease_10 (by decide) (fun c5 => ?_) (fun c5 => ?_)
    · have hf := q_pos c5 hf
      refine lv_ldc (v := 99999999) E.1 E.2.1 E.2.2.2.1 (E.2.2.2.2 _ ct_RX11_221) dX11_ease_23 ?_
      refine lv_istore_n (lv' := [(3, .int 99999999), (0, .ref (ad G v0)), (1, .int v1), (2, .int v2)]) E.1 E.2.1 dX11_ease_25 rfl hl (by decide) rfl (fun ls hl => ?_)
      refine lv_aload_n E.1 E.2.1 dX11_ease_26 rfl (lv_at hl 1 rfl) ?_
      refine lv_aload_n E.1 E.2.1 dX11_ease_27 rfl (lv_at hl 1 rfl) ?_
      refine q_gi E w t_v0 fl_RX11_188 dX11_ease_28 ?_
      refine lv_aload_n E.1 E.2.1 dX11_ease_31 rfl (lv_at hl 1 rfl) ?_
      obtain ⟨r7, hc6, hf⟩ := bd1_e hf
      refine k_Vi (As := []) (rest := [.int (h3.1 v0 14), .ref (ad G v0)]) E w t_v0 ⟨by decide, rfl⟩ (X11_everybody_c t_v0 hc6) mv_RX11_245 rfl rfl hl.1 ⟨Nat.le_of_ble_eq_true rfl, Nat.le_of_ble_eq_true rfl⟩ (Nat.le_of_ble_eq_true rfl) ⟨Nat.le_refl _, Nat.le_refl _⟩ dX11_ease_32 (fun H locs w => ?_)
      refine lv_iconst (v := 0) E.1 E.2.1 dX11_ease_35 rfl ?_
      obtain ⟨h11, hc9, hf⟩ := bd1_e hf
      refine k_Vv (As := [.int (h3.1 v0 14), .int r7, .int 0]) (rest := []) E w t_v0 ⟨by decide, rfl⟩ (X11_laysRows_c t_v0 hc9) mv_RX11_237 rfl rfl hl.1 ⟨Nat.le_of_ble_eq_true rfl, Nat.le_of_ble_eq_true rfl⟩ (Nat.le_of_ble_eq_true rfl) ⟨Nat.le_refl _, Nat.le_refl _⟩ dX11_ease_36 (fun H locs w => ?_)
      exact X11_ease_l39_w E hr hlk N _ _ _ _ _ _ _ hf w t_v0 (lv_sub hl [1, 3, 0] rfl)
    · have hf := q_neg c5 hf
      refine lv_aload_n E.1 E.2.1 dX11_ease_13 rfl (lv_at hl 0 rfl) ?_
      refine lv_iload_n E.1 E.2.1 dX11_ease_14 rfl (lv_at hl 2 rfl) ?_
      obtain ⟨r31, hc30, hf⟩ := bd1_e hf
      refine k_Vi (As := [.int v2]) (rest := []) E w t_v0 ⟨by decide, rfl⟩ (X11_isBar_c t_v0 hc30) mv_RX11_209 rfl rfl hl.1 ⟨Nat.le_of_ble_eq_true rfl, Nat.le_of_ble_eq_true rfl⟩ (Nat.le_of_ble_eq_true rfl) ⟨Nat.le_refl _, Nat.le_refl _⟩ dX11_ease_15 (fun H locs w => ?_)
      refine lv_if_ne (tgt := 23) E.1 E.2.1 dX11_ease_18 (by decide) (fun c33 => ?_) (fun c33 => ?_)
      · have hf := q_neg c33 hf
        refine lv_ldc (v := 99999999) E.1 E.2.1 E.2.2.2.1 (E.2.2.2.2 _ ct_RX11_221) dX11_ease_23 ?_
        refine lv_istore_n (lv' := [(3, .int 99999999), (0, .ref (ad G v0)), (1, .int v1), (2, .int v2)]) E.1 E.2.1 dX11_ease_25 rfl hl (by decide) rfl (fun ls hl => ?_)
        refine lv_aload_n E.1 E.2.1 dX11_ease_26 rfl (lv_at hl 1 rfl) ?_
        refine lv_aload_n E.1 E.2.1 dX11_ease_27 rfl (lv_at hl 1 rfl) ?_
        refine q_gi E w t_v0 fl_RX11_188 dX11_ease_28 ?_
        refine lv_aload_n E.1 E.2.1 dX11_ease_31 rfl (lv_at hl 1 rfl) ?_
        obtain ⟨r35, hc34, hf⟩ := bd1_e hf
        refine k_Vi (As := []) (rest := [.int (h3.1 v0 14), .ref (ad G v0)]) E w t_v0 ⟨by decide, rfl⟩ (X11_everybody_c t_v0 hc34) mv_RX11_245 rfl rfl hl.1 ⟨Nat.le_of_ble_eq_true rfl, Nat.le_of_ble_eq_true rfl⟩ (Nat.le_of_ble_eq_true rfl) ⟨Nat.le_refl _, Nat.le_refl _⟩ dX11_ease_32 (fun H locs w => ?_)
        refine lv_iconst (v := 0) E.1 E.2.1 dX11_ease_35 rfl ?_
        obtain ⟨h39, hc37, hf⟩ := bd1_e hf
        refine k_Vv (As := [.int (h3.1 v0 14), .int r35, .int 0]) (rest := []) E w t_v0 ⟨by decide, rfl⟩ (X11_laysRows_c t_v0 hc37) mv_RX11_237 rfl rfl hl.1 ⟨Nat.le_of_ble_eq_true rfl, Nat.le_of_ble_eq_true rfl⟩ (Nat.le_of_ble_eq_true rfl) ⟨Nat.le_refl _, Nat.le_refl _⟩ dX11_ease_36 (fun H locs w => ?_)
        exact X11_ease_l39_w E hr hlk N _ _ _ _ _ _ _ hf w t_v0 (lv_sub hl [1, 3, 0] rfl)
      · have hf := q_pos c33 hf
        refine lv_iconst (v := (-1)) E.1 E.2.1 dX11_ease_21 rfl ?_
        have hf := Option.some.inj hf
        subst hf
        exact q_iret E w hr hlk dX11_ease_22

def X11_hire_l33 (N : Nat) : Nat → HS → Nat → Int32 → Option (Int32 × HS)
  | 0, _, _, _ => none
  | n + 1, h, v0, v2 => bd2 (X11_goesOn N h v0) fun r12 h13 => (if r12 = 0 then (if v2 ≤ (20 : Int32) then some (v2, h13) else some ((-1), h13)) else (if (h13.1 v0 15) < 0 ∨ 6 ≤ (h13.1 v0 15).toNatClampNeg then none else (if v2 ≤ (h13.1 (v0 + 6) (h13.1 v0 15).toNatClampNeg) then X11_hire_l33 N n h13 v0 v2 else (if (h13.1 v0 15) < 0 ∨ 6 ≤ (h13.1 v0 15).toNatClampNeg then none else X11_hire_l33 N n h13 v0 (h13.1 (v0 + 6) (h13.1 v0 15).toNatClampNeg)))))
set_option maxRecDepth 4000 in
set_option maxHeartbeats 2000000 in
theorem X11_hire_l33_w {p : Program} {l : Launch} {e : Env} {s : State} {m : MethodId} {args : Array Value} {below : List Frame} {meth : Method} {c : Code} {G : GT} {N : Nat} {z : (Int32 × HS)} (E : CallFix p m c cX11_hire 3 s args UW RX11) (hr : meth.sig.returnType = (some .int)) (hlk : meth.locks = false) : ∀ (n : Nat) (h : HS) (H : Heap) (locs : List Loc) (ls : Array Slot) (v0 : Nat) (v2 : Int32), X11_hire_l33 N n h v0 v2 = some z → WD G s h H locs → sh v0 = 11 → lv_has ls 3 [(0, .ref (ad G v0)), (2, .int v2)] → W p l e ({ frames := 4, cells := 0, slots := 0, locals := 88 } : Room) s m args below meth c H locs 0 0 (MQ below (QC G (some (.int z.1)) z.2) args s 0 0 (AD G)) (F0 m 33 ls []) := by
  intro n
  induction n with
  | zero =>
    intro h H locs ls v0 v2 hf
    cases hf
  | succ n ih =>
    intro h H locs ls v0 v2 hf w t_v0 hl
    unfold X11_hire_l33 at hf
    refine lv_aload_n E.1 E.2.1 dX11_hire_33 rfl (lv_at hl 0 rfl) ?_
    obtain ⟨r12, h13, hc11, hf⟩ := bd2_e hf
    refine k_Vi (As := []) (rest := []) E w t_v0 ⟨by decide, rfl⟩ (X11_goesOn_c t_v0 hc11) mv_RX11_241 rfl rfl hl.1 ⟨Nat.le_of_ble_eq_true rfl, Nat.le_of_ble_eq_true rfl⟩ (Nat.le_of_ble_eq_true rfl) ⟨Nat.le_refl _, Nat.le_refl _⟩ dX11_hire_34 (fun H locs w => ?_)
    refine lv_if_eq (tgt := 70) E.1 E.2.1 dX11_hire_37 (by decide) (fun c14 => ?_) (fun c14 => ?_)
    · have hf := q_pos c14 hf
      refine lv_iload_n E.1 E.2.1 dX11_hire_70 rfl (lv_at hl 1 rfl) ?_
      refine lv_bipush (v := 20) E.1 E.2.1 dX11_hire_71 rfl ?_
      refine lv_icmp_le (tgt := 80) E.1 E.2.1 dX11_hire_73 (by decide) (fun c15 => ?_) (fun c15 => ?_)
      · have hf := q_pos c15 hf
        refine lv_iload_n E.1 E.2.1 dX11_hire_80 rfl (lv_at hl 1 rfl) ?_
        have hf := Option.some.inj hf
        subst hf
        exact q_iret E w hr hlk dX11_hire_81
      · have hf := q_neg c15 hf
        refine lv_iconst (v := (-1)) E.1 E.2.1 dX11_hire_76 rfl ?_
        refine lv_goto (tgt := 81) E.1 E.2.1 dX11_hire_77 (by decide) ?_
        have hf := Option.some.inj hf
        subst hf
        exact q_iret E w hr hlk dX11_hire_81
    · have hf := q_neg c14 hf
      refine lv_aload_n E.1 E.2.1 dX11_hire_40 rfl (lv_at hl 0 rfl) ?_
      refine q_gs E w 6 t_v0 fl_RX11_26 dX11_hire_41 ?_
      refine lv_aload_n E.1 E.2.1 dX11_hire_44 rfl (lv_at hl 0 rfl) ?_
      refine q_gi E w t_v0 fl_RX11_191 dX11_hire_45 ?_
      obtain ⟨b16, hf⟩ := q_if hf
      refine q_iald E w ((lay_11_18 t_v0).1) ((lay_11_18 t_v0).2) b16 dX11_hire_48 ?_
      refine lv_iload_n E.1 E.2.1 dX11_hire_49 rfl (lv_at hl 1 rfl) ?_
      refine lv_icmp_ge (tgt := 65) E.1 E.2.1 dX11_hire_50 (by decide) (fun c17 => ?_) (fun c17 => ?_)
      · have hf := q_pos c17 hf
        refine lv_iload_n E.1 E.2.1 dX11_hire_65 rfl (lv_at hl 1 rfl) ?_
        refine lv_istore_n (lv' := [(2, .int v2), (0, .ref (ad G v0))]) E.1 E.2.1 dX11_hire_66 rfl hl (by decide) rfl (fun ls hl => ?_)
        refine lv_goto (tgt := 33) E.1 E.2.1 dX11_hire_67 (by decide) ?_
        exact ih _ _ _ _ _ _ hf w t_v0 (lv_sub hl [1, 0] rfl)
      · have hf := q_neg c17 hf
        refine lv_aload_n E.1 E.2.1 dX11_hire_53 rfl (lv_at hl 0 rfl) ?_
        refine q_gs E w 6 t_v0 fl_RX11_26 dX11_hire_54 ?_
        refine lv_aload_n E.1 E.2.1 dX11_hire_57 rfl (lv_at hl 0 rfl) ?_
        refine q_gi E w t_v0 fl_RX11_191 dX11_hire_58 ?_
        obtain ⟨b18, hf⟩ := q_if hf
        refine q_iald E w ((lay_11_18 t_v0).1) ((lay_11_18 t_v0).2) b18 dX11_hire_61 ?_
        refine lv_goto (tgt := 66) E.1 E.2.1 dX11_hire_62 (by decide) ?_
        refine lv_istore_n (lv' := [(2, .int (h13.1 (v0 + 6) (h13.1 v0 15).toNatClampNeg)), (0, .ref (ad G v0))]) E.1 E.2.1 dX11_hire_66 rfl hl (by decide) rfl (fun ls hl => ?_)
        refine lv_goto (tgt := 33) E.1 E.2.1 dX11_hire_67 (by decide) ?_
        exact ih _ _ _ _ _ _ hf w t_v0 (lv_sub hl [1, 0] rfl)

def X11_hire (N : Nat) (h : HS) (v0 : Nat) (v1 : Int32) : Option (Int32 × HS) := bd2 (X11_isHouse N h v0 v1) fun r2 h3 => (if r2 = 0 then some ((-1), h3) else bd1 (X11_everybody N h3 v0) fun r6 => bd1 (X11_laysRows N h3 v0 (h3.1 v0 14) (r6 ||| ((1 : Int32) <<< ((h3.1 v0 15) &&& 31))) 0) fun h10 => X11_hire_l33 N N h10 v0 99999999)
set_option maxRecDepth 4000 in
set_option maxHeartbeats 2000000 in
theorem X11_hire_c {l : Launch} {G : GT} {N : Nat} {h : HS} {v0 : Nat} {v1 : Int32} {z : (Int32 × HS)} (t_v0 : sh v0 = 11) (hf : X11_hire N h v0 v1 = some z) : CT l G yX11_hire cX11_hire 3 (some .int) 4 88 [.ref (ad G v0), .int v1] h (some (.int z.1)) z.2 := by
  unfold X11_hire at hf
  refine CT.of (by decide) (Nat.le_of_ble_eq_true rfl) ?_
  intro p e s m below meth c ls E hr hlk w hl
  have hl : lv_has ls 3 [(0, .ref (ad G v0)), (1, .int v1)] := hl
  refine lv_aload_n E.1 E.2.1 dX11_hire_0 rfl (lv_at hl 0 rfl) ?_
  refine lv_iload_n E.1 E.2.1 dX11_hire_1 rfl (lv_at hl 1 rfl) ?_
  obtain ⟨r2, h3, hc1, hf⟩ := bd2_e hf
  refine k_Vi (As := [.int v1]) (rest := []) E w t_v0 ⟨by decide, rfl⟩ (X11_isHouse_c t_v0 hc1) mv_RX11_197 rfl rfl hl.1 ⟨Nat.le_of_ble_eq_true rfl, Nat.le_of_ble_eq_true rfl⟩ (Nat.le_of_ble_eq_true rfl) ⟨Nat.le_refl _, Nat.le_refl _⟩ dX11_hire_2 (fun H locs w => ?_)
  refine lv_if_ne (tgt := 10) E.1 E.2.1 dX11_hire_5 (by decide) (fun c4 => ?_) (fun c4 => ?_)
  · have hf := q_neg c4 hf
    refine lv_ldc (v := 99999999) E.1 E.2.1 E.2.2.2.1 (E.2.2.2.2 _ ct_RX11_221) dX11_hire_10 ?_
    refine lv_istore_n (lv' := [(2, .int 99999999), (0, .ref (ad G v0)), (1, .int v1)]) E.1 E.2.1 dX11_hire_12 rfl hl (by decide) rfl (fun ls hl => ?_)
    refine lv_aload_n E.1 E.2.1 dX11_hire_13 rfl (lv_at hl 1 rfl) ?_
    refine lv_aload_n E.1 E.2.1 dX11_hire_14 rfl (lv_at hl 1 rfl) ?_
    refine q_gi E w t_v0 fl_RX11_188 dX11_hire_15 ?_
    refine lv_aload_n E.1 E.2.1 dX11_hire_18 rfl (lv_at hl 1 rfl) ?_
    obtain ⟨r6, hc5, hf⟩ := bd1_e hf
    refine k_Vi (As := []) (rest := [.int (h3.1 v0 14), .ref (ad G v0)]) E w t_v0 ⟨by decide, rfl⟩ (X11_everybody_c t_v0 hc5) mv_RX11_245 rfl rfl hl.1 ⟨Nat.le_of_ble_eq_true rfl, Nat.le_of_ble_eq_true rfl⟩ (Nat.le_of_ble_eq_true rfl) ⟨Nat.le_refl _, Nat.le_refl _⟩ dX11_hire_19 (fun H locs w => ?_)
    refine lv_iconst (v := 1) E.1 E.2.1 dX11_hire_22 rfl ?_
    refine lv_aload_n E.1 E.2.1 dX11_hire_23 rfl (lv_at hl 1 rfl) ?_
    refine q_gi E w t_v0 fl_RX11_191 dX11_hire_24 ?_
    refine lv_ishl E.1 E.2.1 dX11_hire_27 ?_
    refine lv_ior E.1 E.2.1 dX11_hire_28 ?_
    refine lv_iconst (v := 0) E.1 E.2.1 dX11_hire_29 rfl ?_
    obtain ⟨h10, hc8, hf⟩ := bd1_e hf
    refine k_Vv (As := [.int (h3.1 v0 14), .int (r6 ||| ((1 : Int32) <<< ((h3.1 v0 15) &&& 31))), .int 0]) (rest := []) E w t_v0 ⟨by decide, rfl⟩ (X11_laysRows_c t_v0 hc8) mv_RX11_237 rfl rfl hl.1 ⟨Nat.le_of_ble_eq_true rfl, Nat.le_of_ble_eq_true rfl⟩ (Nat.le_of_ble_eq_true rfl) ⟨Nat.le_refl _, Nat.le_refl _⟩ dX11_hire_30 (fun H locs w => ?_)
    exact X11_hire_l33_w E hr hlk N _ _ _ _ _ _ hf w t_v0 (lv_sub hl [1, 0] rfl)
  · have hf := q_pos c4 hf
    refine lv_iconst (v := (-1)) E.1 E.2.1 dX11_hire_8 rfl ?_
    have hf := Option.some.inj hf
    subst hf
    exact q_iret E w hr hlk dX11_hire_9

def X11_range_l40 (N : Nat) (K27 : HS → Nat → Int32 → Int32 → Int32 → Option (Int32 × HS)) : Nat → HS → Nat → Int32 → Int32 → Int32 → Int32 → Int32 → Option (Int32 × HS)
  | 0, _, _, _, _, _, _, _ => none
  | n + 1, h, v0, v2, v3, v4, v5, v6 => (if (h.1 v0 15) ≤ v6 then (if v5 = 0 then K27 h v0 v2 (v3 + 0) (v4 + 1) else K27 h v0 v2 (v3 + 1) (v4 + 1)) else (if v5 = 0 then (if ((v2 >>> (v6 &&& 31)) &&& 1) = (1 : Int32) then bd1 (X11_reaches N h v0 v6 v4 0) fun r18 => (if r18 = 0 then X11_range_l40 N K27 n h v0 v2 v3 v4 0 (v6 + 1) else X11_range_l40 N K27 n h v0 v2 v3 v4 1 (v6 + 1)) else X11_range_l40 N K27 n h v0 v2 v3 v4 0 (v6 + 1)) else X11_range_l40 N K27 n h v0 v2 v3 v4 1 (v6 + 1)))
set_option maxRecDepth 4000 in
set_option maxHeartbeats 2000000 in
theorem X11_range_l40_w {p : Program} {l : Launch} {e : Env} {s : State} {m : MethodId} {args : Array Value} {below : List Frame} {meth : Method} {c : Code} {G : GT} {N : Nat} {z : (Int32 × HS)} (E : CallFix p m c cX11_range 7 s args UW RX11) (hr : meth.sig.returnType = (some .int)) (hlk : meth.locks = false) {K27 : HS → Nat → Int32 → Int32 → Int32 → Option (Int32 × HS)} (hK27 : ∀ (h : HS) (H : Heap) (locs : List Loc) (ls : Array Slot) (v0 : Nat) (v2 : Int32) (v3 : Int32) (v4 : Int32), K27 h v0 v2 v3 v4 = some z → WD G s h H locs → sh v0 = 11 → lv_has ls 7 [(0, .ref (ad G v0)), (2, .int v2), (3, .int v3), (4, .int v4)] → W p l e ({ frames := 3, cells := 0, slots := 0, locals := 65 } : Room) s m args below meth c H locs 0 0 (MQ below (QC G (some (.int z.1)) z.2) args s 0 0 (AD G)) (F0 m 27 ls [])) : ∀ (n : Nat) (h : HS) (H : Heap) (locs : List Loc) (ls : Array Slot) (v0 : Nat) (v2 : Int32) (v3 : Int32) (v4 : Int32) (v5 : Int32) (v6 : Int32), X11_range_l40 N K27 n h v0 v2 v3 v4 v5 v6 = some z → WD G s h H locs → sh v0 = 11 → lv_has ls 7 [(0, .ref (ad G v0)), (2, .int v2), (3, .int v3), (4, .int v4), (5, .int v5), (6, .int v6)] → W p l e ({ frames := 3, cells := 0, slots := 0, locals := 65 } : Room) s m args below meth c H locs 0 0 (MQ below (QC G (some (.int z.1)) z.2) args s 0 0 (AD G)) (F0 m 40 ls []) := by
  intro n
  induction n with
  | zero =>
    intro h H locs ls v0 v2 v3 v4 v5 v6 hf
    cases hf
  | succ n ih =>
    intro h H locs ls v0 v2 v3 v4 v5 v6 hf w t_v0 hl
    unfold X11_range_l40 at hf
    refine lv_iload E.1 E.2.1 dX11_range_40 (lv_at hl 5 rfl) ?_
    refine lv_aload_n E.1 E.2.1 dX11_range_42 rfl (lv_at hl 0 rfl) ?_
    refine q_gi E w t_v0 fl_RX11_191 dX11_range_43 ?_
    refine lv_icmp_ge (tgt := 89) E.1 E.2.1 dX11_range_46 (by decide) (fun c13 => ?_) (fun c13 => ?_)
    · have hf := q_pos c13 hf
      refine lv_iload_n E.1 E.2.1 dX11_range_89 rfl (lv_at hl 2 rfl) ?_
      refine lv_iload E.1 E.2.1 dX11_range_90 (lv_at hl 4 rfl) ?_
      refine lv_if_eq (tgt := 99) E.1 E.2.1 dX11_range_92 (by decide) (fun c14 => ?_) (fun c14 => ?_)
      · have hf := q_pos c14 hf
        refine lv_iconst (v := 0) E.1 E.2.1 dX11_range_99 rfl ?_
        refine lv_iadd E.1 E.2.1 dX11_range_100 ?_
        refine lv_istore_n (lv' := [(3, .int (v3 + 0)), (0, .ref (ad G v0)), (2, .int v2), (4, .int v4), (5, .int v5), (6, .int v6)]) E.1 E.2.1 dX11_range_101 rfl hl (by decide) rfl (fun ls hl => ?_)
        refine lv_iinc (v := v4 + 1) (lv' := [(4, .int (v4 + 1)), (3, .int (v3 + 0)), (0, .ref (ad G v0)), (2, .int v2), (5, .int v5), (6, .int v6)]) E.1 E.2.1 dX11_range_102 hl (k := 3) rfl rfl (by decide) rfl (fun ls hl => ?_)
        refine lv_goto (tgt := 27) E.1 E.2.1 dX11_range_105 (by decide) ?_
        exact hK27 _ _ _ _ _ _ _ _ hf w t_v0 (lv_sub hl [2, 3, 1, 0] rfl)
      · have hf := q_neg c14 hf
        refine lv_iconst (v := 1) E.1 E.2.1 dX11_range_95 rfl ?_
        refine lv_goto (tgt := 100) E.1 E.2.1 dX11_range_96 (by decide) ?_
        refine lv_iadd E.1 E.2.1 dX11_range_100 ?_
        refine lv_istore_n (lv' := [(3, .int (v3 + 1)), (0, .ref (ad G v0)), (2, .int v2), (4, .int v4), (5, .int v5), (6, .int v6)]) E.1 E.2.1 dX11_range_101 rfl hl (by decide) rfl (fun ls hl => ?_)
        refine lv_iinc (v := v4 + 1) (lv' := [(4, .int (v4 + 1)), (3, .int (v3 + 1)), (0, .ref (ad G v0)), (2, .int v2), (5, .int v5), (6, .int v6)]) E.1 E.2.1 dX11_range_102 hl (k := 3) rfl rfl (by decide) rfl (fun ls hl => ?_)
        refine lv_goto (tgt := 27) E.1 E.2.1 dX11_range_105 (by decide) ?_
        exact hK27 _ _ _ _ _ _ _ _ hf w t_v0 (lv_sub hl [2, 3, 1, 0] rfl)
    · have hf := q_neg c13 hf
      refine lv_iload E.1 E.2.1 dX11_range_49 (lv_at hl 4 rfl) ?_
      refine lv_if_ne (tgt := 76) E.1 E.2.1 dX11_range_51 (by decide) (fun c15 => ?_) (fun c15 => ?_)
      · have hf := q_neg c15 hf
        refine lv_iconst (v := 1) E.1 E.2.1 dX11_range_76 rfl ?_
        refine lv_goto (tgt := 81) E.1 E.2.1 dX11_range_77 (by decide) ?_
        refine lv_istore (lv' := [(5, .int 1), (0, .ref (ad G v0)), (2, .int v2), (3, .int v3), (4, .int v4), (6, .int v6)]) E.1 E.2.1 dX11_range_81 hl (by decide) rfl (fun ls hl => ?_)
        refine lv_iinc (v := v6 + 1) (lv' := [(6, .int (v6 + 1)), (5, .int 1), (0, .ref (ad G v0)), (2, .int v2), (3, .int v3), (4, .int v4)]) E.1 E.2.1 dX11_range_83 hl (k := 5) rfl rfl (by decide) rfl (fun ls hl => ?_)
        refine lv_goto (tgt := 40) E.1 E.2.1 dX11_range_86 (by decide) ?_
        exact ih _ _ _ _ _ _ _ _ _ _ hf w t_v0 (lv_sub hl [2, 3, 4, 5, 1, 0] rfl)
      · have hf := q_pos c15 hf
        refine lv_iload_n E.1 E.2.1 dX11_range_54 rfl (lv_at hl 1 rfl) ?_
        refine lv_iload E.1 E.2.1 dX11_range_55 (lv_at hl 5 rfl) ?_
        refine lv_ishr E.1 E.2.1 dX11_range_57 ?_
        refine lv_iconst (v := 1) E.1 E.2.1 dX11_range_58 rfl ?_
        refine lv_iand E.1 E.2.1 dX11_range_59 ?_
        refine lv_iconst (v := 1) E.1 E.2.1 dX11_range_60 rfl ?_
        refine lv_icmp_ne (tgt := 80) E.1 E.2.1 dX11_range_61 (by decide) (fun c16 => ?_) (fun c16 => ?_)
        · have hf := q_neg c16 hf
          refine lv_iconst (v := 0) E.1 E.2.1 dX11_range_80 rfl ?_
          refine lv_istore (lv' := [(5, .int 0), (0, .ref (ad G v0)), (2, .int v2), (3, .int v3), (4, .int v4), (6, .int v6)]) E.1 E.2.1 dX11_range_81 hl (by decide) rfl (fun ls hl => ?_)
          refine lv_iinc (v := v6 + 1) (lv' := [(6, .int (v6 + 1)), (5, .int 0), (0, .ref (ad G v0)), (2, .int v2), (3, .int v3), (4, .int v4)]) E.1 E.2.1 dX11_range_83 hl (k := 5) rfl rfl (by decide) rfl (fun ls hl => ?_)
          refine lv_goto (tgt := 40) E.1 E.2.1 dX11_range_86 (by decide) ?_
          exact ih _ _ _ _ _ _ _ _ _ _ hf w t_v0 (lv_sub hl [2, 3, 4, 5, 1, 0] rfl)
        · have hf := q_pos c16 hf
          refine lv_aload_n E.1 E.2.1 dX11_range_64 rfl (lv_at hl 0 rfl) ?_
          refine lv_iload E.1 E.2.1 dX11_range_65 (lv_at hl 5 rfl) ?_
          refine lv_iload E.1 E.2.1 dX11_range_67 (lv_at hl 3 rfl) ?_
          refine lv_iconst (v := 0) E.1 E.2.1 dX11_range_69 rfl ?_
          obtain ⟨r18, hc17, hf⟩ := bd1_e hf
          refine k_Vi (As := [.int v6, .int v4, .int 0]) (rest := []) E w t_v0 ⟨by decide, rfl⟩ (X11_reaches_c t_v0 hc17) mv_RX11_228 rfl rfl hl.1 ⟨Nat.le_of_ble_eq_true rfl, Nat.le_of_ble_eq_true rfl⟩ (Nat.le_of_ble_eq_true rfl) ⟨Nat.le_refl _, Nat.le_refl _⟩ dX11_range_70 (fun H locs w => ?_)
          refine lv_if_eq (tgt := 80) E.1 E.2.1 dX11_range_73 (by decide) (fun c20 => ?_) (fun c20 => ?_)
          · have hf := q_pos c20 hf
            refine lv_iconst (v := 0) E.1 E.2.1 dX11_range_80 rfl ?_
            refine lv_istore (lv' := [(5, .int 0), (0, .ref (ad G v0)), (2, .int v2), (3, .int v3), (4, .int v4), (6, .int v6)]) E.1 E.2.1 dX11_range_81 hl (by decide) rfl (fun ls hl => ?_)
            refine lv_iinc (v := v6 + 1) (lv' := [(6, .int (v6 + 1)), (5, .int 0), (0, .ref (ad G v0)), (2, .int v2), (3, .int v3), (4, .int v4)]) E.1 E.2.1 dX11_range_83 hl (k := 5) rfl rfl (by decide) rfl (fun ls hl => ?_)
            refine lv_goto (tgt := 40) E.1 E.2.1 dX11_range_86 (by decide) ?_
            exact ih _ _ _ _ _ _ _ _ _ _ hf w t_v0 (lv_sub hl [2, 3, 4, 5, 1, 0] rfl)
          · have hf := q_neg c20 hf
            refine lv_iconst (v := 1) E.1 E.2.1 dX11_range_76 rfl ?_
            refine lv_goto (tgt := 81) E.1 E.2.1 dX11_range_77 (by decide) ?_
            refine lv_istore (lv' := [(5, .int 1), (0, .ref (ad G v0)), (2, .int v2), (3, .int v3), (4, .int v4), (6, .int v6)]) E.1 E.2.1 dX11_range_81 hl (by decide) rfl (fun ls hl => ?_)
            refine lv_iinc (v := v6 + 1) (lv' := [(6, .int (v6 + 1)), (5, .int 1), (0, .ref (ad G v0)), (2, .int v2), (3, .int v3), (4, .int v4)]) E.1 E.2.1 dX11_range_83 hl (k := 5) rfl rfl (by decide) rfl (fun ls hl => ?_)
            refine lv_goto (tgt := 40) E.1 E.2.1 dX11_range_86 (by decide) ?_
            exact ih _ _ _ _ _ _ _ _ _ _ hf w t_v0 (lv_sub hl [2, 3, 4, 5, 1, 0] rfl)

def X11_range_l27 (N : Nat) : Nat → HS → Nat → Int32 → Int32 → Int32 → Option (Int32 × HS)
  | 0, _, _, _, _, _ => none
  | n + 1, h, v0, v2, v3, v4 => (if (10 : Int32) ≤ v4 then some (v3, h) else X11_range_l40 N (X11_range_l27 N n) N h v0 v2 v3 v4 0 0)
set_option maxRecDepth 4000 in
set_option maxHeartbeats 2000000 in
theorem X11_range_l27_w {p : Program} {l : Launch} {e : Env} {s : State} {m : MethodId} {args : Array Value} {below : List Frame} {meth : Method} {c : Code} {G : GT} {N : Nat} {z : (Int32 × HS)} (E : CallFix p m c cX11_range 7 s args UW RX11) (hr : meth.sig.returnType = (some .int)) (hlk : meth.locks = false) : ∀ (n : Nat) (h : HS) (H : Heap) (locs : List Loc) (ls : Array Slot) (v0 : Nat) (v2 : Int32) (v3 : Int32) (v4 : Int32), X11_range_l27 N n h v0 v2 v3 v4 = some z → WD G s h H locs → sh v0 = 11 → lv_has ls 7 [(0, .ref (ad G v0)), (2, .int v2), (3, .int v3), (4, .int v4)] → W p l e ({ frames := 3, cells := 0, slots := 0, locals := 65 } : Room) s m args below meth c H locs 0 0 (MQ below (QC G (some (.int z.1)) z.2) args s 0 0 (AD G)) (F0 m 27 ls []) := by
  intro n
  induction n with
  | zero =>
    intro h H locs ls v0 v2 v3 v4 hf
    cases hf
  | succ n ih =>
    intro h H locs ls v0 v2 v3 v4 hf w t_v0 hl
    unfold X11_range_l27 at hf
    refine lv_iload E.1 E.2.1 dX11_range_27 (lv_at hl 3 rfl) ?_
    refine lv_bipush (v := 10) E.1 E.2.1 dX11_range_29 rfl ?_
    refine lv_icmp_ge (tgt := 108) E.1 E.2.1 dX11_range_31 (by decide) (fun c12 => ?_) (fun c12 => ?_)
    · have hf := q_pos c12 hf
      refine lv_iload_n E.1 E.2.1 dX11_range_108 rfl (lv_at hl 2 rfl) ?_
      have hf := Option.some.inj hf
      subst hf
      exact q_iret E w hr hlk dX11_range_109
    · have hf := q_neg c12 hf
      refine lv_iconst (v := 0) E.1 E.2.1 dX11_range_34 rfl ?_
      refine lv_istore (lv' := [(5, .int 0), (0, .ref (ad G v0)), (2, .int v2), (3, .int v3), (4, .int v4)]) E.1 E.2.1 dX11_range_35 hl (by decide) rfl (fun ls hl => ?_)
      refine lv_iconst (v := 0) E.1 E.2.1 dX11_range_37 rfl ?_
      refine lv_istore (lv' := [(6, .int 0), (5, .int 0), (0, .ref (ad G v0)), (2, .int v2), (3, .int v3), (4, .int v4)]) E.1 E.2.1 dX11_range_38 hl (by decide) rfl (fun ls hl => ?_)
      exact X11_range_l40_w E hr hlk ih N _ _ _ _ _ _ _ _ _ _ hf w t_v0 (lv_sub hl [2, 3, 4, 5, 1, 0] rfl)

def X11_range (N : Nat) (h : HS) (v0 : Nat) (v1 : Int32) (v2 : Int32) : Option (Int32 × HS) := bd2 (X11_isHouse N h v0 v1) fun r2 h3 => (if r2 = 0 then some ((-1), h3) else bd1 (X11_everybody N h3 v0) fun r6 => bd1 (X11_isIn N h3 v2 0 r6) fun r9 => (if r9 = 0 then some ((-1), h3) else X11_range_l27 N N h3 v0 v2 0 1))
set_option maxRecDepth 4000 in
set_option maxHeartbeats 2000000 in
theorem X11_range_c {l : Launch} {G : GT} {N : Nat} {h : HS} {v0 : Nat} {v1 : Int32} {v2 : Int32} {z : (Int32 × HS)} (t_v0 : sh v0 = 11) (hf : X11_range N h v0 v1 v2 = some z) : CT l G yX11_range cX11_range 7 (some .int) 3 65 [.ref (ad G v0), .int v1, .int v2] h (some (.int z.1)) z.2 := by
  unfold X11_range at hf
  refine CT.of (by decide) (Nat.le_of_ble_eq_true rfl) ?_
  intro p e s m below meth c ls E hr hlk w hl
  have hl : lv_has ls 7 [(0, .ref (ad G v0)), (1, .int v1), (2, .int v2)] := hl
  refine lv_aload_n E.1 E.2.1 dX11_range_0 rfl (lv_at hl 0 rfl) ?_
  refine lv_iload_n E.1 E.2.1 dX11_range_1 rfl (lv_at hl 1 rfl) ?_
  obtain ⟨r2, h3, hc1, hf⟩ := bd2_e hf
  refine k_Vi (As := [.int v1]) (rest := []) E w t_v0 ⟨by decide, rfl⟩ (X11_isHouse_c t_v0 hc1) mv_RX11_197 rfl rfl hl.1 ⟨Nat.le_of_ble_eq_true rfl, Nat.le_of_ble_eq_true rfl⟩ (Nat.le_of_ble_eq_true rfl) ⟨Nat.le_refl _, Nat.le_refl _⟩ dX11_range_2 (fun H locs w => ?_)
  refine lv_if_eq (tgt := 20) E.1 E.2.1 dX11_range_5 (by decide) (fun c4 => ?_) (fun c4 => ?_)
  · have hf := q_pos c4 hf
    refine lv_iconst (v := (-1)) E.1 E.2.1 dX11_range_20 rfl ?_
    have hf := Option.some.inj hf
    subst hf
    exact q_iret E w hr hlk dX11_range_21
  · have hf := q_neg c4 hf
    refine lv_iload_n E.1 E.2.1 dX11_range_8 rfl (lv_at hl 2 rfl) ?_
    refine lv_iconst (v := 0) E.1 E.2.1 dX11_range_9 rfl ?_
    refine lv_aload_n E.1 E.2.1 dX11_range_10 rfl (lv_at hl 0 rfl) ?_
    obtain ⟨r6, hc5, hf⟩ := bd1_e hf
    refine k_Vi (As := []) (rest := [.int 0, .int v2]) E w t_v0 ⟨by decide, rfl⟩ (X11_everybody_c t_v0 hc5) mv_RX11_245 rfl rfl hl.1 ⟨Nat.le_of_ble_eq_true rfl, Nat.le_of_ble_eq_true rfl⟩ (Nat.le_of_ble_eq_true rfl) ⟨Nat.le_refl _, Nat.le_refl _⟩ dX11_range_11 (fun H locs w => ?_)
    obtain ⟨r9, hc8, hf⟩ := bd1_e hf
    refine k_Si (As := [.int v2, .int 0, .int r6]) (rest := []) E w (X11_isIn_c  hc8) ms_RX11_123 rfl rfl hl.1 ⟨Nat.le_of_ble_eq_true rfl, Nat.le_of_ble_eq_true rfl⟩ (Nat.le_of_ble_eq_true rfl) ⟨Nat.le_refl _, Nat.le_refl _⟩ dX11_range_14 (fun H locs w => ?_)
    refine lv_if_ne (tgt := 22) E.1 E.2.1 dX11_range_17 (by decide) (fun c11 => ?_) (fun c11 => ?_)
    · have hf := q_neg c11 hf
      refine lv_iconst (v := 0) E.1 E.2.1 dX11_range_22 rfl ?_
      refine lv_istore_n (lv' := [(3, .int 0), (0, .ref (ad G v0)), (1, .int v1), (2, .int v2)]) E.1 E.2.1 dX11_range_23 rfl hl (by decide) rfl (fun ls hl => ?_)
      refine lv_iconst (v := 1) E.1 E.2.1 dX11_range_24 rfl ?_
      refine lv_istore (lv' := [(4, .int 1), (3, .int 0), (0, .ref (ad G v0)), (1, .int v1), (2, .int v2)]) E.1 E.2.1 dX11_range_25 hl (by decide) rfl (fun ls hl => ?_)
      exact X11_range_l27_w E hr hlk N _ _ _ _ _ _ _ _ hf w t_v0 (lv_sub hl [2, 4, 1, 0] rfl)
    · have hf := q_pos c11 hf
      refine lv_iconst (v := (-1)) E.1 E.2.1 dX11_range_20 rfl ?_
      have hf := Option.some.inj hf
      subst hf
      exact q_iret E w hr hlk dX11_range_21

def X11_sounds_l30 (N : Nat) (h : HS) (K4 : Nat → Int32 → Int32 → Int32 → Option Int32) : Nat → Nat → Int32 → Int32 → Int32 → Int32 → Int32 → Option Int32
  | 0, _, _, _, _, _, _ => none
  | n + 1, v0, v1, v2, v3, v4, v5 => (if (h.1 v0 15) ≤ v5 then (if v2 = 0 then K4 v0 v1 0 (v3 + 1) else (if v4 = 0 then K4 v0 v1 0 (v3 + 1) else K4 v0 v1 1 (v3 + 1))) else (if v4 = 0 then (if ((v1 >>> (v5 &&& 31)) &&& 1) = (1 : Int32) then bd1 (X11_noteOf N h v0 v3) fun r12 => bd1 (X11_reaches N h v0 v5 r12 0) fun r15 => (if r15 = 0 then X11_sounds_l30 N h K4 n v0 v1 v2 v3 0 (v5 + 1) else X11_sounds_l30 N h K4 n v0 v1 v2 v3 1 (v5 + 1)) else X11_sounds_l30 N h K4 n v0 v1 v2 v3 0 (v5 + 1)) else X11_sounds_l30 N h K4 n v0 v1 v2 v3 1 (v5 + 1)))
set_option maxRecDepth 4000 in
set_option maxHeartbeats 2000000 in
theorem X11_sounds_l30_w {p : Program} {l : Launch} {e : Env} {s : State} {m : MethodId} {args : Array Value} {below : List Frame} {meth : Method} {c : Code} {G : GT} {N : Nat} {h : HS} {z : Int32} (E : CallFix p m c cX11_sounds 6 s args UW RX11) (hr : meth.sig.returnType = (some .boolean)) (hlk : meth.locks = false) {K4 : Nat → Int32 → Int32 → Int32 → Option Int32} (hK4 : ∀ (H : Heap) (locs : List Loc) (ls : Array Slot) (v0 : Nat) (v1 : Int32) (v2 : Int32) (v3 : Int32), K4 v0 v1 v2 v3 = some z → WD G s h H locs → sh v0 = 11 → lv_has ls 6 [(0, .ref (ad G v0)), (1, .int v1), (2, .int v2), (3, .int v3)] → W p l e ({ frames := 2, cells := 0, slots := 0, locals := 45 } : Room) s m args below meth c H locs 0 0 (MQ below (QC G (some (.int z)) h) args s 0 0 (AD G)) (F0 m 4 ls [])) : ∀ (n : Nat) (H : Heap) (locs : List Loc) (ls : Array Slot) (v0 : Nat) (v1 : Int32) (v2 : Int32) (v3 : Int32) (v4 : Int32) (v5 : Int32), X11_sounds_l30 N h K4 n v0 v1 v2 v3 v4 v5 = some z → WD G s h H locs → sh v0 = 11 → lv_has ls 6 [(0, .ref (ad G v0)), (1, .int v1), (2, .int v2), (3, .int v3), (4, .int v4), (5, .int v5)] → W p l e ({ frames := 2, cells := 0, slots := 0, locals := 45 } : Room) s m args below meth c H locs 0 0 (MQ below (QC G (some (.int z)) h) args s 0 0 (AD G)) (F0 m 30 ls []) := by
  intro n
  induction n with
  | zero =>
    intro H locs ls v0 v1 v2 v3 v4 v5 hf
    cases hf
  | succ n ih =>
    intro H locs ls v0 v1 v2 v3 v4 v5 hf w t_v0 hl
    unfold X11_sounds_l30 at hf
    refine lv_iload E.1 E.2.1 dX11_sounds_30 (lv_at hl 5 rfl) ?_
    refine lv_aload_n E.1 E.2.1 dX11_sounds_32 rfl (lv_at hl 0 rfl) ?_
    refine q_gi E w t_v0 fl_RX11_191 dX11_sounds_33 ?_
    refine lv_icmp_ge (tgt := 82) E.1 E.2.1 dX11_sounds_36 (by decide) (fun c6 => ?_) (fun c6 => ?_)
    · have hf := q_pos c6 hf
      refine lv_iload_n E.1 E.2.1 dX11_sounds_82 rfl (lv_at hl 2 rfl) ?_
      refine lv_if_eq (tgt := 95) E.1 E.2.1 dX11_sounds_83 (by decide) (fun c7 => ?_) (fun c7 => ?_)
      · have hf := q_pos c7 hf
        refine lv_iconst (v := 0) E.1 E.2.1 dX11_sounds_95 rfl ?_
        refine lv_istore_n (lv' := [(2, .int 0), (0, .ref (ad G v0)), (1, .int v1), (3, .int v3), (4, .int v4), (5, .int v5)]) E.1 E.2.1 dX11_sounds_96 rfl hl (by decide) rfl (fun ls hl => ?_)
        refine lv_iinc (v := v3 + 1) (lv' := [(3, .int (v3 + 1)), (2, .int 0), (0, .ref (ad G v0)), (1, .int v1), (4, .int v4), (5, .int v5)]) E.1 E.2.1 dX11_sounds_97 hl (k := 3) rfl rfl (by decide) rfl (fun ls hl => ?_)
        refine lv_goto (tgt := 4) E.1 E.2.1 dX11_sounds_100 (by decide) ?_
        exact hK4 _ _ _ _ _ _ _ hf w t_v0 (lv_sub hl [2, 3, 1, 0] rfl)
      · have hf := q_neg c7 hf
        refine lv_iload E.1 E.2.1 dX11_sounds_86 (lv_at hl 4 rfl) ?_
        refine lv_if_eq (tgt := 95) E.1 E.2.1 dX11_sounds_88 (by decide) (fun c8 => ?_) (fun c8 => ?_)
        · have hf := q_pos c8 hf
          refine lv_iconst (v := 0) E.1 E.2.1 dX11_sounds_95 rfl ?_
          refine lv_istore_n (lv' := [(2, .int 0), (0, .ref (ad G v0)), (1, .int v1), (3, .int v3), (4, .int v4), (5, .int v5)]) E.1 E.2.1 dX11_sounds_96 rfl hl (by decide) rfl (fun ls hl => ?_)
          refine lv_iinc (v := v3 + 1) (lv' := [(3, .int (v3 + 1)), (2, .int 0), (0, .ref (ad G v0)), (1, .int v1), (4, .int v4), (5, .int v5)]) E.1 E.2.1 dX11_sounds_97 hl (k := 3) rfl rfl (by decide) rfl (fun ls hl => ?_)
          refine lv_goto (tgt := 4) E.1 E.2.1 dX11_sounds_100 (by decide) ?_
          exact hK4 _ _ _ _ _ _ _ hf w t_v0 (lv_sub hl [2, 3, 1, 0] rfl)
        · have hf := q_neg c8 hf
          refine lv_iconst (v := 1) E.1 E.2.1 dX11_sounds_91 rfl ?_
          refine lv_goto (tgt := 96) E.1 E.2.1 dX11_sounds_92 (by decide) ?_
          refine lv_istore_n (lv' := [(2, .int 1), (0, .ref (ad G v0)), (1, .int v1), (3, .int v3), (4, .int v4), (5, .int v5)]) E.1 E.2.1 dX11_sounds_96 rfl hl (by decide) rfl (fun ls hl => ?_)
          refine lv_iinc (v := v3 + 1) (lv' := [(3, .int (v3 + 1)), (2, .int 1), (0, .ref (ad G v0)), (1, .int v1), (4, .int v4), (5, .int v5)]) E.1 E.2.1 dX11_sounds_97 hl (k := 3) rfl rfl (by decide) rfl (fun ls hl => ?_)
          refine lv_goto (tgt := 4) E.1 E.2.1 dX11_sounds_100 (by decide) ?_
          exact hK4 _ _ _ _ _ _ _ hf w t_v0 (lv_sub hl [2, 3, 1, 0] rfl)
    · have hf := q_neg c6 hf
      refine lv_iload E.1 E.2.1 dX11_sounds_39 (lv_at hl 4 rfl) ?_
      refine lv_if_ne (tgt := 69) E.1 E.2.1 dX11_sounds_41 (by decide) (fun c9 => ?_) (fun c9 => ?_)
      · have hf := q_neg c9 hf
        refine lv_iconst (v := 1) E.1 E.2.1 dX11_sounds_69 rfl ?_
        refine lv_goto (tgt := 74) E.1 E.2.1 dX11_sounds_70 (by decide) ?_
        refine lv_istore (lv' := [(4, .int 1), (0, .ref (ad G v0)), (1, .int v1), (2, .int v2), (3, .int v3), (5, .int v5)]) E.1 E.2.1 dX11_sounds_74 hl (by decide) rfl (fun ls hl => ?_)
        refine lv_iinc (v := v5 + 1) (lv' := [(5, .int (v5 + 1)), (4, .int 1), (0, .ref (ad G v0)), (1, .int v1), (2, .int v2), (3, .int v3)]) E.1 E.2.1 dX11_sounds_76 hl (k := 5) rfl rfl (by decide) rfl (fun ls hl => ?_)
        refine lv_goto (tgt := 30) E.1 E.2.1 dX11_sounds_79 (by decide) ?_
        exact ih _ _ _ _ _ _ _ _ _ hf w t_v0 (lv_sub hl [2, 3, 4, 5, 1, 0] rfl)
      · have hf := q_pos c9 hf
        refine lv_iload_n E.1 E.2.1 dX11_sounds_44 rfl (lv_at hl 1 rfl) ?_
        refine lv_iload E.1 E.2.1 dX11_sounds_45 (lv_at hl 5 rfl) ?_
        refine lv_ishr E.1 E.2.1 dX11_sounds_47 ?_
        refine lv_iconst (v := 1) E.1 E.2.1 dX11_sounds_48 rfl ?_
        refine lv_iand E.1 E.2.1 dX11_sounds_49 ?_
        refine lv_iconst (v := 1) E.1 E.2.1 dX11_sounds_50 rfl ?_
        refine lv_icmp_ne (tgt := 73) E.1 E.2.1 dX11_sounds_51 (by decide) (fun c10 => ?_) (fun c10 => ?_)
        · have hf := q_neg c10 hf
          refine lv_iconst (v := 0) E.1 E.2.1 dX11_sounds_73 rfl ?_
          refine lv_istore (lv' := [(4, .int 0), (0, .ref (ad G v0)), (1, .int v1), (2, .int v2), (3, .int v3), (5, .int v5)]) E.1 E.2.1 dX11_sounds_74 hl (by decide) rfl (fun ls hl => ?_)
          refine lv_iinc (v := v5 + 1) (lv' := [(5, .int (v5 + 1)), (4, .int 0), (0, .ref (ad G v0)), (1, .int v1), (2, .int v2), (3, .int v3)]) E.1 E.2.1 dX11_sounds_76 hl (k := 5) rfl rfl (by decide) rfl (fun ls hl => ?_)
          refine lv_goto (tgt := 30) E.1 E.2.1 dX11_sounds_79 (by decide) ?_
          exact ih _ _ _ _ _ _ _ _ _ hf w t_v0 (lv_sub hl [2, 3, 4, 5, 1, 0] rfl)
        · have hf := q_pos c10 hf
          refine lv_aload_n E.1 E.2.1 dX11_sounds_54 rfl (lv_at hl 0 rfl) ?_
          refine lv_iload E.1 E.2.1 dX11_sounds_55 (lv_at hl 5 rfl) ?_
          refine lv_aload_n E.1 E.2.1 dX11_sounds_57 rfl (lv_at hl 0 rfl) ?_
          refine lv_iload_n E.1 E.2.1 dX11_sounds_58 rfl (lv_at hl 3 rfl) ?_
          obtain ⟨r12, hc11, hf⟩ := bd1_e hf
          refine k_Vi (As := [.int v3]) (rest := [.int v5, .ref (ad G v0)]) E w t_v0 ⟨by decide, rfl⟩ (X11_noteOf_c t_v0 hc11) mv_RX11_194 rfl rfl hl.1 ⟨Nat.le_of_ble_eq_true rfl, Nat.le_of_ble_eq_true rfl⟩ (Nat.le_of_ble_eq_true rfl) ⟨Nat.le_refl _, Nat.le_refl _⟩ dX11_sounds_59 (fun H locs w => ?_)
          refine lv_iconst (v := 0) E.1 E.2.1 dX11_sounds_62 rfl ?_
          obtain ⟨r15, hc14, hf⟩ := bd1_e hf
          refine k_Vi (As := [.int v5, .int r12, .int 0]) (rest := []) E w t_v0 ⟨by decide, rfl⟩ (X11_reaches_c t_v0 hc14) mv_RX11_228 rfl rfl hl.1 ⟨Nat.le_of_ble_eq_true rfl, Nat.le_of_ble_eq_true rfl⟩ (Nat.le_of_ble_eq_true rfl) ⟨Nat.le_refl _, Nat.le_refl _⟩ dX11_sounds_63 (fun H locs w => ?_)
          refine lv_if_eq (tgt := 73) E.1 E.2.1 dX11_sounds_66 (by decide) (fun c17 => ?_) (fun c17 => ?_)
          · have hf := q_pos c17 hf
            refine lv_iconst (v := 0) E.1 E.2.1 dX11_sounds_73 rfl ?_
            refine lv_istore (lv' := [(4, .int 0), (0, .ref (ad G v0)), (1, .int v1), (2, .int v2), (3, .int v3), (5, .int v5)]) E.1 E.2.1 dX11_sounds_74 hl (by decide) rfl (fun ls hl => ?_)
            refine lv_iinc (v := v5 + 1) (lv' := [(5, .int (v5 + 1)), (4, .int 0), (0, .ref (ad G v0)), (1, .int v1), (2, .int v2), (3, .int v3)]) E.1 E.2.1 dX11_sounds_76 hl (k := 5) rfl rfl (by decide) rfl (fun ls hl => ?_)
            refine lv_goto (tgt := 30) E.1 E.2.1 dX11_sounds_79 (by decide) ?_
            exact ih _ _ _ _ _ _ _ _ _ hf w t_v0 (lv_sub hl [2, 3, 4, 5, 1, 0] rfl)
          · have hf := q_neg c17 hf
            refine lv_iconst (v := 1) E.1 E.2.1 dX11_sounds_69 rfl ?_
            refine lv_goto (tgt := 74) E.1 E.2.1 dX11_sounds_70 (by decide) ?_
            refine lv_istore (lv' := [(4, .int 1), (0, .ref (ad G v0)), (1, .int v1), (2, .int v2), (3, .int v3), (5, .int v5)]) E.1 E.2.1 dX11_sounds_74 hl (by decide) rfl (fun ls hl => ?_)
            refine lv_iinc (v := v5 + 1) (lv' := [(5, .int (v5 + 1)), (4, .int 1), (0, .ref (ad G v0)), (1, .int v1), (2, .int v2), (3, .int v3)]) E.1 E.2.1 dX11_sounds_76 hl (k := 5) rfl rfl (by decide) rfl (fun ls hl => ?_)
            refine lv_goto (tgt := 30) E.1 E.2.1 dX11_sounds_79 (by decide) ?_
            exact ih _ _ _ _ _ _ _ _ _ hf w t_v0 (lv_sub hl [2, 3, 4, 5, 1, 0] rfl)

def X11_sounds_l4 (N : Nat) (h : HS) : Nat → Nat → Int32 → Int32 → Int32 → Option Int32
  | 0, _, _, _, _ => none
  | n + 1, v0, v1, v2, v3 => (if (h.1 v0 14) ≤ v3 then some (nz v2) else bd1 (X11_noteOf N h v0 v3) fun r3 => (if r3 = 0 then X11_sounds_l30 N h (X11_sounds_l4 N h n) N v0 v1 v2 v3 1 0 else X11_sounds_l30 N h (X11_sounds_l4 N h n) N v0 v1 v2 v3 0 0))
set_option maxRecDepth 4000 in
set_option maxHeartbeats 2000000 in
theorem X11_sounds_l4_w {p : Program} {l : Launch} {e : Env} {s : State} {m : MethodId} {args : Array Value} {below : List Frame} {meth : Method} {c : Code} {G : GT} {N : Nat} {h : HS} {z : Int32} (E : CallFix p m c cX11_sounds 6 s args UW RX11) (hr : meth.sig.returnType = (some .boolean)) (hlk : meth.locks = false) : ∀ (n : Nat) (H : Heap) (locs : List Loc) (ls : Array Slot) (v0 : Nat) (v1 : Int32) (v2 : Int32) (v3 : Int32), X11_sounds_l4 N h n v0 v1 v2 v3 = some z → WD G s h H locs → sh v0 = 11 → lv_has ls 6 [(0, .ref (ad G v0)), (1, .int v1), (2, .int v2), (3, .int v3)] → W p l e ({ frames := 2, cells := 0, slots := 0, locals := 45 } : Room) s m args below meth c H locs 0 0 (MQ below (QC G (some (.int z)) h) args s 0 0 (AD G)) (F0 m 4 ls []) := by
  intro n
  induction n with
  | zero =>
    intro H locs ls v0 v1 v2 v3 hf
    cases hf
  | succ n ih =>
    intro H locs ls v0 v1 v2 v3 hf w t_v0 hl
    unfold X11_sounds_l4 at hf
    refine lv_iload_n E.1 E.2.1 dX11_sounds_4 rfl (lv_at hl 3 rfl) ?_
    refine lv_aload_n E.1 E.2.1 dX11_sounds_5 rfl (lv_at hl 0 rfl) ?_
    refine q_gi E w t_v0 fl_RX11_188 dX11_sounds_6 ?_
    refine lv_icmp_ge (tgt := 103) E.1 E.2.1 dX11_sounds_9 (by decide) (fun c1 => ?_) (fun c1 => ?_)
    · have hf := q_pos c1 hf
      refine lv_iload_n E.1 E.2.1 dX11_sounds_103 rfl (lv_at hl 2 rfl) ?_
      have hf := Option.some.inj hf
      subst hf
      exact q_zret E w hr hlk dX11_sounds_104
    · have hf := q_neg c1 hf
      refine lv_aload_n E.1 E.2.1 dX11_sounds_12 rfl (lv_at hl 0 rfl) ?_
      refine lv_iload_n E.1 E.2.1 dX11_sounds_13 rfl (lv_at hl 3 rfl) ?_
      obtain ⟨r3, hc2, hf⟩ := bd1_e hf
      refine k_Vi (As := [.int v3]) (rest := []) E w t_v0 ⟨by decide, rfl⟩ (X11_noteOf_c t_v0 hc2) mv_RX11_194 rfl rfl hl.1 ⟨Nat.le_of_ble_eq_true rfl, Nat.le_of_ble_eq_true rfl⟩ (Nat.le_of_ble_eq_true rfl) ⟨Nat.le_refl _, Nat.le_refl _⟩ dX11_sounds_14 (fun H locs w => ?_)
      refine lv_if_ne (tgt := 24) E.1 E.2.1 dX11_sounds_17 (by decide) (fun c5 => ?_) (fun c5 => ?_)
      · have hf := q_neg c5 hf
        refine lv_iconst (v := 0) E.1 E.2.1 dX11_sounds_24 rfl ?_
        refine lv_istore (lv' := [(4, .int 0), (0, .ref (ad G v0)), (1, .int v1), (2, .int v2), (3, .int v3)]) E.1 E.2.1 dX11_sounds_25 hl (by decide) rfl (fun ls hl => ?_)
        refine lv_iconst (v := 0) E.1 E.2.1 dX11_sounds_27 rfl ?_
        refine lv_istore (lv' := [(5, .int 0), (4, .int 0), (0, .ref (ad G v0)), (1, .int v1), (2, .int v2), (3, .int v3)]) E.1 E.2.1 dX11_sounds_28 hl (by decide) rfl (fun ls hl => ?_)
        exact X11_sounds_l30_w E hr hlk ih N _ _ _ _ _ _ _ _ _ hf w t_v0 (lv_sub hl [2, 3, 4, 5, 1, 0] rfl)
      · have hf := q_pos c5 hf
        refine lv_iconst (v := 1) E.1 E.2.1 dX11_sounds_20 rfl ?_
        refine lv_goto (tgt := 25) E.1 E.2.1 dX11_sounds_21 (by decide) ?_
        refine lv_istore (lv' := [(4, .int 1), (0, .ref (ad G v0)), (1, .int v1), (2, .int v2), (3, .int v3)]) E.1 E.2.1 dX11_sounds_25 hl (by decide) rfl (fun ls hl => ?_)
        refine lv_iconst (v := 0) E.1 E.2.1 dX11_sounds_27 rfl ?_
        refine lv_istore (lv' := [(5, .int 0), (4, .int 1), (0, .ref (ad G v0)), (1, .int v1), (2, .int v2), (3, .int v3)]) E.1 E.2.1 dX11_sounds_28 hl (by decide) rfl (fun ls hl => ?_)
        exact X11_sounds_l30_w E hr hlk ih N _ _ _ _ _ _ _ _ _ hf w t_v0 (lv_sub hl [2, 3, 4, 5, 1, 0] rfl)

def X11_sounds (N : Nat) (h : HS) (v0 : Nat) (v1 : Int32) : Option Int32 := X11_sounds_l4 N h N v0 v1 1 0
set_option maxRecDepth 4000 in
set_option maxHeartbeats 2000000 in
theorem X11_sounds_c {l : Launch} {G : GT} {N : Nat} {h : HS} {v0 : Nat} {v1 : Int32} {z : Int32} (t_v0 : sh v0 = 11) (hf : X11_sounds N h v0 v1 = some z) : CT l G yX11_sounds cX11_sounds 6 (some .boolean) 2 45 [.ref (ad G v0), .int v1] h (some (.int z)) h := by
  unfold X11_sounds at hf
  refine CT.of (by decide) (Nat.le_of_ble_eq_true rfl) ?_
  intro p e s m below meth c ls E hr hlk w hl
  have hl : lv_has ls 6 [(0, .ref (ad G v0)), (1, .int v1)] := hl
  refine lv_iconst (v := 1) E.1 E.2.1 dX11_sounds_0 rfl ?_
  refine lv_istore_n (lv' := [(2, .int 1), (0, .ref (ad G v0)), (1, .int v1)]) E.1 E.2.1 dX11_sounds_1 rfl hl (by decide) rfl (fun ls hl => ?_)
  refine lv_iconst (v := 0) E.1 E.2.1 dX11_sounds_2 rfl ?_
  refine lv_istore_n (lv' := [(3, .int 0), (2, .int 1), (0, .ref (ad G v0)), (1, .int v1)]) E.1 E.2.1 dX11_sounds_3 rfl hl (by decide) rfl (fun ls hl => ?_)
  exact X11_sounds_l4_w E hr hlk N _ _ _ _ _ _ _ hf w t_v0 (lv_sub hl [2, 3, 1, 0] rfl)

def X11_choir_l15 (N : Nat) : Nat → HS → Nat → Int32 → Int32 → Int32 → Option (Int32 × HS)
  | 0, _, _, _, _, _ => none
  | n + 1, h, v0, v2, v3, v4 => bd1 (X11_everybody N h v0) fun r6 => (if r6 < v4 then (if v3 = ((-1) : Int32) then some (v3, h) else (if v2 = 0 then bd1 (X11_bitsOf N h v3) fun r12 => some (r12, h) else some (v3, h))) else (if v3 = ((-1) : Int32) then bd1 (X11_sounds N h v0 v4) fun r16 => (if r16 = 0 then X11_choir_l15 N n h v0 v2 v3 (v4 + 1) else X11_choir_l15 N n h v0 v2 v4 (v4 + 1)) else bd1 (X11_bitsOf N h v4) fun r20 => bd1 (X11_bitsOf N h v3) fun r23 => (if r23 ≤ r20 then X11_choir_l15 N n h v0 v2 v3 (v4 + 1) else bd1 (X11_sounds N h v0 v4) fun r27 => (if r27 = 0 then X11_choir_l15 N n h v0 v2 v3 (v4 + 1) else X11_choir_l15 N n h v0 v2 v4 (v4 + 1)))))
set_option maxRecDepth 4000 in
set_option maxHeartbeats 2000000 in
theorem X11_choir_l15_w {p : Program} {l : Launch} {e : Env} {s : State} {m : MethodId} {args : Array Value} {below : List Frame} {meth : Method} {c : Code} {G : GT} {N : Nat} {z : (Int32 × HS)} (E : CallFix p m c cX11_choir 5 s args UW RX11) (hr : meth.sig.returnType = (some .int)) (hlk : meth.locks = false) : ∀ (n : Nat) (h : HS) (H : Heap) (locs : List Loc) (ls : Array Slot) (v0 : Nat) (v2 : Int32) (v3 : Int32) (v4 : Int32), X11_choir_l15 N n h v0 v2 v3 v4 = some z → WD G s h H locs → sh v0 = 11 → lv_has ls 5 [(0, .ref (ad G v0)), (2, .int v2), (3, .int v3), (4, .int v4)] → W p l e ({ frames := 3, cells := 0, slots := 0, locals := 70 } : Room) s m args below meth c H locs 0 0 (MQ below (QC G (some (.int z.1)) z.2) args s 0 0 (AD G)) (F0 m 15 ls []) := by
  intro n
  induction n with
  | zero =>
    intro h H locs ls v0 v2 v3 v4 hf
    cases hf
  | succ n ih =>
    intro h H locs ls v0 v2 v3 v4 hf w t_v0 hl
    unfold X11_choir_l15 at hf
    refine lv_iload E.1 E.2.1 dX11_choir_15 (lv_at hl 3 rfl) ?_
    refine lv_aload_n E.1 E.2.1 dX11_choir_17 rfl (lv_at hl 0 rfl) ?_
    obtain ⟨r6, hc5, hf⟩ := bd1_e hf
    refine k_Vi (As := []) (rest := [.int v4]) E w t_v0 ⟨by decide, rfl⟩ (X11_everybody_c t_v0 hc5) mv_RX11_245 rfl rfl hl.1 ⟨Nat.le_of_ble_eq_true rfl, Nat.le_of_ble_eq_true rfl⟩ (Nat.le_of_ble_eq_true rfl) ⟨Nat.le_refl _, Nat.le_refl _⟩ dX11_choir_18 (fun H locs w => ?_)
    refine lv_icmp_gt (tgt := 59) E.1 E.2.1 dX11_choir_21 (by decide) (fun c8 => ?_) (fun c8 => ?_)
    · have hf := q_pos c8 hf
      refine lv_iload_n E.1 E.2.1 dX11_choir_59 rfl (lv_at hl 2 rfl) ?_
      refine lv_iconst (v := (-1)) E.1 E.2.1 dX11_choir_60 rfl ?_
      refine lv_icmp_eq (tgt := 68) E.1 E.2.1 dX11_choir_61 (by decide) (fun c9 => ?_) (fun c9 => ?_)
      · have hf := q_pos c9 hf
        refine lv_iload_n E.1 E.2.1 dX11_choir_68 rfl (lv_at hl 2 rfl) ?_
        refine lv_goto (tgt := 76) E.1 E.2.1 dX11_choir_69 (by decide) ?_
        have hf := Option.some.inj hf
        subst hf
        exact q_iret E w hr hlk dX11_choir_76
      · have hf := q_neg c9 hf
        refine lv_iload_n E.1 E.2.1 dX11_choir_64 rfl (lv_at hl 1 rfl) ?_
        refine lv_if_eq (tgt := 72) E.1 E.2.1 dX11_choir_65 (by decide) (fun c10 => ?_) (fun c10 => ?_)
        · have hf := q_pos c10 hf
          refine lv_iload_n E.1 E.2.1 dX11_choir_72 rfl (lv_at hl 2 rfl) ?_
          obtain ⟨r12, hc11, hf⟩ := bd1_e hf
          refine k_Si (As := [.int v3]) (rest := []) E w (X11_bitsOf_c  hc11) ms_RX11_255 rfl rfl hl.1 ⟨Nat.le_of_ble_eq_true rfl, Nat.le_of_ble_eq_true rfl⟩ (Nat.le_of_ble_eq_true rfl) ⟨Nat.le_refl _, Nat.le_refl _⟩ dX11_choir_73 (fun H locs w => ?_)
          have hf := Option.some.inj hf
          subst hf
          exact q_iret E w hr hlk dX11_choir_76
        · have hf := q_neg c10 hf
          refine lv_iload_n E.1 E.2.1 dX11_choir_68 rfl (lv_at hl 2 rfl) ?_
          refine lv_goto (tgt := 76) E.1 E.2.1 dX11_choir_69 (by decide) ?_
          have hf := Option.some.inj hf
          subst hf
          exact q_iret E w hr hlk dX11_choir_76
    · have hf := q_neg c8 hf
      refine lv_iload_n E.1 E.2.1 dX11_choir_24 rfl (lv_at hl 2 rfl) ?_
      refine lv_iconst (v := (-1)) E.1 E.2.1 dX11_choir_25 rfl ?_
      refine lv_icmp_eq (tgt := 41) E.1 E.2.1 dX11_choir_26 (by decide) (fun c14 => ?_) (fun c14 => ?_)
      · have hf := q_pos c14 hf
        refine lv_aload_n E.1 E.2.1 dX11_choir_41 rfl (lv_at hl 0 rfl) ?_
        refine lv_iload E.1 E.2.1 dX11_choir_42 (lv_at hl 3 rfl) ?_
        obtain ⟨r16, hc15, hf⟩ := bd1_e hf
        refine k_Vi (As := [.int v4]) (rest := []) E w t_v0 ⟨by decide, rfl⟩ (X11_sounds_c t_v0 hc15) mv_RX11_283 rfl rfl hl.1 ⟨Nat.le_of_ble_eq_true rfl, Nat.le_of_ble_eq_true rfl⟩ (Nat.le_of_ble_eq_true rfl) ⟨Nat.le_refl _, Nat.le_refl _⟩ dX11_choir_44 (fun H locs w => ?_)
        refine lv_if_eq (tgt := 53) E.1 E.2.1 dX11_choir_47 (by decide) (fun c18 => ?_) (fun c18 => ?_)
        · have hf := q_pos c18 hf
          refine lv_iinc (v := v4 + 1) (lv' := [(4, .int (v4 + 1)), (0, .ref (ad G v0)), (2, .int v2), (3, .int v3)]) E.1 E.2.1 dX11_choir_53 hl (k := 3) rfl rfl (by decide) rfl (fun ls hl => ?_)
          refine lv_goto (tgt := 15) E.1 E.2.1 dX11_choir_56 (by decide) ?_
          exact ih _ _ _ _ _ _ _ _ hf w t_v0 (lv_sub hl [1, 2, 3, 0] rfl)
        · have hf := q_neg c18 hf
          refine lv_iload E.1 E.2.1 dX11_choir_50 (lv_at hl 3 rfl) ?_
          refine lv_istore_n (lv' := [(3, .int v4), (0, .ref (ad G v0)), (2, .int v2), (4, .int v4)]) E.1 E.2.1 dX11_choir_52 rfl hl (by decide) rfl (fun ls hl => ?_)
          refine lv_iinc (v := v4 + 1) (lv' := [(4, .int (v4 + 1)), (3, .int v4), (0, .ref (ad G v0)), (2, .int v2)]) E.1 E.2.1 dX11_choir_53 hl (k := 3) rfl rfl (by decide) rfl (fun ls hl => ?_)
          refine lv_goto (tgt := 15) E.1 E.2.1 dX11_choir_56 (by decide) ?_
          exact ih _ _ _ _ _ _ _ _ hf w t_v0 (lv_sub hl [2, 3, 1, 0] rfl)
      · have hf := q_neg c14 hf
        refine lv_iload E.1 E.2.1 dX11_choir_29 (lv_at hl 3 rfl) ?_
        obtain ⟨r20, hc19, hf⟩ := bd1_e hf
        refine k_Si (As := [.int v4]) (rest := []) E w (X11_bitsOf_c  hc19) ms_RX11_255 rfl rfl hl.1 ⟨Nat.le_of_ble_eq_true rfl, Nat.le_of_ble_eq_true rfl⟩ (Nat.le_of_ble_eq_true rfl) ⟨Nat.le_refl _, Nat.le_refl _⟩ dX11_choir_31 (fun H locs w => ?_)
        refine lv_iload_n E.1 E.2.1 dX11_choir_34 rfl (lv_at hl 2 rfl) ?_
        obtain ⟨r23, hc22, hf⟩ := bd1_e hf
        refine k_Si (As := [.int v3]) (rest := [.int r20]) E w (X11_bitsOf_c  hc22) ms_RX11_255 rfl rfl hl.1 ⟨Nat.le_of_ble_eq_true rfl, Nat.le_of_ble_eq_true rfl⟩ (Nat.le_of_ble_eq_true rfl) ⟨Nat.le_refl _, Nat.le_refl _⟩ dX11_choir_35 (fun H locs w => ?_)
        refine lv_icmp_ge (tgt := 53) E.1 E.2.1 dX11_choir_38 (by decide) (fun c25 => ?_) (fun c25 => ?_)
        · have hf := q_pos c25 hf
          refine lv_iinc (v := v4 + 1) (lv' := [(4, .int (v4 + 1)), (0, .ref (ad G v0)), (2, .int v2), (3, .int v3)]) E.1 E.2.1 dX11_choir_53 hl (k := 3) rfl rfl (by decide) rfl (fun ls hl => ?_)
          refine lv_goto (tgt := 15) E.1 E.2.1 dX11_choir_56 (by decide) ?_
          exact ih _ _ _ _ _ _ _ _ hf w t_v0 (lv_sub hl [1, 2, 3, 0] rfl)
        · have hf := q_neg c25 hf
          refine lv_aload_n E.1 E.2.1 dX11_choir_41 rfl (lv_at hl 0 rfl) ?_
          refine lv_iload E.1 E.2.1 dX11_choir_42 (lv_at hl 3 rfl) ?_
          obtain ⟨r27, hc26, hf⟩ := bd1_e hf
          refine k_Vi (As := [.int v4]) (rest := []) E w t_v0 ⟨by decide, rfl⟩ (X11_sounds_c t_v0 hc26) mv_RX11_283 rfl rfl hl.1 ⟨Nat.le_of_ble_eq_true rfl, Nat.le_of_ble_eq_true rfl⟩ (Nat.le_of_ble_eq_true rfl) ⟨Nat.le_refl _, Nat.le_refl _⟩ dX11_choir_44 (fun H locs w => ?_)
          refine lv_if_eq (tgt := 53) E.1 E.2.1 dX11_choir_47 (by decide) (fun c29 => ?_) (fun c29 => ?_)
          · have hf := q_pos c29 hf
            refine lv_iinc (v := v4 + 1) (lv' := [(4, .int (v4 + 1)), (0, .ref (ad G v0)), (2, .int v2), (3, .int v3)]) E.1 E.2.1 dX11_choir_53 hl (k := 3) rfl rfl (by decide) rfl (fun ls hl => ?_)
            refine lv_goto (tgt := 15) E.1 E.2.1 dX11_choir_56 (by decide) ?_
            exact ih _ _ _ _ _ _ _ _ hf w t_v0 (lv_sub hl [1, 2, 3, 0] rfl)
          · have hf := q_neg c29 hf
            refine lv_iload E.1 E.2.1 dX11_choir_50 (lv_at hl 3 rfl) ?_
            refine lv_istore_n (lv' := [(3, .int v4), (0, .ref (ad G v0)), (2, .int v2), (4, .int v4)]) E.1 E.2.1 dX11_choir_52 rfl hl (by decide) rfl (fun ls hl => ?_)
            refine lv_iinc (v := v4 + 1) (lv' := [(4, .int (v4 + 1)), (3, .int v4), (0, .ref (ad G v0)), (2, .int v2)]) E.1 E.2.1 dX11_choir_53 hl (k := 3) rfl rfl (by decide) rfl (fun ls hl => ?_)
            refine lv_goto (tgt := 15) E.1 E.2.1 dX11_choir_56 (by decide) ?_
            exact ih _ _ _ _ _ _ _ _ hf w t_v0 (lv_sub hl [2, 3, 1, 0] rfl)

def X11_choir (N : Nat) (h : HS) (v0 : Nat) (v1 : Int32) (v2 : Int32) : Option (Int32 × HS) := bd2 (X11_isHouse N h v0 v1) fun r2 h3 => (if r2 = 0 then some ((-1), h3) else X11_choir_l15 N N h3 v0 v2 (-1) 0)
set_option maxRecDepth 4000 in
set_option maxHeartbeats 2000000 in
theorem X11_choir_c {l : Launch} {G : GT} {N : Nat} {h : HS} {v0 : Nat} {v1 : Int32} {v2 : Int32} {z : (Int32 × HS)} (t_v0 : sh v0 = 11) (hf : X11_choir N h v0 v1 v2 = some z) : CT l G yX11_choir cX11_choir 5 (some .int) 3 70 [.ref (ad G v0), .int v1, .int v2] h (some (.int z.1)) z.2 := by
  unfold X11_choir at hf
  refine CT.of (by decide) (Nat.le_of_ble_eq_true rfl) ?_
  intro p e s m below meth c ls E hr hlk w hl
  have hl : lv_has ls 5 [(0, .ref (ad G v0)), (1, .int v1), (2, .int v2)] := hl
  refine lv_aload_n E.1 E.2.1 dX11_choir_0 rfl (lv_at hl 0 rfl) ?_
  refine lv_iload_n E.1 E.2.1 dX11_choir_1 rfl (lv_at hl 1 rfl) ?_
  obtain ⟨r2, h3, hc1, hf⟩ := bd2_e hf
  refine k_Vi (As := [.int v1]) (rest := []) E w t_v0 ⟨by decide, rfl⟩ (X11_isHouse_c t_v0 hc1) mv_RX11_197 rfl rfl hl.1 ⟨Nat.le_of_ble_eq_true rfl, Nat.le_of_ble_eq_true rfl⟩ (Nat.le_of_ble_eq_true rfl) ⟨Nat.le_refl _, Nat.le_refl _⟩ dX11_choir_2 (fun H locs w => ?_)
  refine lv_if_ne (tgt := 10) E.1 E.2.1 dX11_choir_5 (by decide) (fun c4 => ?_) (fun c4 => ?_)
  · have hf := q_neg c4 hf
    refine lv_iconst (v := (-1)) E.1 E.2.1 dX11_choir_10 rfl ?_
    refine lv_istore_n (lv' := [(3, .int (-1)), (0, .ref (ad G v0)), (1, .int v1), (2, .int v2)]) E.1 E.2.1 dX11_choir_11 rfl hl (by decide) rfl (fun ls hl => ?_)
    refine lv_iconst (v := 0) E.1 E.2.1 dX11_choir_12 rfl ?_
    refine lv_istore (lv' := [(4, .int 0), (3, .int (-1)), (0, .ref (ad G v0)), (1, .int v1), (2, .int v2)]) E.1 E.2.1 dX11_choir_13 hl (by decide) rfl (fun ls hl => ?_)
    exact X11_choir_l15_w E hr hlk N _ _ _ _ _ _ _ _ hf w t_v0 (lv_sub hl [2, 4, 1, 0] rfl)
  · have hf := q_pos c4 hf
    refine lv_iconst (v := (-1)) E.1 E.2.1 dX11_choir_8 rfl ?_
    have hf := Option.some.inj hf
    subst hf
    exact q_iret E w hr hlk dX11_choir_9

def X11_shiftedBy_l4 (N : Nat) (h : HS) : Nat → Nat → Int32 → Int32 → Int32 → Option Int32
  | 0, _, _, _, _ => none
  | n + 1, v0, v1, v2, v3 => (if (h.1 v0 14) ≤ v3 then some v2 else bd1 (X11_noteOf N h v0 v3) fun r3 => (if r3 ≤ 0 then X11_shiftedBy_l4 N h n v0 v1 (v2 + 0) (v3 + 1) else bd1 (X11_noteOf N h v0 v3) fun r7 => bd1 (X11_isReached N h v0 (r7 + v1)) fun r10 => (if r10 = 0 then X11_shiftedBy_l4 N h n v0 v1 (v2 + 0) (v3 + 1) else X11_shiftedBy_l4 N h n v0 v1 (v2 + 1) (v3 + 1))))
set_option maxRecDepth 4000 in
set_option maxHeartbeats 2000000 in
theorem X11_shiftedBy_l4_w {p : Program} {l : Launch} {e : Env} {s : State} {m : MethodId} {args : Array Value} {below : List Frame} {meth : Method} {c : Code} {G : GT} {N : Nat} {h : HS} {z : Int32} (E : CallFix p m c cX11_shiftedBy 4 s args UW RX11) (hr : meth.sig.returnType = (some .int)) (hlk : meth.locks = false) : ∀ (n : Nat) (H : Heap) (locs : List Loc) (ls : Array Slot) (v0 : Nat) (v1 : Int32) (v2 : Int32) (v3 : Int32), X11_shiftedBy_l4 N h n v0 v1 v2 v3 = some z → WD G s h H locs → sh v0 = 11 → lv_has ls 4 [(0, .ref (ad G v0)), (1, .int v1), (2, .int v2), (3, .int v3)] → W p l e ({ frames := 3, cells := 0, slots := 0, locals := 68 } : Room) s m args below meth c H locs 0 0 (MQ below (QC G (some (.int z)) h) args s 0 0 (AD G)) (F0 m 4 ls []) := by
  intro n
  induction n with
  | zero =>
    intro H locs ls v0 v1 v2 v3 hf
    cases hf
  | succ n ih =>
    intro H locs ls v0 v1 v2 v3 hf w t_v0 hl
    unfold X11_shiftedBy_l4 at hf
    refine lv_iload_n E.1 E.2.1 dX11_shiftedBy_4 rfl (lv_at hl 3 rfl) ?_
    refine lv_aload_n E.1 E.2.1 dX11_shiftedBy_5 rfl (lv_at hl 0 rfl) ?_
    refine q_gi E w t_v0 fl_RX11_188 dX11_shiftedBy_6 ?_
    refine lv_icmp_ge (tgt := 48) E.1 E.2.1 dX11_shiftedBy_9 (by decide) (fun c1 => ?_) (fun c1 => ?_)
    · have hf := q_pos c1 hf
      refine lv_iload_n E.1 E.2.1 dX11_shiftedBy_48 rfl (lv_at hl 2 rfl) ?_
      have hf := Option.some.inj hf
      subst hf
      exact q_iret E w hr hlk dX11_shiftedBy_49
    · have hf := q_neg c1 hf
      refine lv_iload_n E.1 E.2.1 dX11_shiftedBy_12 rfl (lv_at hl 2 rfl) ?_
      refine lv_aload_n E.1 E.2.1 dX11_shiftedBy_13 rfl (lv_at hl 0 rfl) ?_
      refine lv_iload_n E.1 E.2.1 dX11_shiftedBy_14 rfl (lv_at hl 3 rfl) ?_
      obtain ⟨r3, hc2, hf⟩ := bd1_e hf
      refine k_Vi (As := [.int v3]) (rest := [.int v2]) E w t_v0 ⟨by decide, rfl⟩ (X11_noteOf_c t_v0 hc2) mv_RX11_194 rfl rfl hl.1 ⟨Nat.le_of_ble_eq_true rfl, Nat.le_of_ble_eq_true rfl⟩ (Nat.le_of_ble_eq_true rfl) ⟨Nat.le_refl _, Nat.le_refl _⟩ dX11_shiftedBy_15 (fun H locs w => ?_)
      refine lv_if_le (tgt := 39) E.1 E.2.1 dX11_shiftedBy_18 (by decide) (fun c5 => ?_) (fun c5 => ?_)
      · have hf := q_pos c5 hf
        refine lv_iconst (v := 0) E.1 E.2.1 dX11_shiftedBy_39 rfl ?_
        refine lv_iadd E.1 E.2.1 dX11_shiftedBy_40 ?_
        refine lv_istore_n (lv' := [(2, .int (v2 + 0)), (0, .ref (ad G v0)), (1, .int v1), (3, .int v3)]) E.1 E.2.1 dX11_shiftedBy_41 rfl hl (by decide) rfl (fun ls hl => ?_)
        refine lv_iinc (v := v3 + 1) (lv' := [(3, .int (v3 + 1)), (2, .int (v2 + 0)), (0, .ref (ad G v0)), (1, .int v1)]) E.1 E.2.1 dX11_shiftedBy_42 hl (k := 3) rfl rfl (by decide) rfl (fun ls hl => ?_)
        refine lv_goto (tgt := 4) E.1 E.2.1 dX11_shiftedBy_45 (by decide) ?_
        exact ih _ _ _ _ _ _ _ hf w t_v0 (lv_sub hl [2, 3, 1, 0] rfl)
      · have hf := q_neg c5 hf
        refine lv_aload_n E.1 E.2.1 dX11_shiftedBy_21 rfl (lv_at hl 0 rfl) ?_
        refine lv_aload_n E.1 E.2.1 dX11_shiftedBy_22 rfl (lv_at hl 0 rfl) ?_
        refine lv_iload_n E.1 E.2.1 dX11_shiftedBy_23 rfl (lv_at hl 3 rfl) ?_
        obtain ⟨r7, hc6, hf⟩ := bd1_e hf
        refine k_Vi (As := [.int v3]) (rest := [.ref (ad G v0), .int v2]) E w t_v0 ⟨by decide, rfl⟩ (X11_noteOf_c t_v0 hc6) mv_RX11_194 rfl rfl hl.1 ⟨Nat.le_of_ble_eq_true rfl, Nat.le_of_ble_eq_true rfl⟩ (Nat.le_of_ble_eq_true rfl) ⟨Nat.le_refl _, Nat.le_refl _⟩ dX11_shiftedBy_24 (fun H locs w => ?_)
        refine lv_iload_n E.1 E.2.1 dX11_shiftedBy_27 rfl (lv_at hl 1 rfl) ?_
        refine lv_iadd E.1 E.2.1 dX11_shiftedBy_28 ?_
        obtain ⟨r10, hc9, hf⟩ := bd1_e hf
        refine k_Vi (As := [.int (r7 + v1)]) (rest := [.int v2]) E w t_v0 ⟨by decide, rfl⟩ (X11_isReached_c t_v0 hc9) mv_RX11_261 rfl rfl hl.1 ⟨Nat.le_of_ble_eq_true rfl, Nat.le_of_ble_eq_true rfl⟩ (Nat.le_of_ble_eq_true rfl) ⟨Nat.le_refl _, Nat.le_refl _⟩ dX11_shiftedBy_29 (fun H locs w => ?_)
        refine lv_if_eq (tgt := 39) E.1 E.2.1 dX11_shiftedBy_32 (by decide) (fun c12 => ?_) (fun c12 => ?_)
        · have hf := q_pos c12 hf
          refine lv_iconst (v := 0) E.1 E.2.1 dX11_shiftedBy_39 rfl ?_
          refine lv_iadd E.1 E.2.1 dX11_shiftedBy_40 ?_
          refine lv_istore_n (lv' := [(2, .int (v2 + 0)), (0, .ref (ad G v0)), (1, .int v1), (3, .int v3)]) E.1 E.2.1 dX11_shiftedBy_41 rfl hl (by decide) rfl (fun ls hl => ?_)
          refine lv_iinc (v := v3 + 1) (lv' := [(3, .int (v3 + 1)), (2, .int (v2 + 0)), (0, .ref (ad G v0)), (1, .int v1)]) E.1 E.2.1 dX11_shiftedBy_42 hl (k := 3) rfl rfl (by decide) rfl (fun ls hl => ?_)
          refine lv_goto (tgt := 4) E.1 E.2.1 dX11_shiftedBy_45 (by decide) ?_
          exact ih _ _ _ _ _ _ _ hf w t_v0 (lv_sub hl [2, 3, 1, 0] rfl)
        · have hf := q_neg c12 hf
          refine lv_iconst (v := 1) E.1 E.2.1 dX11_shiftedBy_35 rfl ?_
          refine lv_goto (tgt := 40) E.1 E.2.1 dX11_shiftedBy_36 (by decide) ?_
          refine lv_iadd E.1 E.2.1 dX11_shiftedBy_40 ?_
          refine lv_istore_n (lv' := [(2, .int (v2 + 1)), (0, .ref (ad G v0)), (1, .int v1), (3, .int v3)]) E.1 E.2.1 dX11_shiftedBy_41 rfl hl (by decide) rfl (fun ls hl => ?_)
          refine lv_iinc (v := v3 + 1) (lv' := [(3, .int (v3 + 1)), (2, .int (v2 + 1)), (0, .ref (ad G v0)), (1, .int v1)]) E.1 E.2.1 dX11_shiftedBy_42 hl (k := 3) rfl rfl (by decide) rfl (fun ls hl => ?_)
          refine lv_goto (tgt := 4) E.1 E.2.1 dX11_shiftedBy_45 (by decide) ?_
          exact ih _ _ _ _ _ _ _ hf w t_v0 (lv_sub hl [2, 3, 1, 0] rfl)

def X11_shiftedBy (N : Nat) (h : HS) (v0 : Nat) (v1 : Int32) : Option Int32 := X11_shiftedBy_l4 N h N v0 v1 0 0
set_option maxRecDepth 4000 in
set_option maxHeartbeats 2000000 in
theorem X11_shiftedBy_c {l : Launch} {G : GT} {N : Nat} {h : HS} {v0 : Nat} {v1 : Int32} {z : Int32} (t_v0 : sh v0 = 11) (hf : X11_shiftedBy N h v0 v1 = some z) : CT l G yX11_shiftedBy cX11_shiftedBy 4 (some .int) 3 68 [.ref (ad G v0), .int v1] h (some (.int z)) h := by
  unfold X11_shiftedBy at hf
  refine CT.of (by decide) (Nat.le_of_ble_eq_true rfl) ?_
  intro p e s m below meth c ls E hr hlk w hl
  have hl : lv_has ls 4 [(0, .ref (ad G v0)), (1, .int v1)] := hl
  refine lv_iconst (v := 0) E.1 E.2.1 dX11_shiftedBy_0 rfl ?_
  refine lv_istore_n (lv' := [(2, .int 0), (0, .ref (ad G v0)), (1, .int v1)]) E.1 E.2.1 dX11_shiftedBy_1 rfl hl (by decide) rfl (fun ls hl => ?_)
  refine lv_iconst (v := 0) E.1 E.2.1 dX11_shiftedBy_2 rfl ?_
  refine lv_istore_n (lv' := [(3, .int 0), (2, .int 0), (0, .ref (ad G v0)), (1, .int v1)]) E.1 E.2.1 dX11_shiftedBy_3 rfl hl (by decide) rfl (fun ls hl => ?_)
  exact X11_shiftedBy_l4_w E hr hlk N _ _ _ _ _ _ _ hf w t_v0 (lv_sub hl [2, 3, 1, 0] rfl)

def X11_shift (N : Nat) (h : HS) (v0 : Nat) (v1 : Int32) (v2 : Int32) : Option (Int32 × HS) := bd2 (X11_isHouse N h v0 v1) fun r2 h3 => (if r2 = 0 then some ((-1), h3) else bd1 (X11_isIn N h3 v2 (-8) 8) fun r6 => (if r6 = 0 then some ((-1), h3) else bd1 (X11_shiftedBy N h3 v0 v2) fun r10 => some (r10, h3)))
set_option maxRecDepth 4000 in
set_option maxHeartbeats 2000000 in
theorem X11_shift_c {l : Launch} {G : GT} {N : Nat} {h : HS} {v0 : Nat} {v1 : Int32} {v2 : Int32} {z : (Int32 × HS)} (t_v0 : sh v0 = 11) (hf : X11_shift N h v0 v1 v2 = some z) : CT l G yX11_shift cX11_shift 3 (some .int) 4 91 [.ref (ad G v0), .int v1, .int v2] h (some (.int z.1)) z.2 := by
  unfold X11_shift at hf
  refine CT.of (by decide) (Nat.le_of_ble_eq_true rfl) ?_
  intro p e s m below meth c ls E hr hlk w hl
  have hl : lv_has ls 3 [(0, .ref (ad G v0)), (1, .int v1), (2, .int v2)] := hl
  refine lv_aload_n E.1 E.2.1 dX11_shift_0 rfl (lv_at hl 0 rfl) ?_
  refine lv_iload_n E.1 E.2.1 dX11_shift_1 rfl (lv_at hl 1 rfl) ?_
  obtain ⟨r2, h3, hc1, hf⟩ := bd2_e hf
  refine k_Vi (As := [.int v1]) (rest := []) E w t_v0 ⟨by decide, rfl⟩ (X11_isHouse_c t_v0 hc1) mv_RX11_197 rfl rfl hl.1 ⟨Nat.le_of_ble_eq_true rfl, Nat.le_of_ble_eq_true rfl⟩ (Nat.le_of_ble_eq_true rfl) ⟨Nat.le_refl _, Nat.le_refl _⟩ dX11_shift_2 (fun H locs w => ?_)
  refine lv_if_eq (tgt := 27) E.1 E.2.1 dX11_shift_5 (by decide) (fun c4 => ?_) (fun c4 => ?_)
  · have hf := q_pos c4 hf
    refine lv_iconst (v := (-1)) E.1 E.2.1 dX11_shift_27 rfl ?_
    have hf := Option.some.inj hf
    subst hf
    exact q_iret E w hr hlk dX11_shift_28
  · have hf := q_neg c4 hf
    refine lv_iload_n E.1 E.2.1 dX11_shift_8 rfl (lv_at hl 2 rfl) ?_
    refine lv_bipush (v := (-8)) E.1 E.2.1 dX11_shift_9 rfl ?_
    refine lv_bipush (v := 8) E.1 E.2.1 dX11_shift_11 rfl ?_
    obtain ⟨r6, hc5, hf⟩ := bd1_e hf
    refine k_Si (As := [.int v2, .int (-8), .int 8]) (rest := []) E w (X11_isIn_c  hc5) ms_RX11_123 rfl rfl hl.1 ⟨Nat.le_of_ble_eq_true rfl, Nat.le_of_ble_eq_true rfl⟩ (Nat.le_of_ble_eq_true rfl) ⟨Nat.le_refl _, Nat.le_refl _⟩ dX11_shift_13 (fun H locs w => ?_)
    refine lv_if_eq (tgt := 27) E.1 E.2.1 dX11_shift_16 (by decide) (fun c8 => ?_) (fun c8 => ?_)
    · have hf := q_pos c8 hf
      refine lv_iconst (v := (-1)) E.1 E.2.1 dX11_shift_27 rfl ?_
      have hf := Option.some.inj hf
      subst hf
      exact q_iret E w hr hlk dX11_shift_28
    · have hf := q_neg c8 hf
      refine lv_aload_n E.1 E.2.1 dX11_shift_19 rfl (lv_at hl 0 rfl) ?_
      refine lv_iload_n E.1 E.2.1 dX11_shift_20 rfl (lv_at hl 2 rfl) ?_
      obtain ⟨r10, hc9, hf⟩ := bd1_e hf
      refine k_Vi (As := [.int v2]) (rest := []) E w t_v0 ⟨by decide, rfl⟩ (X11_shiftedBy_c t_v0 hc9) mv_RX11_286 rfl rfl hl.1 ⟨Nat.le_of_ble_eq_true rfl, Nat.le_of_ble_eq_true rfl⟩ (Nat.le_of_ble_eq_true rfl) ⟨Nat.le_refl _, Nat.le_refl _⟩ dX11_shift_21 (fun H locs w => ?_)
      refine lv_goto (tgt := 28) E.1 E.2.1 dX11_shift_24 (by decide) ?_
      have hf := Option.some.inj hf
      subst hf
      exact q_iret E w hr hlk dX11_shift_28

def X11_tuned_b39 (N : Nat) (h : HS) (K15 : HS → Nat → Int32 → Int32 → Option (Int32 × HS)) (v0 : Nat) (v3 : Int32) (u0 : Int32) : Option (Int32 × HS) := bd1 (X11_shiftedBy N h v0 (-v3)) fun r14 => bd1 (X11_shiftedBy N h v0 u0) fun r17 => (if r14 ≤ r17 then K15 h v0 u0 (v3 + 1) else K15 h v0 (-v3) (v3 + 1))
set_option maxRecDepth 4000 in
set_option maxHeartbeats 2000000 in
theorem X11_tuned_b39_w {p : Program} {l : Launch} {e : Env} {s : State} {m : MethodId} {args : Array Value} {below : List Frame} {meth : Method} {c : Code} {G : GT} {N : Nat} {z : (Int32 × HS)} {h : HS} (E : CallFix p m c cX11_tuned 4 s args UW RX11) (hr : meth.sig.returnType = (some .int)) (hlk : meth.locks = false) {K15 : HS → Nat → Int32 → Int32 → Option (Int32 × HS)} (hK15 : ∀ (h : HS) (H : Heap) (locs : List Loc) (ls : Array Slot) (v0 : Nat) (v2 : Int32) (v3 : Int32), K15 h v0 v2 v3 = some z → WD G s h H locs → sh v0 = 11 → lv_has ls 4 [(0, .ref (ad G v0)), (2, .int v2), (3, .int v3)] → W p l e ({ frames := 4, cells := 0, slots := 0, locals := 91 } : Room) s m args below meth c H locs 0 0 (MQ below (QC G (some (.int z.1)) z.2) args s 0 0 (AD G)) (F0 m 15 ls [])) {H : Heap} {locs : List Loc} {ls : Array Slot} {v0 : Nat} {v3 : Int32} {u0 : Int32} (hf : X11_tuned_b39 N h K15 v0 v3 u0 = some z) (w : WD G s h H locs) (t_v0 : sh v0 = 11) (hl : lv_has ls 4 [(0, .ref (ad G v0)), (3, .int v3)]) : W p l e ({ frames := 4, cells := 0, slots := 0, locals := 91 } : Room) s m args below meth c H locs 0 0 (MQ below (QC G (some (.int z.1)) z.2) args s 0 0 (AD G)) (F0 m 39 ls [.int u0]) := by
  unfold X11_tuned_b39 at hf
  refine lv_istore_n (lv' := [(2, .int u0), (0, .ref (ad G v0)), (3, .int v3)]) E.1 E.2.1 dX11_tuned_39 rfl hl (by decide) rfl (fun ls hl => ?_)
  refine lv_aload_n E.1 E.2.1 dX11_tuned_40 rfl (lv_at hl 1 rfl) ?_
  refine lv_iload_n E.1 E.2.1 dX11_tuned_41 rfl (lv_at hl 2 rfl) ?_
  refine lv_ineg E.1 E.2.1 dX11_tuned_42 ?_
  obtain ⟨r14, hc13, hf⟩ := bd1_e hf
  refine k_Vi (As := [.int (-v3)]) (rest := []) E w t_v0 ⟨by decide, rfl⟩ (X11_shiftedBy_c t_v0 hc13) mv_RX11_286 rfl rfl hl.1 ⟨Nat.le_of_ble_eq_true rfl, Nat.le_of_ble_eq_true rfl⟩ (Nat.le_of_ble_eq_true rfl) ⟨Nat.le_refl _, Nat.le_refl _⟩ dX11_tuned_43 (fun H locs w => ?_)
  refine lv_aload_n E.1 E.2.1 dX11_tuned_46 rfl (lv_at hl 1 rfl) ?_
  refine lv_iload_n E.1 E.2.1 dX11_tuned_47 rfl (lv_at hl 0 rfl) ?_
  obtain ⟨r17, hc16, hf⟩ := bd1_e hf
  refine k_Vi (As := [.int u0]) (rest := [.int r14]) E w t_v0 ⟨by decide, rfl⟩ (X11_shiftedBy_c t_v0 hc16) mv_RX11_286 rfl rfl hl.1 ⟨Nat.le_of_ble_eq_true rfl, Nat.le_of_ble_eq_true rfl⟩ (Nat.le_of_ble_eq_true rfl) ⟨Nat.le_refl _, Nat.le_refl _⟩ dX11_tuned_48 (fun H locs w => ?_)
  refine lv_icmp_le (tgt := 59) E.1 E.2.1 dX11_tuned_51 (by decide) (fun c19 => ?_) (fun c19 => ?_)
  · have hf := q_pos c19 hf
    refine lv_iload_n E.1 E.2.1 dX11_tuned_59 rfl (lv_at hl 0 rfl) ?_
    refine lv_istore_n (lv' := [(2, .int u0), (0, .ref (ad G v0)), (3, .int v3)]) E.1 E.2.1 dX11_tuned_60 rfl hl (by decide) rfl (fun ls hl => ?_)
    refine lv_iinc (v := v3 + 1) (lv' := [(3, .int (v3 + 1)), (2, .int u0), (0, .ref (ad G v0))]) E.1 E.2.1 dX11_tuned_61 hl (k := 2) rfl rfl (by decide) rfl (fun ls hl => ?_)
    refine lv_goto (tgt := 15) E.1 E.2.1 dX11_tuned_64 (by decide) ?_
    exact hK15 _ _ _ _ _ _ _ hf w t_v0 (lv_sub hl [2, 1, 0] rfl)
  · have hf := q_neg c19 hf
    refine lv_iload_n E.1 E.2.1 dX11_tuned_54 rfl (lv_at hl 2 rfl) ?_
    refine lv_ineg E.1 E.2.1 dX11_tuned_55 ?_
    refine lv_goto (tgt := 60) E.1 E.2.1 dX11_tuned_56 (by decide) ?_
    refine lv_istore_n (lv' := [(2, .int (-v3)), (0, .ref (ad G v0)), (3, .int v3)]) E.1 E.2.1 dX11_tuned_60 rfl hl (by decide) rfl (fun ls hl => ?_)
    refine lv_iinc (v := v3 + 1) (lv' := [(3, .int (v3 + 1)), (2, .int (-v3)), (0, .ref (ad G v0))]) E.1 E.2.1 dX11_tuned_61 hl (k := 2) rfl rfl (by decide) rfl (fun ls hl => ?_)
    refine lv_goto (tgt := 15) E.1 E.2.1 dX11_tuned_64 (by decide) ?_
    exact hK15 _ _ _ _ _ _ _ hf w t_v0 (lv_sub hl [2, 1, 0] rfl)

def X11_tuned_l15 (N : Nat) : Nat → HS → Nat → Int32 → Int32 → Option (Int32 × HS)
  | 0, _, _, _, _ => none
  | n + 1, h, v0, v2, v3 => (if (9 : Int32) ≤ v3 then some (v2, h) else bd1 (X11_shiftedBy N h v0 v3) fun r7 => bd1 (X11_shiftedBy N h v0 v2) fun r10 => (if r7 ≤ r10 then X11_tuned_b39 N h (X11_tuned_l15 N n) v0 v3 v2 else X11_tuned_b39 N h (X11_tuned_l15 N n) v0 v3 v3))
set_option maxRecDepth 4000 in
set_option maxHeartbeats 2000000 in
theorem X11_tuned_l15_w {p : Program} {l : Launch} {e : Env} {s : State} {m : MethodId} {args : Array Value} {below : List Frame} {meth : Method} {c : Code} {G : GT} {N : Nat} {z : (Int32 × HS)} (E : CallFix p m c cX11_tuned 4 s args UW RX11) (hr : meth.sig.returnType = (some .int)) (hlk : meth.locks = false) : ∀ (n : Nat) (h : HS) (H : Heap) (locs : List Loc) (ls : Array Slot) (v0 : Nat) (v2 : Int32) (v3 : Int32), X11_tuned_l15 N n h v0 v2 v3 = some z → WD G s h H locs → sh v0 = 11 → lv_has ls 4 [(0, .ref (ad G v0)), (2, .int v2), (3, .int v3)] → W p l e ({ frames := 4, cells := 0, slots := 0, locals := 91 } : Room) s m args below meth c H locs 0 0 (MQ below (QC G (some (.int z.1)) z.2) args s 0 0 (AD G)) (F0 m 15 ls []) := by
  intro n
  induction n with
  | zero =>
    intro h H locs ls v0 v2 v3 hf
    cases hf
  | succ n ih =>
    intro h H locs ls v0 v2 v3 hf w t_v0 hl
    unfold X11_tuned_l15 at hf
    refine lv_iload_n E.1 E.2.1 dX11_tuned_15 rfl (lv_at hl 2 rfl) ?_
    refine lv_bipush (v := 9) E.1 E.2.1 dX11_tuned_16 rfl ?_
    refine lv_icmp_ge (tgt := 67) E.1 E.2.1 dX11_tuned_18 (by decide) (fun c5 => ?_) (fun c5 => ?_)
    · have hf := q_pos c5 hf
      refine lv_iload_n E.1 E.2.1 dX11_tuned_67 rfl (lv_at hl 1 rfl) ?_
      have hf := Option.some.inj hf
      subst hf
      exact q_iret E w hr hlk dX11_tuned_68
    · have hf := q_neg c5 hf
      refine lv_aload_n E.1 E.2.1 dX11_tuned_21 rfl (lv_at hl 0 rfl) ?_
      refine lv_iload_n E.1 E.2.1 dX11_tuned_22 rfl (lv_at hl 2 rfl) ?_
      obtain ⟨r7, hc6, hf⟩ := bd1_e hf
      refine k_Vi (As := [.int v3]) (rest := []) E w t_v0 ⟨by decide, rfl⟩ (X11_shiftedBy_c t_v0 hc6) mv_RX11_286 rfl rfl hl.1 ⟨Nat.le_of_ble_eq_true rfl, Nat.le_of_ble_eq_true rfl⟩ (Nat.le_of_ble_eq_true rfl) ⟨Nat.le_refl _, Nat.le_refl _⟩ dX11_tuned_23 (fun H locs w => ?_)
      refine lv_aload_n E.1 E.2.1 dX11_tuned_26 rfl (lv_at hl 0 rfl) ?_
      refine lv_iload_n E.1 E.2.1 dX11_tuned_27 rfl (lv_at hl 1 rfl) ?_
      obtain ⟨r10, hc9, hf⟩ := bd1_e hf
      refine k_Vi (As := [.int v2]) (rest := [.int r7]) E w t_v0 ⟨by decide, rfl⟩ (X11_shiftedBy_c t_v0 hc9) mv_RX11_286 rfl rfl hl.1 ⟨Nat.le_of_ble_eq_true rfl, Nat.le_of_ble_eq_true rfl⟩ (Nat.le_of_ble_eq_true rfl) ⟨Nat.le_refl _, Nat.le_refl _⟩ dX11_tuned_28 (fun H locs w => ?_)
      refine lv_icmp_le (tgt := 38) E.1 E.2.1 dX11_tuned_31 (by decide) (fun c12 => ?_) (fun c12 => ?_)
      · have hf := q_pos c12 hf
        refine lv_iload_n E.1 E.2.1 dX11_tuned_38 rfl (lv_at hl 1 rfl) ?_
        exact X11_tuned_b39_w E hr hlk ih hf w t_v0 (lv_sub hl [0, 2] rfl)
      · have hf := q_neg c12 hf
        refine lv_iload_n E.1 E.2.1 dX11_tuned_34 rfl (lv_at hl 2 rfl) ?_
        refine lv_goto (tgt := 39) E.1 E.2.1 dX11_tuned_35 (by decide) ?_
        exact X11_tuned_b39_w E hr hlk ih hf w t_v0 (lv_sub hl [0, 2] rfl)

def X11_tuned (N : Nat) (h : HS) (v0 : Nat) (v1 : Int32) : Option (Int32 × HS) := bd2 (X11_isHouse N h v0 v1) fun r2 h3 => (if r2 = 0 then some ((-99), h3) else X11_tuned_l15 N N h3 v0 0 1)
set_option maxRecDepth 4000 in
set_option maxHeartbeats 2000000 in
theorem X11_tuned_c {l : Launch} {G : GT} {N : Nat} {h : HS} {v0 : Nat} {v1 : Int32} {z : (Int32 × HS)} (t_v0 : sh v0 = 11) (hf : X11_tuned N h v0 v1 = some z) : CT l G yX11_tuned cX11_tuned 4 (some .int) 4 91 [.ref (ad G v0), .int v1] h (some (.int z.1)) z.2 := by
  unfold X11_tuned at hf
  refine CT.of (by decide) (Nat.le_of_ble_eq_true rfl) ?_
  intro p e s m below meth c ls E hr hlk w hl
  have hl : lv_has ls 4 [(0, .ref (ad G v0)), (1, .int v1)] := hl
  refine lv_aload_n E.1 E.2.1 dX11_tuned_0 rfl (lv_at hl 0 rfl) ?_
  refine lv_iload_n E.1 E.2.1 dX11_tuned_1 rfl (lv_at hl 1 rfl) ?_
  obtain ⟨r2, h3, hc1, hf⟩ := bd2_e hf
  refine k_Vi (As := [.int v1]) (rest := []) E w t_v0 ⟨by decide, rfl⟩ (X11_isHouse_c t_v0 hc1) mv_RX11_197 rfl rfl hl.1 ⟨Nat.le_of_ble_eq_true rfl, Nat.le_of_ble_eq_true rfl⟩ (Nat.le_of_ble_eq_true rfl) ⟨Nat.le_refl _, Nat.le_refl _⟩ dX11_tuned_2 (fun H locs w => ?_)
  refine lv_if_ne (tgt := 11) E.1 E.2.1 dX11_tuned_5 (by decide) (fun c4 => ?_) (fun c4 => ?_)
  · have hf := q_neg c4 hf
    refine lv_iconst (v := 0) E.1 E.2.1 dX11_tuned_11 rfl ?_
    refine lv_istore_n (lv' := [(2, .int 0), (0, .ref (ad G v0)), (1, .int v1)]) E.1 E.2.1 dX11_tuned_12 rfl hl (by decide) rfl (fun ls hl => ?_)
    refine lv_iconst (v := 1) E.1 E.2.1 dX11_tuned_13 rfl ?_
    refine lv_istore_n (lv' := [(3, .int 1), (2, .int 0), (0, .ref (ad G v0)), (1, .int v1)]) E.1 E.2.1 dX11_tuned_14 rfl hl (by decide) rfl (fun ls hl => ?_)
    exact X11_tuned_l15_w E hr hlk N _ _ _ _ _ _ _ hf w t_v0 (lv_sub hl [2, 1, 0] rfl)
  · have hf := q_pos c4 hf
    refine lv_bipush (v := (-99)) E.1 E.2.1 dX11_tuned_8 rfl ?_
    have hf := Option.some.inj hf
    subst hf
    exact q_iret E w hr hlk dX11_tuned_10
