def X3_beginNight_l34 (N : Nat) : Nat → HS → Nat → Int32 → Option HS
  | 0, _, _, _ => none
  | n + 1, h, v0, v1 => (if (5 : Int32) ≤ v1 then some h else bd1 (X10_at N h ((h.2 v0) + 9) v1) fun r13 => (if v1 < 0 ∨ 5 ≤ v1.toNatClampNeg then none else sq (wi h (v0 + 11) v1.toNatClampNeg r13) fun h16 => X3_beginNight_l34 N n h16 v0 (v1 + 1)))
set_option maxRecDepth 4000 in
set_option maxHeartbeats 2000000 in
theorem X3_beginNight_l34_w {p : Program} {l : Launch} {e : Env} {s : State} {m : MethodId} {args : Array Value} {below : List Frame} {meth : Method} {c : Code} {G : GT} {N : Nat} {z : HS} (E : CallFix p m c cX3_beginNight 2 s args UW RX3) (hr : meth.sig.returnType = none) (hlk : meth.locks = false) : ∀ (n : Nat) (h : HS) (H : Heap) (locs : List Loc) (ls : Array Slot) (v0 : Nat) (v1 : Int32), X3_beginNight_l34 N n h v0 v1 = some z → WD G s h H locs → sh v0 = 3 → lv_has ls 2 [(0, .ref (ad G v0)), (1, .int v1)] → W p l e ({ frames := 3, cells := 0, slots := 0, locals := 64 } : Room) s m args below meth c H locs 0 0 (MQ below (QC G none z) args s 0 0 (AD G)) (F0 m 34 ls []) := by
  intro n
  induction n with
  | zero =>
    intro h H locs ls v0 v1 hf
    cases hf
  | succ n ih =>
    intro h H locs ls v0 v1 hf w t_v0 hl
    unfold X3_beginNight_l34 at hf
    refine lv_iload_n E.1 E.2.1 dX3_beginNight_34 rfl (lv_at hl 1 rfl) ?_
    refine lv_iconst (v := 5) E.1 E.2.1 dX3_beginNight_35 rfl ?_
    refine lv_icmp_ge (tgt := 62) E.1 E.2.1 dX3_beginNight_36 (by decide) (fun c10 => ?_) (fun c10 => ?_)
    · have hf := q_pos c10 hf
      have hf := Option.some.inj hf
      subst hf
      exact q_vret E w hr hlk dX3_beginNight_62
    · have hf := q_neg c10 hf
      refine lv_aload_n E.1 E.2.1 dX3_beginNight_39 rfl (lv_at hl 0 rfl) ?_
      refine q_gs E w 11 t_v0 fl_RX3_49 dX3_beginNight_40 ?_
      refine lv_iload_n E.1 E.2.1 dX3_beginNight_43 rfl (lv_at hl 1 rfl) ?_
      refine lv_aload_n E.1 E.2.1 dX3_beginNight_44 rfl (lv_at hl 0 rfl) ?_
      refine q_gh E w t_v0 (by decide) fl_RX3_12 dX3_beginNight_45 (fun t11 => ?_)
      refine q_gs E w 9 t11 fl_RX3_87 dX3_beginNight_48 ?_
      refine lv_iload_n E.1 E.2.1 dX3_beginNight_51 rfl (lv_at hl 1 rfl) ?_
      obtain ⟨r13, hc12, hf⟩ := bd1_e hf
      refine k_Ni (As := [.ref (ad G ((h.2 v0) + 9)), .int v1]) (rest := [.int v1, .ref (ad G (v0 + 11))]) E w (X10_at_c ((lay_1_13 t11).1) hc12) mn_RX3_90 rfl rfl hl.1 ⟨Nat.le_of_ble_eq_true rfl, Nat.le_of_ble_eq_true rfl⟩ (Nat.le_of_ble_eq_true rfl) ⟨Nat.le_refl _, Nat.le_refl _⟩ dX3_beginNight_52 (fun H locs w => ?_)
      obtain ⟨b15, hf⟩ := q_if hf
      refine p_iast E w ((lay_3_11 t_v0).1) ((lay_3_11 t_v0).2) b15 dX3_beginNight_55 (fun h16 H locs eh w => ?_)
      have hf := sq_e eh hf
      clear eh
      refine lv_iinc (v := v1 + 1) (lv' := [(1, .int (v1 + 1)), (0, .ref (ad G v0))]) E.1 E.2.1 dX3_beginNight_56 hl (k := 1) rfl rfl (by decide) rfl (fun ls hl => ?_)
      refine lv_goto (tgt := 34) E.1 E.2.1 dX3_beginNight_59 (by decide) ?_
      exact ih _ _ _ _ _ _ hf w t_v0 (lv_sub hl [1, 0] rfl)

def X3_beginNight (N : Nat) (h : HS) (v0 : Nat) : Option HS := bd1 (X1_nextFrom N h (h.2 v0) 0) fun r3 => sq (wi h v0 2 r3) fun h5 => sq (wi h5 v0 3 0) fun h6 => sq (wi h6 v0 8 0) fun h7 => sq (wi h7 v0 9 (-1)) fun h8 => sq (wi h8 v0 10 (-1)) fun h9 => X3_beginNight_l34 N N h9 v0 0
set_option maxRecDepth 4000 in
set_option maxHeartbeats 2000000 in
theorem X3_beginNight_c {l : Launch} {G : GT} {N : Nat} {h : HS} {v0 : Nat} {z : HS} (t_v0 : sh v0 = 3) (hf : X3_beginNight N h v0 = some z) : CT l G yX3_beginNight cX3_beginNight 2 none 3 64 [.ref (ad G v0)] h none z := by
  unfold X3_beginNight at hf
  refine CT.of (by decide) (Nat.le_of_ble_eq_true rfl) ?_
  intro p e s m below meth c ls E hr hlk w hl
  have hl : lv_has ls 2 [(0, .ref (ad G v0))] := hl
  refine lv_aload_n E.1 E.2.1 dX3_beginNight_0 rfl (lv_at hl 0 rfl) ?_
  refine lv_aload_n E.1 E.2.1 dX3_beginNight_1 rfl (lv_at hl 0 rfl) ?_
  refine q_gh E w t_v0 (by decide) fl_RX3_12 dX3_beginNight_2 (fun t1 => ?_)
  refine lv_iconst (v := 0) E.1 E.2.1 dX3_beginNight_5 rfl ?_
  obtain ⟨r3, hc2, hf⟩ := bd1_e hf
  refine k_Vi (As := [.int 0]) (rest := [.ref (ad G v0)]) E w t1 ⟨by decide, rfl⟩ (X1_nextFrom_c t1 hc2) mv_RX3_83 rfl rfl hl.1 ⟨Nat.le_of_ble_eq_true rfl, Nat.le_of_ble_eq_true rfl⟩ (Nat.le_of_ble_eq_true rfl) ⟨Nat.le_refl _, Nat.le_refl _⟩ dX3_beginNight_6 (fun H locs w => ?_)
  refine p_pi E w t_v0 fl_RX3_22 (fp_3_2 _) dX3_beginNight_9 (fun h5 H locs eh w => ?_)
  have hf := sq_e eh hf
  clear eh
  refine lv_aload_n E.1 E.2.1 dX3_beginNight_12 rfl (lv_at hl 0 rfl) ?_
  refine lv_iconst (v := 0) E.1 E.2.1 dX3_beginNight_13 rfl ?_
  refine p_pi E w t_v0 fl_RX3_25 (fp_3_3 _) dX3_beginNight_14 (fun h6 H locs eh w => ?_)
  have hf := sq_e eh hf
  clear eh
  refine lv_aload_n E.1 E.2.1 dX3_beginNight_17 rfl (lv_at hl 0 rfl) ?_
  refine lv_iconst (v := 0) E.1 E.2.1 dX3_beginNight_18 rfl ?_
  refine p_pi E w t_v0 fl_RX3_40 (fp_3_8 _) dX3_beginNight_19 (fun h7 H locs eh w => ?_)
  have hf := sq_e eh hf
  clear eh
  refine lv_aload_n E.1 E.2.1 dX3_beginNight_22 rfl (lv_at hl 0 rfl) ?_
  refine lv_iconst (v := (-1)) E.1 E.2.1 dX3_beginNight_23 rfl ?_
  refine p_pi E w t_v0 fl_RX3_43 (fp_3_9 _) dX3_beginNight_24 (fun h8 H locs eh w => ?_)
  have hf := sq_e eh hf
  clear eh
  refine lv_aload_n E.1 E.2.1 dX3_beginNight_27 rfl (lv_at hl 0 rfl) ?_
  refine lv_iconst (v := (-1)) E.1 E.2.1 dX3_beginNight_28 rfl ?_
  refine p_pi E w t_v0 fl_RX3_46 (fp_3_10 _) dX3_beginNight_29 (fun h9 H locs eh w => ?_)
  have hf := sq_e eh hf
  clear eh
  refine lv_iconst (v := 0) E.1 E.2.1 dX3_beginNight_32 rfl ?_
  refine lv_istore_n (lv' := [(1, .int 0), (0, .ref (ad G v0))]) E.1 E.2.1 dX3_beginNight_33 rfl hl (by decide) rfl (fun ls hl => ?_)
  exact X3_beginNight_l34_w E hr hlk N _ _ _ _ _ _ hf w t_v0 (lv_sub hl [1, 0] rfl)

def X3_enter (N : Nat) (h : HS) (v0 : Nat) (v1 : Nat) : Option HS := sq (wr h v0 v1) fun h1 => sq (wi h1 v0 1 0) fun h2 => sq (wi h2 v0 4 0) fun h3 => sq (wi h3 v0 5 0) fun h4 => sq (wi h4 v0 6 0) fun h5 => sq (wi h5 v0 7 0) fun h6 => sq (wi h6 v0 14 0) fun h7 => sq (wi h7 v0 15 0) fun h8 => sq (wi h8 v0 16 (-1)) fun h9 => sq (wi h9 v0 17 (-1)) fun h10 => sq (wi h10 v0 18 0) fun h11 => bd1 (J7_fill_53178 N h11 (v0 + 12) 0) fun h14 => bd1 (X3_beginNight N h14 v0) fun h17 => some h17
set_option maxRecDepth 4000 in
set_option maxHeartbeats 2000000 in
theorem X3_enter_c {l : Launch} {G : GT} {N : Nat} {h : HS} {v0 : Nat} {v1 : Nat} {z : HS} (t_v0 : sh v0 = 3) (t_v1 : sh v1 = 1) (hf : X3_enter N h v0 v1 = some z) : CT l G yX3_enter cX3_enter 2 none 4 85 [.ref (ad G v0), .ref (ad G v1)] h none z := by
  unfold X3_enter at hf
  refine CT.of (by decide) (Nat.le_of_ble_eq_true rfl) ?_
  intro p e s m below meth c ls E hr hlk w hl
  have hl : lv_has ls 2 [(0, .ref (ad G v0)), (1, .ref (ad G v1))] := hl
  refine lv_aload_n E.1 E.2.1 dX3_enter_0 rfl (lv_at hl 0 rfl) ?_
  refine lv_aload_n E.1 E.2.1 dX3_enter_1 rfl (lv_at hl 1 rfl) ?_
  refine p_pr E w t_v0 fl_RX3_12 (by decide) (fp_3_0 _) ⟨fun z => absurd z (by decide), fun _ => t_v1⟩ dX3_enter_2 (fun h1 H locs eh w => ?_)
  have hf := sq_e eh hf
  clear eh
  refine lv_aload_n E.1 E.2.1 dX3_enter_5 rfl (lv_at hl 0 rfl) ?_
  refine lv_iconst (v := 0) E.1 E.2.1 dX3_enter_6 rfl ?_
  refine p_pi E w t_v0 fl_RX3_18 (fp_3_1 _) dX3_enter_7 (fun h2 H locs eh w => ?_)
  have hf := sq_e eh hf
  clear eh
  refine lv_aload_n E.1 E.2.1 dX3_enter_10 rfl (lv_at hl 0 rfl) ?_
  refine lv_iconst (v := 0) E.1 E.2.1 dX3_enter_11 rfl ?_
  refine p_pi E w t_v0 fl_RX3_28 (fp_3_4 _) dX3_enter_12 (fun h3 H locs eh w => ?_)
  have hf := sq_e eh hf
  clear eh
  refine lv_aload_n E.1 E.2.1 dX3_enter_15 rfl (lv_at hl 0 rfl) ?_
  refine lv_iconst (v := 0) E.1 E.2.1 dX3_enter_16 rfl ?_
  refine p_pi E w t_v0 fl_RX3_31 (fp_3_5 _) dX3_enter_17 (fun h4 H locs eh w => ?_)
  have hf := sq_e eh hf
  clear eh
  refine lv_aload_n E.1 E.2.1 dX3_enter_20 rfl (lv_at hl 0 rfl) ?_
  refine lv_iconst (v := 0) E.1 E.2.1 dX3_enter_21 rfl ?_
  refine p_pi E w t_v0 fl_RX3_34 (fp_3_6 _) dX3_enter_22 (fun h5 H locs eh w => ?_)
  have hf := sq_e eh hf
  clear eh
  refine lv_aload_n E.1 E.2.1 dX3_enter_25 rfl (lv_at hl 0 rfl) ?_
  refine lv_iconst (v := 0) E.1 E.2.1 dX3_enter_26 rfl ?_
  refine p_pi E w t_v0 fl_RX3_37 (fp_3_7 _) dX3_enter_27 (fun h6 H locs eh w => ?_)
  have hf := sq_e eh hf
  clear eh
  refine lv_aload_n E.1 E.2.1 dX3_enter_30 rfl (lv_at hl 0 rfl) ?_
  refine lv_iconst (v := 0) E.1 E.2.1 dX3_enter_31 rfl ?_
  refine p_pi E w t_v0 fl_RX3_59 (fp_3_14 _) dX3_enter_32 (fun h7 H locs eh w => ?_)
  have hf := sq_e eh hf
  clear eh
  refine lv_aload_n E.1 E.2.1 dX3_enter_35 rfl (lv_at hl 0 rfl) ?_
  refine lv_iconst (v := 0) E.1 E.2.1 dX3_enter_36 rfl ?_
  refine p_pi E w t_v0 fl_RX3_62 (fp_3_15 _) dX3_enter_37 (fun h8 H locs eh w => ?_)
  have hf := sq_e eh hf
  clear eh
  refine lv_aload_n E.1 E.2.1 dX3_enter_40 rfl (lv_at hl 0 rfl) ?_
  refine lv_iconst (v := (-1)) E.1 E.2.1 dX3_enter_41 rfl ?_
  refine p_pi E w t_v0 fl_RX3_65 (fp_3_16 _) dX3_enter_42 (fun h9 H locs eh w => ?_)
  have hf := sq_e eh hf
  clear eh
  refine lv_aload_n E.1 E.2.1 dX3_enter_45 rfl (lv_at hl 0 rfl) ?_
  refine lv_iconst (v := (-1)) E.1 E.2.1 dX3_enter_46 rfl ?_
  refine p_pi E w t_v0 fl_RX3_68 (fp_3_17 _) dX3_enter_47 (fun h10 H locs eh w => ?_)
  have hf := sq_e eh hf
  clear eh
  refine lv_aload_n E.1 E.2.1 dX3_enter_50 rfl (lv_at hl 0 rfl) ?_
  refine lv_iconst (v := 0) E.1 E.2.1 dX3_enter_51 rfl ?_
  refine p_pi E w t_v0 fl_RX3_71 (fp_3_18 _) dX3_enter_52 (fun h11 H locs eh w => ?_)
  have hf := sq_e eh hf
  clear eh
  refine lv_aload_n E.1 E.2.1 dX3_enter_55 rfl (lv_at hl 0 rfl) ?_
  refine q_gs E w 12 t_v0 fl_RX3_53 dX3_enter_56 ?_
  refine lv_iconst (v := 0) E.1 E.2.1 dX3_enter_59 rfl ?_
  obtain ⟨h14, hc12, hf⟩ := bd1_e hf
  refine k_Sv (As := [.ref (ad G (v0 + 12)), .int 0]) (rest := []) E w (J7_fill_53178_c ((lay_3_12 t_v0).1) hc12) ms_RX3_74 rfl rfl hl.1 ⟨Nat.le_of_ble_eq_true rfl, Nat.le_of_ble_eq_true rfl⟩ (Nat.le_of_ble_eq_true rfl) ⟨Nat.le_refl _, Nat.le_refl _⟩ dX3_enter_60 (fun H locs w => ?_)
  refine lv_aload_n E.1 E.2.1 dX3_enter_63 rfl (lv_at hl 0 rfl) ?_
  obtain ⟨h17, hc15, hf⟩ := bd1_e hf
  refine k_Vv (As := []) (rest := []) E w t_v0 ⟨by decide, rfl⟩ (X3_beginNight_c t_v0 hc15) mv_RX3_80 rfl rfl hl.1 ⟨Nat.le_of_ble_eq_true rfl, Nat.le_of_ble_eq_true rfl⟩ (Nat.le_of_ble_eq_true rfl) ⟨Nat.le_refl _, Nat.le_refl _⟩ dX3_enter_64 (fun H locs w => ?_)
  have hf := Option.some.inj hf
  subst hf
  exact q_vret E w hr hlk dX3_enter_67

def X3_sangAhead (N : Nat) (h : HS) (v0 : Nat) : Option Int32 := (if (h.1 v0 2) = ((-1) : Int32) then some (-1) else (if (h.1 v0 9) = ((-1) : Int32) then some (-1) else (if (h.1 v0 2) = ((h.1 v0 9) + 1) then some (h.1 v0 10) else some (-1))))
set_option maxRecDepth 4000 in
set_option maxHeartbeats 2000000 in
theorem X3_sangAhead_c {l : Launch} {G : GT} {N : Nat} {h : HS} {v0 : Nat} {z : Int32} (t_v0 : sh v0 = 3) (hf : X3_sangAhead N h v0 = some z) : CT l G yX3_sangAhead cX3_sangAhead 1 (some .int) 0 0 [.ref (ad G v0)] h (some (.int z)) h := by
  unfold X3_sangAhead at hf
  refine CT.of (by decide) (Nat.le_of_ble_eq_true rfl) ?_
  intro p e s m below meth c ls E hr hlk w hl
  have hl : lv_has ls 1 [(0, .ref (ad G v0))] := hl
  refine lv_aload_n E.1 E.2.1 dX3_sangAhead_0 rfl (lv_at hl 0 rfl) ?_
  refine q_gi E w t_v0 fl_RX3_22 dX3_sangAhead_1 ?_
  refine lv_iconst (v := (-1)) E.1 E.2.1 dX3_sangAhead_4 rfl ?_
  refine lv_icmp_eq (tgt := 36) E.1 E.2.1 dX3_sangAhead_5 (by decide) (fun c1 => ?_) (fun c1 => ?_)
  · have hf := q_pos c1 hf
    refine lv_iconst (v := (-1)) E.1 E.2.1 dX3_sangAhead_36 rfl ?_
    have hf := Option.some.inj hf
    subst hf
    exact q_iret E w hr hlk dX3_sangAhead_37
  · have hf := q_neg c1 hf
    refine lv_aload_n E.1 E.2.1 dX3_sangAhead_8 rfl (lv_at hl 0 rfl) ?_
    refine q_gi E w t_v0 fl_RX3_43 dX3_sangAhead_9 ?_
    refine lv_iconst (v := (-1)) E.1 E.2.1 dX3_sangAhead_12 rfl ?_
    refine lv_icmp_eq (tgt := 36) E.1 E.2.1 dX3_sangAhead_13 (by decide) (fun c2 => ?_) (fun c2 => ?_)
    · have hf := q_pos c2 hf
      refine lv_iconst (v := (-1)) E.1 E.2.1 dX3_sangAhead_36 rfl ?_
      have hf := Option.some.inj hf
      subst hf
      exact q_iret E w hr hlk dX3_sangAhead_37
    · have hf := q_neg c2 hf
      refine lv_aload_n E.1 E.2.1 dX3_sangAhead_16 rfl (lv_at hl 0 rfl) ?_
      refine q_gi E w t_v0 fl_RX3_22 dX3_sangAhead_17 ?_
      refine lv_aload_n E.1 E.2.1 dX3_sangAhead_20 rfl (lv_at hl 0 rfl) ?_
      refine q_gi E w t_v0 fl_RX3_43 dX3_sangAhead_21 ?_
      refine lv_iconst (v := 1) E.1 E.2.1 dX3_sangAhead_24 rfl ?_
      refine lv_iadd E.1 E.2.1 dX3_sangAhead_25 ?_
      refine lv_icmp_ne (tgt := 36) E.1 E.2.1 dX3_sangAhead_26 (by decide) (fun c3 => ?_) (fun c3 => ?_)
      · have hf := q_neg c3 hf
        refine lv_iconst (v := (-1)) E.1 E.2.1 dX3_sangAhead_36 rfl ?_
        have hf := Option.some.inj hf
        subst hf
        exact q_iret E w hr hlk dX3_sangAhead_37
      · have hf := q_pos c3 hf
        refine lv_aload_n E.1 E.2.1 dX3_sangAhead_29 rfl (lv_at hl 0 rfl) ?_
        refine q_gi E w t_v0 fl_RX3_46 dX3_sangAhead_30 ?_
        refine lv_goto (tgt := 37) E.1 E.2.1 dX3_sangAhead_33 (by decide) ?_
        have hf := Option.some.inj hf
        subst hf
        exact q_iret E w hr hlk dX3_sangAhead_37

def X3_may (N : Nat) (h : HS) (v0 : Nat) (v1 : Int32) (v2 : Int32) : Option Int32 := (if v1 = 0 then (if (h.1 v0 2) = ((-1) : Int32) then some (nz 0) else bd1 (X1_hasSinger N h (h.2 v0) v2) fun r5 => (if r5 = 0 then some (nz 0) else bd1 (X3_sangAhead N h v0) fun r9 => (if v2 = r9 then some (nz 0) else bd1 (X10_at N h (v0 + 11) v2) fun r13 => bd1 (X10_at N h ((h.2 v0) + 4) (h.1 v0 2)) fun r17 => (if r13 < r17 then some (nz 0) else some (nz 1))))) else (if v1 = 1 then bd1 (X1_hasSinger N h (h.2 v0) v2) fun r23 => some (nz r23) else (if v1 = 2 then bd1 (X1_hasSinger N h (h.2 v0) v2) fun r28 => some (nz r28) else (if v1 = 3 then (if (h.1 v0 2) = ((-1) : Int32) then some (nz 0) else some (nz 1)) else (if (99 : Int32) ≤ (h.1 v0 1) then some (nz 0) else some (nz 1))))))
set_option maxRecDepth 4000 in
set_option maxHeartbeats 2000000 in
theorem X3_may_c {l : Launch} {G : GT} {N : Nat} {h : HS} {v0 : Nat} {v1 : Int32} {v2 : Int32} {z : Int32} (t_v0 : sh v0 = 3) (hf : X3_may N h v0 v1 v2 = some z) : CT l G yX3_may cX3_may 3 (some .boolean) 1 21 [.ref (ad G v0), .int v1, .int v2] h (some (.int z)) h := by
  unfold X3_may at hf
  refine CT.of (by decide) (Nat.le_of_ble_eq_true rfl) ?_
  intro p e s m below meth c ls E hr hlk w hl
  have hl : lv_has ls 3 [(0, .ref (ad G v0)), (1, .int v1), (2, .int v2)] := hl
  refine lv_iload_n E.1 E.2.1 dX3_may_0 rfl (lv_at hl 1 rfl) ?_
  by_cases c1 : v1 = 0
  · have hf := q_pos c1 hf
    refine lv_tableIn (off := 31) (tgt := 32) E.1 E.2.1 dX3_may_1 (by rw [c1]; decide) (by rw [c1]; decide) (by rw [c1]; rfl) (by decide) ?_
    refine lv_aload_n E.1 E.2.1 dX3_may_32 rfl (lv_at hl 0 rfl) ?_
    refine q_gi E w t_v0 fl_RX3_22 dX3_may_33 ?_
    refine lv_iconst (v := (-1)) E.1 E.2.1 dX3_may_36 rfl ?_
    refine lv_icmp_eq (tgt := 88) E.1 E.2.1 dX3_may_37 (by decide) (fun c2 => ?_) (fun c2 => ?_)
    · have hf := q_pos c2 hf
      refine lv_iconst (v := 0) E.1 E.2.1 dX3_may_88 rfl ?_
      have hf := Option.some.inj hf
      subst hf
      exact q_zret E w hr hlk dX3_may_89
    · have hf := q_neg c2 hf
      refine lv_aload_n E.1 E.2.1 dX3_may_40 rfl (lv_at hl 0 rfl) ?_
      refine q_gh E w t_v0 (by decide) fl_RX3_12 dX3_may_41 (fun t3 => ?_)
      refine lv_iload_n E.1 E.2.1 dX3_may_44 rfl (lv_at hl 2 rfl) ?_
      obtain ⟨r5, hc4, hf⟩ := bd1_e hf
      refine k_Vi (As := [.int v2]) (rest := []) E w t3 ⟨by decide, rfl⟩ (X1_hasSinger_c t3 hc4) mv_RX3_142 rfl rfl hl.1 ⟨Nat.le_of_ble_eq_true rfl, Nat.le_of_ble_eq_true rfl⟩ (Nat.le_of_ble_eq_true rfl) ⟨Nat.le_refl _, Nat.le_refl _⟩ dX3_may_45 (fun H locs w => ?_)
      refine lv_if_eq (tgt := 88) E.1 E.2.1 dX3_may_48 (by decide) (fun c7 => ?_) (fun c7 => ?_)
      · have hf := q_pos c7 hf
        refine lv_iconst (v := 0) E.1 E.2.1 dX3_may_88 rfl ?_
        have hf := Option.some.inj hf
        subst hf
        exact q_zret E w hr hlk dX3_may_89
      · have hf := q_neg c7 hf
        refine lv_iload_n E.1 E.2.1 dX3_may_51 rfl (lv_at hl 2 rfl) ?_
        refine lv_aload_n E.1 E.2.1 dX3_may_52 rfl (lv_at hl 0 rfl) ?_
        obtain ⟨r9, hc8, hf⟩ := bd1_e hf
        refine k_Vi (As := []) (rest := [.int v2]) E w t_v0 ⟨by decide, rfl⟩ (X3_sangAhead_c t_v0 hc8) mv_RX3_146 rfl rfl hl.1 ⟨Nat.le_of_ble_eq_true rfl, Nat.le_of_ble_eq_true rfl⟩ (Nat.le_of_ble_eq_true rfl) ⟨Nat.le_refl _, Nat.le_refl _⟩ dX3_may_53 (fun H locs w => ?_)
        refine lv_icmp_eq (tgt := 88) E.1 E.2.1 dX3_may_56 (by decide) (fun c11 => ?_) (fun c11 => ?_)
        · have hf := q_pos c11 hf
          refine lv_iconst (v := 0) E.1 E.2.1 dX3_may_88 rfl ?_
          have hf := Option.some.inj hf
          subst hf
          exact q_zret E w hr hlk dX3_may_89
        · have hf := q_neg c11 hf
          refine lv_aload_n E.1 E.2.1 dX3_may_59 rfl (lv_at hl 0 rfl) ?_
          refine q_gs E w 11 t_v0 fl_RX3_49 dX3_may_60 ?_
          refine lv_iload_n E.1 E.2.1 dX3_may_63 rfl (lv_at hl 2 rfl) ?_
          obtain ⟨r13, hc12, hf⟩ := bd1_e hf
          refine k_Ni (As := [.ref (ad G (v0 + 11)), .int v2]) (rest := []) E w (X10_at_c ((lay_3_11 t_v0).1) hc12) mn_RX3_90 rfl rfl hl.1 ⟨Nat.le_of_ble_eq_true rfl, Nat.le_of_ble_eq_true rfl⟩ (Nat.le_of_ble_eq_true rfl) ⟨Nat.le_refl _, Nat.le_refl _⟩ dX3_may_64 (fun H locs w => ?_)
          refine lv_aload_n E.1 E.2.1 dX3_may_67 rfl (lv_at hl 0 rfl) ?_
          refine q_gh E w t_v0 (by decide) fl_RX3_12 dX3_may_68 (fun t15 => ?_)
          refine q_gs E w 4 t15 fl_RX3_150 dX3_may_71 ?_
          refine lv_aload_n E.1 E.2.1 dX3_may_74 rfl (lv_at hl 0 rfl) ?_
          refine q_gi E w t_v0 fl_RX3_22 dX3_may_75 ?_
          obtain ⟨r17, hc16, hf⟩ := bd1_e hf
          refine k_Ni (As := [.ref (ad G ((h.2 v0) + 4)), .int (h.1 v0 2)]) (rest := [.int r13]) E w (X10_at_c ((lay_1_8 t15).1) hc16) mn_RX3_90 rfl rfl hl.1 ⟨Nat.le_of_ble_eq_true rfl, Nat.le_of_ble_eq_true rfl⟩ (Nat.le_of_ble_eq_true rfl) ⟨Nat.le_refl _, Nat.le_refl _⟩ dX3_may_78 (fun H locs w => ?_)
          refine lv_icmp_lt (tgt := 88) E.1 E.2.1 dX3_may_81 (by decide) (fun c19 => ?_) (fun c19 => ?_)
          · have hf := q_pos c19 hf
            refine lv_iconst (v := 0) E.1 E.2.1 dX3_may_88 rfl ?_
            have hf := Option.some.inj hf
            subst hf
            exact q_zret E w hr hlk dX3_may_89
          · have hf := q_neg c19 hf
            refine lv_iconst (v := 1) E.1 E.2.1 dX3_may_84 rfl ?_
            refine lv_goto (tgt := 89) E.1 E.2.1 dX3_may_85 (by decide) ?_
            have hf := Option.some.inj hf
            subst hf
            exact q_zret E w hr hlk dX3_may_89
  have hf := q_neg c1 hf
  by_cases c20 : v1 = 1
  · have hf := q_pos c20 hf
    refine lv_tableIn (off := 89) (tgt := 90) E.1 E.2.1 dX3_may_1 (by rw [c20]; decide) (by rw [c20]; decide) (by rw [c20]; rfl) (by decide) ?_
    refine lv_aload_n E.1 E.2.1 dX3_may_90 rfl (lv_at hl 0 rfl) ?_
    refine q_gh E w t_v0 (by decide) fl_RX3_12 dX3_may_91 (fun t21 => ?_)
    refine lv_iload_n E.1 E.2.1 dX3_may_94 rfl (lv_at hl 2 rfl) ?_
    obtain ⟨r23, hc22, hf⟩ := bd1_e hf
    refine k_Vi (As := [.int v2]) (rest := []) E w t21 ⟨by decide, rfl⟩ (X1_hasSinger_c t21 hc22) mv_RX3_142 rfl rfl hl.1 ⟨Nat.le_of_ble_eq_true rfl, Nat.le_of_ble_eq_true rfl⟩ (Nat.le_of_ble_eq_true rfl) ⟨Nat.le_refl _, Nat.le_refl _⟩ dX3_may_95 (fun H locs w => ?_)
    have hf := Option.some.inj hf
    subst hf
    exact q_zret E w hr hlk dX3_may_98
  have hf := q_neg c20 hf
  by_cases c25 : v1 = 2
  · have hf := q_pos c25 hf
    refine lv_tableIn (off := 89) (tgt := 90) E.1 E.2.1 dX3_may_1 (by rw [c25]; decide) (by rw [c25]; decide) (by rw [c25]; rfl) (by decide) ?_
    refine lv_aload_n E.1 E.2.1 dX3_may_90 rfl (lv_at hl 0 rfl) ?_
    refine q_gh E w t_v0 (by decide) fl_RX3_12 dX3_may_91 (fun t26 => ?_)
    refine lv_iload_n E.1 E.2.1 dX3_may_94 rfl (lv_at hl 2 rfl) ?_
    obtain ⟨r28, hc27, hf⟩ := bd1_e hf
    refine k_Vi (As := [.int v2]) (rest := []) E w t26 ⟨by decide, rfl⟩ (X1_hasSinger_c t26 hc27) mv_RX3_142 rfl rfl hl.1 ⟨Nat.le_of_ble_eq_true rfl, Nat.le_of_ble_eq_true rfl⟩ (Nat.le_of_ble_eq_true rfl) ⟨Nat.le_refl _, Nat.le_refl _⟩ dX3_may_95 (fun H locs w => ?_)
    have hf := Option.some.inj hf
    subst hf
    exact q_zret E w hr hlk dX3_may_98
  have hf := q_neg c25 hf
  by_cases c30 : v1 = 3
  · have hf := q_pos c30 hf
    refine lv_tableIn (off := 98) (tgt := 99) E.1 E.2.1 dX3_may_1 (by rw [c30]; decide) (by rw [c30]; decide) (by rw [c30]; rfl) (by decide) ?_
    refine lv_aload_n E.1 E.2.1 dX3_may_99 rfl (lv_at hl 0 rfl) ?_
    refine q_gi E w t_v0 fl_RX3_22 dX3_may_100 ?_
    refine lv_iconst (v := (-1)) E.1 E.2.1 dX3_may_103 rfl ?_
    refine lv_icmp_eq (tgt := 111) E.1 E.2.1 dX3_may_104 (by decide) (fun c31 => ?_) (fun c31 => ?_)
    · have hf := q_pos c31 hf
      refine lv_iconst (v := 0) E.1 E.2.1 dX3_may_111 rfl ?_
      have hf := Option.some.inj hf
      subst hf
      exact q_zret E w hr hlk dX3_may_112
    · have hf := q_neg c31 hf
      refine lv_iconst (v := 1) E.1 E.2.1 dX3_may_107 rfl ?_
      refine lv_goto (tgt := 112) E.1 E.2.1 dX3_may_108 (by decide) ?_
      have hf := Option.some.inj hf
      subst hf
      exact q_zret E w hr hlk dX3_may_112
  have hf := q_neg c30 hf
  refine lv_tableOut (tgt := 113) E.1 E.2.1 dX3_may_1 (by have := ne_i c1 (z := 0) (by decide); have := ne_i c20 (z := 1) (by decide); have := ne_i c25 (z := 2) (by decide); have := ne_i c30 (z := 3) (by decide); omega) (by decide) ?_
  refine lv_aload_n E.1 E.2.1 dX3_may_113 rfl (lv_at hl 0 rfl) ?_
  refine q_gi E w t_v0 fl_RX3_18 dX3_may_114 ?_
  refine lv_bipush (v := 99) E.1 E.2.1 dX3_may_117 rfl ?_
  refine lv_icmp_ge (tgt := 126) E.1 E.2.1 dX3_may_119 (by decide) (fun c32 => ?_) (fun c32 => ?_)
  · have hf := q_pos c32 hf
    refine lv_iconst (v := 0) E.1 E.2.1 dX3_may_126 rfl ?_
    have hf := Option.some.inj hf
    subst hf
    exact q_zret E w hr hlk dX3_may_127
  · have hf := q_neg c32 hf
    refine lv_iconst (v := 1) E.1 E.2.1 dX3_may_122 rfl ?_
    refine lv_goto (tgt := 127) E.1 E.2.1 dX3_may_123 (by decide) ?_
    have hf := Option.some.inj hf
    subst hf
    exact q_zret E w hr hlk dX3_may_127

def X3_goOn (N : Nat) (h : HS) (v0 : Nat) (v1 : Int32) : Option HS := sq (wi h v0 9 (h.1 v0 2)) fun h1 => sq (wi h1 v0 10 v1) fun h2 => bd1 (X1_nextFrom N h2 (h2.2 v0) ((h2.1 v0 2) + 1)) fun r5 => sq (wi h2 v0 2 r5) fun h7 => some h7
set_option maxRecDepth 4000 in
set_option maxHeartbeats 2000000 in
theorem X3_goOn_c {l : Launch} {G : GT} {N : Nat} {h : HS} {v0 : Nat} {v1 : Int32} {z : HS} (t_v0 : sh v0 = 3) (hf : X3_goOn N h v0 v1 = some z) : CT l G yX3_goOn cX3_goOn 2 none 3 64 [.ref (ad G v0), .int v1] h none z := by
  unfold X3_goOn at hf
  refine CT.of (by decide) (Nat.le_of_ble_eq_true rfl) ?_
  intro p e s m below meth c ls E hr hlk w hl
  have hl : lv_has ls 2 [(0, .ref (ad G v0)), (1, .int v1)] := hl
  refine lv_aload_n E.1 E.2.1 dX3_goOn_0 rfl (lv_at hl 0 rfl) ?_
  refine lv_aload_n E.1 E.2.1 dX3_goOn_1 rfl (lv_at hl 0 rfl) ?_
  refine q_gi E w t_v0 fl_RX3_22 dX3_goOn_2 ?_
  refine p_pi E w t_v0 fl_RX3_43 (fp_3_9 _) dX3_goOn_5 (fun h1 H locs eh w => ?_)
  have hf := sq_e eh hf
  clear eh
  refine lv_aload_n E.1 E.2.1 dX3_goOn_8 rfl (lv_at hl 0 rfl) ?_
  refine lv_iload_n E.1 E.2.1 dX3_goOn_9 rfl (lv_at hl 1 rfl) ?_
  refine p_pi E w t_v0 fl_RX3_46 (fp_3_10 _) dX3_goOn_10 (fun h2 H locs eh w => ?_)
  have hf := sq_e eh hf
  clear eh
  refine lv_aload_n E.1 E.2.1 dX3_goOn_13 rfl (lv_at hl 0 rfl) ?_
  refine lv_aload_n E.1 E.2.1 dX3_goOn_14 rfl (lv_at hl 0 rfl) ?_
  refine q_gh E w t_v0 (by decide) fl_RX3_12 dX3_goOn_15 (fun t3 => ?_)
  refine lv_aload_n E.1 E.2.1 dX3_goOn_18 rfl (lv_at hl 0 rfl) ?_
  refine q_gi E w t_v0 fl_RX3_22 dX3_goOn_19 ?_
  refine lv_iconst (v := 1) E.1 E.2.1 dX3_goOn_22 rfl ?_
  refine lv_iadd E.1 E.2.1 dX3_goOn_23 ?_
  obtain ⟨r5, hc4, hf⟩ := bd1_e hf
  refine k_Vi (As := [.int ((h2.1 v0 2) + 1)]) (rest := [.ref (ad G v0)]) E w t3 ⟨by decide, rfl⟩ (X1_nextFrom_c t3 hc4) mv_RX3_83 rfl rfl hl.1 ⟨Nat.le_of_ble_eq_true rfl, Nat.le_of_ble_eq_true rfl⟩ (Nat.le_of_ble_eq_true rfl) ⟨Nat.le_refl _, Nat.le_refl _⟩ dX3_goOn_24 (fun H locs w => ?_)
  refine p_pi E w t_v0 fl_RX3_22 (fp_3_2 _) dX3_goOn_27 (fun h7 H locs eh w => ?_)
  have hf := sq_e eh hf
  clear eh
  have hf := Option.some.inj hf
  subst hf
  exact q_vret E w hr hlk dX3_goOn_30

def X3_singNext_b78 (N : Nat) (h : HS) (v0 : Nat) (v1 : Int32) (u0 : Int32) (u1 : Int32) (u2 : Int32) (u3 : Nat) : Option HS := bd1 (X1_reaches N h u3 u2 u1 u0) fun r20 => (if r20 = 0 then bd1 (X10_at N h ((h.2 v0) + 5) (h.1 v0 2)) fun r28 => sq (wi h v0 8 ((h.1 v0 8) ||| ((1 : Int32) <<< (r28 &&& 31)))) fun h30 => sq (wi h30 v0 6 ((h30.1 v0 6) + 1)) fun h31 => (if (h31.1 v0 16) = ((-1) : Int32) then sq (wi h31 v0 16 (h31.1 v0 14)) fun h37 => bd1 (X3_goOn N h37 v0 v1) fun h40 => some h40 else sq (wi h31 v0 16 (h31.1 v0 16)) fun h33 => bd1 (X3_goOn N h33 v0 v1) fun h36 => some h36) else bd1 (X3_goOn N h v0 v1) fun h25 => some h25)
set_option maxRecDepth 4000 in
set_option maxHeartbeats 2000000 in
theorem X3_singNext_b78_w {p : Program} {l : Launch} {e : Env} {s : State} {m : MethodId} {args : Array Value} {below : List Frame} {meth : Method} {c : Code} {G : GT} {N : Nat} {z : HS} {h : HS} (E : CallFix p m c cX3_singNext 2 s args UW RX3) (hr : meth.sig.returnType = none) (hlk : meth.locks = false) {H : Heap} {locs : List Loc} {ls : Array Slot} {v0 : Nat} {v1 : Int32} {u0 : Int32} {u1 : Int32} {u2 : Int32} {u3 : Nat} (hf : X3_singNext_b78 N h v0 v1 u0 u1 u2 u3 = some z) (w : WD G s h H locs) (t_v0 : sh v0 = 3) (t_u3 : sh u3 = 1) (hl : lv_has ls 2 [(0, .ref (ad G v0)), (1, .int v1)]) : W p l e ({ frames := 4, cells := 0, slots := 0, locals := 85 } : Room) s m args below meth c H locs 0 0 (MQ below (QC G none z) args s 0 0 (AD G)) (F0 m 78 ls [.int u0, .int u1, .int u2, .ref (ad G u3)]) := by
  unfold X3_singNext_b78 at hf
  obtain ⟨r20, hc19, hf⟩ := bd1_e hf
  refine k_Vi (As := [.int u2, .int u1, .int u0]) (rest := []) E w t_u3 ⟨by decide, rfl⟩ (X1_reaches_c t_u3 hc19) mv_RX3_156 rfl rfl hl.1 ⟨Nat.le_of_ble_eq_true rfl, Nat.le_of_ble_eq_true rfl⟩ (Nat.le_of_ble_eq_true rfl) ⟨Nat.le_refl _, Nat.le_refl _⟩ dX3_singNext_78 (fun H locs w => ?_)
  refine lv_if_ne (tgt := 142) E.1 E.2.1 dX3_singNext_81 (by decide) (fun c22 => ?_) (fun c22 => ?_)
  · have hf := q_neg c22 hf
    refine lv_aload_n E.1 E.2.1 dX3_singNext_142 rfl (lv_at hl 0 rfl) ?_
    refine lv_iload_n E.1 E.2.1 dX3_singNext_143 rfl (lv_at hl 1 rfl) ?_
    obtain ⟨h25, hc23, hf⟩ := bd1_e hf
    refine k_Vv (As := [.int v1]) (rest := []) E w t_v0 ⟨by decide, rfl⟩ (X3_goOn_c t_v0 hc23) mv_RX3_136 rfl rfl hl.1 ⟨Nat.le_of_ble_eq_true rfl, Nat.le_of_ble_eq_true rfl⟩ (Nat.le_of_ble_eq_true rfl) ⟨Nat.le_refl _, Nat.le_refl _⟩ dX3_singNext_144 (fun H locs w => ?_)
    have hf := Option.some.inj hf
    subst hf
    exact q_vret E w hr hlk dX3_singNext_147
  · have hf := q_pos c22 hf
    refine lv_aload_n E.1 E.2.1 dX3_singNext_84 rfl (lv_at hl 0 rfl) ?_
    refine lv_dup E.1 E.2.1 dX3_singNext_85 rfl ?_
    refine q_gi E w t_v0 fl_RX3_40 dX3_singNext_86 ?_
    refine lv_iconst (v := 1) E.1 E.2.1 dX3_singNext_89 rfl ?_
    refine lv_aload_n E.1 E.2.1 dX3_singNext_90 rfl (lv_at hl 0 rfl) ?_
    refine q_gh E w t_v0 (by decide) fl_RX3_12 dX3_singNext_91 (fun t26 => ?_)
    refine q_gs E w 5 t26 fl_RX3_130 dX3_singNext_94 ?_
    refine lv_aload_n E.1 E.2.1 dX3_singNext_97 rfl (lv_at hl 0 rfl) ?_
    refine q_gi E w t_v0 fl_RX3_22 dX3_singNext_98 ?_
    obtain ⟨r28, hc27, hf⟩ := bd1_e hf
    refine k_Ni (As := [.ref (ad G ((h.2 v0) + 5)), .int (h.1 v0 2)]) (rest := [.int 1, .int (h.1 v0 8), .ref (ad G v0)]) E w (X10_at_c ((lay_1_9 t26).1) hc27) mn_RX3_90 rfl rfl hl.1 ⟨Nat.le_of_ble_eq_true rfl, Nat.le_of_ble_eq_true rfl⟩ (Nat.le_of_ble_eq_true rfl) ⟨Nat.le_refl _, Nat.le_refl _⟩ dX3_singNext_101 (fun H locs w => ?_)
    refine lv_ishl E.1 E.2.1 dX3_singNext_104 ?_
    refine lv_ior E.1 E.2.1 dX3_singNext_105 ?_
    refine p_pi E w t_v0 fl_RX3_40 (fp_3_8 _) dX3_singNext_106 (fun h30 H locs eh w => ?_)
    have hf := sq_e eh hf
    clear eh
    refine lv_aload_n E.1 E.2.1 dX3_singNext_109 rfl (lv_at hl 0 rfl) ?_
    refine lv_dup E.1 E.2.1 dX3_singNext_110 rfl ?_
    refine q_gi E w t_v0 fl_RX3_34 dX3_singNext_111 ?_
    refine lv_iconst (v := 1) E.1 E.2.1 dX3_singNext_114 rfl ?_
    refine lv_iadd E.1 E.2.1 dX3_singNext_115 ?_
    refine p_pi E w t_v0 fl_RX3_34 (fp_3_6 _) dX3_singNext_116 (fun h31 H locs eh w => ?_)
    have hf := sq_e eh hf
    clear eh
    refine lv_aload_n E.1 E.2.1 dX3_singNext_119 rfl (lv_at hl 0 rfl) ?_
    refine lv_aload_n E.1 E.2.1 dX3_singNext_120 rfl (lv_at hl 0 rfl) ?_
    refine q_gi E w t_v0 fl_RX3_65 dX3_singNext_121 ?_
    refine lv_iconst (v := (-1)) E.1 E.2.1 dX3_singNext_124 rfl ?_
    refine lv_icmp_ne (tgt := 135) E.1 E.2.1 dX3_singNext_125 (by decide) (fun c32 => ?_) (fun c32 => ?_)
    · have hf := q_neg c32 hf
      refine lv_aload_n E.1 E.2.1 dX3_singNext_135 rfl (lv_at hl 0 rfl) ?_
      refine q_gi E w t_v0 fl_RX3_65 dX3_singNext_136 ?_
      refine p_pi E w t_v0 fl_RX3_65 (fp_3_16 _) dX3_singNext_139 (fun h33 H locs eh w => ?_)
      have hf := sq_e eh hf
      clear eh
      refine lv_aload_n E.1 E.2.1 dX3_singNext_142 rfl (lv_at hl 0 rfl) ?_
      refine lv_iload_n E.1 E.2.1 dX3_singNext_143 rfl (lv_at hl 1 rfl) ?_
      obtain ⟨h36, hc34, hf⟩ := bd1_e hf
      refine k_Vv (As := [.int v1]) (rest := []) E w t_v0 ⟨by decide, rfl⟩ (X3_goOn_c t_v0 hc34) mv_RX3_136 rfl rfl hl.1 ⟨Nat.le_of_ble_eq_true rfl, Nat.le_of_ble_eq_true rfl⟩ (Nat.le_of_ble_eq_true rfl) ⟨Nat.le_refl _, Nat.le_refl _⟩ dX3_singNext_144 (fun H locs w => ?_)
      have hf := Option.some.inj hf
      subst hf
      exact q_vret E w hr hlk dX3_singNext_147
    · have hf := q_pos c32 hf
      refine lv_aload_n E.1 E.2.1 dX3_singNext_128 rfl (lv_at hl 0 rfl) ?_
      refine q_gi E w t_v0 fl_RX3_59 dX3_singNext_129 ?_
      refine lv_goto (tgt := 139) E.1 E.2.1 dX3_singNext_132 (by decide) ?_
      refine p_pi E w t_v0 fl_RX3_65 (fp_3_16 _) dX3_singNext_139 (fun h37 H locs eh w => ?_)
      have hf := sq_e eh hf
      clear eh
      refine lv_aload_n E.1 E.2.1 dX3_singNext_142 rfl (lv_at hl 0 rfl) ?_
      refine lv_iload_n E.1 E.2.1 dX3_singNext_143 rfl (lv_at hl 1 rfl) ?_
      obtain ⟨h40, hc38, hf⟩ := bd1_e hf
      refine k_Vv (As := [.int v1]) (rest := []) E w t_v0 ⟨by decide, rfl⟩ (X3_goOn_c t_v0 hc38) mv_RX3_136 rfl rfl hl.1 ⟨Nat.le_of_ble_eq_true rfl, Nat.le_of_ble_eq_true rfl⟩ (Nat.le_of_ble_eq_true rfl) ⟨Nat.le_refl _, Nat.le_refl _⟩ dX3_singNext_144 (fun H locs w => ?_)
      have hf := Option.some.inj hf
      subst hf
      exact q_vret E w hr hlk dX3_singNext_147

def X3_singNext (N : Nat) (h : HS) (v0 : Nat) (v1 : Int32) : Option HS := (if v1 < 0 then some h else (if v1 < (5 : Int32) then (if v1 < 0 ∨ 5 ≤ v1.toNatClampNeg then none else bd1 (X10_at N h ((h.2 v0) + 4) (h.1 v0 2)) fun r6 => (if v1 < 0 ∨ 5 ≤ v1.toNatClampNeg then none else sq (wi h (v0 + 11) v1.toNatClampNeg ((h.1 (v0 + 11) v1.toNatClampNeg) - r6)) fun h9 => (if v1 < 0 ∨ 5 ≤ v1.toNatClampNeg then none else (if v1 < 0 ∨ 5 ≤ v1.toNatClampNeg then none else sq (wi h9 (v0 + 12) v1.toNatClampNeg ((h9.1 (v0 + 12) v1.toNatClampNeg) + 1)) fun h12 => bd1 (X10_at N h12 ((h12.2 v0) + 3) (h12.1 v0 2)) fun r16 => (if (((h12.1 v0 7) >>> (v1 &&& 31)) &&& 1) = 0 then X3_singNext_b78 N h12 v0 v1 0 r16 v1 (h12.2 v0) else X3_singNext_b78 N h12 v0 v1 1 r16 v1 (h12.2 v0)))))) else some h))
set_option maxRecDepth 4000 in
set_option maxHeartbeats 2000000 in
theorem X3_singNext_c {l : Launch} {G : GT} {N : Nat} {h : HS} {v0 : Nat} {v1 : Int32} {z : HS} (t_v0 : sh v0 = 3) (hf : X3_singNext N h v0 v1 = some z) : CT l G yX3_singNext cX3_singNext 2 none 4 85 [.ref (ad G v0), .int v1] h none z := by
  unfold X3_singNext at hf
  refine CT.of (by decide) (Nat.le_of_ble_eq_true rfl) ?_
  intro p e s m below meth c ls E hr hlk w hl
  have hl : lv_has ls 2 [(0, .ref (ad G v0)), (1, .int v1)] := hl
  refine lv_iload_n E.1 E.2.1 dX3_singNext_0 rfl (lv_at hl 1 rfl) ?_
  refine lv_if_lt (tgt := 9) E.1 E.2.1 dX3_singNext_1 (by decide) (fun c1 => ?_) (fun c1 => ?_)
  · have hf := q_pos c1 hf
    have hf := Option.some.inj hf
    subst hf
    exact q_vret E w hr hlk dX3_singNext_9
  · have hf := q_neg c1 hf
    refine lv_iload_n E.1 E.2.1 dX3_singNext_4 rfl (lv_at hl 1 rfl) ?_
    refine lv_iconst (v := 5) E.1 E.2.1 dX3_singNext_5 rfl ?_
    refine lv_icmp_lt (tgt := 10) E.1 E.2.1 dX3_singNext_6 (by decide) (fun c2 => ?_) (fun c2 => ?_)
    · have hf := q_pos c2 hf
      refine lv_aload_n E.1 E.2.1 dX3_singNext_10 rfl (lv_at hl 0 rfl) ?_
      refine q_gs E w 11 t_v0 fl_RX3_49 dX3_singNext_11 ?_
      refine lv_iload_n E.1 E.2.1 dX3_singNext_14 rfl (lv_at hl 1 rfl) ?_
      refine lv_dup2_11 E.1 E.2.1 dX3_singNext_15 rfl rfl ?_
      obtain ⟨b3, hf⟩ := q_if hf
      refine q_iald E w ((lay_3_11 t_v0).1) ((lay_3_11 t_v0).2) b3 dX3_singNext_16 ?_
      refine lv_aload_n E.1 E.2.1 dX3_singNext_17 rfl (lv_at hl 0 rfl) ?_
      refine q_gh E w t_v0 (by decide) fl_RX3_12 dX3_singNext_18 (fun t4 => ?_)
      refine q_gs E w 4 t4 fl_RX3_150 dX3_singNext_21 ?_
      refine lv_aload_n E.1 E.2.1 dX3_singNext_24 rfl (lv_at hl 0 rfl) ?_
      refine q_gi E w t_v0 fl_RX3_22 dX3_singNext_25 ?_
      obtain ⟨r6, hc5, hf⟩ := bd1_e hf
      refine k_Ni (As := [.ref (ad G ((h.2 v0) + 4)), .int (h.1 v0 2)]) (rest := [.int (h.1 (v0 + 11) v1.toNatClampNeg), .int v1, .ref (ad G (v0 + 11))]) E w (X10_at_c ((lay_1_8 t4).1) hc5) mn_RX3_90 rfl rfl hl.1 ⟨Nat.le_of_ble_eq_true rfl, Nat.le_of_ble_eq_true rfl⟩ (Nat.le_of_ble_eq_true rfl) ⟨Nat.le_refl _, Nat.le_refl _⟩ dX3_singNext_28 (fun H locs w => ?_)
      refine lv_isub E.1 E.2.1 dX3_singNext_31 ?_
      obtain ⟨b8, hf⟩ := q_if hf
      refine p_iast E w ((lay_3_11 t_v0).1) ((lay_3_11 t_v0).2) b8 dX3_singNext_32 (fun h9 H locs eh w => ?_)
      have hf := sq_e eh hf
      clear eh
      refine lv_aload_n E.1 E.2.1 dX3_singNext_33 rfl (lv_at hl 0 rfl) ?_
      refine q_gs E w 12 t_v0 fl_RX3_53 dX3_singNext_34 ?_
      refine lv_iload_n E.1 E.2.1 dX3_singNext_37 rfl (lv_at hl 1 rfl) ?_
      refine lv_dup2_11 E.1 E.2.1 dX3_singNext_38 rfl rfl ?_
      obtain ⟨b10, hf⟩ := q_if hf
      refine q_iald E w ((lay_3_12 t_v0).1) ((lay_3_12 t_v0).2) b10 dX3_singNext_39 ?_
      refine lv_iconst (v := 1) E.1 E.2.1 dX3_singNext_40 rfl ?_
      refine lv_iadd E.1 E.2.1 dX3_singNext_41 ?_
      obtain ⟨b11, hf⟩ := q_if hf
      refine p_iast E w ((lay_3_12 t_v0).1) ((lay_3_12 t_v0).2) b11 dX3_singNext_42 (fun h12 H locs eh w => ?_)
      have hf := sq_e eh hf
      clear eh
      refine lv_aload_n E.1 E.2.1 dX3_singNext_43 rfl (lv_at hl 0 rfl) ?_
      refine q_gh E w t_v0 (by decide) fl_RX3_12 dX3_singNext_44 (fun t13 => ?_)
      refine lv_iload_n E.1 E.2.1 dX3_singNext_47 rfl (lv_at hl 1 rfl) ?_
      refine lv_aload_n E.1 E.2.1 dX3_singNext_48 rfl (lv_at hl 0 rfl) ?_
      refine q_gh E w t_v0 (by decide) fl_RX3_12 dX3_singNext_49 (fun t14 => ?_)
      refine q_gs E w 3 t14 fl_RX3_153 dX3_singNext_52 ?_
      refine lv_aload_n E.1 E.2.1 dX3_singNext_55 rfl (lv_at hl 0 rfl) ?_
      refine q_gi E w t_v0 fl_RX3_22 dX3_singNext_56 ?_
      obtain ⟨r16, hc15, hf⟩ := bd1_e hf
      refine k_Ni (As := [.ref (ad G ((h12.2 v0) + 3)), .int (h12.1 v0 2)]) (rest := [.int v1, .ref (ad G (h12.2 v0))]) E w (X10_at_c ((lay_1_7 t14).1) hc15) mn_RX3_90 rfl rfl hl.1 ⟨Nat.le_of_ble_eq_true rfl, Nat.le_of_ble_eq_true rfl⟩ (Nat.le_of_ble_eq_true rfl) ⟨Nat.le_refl _, Nat.le_refl _⟩ dX3_singNext_59 (fun H locs w => ?_)
      refine lv_aload_n E.1 E.2.1 dX3_singNext_62 rfl (lv_at hl 0 rfl) ?_
      refine q_gi E w t_v0 fl_RX3_37 dX3_singNext_63 ?_
      refine lv_iload_n E.1 E.2.1 dX3_singNext_66 rfl (lv_at hl 1 rfl) ?_
      refine lv_ishr E.1 E.2.1 dX3_singNext_67 ?_
      refine lv_iconst (v := 1) E.1 E.2.1 dX3_singNext_68 rfl ?_
      refine lv_iand E.1 E.2.1 dX3_singNext_69 ?_
      refine lv_if_eq (tgt := 77) E.1 E.2.1 dX3_singNext_70 (by decide) (fun c18 => ?_) (fun c18 => ?_)
      · have hf := q_pos c18 hf
        refine lv_iconst (v := 0) E.1 E.2.1 dX3_singNext_77 rfl ?_
        exact X3_singNext_b78_w E hr hlk hf w t_v0 t13 (lv_sub hl [0, 1] rfl)
      · have hf := q_neg c18 hf
        refine lv_iconst (v := 1) E.1 E.2.1 dX3_singNext_73 rfl ?_
        refine lv_goto (tgt := 78) E.1 E.2.1 dX3_singNext_74 (by decide) ?_
        exact X3_singNext_b78_w E hr hlk hf w t_v0 t13 (lv_sub hl [0, 1] rfl)
    · have hf := q_neg c2 hf
      have hf := Option.some.inj hf
      subst hf
      exact q_vret E w hr hlk dX3_singNext_9

def X3_endNight_b126 (N : Nat) (h : HS) (v0 : Nat) (v1 : Int32) (u0 : Int32) (u1 : Int32) (u2 : Nat) : Option HS := sq (wi h u2 18 (u1 + u0)) fun h14 => (if (h14.1 v0 17) = ((-1) : Int32) then sq (wi h14 v0 17 (h14.1 v0 1)) fun h16 => sq (wi h16 v0 15 v1) fun h17 => sq (wi h17 v0 1 ((h17.1 v0 1) + 1)) fun h18 => bd1 (X3_beginNight N h18 v0) fun h21 => some h21 else (if v1 ≤ (h14.1 v0 15) then sq (wi h14 v0 1 ((h14.1 v0 1) + 1)) fun h23 => bd1 (X3_beginNight N h23 v0) fun h26 => some h26 else sq (wi h14 v0 17 (h14.1 v0 1)) fun h27 => sq (wi h27 v0 15 v1) fun h28 => sq (wi h28 v0 1 ((h28.1 v0 1) + 1)) fun h29 => bd1 (X3_beginNight N h29 v0) fun h32 => some h32))
set_option maxRecDepth 4000 in
set_option maxHeartbeats 2000000 in
theorem X3_endNight_b126_w {p : Program} {l : Launch} {e : Env} {s : State} {m : MethodId} {args : Array Value} {below : List Frame} {meth : Method} {c : Code} {G : GT} {N : Nat} {z : HS} {h : HS} (E : CallFix p m c cX3_endNight 2 s args UW RX3) (hr : meth.sig.returnType = none) (hlk : meth.locks = false) {H : Heap} {locs : List Loc} {ls : Array Slot} {v0 : Nat} {v1 : Int32} {u0 : Int32} {u1 : Int32} {u2 : Nat} (hf : X3_endNight_b126 N h v0 v1 u0 u1 u2 = some z) (w : WD G s h H locs) (t_v0 : sh v0 = 3) (t_u2 : sh u2 = 3) (hl : lv_has ls 2 [(0, .ref (ad G v0)), (1, .int v1)]) : W p l e ({ frames := 4, cells := 0, slots := 0, locals := 85 } : Room) s m args below meth c H locs 0 0 (MQ below (QC G none z) args s 0 0 (AD G)) (F0 m 126 ls [.int u0, .int u1, .ref (ad G u2)]) := by
  unfold X3_endNight_b126 at hf
  refine lv_iadd E.1 E.2.1 dX3_endNight_126 ?_
  refine p_pi E w t_u2 fl_RX3_71 (fp_3_18 _) dX3_endNight_127 (fun h14 H locs eh w => ?_)
  have hf := sq_e eh hf
  clear eh
  refine lv_aload_n E.1 E.2.1 dX3_endNight_130 rfl (lv_at hl 0 rfl) ?_
  refine q_gi E w t_v0 fl_RX3_68 dX3_endNight_131 ?_
  refine lv_iconst (v := (-1)) E.1 E.2.1 dX3_endNight_134 rfl ?_
  refine lv_icmp_eq (tgt := 146) E.1 E.2.1 dX3_endNight_135 (by decide) (fun c15 => ?_) (fun c15 => ?_)
  · have hf := q_pos c15 hf
    refine lv_aload_n E.1 E.2.1 dX3_endNight_146 rfl (lv_at hl 0 rfl) ?_
    refine lv_aload_n E.1 E.2.1 dX3_endNight_147 rfl (lv_at hl 0 rfl) ?_
    refine q_gi E w t_v0 fl_RX3_18 dX3_endNight_148 ?_
    refine p_pi E w t_v0 fl_RX3_68 (fp_3_17 _) dX3_endNight_151 (fun h16 H locs eh w => ?_)
    have hf := sq_e eh hf
    clear eh
    refine lv_aload_n E.1 E.2.1 dX3_endNight_154 rfl (lv_at hl 0 rfl) ?_
    refine lv_iload_n E.1 E.2.1 dX3_endNight_155 rfl (lv_at hl 1 rfl) ?_
    refine p_pi E w t_v0 fl_RX3_62 (fp_3_15 _) dX3_endNight_156 (fun h17 H locs eh w => ?_)
    have hf := sq_e eh hf
    clear eh
    refine lv_aload_n E.1 E.2.1 dX3_endNight_159 rfl (lv_at hl 0 rfl) ?_
    refine lv_dup E.1 E.2.1 dX3_endNight_160 rfl ?_
    refine q_gi E w t_v0 fl_RX3_18 dX3_endNight_161 ?_
    refine lv_iconst (v := 1) E.1 E.2.1 dX3_endNight_164 rfl ?_
    refine lv_iadd E.1 E.2.1 dX3_endNight_165 ?_
    refine p_pi E w t_v0 fl_RX3_18 (fp_3_1 _) dX3_endNight_166 (fun h18 H locs eh w => ?_)
    have hf := sq_e eh hf
    clear eh
    refine lv_aload_n E.1 E.2.1 dX3_endNight_169 rfl (lv_at hl 0 rfl) ?_
    obtain ⟨h21, hc19, hf⟩ := bd1_e hf
    refine k_Vv (As := []) (rest := []) E w t_v0 ⟨by decide, rfl⟩ (X3_beginNight_c t_v0 hc19) mv_RX3_80 rfl rfl hl.1 ⟨Nat.le_of_ble_eq_true rfl, Nat.le_of_ble_eq_true rfl⟩ (Nat.le_of_ble_eq_true rfl) ⟨Nat.le_refl _, Nat.le_refl _⟩ dX3_endNight_170 (fun H locs w => ?_)
    have hf := Option.some.inj hf
    subst hf
    exact q_vret E w hr hlk dX3_endNight_173
  · have hf := q_neg c15 hf
    refine lv_iload_n E.1 E.2.1 dX3_endNight_138 rfl (lv_at hl 1 rfl) ?_
    refine lv_aload_n E.1 E.2.1 dX3_endNight_139 rfl (lv_at hl 0 rfl) ?_
    refine q_gi E w t_v0 fl_RX3_62 dX3_endNight_140 ?_
    refine lv_icmp_le (tgt := 159) E.1 E.2.1 dX3_endNight_143 (by decide) (fun c22 => ?_) (fun c22 => ?_)
    · have hf := q_pos c22 hf
      refine lv_aload_n E.1 E.2.1 dX3_endNight_159 rfl (lv_at hl 0 rfl) ?_
      refine lv_dup E.1 E.2.1 dX3_endNight_160 rfl ?_
      refine q_gi E w t_v0 fl_RX3_18 dX3_endNight_161 ?_
      refine lv_iconst (v := 1) E.1 E.2.1 dX3_endNight_164 rfl ?_
      refine lv_iadd E.1 E.2.1 dX3_endNight_165 ?_
      refine p_pi E w t_v0 fl_RX3_18 (fp_3_1 _) dX3_endNight_166 (fun h23 H locs eh w => ?_)
      have hf := sq_e eh hf
      clear eh
      refine lv_aload_n E.1 E.2.1 dX3_endNight_169 rfl (lv_at hl 0 rfl) ?_
      obtain ⟨h26, hc24, hf⟩ := bd1_e hf
      refine k_Vv (As := []) (rest := []) E w t_v0 ⟨by decide, rfl⟩ (X3_beginNight_c t_v0 hc24) mv_RX3_80 rfl rfl hl.1 ⟨Nat.le_of_ble_eq_true rfl, Nat.le_of_ble_eq_true rfl⟩ (Nat.le_of_ble_eq_true rfl) ⟨Nat.le_refl _, Nat.le_refl _⟩ dX3_endNight_170 (fun H locs w => ?_)
      have hf := Option.some.inj hf
      subst hf
      exact q_vret E w hr hlk dX3_endNight_173
    · have hf := q_neg c22 hf
      refine lv_aload_n E.1 E.2.1 dX3_endNight_146 rfl (lv_at hl 0 rfl) ?_
      refine lv_aload_n E.1 E.2.1 dX3_endNight_147 rfl (lv_at hl 0 rfl) ?_
      refine q_gi E w t_v0 fl_RX3_18 dX3_endNight_148 ?_
      refine p_pi E w t_v0 fl_RX3_68 (fp_3_17 _) dX3_endNight_151 (fun h27 H locs eh w => ?_)
      have hf := sq_e eh hf
      clear eh
      refine lv_aload_n E.1 E.2.1 dX3_endNight_154 rfl (lv_at hl 0 rfl) ?_
      refine lv_iload_n E.1 E.2.1 dX3_endNight_155 rfl (lv_at hl 1 rfl) ?_
      refine p_pi E w t_v0 fl_RX3_62 (fp_3_15 _) dX3_endNight_156 (fun h28 H locs eh w => ?_)
      have hf := sq_e eh hf
      clear eh
      refine lv_aload_n E.1 E.2.1 dX3_endNight_159 rfl (lv_at hl 0 rfl) ?_
      refine lv_dup E.1 E.2.1 dX3_endNight_160 rfl ?_
      refine q_gi E w t_v0 fl_RX3_18 dX3_endNight_161 ?_
      refine lv_iconst (v := 1) E.1 E.2.1 dX3_endNight_164 rfl ?_
      refine lv_iadd E.1 E.2.1 dX3_endNight_165 ?_
      refine p_pi E w t_v0 fl_RX3_18 (fp_3_1 _) dX3_endNight_166 (fun h29 H locs eh w => ?_)
      have hf := sq_e eh hf
      clear eh
      refine lv_aload_n E.1 E.2.1 dX3_endNight_169 rfl (lv_at hl 0 rfl) ?_
      obtain ⟨h32, hc30, hf⟩ := bd1_e hf
      refine k_Vv (As := []) (rest := []) E w t_v0 ⟨by decide, rfl⟩ (X3_beginNight_c t_v0 hc30) mv_RX3_80 rfl rfl hl.1 ⟨Nat.le_of_ble_eq_true rfl, Nat.le_of_ble_eq_true rfl⟩ (Nat.le_of_ble_eq_true rfl) ⟨Nat.le_refl _, Nat.le_refl _⟩ dX3_endNight_170 (fun H locs w => ?_)
      have hf := Option.some.inj hf
      subst hf
      exact q_vret E w hr hlk dX3_endNight_173

def X3_endNight_l18 (N : Nat) : Nat → HS → Nat → Int32 → Option HS
  | 0, _, _, _ => none
  | n + 1, h, v0, v1 => (if (8 : Int32) ≤ v1 then bd1 (X1_peopleOf N h (h.2 v0) (h.1 v0 3)) fun r5 => sq (wi h v0 4 ((h.1 v0 4) + r5)) fun h7 => bd1 (X1_rentsOf N h7 (h7.2 v0) ((h7.1 v0 3) ^^^ (-1))) fun r10 => sq (wi h7 v0 5 ((h7.1 v0 5) + r10)) fun h12 => (if r5 = 0 then X3_endNight_b126 N h12 v0 r5 1 (h12.1 v0 18) v0 else X3_endNight_b126 N h12 v0 r5 0 (h12.1 v0 18) v0) else bd1 (X1_sounds N h (h.2 v0) v1) fun r35 => (if r35 = 0 then X3_endNight_l18 N n h v0 (v1 + 1) else bd1 (X10_at N h ((h.2 v0) + 5) v1) fun r41 => bd1 (X1_from N h (h.2 v0) r41) fun r44 => sq (wi h v0 3 ((h.1 v0 3) ||| r44)) fun h46 => X3_endNight_l18 N n h46 v0 (v1 + 1)))
set_option maxRecDepth 4000 in
set_option maxHeartbeats 2000000 in
theorem X3_endNight_l18_w {p : Program} {l : Launch} {e : Env} {s : State} {m : MethodId} {args : Array Value} {below : List Frame} {meth : Method} {c : Code} {G : GT} {N : Nat} {z : HS} (E : CallFix p m c cX3_endNight 2 s args UW RX3) (hr : meth.sig.returnType = none) (hlk : meth.locks = false) : ∀ (n : Nat) (h : HS) (H : Heap) (locs : List Loc) (ls : Array Slot) (v0 : Nat) (v1 : Int32), X3_endNight_l18 N n h v0 v1 = some z → WD G s h H locs → sh v0 = 3 → lv_has ls 2 [(0, .ref (ad G v0)), (1, .int v1)] → W p l e ({ frames := 4, cells := 0, slots := 0, locals := 85 } : Room) s m args below meth c H locs 0 0 (MQ below (QC G none z) args s 0 0 (AD G)) (F0 m 18 ls []) := by
  intro n
  induction n with
  | zero =>
    intro h H locs ls v0 v1 hf
    cases hf
  | succ n ih =>
    intro h H locs ls v0 v1 hf w t_v0 hl
    unfold X3_endNight_l18 at hf
    refine lv_iload_n E.1 E.2.1 dX3_endNight_18 rfl (lv_at hl 1 rfl) ?_
    refine lv_bipush (v := 8) E.1 E.2.1 dX3_endNight_19 rfl ?_
    refine lv_icmp_ge (tgt := 68) E.1 E.2.1 dX3_endNight_21 (by decide) (fun c2 => ?_) (fun c2 => ?_)
    · have hf := q_pos c2 hf
      refine lv_aload_n E.1 E.2.1 dX3_endNight_68 rfl (lv_at hl 0 rfl) ?_
      refine q_gh E w t_v0 (by decide) fl_RX3_12 dX3_endNight_69 (fun t3 => ?_)
      refine lv_aload_n E.1 E.2.1 dX3_endNight_72 rfl (lv_at hl 0 rfl) ?_
      refine q_gi E w t_v0 fl_RX3_25 dX3_endNight_73 ?_
      obtain ⟨r5, hc4, hf⟩ := bd1_e hf
      refine k_Vi (As := [.int (h.1 v0 3)]) (rest := []) E w t3 ⟨by decide, rfl⟩ (X1_peopleOf_c t3 hc4) mv_RX3_163 rfl rfl hl.1 ⟨Nat.le_of_ble_eq_true rfl, Nat.le_of_ble_eq_true rfl⟩ (Nat.le_of_ble_eq_true rfl) ⟨Nat.le_refl _, Nat.le_refl _⟩ dX3_endNight_76 (fun H locs w => ?_)
      refine lv_istore_n (lv' := [(1, .int r5), (0, .ref (ad G v0))]) E.1 E.2.1 dX3_endNight_79 rfl hl (by decide) rfl (fun ls hl => ?_)
      refine lv_aload_n E.1 E.2.1 dX3_endNight_80 rfl (lv_at hl 1 rfl) ?_
      refine lv_dup E.1 E.2.1 dX3_endNight_81 rfl ?_
      refine q_gi E w t_v0 fl_RX3_28 dX3_endNight_82 ?_
      refine lv_iload_n E.1 E.2.1 dX3_endNight_85 rfl (lv_at hl 0 rfl) ?_
      refine lv_iadd E.1 E.2.1 dX3_endNight_86 ?_
      refine p_pi E w t_v0 fl_RX3_28 (fp_3_4 _) dX3_endNight_87 (fun h7 H locs eh w => ?_)
      have hf := sq_e eh hf
      clear eh
      refine lv_aload_n E.1 E.2.1 dX3_endNight_90 rfl (lv_at hl 1 rfl) ?_
      refine lv_dup E.1 E.2.1 dX3_endNight_91 rfl ?_
      refine q_gi E w t_v0 fl_RX3_31 dX3_endNight_92 ?_
      refine lv_aload_n E.1 E.2.1 dX3_endNight_95 rfl (lv_at hl 1 rfl) ?_
      refine q_gh E w t_v0 (by decide) fl_RX3_12 dX3_endNight_96 (fun t8 => ?_)
      refine lv_aload_n E.1 E.2.1 dX3_endNight_99 rfl (lv_at hl 1 rfl) ?_
      refine q_gi E w t_v0 fl_RX3_25 dX3_endNight_100 ?_
      refine lv_iconst (v := (-1)) E.1 E.2.1 dX3_endNight_103 rfl ?_
      refine lv_ixor E.1 E.2.1 dX3_endNight_104 ?_
      obtain ⟨r10, hc9, hf⟩ := bd1_e hf
      refine k_Vi (As := [.int ((h7.1 v0 3) ^^^ (-1))]) (rest := [.int (h7.1 v0 5), .ref (ad G v0)]) E w t8 ⟨by decide, rfl⟩ (X1_rentsOf_c t8 hc9) mv_RX3_166 rfl rfl hl.1 ⟨Nat.le_of_ble_eq_true rfl, Nat.le_of_ble_eq_true rfl⟩ (Nat.le_of_ble_eq_true rfl) ⟨Nat.le_refl _, Nat.le_refl _⟩ dX3_endNight_105 (fun H locs w => ?_)
      refine lv_iadd E.1 E.2.1 dX3_endNight_108 ?_
      refine p_pi E w t_v0 fl_RX3_31 (fp_3_5 _) dX3_endNight_109 (fun h12 H locs eh w => ?_)
      have hf := sq_e eh hf
      clear eh
      refine lv_aload_n E.1 E.2.1 dX3_endNight_112 rfl (lv_at hl 1 rfl) ?_
      refine lv_dup E.1 E.2.1 dX3_endNight_113 rfl ?_
      refine q_gi E w t_v0 fl_RX3_71 dX3_endNight_114 ?_
      refine lv_iload_n E.1 E.2.1 dX3_endNight_117 rfl (lv_at hl 0 rfl) ?_
      refine lv_if_ne (tgt := 125) E.1 E.2.1 dX3_endNight_118 (by decide) (fun c13 => ?_) (fun c13 => ?_)
      · have hf := q_neg c13 hf
        refine lv_iconst (v := 0) E.1 E.2.1 dX3_endNight_125 rfl ?_
        exact X3_endNight_b126_w E hr hlk hf w t_v0 t_v0 (lv_sub hl [1, 0] rfl)
      · have hf := q_pos c13 hf
        refine lv_iconst (v := 1) E.1 E.2.1 dX3_endNight_121 rfl ?_
        refine lv_goto (tgt := 126) E.1 E.2.1 dX3_endNight_122 (by decide) ?_
        exact X3_endNight_b126_w E hr hlk hf w t_v0 t_v0 (lv_sub hl [1, 0] rfl)
    · have hf := q_neg c2 hf
      refine lv_aload_n E.1 E.2.1 dX3_endNight_24 rfl (lv_at hl 0 rfl) ?_
      refine q_gh E w t_v0 (by decide) fl_RX3_12 dX3_endNight_25 (fun t33 => ?_)
      refine lv_iload_n E.1 E.2.1 dX3_endNight_28 rfl (lv_at hl 1 rfl) ?_
      obtain ⟨r35, hc34, hf⟩ := bd1_e hf
      refine k_Vi (As := [.int v1]) (rest := []) E w t33 ⟨by decide, rfl⟩ (X1_sounds_c t33 hc34) mv_RX3_160 rfl rfl hl.1 ⟨Nat.le_of_ble_eq_true rfl, Nat.le_of_ble_eq_true rfl⟩ (Nat.le_of_ble_eq_true rfl) ⟨Nat.le_refl _, Nat.le_refl _⟩ dX3_endNight_29 (fun H locs w => ?_)
      refine lv_if_eq (tgt := 62) E.1 E.2.1 dX3_endNight_32 (by decide) (fun c37 => ?_) (fun c37 => ?_)
      · have hf := q_pos c37 hf
        refine lv_iinc (v := v1 + 1) (lv' := [(1, .int (v1 + 1)), (0, .ref (ad G v0))]) E.1 E.2.1 dX3_endNight_62 hl (k := 1) rfl rfl (by decide) rfl (fun ls hl => ?_)
        refine lv_goto (tgt := 18) E.1 E.2.1 dX3_endNight_65 (by decide) ?_
        exact ih _ _ _ _ _ _ hf w t_v0 (lv_sub hl [1, 0] rfl)
      · have hf := q_neg c37 hf
        refine lv_aload_n E.1 E.2.1 dX3_endNight_35 rfl (lv_at hl 0 rfl) ?_
        refine lv_dup E.1 E.2.1 dX3_endNight_36 rfl ?_
        refine q_gi E w t_v0 fl_RX3_25 dX3_endNight_37 ?_
        refine lv_aload_n E.1 E.2.1 dX3_endNight_40 rfl (lv_at hl 0 rfl) ?_
        refine q_gh E w t_v0 (by decide) fl_RX3_12 dX3_endNight_41 (fun t38 => ?_)
        refine lv_aload_n E.1 E.2.1 dX3_endNight_44 rfl (lv_at hl 0 rfl) ?_
        refine q_gh E w t_v0 (by decide) fl_RX3_12 dX3_endNight_45 (fun t39 => ?_)
        refine q_gs E w 5 t39 fl_RX3_130 dX3_endNight_48 ?_
        refine lv_iload_n E.1 E.2.1 dX3_endNight_51 rfl (lv_at hl 1 rfl) ?_
        obtain ⟨r41, hc40, hf⟩ := bd1_e hf
        refine k_Ni (As := [.ref (ad G ((h.2 v0) + 5)), .int v1]) (rest := [.ref (ad G (h.2 v0)), .int (h.1 v0 3), .ref (ad G v0)]) E w (X10_at_c ((lay_1_9 t39).1) hc40) mn_RX3_90 rfl rfl hl.1 ⟨Nat.le_of_ble_eq_true rfl, Nat.le_of_ble_eq_true rfl⟩ (Nat.le_of_ble_eq_true rfl) ⟨Nat.le_refl _, Nat.le_refl _⟩ dX3_endNight_52 (fun H locs w => ?_)
        obtain ⟨r44, hc43, hf⟩ := bd1_e hf
        refine k_Vi (As := [.int r41]) (rest := [.int (h.1 v0 3), .ref (ad G v0)]) E w t38 ⟨by decide, rfl⟩ (X1_from_c t38 hc43) mv_RX3_133 rfl rfl hl.1 ⟨Nat.le_of_ble_eq_true rfl, Nat.le_of_ble_eq_true rfl⟩ (Nat.le_of_ble_eq_true rfl) ⟨Nat.le_refl _, Nat.le_refl _⟩ dX3_endNight_55 (fun H locs w => ?_)
        refine lv_ior E.1 E.2.1 dX3_endNight_58 ?_
        refine p_pi E w t_v0 fl_RX3_25 (fp_3_3 _) dX3_endNight_59 (fun h46 H locs eh w => ?_)
        have hf := sq_e eh hf
        clear eh
        refine lv_iinc (v := v1 + 1) (lv' := [(1, .int (v1 + 1)), (0, .ref (ad G v0))]) E.1 E.2.1 dX3_endNight_62 hl (k := 1) rfl rfl (by decide) rfl (fun ls hl => ?_)
        refine lv_goto (tgt := 18) E.1 E.2.1 dX3_endNight_65 (by decide) ?_
        exact ih _ _ _ _ _ _ hf w t_v0 (lv_sub hl [1, 0] rfl)

def X3_endNight (N : Nat) (h : HS) (v0 : Nat) : Option HS := (if (h.1 v0 2) = ((-1) : Int32) then X3_endNight_l18 N N h v0 8 else X3_endNight_l18 N N h v0 (h.1 v0 2))
set_option maxRecDepth 4000 in
set_option maxHeartbeats 2000000 in
theorem X3_endNight_c {l : Launch} {G : GT} {N : Nat} {h : HS} {v0 : Nat} {z : HS} (t_v0 : sh v0 = 3) (hf : X3_endNight N h v0 = some z) : CT l G yX3_endNight cX3_endNight 2 none 4 85 [.ref (ad G v0)] h none z := by
  unfold X3_endNight at hf
  refine CT.of (by decide) (Nat.le_of_ble_eq_true rfl) ?_
  intro p e s m below meth c ls E hr hlk w hl
  have hl : lv_has ls 2 [(0, .ref (ad G v0))] := hl
  refine lv_aload_n E.1 E.2.1 dX3_endNight_0 rfl (lv_at hl 0 rfl) ?_
  refine q_gi E w t_v0 fl_RX3_22 dX3_endNight_1 ?_
  refine lv_iconst (v := (-1)) E.1 E.2.1 dX3_endNight_4 rfl ?_
  refine lv_icmp_ne (tgt := 13) E.1 E.2.1 dX3_endNight_5 (by decide) (fun c1 => ?_) (fun c1 => ?_)
  · have hf := q_neg c1 hf
    refine lv_aload_n E.1 E.2.1 dX3_endNight_13 rfl (lv_at hl 0 rfl) ?_
    refine q_gi E w t_v0 fl_RX3_22 dX3_endNight_14 ?_
    refine lv_istore_n (lv' := [(1, .int (h.1 v0 2)), (0, .ref (ad G v0))]) E.1 E.2.1 dX3_endNight_17 rfl hl (by decide) rfl (fun ls hl => ?_)
    exact X3_endNight_l18_w E hr hlk N _ _ _ _ _ _ hf w t_v0 (lv_sub hl [1, 0] rfl)
  · have hf := q_pos c1 hf
    refine lv_bipush (v := 8) E.1 E.2.1 dX3_endNight_8 rfl ?_
    refine lv_goto (tgt := 17) E.1 E.2.1 dX3_endNight_10 (by decide) ?_
    refine lv_istore_n (lv' := [(1, .int 8), (0, .ref (ad G v0))]) E.1 E.2.1 dX3_endNight_17 rfl hl (by decide) rfl (fun ls hl => ?_)
    exact X3_endNight_l18_w E hr hlk N _ _ _ _ _ _ hf w t_v0 (lv_sub hl [1, 0] rfl)

def X3_does (N : Nat) (h : HS) (v0 : Nat) (v1 : Int32) (v2 : Int32) : Option (Int32 × HS) := bd1 (X3_may N h v0 v1 v2) fun r2 => (if r2 = 0 then some (nz 0, h) else (if v1 = 0 then bd1 (X3_singNext N h v0 v2) fun h8 => sq (wi h8 v0 14 ((h8.1 v0 14) + 1)) fun h9 => some (nz 1, h9) else (if v1 = 1 then sq (wi h v0 7 ((h.1 v0 7) ||| ((1 : Int32) <<< (v2 &&& 31)))) fun h11 => sq (wi h11 v0 14 ((h11.1 v0 14) + 1)) fun h12 => some (nz 1, h12) else (if v1 = 2 then sq (wi h v0 7 ((h.1 v0 7) &&& (((1 : Int32) <<< (v2 &&& 31)) ^^^ (-1)))) fun h14 => sq (wi h14 v0 14 ((h14.1 v0 14) + 1)) fun h15 => some (nz 1, h15) else (if v1 = 3 then bd1 (X10_at N h ((h.2 v0) + 5) (h.1 v0 2)) fun r20 => bd1 (X1_from N h (h.2 v0) r20) fun r23 => sq (wi h v0 3 ((h.1 v0 3) ||| r23)) fun h25 => bd1 (X3_goOn N h25 v0 (-1)) fun h28 => sq (wi h28 v0 14 ((h28.1 v0 14) + 1)) fun h29 => some (nz 1, h29) else bd1 (X3_endNight N h v0) fun h32 => sq (wi h32 v0 14 ((h32.1 v0 14) + 1)) fun h33 => some (nz 1, h33))))))
set_option maxRecDepth 4000 in
set_option maxHeartbeats 2000000 in
theorem X3_does_c {l : Launch} {G : GT} {N : Nat} {h : HS} {v0 : Nat} {v1 : Int32} {v2 : Int32} {z : (Int32 × HS)} (t_v0 : sh v0 = 3) (hf : X3_does N h v0 v1 v2 = some z) : CT l G yX3_does cX3_does 3 (some .boolean) 5 106 [.ref (ad G v0), .int v1, .int v2] h (some (.int z.1)) z.2 := by
  unfold X3_does at hf
  refine CT.of (by decide) (Nat.le_of_ble_eq_true rfl) ?_
  intro p e s m below meth c ls E hr hlk w hl
  have hl : lv_has ls 3 [(0, .ref (ad G v0)), (1, .int v1), (2, .int v2)] := hl
  refine lv_aload_n E.1 E.2.1 dX3_does_0 rfl (lv_at hl 0 rfl) ?_
  refine lv_iload_n E.1 E.2.1 dX3_does_1 rfl (lv_at hl 1 rfl) ?_
  refine lv_iload_n E.1 E.2.1 dX3_does_2 rfl (lv_at hl 2 rfl) ?_
  obtain ⟨r2, hc1, hf⟩ := bd1_e hf
  refine k_Vi (As := [.int v1, .int v2]) (rest := []) E w t_v0 ⟨by decide, rfl⟩ (X3_may_c t_v0 hc1) mv_RX3_123 rfl rfl hl.1 ⟨Nat.le_of_ble_eq_true rfl, Nat.le_of_ble_eq_true rfl⟩ (Nat.le_of_ble_eq_true rfl) ⟨Nat.le_refl _, Nat.le_refl _⟩ dX3_does_3 (fun H locs w => ?_)
  refine lv_if_ne (tgt := 11) E.1 E.2.1 dX3_does_6 (by decide) (fun c4 => ?_) (fun c4 => ?_)
  · have hf := q_neg c4 hf
    refine lv_iload_n E.1 E.2.1 dX3_does_11 rfl (lv_at hl 1 rfl) ?_
    by_cases c5 : v1 = 0
    · have hf := q_pos c5 hf
      refine lv_tableIn (off := 32) (tgt := 44) E.1 E.2.1 dX3_does_12 (by rw [c5]; decide) (by rw [c5]; decide) (by rw [c5]; rfl) (by decide) ?_
      refine lv_aload_n E.1 E.2.1 dX3_does_44 rfl (lv_at hl 0 rfl) ?_
      refine lv_iload_n E.1 E.2.1 dX3_does_45 rfl (lv_at hl 2 rfl) ?_
      obtain ⟨h8, hc6, hf⟩ := bd1_e hf
      refine k_Vv (As := [.int v2]) (rest := []) E w t_v0 ⟨by decide, rfl⟩ (X3_singNext_c t_v0 hc6) mv_RX3_126 rfl rfl hl.1 ⟨Nat.le_of_ble_eq_true rfl, Nat.le_of_ble_eq_true rfl⟩ (Nat.le_of_ble_eq_true rfl) ⟨Nat.le_refl _, Nat.le_refl _⟩ dX3_does_46 (fun H locs w => ?_)
      refine lv_goto (tgt := 126) E.1 E.2.1 dX3_does_49 (by decide) ?_
      refine lv_aload_n E.1 E.2.1 dX3_does_126 rfl (lv_at hl 0 rfl) ?_
      refine lv_dup E.1 E.2.1 dX3_does_127 rfl ?_
      refine q_gi E w t_v0 fl_RX3_59 dX3_does_128 ?_
      refine lv_iconst (v := 1) E.1 E.2.1 dX3_does_131 rfl ?_
      refine lv_iadd E.1 E.2.1 dX3_does_132 ?_
      refine p_pi E w t_v0 fl_RX3_59 (fp_3_14 _) dX3_does_133 (fun h9 H locs eh w => ?_)
      have hf := sq_e eh hf
      clear eh
      refine lv_iconst (v := 1) E.1 E.2.1 dX3_does_136 rfl ?_
      have hf := Option.some.inj hf
      subst hf
      exact q_zret E w hr hlk dX3_does_137
    have hf := q_neg c5 hf
    by_cases c10 : v1 = 1
    · have hf := q_pos c10 hf
      refine lv_tableIn (off := 40) (tgt := 52) E.1 E.2.1 dX3_does_12 (by rw [c10]; decide) (by rw [c10]; decide) (by rw [c10]; rfl) (by decide) ?_
      refine lv_aload_n E.1 E.2.1 dX3_does_52 rfl (lv_at hl 0 rfl) ?_
      refine lv_dup E.1 E.2.1 dX3_does_53 rfl ?_
      refine q_gi E w t_v0 fl_RX3_37 dX3_does_54 ?_
      refine lv_iconst (v := 1) E.1 E.2.1 dX3_does_57 rfl ?_
      refine lv_iload_n E.1 E.2.1 dX3_does_58 rfl (lv_at hl 2 rfl) ?_
      refine lv_ishl E.1 E.2.1 dX3_does_59 ?_
      refine lv_ior E.1 E.2.1 dX3_does_60 ?_
      refine p_pi E w t_v0 fl_RX3_37 (fp_3_7 _) dX3_does_61 (fun h11 H locs eh w => ?_)
      have hf := sq_e eh hf
      clear eh
      refine lv_goto (tgt := 126) E.1 E.2.1 dX3_does_64 (by decide) ?_
      refine lv_aload_n E.1 E.2.1 dX3_does_126 rfl (lv_at hl 0 rfl) ?_
      refine lv_dup E.1 E.2.1 dX3_does_127 rfl ?_
      refine q_gi E w t_v0 fl_RX3_59 dX3_does_128 ?_
      refine lv_iconst (v := 1) E.1 E.2.1 dX3_does_131 rfl ?_
      refine lv_iadd E.1 E.2.1 dX3_does_132 ?_
      refine p_pi E w t_v0 fl_RX3_59 (fp_3_14 _) dX3_does_133 (fun h12 H locs eh w => ?_)
      have hf := sq_e eh hf
      clear eh
      refine lv_iconst (v := 1) E.1 E.2.1 dX3_does_136 rfl ?_
      have hf := Option.some.inj hf
      subst hf
      exact q_zret E w hr hlk dX3_does_137
    have hf := q_neg c10 hf
    by_cases c13 : v1 = 2
    · have hf := q_pos c13 hf
      refine lv_tableIn (off := 55) (tgt := 67) E.1 E.2.1 dX3_does_12 (by rw [c13]; decide) (by rw [c13]; decide) (by rw [c13]; rfl) (by decide) ?_
      refine lv_aload_n E.1 E.2.1 dX3_does_67 rfl (lv_at hl 0 rfl) ?_
      refine lv_dup E.1 E.2.1 dX3_does_68 rfl ?_
      refine q_gi E w t_v0 fl_RX3_37 dX3_does_69 ?_
      refine lv_iconst (v := 1) E.1 E.2.1 dX3_does_72 rfl ?_
      refine lv_iload_n E.1 E.2.1 dX3_does_73 rfl (lv_at hl 2 rfl) ?_
      refine lv_ishl E.1 E.2.1 dX3_does_74 ?_
      refine lv_iconst (v := (-1)) E.1 E.2.1 dX3_does_75 rfl ?_
      refine lv_ixor E.1 E.2.1 dX3_does_76 ?_
      refine lv_iand E.1 E.2.1 dX3_does_77 ?_
      refine p_pi E w t_v0 fl_RX3_37 (fp_3_7 _) dX3_does_78 (fun h14 H locs eh w => ?_)
      have hf := sq_e eh hf
      clear eh
      refine lv_goto (tgt := 126) E.1 E.2.1 dX3_does_81 (by decide) ?_
      refine lv_aload_n E.1 E.2.1 dX3_does_126 rfl (lv_at hl 0 rfl) ?_
      refine lv_dup E.1 E.2.1 dX3_does_127 rfl ?_
      refine q_gi E w t_v0 fl_RX3_59 dX3_does_128 ?_
      refine lv_iconst (v := 1) E.1 E.2.1 dX3_does_131 rfl ?_
      refine lv_iadd E.1 E.2.1 dX3_does_132 ?_
      refine p_pi E w t_v0 fl_RX3_59 (fp_3_14 _) dX3_does_133 (fun h15 H locs eh w => ?_)
      have hf := sq_e eh hf
      clear eh
      refine lv_iconst (v := 1) E.1 E.2.1 dX3_does_136 rfl ?_
      have hf := Option.some.inj hf
      subst hf
      exact q_zret E w hr hlk dX3_does_137
    have hf := q_neg c13 hf
    by_cases c16 : v1 = 3
    · have hf := q_pos c16 hf
      refine lv_tableIn (off := 72) (tgt := 84) E.1 E.2.1 dX3_does_12 (by rw [c16]; decide) (by rw [c16]; decide) (by rw [c16]; rfl) (by decide) ?_
      refine lv_aload_n E.1 E.2.1 dX3_does_84 rfl (lv_at hl 0 rfl) ?_
      refine lv_dup E.1 E.2.1 dX3_does_85 rfl ?_
      refine q_gi E w t_v0 fl_RX3_25 dX3_does_86 ?_
      refine lv_aload_n E.1 E.2.1 dX3_does_89 rfl (lv_at hl 0 rfl) ?_
      refine q_gh E w t_v0 (by decide) fl_RX3_12 dX3_does_90 (fun t17 => ?_)
      refine lv_aload_n E.1 E.2.1 dX3_does_93 rfl (lv_at hl 0 rfl) ?_
      refine q_gh E w t_v0 (by decide) fl_RX3_12 dX3_does_94 (fun t18 => ?_)
      refine q_gs E w 5 t18 fl_RX3_130 dX3_does_97 ?_
      refine lv_aload_n E.1 E.2.1 dX3_does_100 rfl (lv_at hl 0 rfl) ?_
      refine q_gi E w t_v0 fl_RX3_22 dX3_does_101 ?_
      obtain ⟨r20, hc19, hf⟩ := bd1_e hf
      refine k_Ni (As := [.ref (ad G ((h.2 v0) + 5)), .int (h.1 v0 2)]) (rest := [.ref (ad G (h.2 v0)), .int (h.1 v0 3), .ref (ad G v0)]) E w (X10_at_c ((lay_1_9 t18).1) hc19) mn_RX3_90 rfl rfl hl.1 ⟨Nat.le_of_ble_eq_true rfl, Nat.le_of_ble_eq_true rfl⟩ (Nat.le_of_ble_eq_true rfl) ⟨Nat.le_refl _, Nat.le_refl _⟩ dX3_does_104 (fun H locs w => ?_)
      obtain ⟨r23, hc22, hf⟩ := bd1_e hf
      refine k_Vi (As := [.int r20]) (rest := [.int (h.1 v0 3), .ref (ad G v0)]) E w t17 ⟨by decide, rfl⟩ (X1_from_c t17 hc22) mv_RX3_133 rfl rfl hl.1 ⟨Nat.le_of_ble_eq_true rfl, Nat.le_of_ble_eq_true rfl⟩ (Nat.le_of_ble_eq_true rfl) ⟨Nat.le_refl _, Nat.le_refl _⟩ dX3_does_107 (fun H locs w => ?_)
      refine lv_ior E.1 E.2.1 dX3_does_110 ?_
      refine p_pi E w t_v0 fl_RX3_25 (fp_3_3 _) dX3_does_111 (fun h25 H locs eh w => ?_)
      have hf := sq_e eh hf
      clear eh
      refine lv_aload_n E.1 E.2.1 dX3_does_114 rfl (lv_at hl 0 rfl) ?_
      refine lv_iconst (v := (-1)) E.1 E.2.1 dX3_does_115 rfl ?_
      obtain ⟨h28, hc26, hf⟩ := bd1_e hf
      refine k_Vv (As := [.int (-1)]) (rest := []) E w t_v0 ⟨by decide, rfl⟩ (X3_goOn_c t_v0 hc26) mv_RX3_136 rfl rfl hl.1 ⟨Nat.le_of_ble_eq_true rfl, Nat.le_of_ble_eq_true rfl⟩ (Nat.le_of_ble_eq_true rfl) ⟨Nat.le_refl _, Nat.le_refl _⟩ dX3_does_116 (fun H locs w => ?_)
      refine lv_goto (tgt := 126) E.1 E.2.1 dX3_does_119 (by decide) ?_
      refine lv_aload_n E.1 E.2.1 dX3_does_126 rfl (lv_at hl 0 rfl) ?_
      refine lv_dup E.1 E.2.1 dX3_does_127 rfl ?_
      refine q_gi E w t_v0 fl_RX3_59 dX3_does_128 ?_
      refine lv_iconst (v := 1) E.1 E.2.1 dX3_does_131 rfl ?_
      refine lv_iadd E.1 E.2.1 dX3_does_132 ?_
      refine p_pi E w t_v0 fl_RX3_59 (fp_3_14 _) dX3_does_133 (fun h29 H locs eh w => ?_)
      have hf := sq_e eh hf
      clear eh
      refine lv_iconst (v := 1) E.1 E.2.1 dX3_does_136 rfl ?_
      have hf := Option.some.inj hf
      subst hf
      exact q_zret E w hr hlk dX3_does_137
    have hf := q_neg c16 hf
    refine lv_tableOut (tgt := 122) E.1 E.2.1 dX3_does_12 (by have := ne_i c5 (z := 0) (by decide); have := ne_i c10 (z := 1) (by decide); have := ne_i c13 (z := 2) (by decide); have := ne_i c16 (z := 3) (by decide); omega) (by decide) ?_
    refine lv_aload_n E.1 E.2.1 dX3_does_122 rfl (lv_at hl 0 rfl) ?_
    obtain ⟨h32, hc30, hf⟩ := bd1_e hf
    refine k_Vv (As := []) (rest := []) E w t_v0 ⟨by decide, rfl⟩ (X3_endNight_c t_v0 hc30) mv_RX3_139 rfl rfl hl.1 ⟨Nat.le_of_ble_eq_true rfl, Nat.le_of_ble_eq_true rfl⟩ (Nat.le_of_ble_eq_true rfl) ⟨Nat.le_refl _, Nat.le_refl _⟩ dX3_does_123 (fun H locs w => ?_)
    refine lv_aload_n E.1 E.2.1 dX3_does_126 rfl (lv_at hl 0 rfl) ?_
    refine lv_dup E.1 E.2.1 dX3_does_127 rfl ?_
    refine q_gi E w t_v0 fl_RX3_59 dX3_does_128 ?_
    refine lv_iconst (v := 1) E.1 E.2.1 dX3_does_131 rfl ?_
    refine lv_iadd E.1 E.2.1 dX3_does_132 ?_
    refine p_pi E w t_v0 fl_RX3_59 (fp_3_14 _) dX3_does_133 (fun h33 H locs eh w => ?_)
    have hf := sq_e eh hf
    clear eh
    refine lv_iconst (v := 1) E.1 E.2.1 dX3_does_136 rfl ?_
    have hf := Option.some.inj hf
    subst hf
    exact q_zret E w hr hlk dX3_does_137
  · have hf := q_pos c4 hf
    refine lv_iconst (v := 0) E.1 E.2.1 dX3_does_9 rfl ?_
    have hf := Option.some.inj hf
    subst hf
    exact q_zret E w hr hlk dX3_does_10

def X3_play_l8 (N : Nat) : Nat → HS → Nat → Nat → Int32 → Int32 → Option (Int32 × HS)
  | 0, _, _, _, _, _ => none
  | n + 1, h, v0, v2, v3, v4 => (if v3 ≤ v4 then some (v3, h) else (if (h.1 v2 3) ≤ v4 then some (v3, h) else bd1 (X10_at N h (v2 + 1) v4) fun r7 => bd1 (X10_at N h (v2 + 2) v4) fun r10 => bd2 (X3_does N h v0 r7 r10) fun r13 h14 => (if r13 = 0 then some (v4, h14) else X3_play_l8 N n h14 v0 v2 v3 (v4 + 1))))
set_option maxRecDepth 4000 in
set_option maxHeartbeats 2000000 in
theorem X3_play_l8_w {p : Program} {l : Launch} {e : Env} {s : State} {m : MethodId} {args : Array Value} {below : List Frame} {meth : Method} {c : Code} {G : GT} {N : Nat} {z : (Int32 × HS)} (E : CallFix p m c cX3_play 5 s args UW RX3) (hr : meth.sig.returnType = (some .int)) (hlk : meth.locks = false) : ∀ (n : Nat) (h : HS) (H : Heap) (locs : List Loc) (ls : Array Slot) (v0 : Nat) (v2 : Nat) (v3 : Int32) (v4 : Int32), X3_play_l8 N n h v0 v2 v3 v4 = some z → WD G s h H locs → sh v0 = 3 → sh v2 = 6 → lv_has ls 5 [(0, .ref (ad G v0)), (2, .ref (ad G v2)), (3, .int v3), (4, .int v4)] → W p l e ({ frames := 6, cells := 0, slots := 0, locals := 128 } : Room) s m args below meth c H locs 0 0 (MQ below (QC G (some (.int z.1)) z.2) args s 0 0 (AD G)) (F0 m 8 ls []) := by
  intro n
  induction n with
  | zero =>
    intro h H locs ls v0 v2 v3 v4 hf
    cases hf
  | succ n ih =>
    intro h H locs ls v0 v2 v3 v4 hf w t_v0 t_v2 hl
    unfold X3_play_l8 at hf
    refine lv_iload E.1 E.2.1 dX3_play_8 (lv_at hl 3 rfl) ?_
    refine lv_iload_n E.1 E.2.1 dX3_play_10 rfl (lv_at hl 2 rfl) ?_
    refine lv_icmp_ge (tgt := 57) E.1 E.2.1 dX3_play_11 (by decide) (fun c4 => ?_) (fun c4 => ?_)
    · have hf := q_pos c4 hf
      refine lv_iload_n E.1 E.2.1 dX3_play_57 rfl (lv_at hl 2 rfl) ?_
      have hf := Option.some.inj hf
      subst hf
      exact q_iret E w hr hlk dX3_play_58
    · have hf := q_neg c4 hf
      refine lv_iload E.1 E.2.1 dX3_play_14 (lv_at hl 3 rfl) ?_
      refine lv_aload_n E.1 E.2.1 dX3_play_16 rfl (lv_at hl 1 rfl) ?_
      refine q_gi E w t_v2 fl_RX3_98 dX3_play_17 ?_
      refine lv_icmp_ge (tgt := 57) E.1 E.2.1 dX3_play_20 (by decide) (fun c5 => ?_) (fun c5 => ?_)
      · have hf := q_pos c5 hf
        refine lv_iload_n E.1 E.2.1 dX3_play_57 rfl (lv_at hl 2 rfl) ?_
        have hf := Option.some.inj hf
        subst hf
        exact q_iret E w hr hlk dX3_play_58
      · have hf := q_neg c5 hf
        refine lv_aload_n E.1 E.2.1 dX3_play_23 rfl (lv_at hl 0 rfl) ?_
        refine lv_aload_n E.1 E.2.1 dX3_play_24 rfl (lv_at hl 1 rfl) ?_
        refine q_gs E w 1 t_v2 fl_RX3_103 dX3_play_25 ?_
        refine lv_iload E.1 E.2.1 dX3_play_28 (lv_at hl 3 rfl) ?_
        obtain ⟨r7, hc6, hf⟩ := bd1_e hf
        refine k_Ni (As := [.ref (ad G (v2 + 1)), .int v4]) (rest := [.ref (ad G v0)]) E w (X10_at_c ((lay_6_1 t_v2).1) hc6) mn_RX3_90 rfl rfl hl.1 ⟨Nat.le_of_ble_eq_true rfl, Nat.le_of_ble_eq_true rfl⟩ (Nat.le_of_ble_eq_true rfl) ⟨Nat.le_refl _, Nat.le_refl _⟩ dX3_play_30 (fun H locs w => ?_)
        refine lv_aload_n E.1 E.2.1 dX3_play_33 rfl (lv_at hl 1 rfl) ?_
        refine q_gs E w 2 t_v2 fl_RX3_106 dX3_play_34 ?_
        refine lv_iload E.1 E.2.1 dX3_play_37 (lv_at hl 3 rfl) ?_
        obtain ⟨r10, hc9, hf⟩ := bd1_e hf
        refine k_Ni (As := [.ref (ad G (v2 + 2)), .int v4]) (rest := [.int r7, .ref (ad G v0)]) E w (X10_at_c ((lay_6_2 t_v2).1) hc9) mn_RX3_90 rfl rfl hl.1 ⟨Nat.le_of_ble_eq_true rfl, Nat.le_of_ble_eq_true rfl⟩ (Nat.le_of_ble_eq_true rfl) ⟨Nat.le_refl _, Nat.le_refl _⟩ dX3_play_39 (fun H locs w => ?_)
        obtain ⟨r13, h14, hc12, hf⟩ := bd2_e hf
        refine k_Vi (As := [.int r7, .int r10]) (rest := []) E w t_v0 ⟨by decide, rfl⟩ (X3_does_c t_v0 hc12) mv_RX3_109 rfl rfl hl.1 ⟨Nat.le_of_ble_eq_true rfl, Nat.le_of_ble_eq_true rfl⟩ (Nat.le_of_ble_eq_true rfl) ⟨Nat.le_refl _, Nat.le_refl _⟩ dX3_play_42 (fun H locs w => ?_)
        refine lv_if_ne (tgt := 51) E.1 E.2.1 dX3_play_45 (by decide) (fun c15 => ?_) (fun c15 => ?_)
        · have hf := q_neg c15 hf
          refine lv_iinc (v := v4 + 1) (lv' := [(4, .int (v4 + 1)), (0, .ref (ad G v0)), (2, .ref (ad G v2)), (3, .int v3)]) E.1 E.2.1 dX3_play_51 hl (k := 3) rfl rfl (by decide) rfl (fun ls hl => ?_)
          refine lv_goto (tgt := 8) E.1 E.2.1 dX3_play_54 (by decide) ?_
          exact ih _ _ _ _ _ _ _ _ hf w t_v0 t_v2 (lv_sub hl [1, 2, 3, 0] rfl)
        · have hf := q_pos c15 hf
          refine lv_iload E.1 E.2.1 dX3_play_48 (lv_at hl 3 rfl) ?_
          have hf := Option.some.inj hf
          subst hf
          exact q_iret E w hr hlk dX3_play_50

def X3_play (N : Nat) (h : HS) (v0 : Nat) (v1 : Nat) (v2 : Nat) (v3 : Int32) : Option (Int32 × HS) := bd1 (X3_enter N h v0 v1) fun h3 => X3_play_l8 N N h3 v0 v2 v3 0
set_option maxRecDepth 4000 in
set_option maxHeartbeats 2000000 in
theorem X3_play_c {l : Launch} {G : GT} {N : Nat} {h : HS} {v0 : Nat} {v1 : Nat} {v2 : Nat} {v3 : Int32} {z : (Int32 × HS)} (t_v0 : sh v0 = 3) (t_v1 : sh v1 = 1) (t_v2 : sh v2 = 6) (hf : X3_play N h v0 v1 v2 v3 = some z) : CT l G yX3_play cX3_play 5 (some .int) 6 128 [.ref (ad G v0), .ref (ad G v1), .ref (ad G v2), .int v3] h (some (.int z.1)) z.2 := by
  unfold X3_play at hf
  refine CT.of (by decide) (Nat.le_of_ble_eq_true rfl) ?_
  intro p e s m below meth c ls E hr hlk w hl
  have hl : lv_has ls 5 [(0, .ref (ad G v0)), (1, .ref (ad G v1)), (2, .ref (ad G v2)), (3, .int v3)] := hl
  refine lv_aload_n E.1 E.2.1 dX3_play_0 rfl (lv_at hl 0 rfl) ?_
  refine lv_aload_n E.1 E.2.1 dX3_play_1 rfl (lv_at hl 1 rfl) ?_
  obtain ⟨h3, hc1, hf⟩ := bd1_e hf
  refine k_Vv (As := [.ref (ad G v1)]) (rest := []) E w t_v0 ⟨by decide, rfl⟩ (X3_enter_c t_v0 t_v1 hc1) mv_RX3_94 rfl rfl hl.1 ⟨Nat.le_of_ble_eq_true rfl, Nat.le_of_ble_eq_true rfl⟩ (Nat.le_of_ble_eq_true rfl) ⟨Nat.le_refl _, Nat.le_refl _⟩ dX3_play_2 (fun H locs w => ?_)
  refine lv_iconst (v := 0) E.1 E.2.1 dX3_play_5 rfl ?_
  refine lv_istore (lv' := [(4, .int 0), (0, .ref (ad G v0)), (1, .ref (ad G v1)), (2, .ref (ad G v2)), (3, .int v3)]) E.1 E.2.1 dX3_play_6 hl (by decide) rfl (fun ls hl => ?_)
  exact X3_play_l8_w E hr hlk N _ _ _ _ _ _ _ _ hf w t_v0 t_v2 (lv_sub hl [1, 3, 4, 0] rfl)

def X3_below (N : Nat) (h : HS) (v0 : Nat) (v1 : Int32) : Option (Int32 × HS) := sq (wi h v0 13 (((h.1 v0 13) * 1103515245) + 12345)) fun h1 => (if v1 ≤ 0 then some (0, h1) else (if v1 = 0 then none else some ((ush (h1.1 v0 13) 16) - (ush (h1.1 v0 13) 16) / v1 * v1, h1)))
set_option maxRecDepth 4000 in
set_option maxHeartbeats 2000000 in
theorem X3_below_c {l : Launch} {G : GT} {N : Nat} {h : HS} {v0 : Nat} {v1 : Int32} {z : (Int32 × HS)} (t_v0 : sh v0 = 3) (hf : X3_below N h v0 v1 = some z) : CT l G yX3_below cX3_below 2 (some .int) 0 0 [.ref (ad G v0), .int v1] h (some (.int z.1)) z.2 := by
  unfold X3_below at hf
  refine CT.of (by decide) (Nat.le_of_ble_eq_true rfl) ?_
  intro p e s m below meth c ls E hr hlk w hl
  have hl : lv_has ls 2 [(0, .ref (ad G v0)), (1, .int v1)] := hl
  refine lv_aload_n E.1 E.2.1 dX3_below_0 rfl (lv_at hl 0 rfl) ?_
  refine lv_aload_n E.1 E.2.1 dX3_below_1 rfl (lv_at hl 0 rfl) ?_
  refine q_gi E w t_v0 fl_RX3_56 dX3_below_2 ?_
  refine lv_ldc (v := 1103515245) E.1 E.2.1 E.2.2.2.1 (E.2.2.2.2 _ ct_RX3_122) dX3_below_5 ?_
  refine lv_imul E.1 E.2.1 dX3_below_7 ?_
  refine lv_sipush (v := 12345) E.1 E.2.1 dX3_below_8 rfl ?_
  refine lv_iadd E.1 E.2.1 dX3_below_11 ?_
  refine p_pi E w t_v0 fl_RX3_56 (fp_3_13 _) dX3_below_12 (fun h1 H locs eh w => ?_)
  have hf := sq_e eh hf
  clear eh
  refine lv_iload_n E.1 E.2.1 dX3_below_15 rfl (lv_at hl 1 rfl) ?_
  refine lv_if_le (tgt := 31) E.1 E.2.1 dX3_below_16 (by decide) (fun c2 => ?_) (fun c2 => ?_)
  · have hf := q_pos c2 hf
    refine lv_iconst (v := 0) E.1 E.2.1 dX3_below_31 rfl ?_
    have hf := Option.some.inj hf
    subst hf
    exact q_iret E w hr hlk dX3_below_32
  · have hf := q_neg c2 hf
    refine lv_aload_n E.1 E.2.1 dX3_below_19 rfl (lv_at hl 0 rfl) ?_
    refine q_gi E w t_v0 fl_RX3_56 dX3_below_20 ?_
    refine lv_bipush (v := 16) E.1 E.2.1 dX3_below_23 rfl ?_
    refine lv_iushr (v := ush (h1.1 v0 13) 16) E.1 E.2.1 dX3_below_25 rfl ?_
    refine lv_iload_n E.1 E.2.1 dX3_below_26 rfl (lv_at hl 1 rfl) ?_
    obtain ⟨z3, hf⟩ := q_if hf
    refine lv_irem E.1 E.2.1 dX3_below_27 z3 ?_
    refine lv_goto (tgt := 32) E.1 E.2.1 dX3_below_28 (by decide) ?_
    have hf := Option.some.inj hf
    subst hf
    exact q_iret E w hr hlk dX3_below_32

def X3_drawDeed (N : Nat) (h : HS) (v0 : Nat) : Option HS := bd2 (X3_below N h v0 8) fun r2 h3 => (if r2 = (6 : Int32) then bd2 (X3_does N h3 v0 3 (-1)) fun r38 h39 => some h39 else (if r2 = (7 : Int32) then bd2 (X3_does N h3 v0 4 (-1)) fun r35 h36 => some h36 else (if (h3.1 (h3.2 v0) 2) ≤ 0 then some h3 else (if (5 : Int32) ≤ r2 then bd2 (X3_below N h3 v0 2) fun r10 h11 => (if r10 = 0 then bd2 (X3_below N h11 v0 (h11.1 (h11.2 v0) 2)) fun r22 h23 => bd2 (X3_does N h23 v0 1 r22) fun r25 h26 => some h26 else bd2 (X3_below N h11 v0 (h11.1 (h11.2 v0) 2)) fun r15 h16 => bd2 (X3_does N h16 v0 2 r15) fun r18 h19 => some h19) else bd2 (X3_below N h3 v0 (h3.1 (h3.2 v0) 2)) fun r29 h30 => bd2 (X3_does N h30 v0 0 r29) fun r32 h33 => some h33))))
set_option maxRecDepth 4000 in
set_option maxHeartbeats 2000000 in
theorem X3_drawDeed_c {l : Launch} {G : GT} {N : Nat} {h : HS} {v0 : Nat} {z : HS} (t_v0 : sh v0 = 3) (hf : X3_drawDeed N h v0 = some z) : CT l G yX3_drawDeed cX3_drawDeed 3 none 6 128 [.ref (ad G v0)] h none z := by
  unfold X3_drawDeed at hf
  refine CT.of (by decide) (Nat.le_of_ble_eq_true rfl) ?_
  intro p e s m below meth c ls E hr hlk w hl
  have hl : lv_has ls 3 [(0, .ref (ad G v0))] := hl
  refine lv_aload_n E.1 E.2.1 dX3_drawDeed_0 rfl (lv_at hl 0 rfl) ?_
  refine lv_bipush (v := 8) E.1 E.2.1 dX3_drawDeed_1 rfl ?_
  obtain ⟨r2, h3, hc1, hf⟩ := bd2_e hf
  refine k_Vi (As := [.int 8]) (rest := []) E w t_v0 ⟨by decide, rfl⟩ (X3_below_c t_v0 hc1) mv_RX3_116 rfl rfl hl.1 ⟨Nat.le_of_ble_eq_true rfl, Nat.le_of_ble_eq_true rfl⟩ (Nat.le_of_ble_eq_true rfl) ⟨Nat.le_refl _, Nat.le_refl _⟩ dX3_drawDeed_3 (fun H locs w => ?_)
  refine lv_istore_n (lv' := [(1, .int r2), (0, .ref (ad G v0))]) E.1 E.2.1 dX3_drawDeed_6 rfl hl (by decide) rfl (fun ls hl => ?_)
  refine lv_iload_n E.1 E.2.1 dX3_drawDeed_7 rfl (lv_at hl 0 rfl) ?_
  refine lv_bipush (v := 6) E.1 E.2.1 dX3_drawDeed_8 rfl ?_
  refine lv_icmp_ne (tgt := 23) E.1 E.2.1 dX3_drawDeed_10 (by decide) (fun c4 => ?_) (fun c4 => ?_)
  · have hf := q_neg c4 hf
    refine lv_iload_n E.1 E.2.1 dX3_drawDeed_23 rfl (lv_at hl 0 rfl) ?_
    refine lv_bipush (v := 7) E.1 E.2.1 dX3_drawDeed_24 rfl ?_
    refine lv_icmp_ne (tgt := 39) E.1 E.2.1 dX3_drawDeed_26 (by decide) (fun c5 => ?_) (fun c5 => ?_)
    · have hf := q_neg c5 hf
      refine lv_aload_n E.1 E.2.1 dX3_drawDeed_39 rfl (lv_at hl 1 rfl) ?_
      refine q_gh E w t_v0 (by decide) fl_RX3_12 dX3_drawDeed_40 (fun t6 => ?_)
      refine q_gi E w t6 fl_RX3_119 dX3_drawDeed_43 ?_
      refine lv_if_le (tgt := 89) E.1 E.2.1 dX3_drawDeed_46 (by decide) (fun c7 => ?_) (fun c7 => ?_)
      · have hf := q_pos c7 hf
        have hf := Option.some.inj hf
        subst hf
        exact q_vret E w hr hlk dX3_drawDeed_89
      · have hf := q_neg c7 hf
        refine lv_iload_n E.1 E.2.1 dX3_drawDeed_49 rfl (lv_at hl 0 rfl) ?_
        refine lv_iconst (v := 5) E.1 E.2.1 dX3_drawDeed_50 rfl ?_
        refine lv_icmp_ge (tgt := 58) E.1 E.2.1 dX3_drawDeed_51 (by decide) (fun c8 => ?_) (fun c8 => ?_)
        · have hf := q_pos c8 hf
          refine lv_aload_n E.1 E.2.1 dX3_drawDeed_58 rfl (lv_at hl 1 rfl) ?_
          refine lv_iconst (v := 2) E.1 E.2.1 dX3_drawDeed_59 rfl ?_
          obtain ⟨r10, h11, hc9, hf⟩ := bd2_e hf
          refine k_Vi (As := [.int 2]) (rest := []) E w t_v0 ⟨by decide, rfl⟩ (X3_below_c t_v0 hc9) mv_RX3_116 rfl rfl hl.1 ⟨Nat.le_of_ble_eq_true rfl, Nat.le_of_ble_eq_true rfl⟩ (Nat.le_of_ble_eq_true rfl) ⟨Nat.le_refl _, Nat.le_refl _⟩ dX3_drawDeed_60 (fun H locs w => ?_)
          refine lv_if_ne (tgt := 70) E.1 E.2.1 dX3_drawDeed_63 (by decide) (fun c12 => ?_) (fun c12 => ?_)
          · have hf := q_neg c12 hf
            refine lv_iconst (v := 2) E.1 E.2.1 dX3_drawDeed_70 rfl ?_
            refine lv_istore_n (lv' := [(2, .int 2), (1, .int r2), (0, .ref (ad G v0))]) E.1 E.2.1 dX3_drawDeed_71 rfl hl (by decide) rfl (fun ls hl => ?_)
            refine lv_aload_n E.1 E.2.1 dX3_drawDeed_72 rfl (lv_at hl 2 rfl) ?_
            refine lv_iload_n E.1 E.2.1 dX3_drawDeed_73 rfl (lv_at hl 0 rfl) ?_
            refine lv_aload_n E.1 E.2.1 dX3_drawDeed_74 rfl (lv_at hl 2 rfl) ?_
            refine lv_aload_n E.1 E.2.1 dX3_drawDeed_75 rfl (lv_at hl 2 rfl) ?_
            refine q_gh E w t_v0 (by decide) fl_RX3_12 dX3_drawDeed_76 (fun t13 => ?_)
            refine q_gi E w t13 fl_RX3_119 dX3_drawDeed_79 ?_
            obtain ⟨r15, h16, hc14, hf⟩ := bd2_e hf
            refine k_Vi (As := [.int (h11.1 (h11.2 v0) 2)]) (rest := [.int 2, .ref (ad G v0)]) E w t_v0 ⟨by decide, rfl⟩ (X3_below_c t_v0 hc14) mv_RX3_116 rfl rfl hl.1 ⟨Nat.le_of_ble_eq_true rfl, Nat.le_of_ble_eq_true rfl⟩ (Nat.le_of_ble_eq_true rfl) ⟨Nat.le_refl _, Nat.le_refl _⟩ dX3_drawDeed_82 (fun H locs w => ?_)
            obtain ⟨r18, h19, hc17, hf⟩ := bd2_e hf
            refine k_Vi (As := [.int 2, .int r15]) (rest := []) E w t_v0 ⟨by decide, rfl⟩ (X3_does_c t_v0 hc17) mv_RX3_109 rfl rfl hl.1 ⟨Nat.le_of_ble_eq_true rfl, Nat.le_of_ble_eq_true rfl⟩ (Nat.le_of_ble_eq_true rfl) ⟨Nat.le_refl _, Nat.le_refl _⟩ dX3_drawDeed_85 (fun H locs w => ?_)
            refine lv_pop E.1 E.2.1 dX3_drawDeed_88 rfl ?_
            have hf := Option.some.inj hf
            subst hf
            exact q_vret E w hr hlk dX3_drawDeed_89
          · have hf := q_pos c12 hf
            refine lv_iconst (v := 1) E.1 E.2.1 dX3_drawDeed_66 rfl ?_
            refine lv_goto (tgt := 71) E.1 E.2.1 dX3_drawDeed_67 (by decide) ?_
            refine lv_istore_n (lv' := [(2, .int 1), (1, .int r2), (0, .ref (ad G v0))]) E.1 E.2.1 dX3_drawDeed_71 rfl hl (by decide) rfl (fun ls hl => ?_)
            refine lv_aload_n E.1 E.2.1 dX3_drawDeed_72 rfl (lv_at hl 2 rfl) ?_
            refine lv_iload_n E.1 E.2.1 dX3_drawDeed_73 rfl (lv_at hl 0 rfl) ?_
            refine lv_aload_n E.1 E.2.1 dX3_drawDeed_74 rfl (lv_at hl 2 rfl) ?_
            refine lv_aload_n E.1 E.2.1 dX3_drawDeed_75 rfl (lv_at hl 2 rfl) ?_
            refine q_gh E w t_v0 (by decide) fl_RX3_12 dX3_drawDeed_76 (fun t20 => ?_)
            refine q_gi E w t20 fl_RX3_119 dX3_drawDeed_79 ?_
            obtain ⟨r22, h23, hc21, hf⟩ := bd2_e hf
            refine k_Vi (As := [.int (h11.1 (h11.2 v0) 2)]) (rest := [.int 1, .ref (ad G v0)]) E w t_v0 ⟨by decide, rfl⟩ (X3_below_c t_v0 hc21) mv_RX3_116 rfl rfl hl.1 ⟨Nat.le_of_ble_eq_true rfl, Nat.le_of_ble_eq_true rfl⟩ (Nat.le_of_ble_eq_true rfl) ⟨Nat.le_refl _, Nat.le_refl _⟩ dX3_drawDeed_82 (fun H locs w => ?_)
            obtain ⟨r25, h26, hc24, hf⟩ := bd2_e hf
            refine k_Vi (As := [.int 1, .int r22]) (rest := []) E w t_v0 ⟨by decide, rfl⟩ (X3_does_c t_v0 hc24) mv_RX3_109 rfl rfl hl.1 ⟨Nat.le_of_ble_eq_true rfl, Nat.le_of_ble_eq_true rfl⟩ (Nat.le_of_ble_eq_true rfl) ⟨Nat.le_refl _, Nat.le_refl _⟩ dX3_drawDeed_85 (fun H locs w => ?_)
            refine lv_pop E.1 E.2.1 dX3_drawDeed_88 rfl ?_
            have hf := Option.some.inj hf
            subst hf
            exact q_vret E w hr hlk dX3_drawDeed_89
        · have hf := q_neg c8 hf
          refine lv_iconst (v := 0) E.1 E.2.1 dX3_drawDeed_54 rfl ?_
          refine lv_goto (tgt := 71) E.1 E.2.1 dX3_drawDeed_55 (by decide) ?_
          refine lv_istore_n (lv' := [(2, .int 0), (1, .int r2), (0, .ref (ad G v0))]) E.1 E.2.1 dX3_drawDeed_71 rfl hl (by decide) rfl (fun ls hl => ?_)
          refine lv_aload_n E.1 E.2.1 dX3_drawDeed_72 rfl (lv_at hl 2 rfl) ?_
          refine lv_iload_n E.1 E.2.1 dX3_drawDeed_73 rfl (lv_at hl 0 rfl) ?_
          refine lv_aload_n E.1 E.2.1 dX3_drawDeed_74 rfl (lv_at hl 2 rfl) ?_
          refine lv_aload_n E.1 E.2.1 dX3_drawDeed_75 rfl (lv_at hl 2 rfl) ?_
          refine q_gh E w t_v0 (by decide) fl_RX3_12 dX3_drawDeed_76 (fun t27 => ?_)
          refine q_gi E w t27 fl_RX3_119 dX3_drawDeed_79 ?_
          obtain ⟨r29, h30, hc28, hf⟩ := bd2_e hf
          refine k_Vi (As := [.int (h3.1 (h3.2 v0) 2)]) (rest := [.int 0, .ref (ad G v0)]) E w t_v0 ⟨by decide, rfl⟩ (X3_below_c t_v0 hc28) mv_RX3_116 rfl rfl hl.1 ⟨Nat.le_of_ble_eq_true rfl, Nat.le_of_ble_eq_true rfl⟩ (Nat.le_of_ble_eq_true rfl) ⟨Nat.le_refl _, Nat.le_refl _⟩ dX3_drawDeed_82 (fun H locs w => ?_)
          obtain ⟨r32, h33, hc31, hf⟩ := bd2_e hf
          refine k_Vi (As := [.int 0, .int r29]) (rest := []) E w t_v0 ⟨by decide, rfl⟩ (X3_does_c t_v0 hc31) mv_RX3_109 rfl rfl hl.1 ⟨Nat.le_of_ble_eq_true rfl, Nat.le_of_ble_eq_true rfl⟩ (Nat.le_of_ble_eq_true rfl) ⟨Nat.le_refl _, Nat.le_refl _⟩ dX3_drawDeed_85 (fun H locs w => ?_)
          refine lv_pop E.1 E.2.1 dX3_drawDeed_88 rfl ?_
          have hf := Option.some.inj hf
          subst hf
          exact q_vret E w hr hlk dX3_drawDeed_89
    · have hf := q_pos c5 hf
      refine lv_aload_n E.1 E.2.1 dX3_drawDeed_29 rfl (lv_at hl 1 rfl) ?_
      refine lv_iconst (v := 4) E.1 E.2.1 dX3_drawDeed_30 rfl ?_
      refine lv_iconst (v := (-1)) E.1 E.2.1 dX3_drawDeed_31 rfl ?_
      obtain ⟨r35, h36, hc34, hf⟩ := bd2_e hf
      refine k_Vi (As := [.int 4, .int (-1)]) (rest := []) E w t_v0 ⟨by decide, rfl⟩ (X3_does_c t_v0 hc34) mv_RX3_109 rfl rfl hl.1 ⟨Nat.le_of_ble_eq_true rfl, Nat.le_of_ble_eq_true rfl⟩ (Nat.le_of_ble_eq_true rfl) ⟨Nat.le_refl _, Nat.le_refl _⟩ dX3_drawDeed_32 (fun H locs w => ?_)
      refine lv_pop E.1 E.2.1 dX3_drawDeed_35 rfl ?_
      refine lv_goto (tgt := 89) E.1 E.2.1 dX3_drawDeed_36 (by decide) ?_
      have hf := Option.some.inj hf
      subst hf
      exact q_vret E w hr hlk dX3_drawDeed_89
  · have hf := q_pos c4 hf
    refine lv_aload_n E.1 E.2.1 dX3_drawDeed_13 rfl (lv_at hl 1 rfl) ?_
    refine lv_iconst (v := 3) E.1 E.2.1 dX3_drawDeed_14 rfl ?_
    refine lv_iconst (v := (-1)) E.1 E.2.1 dX3_drawDeed_15 rfl ?_
    obtain ⟨r38, h39, hc37, hf⟩ := bd2_e hf
    refine k_Vi (As := [.int 3, .int (-1)]) (rest := []) E w t_v0 ⟨by decide, rfl⟩ (X3_does_c t_v0 hc37) mv_RX3_109 rfl rfl hl.1 ⟨Nat.le_of_ble_eq_true rfl, Nat.le_of_ble_eq_true rfl⟩ (Nat.le_of_ble_eq_true rfl) ⟨Nat.le_refl _, Nat.le_refl _⟩ dX3_drawDeed_16 (fun H locs w => ?_)
    refine lv_pop E.1 E.2.1 dX3_drawDeed_19 rfl ?_
    refine lv_goto (tgt := 89) E.1 E.2.1 dX3_drawDeed_20 (by decide) ?_
    have hf := Option.some.inj hf
    subst hf
    exact q_vret E w hr hlk dX3_drawDeed_89

def X3_draw_l13 (N : Nat) : Nat → HS → Nat → Int32 → Int32 → Option HS
  | 0, _, _, _, _ => none
  | n + 1, h, v0, v3, v4 => (if v3 ≤ v4 then some h else bd1 (X3_drawDeed N h v0) fun h8 => X3_draw_l13 N n h8 v0 v3 (v4 + 1))
set_option maxRecDepth 4000 in
set_option maxHeartbeats 2000000 in
theorem X3_draw_l13_w {p : Program} {l : Launch} {e : Env} {s : State} {m : MethodId} {args : Array Value} {below : List Frame} {meth : Method} {c : Code} {G : GT} {N : Nat} {z : HS} (E : CallFix p m c cX3_draw 5 s args UW RX3) (hr : meth.sig.returnType = none) (hlk : meth.locks = false) : ∀ (n : Nat) (h : HS) (H : Heap) (locs : List Loc) (ls : Array Slot) (v0 : Nat) (v3 : Int32) (v4 : Int32), X3_draw_l13 N n h v0 v3 v4 = some z → WD G s h H locs → sh v0 = 3 → lv_has ls 5 [(0, .ref (ad G v0)), (3, .int v3), (4, .int v4)] → W p l e ({ frames := 7, cells := 0, slots := 0, locals := 150 } : Room) s m args below meth c H locs 0 0 (MQ below (QC G none z) args s 0 0 (AD G)) (F0 m 13 ls []) := by
  intro n
  induction n with
  | zero =>
    intro h H locs ls v0 v3 v4 hf
    cases hf
  | succ n ih =>
    intro h H locs ls v0 v3 v4 hf w t_v0 hl
    unfold X3_draw_l13 at hf
    refine lv_iload E.1 E.2.1 dX3_draw_13 (lv_at hl 2 rfl) ?_
    refine lv_iload_n E.1 E.2.1 dX3_draw_15 rfl (lv_at hl 1 rfl) ?_
    refine lv_icmp_ge (tgt := 29) E.1 E.2.1 dX3_draw_16 (by decide) (fun c5 => ?_) (fun c5 => ?_)
    · have hf := q_pos c5 hf
      have hf := Option.some.inj hf
      subst hf
      exact q_vret E w hr hlk dX3_draw_29
    · have hf := q_neg c5 hf
      refine lv_aload_n E.1 E.2.1 dX3_draw_19 rfl (lv_at hl 0 rfl) ?_
      obtain ⟨h8, hc6, hf⟩ := bd1_e hf
      refine k_Vv (As := []) (rest := []) E w t_v0 ⟨by decide, rfl⟩ (X3_drawDeed_c t_v0 hc6) mv_RX3_113 rfl rfl hl.1 ⟨Nat.le_of_ble_eq_true rfl, Nat.le_of_ble_eq_true rfl⟩ (Nat.le_of_ble_eq_true rfl) ⟨Nat.le_refl _, Nat.le_refl _⟩ dX3_draw_20 (fun H locs w => ?_)
      refine lv_iinc (v := v4 + 1) (lv' := [(4, .int (v4 + 1)), (0, .ref (ad G v0)), (3, .int v3)]) E.1 E.2.1 dX3_draw_23 hl (k := 2) rfl rfl (by decide) rfl (fun ls hl => ?_)
      refine lv_goto (tgt := 13) E.1 E.2.1 dX3_draw_26 (by decide) ?_
      exact ih _ _ _ _ _ _ _ hf w t_v0 (lv_sub hl [1, 2, 0] rfl)

def X3_draw (N : Nat) (h : HS) (v0 : Nat) (v1 : Nat) (v2 : Int32) (v3 : Int32) : Option HS := bd1 (X3_enter N h v0 v1) fun h3 => sq (wi h3 v0 13 v2) fun h4 => X3_draw_l13 N N h4 v0 v3 0
set_option maxRecDepth 4000 in
set_option maxHeartbeats 2000000 in
theorem X3_draw_c {l : Launch} {G : GT} {N : Nat} {h : HS} {v0 : Nat} {v1 : Nat} {v2 : Int32} {v3 : Int32} {z : HS} (t_v0 : sh v0 = 3) (t_v1 : sh v1 = 1) (hf : X3_draw N h v0 v1 v2 v3 = some z) : CT l G yX3_draw cX3_draw 5 none 7 150 [.ref (ad G v0), .ref (ad G v1), .int v2, .int v3] h none z := by
  unfold X3_draw at hf
  refine CT.of (by decide) (Nat.le_of_ble_eq_true rfl) ?_
  intro p e s m below meth c ls E hr hlk w hl
  have hl : lv_has ls 5 [(0, .ref (ad G v0)), (1, .ref (ad G v1)), (2, .int v2), (3, .int v3)] := hl
  refine lv_aload_n E.1 E.2.1 dX3_draw_0 rfl (lv_at hl 0 rfl) ?_
  refine lv_aload_n E.1 E.2.1 dX3_draw_1 rfl (lv_at hl 1 rfl) ?_
  obtain ⟨h3, hc1, hf⟩ := bd1_e hf
  refine k_Vv (As := [.ref (ad G v1)]) (rest := []) E w t_v0 ⟨by decide, rfl⟩ (X3_enter_c t_v0 t_v1 hc1) mv_RX3_94 rfl rfl hl.1 ⟨Nat.le_of_ble_eq_true rfl, Nat.le_of_ble_eq_true rfl⟩ (Nat.le_of_ble_eq_true rfl) ⟨Nat.le_refl _, Nat.le_refl _⟩ dX3_draw_2 (fun H locs w => ?_)
  refine lv_aload_n E.1 E.2.1 dX3_draw_5 rfl (lv_at hl 0 rfl) ?_
  refine lv_iload_n E.1 E.2.1 dX3_draw_6 rfl (lv_at hl 2 rfl) ?_
  refine p_pi E w t_v0 fl_RX3_56 (fp_3_13 _) dX3_draw_7 (fun h4 H locs eh w => ?_)
  have hf := sq_e eh hf
  clear eh
  refine lv_iconst (v := 0) E.1 E.2.1 dX3_draw_10 rfl ?_
  refine lv_istore (lv' := [(4, .int 0), (0, .ref (ad G v0)), (1, .ref (ad G v1)), (2, .int v2), (3, .int v3)]) E.1 E.2.1 dX3_draw_11 hl (by decide) rfl (fun ls hl => ?_)
  exact X3_draw_l13_w E hr hlk N _ _ _ _ _ _ _ hf w t_v0 (lv_sub hl [1, 4, 0] rfl)

def X3_hoarsest_l4 (N : Nat) (h : HS) : Nat → Nat → Int32 → Int32 → Option Int32
  | 0, _, _, _ => none
  | n + 1, v0, v1, v2 => (if (5 : Int32) ≤ v2 then some v1 else (if v2 < 0 ∨ 5 ≤ v2.toNatClampNeg then none else (if (h.1 (v0 + 12) v2.toNatClampNeg) ≤ 0 then X3_hoarsest_l4 N h n v0 v1 (v2 + 1) else (if v1 = ((-1) : Int32) then X3_hoarsest_l4 N h n v0 v2 (v2 + 1) else (if v2 < 0 ∨ 5 ≤ v2.toNatClampNeg then none else bd1 (X10_at N h (v0 + 12) v1) fun r7 => (if (h.1 (v0 + 12) v2.toNatClampNeg) ≤ r7 then X3_hoarsest_l4 N h n v0 v1 (v2 + 1) else X3_hoarsest_l4 N h n v0 v2 (v2 + 1)))))))
set_option maxRecDepth 4000 in
set_option maxHeartbeats 2000000 in
theorem X3_hoarsest_l4_w {p : Program} {l : Launch} {e : Env} {s : State} {m : MethodId} {args : Array Value} {below : List Frame} {meth : Method} {c : Code} {G : GT} {N : Nat} {h : HS} {z : Int32} (E : CallFix p m c cX3_hoarsest 3 s args UW RX3) (hr : meth.sig.returnType = (some .int)) (hlk : meth.locks = false) : ∀ (n : Nat) (H : Heap) (locs : List Loc) (ls : Array Slot) (v0 : Nat) (v1 : Int32) (v2 : Int32), X3_hoarsest_l4 N h n v0 v1 v2 = some z → WD G s h H locs → sh v0 = 3 → lv_has ls 3 [(0, .ref (ad G v0)), (1, .int v1), (2, .int v2)] → W p l e ({ frames := 1, cells := 0, slots := 0, locals := 21 } : Room) s m args below meth c H locs 0 0 (MQ below (QC G (some (.int z)) h) args s 0 0 (AD G)) (F0 m 4 ls []) := by
  intro n
  induction n with
  | zero =>
    intro H locs ls v0 v1 v2 hf
    cases hf
  | succ n ih =>
    intro H locs ls v0 v1 v2 hf w t_v0 hl
    unfold X3_hoarsest_l4 at hf
    refine lv_iload_n E.1 E.2.1 dX3_hoarsest_4 rfl (lv_at hl 2 rfl) ?_
    refine lv_iconst (v := 5) E.1 E.2.1 dX3_hoarsest_5 rfl ?_
    refine lv_icmp_ge (tgt := 48) E.1 E.2.1 dX3_hoarsest_6 (by decide) (fun c1 => ?_) (fun c1 => ?_)
    · have hf := q_pos c1 hf
      refine lv_iload_n E.1 E.2.1 dX3_hoarsest_48 rfl (lv_at hl 1 rfl) ?_
      have hf := Option.some.inj hf
      subst hf
      exact q_iret E w hr hlk dX3_hoarsest_49
    · have hf := q_neg c1 hf
      refine lv_aload_n E.1 E.2.1 dX3_hoarsest_9 rfl (lv_at hl 0 rfl) ?_
      refine q_gs E w 12 t_v0 fl_RX3_53 dX3_hoarsest_10 ?_
      refine lv_iload_n E.1 E.2.1 dX3_hoarsest_13 rfl (lv_at hl 2 rfl) ?_
      obtain ⟨b2, hf⟩ := q_if hf
      refine q_iald E w ((lay_3_12 t_v0).1) ((lay_3_12 t_v0).2) b2 dX3_hoarsest_14 ?_
      refine lv_if_le (tgt := 42) E.1 E.2.1 dX3_hoarsest_15 (by decide) (fun c3 => ?_) (fun c3 => ?_)
      · have hf := q_pos c3 hf
        refine lv_iinc (v := v2 + 1) (lv' := [(2, .int (v2 + 1)), (0, .ref (ad G v0)), (1, .int v1)]) E.1 E.2.1 dX3_hoarsest_42 hl (k := 2) rfl rfl (by decide) rfl (fun ls hl => ?_)
        refine lv_goto (tgt := 4) E.1 E.2.1 dX3_hoarsest_45 (by decide) ?_
        exact ih _ _ _ _ _ _ hf w t_v0 (lv_sub hl [1, 2, 0] rfl)
      · have hf := q_neg c3 hf
        refine lv_iload_n E.1 E.2.1 dX3_hoarsest_18 rfl (lv_at hl 1 rfl) ?_
        refine lv_iconst (v := (-1)) E.1 E.2.1 dX3_hoarsest_19 rfl ?_
        refine lv_icmp_eq (tgt := 40) E.1 E.2.1 dX3_hoarsest_20 (by decide) (fun c4 => ?_) (fun c4 => ?_)
        · have hf := q_pos c4 hf
          refine lv_iload_n E.1 E.2.1 dX3_hoarsest_40 rfl (lv_at hl 2 rfl) ?_
          refine lv_istore_n (lv' := [(1, .int v2), (0, .ref (ad G v0)), (2, .int v2)]) E.1 E.2.1 dX3_hoarsest_41 rfl hl (by decide) rfl (fun ls hl => ?_)
          refine lv_iinc (v := v2 + 1) (lv' := [(2, .int (v2 + 1)), (1, .int v2), (0, .ref (ad G v0))]) E.1 E.2.1 dX3_hoarsest_42 hl (k := 2) rfl rfl (by decide) rfl (fun ls hl => ?_)
          refine lv_goto (tgt := 4) E.1 E.2.1 dX3_hoarsest_45 (by decide) ?_
          exact ih _ _ _ _ _ _ hf w t_v0 (lv_sub hl [2, 1, 0] rfl)
        · have hf := q_neg c4 hf
          refine lv_aload_n E.1 E.2.1 dX3_hoarsest_23 rfl (lv_at hl 0 rfl) ?_
          refine q_gs E w 12 t_v0 fl_RX3_53 dX3_hoarsest_24 ?_
          refine lv_iload_n E.1 E.2.1 dX3_hoarsest_27 rfl (lv_at hl 2 rfl) ?_
          obtain ⟨b5, hf⟩ := q_if hf
          refine q_iald E w ((lay_3_12 t_v0).1) ((lay_3_12 t_v0).2) b5 dX3_hoarsest_28 ?_
          refine lv_aload_n E.1 E.2.1 dX3_hoarsest_29 rfl (lv_at hl 0 rfl) ?_
          refine q_gs E w 12 t_v0 fl_RX3_53 dX3_hoarsest_30 ?_
          refine lv_iload_n E.1 E.2.1 dX3_hoarsest_33 rfl (lv_at hl 1 rfl) ?_
          obtain ⟨r7, hc6, hf⟩ := bd1_e hf
          refine k_Ni (As := [.ref (ad G (v0 + 12)), .int v1]) (rest := [.int (h.1 (v0 + 12) v2.toNatClampNeg)]) E w (X10_at_c ((lay_3_12 t_v0).1) hc6) mn_RX3_90 rfl rfl hl.1 ⟨Nat.le_of_ble_eq_true rfl, Nat.le_of_ble_eq_true rfl⟩ (Nat.le_of_ble_eq_true rfl) ⟨Nat.le_refl _, Nat.le_refl _⟩ dX3_hoarsest_34 (fun H locs w => ?_)
          refine lv_icmp_le (tgt := 42) E.1 E.2.1 dX3_hoarsest_37 (by decide) (fun c9 => ?_) (fun c9 => ?_)
          · have hf := q_pos c9 hf
            refine lv_iinc (v := v2 + 1) (lv' := [(2, .int (v2 + 1)), (0, .ref (ad G v0)), (1, .int v1)]) E.1 E.2.1 dX3_hoarsest_42 hl (k := 2) rfl rfl (by decide) rfl (fun ls hl => ?_)
            refine lv_goto (tgt := 4) E.1 E.2.1 dX3_hoarsest_45 (by decide) ?_
            exact ih _ _ _ _ _ _ hf w t_v0 (lv_sub hl [1, 2, 0] rfl)
          · have hf := q_neg c9 hf
            refine lv_iload_n E.1 E.2.1 dX3_hoarsest_40 rfl (lv_at hl 2 rfl) ?_
            refine lv_istore_n (lv' := [(1, .int v2), (0, .ref (ad G v0)), (2, .int v2)]) E.1 E.2.1 dX3_hoarsest_41 rfl hl (by decide) rfl (fun ls hl => ?_)
            refine lv_iinc (v := v2 + 1) (lv' := [(2, .int (v2 + 1)), (1, .int v2), (0, .ref (ad G v0))]) E.1 E.2.1 dX3_hoarsest_42 hl (k := 2) rfl rfl (by decide) rfl (fun ls hl => ?_)
            refine lv_goto (tgt := 4) E.1 E.2.1 dX3_hoarsest_45 (by decide) ?_
            exact ih _ _ _ _ _ _ hf w t_v0 (lv_sub hl [2, 1, 0] rfl)

def X3_hoarsest (N : Nat) (h : HS) (v0 : Nat) : Option Int32 := X3_hoarsest_l4 N h N v0 (-1) 0
set_option maxRecDepth 4000 in
set_option maxHeartbeats 2000000 in
theorem X3_hoarsest_c {l : Launch} {G : GT} {N : Nat} {h : HS} {v0 : Nat} {z : Int32} (t_v0 : sh v0 = 3) (hf : X3_hoarsest N h v0 = some z) : CT l G yX3_hoarsest cX3_hoarsest 3 (some .int) 1 21 [.ref (ad G v0)] h (some (.int z)) h := by
  unfold X3_hoarsest at hf
  refine CT.of (by decide) (Nat.le_of_ble_eq_true rfl) ?_
  intro p e s m below meth c ls E hr hlk w hl
  have hl : lv_has ls 3 [(0, .ref (ad G v0))] := hl
  refine lv_iconst (v := (-1)) E.1 E.2.1 dX3_hoarsest_0 rfl ?_
  refine lv_istore_n (lv' := [(1, .int (-1)), (0, .ref (ad G v0))]) E.1 E.2.1 dX3_hoarsest_1 rfl hl (by decide) rfl (fun ls hl => ?_)
  refine lv_iconst (v := 0) E.1 E.2.1 dX3_hoarsest_2 rfl ?_
  refine lv_istore_n (lv' := [(2, .int 0), (1, .int (-1)), (0, .ref (ad G v0))]) E.1 E.2.1 dX3_hoarsest_3 rfl hl (by decide) rfl (fun ls hl => ?_)
  exact X3_hoarsest_l4_w E hr hlk N _ _ _ _ _ _ hf w t_v0 (lv_sub hl [2, 1, 0] rfl)

def X3_look (N : Nat) (h : HS) (v0 : Nat) (v1 : Int32) : Option Int32 := (if v1 = 0 then some (h.1 v0 1) else (if v1 = 1 then some (h.1 v0 2) else (if v1 = 2 then some (h.1 v0 3) else (if v1 = 3 then some (h.1 v0 4) else (if v1 = 4 then some (h.1 v0 5) else (if v1 = 5 then some (h.1 v0 6) else (if v1 = 6 then some (h.1 v0 7) else (if v1 = 7 then bd1 (X3_sangAhead N h v0) fun r10 => some r10 else (if v1 = 8 then some (h.1 v0 8) else (if v1 < (10 : Int32) then some (-2) else bd1 (X1_hasSinger N h (h.2 v0) (v1 - 10)) fun r16 => (if r16 = 0 then some (-2) else bd1 (X10_at N h (v0 + 11) (v1 - 10)) fun r20 => some r20)))))))))))
set_option maxRecDepth 4000 in
set_option maxHeartbeats 2000000 in
theorem X3_look_c {l : Launch} {G : GT} {N : Nat} {h : HS} {v0 : Nat} {v1 : Int32} {z : Int32} (t_v0 : sh v0 = 3) (hf : X3_look N h v0 v1 = some z) : CT l G yX3_look cX3_look 2 (some .int) 1 21 [.ref (ad G v0), .int v1] h (some (.int z)) h := by
  unfold X3_look at hf
  refine CT.of (by decide) (Nat.le_of_ble_eq_true rfl) ?_
  intro p e s m below meth c ls E hr hlk w hl
  have hl : lv_has ls 2 [(0, .ref (ad G v0)), (1, .int v1)] := hl
  refine lv_iload_n E.1 E.2.1 dX3_look_0 rfl (lv_at hl 1 rfl) ?_
  by_cases c1 : v1 = 0
  · have hf := q_pos c1 hf
    refine lv_tableIn (off := 51) (tgt := 52) E.1 E.2.1 dX3_look_1 (by rw [c1]; decide) (by rw [c1]; decide) (by rw [c1]; rfl) (by decide) ?_
    refine lv_aload_n E.1 E.2.1 dX3_look_52 rfl (lv_at hl 0 rfl) ?_
    refine q_gi E w t_v0 fl_RX3_18 dX3_look_53 ?_
    have hf := Option.some.inj hf
    subst hf
    exact q_iret E w hr hlk dX3_look_56
  have hf := q_neg c1 hf
  by_cases c2 : v1 = 1
  · have hf := q_pos c2 hf
    refine lv_tableIn (off := 56) (tgt := 57) E.1 E.2.1 dX3_look_1 (by rw [c2]; decide) (by rw [c2]; decide) (by rw [c2]; rfl) (by decide) ?_
    refine lv_aload_n E.1 E.2.1 dX3_look_57 rfl (lv_at hl 0 rfl) ?_
    refine q_gi E w t_v0 fl_RX3_22 dX3_look_58 ?_
    have hf := Option.some.inj hf
    subst hf
    exact q_iret E w hr hlk dX3_look_61
  have hf := q_neg c2 hf
  by_cases c3 : v1 = 2
  · have hf := q_pos c3 hf
    refine lv_tableIn (off := 61) (tgt := 62) E.1 E.2.1 dX3_look_1 (by rw [c3]; decide) (by rw [c3]; decide) (by rw [c3]; rfl) (by decide) ?_
    refine lv_aload_n E.1 E.2.1 dX3_look_62 rfl (lv_at hl 0 rfl) ?_
    refine q_gi E w t_v0 fl_RX3_25 dX3_look_63 ?_
    have hf := Option.some.inj hf
    subst hf
    exact q_iret E w hr hlk dX3_look_66
  have hf := q_neg c3 hf
  by_cases c4 : v1 = 3
  · have hf := q_pos c4 hf
    refine lv_tableIn (off := 66) (tgt := 67) E.1 E.2.1 dX3_look_1 (by rw [c4]; decide) (by rw [c4]; decide) (by rw [c4]; rfl) (by decide) ?_
    refine lv_aload_n E.1 E.2.1 dX3_look_67 rfl (lv_at hl 0 rfl) ?_
    refine q_gi E w t_v0 fl_RX3_28 dX3_look_68 ?_
    have hf := Option.some.inj hf
    subst hf
    exact q_iret E w hr hlk dX3_look_71
  have hf := q_neg c4 hf
  by_cases c5 : v1 = 4
  · have hf := q_pos c5 hf
    refine lv_tableIn (off := 71) (tgt := 72) E.1 E.2.1 dX3_look_1 (by rw [c5]; decide) (by rw [c5]; decide) (by rw [c5]; rfl) (by decide) ?_
    refine lv_aload_n E.1 E.2.1 dX3_look_72 rfl (lv_at hl 0 rfl) ?_
    refine q_gi E w t_v0 fl_RX3_31 dX3_look_73 ?_
    have hf := Option.some.inj hf
    subst hf
    exact q_iret E w hr hlk dX3_look_76
  have hf := q_neg c5 hf
  by_cases c6 : v1 = 5
  · have hf := q_pos c6 hf
    refine lv_tableIn (off := 76) (tgt := 77) E.1 E.2.1 dX3_look_1 (by rw [c6]; decide) (by rw [c6]; decide) (by rw [c6]; rfl) (by decide) ?_
    refine lv_aload_n E.1 E.2.1 dX3_look_77 rfl (lv_at hl 0 rfl) ?_
    refine q_gi E w t_v0 fl_RX3_34 dX3_look_78 ?_
    have hf := Option.some.inj hf
    subst hf
    exact q_iret E w hr hlk dX3_look_81
  have hf := q_neg c6 hf
  by_cases c7 : v1 = 6
  · have hf := q_pos c7 hf
    refine lv_tableIn (off := 81) (tgt := 82) E.1 E.2.1 dX3_look_1 (by rw [c7]; decide) (by rw [c7]; decide) (by rw [c7]; rfl) (by decide) ?_
    refine lv_aload_n E.1 E.2.1 dX3_look_82 rfl (lv_at hl 0 rfl) ?_
    refine q_gi E w t_v0 fl_RX3_37 dX3_look_83 ?_
    have hf := Option.some.inj hf
    subst hf
    exact q_iret E w hr hlk dX3_look_86
  have hf := q_neg c7 hf
  by_cases c8 : v1 = 7
  · have hf := q_pos c8 hf
    refine lv_tableIn (off := 86) (tgt := 87) E.1 E.2.1 dX3_look_1 (by rw [c8]; decide) (by rw [c8]; decide) (by rw [c8]; rfl) (by decide) ?_
    refine lv_aload_n E.1 E.2.1 dX3_look_87 rfl (lv_at hl 0 rfl) ?_
    obtain ⟨r10, hc9, hf⟩ := bd1_e hf
    refine k_Vi (As := []) (rest := []) E w t_v0 ⟨by decide, rfl⟩ (X3_sangAhead_c t_v0 hc9) mv_RX3_146 rfl rfl hl.1 ⟨Nat.le_of_ble_eq_true rfl, Nat.le_of_ble_eq_true rfl⟩ (Nat.le_of_ble_eq_true rfl) ⟨Nat.le_refl _, Nat.le_refl _⟩ dX3_look_88 (fun H locs w => ?_)
    have hf := Option.some.inj hf
    subst hf
    exact q_iret E w hr hlk dX3_look_91
  have hf := q_neg c8 hf
  by_cases c12 : v1 = 8
  · have hf := q_pos c12 hf
    refine lv_tableIn (off := 91) (tgt := 92) E.1 E.2.1 dX3_look_1 (by rw [c12]; decide) (by rw [c12]; decide) (by rw [c12]; rfl) (by decide) ?_
    refine lv_aload_n E.1 E.2.1 dX3_look_92 rfl (lv_at hl 0 rfl) ?_
    refine q_gi E w t_v0 fl_RX3_40 dX3_look_93 ?_
    have hf := Option.some.inj hf
    subst hf
    exact q_iret E w hr hlk dX3_look_96
  have hf := q_neg c12 hf
  refine lv_tableOut (tgt := 97) E.1 E.2.1 dX3_look_1 (by have := ne_i c1 (z := 0) (by decide); have := ne_i c2 (z := 1) (by decide); have := ne_i c3 (z := 2) (by decide); have := ne_i c4 (z := 3) (by decide); have := ne_i c5 (z := 4) (by decide); have := ne_i c6 (z := 5) (by decide); have := ne_i c7 (z := 6) (by decide); have := ne_i c8 (z := 7) (by decide); have := ne_i c12 (z := 8) (by decide); omega) (by decide) ?_
  refine lv_iload_n E.1 E.2.1 dX3_look_97 rfl (lv_at hl 1 rfl) ?_
  refine lv_bipush (v := 10) E.1 E.2.1 dX3_look_98 rfl ?_
  refine lv_icmp_lt (tgt := 131) E.1 E.2.1 dX3_look_100 (by decide) (fun c13 => ?_) (fun c13 => ?_)
  · have hf := q_pos c13 hf
    refine lv_bipush (v := (-2)) E.1 E.2.1 dX3_look_131 rfl ?_
    have hf := Option.some.inj hf
    subst hf
    exact q_iret E w hr hlk dX3_look_133
  · have hf := q_neg c13 hf
    refine lv_aload_n E.1 E.2.1 dX3_look_103 rfl (lv_at hl 0 rfl) ?_
    refine q_gh E w t_v0 (by decide) fl_RX3_12 dX3_look_104 (fun t14 => ?_)
    refine lv_iload_n E.1 E.2.1 dX3_look_107 rfl (lv_at hl 1 rfl) ?_
    refine lv_bipush (v := 10) E.1 E.2.1 dX3_look_108 rfl ?_
    refine lv_isub E.1 E.2.1 dX3_look_110 ?_
    obtain ⟨r16, hc15, hf⟩ := bd1_e hf
    refine k_Vi (As := [.int (v1 - 10)]) (rest := []) E w t14 ⟨by decide, rfl⟩ (X1_hasSinger_c t14 hc15) mv_RX3_142 rfl rfl hl.1 ⟨Nat.le_of_ble_eq_true rfl, Nat.le_of_ble_eq_true rfl⟩ (Nat.le_of_ble_eq_true rfl) ⟨Nat.le_refl _, Nat.le_refl _⟩ dX3_look_111 (fun H locs w => ?_)
    refine lv_if_eq (tgt := 131) E.1 E.2.1 dX3_look_114 (by decide) (fun c18 => ?_) (fun c18 => ?_)
    · have hf := q_pos c18 hf
      refine lv_bipush (v := (-2)) E.1 E.2.1 dX3_look_131 rfl ?_
      have hf := Option.some.inj hf
      subst hf
      exact q_iret E w hr hlk dX3_look_133
    · have hf := q_neg c18 hf
      refine lv_aload_n E.1 E.2.1 dX3_look_117 rfl (lv_at hl 0 rfl) ?_
      refine q_gs E w 11 t_v0 fl_RX3_49 dX3_look_118 ?_
      refine lv_iload_n E.1 E.2.1 dX3_look_121 rfl (lv_at hl 1 rfl) ?_
      refine lv_bipush (v := 10) E.1 E.2.1 dX3_look_122 rfl ?_
      refine lv_isub E.1 E.2.1 dX3_look_124 ?_
      obtain ⟨r20, hc19, hf⟩ := bd1_e hf
      refine k_Ni (As := [.ref (ad G (v0 + 11)), .int (v1 - 10)]) (rest := []) E w (X10_at_c ((lay_3_11 t_v0).1) hc19) mn_RX3_90 rfl rfl hl.1 ⟨Nat.le_of_ble_eq_true rfl, Nat.le_of_ble_eq_true rfl⟩ (Nat.le_of_ble_eq_true rfl) ⟨Nat.le_refl _, Nat.le_refl _⟩ dX3_look_125 (fun H locs w => ?_)
      refine lv_goto (tgt := 133) E.1 E.2.1 dX3_look_128 (by decide) ?_
      have hf := Option.some.inj hf
      subst hf
      exact q_iret E w hr hlk dX3_look_133
