def X10_feed (N : Nat) (h : HS) (v0 : Nat) (v1 : Int32) (v2 : Int32) (v3 : Int32) (v4 : Int32) (v5 : Int32) : Option (Int32 × HS) := (if ((h.1 (v0 + 1) 1) + 20) ≤ (600 : Int32) then bd1 (X7_put N h (v0 + 1) v1) fun h4 => bd1 (X7_put N h4 (v0 + 1) v2) fun h7 => bd1 (X7_put N h7 (v0 + 1) v3) fun h10 => bd1 (X7_put N h10 (v0 + 1) v4) fun h13 => bd1 (X7_put N h13 (v0 + 1) v5) fun h16 => some (h16.1 (v0 + 1) 1, h16) else some ((-1), h))
set_option maxRecDepth 4000 in
set_option maxHeartbeats 2000000 in
theorem X10_feed_c {l : Launch} {G : GT} {N : Nat} {h : HS} {v0 : Nat} {v1 : Int32} {v2 : Int32} {v3 : Int32} {v4 : Int32} {v5 : Int32} {z : (Int32 × HS)} (t_v0 : sh v0 = 10) (hf : X10_feed N h v0 v1 v2 v3 v4 v5 = some z) : CT l G yX10_feed cX10_feed 6 (some .int) 1 22 [.ref (ad G v0), .int v1, .int v2, .int v3, .int v4, .int v5] h (some (.int z.1)) z.2 := by
  unfold X10_feed at hf
  refine CT.of (by decide) (Nat.le_of_ble_eq_true rfl) ?_
  intro p e s m below meth c ls E hr hlk w hl
  have hl : lv_has ls 6 [(0, .ref (ad G v0)), (1, .int v1), (2, .int v2), (3, .int v3), (4, .int v4), (5, .int v5)] := hl
  refine lv_aload_n E.1 E.2.1 dX10_feed_0 rfl (lv_at hl 0 rfl) ?_
  refine q_gs E w 1 t_v0 fl_RX10_10 dX10_feed_1 ?_
  refine q_gi E w (lay_10_0 t_v0) fl_RX10_73 dX10_feed_4 ?_
  refine lv_bipush (v := 20) E.1 E.2.1 dX10_feed_7 rfl ?_
  refine lv_iadd E.1 E.2.1 dX10_feed_9 ?_
  refine lv_sipush (v := 600) E.1 E.2.1 dX10_feed_10 rfl ?_
  refine lv_icmp_le (tgt := 18) E.1 E.2.1 dX10_feed_13 (by decide) (fun c1 => ?_) (fun c1 => ?_)
  · have hf := q_pos c1 hf
    refine lv_aload_n E.1 E.2.1 dX10_feed_18 rfl (lv_at hl 0 rfl) ?_
    refine q_gs E w 1 t_v0 fl_RX10_10 dX10_feed_19 ?_
    refine lv_iload_n E.1 E.2.1 dX10_feed_22 rfl (lv_at hl 1 rfl) ?_
    obtain ⟨h4, hc2, hf⟩ := bd1_e hf
    refine k_Vv (As := [.int v1]) (rest := []) E w (lay_10_0 t_v0) ⟨by decide, rfl⟩ (X7_put_c (lay_10_0 t_v0) hc2) mv_RX10_77 rfl rfl hl.1 ⟨Nat.le_of_ble_eq_true rfl, Nat.le_of_ble_eq_true rfl⟩ (Nat.le_of_ble_eq_true rfl) ⟨Nat.le_refl _, Nat.le_refl _⟩ dX10_feed_23 (fun H locs w => ?_)
    refine lv_aload_n E.1 E.2.1 dX10_feed_26 rfl (lv_at hl 0 rfl) ?_
    refine q_gs E w 1 t_v0 fl_RX10_10 dX10_feed_27 ?_
    refine lv_iload_n E.1 E.2.1 dX10_feed_30 rfl (lv_at hl 2 rfl) ?_
    obtain ⟨h7, hc5, hf⟩ := bd1_e hf
    refine k_Vv (As := [.int v2]) (rest := []) E w (lay_10_0 t_v0) ⟨by decide, rfl⟩ (X7_put_c (lay_10_0 t_v0) hc5) mv_RX10_77 rfl rfl hl.1 ⟨Nat.le_of_ble_eq_true rfl, Nat.le_of_ble_eq_true rfl⟩ (Nat.le_of_ble_eq_true rfl) ⟨Nat.le_refl _, Nat.le_refl _⟩ dX10_feed_31 (fun H locs w => ?_)
    refine lv_aload_n E.1 E.2.1 dX10_feed_34 rfl (lv_at hl 0 rfl) ?_
    refine q_gs E w 1 t_v0 fl_RX10_10 dX10_feed_35 ?_
    refine lv_iload_n E.1 E.2.1 dX10_feed_38 rfl (lv_at hl 3 rfl) ?_
    obtain ⟨h10, hc8, hf⟩ := bd1_e hf
    refine k_Vv (As := [.int v3]) (rest := []) E w (lay_10_0 t_v0) ⟨by decide, rfl⟩ (X7_put_c (lay_10_0 t_v0) hc8) mv_RX10_77 rfl rfl hl.1 ⟨Nat.le_of_ble_eq_true rfl, Nat.le_of_ble_eq_true rfl⟩ (Nat.le_of_ble_eq_true rfl) ⟨Nat.le_refl _, Nat.le_refl _⟩ dX10_feed_39 (fun H locs w => ?_)
    refine lv_aload_n E.1 E.2.1 dX10_feed_42 rfl (lv_at hl 0 rfl) ?_
    refine q_gs E w 1 t_v0 fl_RX10_10 dX10_feed_43 ?_
    refine lv_iload E.1 E.2.1 dX10_feed_46 (lv_at hl 4 rfl) ?_
    obtain ⟨h13, hc11, hf⟩ := bd1_e hf
    refine k_Vv (As := [.int v4]) (rest := []) E w (lay_10_0 t_v0) ⟨by decide, rfl⟩ (X7_put_c (lay_10_0 t_v0) hc11) mv_RX10_77 rfl rfl hl.1 ⟨Nat.le_of_ble_eq_true rfl, Nat.le_of_ble_eq_true rfl⟩ (Nat.le_of_ble_eq_true rfl) ⟨Nat.le_refl _, Nat.le_refl _⟩ dX10_feed_48 (fun H locs w => ?_)
    refine lv_aload_n E.1 E.2.1 dX10_feed_51 rfl (lv_at hl 0 rfl) ?_
    refine q_gs E w 1 t_v0 fl_RX10_10 dX10_feed_52 ?_
    refine lv_iload E.1 E.2.1 dX10_feed_55 (lv_at hl 5 rfl) ?_
    obtain ⟨h16, hc14, hf⟩ := bd1_e hf
    refine k_Vv (As := [.int v5]) (rest := []) E w (lay_10_0 t_v0) ⟨by decide, rfl⟩ (X7_put_c (lay_10_0 t_v0) hc14) mv_RX10_77 rfl rfl hl.1 ⟨Nat.le_of_ble_eq_true rfl, Nat.le_of_ble_eq_true rfl⟩ (Nat.le_of_ble_eq_true rfl) ⟨Nat.le_refl _, Nat.le_refl _⟩ dX10_feed_57 (fun H locs w => ?_)
    refine lv_aload_n E.1 E.2.1 dX10_feed_60 rfl (lv_at hl 0 rfl) ?_
    refine q_gs E w 1 t_v0 fl_RX10_10 dX10_feed_61 ?_
    refine q_gi E w (lay_10_0 t_v0) fl_RX10_73 dX10_feed_64 ?_
    have hf := Option.some.inj hf
    subst hf
    exact q_iret E w hr hlk dX10_feed_67
  · have hf := q_neg c1 hf
    refine lv_iconst (v := (-1)) E.1 E.2.1 dX10_feed_16 rfl ?_
    have hf := Option.some.inj hf
    subst hf
    exact q_iret E w hr hlk dX10_feed_17

def X10_end (N : Nat) (h : HS) (v0 : Nat) (v1 : Int32) : Option (Int32 × HS) := (if v1 < 0 then some ((-1), h) else (if v1 ≤ (h.1 (v0 + 1) 1) then sq (wi h (v0 + 1) 1 v1) fun h3 => some (v1, h3) else some ((-1), h)))
set_option maxRecDepth 4000 in
set_option maxHeartbeats 2000000 in
theorem X10_end_c {l : Launch} {G : GT} {N : Nat} {h : HS} {v0 : Nat} {v1 : Int32} {z : (Int32 × HS)} (t_v0 : sh v0 = 10) (hf : X10_end N h v0 v1 = some z) : CT l G yX10_end cX10_end 2 (some .int) 0 0 [.ref (ad G v0), .int v1] h (some (.int z.1)) z.2 := by
  unfold X10_end at hf
  refine CT.of (by decide) (Nat.le_of_ble_eq_true rfl) ?_
  intro p e s m below meth c ls E hr hlk w hl
  have hl : lv_has ls 2 [(0, .ref (ad G v0)), (1, .int v1)] := hl
  refine lv_iload_n E.1 E.2.1 dX10_end_0 rfl (lv_at hl 1 rfl) ?_
  refine lv_if_lt (tgt := 15) E.1 E.2.1 dX10_end_1 (by decide) (fun c1 => ?_) (fun c1 => ?_)
  · have hf := q_pos c1 hf
    refine lv_iconst (v := (-1)) E.1 E.2.1 dX10_end_15 rfl ?_
    have hf := Option.some.inj hf
    subst hf
    exact q_iret E w hr hlk dX10_end_16
  · have hf := q_neg c1 hf
    refine lv_iload_n E.1 E.2.1 dX10_end_4 rfl (lv_at hl 1 rfl) ?_
    refine lv_aload_n E.1 E.2.1 dX10_end_5 rfl (lv_at hl 0 rfl) ?_
    refine q_gs E w 1 t_v0 fl_RX10_10 dX10_end_6 ?_
    refine q_gi E w (lay_10_0 t_v0) fl_RX10_73 dX10_end_9 ?_
    refine lv_icmp_le (tgt := 17) E.1 E.2.1 dX10_end_12 (by decide) (fun c2 => ?_) (fun c2 => ?_)
    · have hf := q_pos c2 hf
      refine lv_aload_n E.1 E.2.1 dX10_end_17 rfl (lv_at hl 0 rfl) ?_
      refine q_gs E w 1 t_v0 fl_RX10_10 dX10_end_18 ?_
      refine lv_iload_n E.1 E.2.1 dX10_end_21 rfl (lv_at hl 1 rfl) ?_
      refine p_pi E w (lay_10_0 t_v0) fl_RX10_73 (fp_7_1 _) dX10_end_22 (fun h3 H locs eh w => ?_)
      have hf := sq_e eh hf
      clear eh
      refine lv_iload_n E.1 E.2.1 dX10_end_25 rfl (lv_at hl 1 rfl) ?_
      have hf := Option.some.inj hf
      subst hf
      exact q_iret E w hr hlk dX10_end_26
    · have hf := q_neg c2 hf
      refine lv_iconst (v := (-1)) E.1 E.2.1 dX10_end_15 rfl ?_
      have hf := Option.some.inj hf
      subst hf
      exact q_iret E w hr hlk dX10_end_16

def X10_text (N : Nat) (h : HS) (v0 : Nat) (v1 : Int32) (v2 : Int32) : Option (Int32 × HS) := sq (wi h (v0 + 1) 1 0) fun h1 => sq (wi h1 (v0 + 1) 2 0) fun h2 => sq (wi h2 (v0 + 1) 3 (-1)) fun h3 => bd1 (X7_numberFor N h3 (v0 + 1) v1 v2) fun r5 => (if r5 = ((-1) : Int32) then some ((-2), h3) else bd1 (X4_read N h3 (v0 + 155) ((v0 + 1) + 1) (h.1 (v0 + 1) 1) v1) fun h10 => sq (wi h10 (v0 + 1) 2 (h10.1 (v0 + 155) 2)) fun h11 => sq (wi h11 (v0 + 1) 3 (h11.1 (v0 + 155) 3)) fun h12 => (if (h12.1 (v0 + 155) 2) = 0 then bd1 (X7_keep N h12 (v0 + 1) v1 r5 ((v0 + 155) + 1) ((v0 + 155) + 11)) fun h16 => some (r5, h16) else some ((-1), h12)))
set_option maxRecDepth 4000 in
set_option maxHeartbeats 2000000 in
theorem X10_text_c {l : Launch} {G : GT} {N : Nat} {h : HS} {v0 : Nat} {v1 : Int32} {v2 : Int32} {z : (Int32 × HS)} (t_v0 : sh v0 = 10) (hf : X10_text N h v0 v1 v2 = some z) : CT l G yX10_text cX10_text 5 (some .int) 10 293 [.ref (ad G v0), .int v1, .int v2] h (some (.int z.1)) z.2 := by
  unfold X10_text at hf
  refine CT.of (by decide) (Nat.le_of_ble_eq_true rfl) ?_
  intro p e s m below meth c ls E hr hlk w hl
  have hl : lv_has ls 5 [(0, .ref (ad G v0)), (1, .int v1), (2, .int v2)] := hl
  refine lv_aload_n E.1 E.2.1 dX10_text_0 rfl (lv_at hl 0 rfl) ?_
  refine q_gs E w 1 t_v0 fl_RX10_10 dX10_text_1 ?_
  refine q_gi E w (lay_10_0 t_v0) fl_RX10_73 dX10_text_4 ?_
  refine lv_istore_n (lv' := [(3, .int (h.1 (v0 + 1) 1)), (0, .ref (ad G v0)), (1, .int v1), (2, .int v2)]) E.1 E.2.1 dX10_text_7 rfl hl (by decide) rfl (fun ls hl => ?_)
  refine lv_aload_n E.1 E.2.1 dX10_text_8 rfl (lv_at hl 1 rfl) ?_
  refine q_gs E w 1 t_v0 fl_RX10_10 dX10_text_9 ?_
  refine lv_iconst (v := 0) E.1 E.2.1 dX10_text_12 rfl ?_
  refine p_pi E w (lay_10_0 t_v0) fl_RX10_73 (fp_7_1 _) dX10_text_13 (fun h1 H locs eh w => ?_)
  have hf := sq_e eh hf
  clear eh
  refine lv_aload_n E.1 E.2.1 dX10_text_16 rfl (lv_at hl 1 rfl) ?_
  refine q_gs E w 1 t_v0 fl_RX10_10 dX10_text_17 ?_
  refine lv_iconst (v := 0) E.1 E.2.1 dX10_text_20 rfl ?_
  refine p_pi E w (lay_10_0 t_v0) fl_RX10_81 (fp_7_2 _) dX10_text_21 (fun h2 H locs eh w => ?_)
  have hf := sq_e eh hf
  clear eh
  refine lv_aload_n E.1 E.2.1 dX10_text_24 rfl (lv_at hl 1 rfl) ?_
  refine q_gs E w 1 t_v0 fl_RX10_10 dX10_text_25 ?_
  refine lv_iconst (v := (-1)) E.1 E.2.1 dX10_text_28 rfl ?_
  refine p_pi E w (lay_10_0 t_v0) fl_RX10_84 (fp_7_3 _) dX10_text_29 (fun h3 H locs eh w => ?_)
  have hf := sq_e eh hf
  clear eh
  refine lv_aload_n E.1 E.2.1 dX10_text_32 rfl (lv_at hl 1 rfl) ?_
  refine q_gs E w 1 t_v0 fl_RX10_10 dX10_text_33 ?_
  refine lv_iload_n E.1 E.2.1 dX10_text_36 rfl (lv_at hl 2 rfl) ?_
  refine lv_iload_n E.1 E.2.1 dX10_text_37 rfl (lv_at hl 3 rfl) ?_
  obtain ⟨r5, hc4, hf⟩ := bd1_e hf
  refine k_Vi (As := [.int v1, .int v2]) (rest := []) E w (lay_10_0 t_v0) ⟨by decide, rfl⟩ (X7_numberFor_c (lay_10_0 t_v0) hc4) mv_RX10_87 rfl rfl hl.1 ⟨Nat.le_of_ble_eq_true rfl, Nat.le_of_ble_eq_true rfl⟩ (Nat.le_of_ble_eq_true rfl) ⟨Nat.le_refl _, Nat.le_refl _⟩ dX10_text_38 (fun H locs w => ?_)
  refine lv_istore (lv' := [(4, .int r5), (3, .int (h.1 (v0 + 1) 1)), (0, .ref (ad G v0)), (1, .int v1), (2, .int v2)]) E.1 E.2.1 dX10_text_41 hl (by decide) rfl (fun ls hl => ?_)
  refine lv_iload E.1 E.2.1 dX10_text_43 (lv_at hl 0 rfl) ?_
  refine lv_iconst (v := (-1)) E.1 E.2.1 dX10_text_45 rfl ?_
  refine lv_icmp_ne (tgt := 52) E.1 E.2.1 dX10_text_46 (by decide) (fun c7 => ?_) (fun c7 => ?_)
  · have hf := q_neg c7 hf
    refine lv_aload_n E.1 E.2.1 dX10_text_52 rfl (lv_at hl 2 rfl) ?_
    refine q_gs E w 155 t_v0 fl_RX10_27 dX10_text_53 ?_
    refine lv_aload_n E.1 E.2.1 dX10_text_56 rfl (lv_at hl 2 rfl) ?_
    refine q_gs E w 1 t_v0 fl_RX10_10 dX10_text_57 ?_
    refine q_gs E w 1 (lay_10_0 t_v0) fl_RX10_91 dX10_text_60 ?_
    refine lv_iload_n E.1 E.2.1 dX10_text_63 rfl (lv_at hl 1 rfl) ?_
    refine lv_iload_n E.1 E.2.1 dX10_text_64 rfl (lv_at hl 3 rfl) ?_
    obtain ⟨h10, hc8, hf⟩ := bd1_e hf
    refine k_Vv (As := [.ref (ad G ((v0 + 1) + 1)), .int (h.1 (v0 + 1) 1), .int v1]) (rest := []) E w (lay_10_3 t_v0) ⟨by decide, rfl⟩ (X4_read_c (lay_10_3 t_v0) ((lay_7_0 (lay_10_0 t_v0)).1) hc8) mv_RX10_95 rfl rfl hl.1 ⟨Nat.le_of_ble_eq_true rfl, Nat.le_of_ble_eq_true rfl⟩ (Nat.le_of_ble_eq_true rfl) ⟨Nat.le_refl _, Nat.le_refl _⟩ dX10_text_65 (fun H locs w => ?_)
    refine lv_aload_n E.1 E.2.1 dX10_text_68 rfl (lv_at hl 2 rfl) ?_
    refine q_gs E w 1 t_v0 fl_RX10_10 dX10_text_69 ?_
    refine lv_aload_n E.1 E.2.1 dX10_text_72 rfl (lv_at hl 2 rfl) ?_
    refine q_gs E w 155 t_v0 fl_RX10_27 dX10_text_73 ?_
    refine q_gi E w (lay_10_3 t_v0) fl_RX10_99 dX10_text_76 ?_
    refine p_pi E w (lay_10_0 t_v0) fl_RX10_81 (fp_7_2 _) dX10_text_79 (fun h11 H locs eh w => ?_)
    have hf := sq_e eh hf
    clear eh
    refine lv_aload_n E.1 E.2.1 dX10_text_82 rfl (lv_at hl 2 rfl) ?_
    refine q_gs E w 1 t_v0 fl_RX10_10 dX10_text_83 ?_
    refine lv_aload_n E.1 E.2.1 dX10_text_86 rfl (lv_at hl 2 rfl) ?_
    refine q_gs E w 155 t_v0 fl_RX10_27 dX10_text_87 ?_
    refine q_gi E w (lay_10_3 t_v0) fl_RX10_100 dX10_text_90 ?_
    refine p_pi E w (lay_10_0 t_v0) fl_RX10_84 (fp_7_3 _) dX10_text_93 (fun h12 H locs eh w => ?_)
    have hf := sq_e eh hf
    clear eh
    refine lv_aload_n E.1 E.2.1 dX10_text_96 rfl (lv_at hl 2 rfl) ?_
    refine q_gs E w 155 t_v0 fl_RX10_27 dX10_text_97 ?_
    refine q_gi E w (lay_10_3 t_v0) fl_RX10_99 dX10_text_100 ?_
    refine lv_if_eq (tgt := 108) E.1 E.2.1 dX10_text_103 (by decide) (fun c13 => ?_) (fun c13 => ?_)
    · have hf := q_pos c13 hf
      refine lv_aload_n E.1 E.2.1 dX10_text_108 rfl (lv_at hl 2 rfl) ?_
      refine q_gs E w 1 t_v0 fl_RX10_10 dX10_text_109 ?_
      refine lv_iload_n E.1 E.2.1 dX10_text_112 rfl (lv_at hl 3 rfl) ?_
      refine lv_iload E.1 E.2.1 dX10_text_113 (lv_at hl 0 rfl) ?_
      refine lv_aload_n E.1 E.2.1 dX10_text_115 rfl (lv_at hl 2 rfl) ?_
      refine q_gs E w 155 t_v0 fl_RX10_27 dX10_text_116 ?_
      refine q_gs E w 1 (lay_10_3 t_v0) fl_RX10_101 dX10_text_119 ?_
      refine lv_aload_n E.1 E.2.1 dX10_text_122 rfl (lv_at hl 2 rfl) ?_
      refine q_gs E w 155 t_v0 fl_RX10_27 dX10_text_123 ?_
      refine q_gs E w 11 (lay_10_3 t_v0) fl_RX10_105 dX10_text_126 ?_
      obtain ⟨h16, hc14, hf⟩ := bd1_e hf
      refine k_Vv (As := [.int v1, .int r5, .ref (ad G ((v0 + 155) + 1)), .ref (ad G ((v0 + 155) + 11))]) (rest := []) E w (lay_10_0 t_v0) ⟨by decide, rfl⟩ (X7_keep_c (lay_10_0 t_v0) (lay_4_0 (lay_10_3 t_v0)) (lay_4_1 (lay_10_3 t_v0)) hc14) mv_RX10_109 rfl rfl hl.1 ⟨Nat.le_of_ble_eq_true rfl, Nat.le_of_ble_eq_true rfl⟩ (Nat.le_of_ble_eq_true rfl) ⟨Nat.le_refl _, Nat.le_refl _⟩ dX10_text_129 (fun H locs w => ?_)
      refine lv_iload E.1 E.2.1 dX10_text_132 (lv_at hl 0 rfl) ?_
      have hf := Option.some.inj hf
      subst hf
      exact q_iret E w hr hlk dX10_text_134
    · have hf := q_neg c13 hf
      refine lv_iconst (v := (-1)) E.1 E.2.1 dX10_text_106 rfl ?_
      have hf := Option.some.inj hf
      subst hf
      exact q_iret E w hr hlk dX10_text_107
  · have hf := q_pos c7 hf
    refine lv_bipush (v := (-2)) E.1 E.2.1 dX10_text_49 rfl ?_
    have hf := Option.some.inj hf
    subst hf
    exact q_iret E w hr hlk dX10_text_51

def X10_fault (N : Nat) (h : HS) (v0 : Nat) (v1 : Int32) : Option Int32 := (if v1 = 0 then some (h.1 (v0 + 1) 2) else (if v1 = (1 : Int32) then some (h.1 (v0 + 1) 3) else some (-1)))
set_option maxRecDepth 4000 in
set_option maxHeartbeats 2000000 in
theorem X10_fault_c {l : Launch} {G : GT} {N : Nat} {h : HS} {v0 : Nat} {v1 : Int32} {z : Int32} (t_v0 : sh v0 = 10) (hf : X10_fault N h v0 v1 = some z) : CT l G yX10_fault cX10_fault 2 (some .int) 0 0 [.ref (ad G v0), .int v1] h (some (.int z)) h := by
  unfold X10_fault at hf
  refine CT.of (by decide) (Nat.le_of_ble_eq_true rfl) ?_
  intro p e s m below meth c ls E hr hlk w hl
  have hl : lv_has ls 2 [(0, .ref (ad G v0)), (1, .int v1)] := hl
  refine lv_iload_n E.1 E.2.1 dX10_fault_0 rfl (lv_at hl 1 rfl) ?_
  refine lv_if_ne (tgt := 12) E.1 E.2.1 dX10_fault_1 (by decide) (fun c1 => ?_) (fun c1 => ?_)
  · have hf := q_neg c1 hf
    refine lv_iload_n E.1 E.2.1 dX10_fault_12 rfl (lv_at hl 1 rfl) ?_
    refine lv_iconst (v := 1) E.1 E.2.1 dX10_fault_13 rfl ?_
    refine lv_icmp_ne (tgt := 27) E.1 E.2.1 dX10_fault_14 (by decide) (fun c2 => ?_) (fun c2 => ?_)
    · have hf := q_neg c2 hf
      refine lv_iconst (v := (-1)) E.1 E.2.1 dX10_fault_27 rfl ?_
      have hf := Option.some.inj hf
      subst hf
      exact q_iret E w hr hlk dX10_fault_28
    · have hf := q_pos c2 hf
      refine lv_aload_n E.1 E.2.1 dX10_fault_17 rfl (lv_at hl 0 rfl) ?_
      refine q_gs E w 1 t_v0 fl_RX10_10 dX10_fault_18 ?_
      refine q_gi E w (lay_10_0 t_v0) fl_RX10_84 dX10_fault_21 ?_
      refine lv_goto (tgt := 28) E.1 E.2.1 dX10_fault_24 (by decide) ?_
      have hf := Option.some.inj hf
      subst hf
      exact q_iret E w hr hlk dX10_fault_28
  · have hf := q_pos c1 hf
    refine lv_aload_n E.1 E.2.1 dX10_fault_4 rfl (lv_at hl 0 rfl) ?_
    refine q_gs E w 1 t_v0 fl_RX10_10 dX10_fault_5 ?_
    refine q_gi E w (lay_10_0 t_v0) fl_RX10_81 dX10_fault_8 ?_
    have hf := Option.some.inj hf
    subst hf
    exact q_iret E w hr hlk dX10_fault_11

def X10_house (N : Nat) (h : HS) (v0 : Nat) (v1 : Int32) (v2 : Int32) : Option Int32 := bd1 (X7_houseAt N h (v0 + 1) v1) fun r2 => (if r2 = 0 then some (-1) else (if v2 = 0 then some (h.1 r2 0) else (if v2 = 1 then some (h.1 r2 1) else (if v2 = 2 then some (h.1 r2 2) else (if v2 = 3 then some (h.1 r2 3) else (if v2 = 4 then some (h.1 r2 4) else bd1 (X1_detail N h r2 v2) fun r12 => some r12))))))
set_option maxRecDepth 4000 in
set_option maxHeartbeats 2000000 in
theorem X10_house_c {l : Launch} {G : GT} {N : Nat} {h : HS} {v0 : Nat} {v1 : Int32} {v2 : Int32} {z : Int32} (t_v0 : sh v0 = 10) (hf : X10_house N h v0 v1 v2 = some z) : CT l G yX10_house cX10_house 4 (some .int) 2 43 [.ref (ad G v0), .int v1, .int v2] h (some (.int z)) h := by
  unfold X10_house at hf
  refine CT.of (by decide) (Nat.le_of_ble_eq_true rfl) ?_
  intro p e s m below meth c ls E hr hlk w hl
  have hl : lv_has ls 4 [(0, .ref (ad G v0)), (1, .int v1), (2, .int v2)] := hl
  refine lv_aload_n E.1 E.2.1 dX10_house_0 rfl (lv_at hl 0 rfl) ?_
  refine q_gs E w 1 t_v0 fl_RX10_10 dX10_house_1 ?_
  refine lv_iload_n E.1 E.2.1 dX10_house_4 rfl (lv_at hl 1 rfl) ?_
  obtain ⟨r2, hc1, hf⟩ := bd1_e hf
  refine k_Vr (As := [.int v1]) (rest := []) E w (lay_10_0 t_v0) ⟨by decide, rfl⟩ (X7_houseAt_c (lay_10_0 t_v0) hc1) mv_RX10_113 rfl rfl hl.1 ⟨Nat.le_of_ble_eq_true rfl, Nat.le_of_ble_eq_true rfl⟩ (Nat.le_of_ble_eq_true rfl) ⟨Nat.le_refl _, Nat.le_refl _⟩ dX10_house_5 (fun H locs w => ?_)
  by_cases c5 : r2 = 0
  · have hf := q_pos c5 hf
    rw [c5, rfv_0]
    refine lv_astore_nN (lv' := [(3, .null), (0, .ref (ad G v0)), (1, .int v1), (2, .int v2)]) E.1 E.2.1 dX10_house_8 rfl hl (by decide) rfl (fun ls hl => ?_)
    refine lv_aload_nN E.1 E.2.1 dX10_house_9 rfl (lv_at hl 0 rfl) ?_
    refine lv_ifnonnullN E.1 E.2.1 dX10_house_10 ?_
    refine lv_iconst (v := (-1)) E.1 E.2.1 dX10_house_13 rfl ?_
    have hf := Option.some.inj hf
    subst hf
    exact q_iret E w hr hlk dX10_house_14
  have hf := q_neg c5 hf
  have t4 : sh r2 = 1 := (X7_houseAt_t (lay_10_0 t_v0) hc1).resolve_left c5
  rw [rfv_p G (by rw [t4]; decide)]
  refine lv_astore_n (lv' := [(3, .ref (ad G r2)), (0, .ref (ad G v0)), (1, .int v1), (2, .int v2)]) E.1 E.2.1 dX10_house_8 rfl hl (by decide) rfl (fun ls hl => ?_)
  refine lv_aload_n E.1 E.2.1 dX10_house_9 rfl (lv_at hl 0 rfl) ?_
  refine lv_ifnonnull (tgt := 15) E.1 E.2.1 dX10_house_10 (by decide) ?_
  refine lv_iload_n E.1 E.2.1 dX10_house_15 rfl (lv_at hl 3 rfl) ?_
  by_cases c6 : v2 = 0
  · have hf := q_pos c6 hf
    refine lv_tableIn (off := 36) (tgt := 52) E.1 E.2.1 dX10_house_16 (by rw [c6]; decide) (by rw [c6]; decide) (by rw [c6]; rfl) (by decide) ?_
    refine lv_aload_n E.1 E.2.1 dX10_house_52 rfl (lv_at hl 0 rfl) ?_
    refine q_gi E w t4 fl_RX10_117 dX10_house_53 ?_
    have hf := Option.some.inj hf
    subst hf
    exact q_iret E w hr hlk dX10_house_56
  have hf := q_neg c6 hf
  by_cases c7 : v2 = 1
  · have hf := q_pos c7 hf
    refine lv_tableIn (off := 41) (tgt := 57) E.1 E.2.1 dX10_house_16 (by rw [c7]; decide) (by rw [c7]; decide) (by rw [c7]; rfl) (by decide) ?_
    refine lv_aload_n E.1 E.2.1 dX10_house_57 rfl (lv_at hl 0 rfl) ?_
    refine q_gi E w t4 fl_RX10_122 dX10_house_58 ?_
    have hf := Option.some.inj hf
    subst hf
    exact q_iret E w hr hlk dX10_house_61
  have hf := q_neg c7 hf
  by_cases c8 : v2 = 2
  · have hf := q_pos c8 hf
    refine lv_tableIn (off := 46) (tgt := 62) E.1 E.2.1 dX10_house_16 (by rw [c8]; decide) (by rw [c8]; decide) (by rw [c8]; rfl) (by decide) ?_
    refine lv_aload_n E.1 E.2.1 dX10_house_62 rfl (lv_at hl 0 rfl) ?_
    refine q_gi E w t4 fl_RX10_125 dX10_house_63 ?_
    have hf := Option.some.inj hf
    subst hf
    exact q_iret E w hr hlk dX10_house_66
  have hf := q_neg c8 hf
  by_cases c9 : v2 = 3
  · have hf := q_pos c9 hf
    refine lv_tableIn (off := 51) (tgt := 67) E.1 E.2.1 dX10_house_16 (by rw [c9]; decide) (by rw [c9]; decide) (by rw [c9]; rfl) (by decide) ?_
    refine lv_aload_n E.1 E.2.1 dX10_house_67 rfl (lv_at hl 0 rfl) ?_
    refine q_gi E w t4 fl_RX10_128 dX10_house_68 ?_
    have hf := Option.some.inj hf
    subst hf
    exact q_iret E w hr hlk dX10_house_71
  have hf := q_neg c9 hf
  by_cases c10 : v2 = 4
  · have hf := q_pos c10 hf
    refine lv_tableIn (off := 56) (tgt := 72) E.1 E.2.1 dX10_house_16 (by rw [c10]; decide) (by rw [c10]; decide) (by rw [c10]; rfl) (by decide) ?_
    refine lv_aload_n E.1 E.2.1 dX10_house_72 rfl (lv_at hl 0 rfl) ?_
    refine q_gi E w t4 fl_RX10_131 dX10_house_73 ?_
    have hf := Option.some.inj hf
    subst hf
    exact q_iret E w hr hlk dX10_house_76
  have hf := q_neg c10 hf
  refine lv_tableOut (tgt := 77) E.1 E.2.1 dX10_house_16 (by have := ne_i c6 (z := 0) (by decide); have := ne_i c7 (z := 1) (by decide); have := ne_i c8 (z := 2) (by decide); have := ne_i c9 (z := 3) (by decide); have := ne_i c10 (z := 4) (by decide); omega) (by decide) ?_
  refine lv_aload_n E.1 E.2.1 dX10_house_77 rfl (lv_at hl 0 rfl) ?_
  refine lv_iload_n E.1 E.2.1 dX10_house_78 rfl (lv_at hl 3 rfl) ?_
  obtain ⟨r12, hc11, hf⟩ := bd1_e hf
  refine k_Vi (As := [.int v2]) (rest := []) E w t4 ⟨by decide, rfl⟩ (X1_detail_c t4 hc11) mv_RX10_134 rfl rfl hl.1 ⟨Nat.le_of_ble_eq_true rfl, Nat.le_of_ble_eq_true rfl⟩ (Nat.le_of_ble_eq_true rfl) ⟨Nat.le_refl _, Nat.le_refl _⟩ dX10_house_79 (fun H locs w => ?_)
  have hf := Option.some.inj hf
  subst hf
  exact q_iret E w hr hlk dX10_house_82

def X10_rowOf (N : Nat) (h : HS) (v0 : Nat) (v1 : Int32) (v2 : Int32) : Option Int32 := (if v0 = 0 then some (-2) else (if v1 = ((-1) : Int32) then (if v2 = 0 then some (h.1 v0 3) else some (-2)) else (if v1 < 0 then some (-2) else (if (h.1 v0 3) ≤ v1 then some (-2) else (if v2 < 0 then some (-2) else (if v2 ≤ (1 : Int32) then (if v2 = 0 then bd1 (X10_at N h (v0 + 1) v1) fun r12 => some r12 else bd1 (X10_at N h (v0 + 2) v1) fun r9 => some r9) else some (-2)))))))
set_option maxRecDepth 4000 in
set_option maxHeartbeats 2000000 in
theorem X10_rowOf_c {l : Launch} {G : GT} {N : Nat} {h : HS} {v0 : Nat} {v1 : Int32} {v2 : Int32} {z : Int32} {x_v0 : Value} (e_v0 : x_v0 = rfv G v0) (t_v0 : v0 = 0 ∨ sh v0 = 6) (hf : X10_rowOf N h v0 v1 v2 = some z) : CT l G yX10_rowOf cX10_rowOf 3 (some .int) 1 21 [x_v0, .int v1, .int v2] h (some (.int z)) h := by
  unfold X10_rowOf at hf
  by_cases c1 : v0 = 0
  · have hf := q_pos c1 hf
    rw [c1, rfv_0] at e_v0
    subst e_v0
    refine CT.of (by decide) (Nat.le_of_ble_eq_true rfl) ?_
    intro p e s m below meth c ls E hr hlk w hl
    have hl : lv_has ls 3 [(0, .null), (1, .int v1), (2, .int v2)] := hl
    refine lv_aload_nN E.1 E.2.1 dX10_rowOf_0 rfl (lv_at hl 0 rfl) ?_
    refine lv_ifnonnullN E.1 E.2.1 dX10_rowOf_1 ?_
    refine lv_bipush (v := (-2)) E.1 E.2.1 dX10_rowOf_4 rfl ?_
    have hf := Option.some.inj hf
    subst hf
    exact q_iret E w hr hlk dX10_rowOf_6
  have hf := q_neg c1 hf
  have t_v0 := t_v0.resolve_left c1
  rw [rfv_p G (by rw [t_v0]; decide)] at e_v0
  subst e_v0
  refine CT.of (by decide) (Nat.le_of_ble_eq_true rfl) ?_
  intro p e s m below meth c ls E hr hlk w hl
  have hl : lv_has ls 3 [(0, .ref (ad G v0)), (1, .int v1), (2, .int v2)] := hl
  refine lv_aload_n E.1 E.2.1 dX10_rowOf_0 rfl (lv_at hl 0 rfl) ?_
  refine lv_ifnonnull (tgt := 7) E.1 E.2.1 dX10_rowOf_1 (by decide) ?_
  refine lv_iload_n E.1 E.2.1 dX10_rowOf_7 rfl (lv_at hl 1 rfl) ?_
  refine lv_iconst (v := (-1)) E.1 E.2.1 dX10_rowOf_8 rfl ?_
  refine lv_icmp_ne (tgt := 26) E.1 E.2.1 dX10_rowOf_9 (by decide) (fun c2 => ?_) (fun c2 => ?_)
  · have hf := q_neg c2 hf
    refine lv_iload_n E.1 E.2.1 dX10_rowOf_26 rfl (lv_at hl 1 rfl) ?_
    refine lv_if_lt (tgt := 47) E.1 E.2.1 dX10_rowOf_27 (by decide) (fun c3 => ?_) (fun c3 => ?_)
    · have hf := q_pos c3 hf
      refine lv_bipush (v := (-2)) E.1 E.2.1 dX10_rowOf_47 rfl ?_
      have hf := Option.some.inj hf
      subst hf
      exact q_iret E w hr hlk dX10_rowOf_49
    · have hf := q_neg c3 hf
      refine lv_iload_n E.1 E.2.1 dX10_rowOf_30 rfl (lv_at hl 1 rfl) ?_
      refine lv_aload_n E.1 E.2.1 dX10_rowOf_31 rfl (lv_at hl 0 rfl) ?_
      refine q_gi E w t_v0 fl_RX10_146 dX10_rowOf_32 ?_
      refine lv_icmp_ge (tgt := 47) E.1 E.2.1 dX10_rowOf_35 (by decide) (fun c4 => ?_) (fun c4 => ?_)
      · have hf := q_pos c4 hf
        refine lv_bipush (v := (-2)) E.1 E.2.1 dX10_rowOf_47 rfl ?_
        have hf := Option.some.inj hf
        subst hf
        exact q_iret E w hr hlk dX10_rowOf_49
      · have hf := q_neg c4 hf
        refine lv_iload_n E.1 E.2.1 dX10_rowOf_38 rfl (lv_at hl 2 rfl) ?_
        refine lv_if_lt (tgt := 47) E.1 E.2.1 dX10_rowOf_39 (by decide) (fun c5 => ?_) (fun c5 => ?_)
        · have hf := q_pos c5 hf
          refine lv_bipush (v := (-2)) E.1 E.2.1 dX10_rowOf_47 rfl ?_
          have hf := Option.some.inj hf
          subst hf
          exact q_iret E w hr hlk dX10_rowOf_49
        · have hf := q_neg c5 hf
          refine lv_iload_n E.1 E.2.1 dX10_rowOf_42 rfl (lv_at hl 2 rfl) ?_
          refine lv_iconst (v := 1) E.1 E.2.1 dX10_rowOf_43 rfl ?_
          refine lv_icmp_le (tgt := 50) E.1 E.2.1 dX10_rowOf_44 (by decide) (fun c6 => ?_) (fun c6 => ?_)
          · have hf := q_pos c6 hf
            refine lv_iload_n E.1 E.2.1 dX10_rowOf_50 rfl (lv_at hl 2 rfl) ?_
            refine lv_if_ne (tgt := 65) E.1 E.2.1 dX10_rowOf_51 (by decide) (fun c7 => ?_) (fun c7 => ?_)
            · have hf := q_neg c7 hf
              refine lv_aload_n E.1 E.2.1 dX10_rowOf_65 rfl (lv_at hl 0 rfl) ?_
              refine q_gs E w 2 t_v0 fl_RX10_342 dX10_rowOf_66 ?_
              refine lv_iload_n E.1 E.2.1 dX10_rowOf_69 rfl (lv_at hl 1 rfl) ?_
              obtain ⟨r9, hc8, hf⟩ := bd1_e hf
              refine k_Si (As := [.ref (ad G (v0 + 2)), .int v1]) (rest := []) E w (X10_at_c ((lay_6_2 t_v0).1) hc8) ms_RX10_338 rfl rfl hl.1 ⟨Nat.le_of_ble_eq_true rfl, Nat.le_of_ble_eq_true rfl⟩ (Nat.le_of_ble_eq_true rfl) ⟨Nat.le_refl _, Nat.le_refl _⟩ dX10_rowOf_70 (fun H locs w => ?_)
              have hf := Option.some.inj hf
              subst hf
              exact q_iret E w hr hlk dX10_rowOf_73
            · have hf := q_pos c7 hf
              refine lv_aload_n E.1 E.2.1 dX10_rowOf_54 rfl (lv_at hl 0 rfl) ?_
              refine q_gs E w 1 t_v0 fl_RX10_335 dX10_rowOf_55 ?_
              refine lv_iload_n E.1 E.2.1 dX10_rowOf_58 rfl (lv_at hl 1 rfl) ?_
              obtain ⟨r12, hc11, hf⟩ := bd1_e hf
              refine k_Si (As := [.ref (ad G (v0 + 1)), .int v1]) (rest := []) E w (X10_at_c ((lay_6_1 t_v0).1) hc11) ms_RX10_338 rfl rfl hl.1 ⟨Nat.le_of_ble_eq_true rfl, Nat.le_of_ble_eq_true rfl⟩ (Nat.le_of_ble_eq_true rfl) ⟨Nat.le_refl _, Nat.le_refl _⟩ dX10_rowOf_59 (fun H locs w => ?_)
              refine lv_goto (tgt := 73) E.1 E.2.1 dX10_rowOf_62 (by decide) ?_
              have hf := Option.some.inj hf
              subst hf
              exact q_iret E w hr hlk dX10_rowOf_73
          · have hf := q_neg c6 hf
            refine lv_bipush (v := (-2)) E.1 E.2.1 dX10_rowOf_47 rfl ?_
            have hf := Option.some.inj hf
            subst hf
            exact q_iret E w hr hlk dX10_rowOf_49
  · have hf := q_pos c2 hf
    refine lv_iload_n E.1 E.2.1 dX10_rowOf_12 rfl (lv_at hl 2 rfl) ?_
    refine lv_if_ne (tgt := 23) E.1 E.2.1 dX10_rowOf_13 (by decide) (fun c14 => ?_) (fun c14 => ?_)
    · have hf := q_neg c14 hf
      refine lv_bipush (v := (-2)) E.1 E.2.1 dX10_rowOf_23 rfl ?_
      have hf := Option.some.inj hf
      subst hf
      exact q_iret E w hr hlk dX10_rowOf_25
    · have hf := q_pos c14 hf
      refine lv_aload_n E.1 E.2.1 dX10_rowOf_16 rfl (lv_at hl 0 rfl) ?_
      refine q_gi E w t_v0 fl_RX10_146 dX10_rowOf_17 ?_
      refine lv_goto (tgt := 25) E.1 E.2.1 dX10_rowOf_20 (by decide) ?_
      have hf := Option.some.inj hf
      subst hf
      exact q_iret E w hr hlk dX10_rowOf_25

def X10_deed (N : Nat) (h : HS) (v0 : Nat) (v1 : Int32) (v2 : Int32) (v3 : Int32) : Option Int32 := bd1 (X7_nightsAt N h (v0 + 1) v1) fun r2 => (if r2 = 0 then bd1 (X10_rowOf N h 0 v2 v3) fun r7 => some r7 else bd1 (X10_rowOf N h r2 v2 v3) fun r10 => some r10)
set_option maxRecDepth 4000 in
set_option maxHeartbeats 2000000 in
theorem X10_deed_c {l : Launch} {G : GT} {N : Nat} {h : HS} {v0 : Nat} {v1 : Int32} {v2 : Int32} {v3 : Int32} {z : Int32} (t_v0 : sh v0 = 10) (hf : X10_deed N h v0 v1 v2 v3 = some z) : CT l G yX10_deed cX10_deed 4 (some .int) 2 43 [.ref (ad G v0), .int v1, .int v2, .int v3] h (some (.int z)) h := by
  unfold X10_deed at hf
  refine CT.of (by decide) (Nat.le_of_ble_eq_true rfl) ?_
  intro p e s m below meth c ls E hr hlk w hl
  have hl : lv_has ls 4 [(0, .ref (ad G v0)), (1, .int v1), (2, .int v2), (3, .int v3)] := hl
  refine lv_aload_n E.1 E.2.1 dX10_deed_0 rfl (lv_at hl 0 rfl) ?_
  refine q_gs E w 1 t_v0 fl_RX10_10 dX10_deed_1 ?_
  refine lv_iload_n E.1 E.2.1 dX10_deed_4 rfl (lv_at hl 1 rfl) ?_
  obtain ⟨r2, hc1, hf⟩ := bd1_e hf
  refine k_Vr (As := [.int v1]) (rest := []) E w (lay_10_0 t_v0) ⟨by decide, rfl⟩ (X7_nightsAt_c (lay_10_0 t_v0) hc1) mv_RX10_138 rfl rfl hl.1 ⟨Nat.le_of_ble_eq_true rfl, Nat.le_of_ble_eq_true rfl⟩ (Nat.le_of_ble_eq_true rfl) ⟨Nat.le_refl _, Nat.le_refl _⟩ dX10_deed_5 (fun H locs w => ?_)
  by_cases c5 : r2 = 0
  · have hf := q_pos c5 hf
    rw [c5, rfv_0]
    refine lv_iload_n E.1 E.2.1 dX10_deed_8 rfl (lv_at hl 2 rfl) ?_
    refine lv_iload_n E.1 E.2.1 dX10_deed_9 rfl (lv_at hl 3 rfl) ?_
    obtain ⟨r7, hc6, hf⟩ := bd1_e hf
    refine k_Si (As := [.null, .int v2, .int v3]) (rest := []) E w (X10_rowOf_c rfl (Or.inl rfl) hc6) ms_RX10_142 rfl rfl hl.1 ⟨Nat.le_of_ble_eq_true rfl, Nat.le_of_ble_eq_true rfl⟩ (Nat.le_of_ble_eq_true rfl) ⟨Nat.le_refl _, Nat.le_refl _⟩ dX10_deed_10 (fun H locs w => ?_)
    have hf := Option.some.inj hf
    subst hf
    exact q_iret E w hr hlk dX10_deed_13
  have hf := q_neg c5 hf
  have t4 : sh r2 = 6 := (X7_nightsAt_t (lay_10_0 t_v0) hc1).resolve_left c5
  rw [rfv_p G (by rw [t4]; decide)]
  refine lv_iload_n E.1 E.2.1 dX10_deed_8 rfl (lv_at hl 2 rfl) ?_
  refine lv_iload_n E.1 E.2.1 dX10_deed_9 rfl (lv_at hl 3 rfl) ?_
  obtain ⟨r10, hc9, hf⟩ := bd1_e hf
  refine k_Si (As := [.ref (ad G r2), .int v2, .int v3]) (rest := []) E w (X10_rowOf_c (rfv_p G (by rw [t4]; decide)).symm (Or.inr t4) hc9) ms_RX10_142 rfl rfl hl.1 ⟨Nat.le_of_ble_eq_true rfl, Nat.le_of_ble_eq_true rfl⟩ (Nat.le_of_ble_eq_true rfl) ⟨Nat.le_refl _, Nat.le_refl _⟩ dX10_deed_10 (fun H locs w => ?_)
  have hf := Option.some.inj hf
  subst hf
  exact q_iret E w hr hlk dX10_deed_13

def X10_stop (N : Nat) (h : HS) (v0 : Nat) (v1 : Int32) (v2 : Int32) : Option (Int32 × HS) := bd1 (X7_houseAt N h (v0 + 1) v1) fun r2 => (if r2 = 0 then bd1 (X7_nightsAt N h (v0 + 1) v2) fun r7 => (if r7 = 0 then some ((-1), h) else some ((-1), h)) else bd1 (X7_nightsAt N h (v0 + 1) v2) fun r12 => (if r12 = 0 then some ((-1), h) else bd2 (X3_play N h (v0 + 184) r2 r12 (h.1 r12 3)) fun r17 h18 => some (r17, h18)))
set_option maxRecDepth 4000 in
set_option maxHeartbeats 2000000 in
theorem X10_stop_c {l : Launch} {G : GT} {N : Nat} {h : HS} {v0 : Nat} {v1 : Int32} {v2 : Int32} {z : (Int32 × HS)} (t_v0 : sh v0 = 10) (hf : X10_stop N h v0 v1 v2 = some z) : CT l G yX10_stop cX10_stop 5 (some .int) 7 152 [.ref (ad G v0), .int v1, .int v2] h (some (.int z.1)) z.2 := by
  unfold X10_stop at hf
  refine CT.of (by decide) (Nat.le_of_ble_eq_true rfl) ?_
  intro p e s m below meth c ls E hr hlk w hl
  have hl : lv_has ls 5 [(0, .ref (ad G v0)), (1, .int v1), (2, .int v2)] := hl
  refine lv_aload_n E.1 E.2.1 dX10_stop_0 rfl (lv_at hl 0 rfl) ?_
  refine q_gs E w 1 t_v0 fl_RX10_10 dX10_stop_1 ?_
  refine lv_iload_n E.1 E.2.1 dX10_stop_4 rfl (lv_at hl 1 rfl) ?_
  obtain ⟨r2, hc1, hf⟩ := bd1_e hf
  refine k_Vr (As := [.int v1]) (rest := []) E w (lay_10_0 t_v0) ⟨by decide, rfl⟩ (X7_houseAt_c (lay_10_0 t_v0) hc1) mv_RX10_113 rfl rfl hl.1 ⟨Nat.le_of_ble_eq_true rfl, Nat.le_of_ble_eq_true rfl⟩ (Nat.le_of_ble_eq_true rfl) ⟨Nat.le_refl _, Nat.le_refl _⟩ dX10_stop_5 (fun H locs w => ?_)
  by_cases c5 : r2 = 0
  · have hf := q_pos c5 hf
    rw [c5, rfv_0]
    refine lv_astore_nN (lv' := [(3, .null), (0, .ref (ad G v0)), (1, .int v1), (2, .int v2)]) E.1 E.2.1 dX10_stop_8 rfl hl (by decide) rfl (fun ls hl => ?_)
    refine lv_aload_n E.1 E.2.1 dX10_stop_9 rfl (lv_at hl 1 rfl) ?_
    refine q_gs E w 1 t_v0 fl_RX10_10 dX10_stop_10 ?_
    refine lv_iload_n E.1 E.2.1 dX10_stop_13 rfl (lv_at hl 3 rfl) ?_
    obtain ⟨r7, hc6, hf⟩ := bd1_e hf
    refine k_Vr (As := [.int v2]) (rest := []) E w (lay_10_0 t_v0) ⟨by decide, rfl⟩ (X7_nightsAt_c (lay_10_0 t_v0) hc6) mv_RX10_138 rfl rfl hl.1 ⟨Nat.le_of_ble_eq_true rfl, Nat.le_of_ble_eq_true rfl⟩ (Nat.le_of_ble_eq_true rfl) ⟨Nat.le_refl _, Nat.le_refl _⟩ dX10_stop_14 (fun H locs w => ?_)
    by_cases c10 : r7 = 0
    · have hf := q_pos c10 hf
      rw [c10, rfv_0]
      refine lv_astoreN (lv' := [(4, .null), (3, .null), (0, .ref (ad G v0)), (1, .int v1), (2, .int v2)]) E.1 E.2.1 dX10_stop_17 hl (by decide) rfl (fun ls hl => ?_)
      refine lv_aload_nN E.1 E.2.1 dX10_stop_19 rfl (lv_at hl 1 rfl) ?_
      refine lv_ifnullN (tgt := 28) E.1 E.2.1 dX10_stop_20 (by decide) ?_
      refine lv_iconst (v := (-1)) E.1 E.2.1 dX10_stop_28 rfl ?_
      have hf := Option.some.inj hf
      subst hf
      exact q_iret E w hr hlk dX10_stop_29
    have hf := q_neg c10 hf
    have t9 : sh r7 = 6 := (X7_nightsAt_t (lay_10_0 t_v0) hc6).resolve_left c10
    rw [rfv_p G (by rw [t9]; decide)]
    refine lv_astore (lv' := [(4, .ref (ad G r7)), (3, .null), (0, .ref (ad G v0)), (1, .int v1), (2, .int v2)]) E.1 E.2.1 dX10_stop_17 hl (by decide) rfl (fun ls hl => ?_)
    refine lv_aload_nN E.1 E.2.1 dX10_stop_19 rfl (lv_at hl 1 rfl) ?_
    refine lv_ifnullN (tgt := 28) E.1 E.2.1 dX10_stop_20 (by decide) ?_
    refine lv_iconst (v := (-1)) E.1 E.2.1 dX10_stop_28 rfl ?_
    have hf := Option.some.inj hf
    subst hf
    exact q_iret E w hr hlk dX10_stop_29
  have hf := q_neg c5 hf
  have t4 : sh r2 = 1 := (X7_houseAt_t (lay_10_0 t_v0) hc1).resolve_left c5
  rw [rfv_p G (by rw [t4]; decide)]
  refine lv_astore_n (lv' := [(3, .ref (ad G r2)), (0, .ref (ad G v0)), (1, .int v1), (2, .int v2)]) E.1 E.2.1 dX10_stop_8 rfl hl (by decide) rfl (fun ls hl => ?_)
  refine lv_aload_n E.1 E.2.1 dX10_stop_9 rfl (lv_at hl 1 rfl) ?_
  refine q_gs E w 1 t_v0 fl_RX10_10 dX10_stop_10 ?_
  refine lv_iload_n E.1 E.2.1 dX10_stop_13 rfl (lv_at hl 3 rfl) ?_
  obtain ⟨r12, hc11, hf⟩ := bd1_e hf
  refine k_Vr (As := [.int v2]) (rest := []) E w (lay_10_0 t_v0) ⟨by decide, rfl⟩ (X7_nightsAt_c (lay_10_0 t_v0) hc11) mv_RX10_138 rfl rfl hl.1 ⟨Nat.le_of_ble_eq_true rfl, Nat.le_of_ble_eq_true rfl⟩ (Nat.le_of_ble_eq_true rfl) ⟨Nat.le_refl _, Nat.le_refl _⟩ dX10_stop_14 (fun H locs w => ?_)
  by_cases c15 : r12 = 0
  · have hf := q_pos c15 hf
    rw [c15, rfv_0]
    refine lv_astoreN (lv' := [(4, .null), (3, .ref (ad G r2)), (0, .ref (ad G v0)), (1, .int v1), (2, .int v2)]) E.1 E.2.1 dX10_stop_17 hl (by decide) rfl (fun ls hl => ?_)
    refine lv_aload_n E.1 E.2.1 dX10_stop_19 rfl (lv_at hl 1 rfl) ?_
    refine lv_ifnull E.1 E.2.1 dX10_stop_20 ?_
    refine lv_aloadN E.1 E.2.1 dX10_stop_23 (lv_at hl 0 rfl) ?_
    refine lv_ifnonnullN E.1 E.2.1 dX10_stop_25 ?_
    refine lv_iconst (v := (-1)) E.1 E.2.1 dX10_stop_28 rfl ?_
    have hf := Option.some.inj hf
    subst hf
    exact q_iret E w hr hlk dX10_stop_29
  have hf := q_neg c15 hf
  have t14 : sh r12 = 6 := (X7_nightsAt_t (lay_10_0 t_v0) hc11).resolve_left c15
  rw [rfv_p G (by rw [t14]; decide)]
  refine lv_astore (lv' := [(4, .ref (ad G r12)), (3, .ref (ad G r2)), (0, .ref (ad G v0)), (1, .int v1), (2, .int v2)]) E.1 E.2.1 dX10_stop_17 hl (by decide) rfl (fun ls hl => ?_)
  refine lv_aload_n E.1 E.2.1 dX10_stop_19 rfl (lv_at hl 1 rfl) ?_
  refine lv_ifnull E.1 E.2.1 dX10_stop_20 ?_
  refine lv_aload E.1 E.2.1 dX10_stop_23 (lv_at hl 0 rfl) ?_
  refine lv_ifnonnull (tgt := 30) E.1 E.2.1 dX10_stop_25 (by decide) ?_
  refine lv_aload_n E.1 E.2.1 dX10_stop_30 rfl (lv_at hl 2 rfl) ?_
  refine q_gs E w 184 t_v0 fl_RX10_41 dX10_stop_31 ?_
  refine lv_aload_n E.1 E.2.1 dX10_stop_34 rfl (lv_at hl 1 rfl) ?_
  refine lv_aload E.1 E.2.1 dX10_stop_35 (lv_at hl 0 rfl) ?_
  refine lv_aload E.1 E.2.1 dX10_stop_37 (lv_at hl 0 rfl) ?_
  refine q_gi E w t14 fl_RX10_146 dX10_stop_39 ?_
  obtain ⟨r17, h18, hc16, hf⟩ := bd2_e hf
  refine k_Vi (As := [.ref (ad G r2), .ref (ad G r12), .int (h.1 r12 3)]) (rest := []) E w (lay_10_5 t_v0) ⟨by decide, rfl⟩ (X3_play_c (lay_10_5 t_v0) t4 t14 hc16) mv_RX10_149 rfl rfl hl.1 ⟨Nat.le_of_ble_eq_true rfl, Nat.le_of_ble_eq_true rfl⟩ (Nat.le_of_ble_eq_true rfl) ⟨Nat.le_refl _, Nat.le_refl _⟩ dX10_stop_42 (fun H locs w => ?_)
  have hf := Option.some.inj hf
  subst hf
  exact q_iret E w hr hlk dX10_stop_45

def X10_state (N : Nat) (h : HS) (v0 : Nat) (v1 : Int32) (v2 : Int32) (v3 : Int32) (v4 : Int32) : Option (Int32 × HS) := bd1 (X7_houseAt N h (v0 + 1) v1) fun r2 => (if r2 = 0 then bd1 (X7_nightsAt N h (v0 + 1) v2) fun r7 => (if r7 = 0 then some ((-2), h) else some ((-2), h)) else bd1 (X7_nightsAt N h (v0 + 1) v2) fun r12 => (if r12 = 0 then some ((-2), h) else (if v3 < 0 then some ((-2), h) else (if v3 ≤ (h.1 r12 3) then bd2 (X3_play N h (v0 + 184) r2 r12 v3) fun r19 h20 => (if v3 ≤ r19 then bd1 (X3_look N h20 (v0 + 184) v4) fun r23 => some (r23, h20) else some ((-2), h20)) else some ((-2), h)))))
set_option maxRecDepth 4000 in
set_option maxHeartbeats 2000000 in
theorem X10_state_c {l : Launch} {G : GT} {N : Nat} {h : HS} {v0 : Nat} {v1 : Int32} {v2 : Int32} {v3 : Int32} {v4 : Int32} {z : (Int32 × HS)} (t_v0 : sh v0 = 10) (hf : X10_state N h v0 v1 v2 v3 v4 = some z) : CT l G yX10_state cX10_state 7 (some .int) 7 152 [.ref (ad G v0), .int v1, .int v2, .int v3, .int v4] h (some (.int z.1)) z.2 := by
  unfold X10_state at hf
  refine CT.of (by decide) (Nat.le_of_ble_eq_true rfl) ?_
  intro p e s m below meth c ls E hr hlk w hl
  have hl : lv_has ls 7 [(0, .ref (ad G v0)), (1, .int v1), (2, .int v2), (3, .int v3), (4, .int v4)] := hl
  refine lv_aload_n E.1 E.2.1 dX10_state_0 rfl (lv_at hl 0 rfl) ?_
  refine q_gs E w 1 t_v0 fl_RX10_10 dX10_state_1 ?_
  refine lv_iload_n E.1 E.2.1 dX10_state_4 rfl (lv_at hl 1 rfl) ?_
  obtain ⟨r2, hc1, hf⟩ := bd1_e hf
  refine k_Vr (As := [.int v1]) (rest := []) E w (lay_10_0 t_v0) ⟨by decide, rfl⟩ (X7_houseAt_c (lay_10_0 t_v0) hc1) mv_RX10_113 rfl rfl hl.1 ⟨Nat.le_of_ble_eq_true rfl, Nat.le_of_ble_eq_true rfl⟩ (Nat.le_of_ble_eq_true rfl) ⟨Nat.le_refl _, Nat.le_refl _⟩ dX10_state_5 (fun H locs w => ?_)
  by_cases c5 : r2 = 0
  · have hf := q_pos c5 hf
    rw [c5, rfv_0]
    refine lv_astoreN (lv' := [(5, .null), (0, .ref (ad G v0)), (1, .int v1), (2, .int v2), (3, .int v3), (4, .int v4)]) E.1 E.2.1 dX10_state_8 hl (by decide) rfl (fun ls hl => ?_)
    refine lv_aload_n E.1 E.2.1 dX10_state_10 rfl (lv_at hl 1 rfl) ?_
    refine q_gs E w 1 t_v0 fl_RX10_10 dX10_state_11 ?_
    refine lv_iload_n E.1 E.2.1 dX10_state_14 rfl (lv_at hl 3 rfl) ?_
    obtain ⟨r7, hc6, hf⟩ := bd1_e hf
    refine k_Vr (As := [.int v2]) (rest := []) E w (lay_10_0 t_v0) ⟨by decide, rfl⟩ (X7_nightsAt_c (lay_10_0 t_v0) hc6) mv_RX10_138 rfl rfl hl.1 ⟨Nat.le_of_ble_eq_true rfl, Nat.le_of_ble_eq_true rfl⟩ (Nat.le_of_ble_eq_true rfl) ⟨Nat.le_refl _, Nat.le_refl _⟩ dX10_state_15 (fun H locs w => ?_)
    by_cases c10 : r7 = 0
    · have hf := q_pos c10 hf
      rw [c10, rfv_0]
      refine lv_astoreN (lv' := [(6, .null), (5, .null), (0, .ref (ad G v0)), (1, .int v1), (2, .int v2), (3, .int v3), (4, .int v4)]) E.1 E.2.1 dX10_state_18 hl (by decide) rfl (fun ls hl => ?_)
      refine lv_aloadN E.1 E.2.1 dX10_state_20 (lv_at hl 1 rfl) ?_
      refine lv_ifnullN (tgt := 43) E.1 E.2.1 dX10_state_22 (by decide) ?_
      refine lv_bipush (v := (-2)) E.1 E.2.1 dX10_state_43 rfl ?_
      have hf := Option.some.inj hf
      subst hf
      exact q_iret E w hr hlk dX10_state_45
    have hf := q_neg c10 hf
    have t9 : sh r7 = 6 := (X7_nightsAt_t (lay_10_0 t_v0) hc6).resolve_left c10
    rw [rfv_p G (by rw [t9]; decide)]
    refine lv_astore (lv' := [(6, .ref (ad G r7)), (5, .null), (0, .ref (ad G v0)), (1, .int v1), (2, .int v2), (3, .int v3), (4, .int v4)]) E.1 E.2.1 dX10_state_18 hl (by decide) rfl (fun ls hl => ?_)
    refine lv_aloadN E.1 E.2.1 dX10_state_20 (lv_at hl 1 rfl) ?_
    refine lv_ifnullN (tgt := 43) E.1 E.2.1 dX10_state_22 (by decide) ?_
    refine lv_bipush (v := (-2)) E.1 E.2.1 dX10_state_43 rfl ?_
    have hf := Option.some.inj hf
    subst hf
    exact q_iret E w hr hlk dX10_state_45
  have hf := q_neg c5 hf
  have t4 : sh r2 = 1 := (X7_houseAt_t (lay_10_0 t_v0) hc1).resolve_left c5
  rw [rfv_p G (by rw [t4]; decide)]
  refine lv_astore (lv' := [(5, .ref (ad G r2)), (0, .ref (ad G v0)), (1, .int v1), (2, .int v2), (3, .int v3), (4, .int v4)]) E.1 E.2.1 dX10_state_8 hl (by decide) rfl (fun ls hl => ?_)
  refine lv_aload_n E.1 E.2.1 dX10_state_10 rfl (lv_at hl 1 rfl) ?_
  refine q_gs E w 1 t_v0 fl_RX10_10 dX10_state_11 ?_
  refine lv_iload_n E.1 E.2.1 dX10_state_14 rfl (lv_at hl 3 rfl) ?_
  obtain ⟨r12, hc11, hf⟩ := bd1_e hf
  refine k_Vr (As := [.int v2]) (rest := []) E w (lay_10_0 t_v0) ⟨by decide, rfl⟩ (X7_nightsAt_c (lay_10_0 t_v0) hc11) mv_RX10_138 rfl rfl hl.1 ⟨Nat.le_of_ble_eq_true rfl, Nat.le_of_ble_eq_true rfl⟩ (Nat.le_of_ble_eq_true rfl) ⟨Nat.le_refl _, Nat.le_refl _⟩ dX10_state_15 (fun H locs w => ?_)
  by_cases c15 : r12 = 0
  · have hf := q_pos c15 hf
    rw [c15, rfv_0]
    refine lv_astoreN (lv' := [(6, .null), (5, .ref (ad G r2)), (0, .ref (ad G v0)), (1, .int v1), (2, .int v2), (3, .int v3), (4, .int v4)]) E.1 E.2.1 dX10_state_18 hl (by decide) rfl (fun ls hl => ?_)
    refine lv_aload E.1 E.2.1 dX10_state_20 (lv_at hl 1 rfl) ?_
    refine lv_ifnull E.1 E.2.1 dX10_state_22 ?_
    refine lv_aloadN E.1 E.2.1 dX10_state_25 (lv_at hl 0 rfl) ?_
    refine lv_ifnullN (tgt := 43) E.1 E.2.1 dX10_state_27 (by decide) ?_
    refine lv_bipush (v := (-2)) E.1 E.2.1 dX10_state_43 rfl ?_
    have hf := Option.some.inj hf
    subst hf
    exact q_iret E w hr hlk dX10_state_45
  have hf := q_neg c15 hf
  have t14 : sh r12 = 6 := (X7_nightsAt_t (lay_10_0 t_v0) hc11).resolve_left c15
  rw [rfv_p G (by rw [t14]; decide)]
  refine lv_astore (lv' := [(6, .ref (ad G r12)), (5, .ref (ad G r2)), (0, .ref (ad G v0)), (1, .int v1), (2, .int v2), (3, .int v3), (4, .int v4)]) E.1 E.2.1 dX10_state_18 hl (by decide) rfl (fun ls hl => ?_)
  refine lv_aload E.1 E.2.1 dX10_state_20 (lv_at hl 1 rfl) ?_
  refine lv_ifnull E.1 E.2.1 dX10_state_22 ?_
  refine lv_aload E.1 E.2.1 dX10_state_25 (lv_at hl 0 rfl) ?_
  refine lv_ifnull E.1 E.2.1 dX10_state_27 ?_
  refine lv_iload_n E.1 E.2.1 dX10_state_30 rfl (lv_at hl 5 rfl) ?_
  refine lv_if_lt (tgt := 43) E.1 E.2.1 dX10_state_31 (by decide) (fun c16 => ?_) (fun c16 => ?_)
  · have hf := q_pos c16 hf
    refine lv_bipush (v := (-2)) E.1 E.2.1 dX10_state_43 rfl ?_
    have hf := Option.some.inj hf
    subst hf
    exact q_iret E w hr hlk dX10_state_45
  · have hf := q_neg c16 hf
    refine lv_iload_n E.1 E.2.1 dX10_state_34 rfl (lv_at hl 5 rfl) ?_
    refine lv_aload E.1 E.2.1 dX10_state_35 (lv_at hl 0 rfl) ?_
    refine q_gi E w t14 fl_RX10_146 dX10_state_37 ?_
    refine lv_icmp_le (tgt := 46) E.1 E.2.1 dX10_state_40 (by decide) (fun c17 => ?_) (fun c17 => ?_)
    · have hf := q_pos c17 hf
      refine lv_aload_n E.1 E.2.1 dX10_state_46 rfl (lv_at hl 2 rfl) ?_
      refine q_gs E w 184 t_v0 fl_RX10_41 dX10_state_47 ?_
      refine lv_aload E.1 E.2.1 dX10_state_50 (lv_at hl 1 rfl) ?_
      refine lv_aload E.1 E.2.1 dX10_state_52 (lv_at hl 0 rfl) ?_
      refine lv_iload_n E.1 E.2.1 dX10_state_54 rfl (lv_at hl 5 rfl) ?_
      obtain ⟨r19, h20, hc18, hf⟩ := bd2_e hf
      refine k_Vi (As := [.ref (ad G r2), .ref (ad G r12), .int v3]) (rest := []) E w (lay_10_5 t_v0) ⟨by decide, rfl⟩ (X3_play_c (lay_10_5 t_v0) t4 t14 hc18) mv_RX10_149 rfl rfl hl.1 ⟨Nat.le_of_ble_eq_true rfl, Nat.le_of_ble_eq_true rfl⟩ (Nat.le_of_ble_eq_true rfl) ⟨Nat.le_refl _, Nat.le_refl _⟩ dX10_state_55 (fun H locs w => ?_)
      refine lv_iload_n E.1 E.2.1 dX10_state_58 rfl (lv_at hl 5 rfl) ?_
      refine lv_icmp_ge (tgt := 67) E.1 E.2.1 dX10_state_59 (by decide) (fun c21 => ?_) (fun c21 => ?_)
      · have hf := q_pos c21 hf
        refine lv_aload_n E.1 E.2.1 dX10_state_67 rfl (lv_at hl 2 rfl) ?_
        refine q_gs E w 184 t_v0 fl_RX10_41 dX10_state_68 ?_
        refine lv_iload E.1 E.2.1 dX10_state_71 (lv_at hl 6 rfl) ?_
        obtain ⟨r23, hc22, hf⟩ := bd1_e hf
        refine k_Vi (As := [.int v4]) (rest := []) E w (lay_10_5 t_v0) ⟨by decide, rfl⟩ (X3_look_c (lay_10_5 t_v0) hc22) mv_RX10_153 rfl rfl hl.1 ⟨Nat.le_of_ble_eq_true rfl, Nat.le_of_ble_eq_true rfl⟩ (Nat.le_of_ble_eq_true rfl) ⟨Nat.le_refl _, Nat.le_refl _⟩ dX10_state_73 (fun H locs w => ?_)
        have hf := Option.some.inj hf
        subst hf
        exact q_iret E w hr hlk dX10_state_76
      · have hf := q_neg c21 hf
        refine lv_bipush (v := (-2)) E.1 E.2.1 dX10_state_62 rfl ?_
        refine lv_goto (tgt := 76) E.1 E.2.1 dX10_state_64 (by decide) ?_
        have hf := Option.some.inj hf
        subst hf
        exact q_iret E w hr hlk dX10_state_76
    · have hf := q_neg c17 hf
      refine lv_bipush (v := (-2)) E.1 E.2.1 dX10_state_43 rfl ?_
      have hf := Option.some.inj hf
      subst hf
      exact q_iret E w hr hlk dX10_state_45

def X10_rota (N : Nat) (h : HS) (v0 : Nat) (v1 : Int32) (v2 : Int32) : Option (Int32 × HS) := bd1 (X7_houseAt N h (v0 + 1) v1) fun r2 => (if r2 = 0 then some ((-1), h) else bd1 (X1_hasBar N h r2 v2) fun r7 => (if r7 = 0 then some ((-1), h) else bd2 (X5_finds N h (v0 + 170) r2) fun r11 h12 => (if r11 = 0 then some ((-1), h12) else bd1 (X5_singerOf N h12 (v0 + 170) v2) fun r15 => some (r15, h12))))
set_option maxRecDepth 4000 in
set_option maxHeartbeats 2000000 in
theorem X10_rota_c {l : Launch} {G : GT} {N : Nat} {h : HS} {v0 : Nat} {v1 : Int32} {v2 : Int32} {z : (Int32 × HS)} (t_v0 : sh v0 = 10) (hf : X10_rota N h v0 v1 v2 = some z) : CT l G yX10_rota cX10_rota 4 (some .int) 27 581 [.ref (ad G v0), .int v1, .int v2] h (some (.int z.1)) z.2 := by
  unfold X10_rota at hf
  refine CT.of (by decide) (Nat.le_of_ble_eq_true rfl) ?_
  intro p e s m below meth c ls E hr hlk w hl
  have hl : lv_has ls 4 [(0, .ref (ad G v0)), (1, .int v1), (2, .int v2)] := hl
  refine lv_aload_n E.1 E.2.1 dX10_rota_0 rfl (lv_at hl 0 rfl) ?_
  refine q_gs E w 1 t_v0 fl_RX10_10 dX10_rota_1 ?_
  refine lv_iload_n E.1 E.2.1 dX10_rota_4 rfl (lv_at hl 1 rfl) ?_
  obtain ⟨r2, hc1, hf⟩ := bd1_e hf
  refine k_Vr (As := [.int v1]) (rest := []) E w (lay_10_0 t_v0) ⟨by decide, rfl⟩ (X7_houseAt_c (lay_10_0 t_v0) hc1) mv_RX10_113 rfl rfl hl.1 ⟨Nat.le_of_ble_eq_true rfl, Nat.le_of_ble_eq_true rfl⟩ (Nat.le_of_ble_eq_true rfl) ⟨Nat.le_refl _, Nat.le_refl _⟩ dX10_rota_5 (fun H locs w => ?_)
  by_cases c5 : r2 = 0
  · have hf := q_pos c5 hf
    rw [c5, rfv_0]
    refine lv_astore_nN (lv' := [(3, .null), (0, .ref (ad G v0)), (1, .int v1), (2, .int v2)]) E.1 E.2.1 dX10_rota_8 rfl hl (by decide) rfl (fun ls hl => ?_)
    refine lv_aload_nN E.1 E.2.1 dX10_rota_9 rfl (lv_at hl 0 rfl) ?_
    refine lv_ifnullN (tgt := 32) E.1 E.2.1 dX10_rota_10 (by decide) ?_
    refine lv_iconst (v := (-1)) E.1 E.2.1 dX10_rota_32 rfl ?_
    have hf := Option.some.inj hf
    subst hf
    exact q_iret E w hr hlk dX10_rota_33
  have hf := q_neg c5 hf
  have t4 : sh r2 = 1 := (X7_houseAt_t (lay_10_0 t_v0) hc1).resolve_left c5
  rw [rfv_p G (by rw [t4]; decide)]
  refine lv_astore_n (lv' := [(3, .ref (ad G r2)), (0, .ref (ad G v0)), (1, .int v1), (2, .int v2)]) E.1 E.2.1 dX10_rota_8 rfl hl (by decide) rfl (fun ls hl => ?_)
  refine lv_aload_n E.1 E.2.1 dX10_rota_9 rfl (lv_at hl 0 rfl) ?_
  refine lv_ifnull E.1 E.2.1 dX10_rota_10 ?_
  refine lv_aload_n E.1 E.2.1 dX10_rota_13 rfl (lv_at hl 0 rfl) ?_
  refine lv_iload_n E.1 E.2.1 dX10_rota_14 rfl (lv_at hl 3 rfl) ?_
  obtain ⟨r7, hc6, hf⟩ := bd1_e hf
  refine k_Vi (As := [.int v2]) (rest := []) E w t4 ⟨by decide, rfl⟩ (X1_hasBar_c t4 hc6) mv_RX10_156 rfl rfl hl.1 ⟨Nat.le_of_ble_eq_true rfl, Nat.le_of_ble_eq_true rfl⟩ (Nat.le_of_ble_eq_true rfl) ⟨Nat.le_refl _, Nat.le_refl _⟩ dX10_rota_15 (fun H locs w => ?_)
  refine lv_if_eq (tgt := 32) E.1 E.2.1 dX10_rota_18 (by decide) (fun c9 => ?_) (fun c9 => ?_)
  · have hf := q_pos c9 hf
    refine lv_iconst (v := (-1)) E.1 E.2.1 dX10_rota_32 rfl ?_
    have hf := Option.some.inj hf
    subst hf
    exact q_iret E w hr hlk dX10_rota_33
  · have hf := q_neg c9 hf
    refine lv_aload_n E.1 E.2.1 dX10_rota_21 rfl (lv_at hl 1 rfl) ?_
    refine q_gs E w 170 t_v0 fl_RX10_34 dX10_rota_22 ?_
    refine lv_aload_n E.1 E.2.1 dX10_rota_25 rfl (lv_at hl 0 rfl) ?_
    obtain ⟨r11, h12, hc10, hf⟩ := bd2_e hf
    refine k_Vi (As := [.ref (ad G r2)]) (rest := []) E w (lay_10_4 t_v0) ⟨by decide, rfl⟩ (X5_finds_c (lay_10_4 t_v0) t4 hc10) mv_RX10_160 rfl rfl hl.1 ⟨Nat.le_of_ble_eq_true rfl, Nat.le_of_ble_eq_true rfl⟩ (Nat.le_of_ble_eq_true rfl) ⟨Nat.le_refl _, Nat.le_refl _⟩ dX10_rota_26 (fun H locs w => ?_)
    refine lv_if_ne (tgt := 34) E.1 E.2.1 dX10_rota_29 (by decide) (fun c13 => ?_) (fun c13 => ?_)
    · have hf := q_neg c13 hf
      refine lv_aload_n E.1 E.2.1 dX10_rota_34 rfl (lv_at hl 1 rfl) ?_
      refine q_gs E w 170 t_v0 fl_RX10_34 dX10_rota_35 ?_
      refine lv_iload_n E.1 E.2.1 dX10_rota_38 rfl (lv_at hl 3 rfl) ?_
      obtain ⟨r15, hc14, hf⟩ := bd1_e hf
      refine k_Vi (As := [.int v2]) (rest := []) E w (lay_10_4 t_v0) ⟨by decide, rfl⟩ (X5_singerOf_c (lay_10_4 t_v0) hc14) mv_RX10_164 rfl rfl hl.1 ⟨Nat.le_of_ble_eq_true rfl, Nat.le_of_ble_eq_true rfl⟩ (Nat.le_of_ble_eq_true rfl) ⟨Nat.le_refl _, Nat.le_refl _⟩ dX10_rota_39 (fun H locs w => ?_)
      have hf := Option.some.inj hf
      subst hf
      exact q_iret E w hr hlk dX10_rota_42
    · have hf := q_pos c13 hf
      refine lv_iconst (v := (-1)) E.1 E.2.1 dX10_rota_32 rfl ?_
      have hf := Option.some.inj hf
      subst hf
      exact q_iret E w hr hlk dX10_rota_33

def X10_few (N : Nat) (h : HS) (v0 : Nat) (v1 : Int32) (v2 : Int32) : Option (Int32 × HS) := bd1 (X7_houseAt N h (v0 + 1) v1) fun r2 => (if r2 = 0 then some ((-1), h) else bd2 (X5_fewest N h (v0 + 170) r2) fun r7 h8 => (if r7 = ((-1) : Int32) then some (r7, h8) else (if v2 = 0 then bd1 (J6_bitCount_0f7a4 N h8 r7) fun r12 => some (r12, h8) else some (r7, h8))))
set_option maxRecDepth 4000 in
set_option maxHeartbeats 2000000 in
theorem X10_few_c {l : Launch} {G : GT} {N : Nat} {h : HS} {v0 : Nat} {v1 : Int32} {v2 : Int32} {z : (Int32 × HS)} (t_v0 : sh v0 = 10) (hf : X10_few N h v0 v1 v2 = some z) : CT l G yX10_few cX10_few 5 (some .int) 27 583 [.ref (ad G v0), .int v1, .int v2] h (some (.int z.1)) z.2 := by
  unfold X10_few at hf
  refine CT.of (by decide) (Nat.le_of_ble_eq_true rfl) ?_
  intro p e s m below meth c ls E hr hlk w hl
  have hl : lv_has ls 5 [(0, .ref (ad G v0)), (1, .int v1), (2, .int v2)] := hl
  refine lv_aload_n E.1 E.2.1 dX10_few_0 rfl (lv_at hl 0 rfl) ?_
  refine q_gs E w 1 t_v0 fl_RX10_10 dX10_few_1 ?_
  refine lv_iload_n E.1 E.2.1 dX10_few_4 rfl (lv_at hl 1 rfl) ?_
  obtain ⟨r2, hc1, hf⟩ := bd1_e hf
  refine k_Vr (As := [.int v1]) (rest := []) E w (lay_10_0 t_v0) ⟨by decide, rfl⟩ (X7_houseAt_c (lay_10_0 t_v0) hc1) mv_RX10_113 rfl rfl hl.1 ⟨Nat.le_of_ble_eq_true rfl, Nat.le_of_ble_eq_true rfl⟩ (Nat.le_of_ble_eq_true rfl) ⟨Nat.le_refl _, Nat.le_refl _⟩ dX10_few_5 (fun H locs w => ?_)
  by_cases c5 : r2 = 0
  · have hf := q_pos c5 hf
    rw [c5, rfv_0]
    refine lv_astore_nN (lv' := [(3, .null), (0, .ref (ad G v0)), (1, .int v1), (2, .int v2)]) E.1 E.2.1 dX10_few_8 rfl hl (by decide) rfl (fun ls hl => ?_)
    refine lv_aload_nN E.1 E.2.1 dX10_few_9 rfl (lv_at hl 0 rfl) ?_
    refine lv_ifnonnullN E.1 E.2.1 dX10_few_10 ?_
    refine lv_iconst (v := (-1)) E.1 E.2.1 dX10_few_13 rfl ?_
    have hf := Option.some.inj hf
    subst hf
    exact q_iret E w hr hlk dX10_few_14
  have hf := q_neg c5 hf
  have t4 : sh r2 = 1 := (X7_houseAt_t (lay_10_0 t_v0) hc1).resolve_left c5
  rw [rfv_p G (by rw [t4]; decide)]
  refine lv_astore_n (lv' := [(3, .ref (ad G r2)), (0, .ref (ad G v0)), (1, .int v1), (2, .int v2)]) E.1 E.2.1 dX10_few_8 rfl hl (by decide) rfl (fun ls hl => ?_)
  refine lv_aload_n E.1 E.2.1 dX10_few_9 rfl (lv_at hl 0 rfl) ?_
  refine lv_ifnonnull (tgt := 15) E.1 E.2.1 dX10_few_10 (by decide) ?_
  refine lv_aload_n E.1 E.2.1 dX10_few_15 rfl (lv_at hl 1 rfl) ?_
  refine q_gs E w 170 t_v0 fl_RX10_34 dX10_few_16 ?_
  refine lv_aload_n E.1 E.2.1 dX10_few_19 rfl (lv_at hl 0 rfl) ?_
  obtain ⟨r7, h8, hc6, hf⟩ := bd2_e hf
  refine k_Vi (As := [.ref (ad G r2)]) (rest := []) E w (lay_10_4 t_v0) ⟨by decide, rfl⟩ (X5_fewest_c (lay_10_4 t_v0) t4 hc6) mv_RX10_167 rfl rfl hl.1 ⟨Nat.le_of_ble_eq_true rfl, Nat.le_of_ble_eq_true rfl⟩ (Nat.le_of_ble_eq_true rfl) ⟨Nat.le_refl _, Nat.le_refl _⟩ dX10_few_20 (fun H locs w => ?_)
  refine lv_istore (lv' := [(4, .int r7), (3, .ref (ad G r2)), (0, .ref (ad G v0)), (1, .int v1), (2, .int v2)]) E.1 E.2.1 dX10_few_23 hl (by decide) rfl (fun ls hl => ?_)
  refine lv_iload E.1 E.2.1 dX10_few_25 (lv_at hl 0 rfl) ?_
  refine lv_iconst (v := (-1)) E.1 E.2.1 dX10_few_27 rfl ?_
  refine lv_icmp_eq (tgt := 35) E.1 E.2.1 dX10_few_28 (by decide) (fun c9 => ?_) (fun c9 => ?_)
  · have hf := q_pos c9 hf
    refine lv_iload E.1 E.2.1 dX10_few_35 (lv_at hl 0 rfl) ?_
    refine lv_goto (tgt := 45) E.1 E.2.1 dX10_few_37 (by decide) ?_
    have hf := Option.some.inj hf
    subst hf
    exact q_iret E w hr hlk dX10_few_45
  · have hf := q_neg c9 hf
    refine lv_iload_n E.1 E.2.1 dX10_few_31 rfl (lv_at hl 4 rfl) ?_
    refine lv_if_eq (tgt := 40) E.1 E.2.1 dX10_few_32 (by decide) (fun c10 => ?_) (fun c10 => ?_)
    · have hf := q_pos c10 hf
      refine lv_iload E.1 E.2.1 dX10_few_40 (lv_at hl 0 rfl) ?_
      obtain ⟨r12, hc11, hf⟩ := bd1_e hf
      refine k_Si (As := [.int r7]) (rest := []) E w (J6_bitCount_0f7a4_c  hc11) ms_RX10_171 rfl rfl hl.1 ⟨Nat.le_of_ble_eq_true rfl, Nat.le_of_ble_eq_true rfl⟩ (Nat.le_of_ble_eq_true rfl) ⟨Nat.le_refl _, Nat.le_refl _⟩ dX10_few_42 (fun H locs w => ?_)
      have hf := Option.some.inj hf
      subst hf
      exact q_iret E w hr hlk dX10_few_45
    · have hf := q_neg c10 hf
      refine lv_iload E.1 E.2.1 dX10_few_35 (lv_at hl 0 rfl) ?_
      refine lv_goto (tgt := 45) E.1 E.2.1 dX10_few_37 (by decide) ?_
      have hf := Option.some.inj hf
      subst hf
      exact q_iret E w hr hlk dX10_few_45

def X10_far (N : Nat) (h : HS) (v0 : Nat) (v1 : Int32) (v2 : Int32) : Option (Int32 × HS) := bd1 (X7_houseAt N h (v0 + 1) v1) fun r2 => (if r2 = 0 then some ((-1), h) else (if v2 = 0 then bd2 (X5_farWith N h (v0 + 170) r2 0) fun r8 h9 => some (r8, h9) else bd1 (X1_mutes N h r2) fun r11 => some (r11, h)))
set_option maxRecDepth 4000 in
set_option maxHeartbeats 2000000 in
theorem X10_far_c {l : Launch} {G : GT} {N : Nat} {h : HS} {v0 : Nat} {v1 : Int32} {v2 : Int32} {z : (Int32 × HS)} (t_v0 : sh v0 = 10) (hf : X10_far N h v0 v1 v2 = some z) : CT l G yX10_far cX10_far 4 (some .int) 27 583 [.ref (ad G v0), .int v1, .int v2] h (some (.int z.1)) z.2 := by
  unfold X10_far at hf
  refine CT.of (by decide) (Nat.le_of_ble_eq_true rfl) ?_
  intro p e s m below meth c ls E hr hlk w hl
  have hl : lv_has ls 4 [(0, .ref (ad G v0)), (1, .int v1), (2, .int v2)] := hl
  refine lv_aload_n E.1 E.2.1 dX10_far_0 rfl (lv_at hl 0 rfl) ?_
  refine q_gs E w 1 t_v0 fl_RX10_10 dX10_far_1 ?_
  refine lv_iload_n E.1 E.2.1 dX10_far_4 rfl (lv_at hl 1 rfl) ?_
  obtain ⟨r2, hc1, hf⟩ := bd1_e hf
  refine k_Vr (As := [.int v1]) (rest := []) E w (lay_10_0 t_v0) ⟨by decide, rfl⟩ (X7_houseAt_c (lay_10_0 t_v0) hc1) mv_RX10_113 rfl rfl hl.1 ⟨Nat.le_of_ble_eq_true rfl, Nat.le_of_ble_eq_true rfl⟩ (Nat.le_of_ble_eq_true rfl) ⟨Nat.le_refl _, Nat.le_refl _⟩ dX10_far_5 (fun H locs w => ?_)
  by_cases c5 : r2 = 0
  · have hf := q_pos c5 hf
    rw [c5, rfv_0]
    refine lv_astore_nN (lv' := [(3, .null), (0, .ref (ad G v0)), (1, .int v1), (2, .int v2)]) E.1 E.2.1 dX10_far_8 rfl hl (by decide) rfl (fun ls hl => ?_)
    refine lv_aload_nN E.1 E.2.1 dX10_far_9 rfl (lv_at hl 0 rfl) ?_
    refine lv_ifnonnullN E.1 E.2.1 dX10_far_10 ?_
    refine lv_iconst (v := (-1)) E.1 E.2.1 dX10_far_13 rfl ?_
    have hf := Option.some.inj hf
    subst hf
    exact q_iret E w hr hlk dX10_far_14
  have hf := q_neg c5 hf
  have t4 : sh r2 = 1 := (X7_houseAt_t (lay_10_0 t_v0) hc1).resolve_left c5
  rw [rfv_p G (by rw [t4]; decide)]
  refine lv_astore_n (lv' := [(3, .ref (ad G r2)), (0, .ref (ad G v0)), (1, .int v1), (2, .int v2)]) E.1 E.2.1 dX10_far_8 rfl hl (by decide) rfl (fun ls hl => ?_)
  refine lv_aload_n E.1 E.2.1 dX10_far_9 rfl (lv_at hl 0 rfl) ?_
  refine lv_ifnonnull (tgt := 15) E.1 E.2.1 dX10_far_10 (by decide) ?_
  refine lv_iload_n E.1 E.2.1 dX10_far_15 rfl (lv_at hl 3 rfl) ?_
  refine lv_if_eq (tgt := 26) E.1 E.2.1 dX10_far_16 (by decide) (fun c6 => ?_) (fun c6 => ?_)
  · have hf := q_pos c6 hf
    refine lv_aload_n E.1 E.2.1 dX10_far_26 rfl (lv_at hl 1 rfl) ?_
    refine q_gs E w 170 t_v0 fl_RX10_34 dX10_far_27 ?_
    refine lv_aload_n E.1 E.2.1 dX10_far_30 rfl (lv_at hl 0 rfl) ?_
    refine lv_iconst (v := 0) E.1 E.2.1 dX10_far_31 rfl ?_
    obtain ⟨r8, h9, hc7, hf⟩ := bd2_e hf
    refine k_Vi (As := [.ref (ad G r2), .int 0]) (rest := []) E w (lay_10_4 t_v0) ⟨by decide, rfl⟩ (X5_farWith_c (lay_10_4 t_v0) t4 hc7) mv_RX10_180 rfl rfl hl.1 ⟨Nat.le_of_ble_eq_true rfl, Nat.le_of_ble_eq_true rfl⟩ (Nat.le_of_ble_eq_true rfl) ⟨Nat.le_refl _, Nat.le_refl _⟩ dX10_far_32 (fun H locs w => ?_)
    have hf := Option.some.inj hf
    subst hf
    exact q_iret E w hr hlk dX10_far_35
  · have hf := q_neg c6 hf
    refine lv_aload_n E.1 E.2.1 dX10_far_19 rfl (lv_at hl 0 rfl) ?_
    obtain ⟨r11, hc10, hf⟩ := bd1_e hf
    refine k_Vi (As := []) (rest := []) E w t4 ⟨by decide, rfl⟩ (X1_mutes_c t4 hc10) mv_RX10_176 rfl rfl hl.1 ⟨Nat.le_of_ble_eq_true rfl, Nat.le_of_ble_eq_true rfl⟩ (Nat.le_of_ble_eq_true rfl) ⟨Nat.le_refl _, Nat.le_refl _⟩ dX10_far_20 (fun H locs w => ?_)
    refine lv_goto (tgt := 35) E.1 E.2.1 dX10_far_23 (by decide) ?_
    have hf := Option.some.inj hf
    subst hf
    exact q_iret E w hr hlk dX10_far_35

def X10_wakes (N : Nat) (h : HS) (v0 : Nat) (v1 : Int32) (v2 : Int32) : Option (Int64 × HS) := bd1 (X7_houseAt N h (v0 + 1) v1) fun r2 => (if r2 = 0 then some ((-1), h) else bd1 (X0_enter N h (v0 + 197) r2) fun h8 => bd1 (X0_mean N h8 (v0 + 197)) fun r10 => bd1 (X0_part N h8 r10 v2) fun r13 => some (r13, h8))
set_option maxRecDepth 4000 in
set_option maxHeartbeats 2000000 in
theorem X10_wakes_c {l : Launch} {G : GT} {N : Nat} {h : HS} {v0 : Nat} {v1 : Int32} {v2 : Int32} {z : (Int64 × HS)} (t_v0 : sh v0 = 10) (hf : X10_wakes N h v0 v1 v2 = some z) : CT l G yX10_wakes cX10_wakes 4 (some .long) 4 90 [.ref (ad G v0), .int v1, .int v2] h (some (.long z.1)) z.2 := by
  unfold X10_wakes at hf
  refine CT.of (by decide) (Nat.le_of_ble_eq_true rfl) ?_
  intro p e s m below meth c ls E hr hlk w hl
  have hl : lv_has ls 4 [(0, .ref (ad G v0)), (1, .int v1), (2, .int v2)] := hl
  refine lv_aload_n E.1 E.2.1 dX10_wakes_0 rfl (lv_at hl 0 rfl) ?_
  refine q_gs E w 1 t_v0 fl_RX10_10 dX10_wakes_1 ?_
  refine lv_iload_n E.1 E.2.1 dX10_wakes_4 rfl (lv_at hl 1 rfl) ?_
  obtain ⟨r2, hc1, hf⟩ := bd1_e hf
  refine k_Vr (As := [.int v1]) (rest := []) E w (lay_10_0 t_v0) ⟨by decide, rfl⟩ (X7_houseAt_c (lay_10_0 t_v0) hc1) mv_RX10_113 rfl rfl hl.1 ⟨Nat.le_of_ble_eq_true rfl, Nat.le_of_ble_eq_true rfl⟩ (Nat.le_of_ble_eq_true rfl) ⟨Nat.le_refl _, Nat.le_refl _⟩ dX10_wakes_5 (fun H locs w => ?_)
  by_cases c5 : r2 = 0
  · have hf := q_pos c5 hf
    rw [c5, rfv_0]
    refine lv_astore_nN (lv' := [(3, .null), (0, .ref (ad G v0)), (1, .int v1), (2, .int v2)]) E.1 E.2.1 dX10_wakes_8 rfl hl (by decide) rfl (fun ls hl => ?_)
    refine lv_aload_nN E.1 E.2.1 dX10_wakes_9 rfl (lv_at hl 0 rfl) ?_
    refine lv_ifnonnullN E.1 E.2.1 dX10_wakes_10 ?_
    refine lv_ldc2 (v := (-1)) E.1 E.2.1 E.2.2.2.1 (E.2.2.2.2 _ ct_RX10_184) dX10_wakes_13 ?_
    have hf := Option.some.inj hf
    subst hf
    exact q_lret E w hr hlk dX10_wakes_16
  have hf := q_neg c5 hf
  have t4 : sh r2 = 1 := (X7_houseAt_t (lay_10_0 t_v0) hc1).resolve_left c5
  rw [rfv_p G (by rw [t4]; decide)]
  refine lv_astore_n (lv' := [(3, .ref (ad G r2)), (0, .ref (ad G v0)), (1, .int v1), (2, .int v2)]) E.1 E.2.1 dX10_wakes_8 rfl hl (by decide) rfl (fun ls hl => ?_)
  refine lv_aload_n E.1 E.2.1 dX10_wakes_9 rfl (lv_at hl 0 rfl) ?_
  refine lv_ifnonnull (tgt := 17) E.1 E.2.1 dX10_wakes_10 (by decide) ?_
  refine lv_aload_n E.1 E.2.1 dX10_wakes_17 rfl (lv_at hl 1 rfl) ?_
  refine q_gs E w 197 t_v0 fl_RX10_48 dX10_wakes_18 ?_
  refine lv_aload_n E.1 E.2.1 dX10_wakes_21 rfl (lv_at hl 0 rfl) ?_
  obtain ⟨h8, hc6, hf⟩ := bd1_e hf
  refine k_Vv (As := [.ref (ad G r2)]) (rest := []) E w (lay_10_6 t_v0) ⟨by decide, rfl⟩ (X0_enter_c (lay_10_6 t_v0) t4 hc6) mv_RX10_186 rfl rfl hl.1 ⟨Nat.le_of_ble_eq_true rfl, Nat.le_of_ble_eq_true rfl⟩ (Nat.le_of_ble_eq_true rfl) ⟨Nat.le_refl _, Nat.le_refl _⟩ dX10_wakes_22 (fun H locs w => ?_)
  refine lv_aload_n E.1 E.2.1 dX10_wakes_25 rfl (lv_at hl 1 rfl) ?_
  refine q_gs E w 197 t_v0 fl_RX10_48 dX10_wakes_26 ?_
  obtain ⟨r10, hc9, hf⟩ := bd1_e hf
  refine k_Vl (As := []) (rest := []) E w (lay_10_6 t_v0) ⟨by decide, rfl⟩ (X0_mean_c (lay_10_6 t_v0) hc9) mv_RX10_190 rfl rfl hl.1 ⟨Nat.le_of_ble_eq_true rfl, Nat.le_of_ble_eq_true rfl⟩ (Nat.le_of_ble_eq_true rfl) ⟨Nat.le_refl _, Nat.le_refl _⟩ dX10_wakes_29 (fun H locs w => ?_)
  refine lv_iload_n E.1 E.2.1 dX10_wakes_32 rfl (lv_at hl 3 rfl) ?_
  obtain ⟨r13, hc12, hf⟩ := bd1_e hf
  refine k_Sl (As := [.long r10, .int v2]) (rest := []) E w (X0_part_c  hc12) ms_RX10_194 rfl rfl hl.1 ⟨Nat.le_of_ble_eq_true rfl, Nat.le_of_ble_eq_true rfl⟩ (Nat.le_of_ble_eq_true rfl) ⟨Nat.le_refl _, Nat.le_refl _⟩ dX10_wakes_33 (fun H locs w => ?_)
  have hf := Option.some.inj hf
  subst hf
  exact q_lret E w hr hlk dX10_wakes_36

def X10_change (N : Nat) (h : HS) (v0 : Nat) (v1 : Int32) : Option (Int32 × HS) := bd1 (X7_houseAt N h (v0 + 1) v1) fun r2 => (if r2 = 0 then some ((-1), h) else bd1 (X0_enter N h (v0 + 197) r2) fun h8 => bd2 (X0_bestSwap N h8 (v0 + 197)) fun r10 h11 => some (r10, h11))
set_option maxRecDepth 4000 in
set_option maxHeartbeats 2000000 in
theorem X10_change_c {l : Launch} {G : GT} {N : Nat} {h : HS} {v0 : Nat} {v1 : Int32} {z : (Int32 × HS)} (t_v0 : sh v0 = 10) (hf : X10_change N h v0 v1 = some z) : CT l G yX10_change cX10_change 3 (some .int) 5 117 [.ref (ad G v0), .int v1] h (some (.int z.1)) z.2 := by
  unfold X10_change at hf
  refine CT.of (by decide) (Nat.le_of_ble_eq_true rfl) ?_
  intro p e s m below meth c ls E hr hlk w hl
  have hl : lv_has ls 3 [(0, .ref (ad G v0)), (1, .int v1)] := hl
  refine lv_aload_n E.1 E.2.1 dX10_change_0 rfl (lv_at hl 0 rfl) ?_
  refine q_gs E w 1 t_v0 fl_RX10_10 dX10_change_1 ?_
  refine lv_iload_n E.1 E.2.1 dX10_change_4 rfl (lv_at hl 1 rfl) ?_
  obtain ⟨r2, hc1, hf⟩ := bd1_e hf
  refine k_Vr (As := [.int v1]) (rest := []) E w (lay_10_0 t_v0) ⟨by decide, rfl⟩ (X7_houseAt_c (lay_10_0 t_v0) hc1) mv_RX10_113 rfl rfl hl.1 ⟨Nat.le_of_ble_eq_true rfl, Nat.le_of_ble_eq_true rfl⟩ (Nat.le_of_ble_eq_true rfl) ⟨Nat.le_refl _, Nat.le_refl _⟩ dX10_change_5 (fun H locs w => ?_)
  by_cases c5 : r2 = 0
  · have hf := q_pos c5 hf
    rw [c5, rfv_0]
    refine lv_astore_nN (lv' := [(2, .null), (0, .ref (ad G v0)), (1, .int v1)]) E.1 E.2.1 dX10_change_8 rfl hl (by decide) rfl (fun ls hl => ?_)
    refine lv_aload_nN E.1 E.2.1 dX10_change_9 rfl (lv_at hl 0 rfl) ?_
    refine lv_ifnonnullN E.1 E.2.1 dX10_change_10 ?_
    refine lv_iconst (v := (-1)) E.1 E.2.1 dX10_change_13 rfl ?_
    have hf := Option.some.inj hf
    subst hf
    exact q_iret E w hr hlk dX10_change_14
  have hf := q_neg c5 hf
  have t4 : sh r2 = 1 := (X7_houseAt_t (lay_10_0 t_v0) hc1).resolve_left c5
  rw [rfv_p G (by rw [t4]; decide)]
  refine lv_astore_n (lv' := [(2, .ref (ad G r2)), (0, .ref (ad G v0)), (1, .int v1)]) E.1 E.2.1 dX10_change_8 rfl hl (by decide) rfl (fun ls hl => ?_)
  refine lv_aload_n E.1 E.2.1 dX10_change_9 rfl (lv_at hl 0 rfl) ?_
  refine lv_ifnonnull (tgt := 15) E.1 E.2.1 dX10_change_10 (by decide) ?_
  refine lv_aload_n E.1 E.2.1 dX10_change_15 rfl (lv_at hl 1 rfl) ?_
  refine q_gs E w 197 t_v0 fl_RX10_48 dX10_change_16 ?_
  refine lv_aload_n E.1 E.2.1 dX10_change_19 rfl (lv_at hl 0 rfl) ?_
  obtain ⟨h8, hc6, hf⟩ := bd1_e hf
  refine k_Vv (As := [.ref (ad G r2)]) (rest := []) E w (lay_10_6 t_v0) ⟨by decide, rfl⟩ (X0_enter_c (lay_10_6 t_v0) t4 hc6) mv_RX10_186 rfl rfl hl.1 ⟨Nat.le_of_ble_eq_true rfl, Nat.le_of_ble_eq_true rfl⟩ (Nat.le_of_ble_eq_true rfl) ⟨Nat.le_refl _, Nat.le_refl _⟩ dX10_change_20 (fun H locs w => ?_)
  refine lv_aload_n E.1 E.2.1 dX10_change_23 rfl (lv_at hl 1 rfl) ?_
  refine q_gs E w 197 t_v0 fl_RX10_48 dX10_change_24 ?_
  obtain ⟨r10, h11, hc9, hf⟩ := bd2_e hf
  refine k_Vi (As := []) (rest := []) E w (lay_10_6 t_v0) ⟨by decide, rfl⟩ (X0_bestSwap_c (lay_10_6 t_v0) hc9) mv_RX10_198 rfl rfl hl.1 ⟨Nat.le_of_ble_eq_true rfl, Nat.le_of_ble_eq_true rfl⟩ (Nat.le_of_ble_eq_true rfl) ⟨Nat.le_refl _, Nat.le_refl _⟩ dX10_change_27 (fun H locs w => ?_)
  have hf := Option.some.inj hf
  subst hf
  exact q_iret E w hr hlk dX10_change_30

def X10_tussle (N : Nat) (h : HS) (v0 : Nat) (v1 : Int32) (v2 : Int32) (v3 : Int32) : Option (Int32 × HS) := bd1 (X7_houseAt N h (v0 + 1) v1) fun r2 => (if r2 = 0 then some ((-999), h) else (if v2 < 0 then some ((-999), h) else (if v2 ≤ (4 : Int32) then bd1 (X9_play N h (v0 + 209) r2 v2) fun h10 => (if v3 = 0 then some (h10.1 (v0 + 209) 4, h10) else some (h10.1 (v0 + 209) 5, h10)) else some ((-999), h))))
set_option maxRecDepth 4000 in
set_option maxHeartbeats 2000000 in
theorem X10_tussle_c {l : Launch} {G : GT} {N : Nat} {h : HS} {v0 : Nat} {v1 : Int32} {v2 : Int32} {v3 : Int32} {z : (Int32 × HS)} (t_v0 : sh v0 = 10) (hf : X10_tussle N h v0 v1 v2 v3 = some z) : CT l G yX10_tussle cX10_tussle 5 (some .int) 26 563 [.ref (ad G v0), .int v1, .int v2, .int v3] h (some (.int z.1)) z.2 := by
  unfold X10_tussle at hf
  refine CT.of (by decide) (Nat.le_of_ble_eq_true rfl) ?_
  intro p e s m below meth c ls E hr hlk w hl
  have hl : lv_has ls 5 [(0, .ref (ad G v0)), (1, .int v1), (2, .int v2), (3, .int v3)] := hl
  refine lv_aload_n E.1 E.2.1 dX10_tussle_0 rfl (lv_at hl 0 rfl) ?_
  refine q_gs E w 1 t_v0 fl_RX10_10 dX10_tussle_1 ?_
  refine lv_iload_n E.1 E.2.1 dX10_tussle_4 rfl (lv_at hl 1 rfl) ?_
  obtain ⟨r2, hc1, hf⟩ := bd1_e hf
  refine k_Vr (As := [.int v1]) (rest := []) E w (lay_10_0 t_v0) ⟨by decide, rfl⟩ (X7_houseAt_c (lay_10_0 t_v0) hc1) mv_RX10_113 rfl rfl hl.1 ⟨Nat.le_of_ble_eq_true rfl, Nat.le_of_ble_eq_true rfl⟩ (Nat.le_of_ble_eq_true rfl) ⟨Nat.le_refl _, Nat.le_refl _⟩ dX10_tussle_5 (fun H locs w => ?_)
  by_cases c5 : r2 = 0
  · have hf := q_pos c5 hf
    rw [c5, rfv_0]
    refine lv_astoreN (lv' := [(4, .null), (0, .ref (ad G v0)), (1, .int v1), (2, .int v2), (3, .int v3)]) E.1 E.2.1 dX10_tussle_8 hl (by decide) rfl (fun ls hl => ?_)
    refine lv_aloadN E.1 E.2.1 dX10_tussle_10 (lv_at hl 0 rfl) ?_
    refine lv_ifnullN (tgt := 24) E.1 E.2.1 dX10_tussle_12 (by decide) ?_
    refine lv_sipush (v := (-999)) E.1 E.2.1 dX10_tussle_24 rfl ?_
    have hf := Option.some.inj hf
    subst hf
    exact q_iret E w hr hlk dX10_tussle_27
  have hf := q_neg c5 hf
  have t4 : sh r2 = 1 := (X7_houseAt_t (lay_10_0 t_v0) hc1).resolve_left c5
  rw [rfv_p G (by rw [t4]; decide)]
  refine lv_astore (lv' := [(4, .ref (ad G r2)), (0, .ref (ad G v0)), (1, .int v1), (2, .int v2), (3, .int v3)]) E.1 E.2.1 dX10_tussle_8 hl (by decide) rfl (fun ls hl => ?_)
  refine lv_aload E.1 E.2.1 dX10_tussle_10 (lv_at hl 0 rfl) ?_
  refine lv_ifnull E.1 E.2.1 dX10_tussle_12 ?_
  refine lv_iload_n E.1 E.2.1 dX10_tussle_15 rfl (lv_at hl 3 rfl) ?_
  refine lv_if_lt (tgt := 24) E.1 E.2.1 dX10_tussle_16 (by decide) (fun c6 => ?_) (fun c6 => ?_)
  · have hf := q_pos c6 hf
    refine lv_sipush (v := (-999)) E.1 E.2.1 dX10_tussle_24 rfl ?_
    have hf := Option.some.inj hf
    subst hf
    exact q_iret E w hr hlk dX10_tussle_27
  · have hf := q_neg c6 hf
    refine lv_iload_n E.1 E.2.1 dX10_tussle_19 rfl (lv_at hl 3 rfl) ?_
    refine lv_iconst (v := 4) E.1 E.2.1 dX10_tussle_20 rfl ?_
    refine lv_icmp_le (tgt := 28) E.1 E.2.1 dX10_tussle_21 (by decide) (fun c7 => ?_) (fun c7 => ?_)
    · have hf := q_pos c7 hf
      refine lv_aload_n E.1 E.2.1 dX10_tussle_28 rfl (lv_at hl 1 rfl) ?_
      refine q_gs E w 209 t_v0 fl_RX10_55 dX10_tussle_29 ?_
      refine lv_aload E.1 E.2.1 dX10_tussle_32 (lv_at hl 0 rfl) ?_
      refine lv_iload_n E.1 E.2.1 dX10_tussle_34 rfl (lv_at hl 3 rfl) ?_
      obtain ⟨h10, hc8, hf⟩ := bd1_e hf
      refine k_Vv (As := [.ref (ad G r2), .int v2]) (rest := []) E w (lay_10_7 t_v0) ⟨by decide, rfl⟩ (X9_play_c (lay_10_7 t_v0) t4 hc8) mv_RX10_201 rfl rfl hl.1 ⟨Nat.le_of_ble_eq_true rfl, Nat.le_of_ble_eq_true rfl⟩ (Nat.le_of_ble_eq_true rfl) ⟨Nat.le_refl _, Nat.le_refl _⟩ dX10_tussle_35 (fun H locs w => ?_)
      refine lv_iload_n E.1 E.2.1 dX10_tussle_38 rfl (lv_at hl 4 rfl) ?_
      refine lv_if_eq (tgt := 52) E.1 E.2.1 dX10_tussle_39 (by decide) (fun c11 => ?_) (fun c11 => ?_)
      · have hf := q_pos c11 hf
        refine lv_aload_n E.1 E.2.1 dX10_tussle_52 rfl (lv_at hl 1 rfl) ?_
        refine q_gs E w 209 t_v0 fl_RX10_55 dX10_tussle_53 ?_
        refine q_gi E w (lay_10_7 t_v0) fl_RX10_207 dX10_tussle_56 ?_
        have hf := Option.some.inj hf
        subst hf
        exact q_iret E w hr hlk dX10_tussle_59
      · have hf := q_neg c11 hf
        refine lv_aload_n E.1 E.2.1 dX10_tussle_42 rfl (lv_at hl 1 rfl) ?_
        refine q_gs E w 209 t_v0 fl_RX10_55 dX10_tussle_43 ?_
        refine q_gi E w (lay_10_7 t_v0) fl_RX10_204 dX10_tussle_46 ?_
        refine lv_goto (tgt := 59) E.1 E.2.1 dX10_tussle_49 (by decide) ?_
        have hf := Option.some.inj hf
        subst hf
        exact q_iret E w hr hlk dX10_tussle_59
    · have hf := q_neg c7 hf
      refine lv_sipush (v := (-999)) E.1 E.2.1 dX10_tussle_24 rfl ?_
      have hf := Option.some.inj hf
      subst hf
      exact q_iret E w hr hlk dX10_tussle_27

def X10_tunes (N : Nat) (h : HS) (v0 : Nat) (v1 : Int32) (v2 : Int32) : Option (Int32 × HS) := bd1 (X7_houseAt N h (v0 + 1) v1) fun r2 => (if r2 = 0 then some ((-2), h) else bd1 (X8_enter N h (v0 + 220) r2) fun h8 => (if v2 = 0 then bd2 (X8_rows N h8 (v0 + 220)) fun r24 h25 => some (r24, h25) else (if v2 < (10 : Int32) then some ((-2), h8) else (if v2 < (30 : Int32) then bd1 (J6_bitCount_0f7a4 N h8 (h8.1 r2 4)) fun r13 => (if (v2 - v2 / 10 * 10) < r13 then (if (20 : Int32) ≤ v2 then bd2 (X8_sureOf N h8 (v0 + 220) (v2 - v2 / 10 * 10)) fun r18 h19 => some (r18, h19) else bd2 (X8_leastOf N h8 (v0 + 220) (v2 - v2 / 10 * 10)) fun r21 h22 => some (r21, h22)) else some ((-2), h8)) else some ((-2), h8)))))
set_option maxRecDepth 4000 in
set_option maxHeartbeats 2000000 in
theorem X10_tunes_c {l : Launch} {G : GT} {N : Nat} {h : HS} {v0 : Nat} {v1 : Int32} {v2 : Int32} {z : (Int32 × HS)} (t_v0 : sh v0 = 10) (hf : X10_tunes N h v0 v1 v2 = some z) : CT l G yX10_tunes cX10_tunes 5 (some .int) 6 142 [.ref (ad G v0), .int v1, .int v2] h (some (.int z.1)) z.2 := by
  unfold X10_tunes at hf
  refine CT.of (by decide) (Nat.le_of_ble_eq_true rfl) ?_
  intro p e s m below meth c ls E hr hlk w hl
  have hl : lv_has ls 5 [(0, .ref (ad G v0)), (1, .int v1), (2, .int v2)] := hl
  refine lv_aload_n E.1 E.2.1 dX10_tunes_0 rfl (lv_at hl 0 rfl) ?_
  refine q_gs E w 1 t_v0 fl_RX10_10 dX10_tunes_1 ?_
  refine lv_iload_n E.1 E.2.1 dX10_tunes_4 rfl (lv_at hl 1 rfl) ?_
  obtain ⟨r2, hc1, hf⟩ := bd1_e hf
  refine k_Vr (As := [.int v1]) (rest := []) E w (lay_10_0 t_v0) ⟨by decide, rfl⟩ (X7_houseAt_c (lay_10_0 t_v0) hc1) mv_RX10_113 rfl rfl hl.1 ⟨Nat.le_of_ble_eq_true rfl, Nat.le_of_ble_eq_true rfl⟩ (Nat.le_of_ble_eq_true rfl) ⟨Nat.le_refl _, Nat.le_refl _⟩ dX10_tunes_5 (fun H locs w => ?_)
  by_cases c5 : r2 = 0
  · have hf := q_pos c5 hf
    rw [c5, rfv_0]
    refine lv_astore_nN (lv' := [(3, .null), (0, .ref (ad G v0)), (1, .int v1), (2, .int v2)]) E.1 E.2.1 dX10_tunes_8 rfl hl (by decide) rfl (fun ls hl => ?_)
    refine lv_aload_nN E.1 E.2.1 dX10_tunes_9 rfl (lv_at hl 0 rfl) ?_
    refine lv_ifnonnullN E.1 E.2.1 dX10_tunes_10 ?_
    refine lv_bipush (v := (-2)) E.1 E.2.1 dX10_tunes_13 rfl ?_
    have hf := Option.some.inj hf
    subst hf
    exact q_iret E w hr hlk dX10_tunes_15
  have hf := q_neg c5 hf
  have t4 : sh r2 = 1 := (X7_houseAt_t (lay_10_0 t_v0) hc1).resolve_left c5
  rw [rfv_p G (by rw [t4]; decide)]
  refine lv_astore_n (lv' := [(3, .ref (ad G r2)), (0, .ref (ad G v0)), (1, .int v1), (2, .int v2)]) E.1 E.2.1 dX10_tunes_8 rfl hl (by decide) rfl (fun ls hl => ?_)
  refine lv_aload_n E.1 E.2.1 dX10_tunes_9 rfl (lv_at hl 0 rfl) ?_
  refine lv_ifnonnull (tgt := 16) E.1 E.2.1 dX10_tunes_10 (by decide) ?_
  refine lv_aload_n E.1 E.2.1 dX10_tunes_16 rfl (lv_at hl 1 rfl) ?_
  refine q_gs E w 220 t_v0 fl_RX10_62 dX10_tunes_17 ?_
  refine lv_aload_n E.1 E.2.1 dX10_tunes_20 rfl (lv_at hl 0 rfl) ?_
  obtain ⟨h8, hc6, hf⟩ := bd1_e hf
  refine k_Vv (As := [.ref (ad G r2)]) (rest := []) E w (lay_10_8 t_v0) ⟨by decide, rfl⟩ (X8_enter_c (lay_10_8 t_v0) t4 hc6) mv_RX10_210 rfl rfl hl.1 ⟨Nat.le_of_ble_eq_true rfl, Nat.le_of_ble_eq_true rfl⟩ (Nat.le_of_ble_eq_true rfl) ⟨Nat.le_refl _, Nat.le_refl _⟩ dX10_tunes_21 (fun H locs w => ?_)
  refine lv_iload_n E.1 E.2.1 dX10_tunes_24 rfl (lv_at hl 3 rfl) ?_
  refine lv_if_ne (tgt := 36) E.1 E.2.1 dX10_tunes_25 (by decide) (fun c9 => ?_) (fun c9 => ?_)
  · have hf := q_neg c9 hf
    refine lv_iload_n E.1 E.2.1 dX10_tunes_36 rfl (lv_at hl 3 rfl) ?_
    refine lv_bipush (v := 10) E.1 E.2.1 dX10_tunes_37 rfl ?_
    refine lv_icmp_lt (tgt := 48) E.1 E.2.1 dX10_tunes_39 (by decide) (fun c10 => ?_) (fun c10 => ?_)
    · have hf := q_pos c10 hf
      refine lv_bipush (v := (-2)) E.1 E.2.1 dX10_tunes_48 rfl ?_
      have hf := Option.some.inj hf
      subst hf
      exact q_iret E w hr hlk dX10_tunes_50
    · have hf := q_neg c10 hf
      refine lv_iload_n E.1 E.2.1 dX10_tunes_42 rfl (lv_at hl 3 rfl) ?_
      refine lv_bipush (v := 30) E.1 E.2.1 dX10_tunes_43 rfl ?_
      refine lv_icmp_lt (tgt := 51) E.1 E.2.1 dX10_tunes_45 (by decide) (fun c11 => ?_) (fun c11 => ?_)
      · have hf := q_pos c11 hf
        refine lv_iload_n E.1 E.2.1 dX10_tunes_51 rfl (lv_at hl 3 rfl) ?_
        refine lv_bipush (v := 10) E.1 E.2.1 dX10_tunes_52 rfl ?_
        refine lv_irem E.1 E.2.1 dX10_tunes_54 (by decide) ?_
        refine lv_istore (lv' := [(4, .int (v2 - v2 / 10 * 10)), (3, .ref (ad G r2)), (0, .ref (ad G v0)), (1, .int v1), (2, .int v2)]) E.1 E.2.1 dX10_tunes_55 hl (by decide) rfl (fun ls hl => ?_)
        refine lv_iload E.1 E.2.1 dX10_tunes_57 (lv_at hl 0 rfl) ?_
        refine lv_aload_n E.1 E.2.1 dX10_tunes_59 rfl (lv_at hl 1 rfl) ?_
        refine q_gi E w t4 fl_RX10_131 dX10_tunes_60 ?_
        obtain ⟨r13, hc12, hf⟩ := bd1_e hf
        refine k_Si (As := [.int (h8.1 r2 4)]) (rest := [.int (v2 - v2 / 10 * 10)]) E w (J6_bitCount_0f7a4_c  hc12) ms_RX10_171 rfl rfl hl.1 ⟨Nat.le_of_ble_eq_true rfl, Nat.le_of_ble_eq_true rfl⟩ (Nat.le_of_ble_eq_true rfl) ⟨Nat.le_refl _, Nat.le_refl _⟩ dX10_tunes_63 (fun H locs w => ?_)
        refine lv_icmp_lt (tgt := 72) E.1 E.2.1 dX10_tunes_66 (by decide) (fun c15 => ?_) (fun c15 => ?_)
        · have hf := q_pos c15 hf
          refine lv_iload_n E.1 E.2.1 dX10_tunes_72 rfl (lv_at hl 4 rfl) ?_
          refine lv_bipush (v := 20) E.1 E.2.1 dX10_tunes_73 rfl ?_
          refine lv_icmp_ge (tgt := 90) E.1 E.2.1 dX10_tunes_75 (by decide) (fun c16 => ?_) (fun c16 => ?_)
          · have hf := q_pos c16 hf
            refine lv_aload_n E.1 E.2.1 dX10_tunes_90 rfl (lv_at hl 2 rfl) ?_
            refine q_gs E w 220 t_v0 fl_RX10_62 dX10_tunes_91 ?_
            refine lv_iload E.1 E.2.1 dX10_tunes_94 (lv_at hl 0 rfl) ?_
            obtain ⟨r18, h19, hc17, hf⟩ := bd2_e hf
            refine k_Vi (As := [.int (v2 - v2 / 10 * 10)]) (rest := []) E w (lay_10_8 t_v0) ⟨by decide, rfl⟩ (X8_sureOf_c (lay_10_8 t_v0) hc17) mv_RX10_216 rfl rfl hl.1 ⟨Nat.le_of_ble_eq_true rfl, Nat.le_of_ble_eq_true rfl⟩ (Nat.le_of_ble_eq_true rfl) ⟨Nat.le_refl _, Nat.le_refl _⟩ dX10_tunes_96 (fun H locs w => ?_)
            have hf := Option.some.inj hf
            subst hf
            exact q_iret E w hr hlk dX10_tunes_99
          · have hf := q_neg c16 hf
            refine lv_aload_n E.1 E.2.1 dX10_tunes_78 rfl (lv_at hl 2 rfl) ?_
            refine q_gs E w 220 t_v0 fl_RX10_62 dX10_tunes_79 ?_
            refine lv_iload E.1 E.2.1 dX10_tunes_82 (lv_at hl 0 rfl) ?_
            obtain ⟨r21, h22, hc20, hf⟩ := bd2_e hf
            refine k_Vi (As := [.int (v2 - v2 / 10 * 10)]) (rest := []) E w (lay_10_8 t_v0) ⟨by decide, rfl⟩ (X8_leastOf_c (lay_10_8 t_v0) hc20) mv_RX10_213 rfl rfl hl.1 ⟨Nat.le_of_ble_eq_true rfl, Nat.le_of_ble_eq_true rfl⟩ (Nat.le_of_ble_eq_true rfl) ⟨Nat.le_refl _, Nat.le_refl _⟩ dX10_tunes_84 (fun H locs w => ?_)
            refine lv_goto (tgt := 99) E.1 E.2.1 dX10_tunes_87 (by decide) ?_
            have hf := Option.some.inj hf
            subst hf
            exact q_iret E w hr hlk dX10_tunes_99
        · have hf := q_neg c15 hf
          refine lv_bipush (v := (-2)) E.1 E.2.1 dX10_tunes_69 rfl ?_
          have hf := Option.some.inj hf
          subst hf
          exact q_iret E w hr hlk dX10_tunes_71
      · have hf := q_neg c11 hf
        refine lv_bipush (v := (-2)) E.1 E.2.1 dX10_tunes_48 rfl ?_
        have hf := Option.some.inj hf
        subst hf
        exact q_iret E w hr hlk dX10_tunes_50
  · have hf := q_pos c9 hf
    refine lv_aload_n E.1 E.2.1 dX10_tunes_28 rfl (lv_at hl 1 rfl) ?_
    refine q_gs E w 220 t_v0 fl_RX10_62 dX10_tunes_29 ?_
    obtain ⟨r24, h25, hc23, hf⟩ := bd2_e hf
    refine k_Vi (As := []) (rest := []) E w (lay_10_8 t_v0) ⟨by decide, rfl⟩ (X8_rows_c (lay_10_8 t_v0) hc23) mv_RX10_211 rfl rfl hl.1 ⟨Nat.le_of_ble_eq_true rfl, Nat.le_of_ble_eq_true rfl⟩ (Nat.le_of_ble_eq_true rfl) ⟨Nat.le_refl _, Nat.le_refl _⟩ dX10_tunes_32 (fun H locs w => ?_)
    have hf := Option.some.inj hf
    subst hf
    exact q_iret E w hr hlk dX10_tunes_35

def X10_fact (N : Nat) (h : HS) (v0 : Nat) (v1 : Int32) (v2 : Int32) (v3 : Int32) : Option Int32 := bd1 (X7_morningsAt N h (v0 + 1) v1) fun r2 => (if r2 = 0 then bd1 (X10_rowOf N h 0 v2 v3) fun r7 => some r7 else bd1 (X10_rowOf N h r2 v2 v3) fun r10 => some r10)
set_option maxRecDepth 4000 in
set_option maxHeartbeats 2000000 in
theorem X10_fact_c {l : Launch} {G : GT} {N : Nat} {h : HS} {v0 : Nat} {v1 : Int32} {v2 : Int32} {v3 : Int32} {z : Int32} (t_v0 : sh v0 = 10) (hf : X10_fact N h v0 v1 v2 v3 = some z) : CT l G yX10_fact cX10_fact 4 (some .int) 2 43 [.ref (ad G v0), .int v1, .int v2, .int v3] h (some (.int z)) h := by
  unfold X10_fact at hf
  refine CT.of (by decide) (Nat.le_of_ble_eq_true rfl) ?_
  intro p e s m below meth c ls E hr hlk w hl
  have hl : lv_has ls 4 [(0, .ref (ad G v0)), (1, .int v1), (2, .int v2), (3, .int v3)] := hl
  refine lv_aload_n E.1 E.2.1 dX10_fact_0 rfl (lv_at hl 0 rfl) ?_
  refine q_gs E w 1 t_v0 fl_RX10_10 dX10_fact_1 ?_
  refine lv_iload_n E.1 E.2.1 dX10_fact_4 rfl (lv_at hl 1 rfl) ?_
  obtain ⟨r2, hc1, hf⟩ := bd1_e hf
  refine k_Vr (As := [.int v1]) (rest := []) E w (lay_10_0 t_v0) ⟨by decide, rfl⟩ (X7_morningsAt_c (lay_10_0 t_v0) hc1) mv_RX10_219 rfl rfl hl.1 ⟨Nat.le_of_ble_eq_true rfl, Nat.le_of_ble_eq_true rfl⟩ (Nat.le_of_ble_eq_true rfl) ⟨Nat.le_refl _, Nat.le_refl _⟩ dX10_fact_5 (fun H locs w => ?_)
  by_cases c5 : r2 = 0
  · have hf := q_pos c5 hf
    rw [c5, rfv_0]
    refine lv_iload_n E.1 E.2.1 dX10_fact_8 rfl (lv_at hl 2 rfl) ?_
    refine lv_iload_n E.1 E.2.1 dX10_fact_9 rfl (lv_at hl 3 rfl) ?_
    obtain ⟨r7, hc6, hf⟩ := bd1_e hf
    refine k_Si (As := [.null, .int v2, .int v3]) (rest := []) E w (X10_rowOf_c rfl (Or.inl rfl) hc6) ms_RX10_142 rfl rfl hl.1 ⟨Nat.le_of_ble_eq_true rfl, Nat.le_of_ble_eq_true rfl⟩ (Nat.le_of_ble_eq_true rfl) ⟨Nat.le_refl _, Nat.le_refl _⟩ dX10_fact_10 (fun H locs w => ?_)
    have hf := Option.some.inj hf
    subst hf
    exact q_iret E w hr hlk dX10_fact_13
  have hf := q_neg c5 hf
  have t4 : sh r2 = 6 := (X7_morningsAt_t (lay_10_0 t_v0) hc1).resolve_left c5
  rw [rfv_p G (by rw [t4]; decide)]
  refine lv_iload_n E.1 E.2.1 dX10_fact_8 rfl (lv_at hl 2 rfl) ?_
  refine lv_iload_n E.1 E.2.1 dX10_fact_9 rfl (lv_at hl 3 rfl) ?_
  obtain ⟨r10, hc9, hf⟩ := bd1_e hf
  refine k_Si (As := [.ref (ad G r2), .int v2, .int v3]) (rest := []) E w (X10_rowOf_c (rfv_p G (by rw [t4]; decide)).symm (Or.inr t4) hc9) ms_RX10_142 rfl rfl hl.1 ⟨Nat.le_of_ble_eq_true rfl, Nat.le_of_ble_eq_true rfl⟩ (Nat.le_of_ble_eq_true rfl) ⟨Nat.le_refl _, Nat.le_refl _⟩ dX10_fact_10 (fun H locs w => ?_)
  have hf := Option.some.inj hf
  subst hf
  exact q_iret E w hr hlk dX10_fact_13

def X10_dawns (N : Nat) (h : HS) (v0 : Nat) (v1 : Nat) (v2 : Nat) : Option (Int32 × HS) := (if v1 = 0 then (if v2 = 0 then some (nz 0, h) else some (nz 0, h)) else (if v2 = 0 then some (nz 0, h) else bd1 (X6_numbersBelow N h v2 (h.1 v1 0)) fun r5 => (if r5 = 0 then some (nz 0, h) else bd2 (X5_finds N h (v0 + 170) v1) fun r9 h10 => (if r9 = 0 then some (nz 0, h10) else bd1 (X2_judge N h10 (v0 + 234) v1 v2 (v0 + 170)) fun h14 => some (nz 1, h14)))))
set_option maxRecDepth 4000 in
set_option maxHeartbeats 2000000 in
theorem X10_dawns_c {l : Launch} {G : GT} {N : Nat} {h : HS} {v0 : Nat} {v1 : Nat} {v2 : Nat} {z : (Int32 × HS)} (t_v0 : sh v0 = 10) {x_v1 : Value} (e_v1 : x_v1 = rfv G v1) (t_v1 : v1 = 0 ∨ sh v1 = 1) {x_v2 : Value} (e_v2 : x_v2 = rfv G v2) (t_v2 : v2 = 0 ∨ sh v2 = 6) (hf : X10_dawns N h v0 v1 v2 = some z) : CT l G yX10_dawns cX10_dawns 3 (some .boolean) 27 581 [.ref (ad G v0), x_v1, x_v2] h (some (.int z.1)) z.2 := by
  unfold X10_dawns at hf
  by_cases c1 : v1 = 0
  · have hf := q_pos c1 hf
    rw [c1, rfv_0] at e_v1
    subst e_v1
    by_cases c2 : v2 = 0
    · have hf := q_pos c2 hf
      rw [c2, rfv_0] at e_v2
      subst e_v2
      refine CT.of (by decide) (Nat.le_of_ble_eq_true rfl) ?_
      intro p e s m below meth c ls E hr hlk w hl
      have hl : lv_has ls 3 [(0, .ref (ad G v0)), (1, .null), (2, .null)] := hl
      refine lv_aload_nN E.1 E.2.1 dX10_dawns_0 rfl (lv_at hl 1 rfl) ?_
      refine lv_ifnullN (tgt := 30) E.1 E.2.1 dX10_dawns_1 (by decide) ?_
      refine lv_iconst (v := 0) E.1 E.2.1 dX10_dawns_30 rfl ?_
      have hf := Option.some.inj hf
      subst hf
      exact q_zret E w hr hlk dX10_dawns_31
    have hf := q_neg c2 hf
    have t_v2 := t_v2.resolve_left c2
    rw [rfv_p G (by rw [t_v2]; decide)] at e_v2
    subst e_v2
    refine CT.of (by decide) (Nat.le_of_ble_eq_true rfl) ?_
    intro p e s m below meth c ls E hr hlk w hl
    have hl : lv_has ls 3 [(0, .ref (ad G v0)), (1, .null), (2, .ref (ad G v2))] := hl
    refine lv_aload_nN E.1 E.2.1 dX10_dawns_0 rfl (lv_at hl 1 rfl) ?_
    refine lv_ifnullN (tgt := 30) E.1 E.2.1 dX10_dawns_1 (by decide) ?_
    refine lv_iconst (v := 0) E.1 E.2.1 dX10_dawns_30 rfl ?_
    have hf := Option.some.inj hf
    subst hf
    exact q_zret E w hr hlk dX10_dawns_31
  have hf := q_neg c1 hf
  have t_v1 := t_v1.resolve_left c1
  rw [rfv_p G (by rw [t_v1]; decide)] at e_v1
  subst e_v1
  by_cases c3 : v2 = 0
  · have hf := q_pos c3 hf
    rw [c3, rfv_0] at e_v2
    subst e_v2
    refine CT.of (by decide) (Nat.le_of_ble_eq_true rfl) ?_
    intro p e s m below meth c ls E hr hlk w hl
    have hl : lv_has ls 3 [(0, .ref (ad G v0)), (1, .ref (ad G v1)), (2, .null)] := hl
    refine lv_aload_n E.1 E.2.1 dX10_dawns_0 rfl (lv_at hl 1 rfl) ?_
    refine lv_ifnull E.1 E.2.1 dX10_dawns_1 ?_
    refine lv_aload_nN E.1 E.2.1 dX10_dawns_4 rfl (lv_at hl 2 rfl) ?_
    refine lv_ifnullN (tgt := 30) E.1 E.2.1 dX10_dawns_5 (by decide) ?_
    refine lv_iconst (v := 0) E.1 E.2.1 dX10_dawns_30 rfl ?_
    have hf := Option.some.inj hf
    subst hf
    exact q_zret E w hr hlk dX10_dawns_31
  have hf := q_neg c3 hf
  have t_v2 := t_v2.resolve_left c3
  rw [rfv_p G (by rw [t_v2]; decide)] at e_v2
  subst e_v2
  refine CT.of (by decide) (Nat.le_of_ble_eq_true rfl) ?_
  intro p e s m below meth c ls E hr hlk w hl
  have hl : lv_has ls 3 [(0, .ref (ad G v0)), (1, .ref (ad G v1)), (2, .ref (ad G v2))] := hl
  refine lv_aload_n E.1 E.2.1 dX10_dawns_0 rfl (lv_at hl 1 rfl) ?_
  refine lv_ifnull E.1 E.2.1 dX10_dawns_1 ?_
  refine lv_aload_n E.1 E.2.1 dX10_dawns_4 rfl (lv_at hl 2 rfl) ?_
  refine lv_ifnull E.1 E.2.1 dX10_dawns_5 ?_
  refine lv_aload_n E.1 E.2.1 dX10_dawns_8 rfl (lv_at hl 2 rfl) ?_
  refine lv_aload_n E.1 E.2.1 dX10_dawns_9 rfl (lv_at hl 1 rfl) ?_
  refine q_gi E w t_v1 fl_RX10_117 dX10_dawns_10 ?_
  obtain ⟨r5, hc4, hf⟩ := bd1_e hf
  refine k_Vi (As := [.int (h.1 v1 0)]) (rest := []) E w t_v2 ⟨by decide, rfl⟩ (X6_numbersBelow_c t_v2 hc4) mv_RX10_345 rfl rfl hl.1 ⟨Nat.le_of_ble_eq_true rfl, Nat.le_of_ble_eq_true rfl⟩ (Nat.le_of_ble_eq_true rfl) ⟨Nat.le_refl _, Nat.le_refl _⟩ dX10_dawns_13 (fun H locs w => ?_)
  refine lv_if_eq (tgt := 30) E.1 E.2.1 dX10_dawns_16 (by decide) (fun c7 => ?_) (fun c7 => ?_)
  · have hf := q_pos c7 hf
    refine lv_iconst (v := 0) E.1 E.2.1 dX10_dawns_30 rfl ?_
    have hf := Option.some.inj hf
    subst hf
    exact q_zret E w hr hlk dX10_dawns_31
  · have hf := q_neg c7 hf
    refine lv_aload_n E.1 E.2.1 dX10_dawns_19 rfl (lv_at hl 0 rfl) ?_
    refine q_gs E w 170 t_v0 fl_RX10_34 dX10_dawns_20 ?_
    refine lv_aload_n E.1 E.2.1 dX10_dawns_23 rfl (lv_at hl 1 rfl) ?_
    obtain ⟨r9, h10, hc8, hf⟩ := bd2_e hf
    refine k_Vi (As := [.ref (ad G v1)]) (rest := []) E w (lay_10_4 t_v0) ⟨by decide, rfl⟩ (X5_finds_c (lay_10_4 t_v0) t_v1 hc8) mv_RX10_160 rfl rfl hl.1 ⟨Nat.le_of_ble_eq_true rfl, Nat.le_of_ble_eq_true rfl⟩ (Nat.le_of_ble_eq_true rfl) ⟨Nat.le_refl _, Nat.le_refl _⟩ dX10_dawns_24 (fun H locs w => ?_)
    refine lv_if_ne (tgt := 32) E.1 E.2.1 dX10_dawns_27 (by decide) (fun c11 => ?_) (fun c11 => ?_)
    · have hf := q_neg c11 hf
      refine lv_aload_n E.1 E.2.1 dX10_dawns_32 rfl (lv_at hl 0 rfl) ?_
      refine q_gs E w 234 t_v0 fl_RX10_69 dX10_dawns_33 ?_
      refine lv_aload_n E.1 E.2.1 dX10_dawns_36 rfl (lv_at hl 1 rfl) ?_
      refine lv_aload_n E.1 E.2.1 dX10_dawns_37 rfl (lv_at hl 2 rfl) ?_
      refine lv_aload_n E.1 E.2.1 dX10_dawns_38 rfl (lv_at hl 0 rfl) ?_
      refine q_gs E w 170 t_v0 fl_RX10_34 dX10_dawns_39 ?_
      obtain ⟨h14, hc12, hf⟩ := bd1_e hf
      refine k_Vv (As := [.ref (ad G v1), .ref (ad G v2), .ref (ad G (v0 + 170))]) (rest := []) E w (lay_10_9 t_v0) ⟨by decide, rfl⟩ (X2_judge_c (lay_10_9 t_v0) t_v1 t_v2 (lay_10_4 t_v0) hc12) mv_RX10_348 rfl rfl hl.1 ⟨Nat.le_of_ble_eq_true rfl, Nat.le_of_ble_eq_true rfl⟩ (Nat.le_of_ble_eq_true rfl) ⟨Nat.le_refl _, Nat.le_refl _⟩ dX10_dawns_42 (fun H locs w => ?_)
      refine lv_iconst (v := 1) E.1 E.2.1 dX10_dawns_45 rfl ?_
      have hf := Option.some.inj hf
      subst hf
      exact q_zret E w hr hlk dX10_dawns_46
    · have hf := q_pos c11 hf
      refine lv_iconst (v := 0) E.1 E.2.1 dX10_dawns_30 rfl ?_
      have hf := Option.some.inj hf
      subst hf
      exact q_zret E w hr hlk dX10_dawns_31

def X10_fits (N : Nat) (h : HS) (v0 : Nat) (v1 : Int32) (v2 : Int32) (v3 : Int32) : Option (Int32 × HS) := bd1 (X7_houseAt N h (v0 + 1) v1) fun r2 => (if r2 = 0 then bd1 (X7_morningsAt N h (v0 + 1) v2) fun r7 => (if r7 = 0 then bd2 (X10_dawns N h v0 0 0) fun r12 h13 => (if r12 = 0 then some ((-2), h13) else (if v3 = 0 then bd1 (J6_bitCount_0f7a4 N h13 (h13.1 (v0 + 234) 1)) fun r17 => some (r17, h13) else (if v3 = 1 then bd1 (J6_bitCount_0f7a4 N h13 (h13.1 (v0 + 234) 1)) fun r21 => (if r21 = (1 : Int32) then bd1 (X10_bitAt N h13 (h13.1 (v0 + 234) 1) 0) fun r25 => some (r25, h13) else some ((-1), h13)) else (if v3 = 2 then none else (if (10 : Int32) ≤ v3 then bd1 (X10_bitAt N h13 (h13.1 (v0 + 234) 1) (v3 - 10)) fun r30 => (if r30 = ((-1) : Int32) then some ((-2), h13) else some (r30, h13)) else (if ((-1) : Int32) = ((-1) : Int32) then some ((-2), h13) else some ((-1), h13))))))) else bd2 (X10_dawns N h v0 0 r7) fun r35 h36 => (if r35 = 0 then some ((-2), h36) else (if v3 = 0 then bd1 (J6_bitCount_0f7a4 N h36 (h36.1 (v0 + 234) 1)) fun r40 => some (r40, h36) else (if v3 = 1 then bd1 (J6_bitCount_0f7a4 N h36 (h36.1 (v0 + 234) 1)) fun r44 => (if r44 = (1 : Int32) then bd1 (X10_bitAt N h36 (h36.1 (v0 + 234) 1) 0) fun r48 => some (r48, h36) else some ((-1), h36)) else (if v3 = 2 then none else (if (10 : Int32) ≤ v3 then bd1 (X10_bitAt N h36 (h36.1 (v0 + 234) 1) (v3 - 10)) fun r53 => (if r53 = ((-1) : Int32) then some ((-2), h36) else some (r53, h36)) else (if ((-1) : Int32) = ((-1) : Int32) then some ((-2), h36) else some ((-1), h36)))))))) else bd1 (X7_morningsAt N h (v0 + 1) v2) fun r58 => (if r58 = 0 then bd2 (X10_dawns N h v0 r2 0) fun r63 h64 => (if r63 = 0 then some ((-2), h64) else (if v3 = 0 then bd1 (J6_bitCount_0f7a4 N h64 (h64.1 (v0 + 234) 1)) fun r68 => some (r68, h64) else (if v3 = 1 then bd1 (J6_bitCount_0f7a4 N h64 (h64.1 (v0 + 234) 1)) fun r72 => (if r72 = (1 : Int32) then bd1 (X10_bitAt N h64 (h64.1 (v0 + 234) 1) 0) fun r76 => some (r76, h64) else some ((-1), h64)) else (if v3 = 2 then bd1 (X2_question N h64 (v0 + 234) r2) fun r80 => some (r80, h64) else (if (10 : Int32) ≤ v3 then bd1 (X10_bitAt N h64 (h64.1 (v0 + 234) 1) (v3 - 10)) fun r84 => (if r84 = ((-1) : Int32) then some ((-2), h64) else some (r84, h64)) else (if ((-1) : Int32) = ((-1) : Int32) then some ((-2), h64) else some ((-1), h64))))))) else bd2 (X10_dawns N h v0 r2 r58) fun r89 h90 => (if r89 = 0 then some ((-2), h90) else (if v3 = 0 then bd1 (J6_bitCount_0f7a4 N h90 (h90.1 (v0 + 234) 1)) fun r94 => some (r94, h90) else (if v3 = 1 then bd1 (J6_bitCount_0f7a4 N h90 (h90.1 (v0 + 234) 1)) fun r98 => (if r98 = (1 : Int32) then bd1 (X10_bitAt N h90 (h90.1 (v0 + 234) 1) 0) fun r102 => some (r102, h90) else some ((-1), h90)) else (if v3 = 2 then bd1 (X2_question N h90 (v0 + 234) r2) fun r106 => some (r106, h90) else (if (10 : Int32) ≤ v3 then bd1 (X10_bitAt N h90 (h90.1 (v0 + 234) 1) (v3 - 10)) fun r110 => (if r110 = ((-1) : Int32) then some ((-2), h90) else some (r110, h90)) else (if ((-1) : Int32) = ((-1) : Int32) then some ((-2), h90) else some ((-1), h90)))))))))
set_option maxRecDepth 4000 in
set_option maxHeartbeats 2000000 in
theorem X10_fits_c {l : Launch} {G : GT} {N : Nat} {h : HS} {v0 : Nat} {v1 : Int32} {v2 : Int32} {v3 : Int32} {z : (Int32 × HS)} (t_v0 : sh v0 = 10) (hf : X10_fits N h v0 v1 v2 v3 = some z) : CT l G yX10_fits cX10_fits 6 (some .int) 28 603 [.ref (ad G v0), .int v1, .int v2, .int v3] h (some (.int z.1)) z.2 := by
  unfold X10_fits at hf
  refine CT.of (by decide) (Nat.le_of_ble_eq_true rfl) ?_
  intro p e s m below meth c ls E hr hlk w hl
  have hl : lv_has ls 6 [(0, .ref (ad G v0)), (1, .int v1), (2, .int v2), (3, .int v3)] := hl
  refine lv_aload_n E.1 E.2.1 dX10_fits_0 rfl (lv_at hl 0 rfl) ?_
  refine q_gs E w 1 t_v0 fl_RX10_10 dX10_fits_1 ?_
  refine lv_iload_n E.1 E.2.1 dX10_fits_4 rfl (lv_at hl 1 rfl) ?_
  obtain ⟨r2, hc1, hf⟩ := bd1_e hf
  refine k_Vr (As := [.int v1]) (rest := []) E w (lay_10_0 t_v0) ⟨by decide, rfl⟩ (X7_houseAt_c (lay_10_0 t_v0) hc1) mv_RX10_113 rfl rfl hl.1 ⟨Nat.le_of_ble_eq_true rfl, Nat.le_of_ble_eq_true rfl⟩ (Nat.le_of_ble_eq_true rfl) ⟨Nat.le_refl _, Nat.le_refl _⟩ dX10_fits_5 (fun H locs w => ?_)
  by_cases c5 : r2 = 0
  · have hf := q_pos c5 hf
    rw [c5, rfv_0]
    refine lv_astoreN (lv' := [(4, .null), (0, .ref (ad G v0)), (1, .int v1), (2, .int v2), (3, .int v3)]) E.1 E.2.1 dX10_fits_8 hl (by decide) rfl (fun ls hl => ?_)
    refine lv_aload_n E.1 E.2.1 dX10_fits_10 rfl (lv_at hl 1 rfl) ?_
    refine lv_aloadN E.1 E.2.1 dX10_fits_11 (lv_at hl 0 rfl) ?_
    refine lv_aload_n E.1 E.2.1 dX10_fits_13 rfl (lv_at hl 1 rfl) ?_
    refine q_gs E w 1 t_v0 fl_RX10_10 dX10_fits_14 ?_
    refine lv_iload_n E.1 E.2.1 dX10_fits_17 rfl (lv_at hl 3 rfl) ?_
    obtain ⟨r7, hc6, hf⟩ := bd1_e hf
    refine k_Vr (As := [.int v2]) (rest := [.null, .ref (ad G v0)]) E w (lay_10_0 t_v0) ⟨by decide, rfl⟩ (X7_morningsAt_c (lay_10_0 t_v0) hc6) mv_RX10_219 rfl rfl hl.1 ⟨Nat.le_of_ble_eq_true rfl, Nat.le_of_ble_eq_true rfl⟩ (Nat.le_of_ble_eq_true rfl) ⟨Nat.le_refl _, Nat.le_refl _⟩ dX10_fits_18 (fun H locs w => ?_)
    by_cases c10 : r7 = 0
    · have hf := q_pos c10 hf
      rw [c10, rfv_0]
      obtain ⟨r12, h13, hc11, hf⟩ := bd2_e hf
      refine k_Vi (As := [.null, .null]) (rest := []) E w t_v0 ⟨by decide, rfl⟩ (X10_dawns_c t_v0 rfl (Or.inl rfl) rfl (Or.inl rfl) hc11) mv_RX10_222 rfl rfl hl.1 ⟨Nat.le_of_ble_eq_true rfl, Nat.le_of_ble_eq_true rfl⟩ (Nat.le_of_ble_eq_true rfl) ⟨Nat.le_refl _, Nat.le_refl _⟩ dX10_fits_21 (fun H locs w => ?_)
      refine lv_if_ne (tgt := 30) E.1 E.2.1 dX10_fits_24 (by decide) (fun c14 => ?_) (fun c14 => ?_)
      · have hf := q_neg c14 hf
        refine lv_iload_n E.1 E.2.1 dX10_fits_30 rfl (lv_at hl 4 rfl) ?_
        by_cases c15 : v3 = 0
        · have hf := q_pos c15 hf
          refine lv_tableIn (off := 25) (tgt := 56) E.1 E.2.1 dX10_fits_31 (by rw [c15]; decide) (by rw [c15]; decide) (by rw [c15]; rfl) (by decide) ?_
          refine lv_aload_n E.1 E.2.1 dX10_fits_56 rfl (lv_at hl 1 rfl) ?_
          refine q_gs E w 234 t_v0 fl_RX10_69 dX10_fits_57 ?_
          refine q_gi E w (lay_10_9 t_v0) fl_RX10_226 dX10_fits_60 ?_
          obtain ⟨r17, hc16, hf⟩ := bd1_e hf
          refine k_Si (As := [.int (h13.1 (v0 + 234) 1)]) (rest := []) E w (J6_bitCount_0f7a4_c  hc16) ms_RX10_171 rfl rfl hl.1 ⟨Nat.le_of_ble_eq_true rfl, Nat.le_of_ble_eq_true rfl⟩ (Nat.le_of_ble_eq_true rfl) ⟨Nat.le_refl _, Nat.le_refl _⟩ dX10_fits_63 (fun H locs w => ?_)
          have hf := Option.some.inj hf
          subst hf
          exact q_iret E w hr hlk dX10_fits_66
        have hf := q_neg c15 hf
        by_cases c19 : v3 = 1
        · have hf := q_pos c19 hf
          refine lv_tableIn (off := 36) (tgt := 67) E.1 E.2.1 dX10_fits_31 (by rw [c19]; decide) (by rw [c19]; decide) (by rw [c19]; rfl) (by decide) ?_
          refine lv_aload_n E.1 E.2.1 dX10_fits_67 rfl (lv_at hl 1 rfl) ?_
          refine q_gs E w 234 t_v0 fl_RX10_69 dX10_fits_68 ?_
          refine q_gi E w (lay_10_9 t_v0) fl_RX10_226 dX10_fits_71 ?_
          obtain ⟨r21, hc20, hf⟩ := bd1_e hf
          refine k_Si (As := [.int (h13.1 (v0 + 234) 1)]) (rest := []) E w (J6_bitCount_0f7a4_c  hc20) ms_RX10_171 rfl rfl hl.1 ⟨Nat.le_of_ble_eq_true rfl, Nat.le_of_ble_eq_true rfl⟩ (Nat.le_of_ble_eq_true rfl) ⟨Nat.le_refl _, Nat.le_refl _⟩ dX10_fits_74 (fun H locs w => ?_)
          refine lv_iconst (v := 1) E.1 E.2.1 dX10_fits_77 rfl ?_
          refine lv_icmp_ne (tgt := 95) E.1 E.2.1 dX10_fits_78 (by decide) (fun c23 => ?_) (fun c23 => ?_)
          · have hf := q_neg c23 hf
            refine lv_iconst (v := (-1)) E.1 E.2.1 dX10_fits_95 rfl ?_
            have hf := Option.some.inj hf
            subst hf
            exact q_iret E w hr hlk dX10_fits_96
          · have hf := q_pos c23 hf
            refine lv_aload_n E.1 E.2.1 dX10_fits_81 rfl (lv_at hl 1 rfl) ?_
            refine q_gs E w 234 t_v0 fl_RX10_69 dX10_fits_82 ?_
            refine q_gi E w (lay_10_9 t_v0) fl_RX10_226 dX10_fits_85 ?_
            refine lv_iconst (v := 0) E.1 E.2.1 dX10_fits_88 rfl ?_
            obtain ⟨r25, hc24, hf⟩ := bd1_e hf
            refine k_Si (As := [.int (h13.1 (v0 + 234) 1), .int 0]) (rest := []) E w (X10_bitAt_c  hc24) ms_RX10_229 rfl rfl hl.1 ⟨Nat.le_of_ble_eq_true rfl, Nat.le_of_ble_eq_true rfl⟩ (Nat.le_of_ble_eq_true rfl) ⟨Nat.le_refl _, Nat.le_refl _⟩ dX10_fits_89 (fun H locs w => ?_)
            refine lv_goto (tgt := 96) E.1 E.2.1 dX10_fits_92 (by decide) ?_
            have hf := Option.some.inj hf
            subst hf
            exact q_iret E w hr hlk dX10_fits_96
        have hf := q_neg c19 hf
        by_cases c27 : v3 = 2
        · have hf := q_pos c27 hf
          refine lv_tableIn (off := 66) (tgt := 97) E.1 E.2.1 dX10_fits_31 (by rw [c27]; decide) (by rw [c27]; decide) (by rw [c27]; rfl) (by decide) ?_
          refine lv_aload_n E.1 E.2.1 dX10_fits_97 rfl (lv_at hl 1 rfl) ?_
          refine q_gs E w 234 t_v0 fl_RX10_69 dX10_fits_98 ?_
          refine lv_aloadN E.1 E.2.1 dX10_fits_101 (lv_at hl 0 rfl) ?_
          cases hf
        have hf := q_neg c27 hf
        refine lv_tableOut (tgt := 107) E.1 E.2.1 dX10_fits_31 (by have := ne_i c15 (z := 0) (by decide); have := ne_i c19 (z := 1) (by decide); have := ne_i c27 (z := 2) (by decide); omega) (by decide) ?_
        refine lv_iload_n E.1 E.2.1 dX10_fits_107 rfl (lv_at hl 4 rfl) ?_
        refine lv_bipush (v := 10) E.1 E.2.1 dX10_fits_108 rfl ?_
        refine lv_icmp_ge (tgt := 117) E.1 E.2.1 dX10_fits_110 (by decide) (fun c28 => ?_) (fun c28 => ?_)
        · have hf := q_pos c28 hf
          refine lv_aload_n E.1 E.2.1 dX10_fits_117 rfl (lv_at hl 1 rfl) ?_
          refine q_gs E w 234 t_v0 fl_RX10_69 dX10_fits_118 ?_
          refine q_gi E w (lay_10_9 t_v0) fl_RX10_226 dX10_fits_121 ?_
          refine lv_iload_n E.1 E.2.1 dX10_fits_124 rfl (lv_at hl 4 rfl) ?_
          refine lv_bipush (v := 10) E.1 E.2.1 dX10_fits_125 rfl ?_
          refine lv_isub E.1 E.2.1 dX10_fits_127 ?_
          obtain ⟨r30, hc29, hf⟩ := bd1_e hf
          refine k_Si (As := [.int (h13.1 (v0 + 234) 1), .int (v3 - 10)]) (rest := []) E w (X10_bitAt_c  hc29) ms_RX10_229 rfl rfl hl.1 ⟨Nat.le_of_ble_eq_true rfl, Nat.le_of_ble_eq_true rfl⟩ (Nat.le_of_ble_eq_true rfl) ⟨Nat.le_refl _, Nat.le_refl _⟩ dX10_fits_128 (fun H locs w => ?_)
          refine lv_istore (lv' := [(5, .int r30), (4, .null), (0, .ref (ad G v0)), (1, .int v1), (2, .int v2), (3, .int v3)]) E.1 E.2.1 dX10_fits_131 hl (by decide) rfl (fun ls hl => ?_)
          refine lv_iload E.1 E.2.1 dX10_fits_133 (lv_at hl 0 rfl) ?_
          refine lv_iconst (v := (-1)) E.1 E.2.1 dX10_fits_135 rfl ?_
          refine lv_icmp_ne (tgt := 144) E.1 E.2.1 dX10_fits_136 (by decide) (fun c32 => ?_) (fun c32 => ?_)
          · have hf := q_neg c32 hf
            refine lv_iload E.1 E.2.1 dX10_fits_144 (lv_at hl 0 rfl) ?_
            have hf := Option.some.inj hf
            subst hf
            exact q_iret E w hr hlk dX10_fits_146
          · have hf := q_pos c32 hf
            refine lv_bipush (v := (-2)) E.1 E.2.1 dX10_fits_139 rfl ?_
            refine lv_goto (tgt := 146) E.1 E.2.1 dX10_fits_141 (by decide) ?_
            have hf := Option.some.inj hf
            subst hf
            exact q_iret E w hr hlk dX10_fits_146
        · have hf := q_neg c28 hf
          refine lv_iconst (v := (-1)) E.1 E.2.1 dX10_fits_113 rfl ?_
          refine lv_goto (tgt := 131) E.1 E.2.1 dX10_fits_114 (by decide) ?_
          refine lv_istore (lv' := [(5, .int (-1)), (4, .null), (0, .ref (ad G v0)), (1, .int v1), (2, .int v2), (3, .int v3)]) E.1 E.2.1 dX10_fits_131 hl (by decide) rfl (fun ls hl => ?_)
          refine lv_iload E.1 E.2.1 dX10_fits_133 (lv_at hl 0 rfl) ?_
          refine lv_iconst (v := (-1)) E.1 E.2.1 dX10_fits_135 rfl ?_
          refine lv_icmp_ne (tgt := 144) E.1 E.2.1 dX10_fits_136 (by decide) (fun c33 => ?_) (fun c33 => ?_)
          · have hf := q_neg c33 hf
            refine lv_iload E.1 E.2.1 dX10_fits_144 (lv_at hl 0 rfl) ?_
            have hf := Option.some.inj hf
            subst hf
            exact q_iret E w hr hlk dX10_fits_146
          · have hf := q_pos c33 hf
            refine lv_bipush (v := (-2)) E.1 E.2.1 dX10_fits_139 rfl ?_
            refine lv_goto (tgt := 146) E.1 E.2.1 dX10_fits_141 (by decide) ?_
            have hf := Option.some.inj hf
            subst hf
            exact q_iret E w hr hlk dX10_fits_146
      · have hf := q_pos c14 hf
        refine lv_bipush (v := (-2)) E.1 E.2.1 dX10_fits_27 rfl ?_
        have hf := Option.some.inj hf
        subst hf
        exact q_iret E w hr hlk dX10_fits_29
    have hf := q_neg c10 hf
    have t9 : sh r7 = 6 := (X7_morningsAt_t (lay_10_0 t_v0) hc6).resolve_left c10
    rw [rfv_p G (by rw [t9]; decide)]
    obtain ⟨r35, h36, hc34, hf⟩ := bd2_e hf
    refine k_Vi (As := [.null, .ref (ad G r7)]) (rest := []) E w t_v0 ⟨by decide, rfl⟩ (X10_dawns_c t_v0 rfl (Or.inl rfl) (rfv_p G (by rw [t9]; decide)).symm (Or.inr t9) hc34) mv_RX10_222 rfl rfl hl.1 ⟨Nat.le_of_ble_eq_true rfl, Nat.le_of_ble_eq_true rfl⟩ (Nat.le_of_ble_eq_true rfl) ⟨Nat.le_refl _, Nat.le_refl _⟩ dX10_fits_21 (fun H locs w => ?_)
    refine lv_if_ne (tgt := 30) E.1 E.2.1 dX10_fits_24 (by decide) (fun c37 => ?_) (fun c37 => ?_)
    · have hf := q_neg c37 hf
      refine lv_iload_n E.1 E.2.1 dX10_fits_30 rfl (lv_at hl 4 rfl) ?_
      by_cases c38 : v3 = 0
      · have hf := q_pos c38 hf
        refine lv_tableIn (off := 25) (tgt := 56) E.1 E.2.1 dX10_fits_31 (by rw [c38]; decide) (by rw [c38]; decide) (by rw [c38]; rfl) (by decide) ?_
        refine lv_aload_n E.1 E.2.1 dX10_fits_56 rfl (lv_at hl 1 rfl) ?_
        refine q_gs E w 234 t_v0 fl_RX10_69 dX10_fits_57 ?_
        refine q_gi E w (lay_10_9 t_v0) fl_RX10_226 dX10_fits_60 ?_
        obtain ⟨r40, hc39, hf⟩ := bd1_e hf
        refine k_Si (As := [.int (h36.1 (v0 + 234) 1)]) (rest := []) E w (J6_bitCount_0f7a4_c  hc39) ms_RX10_171 rfl rfl hl.1 ⟨Nat.le_of_ble_eq_true rfl, Nat.le_of_ble_eq_true rfl⟩ (Nat.le_of_ble_eq_true rfl) ⟨Nat.le_refl _, Nat.le_refl _⟩ dX10_fits_63 (fun H locs w => ?_)
        have hf := Option.some.inj hf
        subst hf
        exact q_iret E w hr hlk dX10_fits_66
      have hf := q_neg c38 hf
      by_cases c42 : v3 = 1
      · have hf := q_pos c42 hf
        refine lv_tableIn (off := 36) (tgt := 67) E.1 E.2.1 dX10_fits_31 (by rw [c42]; decide) (by rw [c42]; decide) (by rw [c42]; rfl) (by decide) ?_
        refine lv_aload_n E.1 E.2.1 dX10_fits_67 rfl (lv_at hl 1 rfl) ?_
        refine q_gs E w 234 t_v0 fl_RX10_69 dX10_fits_68 ?_
        refine q_gi E w (lay_10_9 t_v0) fl_RX10_226 dX10_fits_71 ?_
        obtain ⟨r44, hc43, hf⟩ := bd1_e hf
        refine k_Si (As := [.int (h36.1 (v0 + 234) 1)]) (rest := []) E w (J6_bitCount_0f7a4_c  hc43) ms_RX10_171 rfl rfl hl.1 ⟨Nat.le_of_ble_eq_true rfl, Nat.le_of_ble_eq_true rfl⟩ (Nat.le_of_ble_eq_true rfl) ⟨Nat.le_refl _, Nat.le_refl _⟩ dX10_fits_74 (fun H locs w => ?_)
        refine lv_iconst (v := 1) E.1 E.2.1 dX10_fits_77 rfl ?_
        refine lv_icmp_ne (tgt := 95) E.1 E.2.1 dX10_fits_78 (by decide) (fun c46 => ?_) (fun c46 => ?_)
        · have hf := q_neg c46 hf
          refine lv_iconst (v := (-1)) E.1 E.2.1 dX10_fits_95 rfl ?_
          have hf := Option.some.inj hf
          subst hf
          exact q_iret E w hr hlk dX10_fits_96
        · have hf := q_pos c46 hf
          refine lv_aload_n E.1 E.2.1 dX10_fits_81 rfl (lv_at hl 1 rfl) ?_
          refine q_gs E w 234 t_v0 fl_RX10_69 dX10_fits_82 ?_
          refine q_gi E w (lay_10_9 t_v0) fl_RX10_226 dX10_fits_85 ?_
          refine lv_iconst (v := 0) E.1 E.2.1 dX10_fits_88 rfl ?_
          obtain ⟨r48, hc47, hf⟩ := bd1_e hf
          refine k_Si (As := [.int (h36.1 (v0 + 234) 1), .int 0]) (rest := []) E w (X10_bitAt_c  hc47) ms_RX10_229 rfl rfl hl.1 ⟨Nat.le_of_ble_eq_true rfl, Nat.le_of_ble_eq_true rfl⟩ (Nat.le_of_ble_eq_true rfl) ⟨Nat.le_refl _, Nat.le_refl _⟩ dX10_fits_89 (fun H locs w => ?_)
          refine lv_goto (tgt := 96) E.1 E.2.1 dX10_fits_92 (by decide) ?_
          have hf := Option.some.inj hf
          subst hf
          exact q_iret E w hr hlk dX10_fits_96
      have hf := q_neg c42 hf
      by_cases c50 : v3 = 2
      · have hf := q_pos c50 hf
        refine lv_tableIn (off := 66) (tgt := 97) E.1 E.2.1 dX10_fits_31 (by rw [c50]; decide) (by rw [c50]; decide) (by rw [c50]; rfl) (by decide) ?_
        refine lv_aload_n E.1 E.2.1 dX10_fits_97 rfl (lv_at hl 1 rfl) ?_
        refine q_gs E w 234 t_v0 fl_RX10_69 dX10_fits_98 ?_
        refine lv_aloadN E.1 E.2.1 dX10_fits_101 (lv_at hl 0 rfl) ?_
        cases hf
      have hf := q_neg c50 hf
      refine lv_tableOut (tgt := 107) E.1 E.2.1 dX10_fits_31 (by have := ne_i c38 (z := 0) (by decide); have := ne_i c42 (z := 1) (by decide); have := ne_i c50 (z := 2) (by decide); omega) (by decide) ?_
      refine lv_iload_n E.1 E.2.1 dX10_fits_107 rfl (lv_at hl 4 rfl) ?_
      refine lv_bipush (v := 10) E.1 E.2.1 dX10_fits_108 rfl ?_
      refine lv_icmp_ge (tgt := 117) E.1 E.2.1 dX10_fits_110 (by decide) (fun c51 => ?_) (fun c51 => ?_)
      · have hf := q_pos c51 hf
        refine lv_aload_n E.1 E.2.1 dX10_fits_117 rfl (lv_at hl 1 rfl) ?_
        refine q_gs E w 234 t_v0 fl_RX10_69 dX10_fits_118 ?_
        refine q_gi E w (lay_10_9 t_v0) fl_RX10_226 dX10_fits_121 ?_
        refine lv_iload_n E.1 E.2.1 dX10_fits_124 rfl (lv_at hl 4 rfl) ?_
        refine lv_bipush (v := 10) E.1 E.2.1 dX10_fits_125 rfl ?_
        refine lv_isub E.1 E.2.1 dX10_fits_127 ?_
        obtain ⟨r53, hc52, hf⟩ := bd1_e hf
        refine k_Si (As := [.int (h36.1 (v0 + 234) 1), .int (v3 - 10)]) (rest := []) E w (X10_bitAt_c  hc52) ms_RX10_229 rfl rfl hl.1 ⟨Nat.le_of_ble_eq_true rfl, Nat.le_of_ble_eq_true rfl⟩ (Nat.le_of_ble_eq_true rfl) ⟨Nat.le_refl _, Nat.le_refl _⟩ dX10_fits_128 (fun H locs w => ?_)
        refine lv_istore (lv' := [(5, .int r53), (4, .null), (0, .ref (ad G v0)), (1, .int v1), (2, .int v2), (3, .int v3)]) E.1 E.2.1 dX10_fits_131 hl (by decide) rfl (fun ls hl => ?_)
        refine lv_iload E.1 E.2.1 dX10_fits_133 (lv_at hl 0 rfl) ?_
        refine lv_iconst (v := (-1)) E.1 E.2.1 dX10_fits_135 rfl ?_
        refine lv_icmp_ne (tgt := 144) E.1 E.2.1 dX10_fits_136 (by decide) (fun c55 => ?_) (fun c55 => ?_)
        · have hf := q_neg c55 hf
          refine lv_iload E.1 E.2.1 dX10_fits_144 (lv_at hl 0 rfl) ?_
          have hf := Option.some.inj hf
          subst hf
          exact q_iret E w hr hlk dX10_fits_146
        · have hf := q_pos c55 hf
          refine lv_bipush (v := (-2)) E.1 E.2.1 dX10_fits_139 rfl ?_
          refine lv_goto (tgt := 146) E.1 E.2.1 dX10_fits_141 (by decide) ?_
          have hf := Option.some.inj hf
          subst hf
          exact q_iret E w hr hlk dX10_fits_146
      · have hf := q_neg c51 hf
        refine lv_iconst (v := (-1)) E.1 E.2.1 dX10_fits_113 rfl ?_
        refine lv_goto (tgt := 131) E.1 E.2.1 dX10_fits_114 (by decide) ?_
        refine lv_istore (lv' := [(5, .int (-1)), (4, .null), (0, .ref (ad G v0)), (1, .int v1), (2, .int v2), (3, .int v3)]) E.1 E.2.1 dX10_fits_131 hl (by decide) rfl (fun ls hl => ?_)
        refine lv_iload E.1 E.2.1 dX10_fits_133 (lv_at hl 0 rfl) ?_
        refine lv_iconst (v := (-1)) E.1 E.2.1 dX10_fits_135 rfl ?_
        refine lv_icmp_ne (tgt := 144) E.1 E.2.1 dX10_fits_136 (by decide) (fun c56 => ?_) (fun c56 => ?_)
        · have hf := q_neg c56 hf
          refine lv_iload E.1 E.2.1 dX10_fits_144 (lv_at hl 0 rfl) ?_
          have hf := Option.some.inj hf
          subst hf
          exact q_iret E w hr hlk dX10_fits_146
        · have hf := q_pos c56 hf
          refine lv_bipush (v := (-2)) E.1 E.2.1 dX10_fits_139 rfl ?_
          refine lv_goto (tgt := 146) E.1 E.2.1 dX10_fits_141 (by decide) ?_
          have hf := Option.some.inj hf
          subst hf
          exact q_iret E w hr hlk dX10_fits_146
    · have hf := q_pos c37 hf
      refine lv_bipush (v := (-2)) E.1 E.2.1 dX10_fits_27 rfl ?_
      have hf := Option.some.inj hf
      subst hf
      exact q_iret E w hr hlk dX10_fits_29
  have hf := q_neg c5 hf
  have t4 : sh r2 = 1 := (X7_houseAt_t (lay_10_0 t_v0) hc1).resolve_left c5
  rw [rfv_p G (by rw [t4]; decide)]
  refine lv_astore (lv' := [(4, .ref (ad G r2)), (0, .ref (ad G v0)), (1, .int v1), (2, .int v2), (3, .int v3)]) E.1 E.2.1 dX10_fits_8 hl (by decide) rfl (fun ls hl => ?_)
  refine lv_aload_n E.1 E.2.1 dX10_fits_10 rfl (lv_at hl 1 rfl) ?_
  refine lv_aload E.1 E.2.1 dX10_fits_11 (lv_at hl 0 rfl) ?_
  refine lv_aload_n E.1 E.2.1 dX10_fits_13 rfl (lv_at hl 1 rfl) ?_
  refine q_gs E w 1 t_v0 fl_RX10_10 dX10_fits_14 ?_
  refine lv_iload_n E.1 E.2.1 dX10_fits_17 rfl (lv_at hl 3 rfl) ?_
  obtain ⟨r58, hc57, hf⟩ := bd1_e hf
  refine k_Vr (As := [.int v2]) (rest := [.ref (ad G r2), .ref (ad G v0)]) E w (lay_10_0 t_v0) ⟨by decide, rfl⟩ (X7_morningsAt_c (lay_10_0 t_v0) hc57) mv_RX10_219 rfl rfl hl.1 ⟨Nat.le_of_ble_eq_true rfl, Nat.le_of_ble_eq_true rfl⟩ (Nat.le_of_ble_eq_true rfl) ⟨Nat.le_refl _, Nat.le_refl _⟩ dX10_fits_18 (fun H locs w => ?_)
  by_cases c61 : r58 = 0
  · have hf := q_pos c61 hf
    rw [c61, rfv_0]
    obtain ⟨r63, h64, hc62, hf⟩ := bd2_e hf
    refine k_Vi (As := [.ref (ad G r2), .null]) (rest := []) E w t_v0 ⟨by decide, rfl⟩ (X10_dawns_c t_v0 (rfv_p G (by rw [t4]; decide)).symm (Or.inr t4) rfl (Or.inl rfl) hc62) mv_RX10_222 rfl rfl hl.1 ⟨Nat.le_of_ble_eq_true rfl, Nat.le_of_ble_eq_true rfl⟩ (Nat.le_of_ble_eq_true rfl) ⟨Nat.le_refl _, Nat.le_refl _⟩ dX10_fits_21 (fun H locs w => ?_)
    refine lv_if_ne (tgt := 30) E.1 E.2.1 dX10_fits_24 (by decide) (fun c65 => ?_) (fun c65 => ?_)
    · have hf := q_neg c65 hf
      refine lv_iload_n E.1 E.2.1 dX10_fits_30 rfl (lv_at hl 4 rfl) ?_
      by_cases c66 : v3 = 0
      · have hf := q_pos c66 hf
        refine lv_tableIn (off := 25) (tgt := 56) E.1 E.2.1 dX10_fits_31 (by rw [c66]; decide) (by rw [c66]; decide) (by rw [c66]; rfl) (by decide) ?_
        refine lv_aload_n E.1 E.2.1 dX10_fits_56 rfl (lv_at hl 1 rfl) ?_
        refine q_gs E w 234 t_v0 fl_RX10_69 dX10_fits_57 ?_
        refine q_gi E w (lay_10_9 t_v0) fl_RX10_226 dX10_fits_60 ?_
        obtain ⟨r68, hc67, hf⟩ := bd1_e hf
        refine k_Si (As := [.int (h64.1 (v0 + 234) 1)]) (rest := []) E w (J6_bitCount_0f7a4_c  hc67) ms_RX10_171 rfl rfl hl.1 ⟨Nat.le_of_ble_eq_true rfl, Nat.le_of_ble_eq_true rfl⟩ (Nat.le_of_ble_eq_true rfl) ⟨Nat.le_refl _, Nat.le_refl _⟩ dX10_fits_63 (fun H locs w => ?_)
        have hf := Option.some.inj hf
        subst hf
        exact q_iret E w hr hlk dX10_fits_66
      have hf := q_neg c66 hf
      by_cases c70 : v3 = 1
      · have hf := q_pos c70 hf
        refine lv_tableIn (off := 36) (tgt := 67) E.1 E.2.1 dX10_fits_31 (by rw [c70]; decide) (by rw [c70]; decide) (by rw [c70]; rfl) (by decide) ?_
        refine lv_aload_n E.1 E.2.1 dX10_fits_67 rfl (lv_at hl 1 rfl) ?_
        refine q_gs E w 234 t_v0 fl_RX10_69 dX10_fits_68 ?_
        refine q_gi E w (lay_10_9 t_v0) fl_RX10_226 dX10_fits_71 ?_
        obtain ⟨r72, hc71, hf⟩ := bd1_e hf
        refine k_Si (As := [.int (h64.1 (v0 + 234) 1)]) (rest := []) E w (J6_bitCount_0f7a4_c  hc71) ms_RX10_171 rfl rfl hl.1 ⟨Nat.le_of_ble_eq_true rfl, Nat.le_of_ble_eq_true rfl⟩ (Nat.le_of_ble_eq_true rfl) ⟨Nat.le_refl _, Nat.le_refl _⟩ dX10_fits_74 (fun H locs w => ?_)
        refine lv_iconst (v := 1) E.1 E.2.1 dX10_fits_77 rfl ?_
        refine lv_icmp_ne (tgt := 95) E.1 E.2.1 dX10_fits_78 (by decide) (fun c74 => ?_) (fun c74 => ?_)
        · have hf := q_neg c74 hf
          refine lv_iconst (v := (-1)) E.1 E.2.1 dX10_fits_95 rfl ?_
          have hf := Option.some.inj hf
          subst hf
          exact q_iret E w hr hlk dX10_fits_96
        · have hf := q_pos c74 hf
          refine lv_aload_n E.1 E.2.1 dX10_fits_81 rfl (lv_at hl 1 rfl) ?_
          refine q_gs E w 234 t_v0 fl_RX10_69 dX10_fits_82 ?_
          refine q_gi E w (lay_10_9 t_v0) fl_RX10_226 dX10_fits_85 ?_
          refine lv_iconst (v := 0) E.1 E.2.1 dX10_fits_88 rfl ?_
          obtain ⟨r76, hc75, hf⟩ := bd1_e hf
          refine k_Si (As := [.int (h64.1 (v0 + 234) 1), .int 0]) (rest := []) E w (X10_bitAt_c  hc75) ms_RX10_229 rfl rfl hl.1 ⟨Nat.le_of_ble_eq_true rfl, Nat.le_of_ble_eq_true rfl⟩ (Nat.le_of_ble_eq_true rfl) ⟨Nat.le_refl _, Nat.le_refl _⟩ dX10_fits_89 (fun H locs w => ?_)
          refine lv_goto (tgt := 96) E.1 E.2.1 dX10_fits_92 (by decide) ?_
          have hf := Option.some.inj hf
          subst hf
          exact q_iret E w hr hlk dX10_fits_96
      have hf := q_neg c70 hf
      by_cases c78 : v3 = 2
      · have hf := q_pos c78 hf
        refine lv_tableIn (off := 66) (tgt := 97) E.1 E.2.1 dX10_fits_31 (by rw [c78]; decide) (by rw [c78]; decide) (by rw [c78]; rfl) (by decide) ?_
        refine lv_aload_n E.1 E.2.1 dX10_fits_97 rfl (lv_at hl 1 rfl) ?_
        refine q_gs E w 234 t_v0 fl_RX10_69 dX10_fits_98 ?_
        refine lv_aload E.1 E.2.1 dX10_fits_101 (lv_at hl 0 rfl) ?_
        obtain ⟨r80, hc79, hf⟩ := bd1_e hf
        refine k_Vi (As := [.ref (ad G r2)]) (rest := []) E w (lay_10_9 t_v0) ⟨by decide, rfl⟩ (X2_question_c (lay_10_9 t_v0) t4 hc79) mv_RX10_232 rfl rfl hl.1 ⟨Nat.le_of_ble_eq_true rfl, Nat.le_of_ble_eq_true rfl⟩ (Nat.le_of_ble_eq_true rfl) ⟨Nat.le_refl _, Nat.le_refl _⟩ dX10_fits_103 (fun H locs w => ?_)
        have hf := Option.some.inj hf
        subst hf
        exact q_iret E w hr hlk dX10_fits_106
      have hf := q_neg c78 hf
      refine lv_tableOut (tgt := 107) E.1 E.2.1 dX10_fits_31 (by have := ne_i c66 (z := 0) (by decide); have := ne_i c70 (z := 1) (by decide); have := ne_i c78 (z := 2) (by decide); omega) (by decide) ?_
      refine lv_iload_n E.1 E.2.1 dX10_fits_107 rfl (lv_at hl 4 rfl) ?_
      refine lv_bipush (v := 10) E.1 E.2.1 dX10_fits_108 rfl ?_
      refine lv_icmp_ge (tgt := 117) E.1 E.2.1 dX10_fits_110 (by decide) (fun c82 => ?_) (fun c82 => ?_)
      · have hf := q_pos c82 hf
        refine lv_aload_n E.1 E.2.1 dX10_fits_117 rfl (lv_at hl 1 rfl) ?_
        refine q_gs E w 234 t_v0 fl_RX10_69 dX10_fits_118 ?_
        refine q_gi E w (lay_10_9 t_v0) fl_RX10_226 dX10_fits_121 ?_
        refine lv_iload_n E.1 E.2.1 dX10_fits_124 rfl (lv_at hl 4 rfl) ?_
        refine lv_bipush (v := 10) E.1 E.2.1 dX10_fits_125 rfl ?_
        refine lv_isub E.1 E.2.1 dX10_fits_127 ?_
        obtain ⟨r84, hc83, hf⟩ := bd1_e hf
        refine k_Si (As := [.int (h64.1 (v0 + 234) 1), .int (v3 - 10)]) (rest := []) E w (X10_bitAt_c  hc83) ms_RX10_229 rfl rfl hl.1 ⟨Nat.le_of_ble_eq_true rfl, Nat.le_of_ble_eq_true rfl⟩ (Nat.le_of_ble_eq_true rfl) ⟨Nat.le_refl _, Nat.le_refl _⟩ dX10_fits_128 (fun H locs w => ?_)
        refine lv_istore (lv' := [(5, .int r84), (4, .ref (ad G r2)), (0, .ref (ad G v0)), (1, .int v1), (2, .int v2), (3, .int v3)]) E.1 E.2.1 dX10_fits_131 hl (by decide) rfl (fun ls hl => ?_)
        refine lv_iload E.1 E.2.1 dX10_fits_133 (lv_at hl 0 rfl) ?_
        refine lv_iconst (v := (-1)) E.1 E.2.1 dX10_fits_135 rfl ?_
        refine lv_icmp_ne (tgt := 144) E.1 E.2.1 dX10_fits_136 (by decide) (fun c86 => ?_) (fun c86 => ?_)
        · have hf := q_neg c86 hf
          refine lv_iload E.1 E.2.1 dX10_fits_144 (lv_at hl 0 rfl) ?_
          have hf := Option.some.inj hf
          subst hf
          exact q_iret E w hr hlk dX10_fits_146
        · have hf := q_pos c86 hf
          refine lv_bipush (v := (-2)) E.1 E.2.1 dX10_fits_139 rfl ?_
          refine lv_goto (tgt := 146) E.1 E.2.1 dX10_fits_141 (by decide) ?_
          have hf := Option.some.inj hf
          subst hf
          exact q_iret E w hr hlk dX10_fits_146
      · have hf := q_neg c82 hf
        refine lv_iconst (v := (-1)) E.1 E.2.1 dX10_fits_113 rfl ?_
        refine lv_goto (tgt := 131) E.1 E.2.1 dX10_fits_114 (by decide) ?_
        refine lv_istore (lv' := [(5, .int (-1)), (4, .ref (ad G r2)), (0, .ref (ad G v0)), (1, .int v1), (2, .int v2), (3, .int v3)]) E.1 E.2.1 dX10_fits_131 hl (by decide) rfl (fun ls hl => ?_)
        refine lv_iload E.1 E.2.1 dX10_fits_133 (lv_at hl 0 rfl) ?_
        refine lv_iconst (v := (-1)) E.1 E.2.1 dX10_fits_135 rfl ?_
        refine lv_icmp_ne (tgt := 144) E.1 E.2.1 dX10_fits_136 (by decide) (fun c87 => ?_) (fun c87 => ?_)
        · have hf := q_neg c87 hf
          refine lv_iload E.1 E.2.1 dX10_fits_144 (lv_at hl 0 rfl) ?_
          have hf := Option.some.inj hf
          subst hf
          exact q_iret E w hr hlk dX10_fits_146
        · have hf := q_pos c87 hf
          refine lv_bipush (v := (-2)) E.1 E.2.1 dX10_fits_139 rfl ?_
          refine lv_goto (tgt := 146) E.1 E.2.1 dX10_fits_141 (by decide) ?_
          have hf := Option.some.inj hf
          subst hf
          exact q_iret E w hr hlk dX10_fits_146
    · have hf := q_pos c65 hf
      refine lv_bipush (v := (-2)) E.1 E.2.1 dX10_fits_27 rfl ?_
      have hf := Option.some.inj hf
      subst hf
      exact q_iret E w hr hlk dX10_fits_29
  have hf := q_neg c61 hf
  have t60 : sh r58 = 6 := (X7_morningsAt_t (lay_10_0 t_v0) hc57).resolve_left c61
  rw [rfv_p G (by rw [t60]; decide)]
  obtain ⟨r89, h90, hc88, hf⟩ := bd2_e hf
  refine k_Vi (As := [.ref (ad G r2), .ref (ad G r58)]) (rest := []) E w t_v0 ⟨by decide, rfl⟩ (X10_dawns_c t_v0 (rfv_p G (by rw [t4]; decide)).symm (Or.inr t4) (rfv_p G (by rw [t60]; decide)).symm (Or.inr t60) hc88) mv_RX10_222 rfl rfl hl.1 ⟨Nat.le_of_ble_eq_true rfl, Nat.le_of_ble_eq_true rfl⟩ (Nat.le_of_ble_eq_true rfl) ⟨Nat.le_refl _, Nat.le_refl _⟩ dX10_fits_21 (fun H locs w => ?_)
  refine lv_if_ne (tgt := 30) E.1 E.2.1 dX10_fits_24 (by decide) (fun c91 => ?_) (fun c91 => ?_)
  · have hf := q_neg c91 hf
    refine lv_iload_n E.1 E.2.1 dX10_fits_30 rfl (lv_at hl 4 rfl) ?_
    by_cases c92 : v3 = 0
    · have hf := q_pos c92 hf
      refine lv_tableIn (off := 25) (tgt := 56) E.1 E.2.1 dX10_fits_31 (by rw [c92]; decide) (by rw [c92]; decide) (by rw [c92]; rfl) (by decide) ?_
      refine lv_aload_n E.1 E.2.1 dX10_fits_56 rfl (lv_at hl 1 rfl) ?_
      refine q_gs E w 234 t_v0 fl_RX10_69 dX10_fits_57 ?_
      refine q_gi E w (lay_10_9 t_v0) fl_RX10_226 dX10_fits_60 ?_
      obtain ⟨r94, hc93, hf⟩ := bd1_e hf
      refine k_Si (As := [.int (h90.1 (v0 + 234) 1)]) (rest := []) E w (J6_bitCount_0f7a4_c  hc93) ms_RX10_171 rfl rfl hl.1 ⟨Nat.le_of_ble_eq_true rfl, Nat.le_of_ble_eq_true rfl⟩ (Nat.le_of_ble_eq_true rfl) ⟨Nat.le_refl _, Nat.le_refl _⟩ dX10_fits_63 (fun H locs w => ?_)
      have hf := Option.some.inj hf
      subst hf
      exact q_iret E w hr hlk dX10_fits_66
    have hf := q_neg c92 hf
    by_cases c96 : v3 = 1
    · have hf := q_pos c96 hf
      refine lv_tableIn (off := 36) (tgt := 67) E.1 E.2.1 dX10_fits_31 (by rw [c96]; decide) (by rw [c96]; decide) (by rw [c96]; rfl) (by decide) ?_
      refine lv_aload_n E.1 E.2.1 dX10_fits_67 rfl (lv_at hl 1 rfl) ?_
      refine q_gs E w 234 t_v0 fl_RX10_69 dX10_fits_68 ?_
      refine q_gi E w (lay_10_9 t_v0) fl_RX10_226 dX10_fits_71 ?_
      obtain ⟨r98, hc97, hf⟩ := bd1_e hf
      refine k_Si (As := [.int (h90.1 (v0 + 234) 1)]) (rest := []) E w (J6_bitCount_0f7a4_c  hc97) ms_RX10_171 rfl rfl hl.1 ⟨Nat.le_of_ble_eq_true rfl, Nat.le_of_ble_eq_true rfl⟩ (Nat.le_of_ble_eq_true rfl) ⟨Nat.le_refl _, Nat.le_refl _⟩ dX10_fits_74 (fun H locs w => ?_)
      refine lv_iconst (v := 1) E.1 E.2.1 dX10_fits_77 rfl ?_
      refine lv_icmp_ne (tgt := 95) E.1 E.2.1 dX10_fits_78 (by decide) (fun c100 => ?_) (fun c100 => ?_)
      · have hf := q_neg c100 hf
        refine lv_iconst (v := (-1)) E.1 E.2.1 dX10_fits_95 rfl ?_
        have hf := Option.some.inj hf
        subst hf
        exact q_iret E w hr hlk dX10_fits_96
      · have hf := q_pos c100 hf
        refine lv_aload_n E.1 E.2.1 dX10_fits_81 rfl (lv_at hl 1 rfl) ?_
        refine q_gs E w 234 t_v0 fl_RX10_69 dX10_fits_82 ?_
        refine q_gi E w (lay_10_9 t_v0) fl_RX10_226 dX10_fits_85 ?_
        refine lv_iconst (v := 0) E.1 E.2.1 dX10_fits_88 rfl ?_
        obtain ⟨r102, hc101, hf⟩ := bd1_e hf
        refine k_Si (As := [.int (h90.1 (v0 + 234) 1), .int 0]) (rest := []) E w (X10_bitAt_c  hc101) ms_RX10_229 rfl rfl hl.1 ⟨Nat.le_of_ble_eq_true rfl, Nat.le_of_ble_eq_true rfl⟩ (Nat.le_of_ble_eq_true rfl) ⟨Nat.le_refl _, Nat.le_refl _⟩ dX10_fits_89 (fun H locs w => ?_)
        refine lv_goto (tgt := 96) E.1 E.2.1 dX10_fits_92 (by decide) ?_
        have hf := Option.some.inj hf
        subst hf
        exact q_iret E w hr hlk dX10_fits_96
    have hf := q_neg c96 hf
    by_cases c104 : v3 = 2
    · have hf := q_pos c104 hf
      refine lv_tableIn (off := 66) (tgt := 97) E.1 E.2.1 dX10_fits_31 (by rw [c104]; decide) (by rw [c104]; decide) (by rw [c104]; rfl) (by decide) ?_
      refine lv_aload_n E.1 E.2.1 dX10_fits_97 rfl (lv_at hl 1 rfl) ?_
      refine q_gs E w 234 t_v0 fl_RX10_69 dX10_fits_98 ?_
      refine lv_aload E.1 E.2.1 dX10_fits_101 (lv_at hl 0 rfl) ?_
      obtain ⟨r106, hc105, hf⟩ := bd1_e hf
      refine k_Vi (As := [.ref (ad G r2)]) (rest := []) E w (lay_10_9 t_v0) ⟨by decide, rfl⟩ (X2_question_c (lay_10_9 t_v0) t4 hc105) mv_RX10_232 rfl rfl hl.1 ⟨Nat.le_of_ble_eq_true rfl, Nat.le_of_ble_eq_true rfl⟩ (Nat.le_of_ble_eq_true rfl) ⟨Nat.le_refl _, Nat.le_refl _⟩ dX10_fits_103 (fun H locs w => ?_)
      have hf := Option.some.inj hf
      subst hf
      exact q_iret E w hr hlk dX10_fits_106
    have hf := q_neg c104 hf
    refine lv_tableOut (tgt := 107) E.1 E.2.1 dX10_fits_31 (by have := ne_i c92 (z := 0) (by decide); have := ne_i c96 (z := 1) (by decide); have := ne_i c104 (z := 2) (by decide); omega) (by decide) ?_
    refine lv_iload_n E.1 E.2.1 dX10_fits_107 rfl (lv_at hl 4 rfl) ?_
    refine lv_bipush (v := 10) E.1 E.2.1 dX10_fits_108 rfl ?_
    refine lv_icmp_ge (tgt := 117) E.1 E.2.1 dX10_fits_110 (by decide) (fun c108 => ?_) (fun c108 => ?_)
    · have hf := q_pos c108 hf
      refine lv_aload_n E.1 E.2.1 dX10_fits_117 rfl (lv_at hl 1 rfl) ?_
      refine q_gs E w 234 t_v0 fl_RX10_69 dX10_fits_118 ?_
      refine q_gi E w (lay_10_9 t_v0) fl_RX10_226 dX10_fits_121 ?_
      refine lv_iload_n E.1 E.2.1 dX10_fits_124 rfl (lv_at hl 4 rfl) ?_
      refine lv_bipush (v := 10) E.1 E.2.1 dX10_fits_125 rfl ?_
      refine lv_isub E.1 E.2.1 dX10_fits_127 ?_
      obtain ⟨r110, hc109, hf⟩ := bd1_e hf
      refine k_Si (As := [.int (h90.1 (v0 + 234) 1), .int (v3 - 10)]) (rest := []) E w (X10_bitAt_c  hc109) ms_RX10_229 rfl rfl hl.1 ⟨Nat.le_of_ble_eq_true rfl, Nat.le_of_ble_eq_true rfl⟩ (Nat.le_of_ble_eq_true rfl) ⟨Nat.le_refl _, Nat.le_refl _⟩ dX10_fits_128 (fun H locs w => ?_)
      refine lv_istore (lv' := [(5, .int r110), (4, .ref (ad G r2)), (0, .ref (ad G v0)), (1, .int v1), (2, .int v2), (3, .int v3)]) E.1 E.2.1 dX10_fits_131 hl (by decide) rfl (fun ls hl => ?_)
      refine lv_iload E.1 E.2.1 dX10_fits_133 (lv_at hl 0 rfl) ?_
      refine lv_iconst (v := (-1)) E.1 E.2.1 dX10_fits_135 rfl ?_
      refine lv_icmp_ne (tgt := 144) E.1 E.2.1 dX10_fits_136 (by decide) (fun c112 => ?_) (fun c112 => ?_)
      · have hf := q_neg c112 hf
        refine lv_iload E.1 E.2.1 dX10_fits_144 (lv_at hl 0 rfl) ?_
        have hf := Option.some.inj hf
        subst hf
        exact q_iret E w hr hlk dX10_fits_146
      · have hf := q_pos c112 hf
        refine lv_bipush (v := (-2)) E.1 E.2.1 dX10_fits_139 rfl ?_
        refine lv_goto (tgt := 146) E.1 E.2.1 dX10_fits_141 (by decide) ?_
        have hf := Option.some.inj hf
        subst hf
        exact q_iret E w hr hlk dX10_fits_146
    · have hf := q_neg c108 hf
      refine lv_iconst (v := (-1)) E.1 E.2.1 dX10_fits_113 rfl ?_
      refine lv_goto (tgt := 131) E.1 E.2.1 dX10_fits_114 (by decide) ?_
      refine lv_istore (lv' := [(5, .int (-1)), (4, .ref (ad G r2)), (0, .ref (ad G v0)), (1, .int v1), (2, .int v2), (3, .int v3)]) E.1 E.2.1 dX10_fits_131 hl (by decide) rfl (fun ls hl => ?_)
      refine lv_iload E.1 E.2.1 dX10_fits_133 (lv_at hl 0 rfl) ?_
      refine lv_iconst (v := (-1)) E.1 E.2.1 dX10_fits_135 rfl ?_
      refine lv_icmp_ne (tgt := 144) E.1 E.2.1 dX10_fits_136 (by decide) (fun c113 => ?_) (fun c113 => ?_)
      · have hf := q_neg c113 hf
        refine lv_iload E.1 E.2.1 dX10_fits_144 (lv_at hl 0 rfl) ?_
        have hf := Option.some.inj hf
        subst hf
        exact q_iret E w hr hlk dX10_fits_146
      · have hf := q_pos c113 hf
        refine lv_bipush (v := (-2)) E.1 E.2.1 dX10_fits_139 rfl ?_
        refine lv_goto (tgt := 146) E.1 E.2.1 dX10_fits_141 (by decide) ?_
        have hf := Option.some.inj hf
        subst hf
        exact q_iret E w hr hlk dX10_fits_146
  · have hf := q_pos c91 hf
    refine lv_bipush (v := (-2)) E.1 E.2.1 dX10_fits_27 rfl ?_
    have hf := Option.some.inj hf
    subst hf
    exact q_iret E w hr hlk dX10_fits_29

def X10_drawn (N : Nat) (h : HS) (v0 : Nat) (v1 : Int32) (v2 : Int32) (v3 : Int32) (v4 : Int32) : Option (Int32 × HS) := bd1 (X7_houseAt N h (v0 + 1) v1) fun r2 => (if r2 = 0 then some ((-2), h) else (if v3 < 0 then some ((-2), h) else (if v3 ≤ (60 : Int32) then bd1 (X3_draw N h (v0 + 184) r2 v2 v3) fun h10 => bd1 (X3_look N h10 (v0 + 184) v4) fun r12 => some (r12, h10) else some ((-2), h))))
set_option maxRecDepth 4000 in
set_option maxHeartbeats 2000000 in
theorem X10_drawn_c {l : Launch} {G : GT} {N : Nat} {h : HS} {v0 : Nat} {v1 : Int32} {v2 : Int32} {v3 : Int32} {v4 : Int32} {z : (Int32 × HS)} (t_v0 : sh v0 = 10) (hf : X10_drawn N h v0 v1 v2 v3 v4 = some z) : CT l G yX10_drawn cX10_drawn 6 (some .int) 8 174 [.ref (ad G v0), .int v1, .int v2, .int v3, .int v4] h (some (.int z.1)) z.2 := by
  unfold X10_drawn at hf
  refine CT.of (by decide) (Nat.le_of_ble_eq_true rfl) ?_
  intro p e s m below meth c ls E hr hlk w hl
  have hl : lv_has ls 6 [(0, .ref (ad G v0)), (1, .int v1), (2, .int v2), (3, .int v3), (4, .int v4)] := hl
  refine lv_aload_n E.1 E.2.1 dX10_drawn_0 rfl (lv_at hl 0 rfl) ?_
  refine q_gs E w 1 t_v0 fl_RX10_10 dX10_drawn_1 ?_
  refine lv_iload_n E.1 E.2.1 dX10_drawn_4 rfl (lv_at hl 1 rfl) ?_
  obtain ⟨r2, hc1, hf⟩ := bd1_e hf
  refine k_Vr (As := [.int v1]) (rest := []) E w (lay_10_0 t_v0) ⟨by decide, rfl⟩ (X7_houseAt_c (lay_10_0 t_v0) hc1) mv_RX10_113 rfl rfl hl.1 ⟨Nat.le_of_ble_eq_true rfl, Nat.le_of_ble_eq_true rfl⟩ (Nat.le_of_ble_eq_true rfl) ⟨Nat.le_refl _, Nat.le_refl _⟩ dX10_drawn_5 (fun H locs w => ?_)
  by_cases c5 : r2 = 0
  · have hf := q_pos c5 hf
    rw [c5, rfv_0]
    refine lv_astoreN (lv' := [(5, .null), (0, .ref (ad G v0)), (1, .int v1), (2, .int v2), (3, .int v3), (4, .int v4)]) E.1 E.2.1 dX10_drawn_8 hl (by decide) rfl (fun ls hl => ?_)
    refine lv_aloadN E.1 E.2.1 dX10_drawn_10 (lv_at hl 0 rfl) ?_
    refine lv_ifnullN (tgt := 25) E.1 E.2.1 dX10_drawn_12 (by decide) ?_
    refine lv_bipush (v := (-2)) E.1 E.2.1 dX10_drawn_25 rfl ?_
    have hf := Option.some.inj hf
    subst hf
    exact q_iret E w hr hlk dX10_drawn_27
  have hf := q_neg c5 hf
  have t4 : sh r2 = 1 := (X7_houseAt_t (lay_10_0 t_v0) hc1).resolve_left c5
  rw [rfv_p G (by rw [t4]; decide)]
  refine lv_astore (lv' := [(5, .ref (ad G r2)), (0, .ref (ad G v0)), (1, .int v1), (2, .int v2), (3, .int v3), (4, .int v4)]) E.1 E.2.1 dX10_drawn_8 hl (by decide) rfl (fun ls hl => ?_)
  refine lv_aload E.1 E.2.1 dX10_drawn_10 (lv_at hl 0 rfl) ?_
  refine lv_ifnull E.1 E.2.1 dX10_drawn_12 ?_
  refine lv_iload_n E.1 E.2.1 dX10_drawn_15 rfl (lv_at hl 4 rfl) ?_
  refine lv_if_lt (tgt := 25) E.1 E.2.1 dX10_drawn_16 (by decide) (fun c6 => ?_) (fun c6 => ?_)
  · have hf := q_pos c6 hf
    refine lv_bipush (v := (-2)) E.1 E.2.1 dX10_drawn_25 rfl ?_
    have hf := Option.some.inj hf
    subst hf
    exact q_iret E w hr hlk dX10_drawn_27
  · have hf := q_neg c6 hf
    refine lv_iload_n E.1 E.2.1 dX10_drawn_19 rfl (lv_at hl 4 rfl) ?_
    refine lv_bipush (v := 60) E.1 E.2.1 dX10_drawn_20 rfl ?_
    refine lv_icmp_le (tgt := 28) E.1 E.2.1 dX10_drawn_22 (by decide) (fun c7 => ?_) (fun c7 => ?_)
    · have hf := q_pos c7 hf
      refine lv_aload_n E.1 E.2.1 dX10_drawn_28 rfl (lv_at hl 1 rfl) ?_
      refine q_gs E w 184 t_v0 fl_RX10_41 dX10_drawn_29 ?_
      refine lv_aload E.1 E.2.1 dX10_drawn_32 (lv_at hl 0 rfl) ?_
      refine lv_iload_n E.1 E.2.1 dX10_drawn_34 rfl (lv_at hl 3 rfl) ?_
      refine lv_iload_n E.1 E.2.1 dX10_drawn_35 rfl (lv_at hl 4 rfl) ?_
      obtain ⟨h10, hc8, hf⟩ := bd1_e hf
      refine k_Vv (As := [.ref (ad G r2), .int v2, .int v3]) (rest := []) E w (lay_10_5 t_v0) ⟨by decide, rfl⟩ (X3_draw_c (lay_10_5 t_v0) t4 hc8) mv_RX10_235 rfl rfl hl.1 ⟨Nat.le_of_ble_eq_true rfl, Nat.le_of_ble_eq_true rfl⟩ (Nat.le_of_ble_eq_true rfl) ⟨Nat.le_refl _, Nat.le_refl _⟩ dX10_drawn_36 (fun H locs w => ?_)
      refine lv_aload_n E.1 E.2.1 dX10_drawn_39 rfl (lv_at hl 1 rfl) ?_
      refine q_gs E w 184 t_v0 fl_RX10_41 dX10_drawn_40 ?_
      refine lv_iload E.1 E.2.1 dX10_drawn_43 (lv_at hl 5 rfl) ?_
      obtain ⟨r12, hc11, hf⟩ := bd1_e hf
      refine k_Vi (As := [.int v4]) (rest := []) E w (lay_10_5 t_v0) ⟨by decide, rfl⟩ (X3_look_c (lay_10_5 t_v0) hc11) mv_RX10_153 rfl rfl hl.1 ⟨Nat.le_of_ble_eq_true rfl, Nat.le_of_ble_eq_true rfl⟩ (Nat.le_of_ble_eq_true rfl) ⟨Nat.le_refl _, Nat.le_refl _⟩ dX10_drawn_45 (fun H locs w => ?_)
      have hf := Option.some.inj hf
      subst hf
      exact q_iret E w hr hlk dX10_drawn_48
    · have hf := q_neg c7 hf
      refine lv_bipush (v := (-2)) E.1 E.2.1 dX10_drawn_25 rfl ?_
      have hf := Option.some.inj hf
      subst hf
      exact q_iret E w hr hlk dX10_drawn_27

def X10_sung (N : Nat) (h : HS) (v0 : Nat) (v1 : Int32) (v2 : Int32) (v3 : Int32) : Option (Int32 × HS) := bd1 (X7_houseAt N h (v0 + 1) v1) fun r2 => (if r2 = 0 then some ((-1), h) else bd1 (X1_hasSinger N h r2 v2) fun r7 => (if r7 = 0 then some ((-1), h) else bd2 (X5_finds N h (v0 + 170) r2) fun r11 h12 => (if r11 = 0 then some ((-1), h12) else (if v3 = 0 then bd1 (X5_barsOf N h12 (v0 + 170) v2) fun r16 => some (r16, h12) else bd1 (X5_breathOf N h12 (v0 + 170) v2) fun r19 => some (r19, h12)))))
set_option maxRecDepth 4000 in
set_option maxHeartbeats 2000000 in
theorem X10_sung_c {l : Launch} {G : GT} {N : Nat} {h : HS} {v0 : Nat} {v1 : Int32} {v2 : Int32} {v3 : Int32} {z : (Int32 × HS)} (t_v0 : sh v0 = 10) (hf : X10_sung N h v0 v1 v2 v3 = some z) : CT l G yX10_sung cX10_sung 5 (some .int) 27 581 [.ref (ad G v0), .int v1, .int v2, .int v3] h (some (.int z.1)) z.2 := by
  unfold X10_sung at hf
  refine CT.of (by decide) (Nat.le_of_ble_eq_true rfl) ?_
  intro p e s m below meth c ls E hr hlk w hl
  have hl : lv_has ls 5 [(0, .ref (ad G v0)), (1, .int v1), (2, .int v2), (3, .int v3)] := hl
  refine lv_aload_n E.1 E.2.1 dX10_sung_0 rfl (lv_at hl 0 rfl) ?_
  refine q_gs E w 1 t_v0 fl_RX10_10 dX10_sung_1 ?_
  refine lv_iload_n E.1 E.2.1 dX10_sung_4 rfl (lv_at hl 1 rfl) ?_
  obtain ⟨r2, hc1, hf⟩ := bd1_e hf
  refine k_Vr (As := [.int v1]) (rest := []) E w (lay_10_0 t_v0) ⟨by decide, rfl⟩ (X7_houseAt_c (lay_10_0 t_v0) hc1) mv_RX10_113 rfl rfl hl.1 ⟨Nat.le_of_ble_eq_true rfl, Nat.le_of_ble_eq_true rfl⟩ (Nat.le_of_ble_eq_true rfl) ⟨Nat.le_refl _, Nat.le_refl _⟩ dX10_sung_5 (fun H locs w => ?_)
  by_cases c5 : r2 = 0
  · have hf := q_pos c5 hf
    rw [c5, rfv_0]
    refine lv_astoreN (lv' := [(4, .null), (0, .ref (ad G v0)), (1, .int v1), (2, .int v2), (3, .int v3)]) E.1 E.2.1 dX10_sung_8 hl (by decide) rfl (fun ls hl => ?_)
    refine lv_aloadN E.1 E.2.1 dX10_sung_10 (lv_at hl 0 rfl) ?_
    refine lv_ifnullN (tgt := 36) E.1 E.2.1 dX10_sung_12 (by decide) ?_
    refine lv_iconst (v := (-1)) E.1 E.2.1 dX10_sung_36 rfl ?_
    have hf := Option.some.inj hf
    subst hf
    exact q_iret E w hr hlk dX10_sung_37
  have hf := q_neg c5 hf
  have t4 : sh r2 = 1 := (X7_houseAt_t (lay_10_0 t_v0) hc1).resolve_left c5
  rw [rfv_p G (by rw [t4]; decide)]
  refine lv_astore (lv' := [(4, .ref (ad G r2)), (0, .ref (ad G v0)), (1, .int v1), (2, .int v2), (3, .int v3)]) E.1 E.2.1 dX10_sung_8 hl (by decide) rfl (fun ls hl => ?_)
  refine lv_aload E.1 E.2.1 dX10_sung_10 (lv_at hl 0 rfl) ?_
  refine lv_ifnull E.1 E.2.1 dX10_sung_12 ?_
  refine lv_aload E.1 E.2.1 dX10_sung_15 (lv_at hl 0 rfl) ?_
  refine lv_iload_n E.1 E.2.1 dX10_sung_17 rfl (lv_at hl 3 rfl) ?_
  obtain ⟨r7, hc6, hf⟩ := bd1_e hf
  refine k_Vi (As := [.int v2]) (rest := []) E w t4 ⟨by decide, rfl⟩ (X1_hasSinger_c t4 hc6) mv_RX10_239 rfl rfl hl.1 ⟨Nat.le_of_ble_eq_true rfl, Nat.le_of_ble_eq_true rfl⟩ (Nat.le_of_ble_eq_true rfl) ⟨Nat.le_refl _, Nat.le_refl _⟩ dX10_sung_18 (fun H locs w => ?_)
  refine lv_if_eq (tgt := 36) E.1 E.2.1 dX10_sung_21 (by decide) (fun c9 => ?_) (fun c9 => ?_)
  · have hf := q_pos c9 hf
    refine lv_iconst (v := (-1)) E.1 E.2.1 dX10_sung_36 rfl ?_
    have hf := Option.some.inj hf
    subst hf
    exact q_iret E w hr hlk dX10_sung_37
  · have hf := q_neg c9 hf
    refine lv_aload_n E.1 E.2.1 dX10_sung_24 rfl (lv_at hl 1 rfl) ?_
    refine q_gs E w 170 t_v0 fl_RX10_34 dX10_sung_25 ?_
    refine lv_aload E.1 E.2.1 dX10_sung_28 (lv_at hl 0 rfl) ?_
    obtain ⟨r11, h12, hc10, hf⟩ := bd2_e hf
    refine k_Vi (As := [.ref (ad G r2)]) (rest := []) E w (lay_10_4 t_v0) ⟨by decide, rfl⟩ (X5_finds_c (lay_10_4 t_v0) t4 hc10) mv_RX10_160 rfl rfl hl.1 ⟨Nat.le_of_ble_eq_true rfl, Nat.le_of_ble_eq_true rfl⟩ (Nat.le_of_ble_eq_true rfl) ⟨Nat.le_refl _, Nat.le_refl _⟩ dX10_sung_30 (fun H locs w => ?_)
    refine lv_if_ne (tgt := 38) E.1 E.2.1 dX10_sung_33 (by decide) (fun c13 => ?_) (fun c13 => ?_)
    · have hf := q_neg c13 hf
      refine lv_iload_n E.1 E.2.1 dX10_sung_38 rfl (lv_at hl 4 rfl) ?_
      refine lv_if_eq (tgt := 53) E.1 E.2.1 dX10_sung_39 (by decide) (fun c14 => ?_) (fun c14 => ?_)
      · have hf := q_pos c14 hf
        refine lv_aload_n E.1 E.2.1 dX10_sung_53 rfl (lv_at hl 1 rfl) ?_
        refine q_gs E w 170 t_v0 fl_RX10_34 dX10_sung_54 ?_
        refine lv_iload_n E.1 E.2.1 dX10_sung_57 rfl (lv_at hl 3 rfl) ?_
        obtain ⟨r16, hc15, hf⟩ := bd1_e hf
        refine k_Vi (As := [.int v2]) (rest := []) E w (lay_10_4 t_v0) ⟨by decide, rfl⟩ (X5_barsOf_c (lay_10_4 t_v0) hc15) mv_RX10_245 rfl rfl hl.1 ⟨Nat.le_of_ble_eq_true rfl, Nat.le_of_ble_eq_true rfl⟩ (Nat.le_of_ble_eq_true rfl) ⟨Nat.le_refl _, Nat.le_refl _⟩ dX10_sung_58 (fun H locs w => ?_)
        have hf := Option.some.inj hf
        subst hf
        exact q_iret E w hr hlk dX10_sung_61
      · have hf := q_neg c14 hf
        refine lv_aload_n E.1 E.2.1 dX10_sung_42 rfl (lv_at hl 1 rfl) ?_
        refine q_gs E w 170 t_v0 fl_RX10_34 dX10_sung_43 ?_
        refine lv_iload_n E.1 E.2.1 dX10_sung_46 rfl (lv_at hl 3 rfl) ?_
        obtain ⟨r19, hc18, hf⟩ := bd1_e hf
        refine k_Vi (As := [.int v2]) (rest := []) E w (lay_10_4 t_v0) ⟨by decide, rfl⟩ (X5_breathOf_c (lay_10_4 t_v0) hc18) mv_RX10_242 rfl rfl hl.1 ⟨Nat.le_of_ble_eq_true rfl, Nat.le_of_ble_eq_true rfl⟩ (Nat.le_of_ble_eq_true rfl) ⟨Nat.le_refl _, Nat.le_refl _⟩ dX10_sung_47 (fun H locs w => ?_)
        refine lv_goto (tgt := 61) E.1 E.2.1 dX10_sung_50 (by decide) ?_
        have hf := Option.some.inj hf
        subst hf
        exact q_iret E w hr hlk dX10_sung_61
    · have hf := q_pos c13 hf
      refine lv_iconst (v := (-1)) E.1 E.2.1 dX10_sung_36 rfl ?_
      have hf := Option.some.inj hf
      subst hf
      exact q_iret E w hr hlk dX10_sung_37

def X10_spare_b82 (N : Nat) (h : HS) (v0 : Nat) (v2 : Int32) (v3 : Nat) : Option (Int32 × HS) := (if v2 < (20 : Int32) then some ((-2), h) else bd1 (X1_hasSinger N h v3 (v2 - 20)) fun r12 => (if r12 = 0 then some ((-2), h) else bd2 (X5_finds N h (v0 + 170) v3) fun r16 h17 => (if r16 = 0 then some ((-1), h17) else bd1 (X5_coldDreams N h17 (v0 + 170) (v2 - 20)) fun r20 => bd1 (X1_peopleOf N h17 v3 r20) fun r23 => some (r23, h17))))
set_option maxRecDepth 4000 in
set_option maxHeartbeats 2000000 in
theorem X10_spare_b82_w {p : Program} {l : Launch} {e : Env} {s : State} {m : MethodId} {args : Array Value} {below : List Frame} {meth : Method} {c : Code} {G : GT} {N : Nat} {z : (Int32 × HS)} {h : HS} (E : CallFix p m c cX10_spare 4 s args UW RX10) (hr : meth.sig.returnType = (some .int)) (hlk : meth.locks = false) {H : Heap} {locs : List Loc} {ls : Array Slot} {v0 : Nat} {v2 : Int32} {v3 : Nat} (hf : X10_spare_b82 N h v0 v2 v3 = some z) (w : WD G s h H locs) (t_v0 : sh v0 = 10) (t_v3 : sh v3 = 1) (hl : lv_has ls 4 [(0, .ref (ad G v0)), (2, .int v2), (3, .ref (ad G v3))]) : W p l e ({ frames := 27, cells := 0, slots := 0, locals := 583 } : Room) s m args below meth c H locs 0 0 (MQ below (QC G (some (.int z.1)) z.2) args s 0 0 (AD G)) (F0 m 82 ls []) := by
  unfold X10_spare_b82 at hf
  refine lv_iload_n E.1 E.2.1 dX10_spare_82 rfl (lv_at hl 1 rfl) ?_
  refine lv_bipush (v := 20) E.1 E.2.1 dX10_spare_83 rfl ?_
  refine lv_icmp_lt (tgt := 99) E.1 E.2.1 dX10_spare_85 (by decide) (fun c10 => ?_) (fun c10 => ?_)
  · have hf := q_pos c10 hf
    refine lv_bipush (v := (-2)) E.1 E.2.1 dX10_spare_99 rfl ?_
    have hf := Option.some.inj hf
    subst hf
    exact q_iret E w hr hlk dX10_spare_101
  · have hf := q_neg c10 hf
    refine lv_aload_n E.1 E.2.1 dX10_spare_88 rfl (lv_at hl 2 rfl) ?_
    refine lv_iload_n E.1 E.2.1 dX10_spare_89 rfl (lv_at hl 1 rfl) ?_
    refine lv_bipush (v := 20) E.1 E.2.1 dX10_spare_90 rfl ?_
    refine lv_isub E.1 E.2.1 dX10_spare_92 ?_
    obtain ⟨r12, hc11, hf⟩ := bd1_e hf
    refine k_Vi (As := [.int (v2 - 20)]) (rest := []) E w t_v3 ⟨by decide, rfl⟩ (X1_hasSinger_c t_v3 hc11) mv_RX10_239 rfl rfl hl.1 ⟨Nat.le_of_ble_eq_true rfl, Nat.le_of_ble_eq_true rfl⟩ (Nat.le_of_ble_eq_true rfl) ⟨Nat.le_refl _, Nat.le_refl _⟩ dX10_spare_93 (fun H locs w => ?_)
    refine lv_if_ne (tgt := 102) E.1 E.2.1 dX10_spare_96 (by decide) (fun c14 => ?_) (fun c14 => ?_)
    · have hf := q_neg c14 hf
      refine lv_aload_n E.1 E.2.1 dX10_spare_102 rfl (lv_at hl 0 rfl) ?_
      refine q_gs E w 170 t_v0 fl_RX10_34 dX10_spare_103 ?_
      refine lv_aload_n E.1 E.2.1 dX10_spare_106 rfl (lv_at hl 2 rfl) ?_
      obtain ⟨r16, h17, hc15, hf⟩ := bd2_e hf
      refine k_Vi (As := [.ref (ad G v3)]) (rest := []) E w (lay_10_4 t_v0) ⟨by decide, rfl⟩ (X5_finds_c (lay_10_4 t_v0) t_v3 hc15) mv_RX10_160 rfl rfl hl.1 ⟨Nat.le_of_ble_eq_true rfl, Nat.le_of_ble_eq_true rfl⟩ (Nat.le_of_ble_eq_true rfl) ⟨Nat.le_refl _, Nat.le_refl _⟩ dX10_spare_107 (fun H locs w => ?_)
      refine lv_if_eq (tgt := 131) E.1 E.2.1 dX10_spare_110 (by decide) (fun c18 => ?_) (fun c18 => ?_)
      · have hf := q_pos c18 hf
        refine lv_iconst (v := (-1)) E.1 E.2.1 dX10_spare_131 rfl ?_
        have hf := Option.some.inj hf
        subst hf
        exact q_iret E w hr hlk dX10_spare_132
      · have hf := q_neg c18 hf
        refine lv_aload_n E.1 E.2.1 dX10_spare_113 rfl (lv_at hl 2 rfl) ?_
        refine lv_aload_n E.1 E.2.1 dX10_spare_114 rfl (lv_at hl 0 rfl) ?_
        refine q_gs E w 170 t_v0 fl_RX10_34 dX10_spare_115 ?_
        refine lv_iload_n E.1 E.2.1 dX10_spare_118 rfl (lv_at hl 1 rfl) ?_
        refine lv_bipush (v := 20) E.1 E.2.1 dX10_spare_119 rfl ?_
        refine lv_isub E.1 E.2.1 dX10_spare_121 ?_
        obtain ⟨r20, hc19, hf⟩ := bd1_e hf
        refine k_Vi (As := [.int (v2 - 20)]) (rest := [.ref (ad G v3)]) E w (lay_10_4 t_v0) ⟨by decide, rfl⟩ (X5_coldDreams_c (lay_10_4 t_v0) hc19) mv_RX10_257 rfl rfl hl.1 ⟨Nat.le_of_ble_eq_true rfl, Nat.le_of_ble_eq_true rfl⟩ (Nat.le_of_ble_eq_true rfl) ⟨Nat.le_refl _, Nat.le_refl _⟩ dX10_spare_122 (fun H locs w => ?_)
        obtain ⟨r23, hc22, hf⟩ := bd1_e hf
        refine k_Vi (As := [.int r20]) (rest := []) E w t_v3 ⟨by decide, rfl⟩ (X1_peopleOf_c t_v3 hc22) mv_RX10_260 rfl rfl hl.1 ⟨Nat.le_of_ble_eq_true rfl, Nat.le_of_ble_eq_true rfl⟩ (Nat.le_of_ble_eq_true rfl) ⟨Nat.le_refl _, Nat.le_refl _⟩ dX10_spare_125 (fun H locs w => ?_)
        refine lv_goto (tgt := 132) E.1 E.2.1 dX10_spare_128 (by decide) ?_
        have hf := Option.some.inj hf
        subst hf
        exact q_iret E w hr hlk dX10_spare_132
    · have hf := q_pos c14 hf
      refine lv_bipush (v := (-2)) E.1 E.2.1 dX10_spare_99 rfl ?_
      have hf := Option.some.inj hf
      subst hf
      exact q_iret E w hr hlk dX10_spare_101

def X10_spare (N : Nat) (h : HS) (v0 : Nat) (v1 : Int32) (v2 : Int32) : Option (Int32 × HS) := bd1 (X7_houseAt N h (v0 + 1) v1) fun r2 => (if r2 = 0 then some ((-2), h) else (if v2 = 0 then bd2 (X5_spares N h (v0 + 170) r2) fun r36 h37 => some (r36, h37) else (if v2 = (1 : Int32) then bd2 (X5_all N h (v0 + 170) r2) fun r33 h34 => some (r33, h34) else (if v2 = (2 : Int32) then bd2 (X5_cure N h (v0 + 170) r2) fun r30 h31 => some (r30, h31) else (if v2 < (10 : Int32) then X10_spare_b82 N h v0 v2 r2 else (if (19 : Int32) < v2 then X10_spare_b82 N h v0 v2 r2 else bd2 (X5_farWith N h (v0 + 170) r2 (v2 - 10)) fun r27 h28 => some (r27, h28)))))))
set_option maxRecDepth 4000 in
set_option maxHeartbeats 2000000 in
theorem X10_spare_c {l : Launch} {G : GT} {N : Nat} {h : HS} {v0 : Nat} {v1 : Int32} {v2 : Int32} {z : (Int32 × HS)} (t_v0 : sh v0 = 10) (hf : X10_spare N h v0 v1 v2 = some z) : CT l G yX10_spare cX10_spare 4 (some .int) 27 583 [.ref (ad G v0), .int v1, .int v2] h (some (.int z.1)) z.2 := by
  unfold X10_spare at hf
  refine CT.of (by decide) (Nat.le_of_ble_eq_true rfl) ?_
  intro p e s m below meth c ls E hr hlk w hl
  have hl : lv_has ls 4 [(0, .ref (ad G v0)), (1, .int v1), (2, .int v2)] := hl
  refine lv_aload_n E.1 E.2.1 dX10_spare_0 rfl (lv_at hl 0 rfl) ?_
  refine q_gs E w 1 t_v0 fl_RX10_10 dX10_spare_1 ?_
  refine lv_iload_n E.1 E.2.1 dX10_spare_4 rfl (lv_at hl 1 rfl) ?_
  obtain ⟨r2, hc1, hf⟩ := bd1_e hf
  refine k_Vr (As := [.int v1]) (rest := []) E w (lay_10_0 t_v0) ⟨by decide, rfl⟩ (X7_houseAt_c (lay_10_0 t_v0) hc1) mv_RX10_113 rfl rfl hl.1 ⟨Nat.le_of_ble_eq_true rfl, Nat.le_of_ble_eq_true rfl⟩ (Nat.le_of_ble_eq_true rfl) ⟨Nat.le_refl _, Nat.le_refl _⟩ dX10_spare_5 (fun H locs w => ?_)
  by_cases c5 : r2 = 0
  · have hf := q_pos c5 hf
    rw [c5, rfv_0]
    refine lv_astore_nN (lv' := [(3, .null), (0, .ref (ad G v0)), (1, .int v1), (2, .int v2)]) E.1 E.2.1 dX10_spare_8 rfl hl (by decide) rfl (fun ls hl => ?_)
    refine lv_aload_nN E.1 E.2.1 dX10_spare_9 rfl (lv_at hl 0 rfl) ?_
    refine lv_ifnonnullN E.1 E.2.1 dX10_spare_10 ?_
    refine lv_bipush (v := (-2)) E.1 E.2.1 dX10_spare_13 rfl ?_
    have hf := Option.some.inj hf
    subst hf
    exact q_iret E w hr hlk dX10_spare_15
  have hf := q_neg c5 hf
  have t4 : sh r2 = 1 := (X7_houseAt_t (lay_10_0 t_v0) hc1).resolve_left c5
  rw [rfv_p G (by rw [t4]; decide)]
  refine lv_astore_n (lv' := [(3, .ref (ad G r2)), (0, .ref (ad G v0)), (1, .int v1), (2, .int v2)]) E.1 E.2.1 dX10_spare_8 rfl hl (by decide) rfl (fun ls hl => ?_)
  refine lv_aload_n E.1 E.2.1 dX10_spare_9 rfl (lv_at hl 0 rfl) ?_
  refine lv_ifnonnull (tgt := 16) E.1 E.2.1 dX10_spare_10 (by decide) ?_
  refine lv_iload_n E.1 E.2.1 dX10_spare_16 rfl (lv_at hl 3 rfl) ?_
  refine lv_if_ne (tgt := 29) E.1 E.2.1 dX10_spare_17 (by decide) (fun c6 => ?_) (fun c6 => ?_)
  · have hf := q_neg c6 hf
    refine lv_iload_n E.1 E.2.1 dX10_spare_29 rfl (lv_at hl 3 rfl) ?_
    refine lv_iconst (v := 1) E.1 E.2.1 dX10_spare_30 rfl ?_
    refine lv_icmp_ne (tgt := 43) E.1 E.2.1 dX10_spare_31 (by decide) (fun c7 => ?_) (fun c7 => ?_)
    · have hf := q_neg c7 hf
      refine lv_iload_n E.1 E.2.1 dX10_spare_43 rfl (lv_at hl 3 rfl) ?_
      refine lv_iconst (v := 2) E.1 E.2.1 dX10_spare_44 rfl ?_
      refine lv_icmp_ne (tgt := 57) E.1 E.2.1 dX10_spare_45 (by decide) (fun c8 => ?_) (fun c8 => ?_)
      · have hf := q_neg c8 hf
        refine lv_iload_n E.1 E.2.1 dX10_spare_57 rfl (lv_at hl 3 rfl) ?_
        refine lv_bipush (v := 10) E.1 E.2.1 dX10_spare_58 rfl ?_
        refine lv_icmp_lt (tgt := 82) E.1 E.2.1 dX10_spare_60 (by decide) (fun c9 => ?_) (fun c9 => ?_)
        · have hf := q_pos c9 hf
          exact X10_spare_b82_w E hr hlk hf w t_v0 t4 (lv_sub hl [1, 3, 0] rfl)
        · have hf := q_neg c9 hf
          refine lv_iload_n E.1 E.2.1 dX10_spare_63 rfl (lv_at hl 3 rfl) ?_
          refine lv_bipush (v := 19) E.1 E.2.1 dX10_spare_64 rfl ?_
          refine lv_icmp_gt (tgt := 82) E.1 E.2.1 dX10_spare_66 (by decide) (fun c25 => ?_) (fun c25 => ?_)
          · have hf := q_pos c25 hf
            exact X10_spare_b82_w E hr hlk hf w t_v0 t4 (lv_sub hl [1, 3, 0] rfl)
          · have hf := q_neg c25 hf
            refine lv_aload_n E.1 E.2.1 dX10_spare_69 rfl (lv_at hl 1 rfl) ?_
            refine q_gs E w 170 t_v0 fl_RX10_34 dX10_spare_70 ?_
            refine lv_aload_n E.1 E.2.1 dX10_spare_73 rfl (lv_at hl 0 rfl) ?_
            refine lv_iload_n E.1 E.2.1 dX10_spare_74 rfl (lv_at hl 3 rfl) ?_
            refine lv_bipush (v := 10) E.1 E.2.1 dX10_spare_75 rfl ?_
            refine lv_isub E.1 E.2.1 dX10_spare_77 ?_
            obtain ⟨r27, h28, hc26, hf⟩ := bd2_e hf
            refine k_Vi (As := [.ref (ad G r2), .int (v2 - 10)]) (rest := []) E w (lay_10_4 t_v0) ⟨by decide, rfl⟩ (X5_farWith_c (lay_10_4 t_v0) t4 hc26) mv_RX10_180 rfl rfl hl.1 ⟨Nat.le_of_ble_eq_true rfl, Nat.le_of_ble_eq_true rfl⟩ (Nat.le_of_ble_eq_true rfl) ⟨Nat.le_refl _, Nat.le_refl _⟩ dX10_spare_78 (fun H locs w => ?_)
            have hf := Option.some.inj hf
            subst hf
            exact q_iret E w hr hlk dX10_spare_81
      · have hf := q_pos c8 hf
        refine lv_aload_n E.1 E.2.1 dX10_spare_48 rfl (lv_at hl 1 rfl) ?_
        refine q_gs E w 170 t_v0 fl_RX10_34 dX10_spare_49 ?_
        refine lv_aload_n E.1 E.2.1 dX10_spare_52 rfl (lv_at hl 0 rfl) ?_
        obtain ⟨r30, h31, hc29, hf⟩ := bd2_e hf
        refine k_Vi (As := [.ref (ad G r2)]) (rest := []) E w (lay_10_4 t_v0) ⟨by decide, rfl⟩ (X5_cure_c (lay_10_4 t_v0) t4 hc29) mv_RX10_254 rfl rfl hl.1 ⟨Nat.le_of_ble_eq_true rfl, Nat.le_of_ble_eq_true rfl⟩ (Nat.le_of_ble_eq_true rfl) ⟨Nat.le_refl _, Nat.le_refl _⟩ dX10_spare_53 (fun H locs w => ?_)
        have hf := Option.some.inj hf
        subst hf
        exact q_iret E w hr hlk dX10_spare_56
    · have hf := q_pos c7 hf
      refine lv_aload_n E.1 E.2.1 dX10_spare_34 rfl (lv_at hl 1 rfl) ?_
      refine q_gs E w 170 t_v0 fl_RX10_34 dX10_spare_35 ?_
      refine lv_aload_n E.1 E.2.1 dX10_spare_38 rfl (lv_at hl 0 rfl) ?_
      obtain ⟨r33, h34, hc32, hf⟩ := bd2_e hf
      refine k_Vi (As := [.ref (ad G r2)]) (rest := []) E w (lay_10_4 t_v0) ⟨by decide, rfl⟩ (X5_all_c (lay_10_4 t_v0) t4 hc32) mv_RX10_251 rfl rfl hl.1 ⟨Nat.le_of_ble_eq_true rfl, Nat.le_of_ble_eq_true rfl⟩ (Nat.le_of_ble_eq_true rfl) ⟨Nat.le_refl _, Nat.le_refl _⟩ dX10_spare_39 (fun H locs w => ?_)
      have hf := Option.some.inj hf
      subst hf
      exact q_iret E w hr hlk dX10_spare_42
  · have hf := q_pos c6 hf
    refine lv_aload_n E.1 E.2.1 dX10_spare_20 rfl (lv_at hl 1 rfl) ?_
    refine q_gs E w 170 t_v0 fl_RX10_34 dX10_spare_21 ?_
    refine lv_aload_n E.1 E.2.1 dX10_spare_24 rfl (lv_at hl 0 rfl) ?_
    obtain ⟨r36, h37, hc35, hf⟩ := bd2_e hf
    refine k_Vi (As := [.ref (ad G r2)]) (rest := []) E w (lay_10_4 t_v0) ⟨by decide, rfl⟩ (X5_spares_c (lay_10_4 t_v0) t4 hc35) mv_RX10_248 rfl rfl hl.1 ⟨Nat.le_of_ble_eq_true rfl, Nat.le_of_ble_eq_true rfl⟩ (Nat.le_of_ble_eq_true rfl) ⟨Nat.le_refl _, Nat.le_refl _⟩ dX10_spare_25 (fun H locs w => ?_)
    have hf := Option.some.inj hf
    subst hf
    exact q_iret E w hr hlk dX10_spare_28

def X10_ease_b28 (N : Nat) (h : HS) (v0 : Nat) (v2 : Int32) (v3 : Nat) : Option (Int32 × HS) := bd2 (X5_easiest N h (v0 + 170) v3) fun r8 h9 => (if r8 = ((-1) : Int32) then some (r8, h9) else (if v2 = ((-1) : Int32) then some (r8, h9) else bd1 (X5_singerOf N h9 (v0 + 170) v2) fun r13 => some (r13, h9)))
set_option maxRecDepth 4000 in
set_option maxHeartbeats 2000000 in
theorem X10_ease_b28_w {p : Program} {l : Launch} {e : Env} {s : State} {m : MethodId} {args : Array Value} {below : List Frame} {meth : Method} {c : Code} {G : GT} {N : Nat} {z : (Int32 × HS)} {h : HS} (E : CallFix p m c cX10_ease 5 s args UW RX10) (hr : meth.sig.returnType = (some .int)) (hlk : meth.locks = false) {H : Heap} {locs : List Loc} {ls : Array Slot} {v0 : Nat} {v2 : Int32} {v3 : Nat} (hf : X10_ease_b28 N h v0 v2 v3 = some z) (w : WD G s h H locs) (t_v0 : sh v0 = 10) (t_v3 : sh v3 = 1) (hl : lv_has ls 5 [(0, .ref (ad G v0)), (2, .int v2), (3, .ref (ad G v3))]) : W p l e ({ frames := 27, cells := 0, slots := 0, locals := 582 } : Room) s m args below meth c H locs 0 0 (MQ below (QC G (some (.int z.1)) z.2) args s 0 0 (AD G)) (F0 m 28 ls []) := by
  unfold X10_ease_b28 at hf
  refine lv_aload_n E.1 E.2.1 dX10_ease_28 rfl (lv_at hl 0 rfl) ?_
  refine q_gs E w 170 t_v0 fl_RX10_34 dX10_ease_29 ?_
  refine lv_aload_n E.1 E.2.1 dX10_ease_32 rfl (lv_at hl 2 rfl) ?_
  obtain ⟨r8, h9, hc7, hf⟩ := bd2_e hf
  refine k_Vi (As := [.ref (ad G v3)]) (rest := []) E w (lay_10_4 t_v0) ⟨by decide, rfl⟩ (X5_easiest_c (lay_10_4 t_v0) t_v3 hc7) mv_RX10_263 rfl rfl hl.1 ⟨Nat.le_of_ble_eq_true rfl, Nat.le_of_ble_eq_true rfl⟩ (Nat.le_of_ble_eq_true rfl) ⟨Nat.le_refl _, Nat.le_refl _⟩ dX10_ease_33 (fun H locs w => ?_)
  refine lv_istore (lv' := [(4, .int r8), (0, .ref (ad G v0)), (2, .int v2), (3, .ref (ad G v3))]) E.1 E.2.1 dX10_ease_36 hl (by decide) rfl (fun ls hl => ?_)
  refine lv_iload E.1 E.2.1 dX10_ease_38 (lv_at hl 0 rfl) ?_
  refine lv_iconst (v := (-1)) E.1 E.2.1 dX10_ease_40 rfl ?_
  refine lv_icmp_eq (tgt := 49) E.1 E.2.1 dX10_ease_41 (by decide) (fun c10 => ?_) (fun c10 => ?_)
  · have hf := q_pos c10 hf
    refine lv_iload E.1 E.2.1 dX10_ease_49 (lv_at hl 0 rfl) ?_
    refine lv_goto (tgt := 62) E.1 E.2.1 dX10_ease_51 (by decide) ?_
    have hf := Option.some.inj hf
    subst hf
    exact q_iret E w hr hlk dX10_ease_62
  · have hf := q_neg c10 hf
    refine lv_iload_n E.1 E.2.1 dX10_ease_44 rfl (lv_at hl 2 rfl) ?_
    refine lv_iconst (v := (-1)) E.1 E.2.1 dX10_ease_45 rfl ?_
    refine lv_icmp_ne (tgt := 54) E.1 E.2.1 dX10_ease_46 (by decide) (fun c11 => ?_) (fun c11 => ?_)
    · have hf := q_neg c11 hf
      refine lv_aload_n E.1 E.2.1 dX10_ease_54 rfl (lv_at hl 1 rfl) ?_
      refine q_gs E w 170 t_v0 fl_RX10_34 dX10_ease_55 ?_
      refine lv_iload_n E.1 E.2.1 dX10_ease_58 rfl (lv_at hl 2 rfl) ?_
      obtain ⟨r13, hc12, hf⟩ := bd1_e hf
      refine k_Vi (As := [.int v2]) (rest := []) E w (lay_10_4 t_v0) ⟨by decide, rfl⟩ (X5_singerOf_c (lay_10_4 t_v0) hc12) mv_RX10_164 rfl rfl hl.1 ⟨Nat.le_of_ble_eq_true rfl, Nat.le_of_ble_eq_true rfl⟩ (Nat.le_of_ble_eq_true rfl) ⟨Nat.le_refl _, Nat.le_refl _⟩ dX10_ease_59 (fun H locs w => ?_)
      have hf := Option.some.inj hf
      subst hf
      exact q_iret E w hr hlk dX10_ease_62
    · have hf := q_pos c11 hf
      refine lv_iload E.1 E.2.1 dX10_ease_49 (lv_at hl 0 rfl) ?_
      refine lv_goto (tgt := 62) E.1 E.2.1 dX10_ease_51 (by decide) ?_
      have hf := Option.some.inj hf
      subst hf
      exact q_iret E w hr hlk dX10_ease_62

def X10_ease (N : Nat) (h : HS) (v0 : Nat) (v1 : Int32) (v2 : Int32) : Option (Int32 × HS) := bd1 (X7_houseAt N h (v0 + 1) v1) fun r2 => (if r2 = 0 then some ((-1), h) else (if v2 = ((-1) : Int32) then X10_ease_b28 N h v0 v2 r2 else bd1 (X1_hasBar N h r2 v2) fun r16 => (if r16 = 0 then some ((-1), h) else X10_ease_b28 N h v0 v2 r2)))
set_option maxRecDepth 4000 in
set_option maxHeartbeats 2000000 in
theorem X10_ease_c {l : Launch} {G : GT} {N : Nat} {h : HS} {v0 : Nat} {v1 : Int32} {v2 : Int32} {z : (Int32 × HS)} (t_v0 : sh v0 = 10) (hf : X10_ease N h v0 v1 v2 = some z) : CT l G yX10_ease cX10_ease 5 (some .int) 27 582 [.ref (ad G v0), .int v1, .int v2] h (some (.int z.1)) z.2 := by
  unfold X10_ease at hf
  refine CT.of (by decide) (Nat.le_of_ble_eq_true rfl) ?_
  intro p e s m below meth c ls E hr hlk w hl
  have hl : lv_has ls 5 [(0, .ref (ad G v0)), (1, .int v1), (2, .int v2)] := hl
  refine lv_aload_n E.1 E.2.1 dX10_ease_0 rfl (lv_at hl 0 rfl) ?_
  refine q_gs E w 1 t_v0 fl_RX10_10 dX10_ease_1 ?_
  refine lv_iload_n E.1 E.2.1 dX10_ease_4 rfl (lv_at hl 1 rfl) ?_
  obtain ⟨r2, hc1, hf⟩ := bd1_e hf
  refine k_Vr (As := [.int v1]) (rest := []) E w (lay_10_0 t_v0) ⟨by decide, rfl⟩ (X7_houseAt_c (lay_10_0 t_v0) hc1) mv_RX10_113 rfl rfl hl.1 ⟨Nat.le_of_ble_eq_true rfl, Nat.le_of_ble_eq_true rfl⟩ (Nat.le_of_ble_eq_true rfl) ⟨Nat.le_refl _, Nat.le_refl _⟩ dX10_ease_5 (fun H locs w => ?_)
  by_cases c5 : r2 = 0
  · have hf := q_pos c5 hf
    rw [c5, rfv_0]
    refine lv_astore_nN (lv' := [(3, .null), (0, .ref (ad G v0)), (1, .int v1), (2, .int v2)]) E.1 E.2.1 dX10_ease_8 rfl hl (by decide) rfl (fun ls hl => ?_)
    refine lv_aload_nN E.1 E.2.1 dX10_ease_9 rfl (lv_at hl 0 rfl) ?_
    refine lv_ifnullN (tgt := 26) E.1 E.2.1 dX10_ease_10 (by decide) ?_
    refine lv_iconst (v := (-1)) E.1 E.2.1 dX10_ease_26 rfl ?_
    have hf := Option.some.inj hf
    subst hf
    exact q_iret E w hr hlk dX10_ease_27
  have hf := q_neg c5 hf
  have t4 : sh r2 = 1 := (X7_houseAt_t (lay_10_0 t_v0) hc1).resolve_left c5
  rw [rfv_p G (by rw [t4]; decide)]
  refine lv_astore_n (lv' := [(3, .ref (ad G r2)), (0, .ref (ad G v0)), (1, .int v1), (2, .int v2)]) E.1 E.2.1 dX10_ease_8 rfl hl (by decide) rfl (fun ls hl => ?_)
  refine lv_aload_n E.1 E.2.1 dX10_ease_9 rfl (lv_at hl 0 rfl) ?_
  refine lv_ifnull E.1 E.2.1 dX10_ease_10 ?_
  refine lv_iload_n E.1 E.2.1 dX10_ease_13 rfl (lv_at hl 3 rfl) ?_
  refine lv_iconst (v := (-1)) E.1 E.2.1 dX10_ease_14 rfl ?_
  refine lv_icmp_eq (tgt := 28) E.1 E.2.1 dX10_ease_15 (by decide) (fun c6 => ?_) (fun c6 => ?_)
  · have hf := q_pos c6 hf
    exact X10_ease_b28_w E hr hlk hf w t_v0 t4 (lv_sub hl [1, 3, 0] rfl)
  · have hf := q_neg c6 hf
    refine lv_aload_n E.1 E.2.1 dX10_ease_18 rfl (lv_at hl 0 rfl) ?_
    refine lv_iload_n E.1 E.2.1 dX10_ease_19 rfl (lv_at hl 3 rfl) ?_
    obtain ⟨r16, hc15, hf⟩ := bd1_e hf
    refine k_Vi (As := [.int v2]) (rest := []) E w t4 ⟨by decide, rfl⟩ (X1_hasBar_c t4 hc15) mv_RX10_156 rfl rfl hl.1 ⟨Nat.le_of_ble_eq_true rfl, Nat.le_of_ble_eq_true rfl⟩ (Nat.le_of_ble_eq_true rfl) ⟨Nat.le_refl _, Nat.le_refl _⟩ dX10_ease_20 (fun H locs w => ?_)
    refine lv_if_ne (tgt := 28) E.1 E.2.1 dX10_ease_23 (by decide) (fun c18 => ?_) (fun c18 => ?_)
    · have hf := q_neg c18 hf
      exact X10_ease_b28_w E hr hlk hf w t_v0 t4 (lv_sub hl [1, 3, 0] rfl)
    · have hf := q_pos c18 hf
      refine lv_iconst (v := (-1)) E.1 E.2.1 dX10_ease_26 rfl ?_
      have hf := Option.some.inj hf
      subst hf
      exact q_iret E w hr hlk dX10_ease_27

def X10_longestClimb_b76 (N : Nat) (h : HS) (K6 : Nat → Int32 → Int32 → Int32 → Option Int32) (v0 : Nat) (v1 : Int32) (v3 : Int32) (u0 : Int32) : Option Int32 := (if u0 ≤ (v1 &&& 15) then K6 v0 v1 u0 (v3 + 1) else K6 v0 ((((v3 - u0) + 2) <<< ((4 : Int32) &&& 31)) ||| u0) u0 (v3 + 1))
set_option maxRecDepth 4000 in
set_option maxHeartbeats 2000000 in
theorem X10_longestClimb_b76_w {p : Program} {l : Launch} {e : Env} {s : State} {m : MethodId} {args : Array Value} {below : List Frame} {meth : Method} {c : Code} {G : GT} {N : Nat} {z : Int32} {h : HS} (E : CallFix p m c cX10_longestClimb 5 s args UW RX10) (hr : meth.sig.returnType = (some .int)) (hlk : meth.locks = false) {K6 : Nat → Int32 → Int32 → Int32 → Option Int32} (hK6 : ∀ (H : Heap) (locs : List Loc) (ls : Array Slot) (v0 : Nat) (v1 : Int32) (v2 : Int32) (v3 : Int32), K6 v0 v1 v2 v3 = some z → WD G s h H locs → sh v0 = 1 → lv_has ls 5 [(0, .ref (ad G v0)), (1, .int v1), (2, .int v2), (3, .int v3)] → W p l e ({ frames := 2, cells := 0, slots := 0, locals := 42 } : Room) s m args below meth c H locs 0 0 (MQ below (QC G (some (.int z)) h) args s 0 0 (AD G)) (F0 m 6 ls [])) {H : Heap} {locs : List Loc} {ls : Array Slot} {v0 : Nat} {v1 : Int32} {v3 : Int32} {u0 : Int32} (hf : X10_longestClimb_b76 N h K6 v0 v1 v3 u0 = some z) (w : WD G s h H locs) (t_v0 : sh v0 = 1) (hl : lv_has ls 5 [(0, .ref (ad G v0)), (1, .int v1), (3, .int v3)]) : W p l e ({ frames := 2, cells := 0, slots := 0, locals := 42 } : Room) s m args below meth c H locs 0 0 (MQ below (QC G (some (.int z)) h) args s 0 0 (AD G)) (F0 m 76 ls [.int u0]) := by
  unfold X10_longestClimb_b76 at hf
  refine lv_istore_n (lv' := [(2, .int u0), (0, .ref (ad G v0)), (1, .int v1), (3, .int v3)]) E.1 E.2.1 dX10_longestClimb_76 rfl hl (by decide) rfl (fun ls hl => ?_)
  refine lv_iload_n E.1 E.2.1 dX10_longestClimb_77 rfl (lv_at hl 0 rfl) ?_
  refine lv_iload_n E.1 E.2.1 dX10_longestClimb_78 rfl (lv_at hl 2 rfl) ?_
  refine lv_bipush (v := 15) E.1 E.2.1 dX10_longestClimb_79 rfl ?_
  refine lv_iand E.1 E.2.1 dX10_longestClimb_81 ?_
  refine lv_icmp_le (tgt := 95) E.1 E.2.1 dX10_longestClimb_82 (by decide) (fun c9 => ?_) (fun c9 => ?_)
  · have hf := q_pos c9 hf
    refine lv_iinc (v := v3 + 1) (lv' := [(3, .int (v3 + 1)), (2, .int u0), (0, .ref (ad G v0)), (1, .int v1)]) E.1 E.2.1 dX10_longestClimb_95 hl (k := 3) rfl rfl (by decide) rfl (fun ls hl => ?_)
    refine lv_goto (tgt := 6) E.1 E.2.1 dX10_longestClimb_98 (by decide) ?_
    exact hK6 _ _ _ _ _ _ _ hf w t_v0 (lv_sub hl [2, 3, 1, 0] rfl)
  · have hf := q_neg c9 hf
    refine lv_iload_n E.1 E.2.1 dX10_longestClimb_85 rfl (lv_at hl 3 rfl) ?_
    refine lv_iload_n E.1 E.2.1 dX10_longestClimb_86 rfl (lv_at hl 0 rfl) ?_
    refine lv_isub E.1 E.2.1 dX10_longestClimb_87 ?_
    refine lv_iconst (v := 2) E.1 E.2.1 dX10_longestClimb_88 rfl ?_
    refine lv_iadd E.1 E.2.1 dX10_longestClimb_89 ?_
    refine lv_iconst (v := 4) E.1 E.2.1 dX10_longestClimb_90 rfl ?_
    refine lv_ishl E.1 E.2.1 dX10_longestClimb_91 ?_
    refine lv_iload_n E.1 E.2.1 dX10_longestClimb_92 rfl (lv_at hl 0 rfl) ?_
    refine lv_ior E.1 E.2.1 dX10_longestClimb_93 ?_
    refine lv_istore_n (lv' := [(1, .int ((((v3 - u0) + 2) <<< ((4 : Int32) &&& 31)) ||| u0)), (2, .int u0), (0, .ref (ad G v0)), (3, .int v3)]) E.1 E.2.1 dX10_longestClimb_94 rfl hl (by decide) rfl (fun ls hl => ?_)
    refine lv_iinc (v := v3 + 1) (lv' := [(3, .int (v3 + 1)), (1, .int ((((v3 - u0) + 2) <<< ((4 : Int32) &&& 31)) ||| u0)), (2, .int u0), (0, .ref (ad G v0))]) E.1 E.2.1 dX10_longestClimb_95 hl (k := 3) rfl rfl (by decide) rfl (fun ls hl => ?_)
    refine lv_goto (tgt := 6) E.1 E.2.1 dX10_longestClimb_98 (by decide) ?_
    exact hK6 _ _ _ _ _ _ _ hf w t_v0 (lv_sub hl [3, 1, 2, 0] rfl)

def X10_longestClimb_l6 (N : Nat) (h : HS) : Nat → Nat → Int32 → Int32 → Int32 → Option Int32
  | 0, _, _, _, _ => none
  | n + 1, v0, v1, v2, v3 => (if (h.1 v0 1) ≤ v3 then some v1 else (if (8 : Int32) ≤ v3 then some v1 else (if v2 ≤ 0 then bd1 (X1_sounds N h v0 v3) fun r5 => (if r5 = 0 then X10_longestClimb_b76 N h (X10_longestClimb_l6 N h n) v0 v1 v3 0 else (if (0 : Int32) = 0 then X10_longestClimb_b76 N h (X10_longestClimb_l6 N h n) v0 v1 v3 1 else X10_longestClimb_b76 N h (X10_longestClimb_l6 N h n) v0 v1 v3 (v2 + 1))) else bd1 (X10_at N h (v0 + 5) v3) fun r11 => bd1 (X10_at N h (v0 + 5) (v3 - 1)) fun r14 => (if r11 < r14 then bd1 (X1_sounds N h v0 v3) fun r18 => (if r18 = 0 then X10_longestClimb_b76 N h (X10_longestClimb_l6 N h n) v0 v1 v3 0 else (if (0 : Int32) = 0 then X10_longestClimb_b76 N h (X10_longestClimb_l6 N h n) v0 v1 v3 1 else X10_longestClimb_b76 N h (X10_longestClimb_l6 N h n) v0 v1 v3 (v2 + 1))) else bd1 (X1_sounds N h v0 v3) fun r23 => (if r23 = 0 then X10_longestClimb_b76 N h (X10_longestClimb_l6 N h n) v0 v1 v3 0 else (if (1 : Int32) = 0 then X10_longestClimb_b76 N h (X10_longestClimb_l6 N h n) v0 v1 v3 1 else X10_longestClimb_b76 N h (X10_longestClimb_l6 N h n) v0 v1 v3 (v2 + 1)))))))
set_option maxRecDepth 4000 in
set_option maxHeartbeats 2000000 in
theorem X10_longestClimb_l6_w {p : Program} {l : Launch} {e : Env} {s : State} {m : MethodId} {args : Array Value} {below : List Frame} {meth : Method} {c : Code} {G : GT} {N : Nat} {h : HS} {z : Int32} (E : CallFix p m c cX10_longestClimb 5 s args UW RX10) (hr : meth.sig.returnType = (some .int)) (hlk : meth.locks = false) : ∀ (n : Nat) (H : Heap) (locs : List Loc) (ls : Array Slot) (v0 : Nat) (v1 : Int32) (v2 : Int32) (v3 : Int32), X10_longestClimb_l6 N h n v0 v1 v2 v3 = some z → WD G s h H locs → sh v0 = 1 → lv_has ls 5 [(0, .ref (ad G v0)), (1, .int v1), (2, .int v2), (3, .int v3)] → W p l e ({ frames := 2, cells := 0, slots := 0, locals := 42 } : Room) s m args below meth c H locs 0 0 (MQ below (QC G (some (.int z)) h) args s 0 0 (AD G)) (F0 m 6 ls []) := by
  intro n
  induction n with
  | zero =>
    intro H locs ls v0 v1 v2 v3 hf
    cases hf
  | succ n ih =>
    intro H locs ls v0 v1 v2 v3 hf w t_v0 hl
    unfold X10_longestClimb_l6 at hf
    refine lv_iload_n E.1 E.2.1 dX10_longestClimb_6 rfl (lv_at hl 3 rfl) ?_
    refine lv_aload_n E.1 E.2.1 dX10_longestClimb_7 rfl (lv_at hl 0 rfl) ?_
    refine q_gi E w t_v0 fl_RX10_122 dX10_longestClimb_8 ?_
    refine lv_icmp_ge (tgt := 101) E.1 E.2.1 dX10_longestClimb_11 (by decide) (fun c1 => ?_) (fun c1 => ?_)
    · have hf := q_pos c1 hf
      refine lv_iload_n E.1 E.2.1 dX10_longestClimb_101 rfl (lv_at hl 1 rfl) ?_
      have hf := Option.some.inj hf
      subst hf
      exact q_iret E w hr hlk dX10_longestClimb_102
    · have hf := q_neg c1 hf
      refine lv_iload_n E.1 E.2.1 dX10_longestClimb_14 rfl (lv_at hl 3 rfl) ?_
      refine lv_bipush (v := 8) E.1 E.2.1 dX10_longestClimb_15 rfl ?_
      refine lv_icmp_ge (tgt := 101) E.1 E.2.1 dX10_longestClimb_17 (by decide) (fun c2 => ?_) (fun c2 => ?_)
      · have hf := q_pos c2 hf
        refine lv_iload_n E.1 E.2.1 dX10_longestClimb_101 rfl (lv_at hl 1 rfl) ?_
        have hf := Option.some.inj hf
        subst hf
        exact q_iret E w hr hlk dX10_longestClimb_102
      · have hf := q_neg c2 hf
        refine lv_iload_n E.1 E.2.1 dX10_longestClimb_20 rfl (lv_at hl 2 rfl) ?_
        refine lv_if_le (tgt := 49) E.1 E.2.1 dX10_longestClimb_21 (by decide) (fun c3 => ?_) (fun c3 => ?_)
        · have hf := q_pos c3 hf
          refine lv_iconst (v := 0) E.1 E.2.1 dX10_longestClimb_49 rfl ?_
          refine lv_istore (lv' := [(4, .int 0), (0, .ref (ad G v0)), (1, .int v1), (2, .int v2), (3, .int v3)]) E.1 E.2.1 dX10_longestClimb_50 hl (by decide) rfl (fun ls hl => ?_)
          refine lv_aload_n E.1 E.2.1 dX10_longestClimb_52 rfl (lv_at hl 1 rfl) ?_
          refine lv_iload_n E.1 E.2.1 dX10_longestClimb_53 rfl (lv_at hl 4 rfl) ?_
          obtain ⟨r5, hc4, hf⟩ := bd1_e hf
          refine k_Vi (As := [.int v3]) (rest := []) E w t_v0 ⟨by decide, rfl⟩ (X1_sounds_c t_v0 hc4) mv_RX10_355 rfl rfl hl.1 ⟨Nat.le_of_ble_eq_true rfl, Nat.le_of_ble_eq_true rfl⟩ (Nat.le_of_ble_eq_true rfl) ⟨Nat.le_refl _, Nat.le_refl _⟩ dX10_longestClimb_54 (fun H locs w => ?_)
          refine lv_if_ne (tgt := 64) E.1 E.2.1 dX10_longestClimb_57 (by decide) (fun c7 => ?_) (fun c7 => ?_)
          · have hf := q_neg c7 hf
            refine lv_iload E.1 E.2.1 dX10_longestClimb_64 (lv_at hl 0 rfl) ?_
            refine lv_if_eq (tgt := 75) E.1 E.2.1 dX10_longestClimb_66 (by decide) (fun c8 => ?_) (fun c8 => ?_)
            · have hf := q_pos c8 hf
              refine lv_iconst (v := 1) E.1 E.2.1 dX10_longestClimb_75 rfl ?_
              exact X10_longestClimb_b76_w E hr hlk ih hf w t_v0 (lv_sub hl [1, 2, 4] rfl)
            · have hf := q_neg c8 hf
              refine lv_iload_n E.1 E.2.1 dX10_longestClimb_69 rfl (lv_at hl 3 rfl) ?_
              refine lv_iconst (v := 1) E.1 E.2.1 dX10_longestClimb_70 rfl ?_
              refine lv_iadd E.1 E.2.1 dX10_longestClimb_71 ?_
              refine lv_goto (tgt := 76) E.1 E.2.1 dX10_longestClimb_72 (by decide) ?_
              exact X10_longestClimb_b76_w E hr hlk ih hf w t_v0 (lv_sub hl [1, 2, 4] rfl)
          · have hf := q_pos c7 hf
            refine lv_iconst (v := 0) E.1 E.2.1 dX10_longestClimb_60 rfl ?_
            refine lv_goto (tgt := 76) E.1 E.2.1 dX10_longestClimb_61 (by decide) ?_
            exact X10_longestClimb_b76_w E hr hlk ih hf w t_v0 (lv_sub hl [1, 2, 4] rfl)
        · have hf := q_neg c3 hf
          refine lv_aload_n E.1 E.2.1 dX10_longestClimb_24 rfl (lv_at hl 0 rfl) ?_
          refine q_gs E w 5 t_v0 fl_RX10_352 dX10_longestClimb_25 ?_
          refine lv_iload_n E.1 E.2.1 dX10_longestClimb_28 rfl (lv_at hl 3 rfl) ?_
          obtain ⟨r11, hc10, hf⟩ := bd1_e hf
          refine k_Si (As := [.ref (ad G (v0 + 5)), .int v3]) (rest := []) E w (X10_at_c ((lay_1_9 t_v0).1) hc10) ms_RX10_338 rfl rfl hl.1 ⟨Nat.le_of_ble_eq_true rfl, Nat.le_of_ble_eq_true rfl⟩ (Nat.le_of_ble_eq_true rfl) ⟨Nat.le_refl _, Nat.le_refl _⟩ dX10_longestClimb_29 (fun H locs w => ?_)
          refine lv_aload_n E.1 E.2.1 dX10_longestClimb_32 rfl (lv_at hl 0 rfl) ?_
          refine q_gs E w 5 t_v0 fl_RX10_352 dX10_longestClimb_33 ?_
          refine lv_iload_n E.1 E.2.1 dX10_longestClimb_36 rfl (lv_at hl 3 rfl) ?_
          refine lv_iconst (v := 1) E.1 E.2.1 dX10_longestClimb_37 rfl ?_
          refine lv_isub E.1 E.2.1 dX10_longestClimb_38 ?_
          obtain ⟨r14, hc13, hf⟩ := bd1_e hf
          refine k_Si (As := [.ref (ad G (v0 + 5)), .int (v3 - 1)]) (rest := [.int r11]) E w (X10_at_c ((lay_1_9 t_v0).1) hc13) ms_RX10_338 rfl rfl hl.1 ⟨Nat.le_of_ble_eq_true rfl, Nat.le_of_ble_eq_true rfl⟩ (Nat.le_of_ble_eq_true rfl) ⟨Nat.le_refl _, Nat.le_refl _⟩ dX10_longestClimb_39 (fun H locs w => ?_)
          refine lv_icmp_lt (tgt := 49) E.1 E.2.1 dX10_longestClimb_42 (by decide) (fun c16 => ?_) (fun c16 => ?_)
          · have hf := q_pos c16 hf
            refine lv_iconst (v := 0) E.1 E.2.1 dX10_longestClimb_49 rfl ?_
            refine lv_istore (lv' := [(4, .int 0), (0, .ref (ad G v0)), (1, .int v1), (2, .int v2), (3, .int v3)]) E.1 E.2.1 dX10_longestClimb_50 hl (by decide) rfl (fun ls hl => ?_)
            refine lv_aload_n E.1 E.2.1 dX10_longestClimb_52 rfl (lv_at hl 1 rfl) ?_
            refine lv_iload_n E.1 E.2.1 dX10_longestClimb_53 rfl (lv_at hl 4 rfl) ?_
            obtain ⟨r18, hc17, hf⟩ := bd1_e hf
            refine k_Vi (As := [.int v3]) (rest := []) E w t_v0 ⟨by decide, rfl⟩ (X1_sounds_c t_v0 hc17) mv_RX10_355 rfl rfl hl.1 ⟨Nat.le_of_ble_eq_true rfl, Nat.le_of_ble_eq_true rfl⟩ (Nat.le_of_ble_eq_true rfl) ⟨Nat.le_refl _, Nat.le_refl _⟩ dX10_longestClimb_54 (fun H locs w => ?_)
            refine lv_if_ne (tgt := 64) E.1 E.2.1 dX10_longestClimb_57 (by decide) (fun c20 => ?_) (fun c20 => ?_)
            · have hf := q_neg c20 hf
              refine lv_iload E.1 E.2.1 dX10_longestClimb_64 (lv_at hl 0 rfl) ?_
              refine lv_if_eq (tgt := 75) E.1 E.2.1 dX10_longestClimb_66 (by decide) (fun c21 => ?_) (fun c21 => ?_)
              · have hf := q_pos c21 hf
                refine lv_iconst (v := 1) E.1 E.2.1 dX10_longestClimb_75 rfl ?_
                exact X10_longestClimb_b76_w E hr hlk ih hf w t_v0 (lv_sub hl [1, 2, 4] rfl)
              · have hf := q_neg c21 hf
                refine lv_iload_n E.1 E.2.1 dX10_longestClimb_69 rfl (lv_at hl 3 rfl) ?_
                refine lv_iconst (v := 1) E.1 E.2.1 dX10_longestClimb_70 rfl ?_
                refine lv_iadd E.1 E.2.1 dX10_longestClimb_71 ?_
                refine lv_goto (tgt := 76) E.1 E.2.1 dX10_longestClimb_72 (by decide) ?_
                exact X10_longestClimb_b76_w E hr hlk ih hf w t_v0 (lv_sub hl [1, 2, 4] rfl)
            · have hf := q_pos c20 hf
              refine lv_iconst (v := 0) E.1 E.2.1 dX10_longestClimb_60 rfl ?_
              refine lv_goto (tgt := 76) E.1 E.2.1 dX10_longestClimb_61 (by decide) ?_
              exact X10_longestClimb_b76_w E hr hlk ih hf w t_v0 (lv_sub hl [1, 2, 4] rfl)
          · have hf := q_neg c16 hf
            refine lv_iconst (v := 1) E.1 E.2.1 dX10_longestClimb_45 rfl ?_
            refine lv_goto (tgt := 50) E.1 E.2.1 dX10_longestClimb_46 (by decide) ?_
            refine lv_istore (lv' := [(4, .int 1), (0, .ref (ad G v0)), (1, .int v1), (2, .int v2), (3, .int v3)]) E.1 E.2.1 dX10_longestClimb_50 hl (by decide) rfl (fun ls hl => ?_)
            refine lv_aload_n E.1 E.2.1 dX10_longestClimb_52 rfl (lv_at hl 1 rfl) ?_
            refine lv_iload_n E.1 E.2.1 dX10_longestClimb_53 rfl (lv_at hl 4 rfl) ?_
            obtain ⟨r23, hc22, hf⟩ := bd1_e hf
            refine k_Vi (As := [.int v3]) (rest := []) E w t_v0 ⟨by decide, rfl⟩ (X1_sounds_c t_v0 hc22) mv_RX10_355 rfl rfl hl.1 ⟨Nat.le_of_ble_eq_true rfl, Nat.le_of_ble_eq_true rfl⟩ (Nat.le_of_ble_eq_true rfl) ⟨Nat.le_refl _, Nat.le_refl _⟩ dX10_longestClimb_54 (fun H locs w => ?_)
            refine lv_if_ne (tgt := 64) E.1 E.2.1 dX10_longestClimb_57 (by decide) (fun c25 => ?_) (fun c25 => ?_)
            · have hf := q_neg c25 hf
              refine lv_iload E.1 E.2.1 dX10_longestClimb_64 (lv_at hl 0 rfl) ?_
              refine lv_if_eq (tgt := 75) E.1 E.2.1 dX10_longestClimb_66 (by decide) (fun c26 => ?_) (fun c26 => ?_)
              · have hf := q_pos c26 hf
                refine lv_iconst (v := 1) E.1 E.2.1 dX10_longestClimb_75 rfl ?_
                exact X10_longestClimb_b76_w E hr hlk ih hf w t_v0 (lv_sub hl [1, 2, 4] rfl)
              · have hf := q_neg c26 hf
                refine lv_iload_n E.1 E.2.1 dX10_longestClimb_69 rfl (lv_at hl 3 rfl) ?_
                refine lv_iconst (v := 1) E.1 E.2.1 dX10_longestClimb_70 rfl ?_
                refine lv_iadd E.1 E.2.1 dX10_longestClimb_71 ?_
                refine lv_goto (tgt := 76) E.1 E.2.1 dX10_longestClimb_72 (by decide) ?_
                exact X10_longestClimb_b76_w E hr hlk ih hf w t_v0 (lv_sub hl [1, 2, 4] rfl)
            · have hf := q_pos c25 hf
              refine lv_iconst (v := 0) E.1 E.2.1 dX10_longestClimb_60 rfl ?_
              refine lv_goto (tgt := 76) E.1 E.2.1 dX10_longestClimb_61 (by decide) ?_
              exact X10_longestClimb_b76_w E hr hlk ih hf w t_v0 (lv_sub hl [1, 2, 4] rfl)

def X10_longestClimb (N : Nat) (h : HS) (v0 : Nat) : Option Int32 := X10_longestClimb_l6 N h N v0 0 0 0
set_option maxRecDepth 4000 in
set_option maxHeartbeats 2000000 in
theorem X10_longestClimb_c {l : Launch} {G : GT} {N : Nat} {h : HS} {v0 : Nat} {z : Int32} (t_v0 : sh v0 = 1) (hf : X10_longestClimb N h v0 = some z) : CT l G yX10_longestClimb cX10_longestClimb 5 (some .int) 2 42 [.ref (ad G v0)] h (some (.int z)) h := by
  unfold X10_longestClimb at hf
  refine CT.of (by decide) (Nat.le_of_ble_eq_true rfl) ?_
  intro p e s m below meth c ls E hr hlk w hl
  have hl : lv_has ls 5 [(0, .ref (ad G v0))] := hl
  refine lv_iconst (v := 0) E.1 E.2.1 dX10_longestClimb_0 rfl ?_
  refine lv_istore_n (lv' := [(1, .int 0), (0, .ref (ad G v0))]) E.1 E.2.1 dX10_longestClimb_1 rfl hl (by decide) rfl (fun ls hl => ?_)
  refine lv_iconst (v := 0) E.1 E.2.1 dX10_longestClimb_2 rfl ?_
  refine lv_istore_n (lv' := [(2, .int 0), (1, .int 0), (0, .ref (ad G v0))]) E.1 E.2.1 dX10_longestClimb_3 rfl hl (by decide) rfl (fun ls hl => ?_)
  refine lv_iconst (v := 0) E.1 E.2.1 dX10_longestClimb_4 rfl ?_
  refine lv_istore_n (lv' := [(3, .int 0), (2, .int 0), (1, .int 0), (0, .ref (ad G v0))]) E.1 E.2.1 dX10_longestClimb_5 rfl hl (by decide) rfl (fun ls hl => ?_)
  exact X10_longestClimb_l6_w E hr hlk N _ _ _ _ _ _ _ hf w t_v0 (lv_sub hl [3, 2, 1, 0] rfl)

def X10_longestEcho_l29 (N : Nat) (h : HS) (K7 : Nat → Int32 → Option Int32) (K13 : Nat → Int32 → Int32 → Option Int32) : Nat → Nat → Int32 → Int32 → Int32 → Option Int32
  | 0, _, _, _, _ => none
  | n + 1, v0, v1, v2, v3 => (if (h.1 v0 1) < (v3 + v1) then K13 v0 v1 (v2 + 1) else bd1 (X1_alike N h v0 v2 v3 v1) fun r5 => (if r5 = 0 then X10_longestEcho_l29 N h K7 K13 n v0 v1 v2 (v3 + 1) else some (((v2 + 1) <<< ((4 : Int32) &&& 31)) ||| v1)))
set_option maxRecDepth 4000 in
set_option maxHeartbeats 2000000 in
theorem X10_longestEcho_l29_w {p : Program} {l : Launch} {e : Env} {s : State} {m : MethodId} {args : Array Value} {below : List Frame} {meth : Method} {c : Code} {G : GT} {N : Nat} {h : HS} {z : Int32} (E : CallFix p m c cX10_longestEcho 4 s args UW RX10) (hr : meth.sig.returnType = (some .int)) (hlk : meth.locks = false) {K7 : Nat → Int32 → Option Int32} {K13 : Nat → Int32 → Int32 → Option Int32} (hK7 : ∀ (H : Heap) (locs : List Loc) (ls : Array Slot) (v0 : Nat) (v1 : Int32), K7 v0 v1 = some z → WD G s h H locs → sh v0 = 1 → lv_has ls 4 [(0, .ref (ad G v0)), (1, .int v1)] → W p l e ({ frames := 2, cells := 0, slots := 0, locals := 45 } : Room) s m args below meth c H locs 0 0 (MQ below (QC G (some (.int z)) h) args s 0 0 (AD G)) (F0 m 7 ls [])) (hK13 : ∀ (H : Heap) (locs : List Loc) (ls : Array Slot) (v0 : Nat) (v1 : Int32) (v2 : Int32), K13 v0 v1 v2 = some z → WD G s h H locs → sh v0 = 1 → lv_has ls 4 [(0, .ref (ad G v0)), (1, .int v1), (2, .int v2)] → W p l e ({ frames := 2, cells := 0, slots := 0, locals := 45 } : Room) s m args below meth c H locs 0 0 (MQ below (QC G (some (.int z)) h) args s 0 0 (AD G)) (F0 m 13 ls [])) : ∀ (n : Nat) (H : Heap) (locs : List Loc) (ls : Array Slot) (v0 : Nat) (v1 : Int32) (v2 : Int32) (v3 : Int32), X10_longestEcho_l29 N h K7 K13 n v0 v1 v2 v3 = some z → WD G s h H locs → sh v0 = 1 → lv_has ls 4 [(0, .ref (ad G v0)), (1, .int v1), (2, .int v2), (3, .int v3)] → W p l e ({ frames := 2, cells := 0, slots := 0, locals := 45 } : Room) s m args below meth c H locs 0 0 (MQ below (QC G (some (.int z)) h) args s 0 0 (AD G)) (F0 m 29 ls []) := by
  intro n
  induction n with
  | zero =>
    intro H locs ls v0 v1 v2 v3 hf
    cases hf
  | succ n ih =>
    intro H locs ls v0 v1 v2 v3 hf w t_v0 hl
    unfold X10_longestEcho_l29 at hf
    refine lv_iload_n E.1 E.2.1 dX10_longestEcho_29 rfl (lv_at hl 3 rfl) ?_
    refine lv_iload_n E.1 E.2.1 dX10_longestEcho_30 rfl (lv_at hl 1 rfl) ?_
    refine lv_iadd E.1 E.2.1 dX10_longestEcho_31 ?_
    refine lv_aload_n E.1 E.2.1 dX10_longestEcho_32 rfl (lv_at hl 0 rfl) ?_
    refine q_gi E w t_v0 fl_RX10_122 dX10_longestEcho_33 ?_
    refine lv_icmp_gt (tgt := 63) E.1 E.2.1 dX10_longestEcho_36 (by decide) (fun c3 => ?_) (fun c3 => ?_)
    · have hf := q_pos c3 hf
      refine lv_iinc (v := v2 + 1) (lv' := [(2, .int (v2 + 1)), (0, .ref (ad G v0)), (1, .int v1), (3, .int v3)]) E.1 E.2.1 dX10_longestEcho_63 hl (k := 2) rfl rfl (by decide) rfl (fun ls hl => ?_)
      refine lv_goto (tgt := 13) E.1 E.2.1 dX10_longestEcho_66 (by decide) ?_
      exact hK13 _ _ _ _ _ _ hf w t_v0 (lv_sub hl [1, 2, 0] rfl)
    · have hf := q_neg c3 hf
      refine lv_aload_n E.1 E.2.1 dX10_longestEcho_39 rfl (lv_at hl 0 rfl) ?_
      refine lv_iload_n E.1 E.2.1 dX10_longestEcho_40 rfl (lv_at hl 2 rfl) ?_
      refine lv_iload_n E.1 E.2.1 dX10_longestEcho_41 rfl (lv_at hl 3 rfl) ?_
      refine lv_iload_n E.1 E.2.1 dX10_longestEcho_42 rfl (lv_at hl 1 rfl) ?_
      obtain ⟨r5, hc4, hf⟩ := bd1_e hf
      refine k_Vi (As := [.int v2, .int v3, .int v1]) (rest := []) E w t_v0 ⟨by decide, rfl⟩ (X1_alike_c t_v0 hc4) mv_RX10_358 rfl rfl hl.1 ⟨Nat.le_of_ble_eq_true rfl, Nat.le_of_ble_eq_true rfl⟩ (Nat.le_of_ble_eq_true rfl) ⟨Nat.le_refl _, Nat.le_refl _⟩ dX10_longestEcho_43 (fun H locs w => ?_)
      refine lv_if_eq (tgt := 57) E.1 E.2.1 dX10_longestEcho_46 (by decide) (fun c7 => ?_) (fun c7 => ?_)
      · have hf := q_pos c7 hf
        refine lv_iinc (v := v3 + 1) (lv' := [(3, .int (v3 + 1)), (0, .ref (ad G v0)), (1, .int v1), (2, .int v2)]) E.1 E.2.1 dX10_longestEcho_57 hl (k := 3) rfl rfl (by decide) rfl (fun ls hl => ?_)
        refine lv_goto (tgt := 29) E.1 E.2.1 dX10_longestEcho_60 (by decide) ?_
        exact ih _ _ _ _ _ _ _ hf w t_v0 (lv_sub hl [1, 2, 3, 0] rfl)
      · have hf := q_neg c7 hf
        refine lv_iload_n E.1 E.2.1 dX10_longestEcho_49 rfl (lv_at hl 2 rfl) ?_
        refine lv_iconst (v := 1) E.1 E.2.1 dX10_longestEcho_50 rfl ?_
        refine lv_iadd E.1 E.2.1 dX10_longestEcho_51 ?_
        refine lv_iconst (v := 4) E.1 E.2.1 dX10_longestEcho_52 rfl ?_
        refine lv_ishl E.1 E.2.1 dX10_longestEcho_53 ?_
        refine lv_iload_n E.1 E.2.1 dX10_longestEcho_54 rfl (lv_at hl 1 rfl) ?_
        refine lv_ior E.1 E.2.1 dX10_longestEcho_55 ?_
        have hf := Option.some.inj hf
        subst hf
        exact q_iret E w hr hlk dX10_longestEcho_56

def X10_longestEcho_l13 (N : Nat) (h : HS) (K7 : Nat → Int32 → Option Int32) : Nat → Nat → Int32 → Int32 → Option Int32
  | 0, _, _, _ => none
  | n + 1, v0, v1, v2 => (if (h.1 v0 1) < (v2 + (2 * v1)) then K7 v0 (v1 + (-1)) else X10_longestEcho_l29 N h K7 (X10_longestEcho_l13 N h K7 n) N v0 v1 v2 (v2 + v1))
set_option maxRecDepth 4000 in
set_option maxHeartbeats 2000000 in
theorem X10_longestEcho_l13_w {p : Program} {l : Launch} {e : Env} {s : State} {m : MethodId} {args : Array Value} {below : List Frame} {meth : Method} {c : Code} {G : GT} {N : Nat} {h : HS} {z : Int32} (E : CallFix p m c cX10_longestEcho 4 s args UW RX10) (hr : meth.sig.returnType = (some .int)) (hlk : meth.locks = false) {K7 : Nat → Int32 → Option Int32} (hK7 : ∀ (H : Heap) (locs : List Loc) (ls : Array Slot) (v0 : Nat) (v1 : Int32), K7 v0 v1 = some z → WD G s h H locs → sh v0 = 1 → lv_has ls 4 [(0, .ref (ad G v0)), (1, .int v1)] → W p l e ({ frames := 2, cells := 0, slots := 0, locals := 45 } : Room) s m args below meth c H locs 0 0 (MQ below (QC G (some (.int z)) h) args s 0 0 (AD G)) (F0 m 7 ls [])) : ∀ (n : Nat) (H : Heap) (locs : List Loc) (ls : Array Slot) (v0 : Nat) (v1 : Int32) (v2 : Int32), X10_longestEcho_l13 N h K7 n v0 v1 v2 = some z → WD G s h H locs → sh v0 = 1 → lv_has ls 4 [(0, .ref (ad G v0)), (1, .int v1), (2, .int v2)] → W p l e ({ frames := 2, cells := 0, slots := 0, locals := 45 } : Room) s m args below meth c H locs 0 0 (MQ below (QC G (some (.int z)) h) args s 0 0 (AD G)) (F0 m 13 ls []) := by
  intro n
  induction n with
  | zero =>
    intro H locs ls v0 v1 v2 hf
    cases hf
  | succ n ih =>
    intro H locs ls v0 v1 v2 hf w t_v0 hl
    unfold X10_longestEcho_l13 at hf
    refine lv_iload_n E.1 E.2.1 dX10_longestEcho_13 rfl (lv_at hl 2 rfl) ?_
    refine lv_iconst (v := 2) E.1 E.2.1 dX10_longestEcho_14 rfl ?_
    refine lv_iload_n E.1 E.2.1 dX10_longestEcho_15 rfl (lv_at hl 1 rfl) ?_
    refine lv_imul E.1 E.2.1 dX10_longestEcho_16 ?_
    refine lv_iadd E.1 E.2.1 dX10_longestEcho_17 ?_
    refine lv_aload_n E.1 E.2.1 dX10_longestEcho_18 rfl (lv_at hl 0 rfl) ?_
    refine q_gi E w t_v0 fl_RX10_122 dX10_longestEcho_19 ?_
    refine lv_icmp_gt (tgt := 69) E.1 E.2.1 dX10_longestEcho_22 (by decide) (fun c2 => ?_) (fun c2 => ?_)
    · have hf := q_pos c2 hf
      refine lv_iinc (v := v1 + (-1)) (lv' := [(1, .int (v1 + (-1))), (0, .ref (ad G v0)), (2, .int v2)]) E.1 E.2.1 dX10_longestEcho_69 hl (k := 1) rfl rfl (by decide) rfl (fun ls hl => ?_)
      refine lv_goto (tgt := 7) E.1 E.2.1 dX10_longestEcho_72 (by decide) ?_
      exact hK7 _ _ _ _ _ hf w t_v0 (lv_sub hl [1, 0] rfl)
    · have hf := q_neg c2 hf
      refine lv_iload_n E.1 E.2.1 dX10_longestEcho_25 rfl (lv_at hl 2 rfl) ?_
      refine lv_iload_n E.1 E.2.1 dX10_longestEcho_26 rfl (lv_at hl 1 rfl) ?_
      refine lv_iadd E.1 E.2.1 dX10_longestEcho_27 ?_
      refine lv_istore_n (lv' := [(3, .int (v2 + v1)), (0, .ref (ad G v0)), (1, .int v1), (2, .int v2)]) E.1 E.2.1 dX10_longestEcho_28 rfl hl (by decide) rfl (fun ls hl => ?_)
      exact X10_longestEcho_l29_w E hr hlk hK7 ih N _ _ _ _ _ _ _ hf w t_v0 (lv_sub hl [1, 2, 3, 0] rfl)

def X10_longestEcho_l7 (N : Nat) (h : HS) : Nat → Nat → Int32 → Option Int32
  | 0, _, _ => none
  | n + 1, v0, v1 => (if v1 ≤ 0 then some 0 else X10_longestEcho_l13 N h (X10_longestEcho_l7 N h n) N v0 v1 0)
set_option maxRecDepth 4000 in
set_option maxHeartbeats 2000000 in
theorem X10_longestEcho_l7_w {p : Program} {l : Launch} {e : Env} {s : State} {m : MethodId} {args : Array Value} {below : List Frame} {meth : Method} {c : Code} {G : GT} {N : Nat} {h : HS} {z : Int32} (E : CallFix p m c cX10_longestEcho 4 s args UW RX10) (hr : meth.sig.returnType = (some .int)) (hlk : meth.locks = false) : ∀ (n : Nat) (H : Heap) (locs : List Loc) (ls : Array Slot) (v0 : Nat) (v1 : Int32), X10_longestEcho_l7 N h n v0 v1 = some z → WD G s h H locs → sh v0 = 1 → lv_has ls 4 [(0, .ref (ad G v0)), (1, .int v1)] → W p l e ({ frames := 2, cells := 0, slots := 0, locals := 45 } : Room) s m args below meth c H locs 0 0 (MQ below (QC G (some (.int z)) h) args s 0 0 (AD G)) (F0 m 7 ls []) := by
  intro n
  induction n with
  | zero =>
    intro H locs ls v0 v1 hf
    cases hf
  | succ n ih =>
    intro H locs ls v0 v1 hf w t_v0 hl
    unfold X10_longestEcho_l7 at hf
    refine lv_iload_n E.1 E.2.1 dX10_longestEcho_7 rfl (lv_at hl 1 rfl) ?_
    refine lv_if_le (tgt := 75) E.1 E.2.1 dX10_longestEcho_8 (by decide) (fun c1 => ?_) (fun c1 => ?_)
    · have hf := q_pos c1 hf
      refine lv_iconst (v := 0) E.1 E.2.1 dX10_longestEcho_75 rfl ?_
      have hf := Option.some.inj hf
      subst hf
      exact q_iret E w hr hlk dX10_longestEcho_76
    · have hf := q_neg c1 hf
      refine lv_iconst (v := 0) E.1 E.2.1 dX10_longestEcho_11 rfl ?_
      refine lv_istore_n (lv' := [(2, .int 0), (0, .ref (ad G v0)), (1, .int v1)]) E.1 E.2.1 dX10_longestEcho_12 rfl hl (by decide) rfl (fun ls hl => ?_)
      exact X10_longestEcho_l13_w E hr hlk ih N _ _ _ _ _ _ hf w t_v0 (lv_sub hl [1, 2, 0] rfl)

def X10_longestEcho (N : Nat) (h : HS) (v0 : Nat) : Option Int32 := X10_longestEcho_l7 N h N v0 ((h.1 v0 1) / 2)
set_option maxRecDepth 4000 in
set_option maxHeartbeats 2000000 in
theorem X10_longestEcho_c {l : Launch} {G : GT} {N : Nat} {h : HS} {v0 : Nat} {z : Int32} (t_v0 : sh v0 = 1) (hf : X10_longestEcho N h v0 = some z) : CT l G yX10_longestEcho cX10_longestEcho 4 (some .int) 2 45 [.ref (ad G v0)] h (some (.int z)) h := by
  unfold X10_longestEcho at hf
  refine CT.of (by decide) (Nat.le_of_ble_eq_true rfl) ?_
  intro p e s m below meth c ls E hr hlk w hl
  have hl : lv_has ls 4 [(0, .ref (ad G v0))] := hl
  refine lv_aload_n E.1 E.2.1 dX10_longestEcho_0 rfl (lv_at hl 0 rfl) ?_
  refine q_gi E w t_v0 fl_RX10_122 dX10_longestEcho_1 ?_
  refine lv_iconst (v := 2) E.1 E.2.1 dX10_longestEcho_4 rfl ?_
  refine lv_idiv E.1 E.2.1 dX10_longestEcho_5 (by decide) ?_
  refine lv_istore_n (lv' := [(1, .int ((h.1 v0 1) / 2)), (0, .ref (ad G v0))]) E.1 E.2.1 dX10_longestEcho_6 rfl hl (by decide) rfl (fun ls hl => ?_)
  exact X10_longestEcho_l7_w E hr hlk N _ _ _ _ _ hf w t_v0 (lv_sub hl [1, 0] rfl)

def X10_roof (N : Nat) (h : HS) (v0 : Nat) (v1 : Int32) (v2 : Int32) : Option Int32 := bd1 (X7_houseAt N h (v0 + 1) v1) fun r2 => (if r2 = 0 then some (-2) else (if v2 = 0 then bd1 (X1_quietest N h r2) fun r8 => some r8 else (if v2 = 1 then bd1 (X1_from N h r2 0) fun r12 => bd1 (X1_peopleOf N h r2 r12) fun r15 => some r15 else (if v2 = 2 then bd1 (X1_from N h r2 0) fun r19 => bd1 (X1_rentsOf N h r2 r19) fun r22 => some r22 else (if v2 = 3 then bd1 (X10_longestClimb N h r2) fun r26 => some (r26 &&& 15) else (if v2 = 4 then bd1 (X10_longestClimb N h r2) fun r30 => some ((r30 >>> ((4 : Int32) &&& 31)) - 1) else (if v2 = 5 then bd1 (X10_longestEcho N h r2) fun r34 => some (r34 &&& 15) else (if v2 = 6 then bd1 (X10_longestEcho N h r2) fun r38 => some ((r38 >>> ((4 : Int32) &&& 31)) - 1) else (if v2 < (10 : Int32) then some (-2) else bd1 (X1_hasBar N h r2 (v2 - 10)) fun r42 => (if r42 = 0 then some (-2) else bd1 (X1_roofOf N h r2 (v2 - 10)) fun r46 => some r46))))))))))
set_option maxRecDepth 4000 in
set_option maxHeartbeats 2000000 in
theorem X10_roof_c {l : Launch} {G : GT} {N : Nat} {h : HS} {v0 : Nat} {v1 : Int32} {v2 : Int32} {z : Int32} (t_v0 : sh v0 = 10) (hf : X10_roof N h v0 v1 v2 = some z) : CT l G yX10_roof cX10_roof 4 (some .int) 4 85 [.ref (ad G v0), .int v1, .int v2] h (some (.int z)) h := by
  unfold X10_roof at hf
  refine CT.of (by decide) (Nat.le_of_ble_eq_true rfl) ?_
  intro p e s m below meth c ls E hr hlk w hl
  have hl : lv_has ls 4 [(0, .ref (ad G v0)), (1, .int v1), (2, .int v2)] := hl
  refine lv_aload_n E.1 E.2.1 dX10_roof_0 rfl (lv_at hl 0 rfl) ?_
  refine q_gs E w 1 t_v0 fl_RX10_10 dX10_roof_1 ?_
  refine lv_iload_n E.1 E.2.1 dX10_roof_4 rfl (lv_at hl 1 rfl) ?_
  obtain ⟨r2, hc1, hf⟩ := bd1_e hf
  refine k_Vr (As := [.int v1]) (rest := []) E w (lay_10_0 t_v0) ⟨by decide, rfl⟩ (X7_houseAt_c (lay_10_0 t_v0) hc1) mv_RX10_113 rfl rfl hl.1 ⟨Nat.le_of_ble_eq_true rfl, Nat.le_of_ble_eq_true rfl⟩ (Nat.le_of_ble_eq_true rfl) ⟨Nat.le_refl _, Nat.le_refl _⟩ dX10_roof_5 (fun H locs w => ?_)
  by_cases c5 : r2 = 0
  · have hf := q_pos c5 hf
    rw [c5, rfv_0]
    refine lv_astore_nN (lv' := [(3, .null), (0, .ref (ad G v0)), (1, .int v1), (2, .int v2)]) E.1 E.2.1 dX10_roof_8 rfl hl (by decide) rfl (fun ls hl => ?_)
    refine lv_aload_nN E.1 E.2.1 dX10_roof_9 rfl (lv_at hl 0 rfl) ?_
    refine lv_ifnonnullN E.1 E.2.1 dX10_roof_10 ?_
    refine lv_bipush (v := (-2)) E.1 E.2.1 dX10_roof_13 rfl ?_
    have hf := Option.some.inj hf
    subst hf
    exact q_iret E w hr hlk dX10_roof_15
  have hf := q_neg c5 hf
  have t4 : sh r2 = 1 := (X7_houseAt_t (lay_10_0 t_v0) hc1).resolve_left c5
  rw [rfv_p G (by rw [t4]; decide)]
  refine lv_astore_n (lv' := [(3, .ref (ad G r2)), (0, .ref (ad G v0)), (1, .int v1), (2, .int v2)]) E.1 E.2.1 dX10_roof_8 rfl hl (by decide) rfl (fun ls hl => ?_)
  refine lv_aload_n E.1 E.2.1 dX10_roof_9 rfl (lv_at hl 0 rfl) ?_
  refine lv_ifnonnull (tgt := 16) E.1 E.2.1 dX10_roof_10 (by decide) ?_
  refine lv_iload_n E.1 E.2.1 dX10_roof_16 rfl (lv_at hl 3 rfl) ?_
  by_cases c6 : v2 = 0
  · have hf := q_pos c6 hf
    refine lv_tableIn (off := 43) (tgt := 60) E.1 E.2.1 dX10_roof_17 (by rw [c6]; decide) (by rw [c6]; decide) (by rw [c6]; rfl) (by decide) ?_
    refine lv_aload_n E.1 E.2.1 dX10_roof_60 rfl (lv_at hl 0 rfl) ?_
    obtain ⟨r8, hc7, hf⟩ := bd1_e hf
    refine k_Vi (As := []) (rest := []) E w t4 ⟨by decide, rfl⟩ (X1_quietest_c t4 hc7) mv_RX10_266 rfl rfl hl.1 ⟨Nat.le_of_ble_eq_true rfl, Nat.le_of_ble_eq_true rfl⟩ (Nat.le_of_ble_eq_true rfl) ⟨Nat.le_refl _, Nat.le_refl _⟩ dX10_roof_61 (fun H locs w => ?_)
    have hf := Option.some.inj hf
    subst hf
    exact q_iret E w hr hlk dX10_roof_64
  have hf := q_neg c6 hf
  by_cases c10 : v2 = 1
  · have hf := q_pos c10 hf
    refine lv_tableIn (off := 48) (tgt := 65) E.1 E.2.1 dX10_roof_17 (by rw [c10]; decide) (by rw [c10]; decide) (by rw [c10]; rfl) (by decide) ?_
    refine lv_aload_n E.1 E.2.1 dX10_roof_65 rfl (lv_at hl 0 rfl) ?_
    refine lv_aload_n E.1 E.2.1 dX10_roof_66 rfl (lv_at hl 0 rfl) ?_
    refine lv_iconst (v := 0) E.1 E.2.1 dX10_roof_67 rfl ?_
    obtain ⟨r12, hc11, hf⟩ := bd1_e hf
    refine k_Vi (As := [.int 0]) (rest := [.ref (ad G r2)]) E w t4 ⟨by decide, rfl⟩ (X1_from_c t4 hc11) mv_RX10_269 rfl rfl hl.1 ⟨Nat.le_of_ble_eq_true rfl, Nat.le_of_ble_eq_true rfl⟩ (Nat.le_of_ble_eq_true rfl) ⟨Nat.le_refl _, Nat.le_refl _⟩ dX10_roof_68 (fun H locs w => ?_)
    obtain ⟨r15, hc14, hf⟩ := bd1_e hf
    refine k_Vi (As := [.int r12]) (rest := []) E w t4 ⟨by decide, rfl⟩ (X1_peopleOf_c t4 hc14) mv_RX10_260 rfl rfl hl.1 ⟨Nat.le_of_ble_eq_true rfl, Nat.le_of_ble_eq_true rfl⟩ (Nat.le_of_ble_eq_true rfl) ⟨Nat.le_refl _, Nat.le_refl _⟩ dX10_roof_71 (fun H locs w => ?_)
    have hf := Option.some.inj hf
    subst hf
    exact q_iret E w hr hlk dX10_roof_74
  have hf := q_neg c10 hf
  by_cases c17 : v2 = 2
  · have hf := q_pos c17 hf
    refine lv_tableIn (off := 58) (tgt := 75) E.1 E.2.1 dX10_roof_17 (by rw [c17]; decide) (by rw [c17]; decide) (by rw [c17]; rfl) (by decide) ?_
    refine lv_aload_n E.1 E.2.1 dX10_roof_75 rfl (lv_at hl 0 rfl) ?_
    refine lv_aload_n E.1 E.2.1 dX10_roof_76 rfl (lv_at hl 0 rfl) ?_
    refine lv_iconst (v := 0) E.1 E.2.1 dX10_roof_77 rfl ?_
    obtain ⟨r19, hc18, hf⟩ := bd1_e hf
    refine k_Vi (As := [.int 0]) (rest := [.ref (ad G r2)]) E w t4 ⟨by decide, rfl⟩ (X1_from_c t4 hc18) mv_RX10_269 rfl rfl hl.1 ⟨Nat.le_of_ble_eq_true rfl, Nat.le_of_ble_eq_true rfl⟩ (Nat.le_of_ble_eq_true rfl) ⟨Nat.le_refl _, Nat.le_refl _⟩ dX10_roof_78 (fun H locs w => ?_)
    obtain ⟨r22, hc21, hf⟩ := bd1_e hf
    refine k_Vi (As := [.int r19]) (rest := []) E w t4 ⟨by decide, rfl⟩ (X1_rentsOf_c t4 hc21) mv_RX10_272 rfl rfl hl.1 ⟨Nat.le_of_ble_eq_true rfl, Nat.le_of_ble_eq_true rfl⟩ (Nat.le_of_ble_eq_true rfl) ⟨Nat.le_refl _, Nat.le_refl _⟩ dX10_roof_81 (fun H locs w => ?_)
    have hf := Option.some.inj hf
    subst hf
    exact q_iret E w hr hlk dX10_roof_84
  have hf := q_neg c17 hf
  by_cases c24 : v2 = 3
  · have hf := q_pos c24 hf
    refine lv_tableIn (off := 68) (tgt := 85) E.1 E.2.1 dX10_roof_17 (by rw [c24]; decide) (by rw [c24]; decide) (by rw [c24]; rfl) (by decide) ?_
    refine lv_aload_n E.1 E.2.1 dX10_roof_85 rfl (lv_at hl 0 rfl) ?_
    obtain ⟨r26, hc25, hf⟩ := bd1_e hf
    refine k_Si (As := [.ref (ad G r2)]) (rest := []) E w (X10_longestClimb_c t4 hc25) ms_RX10_275 rfl rfl hl.1 ⟨Nat.le_of_ble_eq_true rfl, Nat.le_of_ble_eq_true rfl⟩ (Nat.le_of_ble_eq_true rfl) ⟨Nat.le_refl _, Nat.le_refl _⟩ dX10_roof_86 (fun H locs w => ?_)
    refine lv_bipush (v := 15) E.1 E.2.1 dX10_roof_89 rfl ?_
    refine lv_iand E.1 E.2.1 dX10_roof_91 ?_
    have hf := Option.some.inj hf
    subst hf
    exact q_iret E w hr hlk dX10_roof_92
  have hf := q_neg c24 hf
  by_cases c28 : v2 = 4
  · have hf := q_pos c28 hf
    refine lv_tableIn (off := 76) (tgt := 93) E.1 E.2.1 dX10_roof_17 (by rw [c28]; decide) (by rw [c28]; decide) (by rw [c28]; rfl) (by decide) ?_
    refine lv_aload_n E.1 E.2.1 dX10_roof_93 rfl (lv_at hl 0 rfl) ?_
    obtain ⟨r30, hc29, hf⟩ := bd1_e hf
    refine k_Si (As := [.ref (ad G r2)]) (rest := []) E w (X10_longestClimb_c t4 hc29) ms_RX10_275 rfl rfl hl.1 ⟨Nat.le_of_ble_eq_true rfl, Nat.le_of_ble_eq_true rfl⟩ (Nat.le_of_ble_eq_true rfl) ⟨Nat.le_refl _, Nat.le_refl _⟩ dX10_roof_94 (fun H locs w => ?_)
    refine lv_iconst (v := 4) E.1 E.2.1 dX10_roof_97 rfl ?_
    refine lv_ishr E.1 E.2.1 dX10_roof_98 ?_
    refine lv_iconst (v := 1) E.1 E.2.1 dX10_roof_99 rfl ?_
    refine lv_isub E.1 E.2.1 dX10_roof_100 ?_
    have hf := Option.some.inj hf
    subst hf
    exact q_iret E w hr hlk dX10_roof_101
  have hf := q_neg c28 hf
  by_cases c32 : v2 = 5
  · have hf := q_pos c32 hf
    refine lv_tableIn (off := 85) (tgt := 102) E.1 E.2.1 dX10_roof_17 (by rw [c32]; decide) (by rw [c32]; decide) (by rw [c32]; rfl) (by decide) ?_
    refine lv_aload_n E.1 E.2.1 dX10_roof_102 rfl (lv_at hl 0 rfl) ?_
    obtain ⟨r34, hc33, hf⟩ := bd1_e hf
    refine k_Si (As := [.ref (ad G r2)]) (rest := []) E w (X10_longestEcho_c t4 hc33) ms_RX10_278 rfl rfl hl.1 ⟨Nat.le_of_ble_eq_true rfl, Nat.le_of_ble_eq_true rfl⟩ (Nat.le_of_ble_eq_true rfl) ⟨Nat.le_refl _, Nat.le_refl _⟩ dX10_roof_103 (fun H locs w => ?_)
    refine lv_bipush (v := 15) E.1 E.2.1 dX10_roof_106 rfl ?_
    refine lv_iand E.1 E.2.1 dX10_roof_108 ?_
    have hf := Option.some.inj hf
    subst hf
    exact q_iret E w hr hlk dX10_roof_109
  have hf := q_neg c32 hf
  by_cases c36 : v2 = 6
  · have hf := q_pos c36 hf
    refine lv_tableIn (off := 93) (tgt := 110) E.1 E.2.1 dX10_roof_17 (by rw [c36]; decide) (by rw [c36]; decide) (by rw [c36]; rfl) (by decide) ?_
    refine lv_aload_n E.1 E.2.1 dX10_roof_110 rfl (lv_at hl 0 rfl) ?_
    obtain ⟨r38, hc37, hf⟩ := bd1_e hf
    refine k_Si (As := [.ref (ad G r2)]) (rest := []) E w (X10_longestEcho_c t4 hc37) ms_RX10_278 rfl rfl hl.1 ⟨Nat.le_of_ble_eq_true rfl, Nat.le_of_ble_eq_true rfl⟩ (Nat.le_of_ble_eq_true rfl) ⟨Nat.le_refl _, Nat.le_refl _⟩ dX10_roof_111 (fun H locs w => ?_)
    refine lv_iconst (v := 4) E.1 E.2.1 dX10_roof_114 rfl ?_
    refine lv_ishr E.1 E.2.1 dX10_roof_115 ?_
    refine lv_iconst (v := 1) E.1 E.2.1 dX10_roof_116 rfl ?_
    refine lv_isub E.1 E.2.1 dX10_roof_117 ?_
    have hf := Option.some.inj hf
    subst hf
    exact q_iret E w hr hlk dX10_roof_118
  have hf := q_neg c36 hf
  refine lv_tableOut (tgt := 119) E.1 E.2.1 dX10_roof_17 (by have := ne_i c6 (z := 0) (by decide); have := ne_i c10 (z := 1) (by decide); have := ne_i c17 (z := 2) (by decide); have := ne_i c24 (z := 3) (by decide); have := ne_i c28 (z := 4) (by decide); have := ne_i c32 (z := 5) (by decide); have := ne_i c36 (z := 6) (by decide); omega) (by decide) ?_
  refine lv_iload_n E.1 E.2.1 dX10_roof_119 rfl (lv_at hl 3 rfl) ?_
  refine lv_bipush (v := 10) E.1 E.2.1 dX10_roof_120 rfl ?_
  refine lv_icmp_lt (tgt := 147) E.1 E.2.1 dX10_roof_122 (by decide) (fun c40 => ?_) (fun c40 => ?_)
  · have hf := q_pos c40 hf
    refine lv_bipush (v := (-2)) E.1 E.2.1 dX10_roof_147 rfl ?_
    have hf := Option.some.inj hf
    subst hf
    exact q_iret E w hr hlk dX10_roof_149
  · have hf := q_neg c40 hf
    refine lv_aload_n E.1 E.2.1 dX10_roof_125 rfl (lv_at hl 0 rfl) ?_
    refine lv_iload_n E.1 E.2.1 dX10_roof_126 rfl (lv_at hl 3 rfl) ?_
    refine lv_bipush (v := 10) E.1 E.2.1 dX10_roof_127 rfl ?_
    refine lv_isub E.1 E.2.1 dX10_roof_129 ?_
    obtain ⟨r42, hc41, hf⟩ := bd1_e hf
    refine k_Vi (As := [.int (v2 - 10)]) (rest := []) E w t4 ⟨by decide, rfl⟩ (X1_hasBar_c t4 hc41) mv_RX10_156 rfl rfl hl.1 ⟨Nat.le_of_ble_eq_true rfl, Nat.le_of_ble_eq_true rfl⟩ (Nat.le_of_ble_eq_true rfl) ⟨Nat.le_refl _, Nat.le_refl _⟩ dX10_roof_130 (fun H locs w => ?_)
    refine lv_if_eq (tgt := 147) E.1 E.2.1 dX10_roof_133 (by decide) (fun c44 => ?_) (fun c44 => ?_)
    · have hf := q_pos c44 hf
      refine lv_bipush (v := (-2)) E.1 E.2.1 dX10_roof_147 rfl ?_
      have hf := Option.some.inj hf
      subst hf
      exact q_iret E w hr hlk dX10_roof_149
    · have hf := q_neg c44 hf
      refine lv_aload_n E.1 E.2.1 dX10_roof_136 rfl (lv_at hl 0 rfl) ?_
      refine lv_iload_n E.1 E.2.1 dX10_roof_137 rfl (lv_at hl 3 rfl) ?_
      refine lv_bipush (v := 10) E.1 E.2.1 dX10_roof_138 rfl ?_
      refine lv_isub E.1 E.2.1 dX10_roof_140 ?_
      obtain ⟨r46, hc45, hf⟩ := bd1_e hf
      refine k_Vi (As := [.int (v2 - 10)]) (rest := []) E w t4 ⟨by decide, rfl⟩ (X1_roofOf_c t4 hc45) mv_RX10_281 rfl rfl hl.1 ⟨Nat.le_of_ble_eq_true rfl, Nat.le_of_ble_eq_true rfl⟩ (Nat.le_of_ble_eq_true rfl) ⟨Nat.le_refl _, Nat.le_refl _⟩ dX10_roof_141 (fun H locs w => ?_)
      refine lv_goto (tgt := 149) E.1 E.2.1 dX10_roof_144 (by decide) ?_
      have hf := Option.some.inj hf
      subst hf
      exact q_iret E w hr hlk dX10_roof_149

def X10_sleep (N : Nat) (h : HS) (v0 : Nat) (v1 : Int32) (v2 : Int32) (v3 : Int32) : Option (Int64 × HS) := bd1 (X7_houseAt N h (v0 + 1) v1) fun r2 => (if r2 = 0 then some ((-1), h) else bd1 (X1_hasFloor N h r2 v2) fun r7 => (if r7 = 0 then some ((-1), h) else bd1 (X0_enter N h (v0 + 197) r2) fun h12 => bd1 (X0_asleep N h12 (v0 + 197) v2) fun r14 => bd1 (X0_part N h12 r14 v3) fun r17 => some (r17, h12)))
set_option maxRecDepth 4000 in
set_option maxHeartbeats 2000000 in
theorem X10_sleep_c {l : Launch} {G : GT} {N : Nat} {h : HS} {v0 : Nat} {v1 : Int32} {v2 : Int32} {v3 : Int32} {z : (Int64 × HS)} (t_v0 : sh v0 = 10) (hf : X10_sleep N h v0 v1 v2 v3 = some z) : CT l G yX10_sleep cX10_sleep 5 (some .long) 3 67 [.ref (ad G v0), .int v1, .int v2, .int v3] h (some (.long z.1)) z.2 := by
  unfold X10_sleep at hf
  refine CT.of (by decide) (Nat.le_of_ble_eq_true rfl) ?_
  intro p e s m below meth c ls E hr hlk w hl
  have hl : lv_has ls 5 [(0, .ref (ad G v0)), (1, .int v1), (2, .int v2), (3, .int v3)] := hl
  refine lv_aload_n E.1 E.2.1 dX10_sleep_0 rfl (lv_at hl 0 rfl) ?_
  refine q_gs E w 1 t_v0 fl_RX10_10 dX10_sleep_1 ?_
  refine lv_iload_n E.1 E.2.1 dX10_sleep_4 rfl (lv_at hl 1 rfl) ?_
  obtain ⟨r2, hc1, hf⟩ := bd1_e hf
  refine k_Vr (As := [.int v1]) (rest := []) E w (lay_10_0 t_v0) ⟨by decide, rfl⟩ (X7_houseAt_c (lay_10_0 t_v0) hc1) mv_RX10_113 rfl rfl hl.1 ⟨Nat.le_of_ble_eq_true rfl, Nat.le_of_ble_eq_true rfl⟩ (Nat.le_of_ble_eq_true rfl) ⟨Nat.le_refl _, Nat.le_refl _⟩ dX10_sleep_5 (fun H locs w => ?_)
  by_cases c5 : r2 = 0
  · have hf := q_pos c5 hf
    rw [c5, rfv_0]
    refine lv_astoreN (lv' := [(4, .null), (0, .ref (ad G v0)), (1, .int v1), (2, .int v2), (3, .int v3)]) E.1 E.2.1 dX10_sleep_8 hl (by decide) rfl (fun ls hl => ?_)
    refine lv_aloadN E.1 E.2.1 dX10_sleep_10 (lv_at hl 0 rfl) ?_
    refine lv_ifnullN (tgt := 24) E.1 E.2.1 dX10_sleep_12 (by decide) ?_
    refine lv_ldc2 (v := (-1)) E.1 E.2.1 E.2.2.2.1 (E.2.2.2.2 _ ct_RX10_184) dX10_sleep_24 ?_
    have hf := Option.some.inj hf
    subst hf
    exact q_lret E w hr hlk dX10_sleep_27
  have hf := q_neg c5 hf
  have t4 : sh r2 = 1 := (X7_houseAt_t (lay_10_0 t_v0) hc1).resolve_left c5
  rw [rfv_p G (by rw [t4]; decide)]
  refine lv_astore (lv' := [(4, .ref (ad G r2)), (0, .ref (ad G v0)), (1, .int v1), (2, .int v2), (3, .int v3)]) E.1 E.2.1 dX10_sleep_8 hl (by decide) rfl (fun ls hl => ?_)
  refine lv_aload E.1 E.2.1 dX10_sleep_10 (lv_at hl 0 rfl) ?_
  refine lv_ifnull E.1 E.2.1 dX10_sleep_12 ?_
  refine lv_aload E.1 E.2.1 dX10_sleep_15 (lv_at hl 0 rfl) ?_
  refine lv_iload_n E.1 E.2.1 dX10_sleep_17 rfl (lv_at hl 3 rfl) ?_
  obtain ⟨r7, hc6, hf⟩ := bd1_e hf
  refine k_Vi (As := [.int v2]) (rest := []) E w t4 ⟨by decide, rfl⟩ (X1_hasFloor_c t4 hc6) mv_RX10_284 rfl rfl hl.1 ⟨Nat.le_of_ble_eq_true rfl, Nat.le_of_ble_eq_true rfl⟩ (Nat.le_of_ble_eq_true rfl) ⟨Nat.le_refl _, Nat.le_refl _⟩ dX10_sleep_18 (fun H locs w => ?_)
  refine lv_if_ne (tgt := 28) E.1 E.2.1 dX10_sleep_21 (by decide) (fun c9 => ?_) (fun c9 => ?_)
  · have hf := q_neg c9 hf
    refine lv_aload_n E.1 E.2.1 dX10_sleep_28 rfl (lv_at hl 1 rfl) ?_
    refine q_gs E w 197 t_v0 fl_RX10_48 dX10_sleep_29 ?_
    refine lv_aload E.1 E.2.1 dX10_sleep_32 (lv_at hl 0 rfl) ?_
    obtain ⟨h12, hc10, hf⟩ := bd1_e hf
    refine k_Vv (As := [.ref (ad G r2)]) (rest := []) E w (lay_10_6 t_v0) ⟨by decide, rfl⟩ (X0_enter_c (lay_10_6 t_v0) t4 hc10) mv_RX10_186 rfl rfl hl.1 ⟨Nat.le_of_ble_eq_true rfl, Nat.le_of_ble_eq_true rfl⟩ (Nat.le_of_ble_eq_true rfl) ⟨Nat.le_refl _, Nat.le_refl _⟩ dX10_sleep_34 (fun H locs w => ?_)
    refine lv_aload_n E.1 E.2.1 dX10_sleep_37 rfl (lv_at hl 1 rfl) ?_
    refine q_gs E w 197 t_v0 fl_RX10_48 dX10_sleep_38 ?_
    refine lv_iload_n E.1 E.2.1 dX10_sleep_41 rfl (lv_at hl 3 rfl) ?_
    obtain ⟨r14, hc13, hf⟩ := bd1_e hf
    refine k_Vl (As := [.int v2]) (rest := []) E w (lay_10_6 t_v0) ⟨by decide, rfl⟩ (X0_asleep_c (lay_10_6 t_v0) hc13) mv_RX10_287 rfl rfl hl.1 ⟨Nat.le_of_ble_eq_true rfl, Nat.le_of_ble_eq_true rfl⟩ (Nat.le_of_ble_eq_true rfl) ⟨Nat.le_refl _, Nat.le_refl _⟩ dX10_sleep_42 (fun H locs w => ?_)
    refine lv_iload_n E.1 E.2.1 dX10_sleep_45 rfl (lv_at hl 4 rfl) ?_
    obtain ⟨r17, hc16, hf⟩ := bd1_e hf
    refine k_Sl (As := [.long r14, .int v3]) (rest := []) E w (X0_part_c  hc16) ms_RX10_194 rfl rfl hl.1 ⟨Nat.le_of_ble_eq_true rfl, Nat.le_of_ble_eq_true rfl⟩ (Nat.le_of_ble_eq_true rfl) ⟨Nat.le_refl _, Nat.le_refl _⟩ dX10_sleep_46 (fun H locs w => ?_)
    have hf := Option.some.inj hf
    subst hf
    exact q_lret E w hr hlk dX10_sleep_49
  · have hf := q_pos c9 hf
    refine lv_ldc2 (v := (-1)) E.1 E.2.1 E.2.2.2.1 (E.2.2.2.2 _ ct_RX10_184) dX10_sleep_24 ?_
    have hf := Option.some.inj hf
    subst hf
    exact q_lret E w hr hlk dX10_sleep_27

def X10_census (N : Nat) (h : HS) (v0 : Nat) (v1 : Int32) (v2 : Int32) (v3 : Int32) : Option (Int64 × HS) := bd1 (X7_houseAt N h (v0 + 1) v1) fun r2 => (if r2 = 0 then some ((-1), h) else (if v2 < 0 then some ((-1), h) else (if v2 ≤ (54 : Int32) then bd1 (X0_enter N h (v0 + 197) r2) fun h10 => bd1 (X0_atLeast N h10 (v0 + 197) v2) fun r12 => bd1 (X0_part N h10 r12 v3) fun r15 => some (r15, h10) else some ((-1), h))))
set_option maxRecDepth 4000 in
set_option maxHeartbeats 2000000 in
theorem X10_census_c {l : Launch} {G : GT} {N : Nat} {h : HS} {v0 : Nat} {v1 : Int32} {v2 : Int32} {v3 : Int32} {z : (Int64 × HS)} (t_v0 : sh v0 = 10) (hf : X10_census N h v0 v1 v2 v3 = some z) : CT l G yX10_census cX10_census 5 (some .long) 4 89 [.ref (ad G v0), .int v1, .int v2, .int v3] h (some (.long z.1)) z.2 := by
  unfold X10_census at hf
  refine CT.of (by decide) (Nat.le_of_ble_eq_true rfl) ?_
  intro p e s m below meth c ls E hr hlk w hl
  have hl : lv_has ls 5 [(0, .ref (ad G v0)), (1, .int v1), (2, .int v2), (3, .int v3)] := hl
  refine lv_aload_n E.1 E.2.1 dX10_census_0 rfl (lv_at hl 0 rfl) ?_
  refine q_gs E w 1 t_v0 fl_RX10_10 dX10_census_1 ?_
  refine lv_iload_n E.1 E.2.1 dX10_census_4 rfl (lv_at hl 1 rfl) ?_
  obtain ⟨r2, hc1, hf⟩ := bd1_e hf
  refine k_Vr (As := [.int v1]) (rest := []) E w (lay_10_0 t_v0) ⟨by decide, rfl⟩ (X7_houseAt_c (lay_10_0 t_v0) hc1) mv_RX10_113 rfl rfl hl.1 ⟨Nat.le_of_ble_eq_true rfl, Nat.le_of_ble_eq_true rfl⟩ (Nat.le_of_ble_eq_true rfl) ⟨Nat.le_refl _, Nat.le_refl _⟩ dX10_census_5 (fun H locs w => ?_)
  by_cases c5 : r2 = 0
  · have hf := q_pos c5 hf
    rw [c5, rfv_0]
    refine lv_astoreN (lv' := [(4, .null), (0, .ref (ad G v0)), (1, .int v1), (2, .int v2), (3, .int v3)]) E.1 E.2.1 dX10_census_8 hl (by decide) rfl (fun ls hl => ?_)
    refine lv_aloadN E.1 E.2.1 dX10_census_10 (lv_at hl 0 rfl) ?_
    refine lv_ifnullN (tgt := 25) E.1 E.2.1 dX10_census_12 (by decide) ?_
    refine lv_ldc2 (v := (-1)) E.1 E.2.1 E.2.2.2.1 (E.2.2.2.2 _ ct_RX10_184) dX10_census_25 ?_
    have hf := Option.some.inj hf
    subst hf
    exact q_lret E w hr hlk dX10_census_28
  have hf := q_neg c5 hf
  have t4 : sh r2 = 1 := (X7_houseAt_t (lay_10_0 t_v0) hc1).resolve_left c5
  rw [rfv_p G (by rw [t4]; decide)]
  refine lv_astore (lv' := [(4, .ref (ad G r2)), (0, .ref (ad G v0)), (1, .int v1), (2, .int v2), (3, .int v3)]) E.1 E.2.1 dX10_census_8 hl (by decide) rfl (fun ls hl => ?_)
  refine lv_aload E.1 E.2.1 dX10_census_10 (lv_at hl 0 rfl) ?_
  refine lv_ifnull E.1 E.2.1 dX10_census_12 ?_
  refine lv_iload_n E.1 E.2.1 dX10_census_15 rfl (lv_at hl 3 rfl) ?_
  refine lv_if_lt (tgt := 25) E.1 E.2.1 dX10_census_16 (by decide) (fun c6 => ?_) (fun c6 => ?_)
  · have hf := q_pos c6 hf
    refine lv_ldc2 (v := (-1)) E.1 E.2.1 E.2.2.2.1 (E.2.2.2.2 _ ct_RX10_184) dX10_census_25 ?_
    have hf := Option.some.inj hf
    subst hf
    exact q_lret E w hr hlk dX10_census_28
  · have hf := q_neg c6 hf
    refine lv_iload_n E.1 E.2.1 dX10_census_19 rfl (lv_at hl 3 rfl) ?_
    refine lv_bipush (v := 54) E.1 E.2.1 dX10_census_20 rfl ?_
    refine lv_icmp_le (tgt := 29) E.1 E.2.1 dX10_census_22 (by decide) (fun c7 => ?_) (fun c7 => ?_)
    · have hf := q_pos c7 hf
      refine lv_aload_n E.1 E.2.1 dX10_census_29 rfl (lv_at hl 1 rfl) ?_
      refine q_gs E w 197 t_v0 fl_RX10_48 dX10_census_30 ?_
      refine lv_aload E.1 E.2.1 dX10_census_33 (lv_at hl 0 rfl) ?_
      obtain ⟨h10, hc8, hf⟩ := bd1_e hf
      refine k_Vv (As := [.ref (ad G r2)]) (rest := []) E w (lay_10_6 t_v0) ⟨by decide, rfl⟩ (X0_enter_c (lay_10_6 t_v0) t4 hc8) mv_RX10_186 rfl rfl hl.1 ⟨Nat.le_of_ble_eq_true rfl, Nat.le_of_ble_eq_true rfl⟩ (Nat.le_of_ble_eq_true rfl) ⟨Nat.le_refl _, Nat.le_refl _⟩ dX10_census_35 (fun H locs w => ?_)
      refine lv_aload_n E.1 E.2.1 dX10_census_38 rfl (lv_at hl 1 rfl) ?_
      refine q_gs E w 197 t_v0 fl_RX10_48 dX10_census_39 ?_
      refine lv_iload_n E.1 E.2.1 dX10_census_42 rfl (lv_at hl 3 rfl) ?_
      obtain ⟨r12, hc11, hf⟩ := bd1_e hf
      refine k_Vl (As := [.int v2]) (rest := []) E w (lay_10_6 t_v0) ⟨by decide, rfl⟩ (X0_atLeast_c (lay_10_6 t_v0) hc11) mv_RX10_291 rfl rfl hl.1 ⟨Nat.le_of_ble_eq_true rfl, Nat.le_of_ble_eq_true rfl⟩ (Nat.le_of_ble_eq_true rfl) ⟨Nat.le_refl _, Nat.le_refl _⟩ dX10_census_43 (fun H locs w => ?_)
      refine lv_iload_n E.1 E.2.1 dX10_census_46 rfl (lv_at hl 4 rfl) ?_
      obtain ⟨r15, hc14, hf⟩ := bd1_e hf
      refine k_Sl (As := [.long r12, .int v3]) (rest := []) E w (X0_part_c  hc14) ms_RX10_194 rfl rfl hl.1 ⟨Nat.le_of_ble_eq_true rfl, Nat.le_of_ble_eq_true rfl⟩ (Nat.le_of_ble_eq_true rfl) ⟨Nat.le_refl _, Nat.le_refl _⟩ dX10_census_47 (fun H locs w => ?_)
      have hf := Option.some.inj hf
      subst hf
      exact q_lret E w hr hlk dX10_census_50
    · have hf := q_neg c7 hf
      refine lv_ldc2 (v := (-1)) E.1 E.2.1 E.2.2.2.1 (E.2.2.2.2 _ ct_RX10_184) dX10_census_25 ?_
      have hf := Option.some.inj hf
      subst hf
      exact q_lret E w hr hlk dX10_census_28

def X10_move (N : Nat) (h : HS) (v0 : Nat) (v1 : Int32) (v2 : Int32) (v3 : Int32) : Option Int32 := bd1 (X7_houseAt N h (v0 + 1) v1) fun r2 => (if r2 = 0 then some (-999) else bd1 (X1_hasFloor N h r2 v2) fun r7 => (if r7 = 0 then some (-999) else bd1 (X1_hasFloor N h r2 v3) fun r11 => (if r11 = 0 then some (-999) else bd1 (X1_from N h r2 v3) fun r15 => bd1 (X1_peopleOf N h r2 r15) fun r18 => bd1 (X1_from N h r2 v2) fun r21 => bd1 (X1_peopleOf N h r2 r21) fun r24 => bd1 (X1_notesOn N h r2 v2) fun r27 => some (r27 * (r18 - r24)))))
set_option maxRecDepth 4000 in
set_option maxHeartbeats 2000000 in
theorem X10_move_c {l : Launch} {G : GT} {N : Nat} {h : HS} {v0 : Nat} {v1 : Int32} {v2 : Int32} {v3 : Int32} {z : Int32} (t_v0 : sh v0 = 10) (hf : X10_move N h v0 v1 v2 v3 = some z) : CT l G yX10_move cX10_move 6 (some .int) 3 65 [.ref (ad G v0), .int v1, .int v2, .int v3] h (some (.int z)) h := by
  unfold X10_move at hf
  refine CT.of (by decide) (Nat.le_of_ble_eq_true rfl) ?_
  intro p e s m below meth c ls E hr hlk w hl
  have hl : lv_has ls 6 [(0, .ref (ad G v0)), (1, .int v1), (2, .int v2), (3, .int v3)] := hl
  refine lv_aload_n E.1 E.2.1 dX10_move_0 rfl (lv_at hl 0 rfl) ?_
  refine q_gs E w 1 t_v0 fl_RX10_10 dX10_move_1 ?_
  refine lv_iload_n E.1 E.2.1 dX10_move_4 rfl (lv_at hl 1 rfl) ?_
  obtain ⟨r2, hc1, hf⟩ := bd1_e hf
  refine k_Vr (As := [.int v1]) (rest := []) E w (lay_10_0 t_v0) ⟨by decide, rfl⟩ (X7_houseAt_c (lay_10_0 t_v0) hc1) mv_RX10_113 rfl rfl hl.1 ⟨Nat.le_of_ble_eq_true rfl, Nat.le_of_ble_eq_true rfl⟩ (Nat.le_of_ble_eq_true rfl) ⟨Nat.le_refl _, Nat.le_refl _⟩ dX10_move_5 (fun H locs w => ?_)
  by_cases c5 : r2 = 0
  · have hf := q_pos c5 hf
    rw [c5, rfv_0]
    refine lv_astoreN (lv' := [(4, .null), (0, .ref (ad G v0)), (1, .int v1), (2, .int v2), (3, .int v3)]) E.1 E.2.1 dX10_move_8 hl (by decide) rfl (fun ls hl => ?_)
    refine lv_aloadN E.1 E.2.1 dX10_move_10 (lv_at hl 0 rfl) ?_
    refine lv_ifnullN (tgt := 33) E.1 E.2.1 dX10_move_12 (by decide) ?_
    refine lv_sipush (v := (-999)) E.1 E.2.1 dX10_move_33 rfl ?_
    have hf := Option.some.inj hf
    subst hf
    exact q_iret E w hr hlk dX10_move_36
  have hf := q_neg c5 hf
  have t4 : sh r2 = 1 := (X7_houseAt_t (lay_10_0 t_v0) hc1).resolve_left c5
  rw [rfv_p G (by rw [t4]; decide)]
  refine lv_astore (lv' := [(4, .ref (ad G r2)), (0, .ref (ad G v0)), (1, .int v1), (2, .int v2), (3, .int v3)]) E.1 E.2.1 dX10_move_8 hl (by decide) rfl (fun ls hl => ?_)
  refine lv_aload E.1 E.2.1 dX10_move_10 (lv_at hl 0 rfl) ?_
  refine lv_ifnull E.1 E.2.1 dX10_move_12 ?_
  refine lv_aload E.1 E.2.1 dX10_move_15 (lv_at hl 0 rfl) ?_
  refine lv_iload_n E.1 E.2.1 dX10_move_17 rfl (lv_at hl 3 rfl) ?_
  obtain ⟨r7, hc6, hf⟩ := bd1_e hf
  refine k_Vi (As := [.int v2]) (rest := []) E w t4 ⟨by decide, rfl⟩ (X1_hasFloor_c t4 hc6) mv_RX10_284 rfl rfl hl.1 ⟨Nat.le_of_ble_eq_true rfl, Nat.le_of_ble_eq_true rfl⟩ (Nat.le_of_ble_eq_true rfl) ⟨Nat.le_refl _, Nat.le_refl _⟩ dX10_move_18 (fun H locs w => ?_)
  refine lv_if_eq (tgt := 33) E.1 E.2.1 dX10_move_21 (by decide) (fun c9 => ?_) (fun c9 => ?_)
  · have hf := q_pos c9 hf
    refine lv_sipush (v := (-999)) E.1 E.2.1 dX10_move_33 rfl ?_
    have hf := Option.some.inj hf
    subst hf
    exact q_iret E w hr hlk dX10_move_36
  · have hf := q_neg c9 hf
    refine lv_aload E.1 E.2.1 dX10_move_24 (lv_at hl 0 rfl) ?_
    refine lv_iload_n E.1 E.2.1 dX10_move_26 rfl (lv_at hl 4 rfl) ?_
    obtain ⟨r11, hc10, hf⟩ := bd1_e hf
    refine k_Vi (As := [.int v3]) (rest := []) E w t4 ⟨by decide, rfl⟩ (X1_hasFloor_c t4 hc10) mv_RX10_284 rfl rfl hl.1 ⟨Nat.le_of_ble_eq_true rfl, Nat.le_of_ble_eq_true rfl⟩ (Nat.le_of_ble_eq_true rfl) ⟨Nat.le_refl _, Nat.le_refl _⟩ dX10_move_27 (fun H locs w => ?_)
    refine lv_if_ne (tgt := 37) E.1 E.2.1 dX10_move_30 (by decide) (fun c13 => ?_) (fun c13 => ?_)
    · have hf := q_neg c13 hf
      refine lv_aload E.1 E.2.1 dX10_move_37 (lv_at hl 0 rfl) ?_
      refine lv_aload E.1 E.2.1 dX10_move_39 (lv_at hl 0 rfl) ?_
      refine lv_iload_n E.1 E.2.1 dX10_move_41 rfl (lv_at hl 4 rfl) ?_
      obtain ⟨r15, hc14, hf⟩ := bd1_e hf
      refine k_Vi (As := [.int v3]) (rest := [.ref (ad G r2)]) E w t4 ⟨by decide, rfl⟩ (X1_from_c t4 hc14) mv_RX10_269 rfl rfl hl.1 ⟨Nat.le_of_ble_eq_true rfl, Nat.le_of_ble_eq_true rfl⟩ (Nat.le_of_ble_eq_true rfl) ⟨Nat.le_refl _, Nat.le_refl _⟩ dX10_move_42 (fun H locs w => ?_)
      obtain ⟨r18, hc17, hf⟩ := bd1_e hf
      refine k_Vi (As := [.int r15]) (rest := []) E w t4 ⟨by decide, rfl⟩ (X1_peopleOf_c t4 hc17) mv_RX10_260 rfl rfl hl.1 ⟨Nat.le_of_ble_eq_true rfl, Nat.le_of_ble_eq_true rfl⟩ (Nat.le_of_ble_eq_true rfl) ⟨Nat.le_refl _, Nat.le_refl _⟩ dX10_move_45 (fun H locs w => ?_)
      refine lv_aload E.1 E.2.1 dX10_move_48 (lv_at hl 0 rfl) ?_
      refine lv_aload E.1 E.2.1 dX10_move_50 (lv_at hl 0 rfl) ?_
      refine lv_iload_n E.1 E.2.1 dX10_move_52 rfl (lv_at hl 3 rfl) ?_
      obtain ⟨r21, hc20, hf⟩ := bd1_e hf
      refine k_Vi (As := [.int v2]) (rest := [.ref (ad G r2), .int r18]) E w t4 ⟨by decide, rfl⟩ (X1_from_c t4 hc20) mv_RX10_269 rfl rfl hl.1 ⟨Nat.le_of_ble_eq_true rfl, Nat.le_of_ble_eq_true rfl⟩ (Nat.le_of_ble_eq_true rfl) ⟨Nat.le_refl _, Nat.le_refl _⟩ dX10_move_53 (fun H locs w => ?_)
      obtain ⟨r24, hc23, hf⟩ := bd1_e hf
      refine k_Vi (As := [.int r21]) (rest := [.int r18]) E w t4 ⟨by decide, rfl⟩ (X1_peopleOf_c t4 hc23) mv_RX10_260 rfl rfl hl.1 ⟨Nat.le_of_ble_eq_true rfl, Nat.le_of_ble_eq_true rfl⟩ (Nat.le_of_ble_eq_true rfl) ⟨Nat.le_refl _, Nat.le_refl _⟩ dX10_move_56 (fun H locs w => ?_)
      refine lv_isub E.1 E.2.1 dX10_move_59 ?_
      refine lv_istore (lv' := [(5, .int (r18 - r24)), (4, .ref (ad G r2)), (0, .ref (ad G v0)), (1, .int v1), (2, .int v2), (3, .int v3)]) E.1 E.2.1 dX10_move_60 hl (by decide) rfl (fun ls hl => ?_)
      refine lv_aload E.1 E.2.1 dX10_move_62 (lv_at hl 1 rfl) ?_
      refine lv_iload_n E.1 E.2.1 dX10_move_64 rfl (lv_at hl 4 rfl) ?_
      obtain ⟨r27, hc26, hf⟩ := bd1_e hf
      refine k_Vi (As := [.int v2]) (rest := []) E w t4 ⟨by decide, rfl⟩ (X1_notesOn_c t4 hc26) mv_RX10_294 rfl rfl hl.1 ⟨Nat.le_of_ble_eq_true rfl, Nat.le_of_ble_eq_true rfl⟩ (Nat.le_of_ble_eq_true rfl) ⟨Nat.le_refl _, Nat.le_refl _⟩ dX10_move_65 (fun H locs w => ?_)
      refine lv_iload E.1 E.2.1 dX10_move_68 (lv_at hl 0 rfl) ?_
      refine lv_imul E.1 E.2.1 dX10_move_70 ?_
      have hf := Option.some.inj hf
      subst hf
      exact q_iret E w hr hlk dX10_move_71
    · have hf := q_pos c13 hf
      refine lv_sipush (v := (-999)) E.1 E.2.1 dX10_move_33 rfl ?_
      have hf := Option.some.inj hf
      subst hf
      exact q_iret E w hr hlk dX10_move_36

def X10_range (N : Nat) (h : HS) (v0 : Nat) (v1 : Int32) (v2 : Int32) : Option Int32 := bd1 (X7_houseAt N h (v0 + 1) v1) fun r2 => (if r2 = 0 then some (-1) else bd1 (X1_everybody N h r2) fun r7 => (if (v2 &&& (r7 ^^^ (-1))) = 0 then bd1 (X1_notesOf N h r2 v2) fun r11 => bd1 (J6_bitCount_0f7a4 N h r11) fun r14 => some r14 else some (-1)))
set_option maxRecDepth 4000 in
set_option maxHeartbeats 2000000 in
theorem X10_range_c {l : Launch} {G : GT} {N : Nat} {h : HS} {v0 : Nat} {v1 : Int32} {v2 : Int32} {z : Int32} (t_v0 : sh v0 = 10) (hf : X10_range N h v0 v1 v2 = some z) : CT l G yX10_range cX10_range 4 (some .int) 2 47 [.ref (ad G v0), .int v1, .int v2] h (some (.int z)) h := by
  unfold X10_range at hf
  refine CT.of (by decide) (Nat.le_of_ble_eq_true rfl) ?_
  intro p e s m below meth c ls E hr hlk w hl
  have hl : lv_has ls 4 [(0, .ref (ad G v0)), (1, .int v1), (2, .int v2)] := hl
  refine lv_aload_n E.1 E.2.1 dX10_range_0 rfl (lv_at hl 0 rfl) ?_
  refine q_gs E w 1 t_v0 fl_RX10_10 dX10_range_1 ?_
  refine lv_iload_n E.1 E.2.1 dX10_range_4 rfl (lv_at hl 1 rfl) ?_
  obtain ⟨r2, hc1, hf⟩ := bd1_e hf
  refine k_Vr (As := [.int v1]) (rest := []) E w (lay_10_0 t_v0) ⟨by decide, rfl⟩ (X7_houseAt_c (lay_10_0 t_v0) hc1) mv_RX10_113 rfl rfl hl.1 ⟨Nat.le_of_ble_eq_true rfl, Nat.le_of_ble_eq_true rfl⟩ (Nat.le_of_ble_eq_true rfl) ⟨Nat.le_refl _, Nat.le_refl _⟩ dX10_range_5 (fun H locs w => ?_)
  by_cases c5 : r2 = 0
  · have hf := q_pos c5 hf
    rw [c5, rfv_0]
    refine lv_astore_nN (lv' := [(3, .null), (0, .ref (ad G v0)), (1, .int v1), (2, .int v2)]) E.1 E.2.1 dX10_range_8 rfl hl (by decide) rfl (fun ls hl => ?_)
    refine lv_aload_nN E.1 E.2.1 dX10_range_9 rfl (lv_at hl 0 rfl) ?_
    refine lv_ifnullN (tgt := 24) E.1 E.2.1 dX10_range_10 (by decide) ?_
    refine lv_iconst (v := (-1)) E.1 E.2.1 dX10_range_24 rfl ?_
    have hf := Option.some.inj hf
    subst hf
    exact q_iret E w hr hlk dX10_range_25
  have hf := q_neg c5 hf
  have t4 : sh r2 = 1 := (X7_houseAt_t (lay_10_0 t_v0) hc1).resolve_left c5
  rw [rfv_p G (by rw [t4]; decide)]
  refine lv_astore_n (lv' := [(3, .ref (ad G r2)), (0, .ref (ad G v0)), (1, .int v1), (2, .int v2)]) E.1 E.2.1 dX10_range_8 rfl hl (by decide) rfl (fun ls hl => ?_)
  refine lv_aload_n E.1 E.2.1 dX10_range_9 rfl (lv_at hl 0 rfl) ?_
  refine lv_ifnull E.1 E.2.1 dX10_range_10 ?_
  refine lv_iload_n E.1 E.2.1 dX10_range_13 rfl (lv_at hl 3 rfl) ?_
  refine lv_aload_n E.1 E.2.1 dX10_range_14 rfl (lv_at hl 0 rfl) ?_
  obtain ⟨r7, hc6, hf⟩ := bd1_e hf
  refine k_Vi (As := []) (rest := [.int v2]) E w t4 ⟨by decide, rfl⟩ (X1_everybody_c t4 hc6) mv_RX10_297 rfl rfl hl.1 ⟨Nat.le_of_ble_eq_true rfl, Nat.le_of_ble_eq_true rfl⟩ (Nat.le_of_ble_eq_true rfl) ⟨Nat.le_refl _, Nat.le_refl _⟩ dX10_range_15 (fun H locs w => ?_)
  refine lv_iconst (v := (-1)) E.1 E.2.1 dX10_range_18 rfl ?_
  refine lv_ixor E.1 E.2.1 dX10_range_19 ?_
  refine lv_iand E.1 E.2.1 dX10_range_20 ?_
  refine lv_if_eq (tgt := 26) E.1 E.2.1 dX10_range_21 (by decide) (fun c9 => ?_) (fun c9 => ?_)
  · have hf := q_pos c9 hf
    refine lv_aload_n E.1 E.2.1 dX10_range_26 rfl (lv_at hl 0 rfl) ?_
    refine lv_iload_n E.1 E.2.1 dX10_range_27 rfl (lv_at hl 3 rfl) ?_
    obtain ⟨r11, hc10, hf⟩ := bd1_e hf
    refine k_Vi (As := [.int v2]) (rest := []) E w t4 ⟨by decide, rfl⟩ (X1_notesOf_c t4 hc10) mv_RX10_300 rfl rfl hl.1 ⟨Nat.le_of_ble_eq_true rfl, Nat.le_of_ble_eq_true rfl⟩ (Nat.le_of_ble_eq_true rfl) ⟨Nat.le_refl _, Nat.le_refl _⟩ dX10_range_28 (fun H locs w => ?_)
    obtain ⟨r14, hc13, hf⟩ := bd1_e hf
    refine k_Si (As := [.int r11]) (rest := []) E w (J6_bitCount_0f7a4_c  hc13) ms_RX10_171 rfl rfl hl.1 ⟨Nat.le_of_ble_eq_true rfl, Nat.le_of_ble_eq_true rfl⟩ (Nat.le_of_ble_eq_true rfl) ⟨Nat.le_refl _, Nat.le_refl _⟩ dX10_range_31 (fun H locs w => ?_)
    have hf := Option.some.inj hf
    subst hf
    exact q_iret E w hr hlk dX10_range_34
  · have hf := q_neg c9 hf
    refine lv_iconst (v := (-1)) E.1 E.2.1 dX10_range_24 rfl ?_
    have hf := Option.some.inj hf
    subst hf
    exact q_iret E w hr hlk dX10_range_25

def X10_smallestChoir_b34 (N : Nat) (h : HS) (K9 : Nat → Int32 → Int32 → Int32 → Option Int32) (v0 : Nat) (v1 : Int32) (v2 : Int32) (v3 : Int32) (u0 : Int32) : Option Int32 := (if u0 = 0 then K9 v0 v1 v2 (v3 + 1) else (if v2 = ((-1) : Int32) then K9 v0 v1 v3 (v3 + 1) else bd1 (J6_bitCount_0f7a4 N h v3) fun r15 => bd1 (J6_bitCount_0f7a4 N h v2) fun r18 => (if r18 ≤ r15 then K9 v0 v1 v2 (v3 + 1) else K9 v0 v1 v3 (v3 + 1))))
set_option maxRecDepth 4000 in
set_option maxHeartbeats 2000000 in
theorem X10_smallestChoir_b34_w {p : Program} {l : Launch} {e : Env} {s : State} {m : MethodId} {args : Array Value} {below : List Frame} {meth : Method} {c : Code} {G : GT} {N : Nat} {z : Int32} {h : HS} (E : CallFix p m c cX10_smallestChoir 5 s args UW RX10) (hr : meth.sig.returnType = (some .int)) (hlk : meth.locks = false) {K9 : Nat → Int32 → Int32 → Int32 → Option Int32} (hK9 : ∀ (H : Heap) (locs : List Loc) (ls : Array Slot) (v0 : Nat) (v1 : Int32) (v2 : Int32) (v3 : Int32), K9 v0 v1 v2 v3 = some z → WD G s h H locs → sh v0 = 1 → lv_has ls 5 [(0, .ref (ad G v0)), (1, .int v1), (2, .int v2), (3, .int v3)] → W p l e ({ frames := 3, cells := 0, slots := 0, locals := 64 } : Room) s m args below meth c H locs 0 0 (MQ below (QC G (some (.int z)) h) args s 0 0 (AD G)) (F0 m 9 ls [])) {H : Heap} {locs : List Loc} {ls : Array Slot} {v0 : Nat} {v1 : Int32} {v2 : Int32} {v3 : Int32} {u0 : Int32} (hf : X10_smallestChoir_b34 N h K9 v0 v1 v2 v3 u0 = some z) (w : WD G s h H locs) (t_v0 : sh v0 = 1) (hl : lv_has ls 5 [(0, .ref (ad G v0)), (1, .int v1), (2, .int v2), (3, .int v3)]) : W p l e ({ frames := 3, cells := 0, slots := 0, locals := 64 } : Room) s m args below meth c H locs 0 0 (MQ below (QC G (some (.int z)) h) args s 0 0 (AD G)) (F0 m 34 ls [.int u0]) := by
  unfold X10_smallestChoir_b34 at hf
  refine lv_istore (lv' := [(4, .int u0), (0, .ref (ad G v0)), (1, .int v1), (2, .int v2), (3, .int v3)]) E.1 E.2.1 dX10_smallestChoir_34 hl (by decide) rfl (fun ls hl => ?_)
  refine lv_iload E.1 E.2.1 dX10_smallestChoir_36 (lv_at hl 0 rfl) ?_
  refine lv_if_eq (tgt := 59) E.1 E.2.1 dX10_smallestChoir_38 (by decide) (fun c12 => ?_) (fun c12 => ?_)
  · have hf := q_pos c12 hf
    refine lv_iinc (v := v3 + 1) (lv' := [(3, .int (v3 + 1)), (4, .int u0), (0, .ref (ad G v0)), (1, .int v1), (2, .int v2)]) E.1 E.2.1 dX10_smallestChoir_59 hl (k := 4) rfl rfl (by decide) rfl (fun ls hl => ?_)
    refine lv_goto (tgt := 9) E.1 E.2.1 dX10_smallestChoir_62 (by decide) ?_
    exact hK9 _ _ _ _ _ _ _ hf w t_v0 (lv_sub hl [2, 3, 4, 0] rfl)
  · have hf := q_neg c12 hf
    refine lv_iload_n E.1 E.2.1 dX10_smallestChoir_41 rfl (lv_at hl 3 rfl) ?_
    refine lv_iconst (v := (-1)) E.1 E.2.1 dX10_smallestChoir_42 rfl ?_
    refine lv_icmp_eq (tgt := 57) E.1 E.2.1 dX10_smallestChoir_43 (by decide) (fun c13 => ?_) (fun c13 => ?_)
    · have hf := q_pos c13 hf
      refine lv_iload_n E.1 E.2.1 dX10_smallestChoir_57 rfl (lv_at hl 4 rfl) ?_
      refine lv_istore_n (lv' := [(2, .int v3), (4, .int u0), (0, .ref (ad G v0)), (1, .int v1), (3, .int v3)]) E.1 E.2.1 dX10_smallestChoir_58 rfl hl (by decide) rfl (fun ls hl => ?_)
      refine lv_iinc (v := v3 + 1) (lv' := [(3, .int (v3 + 1)), (2, .int v3), (4, .int u0), (0, .ref (ad G v0)), (1, .int v1)]) E.1 E.2.1 dX10_smallestChoir_59 hl (k := 4) rfl rfl (by decide) rfl (fun ls hl => ?_)
      refine lv_goto (tgt := 9) E.1 E.2.1 dX10_smallestChoir_62 (by decide) ?_
      exact hK9 _ _ _ _ _ _ _ hf w t_v0 (lv_sub hl [3, 4, 1, 0] rfl)
    · have hf := q_neg c13 hf
      refine lv_iload_n E.1 E.2.1 dX10_smallestChoir_46 rfl (lv_at hl 4 rfl) ?_
      obtain ⟨r15, hc14, hf⟩ := bd1_e hf
      refine k_Si (As := [.int v3]) (rest := []) E w (J6_bitCount_0f7a4_c  hc14) ms_RX10_171 rfl rfl hl.1 ⟨Nat.le_of_ble_eq_true rfl, Nat.le_of_ble_eq_true rfl⟩ (Nat.le_of_ble_eq_true rfl) ⟨Nat.le_refl _, Nat.le_refl _⟩ dX10_smallestChoir_47 (fun H locs w => ?_)
      refine lv_iload_n E.1 E.2.1 dX10_smallestChoir_50 rfl (lv_at hl 3 rfl) ?_
      obtain ⟨r18, hc17, hf⟩ := bd1_e hf
      refine k_Si (As := [.int v2]) (rest := [.int r15]) E w (J6_bitCount_0f7a4_c  hc17) ms_RX10_171 rfl rfl hl.1 ⟨Nat.le_of_ble_eq_true rfl, Nat.le_of_ble_eq_true rfl⟩ (Nat.le_of_ble_eq_true rfl) ⟨Nat.le_refl _, Nat.le_refl _⟩ dX10_smallestChoir_51 (fun H locs w => ?_)
      refine lv_icmp_ge (tgt := 59) E.1 E.2.1 dX10_smallestChoir_54 (by decide) (fun c20 => ?_) (fun c20 => ?_)
      · have hf := q_pos c20 hf
        refine lv_iinc (v := v3 + 1) (lv' := [(3, .int (v3 + 1)), (4, .int u0), (0, .ref (ad G v0)), (1, .int v1), (2, .int v2)]) E.1 E.2.1 dX10_smallestChoir_59 hl (k := 4) rfl rfl (by decide) rfl (fun ls hl => ?_)
        refine lv_goto (tgt := 9) E.1 E.2.1 dX10_smallestChoir_62 (by decide) ?_
        exact hK9 _ _ _ _ _ _ _ hf w t_v0 (lv_sub hl [2, 3, 4, 0] rfl)
      · have hf := q_neg c20 hf
        refine lv_iload_n E.1 E.2.1 dX10_smallestChoir_57 rfl (lv_at hl 4 rfl) ?_
        refine lv_istore_n (lv' := [(2, .int v3), (4, .int u0), (0, .ref (ad G v0)), (1, .int v1), (3, .int v3)]) E.1 E.2.1 dX10_smallestChoir_58 rfl hl (by decide) rfl (fun ls hl => ?_)
        refine lv_iinc (v := v3 + 1) (lv' := [(3, .int (v3 + 1)), (2, .int v3), (4, .int u0), (0, .ref (ad G v0)), (1, .int v1)]) E.1 E.2.1 dX10_smallestChoir_59 hl (k := 4) rfl rfl (by decide) rfl (fun ls hl => ?_)
        refine lv_goto (tgt := 9) E.1 E.2.1 dX10_smallestChoir_62 (by decide) ?_
        exact hK9 _ _ _ _ _ _ _ hf w t_v0 (lv_sub hl [3, 4, 1, 0] rfl)

def X10_smallestChoir_l9 (N : Nat) (h : HS) : Nat → Nat → Int32 → Int32 → Int32 → Option Int32
  | 0, _, _, _, _ => none
  | n + 1, v0, v1, v2, v3 => bd1 (X1_everybody N h v0) fun r5 => (if r5 < v3 then some v2 else bd1 (X1_notesOf N h v0 v3) fun r9 => (if (v1 &&& (r9 ^^^ (-1))) = 0 then X10_smallestChoir_b34 N h (X10_smallestChoir_l9 N h n) v0 v1 v2 v3 1 else X10_smallestChoir_b34 N h (X10_smallestChoir_l9 N h n) v0 v1 v2 v3 0))
set_option maxRecDepth 4000 in
set_option maxHeartbeats 2000000 in
theorem X10_smallestChoir_l9_w {p : Program} {l : Launch} {e : Env} {s : State} {m : MethodId} {args : Array Value} {below : List Frame} {meth : Method} {c : Code} {G : GT} {N : Nat} {h : HS} {z : Int32} (E : CallFix p m c cX10_smallestChoir 5 s args UW RX10) (hr : meth.sig.returnType = (some .int)) (hlk : meth.locks = false) : ∀ (n : Nat) (H : Heap) (locs : List Loc) (ls : Array Slot) (v0 : Nat) (v1 : Int32) (v2 : Int32) (v3 : Int32), X10_smallestChoir_l9 N h n v0 v1 v2 v3 = some z → WD G s h H locs → sh v0 = 1 → lv_has ls 5 [(0, .ref (ad G v0)), (1, .int v1), (2, .int v2), (3, .int v3)] → W p l e ({ frames := 3, cells := 0, slots := 0, locals := 64 } : Room) s m args below meth c H locs 0 0 (MQ below (QC G (some (.int z)) h) args s 0 0 (AD G)) (F0 m 9 ls []) := by
  intro n
  induction n with
  | zero =>
    intro H locs ls v0 v1 v2 v3 hf
    cases hf
  | succ n ih =>
    intro H locs ls v0 v1 v2 v3 hf w t_v0 hl
    unfold X10_smallestChoir_l9 at hf
    refine lv_iload_n E.1 E.2.1 dX10_smallestChoir_9 rfl (lv_at hl 3 rfl) ?_
    refine lv_aload_n E.1 E.2.1 dX10_smallestChoir_10 rfl (lv_at hl 0 rfl) ?_
    obtain ⟨r5, hc4, hf⟩ := bd1_e hf
    refine k_Vi (As := []) (rest := [.int v3]) E w t_v0 ⟨by decide, rfl⟩ (X1_everybody_c t_v0 hc4) mv_RX10_297 rfl rfl hl.1 ⟨Nat.le_of_ble_eq_true rfl, Nat.le_of_ble_eq_true rfl⟩ (Nat.le_of_ble_eq_true rfl) ⟨Nat.le_refl _, Nat.le_refl _⟩ dX10_smallestChoir_11 (fun H locs w => ?_)
    refine lv_icmp_gt (tgt := 65) E.1 E.2.1 dX10_smallestChoir_14 (by decide) (fun c7 => ?_) (fun c7 => ?_)
    · have hf := q_pos c7 hf
      refine lv_iload_n E.1 E.2.1 dX10_smallestChoir_65 rfl (lv_at hl 2 rfl) ?_
      have hf := Option.some.inj hf
      subst hf
      exact q_iret E w hr hlk dX10_smallestChoir_66
    · have hf := q_neg c7 hf
      refine lv_iload_n E.1 E.2.1 dX10_smallestChoir_17 rfl (lv_at hl 1 rfl) ?_
      refine lv_aload_n E.1 E.2.1 dX10_smallestChoir_18 rfl (lv_at hl 0 rfl) ?_
      refine lv_iload_n E.1 E.2.1 dX10_smallestChoir_19 rfl (lv_at hl 3 rfl) ?_
      obtain ⟨r9, hc8, hf⟩ := bd1_e hf
      refine k_Vi (As := [.int v3]) (rest := [.int v1]) E w t_v0 ⟨by decide, rfl⟩ (X1_notesOf_c t_v0 hc8) mv_RX10_300 rfl rfl hl.1 ⟨Nat.le_of_ble_eq_true rfl, Nat.le_of_ble_eq_true rfl⟩ (Nat.le_of_ble_eq_true rfl) ⟨Nat.le_refl _, Nat.le_refl _⟩ dX10_smallestChoir_20 (fun H locs w => ?_)
      refine lv_iconst (v := (-1)) E.1 E.2.1 dX10_smallestChoir_23 rfl ?_
      refine lv_ixor E.1 E.2.1 dX10_smallestChoir_24 ?_
      refine lv_iand E.1 E.2.1 dX10_smallestChoir_25 ?_
      refine lv_if_ne (tgt := 33) E.1 E.2.1 dX10_smallestChoir_26 (by decide) (fun c11 => ?_) (fun c11 => ?_)
      · have hf := q_neg c11 hf
        refine lv_iconst (v := 0) E.1 E.2.1 dX10_smallestChoir_33 rfl ?_
        exact X10_smallestChoir_b34_w E hr hlk ih hf w t_v0 (lv_sub hl [0, 1, 2, 3] rfl)
      · have hf := q_pos c11 hf
        refine lv_iconst (v := 1) E.1 E.2.1 dX10_smallestChoir_29 rfl ?_
        refine lv_goto (tgt := 34) E.1 E.2.1 dX10_smallestChoir_30 (by decide) ?_
        exact X10_smallestChoir_b34_w E hr hlk ih hf w t_v0 (lv_sub hl [0, 1, 2, 3] rfl)

def X10_smallestChoir (N : Nat) (h : HS) (v0 : Nat) : Option Int32 := bd1 (X1_notesSung N h v0) fun r2 => X10_smallestChoir_l9 N h N v0 r2 (-1) 0
set_option maxRecDepth 4000 in
set_option maxHeartbeats 2000000 in
theorem X10_smallestChoir_c {l : Launch} {G : GT} {N : Nat} {h : HS} {v0 : Nat} {z : Int32} (t_v0 : sh v0 = 1) (hf : X10_smallestChoir N h v0 = some z) : CT l G yX10_smallestChoir cX10_smallestChoir 5 (some .int) 3 64 [.ref (ad G v0)] h (some (.int z)) h := by
  unfold X10_smallestChoir at hf
  refine CT.of (by decide) (Nat.le_of_ble_eq_true rfl) ?_
  intro p e s m below meth c ls E hr hlk w hl
  have hl : lv_has ls 5 [(0, .ref (ad G v0))] := hl
  refine lv_aload_n E.1 E.2.1 dX10_smallestChoir_0 rfl (lv_at hl 0 rfl) ?_
  obtain ⟨r2, hc1, hf⟩ := bd1_e hf
  refine k_Vi (As := []) (rest := []) E w t_v0 ⟨by decide, rfl⟩ (X1_notesSung_c t_v0 hc1) mv_RX10_362 rfl rfl hl.1 ⟨Nat.le_of_ble_eq_true rfl, Nat.le_of_ble_eq_true rfl⟩ (Nat.le_of_ble_eq_true rfl) ⟨Nat.le_refl _, Nat.le_refl _⟩ dX10_smallestChoir_1 (fun H locs w => ?_)
  refine lv_istore_n (lv' := [(1, .int r2), (0, .ref (ad G v0))]) E.1 E.2.1 dX10_smallestChoir_4 rfl hl (by decide) rfl (fun ls hl => ?_)
  refine lv_iconst (v := (-1)) E.1 E.2.1 dX10_smallestChoir_5 rfl ?_
  refine lv_istore_n (lv' := [(2, .int (-1)), (1, .int r2), (0, .ref (ad G v0))]) E.1 E.2.1 dX10_smallestChoir_6 rfl hl (by decide) rfl (fun ls hl => ?_)
  refine lv_iconst (v := 0) E.1 E.2.1 dX10_smallestChoir_7 rfl ?_
  refine lv_istore_n (lv' := [(3, .int 0), (2, .int (-1)), (1, .int r2), (0, .ref (ad G v0))]) E.1 E.2.1 dX10_smallestChoir_8 rfl hl (by decide) rfl (fun ls hl => ?_)
  exact X10_smallestChoir_l9_w E hr hlk N _ _ _ _ _ _ _ hf w t_v0 (lv_sub hl [3, 2, 1, 0] rfl)

def X10_choir (N : Nat) (h : HS) (v0 : Nat) (v1 : Int32) (v2 : Int32) : Option Int32 := bd1 (X7_houseAt N h (v0 + 1) v1) fun r2 => (if r2 = 0 then some (-1) else bd1 (X10_smallestChoir N h r2) fun r7 => (if r7 = ((-1) : Int32) then some r7 else (if v2 = 0 then bd1 (J6_bitCount_0f7a4 N h r7) fun r12 => some r12 else some r7)))
set_option maxRecDepth 4000 in
set_option maxHeartbeats 2000000 in
theorem X10_choir_c {l : Launch} {G : GT} {N : Nat} {h : HS} {v0 : Nat} {v1 : Int32} {v2 : Int32} {z : Int32} (t_v0 : sh v0 = 10) (hf : X10_choir N h v0 v1 v2 = some z) : CT l G yX10_choir cX10_choir 5 (some .int) 4 88 [.ref (ad G v0), .int v1, .int v2] h (some (.int z)) h := by
  unfold X10_choir at hf
  refine CT.of (by decide) (Nat.le_of_ble_eq_true rfl) ?_
  intro p e s m below meth c ls E hr hlk w hl
  have hl : lv_has ls 5 [(0, .ref (ad G v0)), (1, .int v1), (2, .int v2)] := hl
  refine lv_aload_n E.1 E.2.1 dX10_choir_0 rfl (lv_at hl 0 rfl) ?_
  refine q_gs E w 1 t_v0 fl_RX10_10 dX10_choir_1 ?_
  refine lv_iload_n E.1 E.2.1 dX10_choir_4 rfl (lv_at hl 1 rfl) ?_
  obtain ⟨r2, hc1, hf⟩ := bd1_e hf
  refine k_Vr (As := [.int v1]) (rest := []) E w (lay_10_0 t_v0) ⟨by decide, rfl⟩ (X7_houseAt_c (lay_10_0 t_v0) hc1) mv_RX10_113 rfl rfl hl.1 ⟨Nat.le_of_ble_eq_true rfl, Nat.le_of_ble_eq_true rfl⟩ (Nat.le_of_ble_eq_true rfl) ⟨Nat.le_refl _, Nat.le_refl _⟩ dX10_choir_5 (fun H locs w => ?_)
  by_cases c5 : r2 = 0
  · have hf := q_pos c5 hf
    rw [c5, rfv_0]
    refine lv_astore_nN (lv' := [(3, .null), (0, .ref (ad G v0)), (1, .int v1), (2, .int v2)]) E.1 E.2.1 dX10_choir_8 rfl hl (by decide) rfl (fun ls hl => ?_)
    refine lv_aload_nN E.1 E.2.1 dX10_choir_9 rfl (lv_at hl 0 rfl) ?_
    refine lv_ifnonnullN E.1 E.2.1 dX10_choir_10 ?_
    refine lv_iconst (v := (-1)) E.1 E.2.1 dX10_choir_13 rfl ?_
    have hf := Option.some.inj hf
    subst hf
    exact q_iret E w hr hlk dX10_choir_14
  have hf := q_neg c5 hf
  have t4 : sh r2 = 1 := (X7_houseAt_t (lay_10_0 t_v0) hc1).resolve_left c5
  rw [rfv_p G (by rw [t4]; decide)]
  refine lv_astore_n (lv' := [(3, .ref (ad G r2)), (0, .ref (ad G v0)), (1, .int v1), (2, .int v2)]) E.1 E.2.1 dX10_choir_8 rfl hl (by decide) rfl (fun ls hl => ?_)
  refine lv_aload_n E.1 E.2.1 dX10_choir_9 rfl (lv_at hl 0 rfl) ?_
  refine lv_ifnonnull (tgt := 15) E.1 E.2.1 dX10_choir_10 (by decide) ?_
  refine lv_aload_n E.1 E.2.1 dX10_choir_15 rfl (lv_at hl 0 rfl) ?_
  obtain ⟨r7, hc6, hf⟩ := bd1_e hf
  refine k_Si (As := [.ref (ad G r2)]) (rest := []) E w (X10_smallestChoir_c t4 hc6) ms_RX10_303 rfl rfl hl.1 ⟨Nat.le_of_ble_eq_true rfl, Nat.le_of_ble_eq_true rfl⟩ (Nat.le_of_ble_eq_true rfl) ⟨Nat.le_refl _, Nat.le_refl _⟩ dX10_choir_16 (fun H locs w => ?_)
  refine lv_istore (lv' := [(4, .int r7), (3, .ref (ad G r2)), (0, .ref (ad G v0)), (1, .int v1), (2, .int v2)]) E.1 E.2.1 dX10_choir_19 hl (by decide) rfl (fun ls hl => ?_)
  refine lv_iload E.1 E.2.1 dX10_choir_21 (lv_at hl 0 rfl) ?_
  refine lv_iconst (v := (-1)) E.1 E.2.1 dX10_choir_23 rfl ?_
  refine lv_icmp_eq (tgt := 31) E.1 E.2.1 dX10_choir_24 (by decide) (fun c9 => ?_) (fun c9 => ?_)
  · have hf := q_pos c9 hf
    refine lv_iload E.1 E.2.1 dX10_choir_31 (lv_at hl 0 rfl) ?_
    refine lv_goto (tgt := 41) E.1 E.2.1 dX10_choir_33 (by decide) ?_
    have hf := Option.some.inj hf
    subst hf
    exact q_iret E w hr hlk dX10_choir_41
  · have hf := q_neg c9 hf
    refine lv_iload_n E.1 E.2.1 dX10_choir_27 rfl (lv_at hl 4 rfl) ?_
    refine lv_if_eq (tgt := 36) E.1 E.2.1 dX10_choir_28 (by decide) (fun c10 => ?_) (fun c10 => ?_)
    · have hf := q_pos c10 hf
      refine lv_iload E.1 E.2.1 dX10_choir_36 (lv_at hl 0 rfl) ?_
      obtain ⟨r12, hc11, hf⟩ := bd1_e hf
      refine k_Si (As := [.int r7]) (rest := []) E w (J6_bitCount_0f7a4_c  hc11) ms_RX10_171 rfl rfl hl.1 ⟨Nat.le_of_ble_eq_true rfl, Nat.le_of_ble_eq_true rfl⟩ (Nat.le_of_ble_eq_true rfl) ⟨Nat.le_refl _, Nat.le_refl _⟩ dX10_choir_38 (fun H locs w => ?_)
      have hf := Option.some.inj hf
      subst hf
      exact q_iret E w hr hlk dX10_choir_41
    · have hf := q_neg c10 hf
      refine lv_iload E.1 E.2.1 dX10_choir_31 (lv_at hl 0 rfl) ?_
      refine lv_goto (tgt := 41) E.1 E.2.1 dX10_choir_33 (by decide) ?_
      have hf := Option.some.inj hf
      subst hf
      exact q_iret E w hr hlk dX10_choir_41

def X10_after (N : Nat) (h : HS) (v0 : Nat) (v1 : Int32) (v2 : Int32) (v3 : Int32) : Option (Int32 × HS) := bd1 (X7_houseAt N h (v0 + 1) v1) fun r2 => (if r2 = 0 then bd1 (X7_nightsAt N h (v0 + 1) v2) fun r7 => (if r7 = 0 then some ((-2), h) else some ((-2), h)) else bd1 (X7_nightsAt N h (v0 + 1) v2) fun r12 => (if r12 = 0 then some ((-2), h) else bd2 (X3_play N h (v0 + 184) r2 r12 (h.1 r12 3)) fun r17 h18 => (if v3 = 0 then some (h18.1 (v0 + 184) 16, h18) else (if v3 = 1 then bd1 (X3_hoarsest N h18 (v0 + 184)) fun r22 => some (r22, h18) else (if v3 = 2 then some (h18.1 (v0 + 184) 17, h18) else (if v3 = 3 then some (h18.1 (v0 + 184) 18, h18) else some ((-2), h18)))))))
set_option maxRecDepth 4000 in
set_option maxHeartbeats 2000000 in
theorem X10_after_c {l : Launch} {G : GT} {N : Nat} {h : HS} {v0 : Nat} {v1 : Int32} {v2 : Int32} {v3 : Int32} {z : (Int32 × HS)} (t_v0 : sh v0 = 10) (hf : X10_after N h v0 v1 v2 v3 = some z) : CT l G yX10_after cX10_after 6 (some .int) 7 152 [.ref (ad G v0), .int v1, .int v2, .int v3] h (some (.int z.1)) z.2 := by
  unfold X10_after at hf
  refine CT.of (by decide) (Nat.le_of_ble_eq_true rfl) ?_
  intro p e s m below meth c ls E hr hlk w hl
  have hl : lv_has ls 6 [(0, .ref (ad G v0)), (1, .int v1), (2, .int v2), (3, .int v3)] := hl
  refine lv_aload_n E.1 E.2.1 dX10_after_0 rfl (lv_at hl 0 rfl) ?_
  refine q_gs E w 1 t_v0 fl_RX10_10 dX10_after_1 ?_
  refine lv_iload_n E.1 E.2.1 dX10_after_4 rfl (lv_at hl 1 rfl) ?_
  obtain ⟨r2, hc1, hf⟩ := bd1_e hf
  refine k_Vr (As := [.int v1]) (rest := []) E w (lay_10_0 t_v0) ⟨by decide, rfl⟩ (X7_houseAt_c (lay_10_0 t_v0) hc1) mv_RX10_113 rfl rfl hl.1 ⟨Nat.le_of_ble_eq_true rfl, Nat.le_of_ble_eq_true rfl⟩ (Nat.le_of_ble_eq_true rfl) ⟨Nat.le_refl _, Nat.le_refl _⟩ dX10_after_5 (fun H locs w => ?_)
  by_cases c5 : r2 = 0
  · have hf := q_pos c5 hf
    rw [c5, rfv_0]
    refine lv_astoreN (lv' := [(4, .null), (0, .ref (ad G v0)), (1, .int v1), (2, .int v2), (3, .int v3)]) E.1 E.2.1 dX10_after_8 hl (by decide) rfl (fun ls hl => ?_)
    refine lv_aload_n E.1 E.2.1 dX10_after_10 rfl (lv_at hl 1 rfl) ?_
    refine q_gs E w 1 t_v0 fl_RX10_10 dX10_after_11 ?_
    refine lv_iload_n E.1 E.2.1 dX10_after_14 rfl (lv_at hl 3 rfl) ?_
    obtain ⟨r7, hc6, hf⟩ := bd1_e hf
    refine k_Vr (As := [.int v2]) (rest := []) E w (lay_10_0 t_v0) ⟨by decide, rfl⟩ (X7_nightsAt_c (lay_10_0 t_v0) hc6) mv_RX10_138 rfl rfl hl.1 ⟨Nat.le_of_ble_eq_true rfl, Nat.le_of_ble_eq_true rfl⟩ (Nat.le_of_ble_eq_true rfl) ⟨Nat.le_refl _, Nat.le_refl _⟩ dX10_after_15 (fun H locs w => ?_)
    by_cases c10 : r7 = 0
    · have hf := q_pos c10 hf
      rw [c10, rfv_0]
      refine lv_astoreN (lv' := [(5, .null), (4, .null), (0, .ref (ad G v0)), (1, .int v1), (2, .int v2), (3, .int v3)]) E.1 E.2.1 dX10_after_18 hl (by decide) rfl (fun ls hl => ?_)
      refine lv_aloadN E.1 E.2.1 dX10_after_20 (lv_at hl 1 rfl) ?_
      refine lv_ifnullN (tgt := 30) E.1 E.2.1 dX10_after_22 (by decide) ?_
      refine lv_bipush (v := (-2)) E.1 E.2.1 dX10_after_30 rfl ?_
      have hf := Option.some.inj hf
      subst hf
      exact q_iret E w hr hlk dX10_after_32
    have hf := q_neg c10 hf
    have t9 : sh r7 = 6 := (X7_nightsAt_t (lay_10_0 t_v0) hc6).resolve_left c10
    rw [rfv_p G (by rw [t9]; decide)]
    refine lv_astore (lv' := [(5, .ref (ad G r7)), (4, .null), (0, .ref (ad G v0)), (1, .int v1), (2, .int v2), (3, .int v3)]) E.1 E.2.1 dX10_after_18 hl (by decide) rfl (fun ls hl => ?_)
    refine lv_aloadN E.1 E.2.1 dX10_after_20 (lv_at hl 1 rfl) ?_
    refine lv_ifnullN (tgt := 30) E.1 E.2.1 dX10_after_22 (by decide) ?_
    refine lv_bipush (v := (-2)) E.1 E.2.1 dX10_after_30 rfl ?_
    have hf := Option.some.inj hf
    subst hf
    exact q_iret E w hr hlk dX10_after_32
  have hf := q_neg c5 hf
  have t4 : sh r2 = 1 := (X7_houseAt_t (lay_10_0 t_v0) hc1).resolve_left c5
  rw [rfv_p G (by rw [t4]; decide)]
  refine lv_astore (lv' := [(4, .ref (ad G r2)), (0, .ref (ad G v0)), (1, .int v1), (2, .int v2), (3, .int v3)]) E.1 E.2.1 dX10_after_8 hl (by decide) rfl (fun ls hl => ?_)
  refine lv_aload_n E.1 E.2.1 dX10_after_10 rfl (lv_at hl 1 rfl) ?_
  refine q_gs E w 1 t_v0 fl_RX10_10 dX10_after_11 ?_
  refine lv_iload_n E.1 E.2.1 dX10_after_14 rfl (lv_at hl 3 rfl) ?_
  obtain ⟨r12, hc11, hf⟩ := bd1_e hf
  refine k_Vr (As := [.int v2]) (rest := []) E w (lay_10_0 t_v0) ⟨by decide, rfl⟩ (X7_nightsAt_c (lay_10_0 t_v0) hc11) mv_RX10_138 rfl rfl hl.1 ⟨Nat.le_of_ble_eq_true rfl, Nat.le_of_ble_eq_true rfl⟩ (Nat.le_of_ble_eq_true rfl) ⟨Nat.le_refl _, Nat.le_refl _⟩ dX10_after_15 (fun H locs w => ?_)
  by_cases c15 : r12 = 0
  · have hf := q_pos c15 hf
    rw [c15, rfv_0]
    refine lv_astoreN (lv' := [(5, .null), (4, .ref (ad G r2)), (0, .ref (ad G v0)), (1, .int v1), (2, .int v2), (3, .int v3)]) E.1 E.2.1 dX10_after_18 hl (by decide) rfl (fun ls hl => ?_)
    refine lv_aload E.1 E.2.1 dX10_after_20 (lv_at hl 1 rfl) ?_
    refine lv_ifnull E.1 E.2.1 dX10_after_22 ?_
    refine lv_aloadN E.1 E.2.1 dX10_after_25 (lv_at hl 0 rfl) ?_
    refine lv_ifnonnullN E.1 E.2.1 dX10_after_27 ?_
    refine lv_bipush (v := (-2)) E.1 E.2.1 dX10_after_30 rfl ?_
    have hf := Option.some.inj hf
    subst hf
    exact q_iret E w hr hlk dX10_after_32
  have hf := q_neg c15 hf
  have t14 : sh r12 = 6 := (X7_nightsAt_t (lay_10_0 t_v0) hc11).resolve_left c15
  rw [rfv_p G (by rw [t14]; decide)]
  refine lv_astore (lv' := [(5, .ref (ad G r12)), (4, .ref (ad G r2)), (0, .ref (ad G v0)), (1, .int v1), (2, .int v2), (3, .int v3)]) E.1 E.2.1 dX10_after_18 hl (by decide) rfl (fun ls hl => ?_)
  refine lv_aload E.1 E.2.1 dX10_after_20 (lv_at hl 1 rfl) ?_
  refine lv_ifnull E.1 E.2.1 dX10_after_22 ?_
  refine lv_aload E.1 E.2.1 dX10_after_25 (lv_at hl 0 rfl) ?_
  refine lv_ifnonnull (tgt := 33) E.1 E.2.1 dX10_after_27 (by decide) ?_
  refine lv_aload_n E.1 E.2.1 dX10_after_33 rfl (lv_at hl 2 rfl) ?_
  refine q_gs E w 184 t_v0 fl_RX10_41 dX10_after_34 ?_
  refine lv_aload E.1 E.2.1 dX10_after_37 (lv_at hl 1 rfl) ?_
  refine lv_aload E.1 E.2.1 dX10_after_39 (lv_at hl 0 rfl) ?_
  refine lv_aload E.1 E.2.1 dX10_after_41 (lv_at hl 0 rfl) ?_
  refine q_gi E w t14 fl_RX10_146 dX10_after_43 ?_
  obtain ⟨r17, h18, hc16, hf⟩ := bd2_e hf
  refine k_Vi (As := [.ref (ad G r2), .ref (ad G r12), .int (h.1 r12 3)]) (rest := []) E w (lay_10_5 t_v0) ⟨by decide, rfl⟩ (X3_play_c (lay_10_5 t_v0) t4 t14 hc16) mv_RX10_149 rfl rfl hl.1 ⟨Nat.le_of_ble_eq_true rfl, Nat.le_of_ble_eq_true rfl⟩ (Nat.le_of_ble_eq_true rfl) ⟨Nat.le_refl _, Nat.le_refl _⟩ dX10_after_46 (fun H locs w => ?_)
  refine lv_pop E.1 E.2.1 dX10_after_49 rfl ?_
  refine lv_iload_n E.1 E.2.1 dX10_after_50 rfl (lv_at hl 5 rfl) ?_
  by_cases c19 : v3 = 0
  · have hf := q_pos c19 hf
    refine lv_tableIn (off := 29) (tgt := 80) E.1 E.2.1 dX10_after_51 (by rw [c19]; decide) (by rw [c19]; decide) (by rw [c19]; rfl) (by decide) ?_
    refine lv_aload_n E.1 E.2.1 dX10_after_80 rfl (lv_at hl 2 rfl) ?_
    refine q_gs E w 184 t_v0 fl_RX10_41 dX10_after_81 ?_
    refine q_gi E w (lay_10_5 t_v0) fl_RX10_306 dX10_after_84 ?_
    have hf := Option.some.inj hf
    subst hf
    exact q_iret E w hr hlk dX10_after_87
  have hf := q_neg c19 hf
  by_cases c20 : v3 = 1
  · have hf := q_pos c20 hf
    refine lv_tableIn (off := 37) (tgt := 88) E.1 E.2.1 dX10_after_51 (by rw [c20]; decide) (by rw [c20]; decide) (by rw [c20]; rfl) (by decide) ?_
    refine lv_aload_n E.1 E.2.1 dX10_after_88 rfl (lv_at hl 2 rfl) ?_
    refine q_gs E w 184 t_v0 fl_RX10_41 dX10_after_89 ?_
    obtain ⟨r22, hc21, hf⟩ := bd1_e hf
    refine k_Vi (As := []) (rest := []) E w (lay_10_5 t_v0) ⟨by decide, rfl⟩ (X3_hoarsest_c (lay_10_5 t_v0) hc21) mv_RX10_309 rfl rfl hl.1 ⟨Nat.le_of_ble_eq_true rfl, Nat.le_of_ble_eq_true rfl⟩ (Nat.le_of_ble_eq_true rfl) ⟨Nat.le_refl _, Nat.le_refl _⟩ dX10_after_92 (fun H locs w => ?_)
    have hf := Option.some.inj hf
    subst hf
    exact q_iret E w hr hlk dX10_after_95
  have hf := q_neg c20 hf
  by_cases c24 : v3 = 2
  · have hf := q_pos c24 hf
    refine lv_tableIn (off := 45) (tgt := 96) E.1 E.2.1 dX10_after_51 (by rw [c24]; decide) (by rw [c24]; decide) (by rw [c24]; rfl) (by decide) ?_
    refine lv_aload_n E.1 E.2.1 dX10_after_96 rfl (lv_at hl 2 rfl) ?_
    refine q_gs E w 184 t_v0 fl_RX10_41 dX10_after_97 ?_
    refine q_gi E w (lay_10_5 t_v0) fl_RX10_312 dX10_after_100 ?_
    have hf := Option.some.inj hf
    subst hf
    exact q_iret E w hr hlk dX10_after_103
  have hf := q_neg c24 hf
  by_cases c25 : v3 = 3
  · have hf := q_pos c25 hf
    refine lv_tableIn (off := 53) (tgt := 104) E.1 E.2.1 dX10_after_51 (by rw [c25]; decide) (by rw [c25]; decide) (by rw [c25]; rfl) (by decide) ?_
    refine lv_aload_n E.1 E.2.1 dX10_after_104 rfl (lv_at hl 2 rfl) ?_
    refine q_gs E w 184 t_v0 fl_RX10_41 dX10_after_105 ?_
    refine q_gi E w (lay_10_5 t_v0) fl_RX10_315 dX10_after_108 ?_
    have hf := Option.some.inj hf
    subst hf
    exact q_iret E w hr hlk dX10_after_111
  have hf := q_neg c25 hf
  refine lv_tableOut (tgt := 112) E.1 E.2.1 dX10_after_51 (by have := ne_i c19 (z := 0) (by decide); have := ne_i c20 (z := 1) (by decide); have := ne_i c24 (z := 2) (by decide); have := ne_i c25 (z := 3) (by decide); omega) (by decide) ?_
  refine lv_bipush (v := (-2)) E.1 E.2.1 dX10_after_112 rfl ?_
  have hf := Option.some.inj hf
  subst hf
  exact q_iret E w hr hlk dX10_after_114

def X10_odds_b83 (N : Nat) (h : HS) (v0 : Nat) (v4 : Int32) (u0 : Int32) : Option (Int64 × HS) := (if v4 = 0 then (if u0 = 0 then some (0, h) else some (1, h)) else (if u0 = 0 then some (1, h) else bd1 (J6_bitCount_0f7a4 N h (h.1 (v0 + 234) 1)) fun r22 => some (r22.toInt64, h)))
set_option maxRecDepth 4000 in
set_option maxHeartbeats 2000000 in
theorem X10_odds_b83_w {p : Program} {l : Launch} {e : Env} {s : State} {m : MethodId} {args : Array Value} {below : List Frame} {meth : Method} {c : Code} {G : GT} {N : Nat} {z : (Int64 × HS)} {h : HS} (E : CallFix p m c cX10_odds 7 s args UW RX10) (hr : meth.sig.returnType = (some .long)) (hlk : meth.locks = false) {H : Heap} {locs : List Loc} {ls : Array Slot} {v0 : Nat} {v4 : Int32} {u0 : Int32} (hf : X10_odds_b83 N h v0 v4 u0 = some z) (w : WD G s h H locs) (t_v0 : sh v0 = 10) (hl : lv_has ls 7 [(0, .ref (ad G v0)), (4, .int v4)]) : W p l e ({ frames := 28, cells := 0, slots := 0, locals := 603 } : Room) s m args below meth c H locs 0 0 (MQ below (QC G (some (.long z.1)) z.2) args s 0 0 (AD G)) (F0 m 83 ls [.int u0]) := by
  unfold X10_odds_b83 at hf
  refine lv_istore (lv' := [(6, .int u0), (0, .ref (ad G v0)), (4, .int v4)]) E.1 E.2.1 dX10_odds_83 hl (by decide) rfl (fun ls hl => ?_)
  refine lv_iload E.1 E.2.1 dX10_odds_85 (lv_at hl 2 rfl) ?_
  refine lv_if_eq (tgt := 111) E.1 E.2.1 dX10_odds_87 (by decide) (fun c18 => ?_) (fun c18 => ?_)
  · have hf := q_pos c18 hf
    refine lv_iload E.1 E.2.1 dX10_odds_111 (lv_at hl 0 rfl) ?_
    refine lv_if_eq (tgt := 120) E.1 E.2.1 dX10_odds_113 (by decide) (fun c19 => ?_) (fun c19 => ?_)
    · have hf := q_pos c19 hf
      refine lv_lconst (v := 0) E.1 E.2.1 dX10_odds_120 rfl ?_
      have hf := Option.some.inj hf
      subst hf
      exact q_lret E w hr hlk dX10_odds_121
    · have hf := q_neg c19 hf
      refine lv_lconst (v := 1) E.1 E.2.1 dX10_odds_116 rfl ?_
      refine lv_goto (tgt := 121) E.1 E.2.1 dX10_odds_117 (by decide) ?_
      have hf := Option.some.inj hf
      subst hf
      exact q_lret E w hr hlk dX10_odds_121
  · have hf := q_neg c18 hf
    refine lv_iload E.1 E.2.1 dX10_odds_90 (lv_at hl 0 rfl) ?_
    refine lv_if_eq (tgt := 109) E.1 E.2.1 dX10_odds_92 (by decide) (fun c20 => ?_) (fun c20 => ?_)
    · have hf := q_pos c20 hf
      refine lv_lconst (v := 1) E.1 E.2.1 dX10_odds_109 rfl ?_
      have hf := Option.some.inj hf
      subst hf
      exact q_lret E w hr hlk dX10_odds_110
    · have hf := q_neg c20 hf
      refine lv_aload_n E.1 E.2.1 dX10_odds_95 rfl (lv_at hl 1 rfl) ?_
      refine q_gs E w 234 t_v0 fl_RX10_69 dX10_odds_96 ?_
      refine q_gi E w (lay_10_9 t_v0) fl_RX10_226 dX10_odds_99 ?_
      obtain ⟨r22, hc21, hf⟩ := bd1_e hf
      refine k_Si (As := [.int (h.1 (v0 + 234) 1)]) (rest := []) E w (J6_bitCount_0f7a4_c  hc21) ms_RX10_171 rfl rfl hl.1 ⟨Nat.le_of_ble_eq_true rfl, Nat.le_of_ble_eq_true rfl⟩ (Nat.le_of_ble_eq_true rfl) ⟨Nat.le_refl _, Nat.le_refl _⟩ dX10_odds_102 (fun H locs w => ?_)
      refine lv_i2l (v := r22.toInt64) E.1 E.2.1 dX10_odds_105 rfl ?_
      refine lv_goto (tgt := 110) E.1 E.2.1 dX10_odds_106 (by decide) ?_
      have hf := Option.some.inj hf
      subst hf
      exact q_lret E w hr hlk dX10_odds_110

def X10_odds (N : Nat) (h : HS) (v0 : Nat) (v1 : Int32) (v2 : Int32) (v3 : Int32) (v4 : Int32) : Option (Int64 × HS) := bd1 (X7_houseAt N h (v0 + 1) v1) fun r2 => (if r2 = 0 then bd1 (X7_morningsAt N h (v0 + 1) v2) fun r7 => (if r7 = 0 then bd2 (X10_dawns N h v0 0 0) fun r12 h13 => (if r12 = 0 then some ((-1), h13) else (if (h13.1 (v0 + 234) 1) = 0 then some ((-1), h13) else (if v3 = (5 : Int32) then (if (((h13.1 (v0 + 234) 1) >>> (v3 &&& 31)) &&& 1) = 0 then X10_odds_b83 N h13 v0 v4 0 else X10_odds_b83 N h13 v0 v4 1) else some ((-1), h13)))) else bd2 (X10_dawns N h v0 0 r7) fun r25 h26 => (if r25 = 0 then some ((-1), h26) else (if (h26.1 (v0 + 234) 1) = 0 then some ((-1), h26) else (if v3 = (5 : Int32) then (if (((h26.1 (v0 + 234) 1) >>> (v3 &&& 31)) &&& 1) = 0 then X10_odds_b83 N h26 v0 v4 0 else X10_odds_b83 N h26 v0 v4 1) else some ((-1), h26))))) else bd1 (X7_morningsAt N h (v0 + 1) v2) fun r32 => (if r32 = 0 then bd2 (X10_dawns N h v0 r2 0) fun r37 h38 => (if r37 = 0 then some ((-1), h38) else (if (h38.1 (v0 + 234) 1) = 0 then some ((-1), h38) else (if v3 = (5 : Int32) then (if (((h38.1 (v0 + 234) 1) >>> (v3 &&& 31)) &&& 1) = 0 then X10_odds_b83 N h38 v0 v4 0 else X10_odds_b83 N h38 v0 v4 1) else bd1 (X1_hasSinger N h38 r2 v3) fun r44 => (if r44 = 0 then some ((-1), h38) else (if (((h38.1 (v0 + 234) 1) >>> (v3 &&& 31)) &&& 1) = 0 then X10_odds_b83 N h38 v0 v4 0 else X10_odds_b83 N h38 v0 v4 1))))) else bd2 (X10_dawns N h v0 r2 r32) fun r49 h50 => (if r49 = 0 then some ((-1), h50) else (if (h50.1 (v0 + 234) 1) = 0 then some ((-1), h50) else (if v3 = (5 : Int32) then (if (((h50.1 (v0 + 234) 1) >>> (v3 &&& 31)) &&& 1) = 0 then X10_odds_b83 N h50 v0 v4 0 else X10_odds_b83 N h50 v0 v4 1) else bd1 (X1_hasSinger N h50 r2 v3) fun r56 => (if r56 = 0 then some ((-1), h50) else (if (((h50.1 (v0 + 234) 1) >>> (v3 &&& 31)) &&& 1) = 0 then X10_odds_b83 N h50 v0 v4 0 else X10_odds_b83 N h50 v0 v4 1)))))))
set_option maxRecDepth 4000 in
set_option maxHeartbeats 2000000 in
theorem X10_odds_c {l : Launch} {G : GT} {N : Nat} {h : HS} {v0 : Nat} {v1 : Int32} {v2 : Int32} {v3 : Int32} {v4 : Int32} {z : (Int64 × HS)} (t_v0 : sh v0 = 10) (hf : X10_odds N h v0 v1 v2 v3 v4 = some z) : CT l G yX10_odds cX10_odds 7 (some .long) 28 603 [.ref (ad G v0), .int v1, .int v2, .int v3, .int v4] h (some (.long z.1)) z.2 := by
  unfold X10_odds at hf
  refine CT.of (by decide) (Nat.le_of_ble_eq_true rfl) ?_
  intro p e s m below meth c ls E hr hlk w hl
  have hl : lv_has ls 7 [(0, .ref (ad G v0)), (1, .int v1), (2, .int v2), (3, .int v3), (4, .int v4)] := hl
  refine lv_aload_n E.1 E.2.1 dX10_odds_0 rfl (lv_at hl 0 rfl) ?_
  refine q_gs E w 1 t_v0 fl_RX10_10 dX10_odds_1 ?_
  refine lv_iload_n E.1 E.2.1 dX10_odds_4 rfl (lv_at hl 1 rfl) ?_
  obtain ⟨r2, hc1, hf⟩ := bd1_e hf
  refine k_Vr (As := [.int v1]) (rest := []) E w (lay_10_0 t_v0) ⟨by decide, rfl⟩ (X7_houseAt_c (lay_10_0 t_v0) hc1) mv_RX10_113 rfl rfl hl.1 ⟨Nat.le_of_ble_eq_true rfl, Nat.le_of_ble_eq_true rfl⟩ (Nat.le_of_ble_eq_true rfl) ⟨Nat.le_refl _, Nat.le_refl _⟩ dX10_odds_5 (fun H locs w => ?_)
  by_cases c5 : r2 = 0
  · have hf := q_pos c5 hf
    rw [c5, rfv_0]
    refine lv_astoreN (lv' := [(5, .null), (0, .ref (ad G v0)), (1, .int v1), (2, .int v2), (3, .int v3), (4, .int v4)]) E.1 E.2.1 dX10_odds_8 hl (by decide) rfl (fun ls hl => ?_)
    refine lv_aload_n E.1 E.2.1 dX10_odds_10 rfl (lv_at hl 1 rfl) ?_
    refine lv_aloadN E.1 E.2.1 dX10_odds_11 (lv_at hl 0 rfl) ?_
    refine lv_aload_n E.1 E.2.1 dX10_odds_13 rfl (lv_at hl 1 rfl) ?_
    refine q_gs E w 1 t_v0 fl_RX10_10 dX10_odds_14 ?_
    refine lv_iload_n E.1 E.2.1 dX10_odds_17 rfl (lv_at hl 3 rfl) ?_
    obtain ⟨r7, hc6, hf⟩ := bd1_e hf
    refine k_Vr (As := [.int v2]) (rest := [.null, .ref (ad G v0)]) E w (lay_10_0 t_v0) ⟨by decide, rfl⟩ (X7_morningsAt_c (lay_10_0 t_v0) hc6) mv_RX10_219 rfl rfl hl.1 ⟨Nat.le_of_ble_eq_true rfl, Nat.le_of_ble_eq_true rfl⟩ (Nat.le_of_ble_eq_true rfl) ⟨Nat.le_refl _, Nat.le_refl _⟩ dX10_odds_18 (fun H locs w => ?_)
    by_cases c10 : r7 = 0
    · have hf := q_pos c10 hf
      rw [c10, rfv_0]
      obtain ⟨r12, h13, hc11, hf⟩ := bd2_e hf
      refine k_Vi (As := [.null, .null]) (rest := []) E w t_v0 ⟨by decide, rfl⟩ (X10_dawns_c t_v0 rfl (Or.inl rfl) rfl (Or.inl rfl) hc11) mv_RX10_222 rfl rfl hl.1 ⟨Nat.le_of_ble_eq_true rfl, Nat.le_of_ble_eq_true rfl⟩ (Nat.le_of_ble_eq_true rfl) ⟨Nat.le_refl _, Nat.le_refl _⟩ dX10_odds_21 (fun H locs w => ?_)
      refine lv_if_eq (tgt := 37) E.1 E.2.1 dX10_odds_24 (by decide) (fun c14 => ?_) (fun c14 => ?_)
      · have hf := q_pos c14 hf
        refine lv_ldc2 (v := (-1)) E.1 E.2.1 E.2.2.2.1 (E.2.2.2.2 _ ct_RX10_184) dX10_odds_37 ?_
        have hf := Option.some.inj hf
        subst hf
        exact q_lret E w hr hlk dX10_odds_40
      · have hf := q_neg c14 hf
        refine lv_aload_n E.1 E.2.1 dX10_odds_27 rfl (lv_at hl 1 rfl) ?_
        refine q_gs E w 234 t_v0 fl_RX10_69 dX10_odds_28 ?_
        refine q_gi E w (lay_10_9 t_v0) fl_RX10_226 dX10_odds_31 ?_
        refine lv_if_ne (tgt := 41) E.1 E.2.1 dX10_odds_34 (by decide) (fun c15 => ?_) (fun c15 => ?_)
        · have hf := q_neg c15 hf
          refine lv_iload_n E.1 E.2.1 dX10_odds_41 rfl (lv_at hl 4 rfl) ?_
          refine lv_iconst (v := 5) E.1 E.2.1 dX10_odds_42 rfl ?_
          refine lv_icmp_eq (tgt := 64) E.1 E.2.1 dX10_odds_43 (by decide) (fun c16 => ?_) (fun c16 => ?_)
          · have hf := q_pos c16 hf
            refine lv_aload_n E.1 E.2.1 dX10_odds_64 rfl (lv_at hl 1 rfl) ?_
            refine q_gs E w 234 t_v0 fl_RX10_69 dX10_odds_65 ?_
            refine q_gi E w (lay_10_9 t_v0) fl_RX10_226 dX10_odds_68 ?_
            refine lv_iload_n E.1 E.2.1 dX10_odds_71 rfl (lv_at hl 4 rfl) ?_
            refine lv_ishr E.1 E.2.1 dX10_odds_72 ?_
            refine lv_iconst (v := 1) E.1 E.2.1 dX10_odds_73 rfl ?_
            refine lv_iand E.1 E.2.1 dX10_odds_74 ?_
            refine lv_if_eq (tgt := 82) E.1 E.2.1 dX10_odds_75 (by decide) (fun c17 => ?_) (fun c17 => ?_)
            · have hf := q_pos c17 hf
              refine lv_iconst (v := 0) E.1 E.2.1 dX10_odds_82 rfl ?_
              exact X10_odds_b83_w E hr hlk hf w t_v0 (lv_sub hl [1, 5] rfl)
            · have hf := q_neg c17 hf
              refine lv_iconst (v := 1) E.1 E.2.1 dX10_odds_78 rfl ?_
              refine lv_goto (tgt := 83) E.1 E.2.1 dX10_odds_79 (by decide) ?_
              exact X10_odds_b83_w E hr hlk hf w t_v0 (lv_sub hl [1, 5] rfl)
          · have hf := q_neg c16 hf
            refine lv_aloadN E.1 E.2.1 dX10_odds_46 (lv_at hl 0 rfl) ?_
            refine lv_ifnullN (tgt := 60) E.1 E.2.1 dX10_odds_48 (by decide) ?_
            refine lv_ldc2 (v := (-1)) E.1 E.2.1 E.2.2.2.1 (E.2.2.2.2 _ ct_RX10_184) dX10_odds_60 ?_
            have hf := Option.some.inj hf
            subst hf
            exact q_lret E w hr hlk dX10_odds_63
        · have hf := q_pos c15 hf
          refine lv_ldc2 (v := (-1)) E.1 E.2.1 E.2.2.2.1 (E.2.2.2.2 _ ct_RX10_184) dX10_odds_37 ?_
          have hf := Option.some.inj hf
          subst hf
          exact q_lret E w hr hlk dX10_odds_40
    have hf := q_neg c10 hf
    have t9 : sh r7 = 6 := (X7_morningsAt_t (lay_10_0 t_v0) hc6).resolve_left c10
    rw [rfv_p G (by rw [t9]; decide)]
    obtain ⟨r25, h26, hc24, hf⟩ := bd2_e hf
    refine k_Vi (As := [.null, .ref (ad G r7)]) (rest := []) E w t_v0 ⟨by decide, rfl⟩ (X10_dawns_c t_v0 rfl (Or.inl rfl) (rfv_p G (by rw [t9]; decide)).symm (Or.inr t9) hc24) mv_RX10_222 rfl rfl hl.1 ⟨Nat.le_of_ble_eq_true rfl, Nat.le_of_ble_eq_true rfl⟩ (Nat.le_of_ble_eq_true rfl) ⟨Nat.le_refl _, Nat.le_refl _⟩ dX10_odds_21 (fun H locs w => ?_)
    refine lv_if_eq (tgt := 37) E.1 E.2.1 dX10_odds_24 (by decide) (fun c27 => ?_) (fun c27 => ?_)
    · have hf := q_pos c27 hf
      refine lv_ldc2 (v := (-1)) E.1 E.2.1 E.2.2.2.1 (E.2.2.2.2 _ ct_RX10_184) dX10_odds_37 ?_
      have hf := Option.some.inj hf
      subst hf
      exact q_lret E w hr hlk dX10_odds_40
    · have hf := q_neg c27 hf
      refine lv_aload_n E.1 E.2.1 dX10_odds_27 rfl (lv_at hl 1 rfl) ?_
      refine q_gs E w 234 t_v0 fl_RX10_69 dX10_odds_28 ?_
      refine q_gi E w (lay_10_9 t_v0) fl_RX10_226 dX10_odds_31 ?_
      refine lv_if_ne (tgt := 41) E.1 E.2.1 dX10_odds_34 (by decide) (fun c28 => ?_) (fun c28 => ?_)
      · have hf := q_neg c28 hf
        refine lv_iload_n E.1 E.2.1 dX10_odds_41 rfl (lv_at hl 4 rfl) ?_
        refine lv_iconst (v := 5) E.1 E.2.1 dX10_odds_42 rfl ?_
        refine lv_icmp_eq (tgt := 64) E.1 E.2.1 dX10_odds_43 (by decide) (fun c29 => ?_) (fun c29 => ?_)
        · have hf := q_pos c29 hf
          refine lv_aload_n E.1 E.2.1 dX10_odds_64 rfl (lv_at hl 1 rfl) ?_
          refine q_gs E w 234 t_v0 fl_RX10_69 dX10_odds_65 ?_
          refine q_gi E w (lay_10_9 t_v0) fl_RX10_226 dX10_odds_68 ?_
          refine lv_iload_n E.1 E.2.1 dX10_odds_71 rfl (lv_at hl 4 rfl) ?_
          refine lv_ishr E.1 E.2.1 dX10_odds_72 ?_
          refine lv_iconst (v := 1) E.1 E.2.1 dX10_odds_73 rfl ?_
          refine lv_iand E.1 E.2.1 dX10_odds_74 ?_
          refine lv_if_eq (tgt := 82) E.1 E.2.1 dX10_odds_75 (by decide) (fun c30 => ?_) (fun c30 => ?_)
          · have hf := q_pos c30 hf
            refine lv_iconst (v := 0) E.1 E.2.1 dX10_odds_82 rfl ?_
            exact X10_odds_b83_w E hr hlk hf w t_v0 (lv_sub hl [1, 5] rfl)
          · have hf := q_neg c30 hf
            refine lv_iconst (v := 1) E.1 E.2.1 dX10_odds_78 rfl ?_
            refine lv_goto (tgt := 83) E.1 E.2.1 dX10_odds_79 (by decide) ?_
            exact X10_odds_b83_w E hr hlk hf w t_v0 (lv_sub hl [1, 5] rfl)
        · have hf := q_neg c29 hf
          refine lv_aloadN E.1 E.2.1 dX10_odds_46 (lv_at hl 0 rfl) ?_
          refine lv_ifnullN (tgt := 60) E.1 E.2.1 dX10_odds_48 (by decide) ?_
          refine lv_ldc2 (v := (-1)) E.1 E.2.1 E.2.2.2.1 (E.2.2.2.2 _ ct_RX10_184) dX10_odds_60 ?_
          have hf := Option.some.inj hf
          subst hf
          exact q_lret E w hr hlk dX10_odds_63
      · have hf := q_pos c28 hf
        refine lv_ldc2 (v := (-1)) E.1 E.2.1 E.2.2.2.1 (E.2.2.2.2 _ ct_RX10_184) dX10_odds_37 ?_
        have hf := Option.some.inj hf
        subst hf
        exact q_lret E w hr hlk dX10_odds_40
  have hf := q_neg c5 hf
  have t4 : sh r2 = 1 := (X7_houseAt_t (lay_10_0 t_v0) hc1).resolve_left c5
  rw [rfv_p G (by rw [t4]; decide)]
  refine lv_astore (lv' := [(5, .ref (ad G r2)), (0, .ref (ad G v0)), (1, .int v1), (2, .int v2), (3, .int v3), (4, .int v4)]) E.1 E.2.1 dX10_odds_8 hl (by decide) rfl (fun ls hl => ?_)
  refine lv_aload_n E.1 E.2.1 dX10_odds_10 rfl (lv_at hl 1 rfl) ?_
  refine lv_aload E.1 E.2.1 dX10_odds_11 (lv_at hl 0 rfl) ?_
  refine lv_aload_n E.1 E.2.1 dX10_odds_13 rfl (lv_at hl 1 rfl) ?_
  refine q_gs E w 1 t_v0 fl_RX10_10 dX10_odds_14 ?_
  refine lv_iload_n E.1 E.2.1 dX10_odds_17 rfl (lv_at hl 3 rfl) ?_
  obtain ⟨r32, hc31, hf⟩ := bd1_e hf
  refine k_Vr (As := [.int v2]) (rest := [.ref (ad G r2), .ref (ad G v0)]) E w (lay_10_0 t_v0) ⟨by decide, rfl⟩ (X7_morningsAt_c (lay_10_0 t_v0) hc31) mv_RX10_219 rfl rfl hl.1 ⟨Nat.le_of_ble_eq_true rfl, Nat.le_of_ble_eq_true rfl⟩ (Nat.le_of_ble_eq_true rfl) ⟨Nat.le_refl _, Nat.le_refl _⟩ dX10_odds_18 (fun H locs w => ?_)
  by_cases c35 : r32 = 0
  · have hf := q_pos c35 hf
    rw [c35, rfv_0]
    obtain ⟨r37, h38, hc36, hf⟩ := bd2_e hf
    refine k_Vi (As := [.ref (ad G r2), .null]) (rest := []) E w t_v0 ⟨by decide, rfl⟩ (X10_dawns_c t_v0 (rfv_p G (by rw [t4]; decide)).symm (Or.inr t4) rfl (Or.inl rfl) hc36) mv_RX10_222 rfl rfl hl.1 ⟨Nat.le_of_ble_eq_true rfl, Nat.le_of_ble_eq_true rfl⟩ (Nat.le_of_ble_eq_true rfl) ⟨Nat.le_refl _, Nat.le_refl _⟩ dX10_odds_21 (fun H locs w => ?_)
    refine lv_if_eq (tgt := 37) E.1 E.2.1 dX10_odds_24 (by decide) (fun c39 => ?_) (fun c39 => ?_)
    · have hf := q_pos c39 hf
      refine lv_ldc2 (v := (-1)) E.1 E.2.1 E.2.2.2.1 (E.2.2.2.2 _ ct_RX10_184) dX10_odds_37 ?_
      have hf := Option.some.inj hf
      subst hf
      exact q_lret E w hr hlk dX10_odds_40
    · have hf := q_neg c39 hf
      refine lv_aload_n E.1 E.2.1 dX10_odds_27 rfl (lv_at hl 1 rfl) ?_
      refine q_gs E w 234 t_v0 fl_RX10_69 dX10_odds_28 ?_
      refine q_gi E w (lay_10_9 t_v0) fl_RX10_226 dX10_odds_31 ?_
      refine lv_if_ne (tgt := 41) E.1 E.2.1 dX10_odds_34 (by decide) (fun c40 => ?_) (fun c40 => ?_)
      · have hf := q_neg c40 hf
        refine lv_iload_n E.1 E.2.1 dX10_odds_41 rfl (lv_at hl 4 rfl) ?_
        refine lv_iconst (v := 5) E.1 E.2.1 dX10_odds_42 rfl ?_
        refine lv_icmp_eq (tgt := 64) E.1 E.2.1 dX10_odds_43 (by decide) (fun c41 => ?_) (fun c41 => ?_)
        · have hf := q_pos c41 hf
          refine lv_aload_n E.1 E.2.1 dX10_odds_64 rfl (lv_at hl 1 rfl) ?_
          refine q_gs E w 234 t_v0 fl_RX10_69 dX10_odds_65 ?_
          refine q_gi E w (lay_10_9 t_v0) fl_RX10_226 dX10_odds_68 ?_
          refine lv_iload_n E.1 E.2.1 dX10_odds_71 rfl (lv_at hl 4 rfl) ?_
          refine lv_ishr E.1 E.2.1 dX10_odds_72 ?_
          refine lv_iconst (v := 1) E.1 E.2.1 dX10_odds_73 rfl ?_
          refine lv_iand E.1 E.2.1 dX10_odds_74 ?_
          refine lv_if_eq (tgt := 82) E.1 E.2.1 dX10_odds_75 (by decide) (fun c42 => ?_) (fun c42 => ?_)
          · have hf := q_pos c42 hf
            refine lv_iconst (v := 0) E.1 E.2.1 dX10_odds_82 rfl ?_
            exact X10_odds_b83_w E hr hlk hf w t_v0 (lv_sub hl [1, 5] rfl)
          · have hf := q_neg c42 hf
            refine lv_iconst (v := 1) E.1 E.2.1 dX10_odds_78 rfl ?_
            refine lv_goto (tgt := 83) E.1 E.2.1 dX10_odds_79 (by decide) ?_
            exact X10_odds_b83_w E hr hlk hf w t_v0 (lv_sub hl [1, 5] rfl)
        · have hf := q_neg c41 hf
          refine lv_aload E.1 E.2.1 dX10_odds_46 (lv_at hl 0 rfl) ?_
          refine lv_ifnull E.1 E.2.1 dX10_odds_48 ?_
          refine lv_aload E.1 E.2.1 dX10_odds_51 (lv_at hl 0 rfl) ?_
          refine lv_iload_n E.1 E.2.1 dX10_odds_53 rfl (lv_at hl 4 rfl) ?_
          obtain ⟨r44, hc43, hf⟩ := bd1_e hf
          refine k_Vi (As := [.int v3]) (rest := []) E w t4 ⟨by decide, rfl⟩ (X1_hasSinger_c t4 hc43) mv_RX10_239 rfl rfl hl.1 ⟨Nat.le_of_ble_eq_true rfl, Nat.le_of_ble_eq_true rfl⟩ (Nat.le_of_ble_eq_true rfl) ⟨Nat.le_refl _, Nat.le_refl _⟩ dX10_odds_54 (fun H locs w => ?_)
          refine lv_if_ne (tgt := 64) E.1 E.2.1 dX10_odds_57 (by decide) (fun c46 => ?_) (fun c46 => ?_)
          · have hf := q_neg c46 hf
            refine lv_aload_n E.1 E.2.1 dX10_odds_64 rfl (lv_at hl 1 rfl) ?_
            refine q_gs E w 234 t_v0 fl_RX10_69 dX10_odds_65 ?_
            refine q_gi E w (lay_10_9 t_v0) fl_RX10_226 dX10_odds_68 ?_
            refine lv_iload_n E.1 E.2.1 dX10_odds_71 rfl (lv_at hl 4 rfl) ?_
            refine lv_ishr E.1 E.2.1 dX10_odds_72 ?_
            refine lv_iconst (v := 1) E.1 E.2.1 dX10_odds_73 rfl ?_
            refine lv_iand E.1 E.2.1 dX10_odds_74 ?_
            refine lv_if_eq (tgt := 82) E.1 E.2.1 dX10_odds_75 (by decide) (fun c47 => ?_) (fun c47 => ?_)
            · have hf := q_pos c47 hf
              refine lv_iconst (v := 0) E.1 E.2.1 dX10_odds_82 rfl ?_
              exact X10_odds_b83_w E hr hlk hf w t_v0 (lv_sub hl [1, 5] rfl)
            · have hf := q_neg c47 hf
              refine lv_iconst (v := 1) E.1 E.2.1 dX10_odds_78 rfl ?_
              refine lv_goto (tgt := 83) E.1 E.2.1 dX10_odds_79 (by decide) ?_
              exact X10_odds_b83_w E hr hlk hf w t_v0 (lv_sub hl [1, 5] rfl)
          · have hf := q_pos c46 hf
            refine lv_ldc2 (v := (-1)) E.1 E.2.1 E.2.2.2.1 (E.2.2.2.2 _ ct_RX10_184) dX10_odds_60 ?_
            have hf := Option.some.inj hf
            subst hf
            exact q_lret E w hr hlk dX10_odds_63
      · have hf := q_pos c40 hf
        refine lv_ldc2 (v := (-1)) E.1 E.2.1 E.2.2.2.1 (E.2.2.2.2 _ ct_RX10_184) dX10_odds_37 ?_
        have hf := Option.some.inj hf
        subst hf
        exact q_lret E w hr hlk dX10_odds_40
  have hf := q_neg c35 hf
  have t34 : sh r32 = 6 := (X7_morningsAt_t (lay_10_0 t_v0) hc31).resolve_left c35
  rw [rfv_p G (by rw [t34]; decide)]
  obtain ⟨r49, h50, hc48, hf⟩ := bd2_e hf
  refine k_Vi (As := [.ref (ad G r2), .ref (ad G r32)]) (rest := []) E w t_v0 ⟨by decide, rfl⟩ (X10_dawns_c t_v0 (rfv_p G (by rw [t4]; decide)).symm (Or.inr t4) (rfv_p G (by rw [t34]; decide)).symm (Or.inr t34) hc48) mv_RX10_222 rfl rfl hl.1 ⟨Nat.le_of_ble_eq_true rfl, Nat.le_of_ble_eq_true rfl⟩ (Nat.le_of_ble_eq_true rfl) ⟨Nat.le_refl _, Nat.le_refl _⟩ dX10_odds_21 (fun H locs w => ?_)
  refine lv_if_eq (tgt := 37) E.1 E.2.1 dX10_odds_24 (by decide) (fun c51 => ?_) (fun c51 => ?_)
  · have hf := q_pos c51 hf
    refine lv_ldc2 (v := (-1)) E.1 E.2.1 E.2.2.2.1 (E.2.2.2.2 _ ct_RX10_184) dX10_odds_37 ?_
    have hf := Option.some.inj hf
    subst hf
    exact q_lret E w hr hlk dX10_odds_40
  · have hf := q_neg c51 hf
    refine lv_aload_n E.1 E.2.1 dX10_odds_27 rfl (lv_at hl 1 rfl) ?_
    refine q_gs E w 234 t_v0 fl_RX10_69 dX10_odds_28 ?_
    refine q_gi E w (lay_10_9 t_v0) fl_RX10_226 dX10_odds_31 ?_
    refine lv_if_ne (tgt := 41) E.1 E.2.1 dX10_odds_34 (by decide) (fun c52 => ?_) (fun c52 => ?_)
    · have hf := q_neg c52 hf
      refine lv_iload_n E.1 E.2.1 dX10_odds_41 rfl (lv_at hl 4 rfl) ?_
      refine lv_iconst (v := 5) E.1 E.2.1 dX10_odds_42 rfl ?_
      refine lv_icmp_eq (tgt := 64) E.1 E.2.1 dX10_odds_43 (by decide) (fun c53 => ?_) (fun c53 => ?_)
      · have hf := q_pos c53 hf
        refine lv_aload_n E.1 E.2.1 dX10_odds_64 rfl (lv_at hl 1 rfl) ?_
        refine q_gs E w 234 t_v0 fl_RX10_69 dX10_odds_65 ?_
        refine q_gi E w (lay_10_9 t_v0) fl_RX10_226 dX10_odds_68 ?_
        refine lv_iload_n E.1 E.2.1 dX10_odds_71 rfl (lv_at hl 4 rfl) ?_
        refine lv_ishr E.1 E.2.1 dX10_odds_72 ?_
        refine lv_iconst (v := 1) E.1 E.2.1 dX10_odds_73 rfl ?_
        refine lv_iand E.1 E.2.1 dX10_odds_74 ?_
        refine lv_if_eq (tgt := 82) E.1 E.2.1 dX10_odds_75 (by decide) (fun c54 => ?_) (fun c54 => ?_)
        · have hf := q_pos c54 hf
          refine lv_iconst (v := 0) E.1 E.2.1 dX10_odds_82 rfl ?_
          exact X10_odds_b83_w E hr hlk hf w t_v0 (lv_sub hl [1, 5] rfl)
        · have hf := q_neg c54 hf
          refine lv_iconst (v := 1) E.1 E.2.1 dX10_odds_78 rfl ?_
          refine lv_goto (tgt := 83) E.1 E.2.1 dX10_odds_79 (by decide) ?_
          exact X10_odds_b83_w E hr hlk hf w t_v0 (lv_sub hl [1, 5] rfl)
      · have hf := q_neg c53 hf
        refine lv_aload E.1 E.2.1 dX10_odds_46 (lv_at hl 0 rfl) ?_
        refine lv_ifnull E.1 E.2.1 dX10_odds_48 ?_
        refine lv_aload E.1 E.2.1 dX10_odds_51 (lv_at hl 0 rfl) ?_
        refine lv_iload_n E.1 E.2.1 dX10_odds_53 rfl (lv_at hl 4 rfl) ?_
        obtain ⟨r56, hc55, hf⟩ := bd1_e hf
        refine k_Vi (As := [.int v3]) (rest := []) E w t4 ⟨by decide, rfl⟩ (X1_hasSinger_c t4 hc55) mv_RX10_239 rfl rfl hl.1 ⟨Nat.le_of_ble_eq_true rfl, Nat.le_of_ble_eq_true rfl⟩ (Nat.le_of_ble_eq_true rfl) ⟨Nat.le_refl _, Nat.le_refl _⟩ dX10_odds_54 (fun H locs w => ?_)
        refine lv_if_ne (tgt := 64) E.1 E.2.1 dX10_odds_57 (by decide) (fun c58 => ?_) (fun c58 => ?_)
        · have hf := q_neg c58 hf
          refine lv_aload_n E.1 E.2.1 dX10_odds_64 rfl (lv_at hl 1 rfl) ?_
          refine q_gs E w 234 t_v0 fl_RX10_69 dX10_odds_65 ?_
          refine q_gi E w (lay_10_9 t_v0) fl_RX10_226 dX10_odds_68 ?_
          refine lv_iload_n E.1 E.2.1 dX10_odds_71 rfl (lv_at hl 4 rfl) ?_
          refine lv_ishr E.1 E.2.1 dX10_odds_72 ?_
          refine lv_iconst (v := 1) E.1 E.2.1 dX10_odds_73 rfl ?_
          refine lv_iand E.1 E.2.1 dX10_odds_74 ?_
          refine lv_if_eq (tgt := 82) E.1 E.2.1 dX10_odds_75 (by decide) (fun c59 => ?_) (fun c59 => ?_)
          · have hf := q_pos c59 hf
            refine lv_iconst (v := 0) E.1 E.2.1 dX10_odds_82 rfl ?_
            exact X10_odds_b83_w E hr hlk hf w t_v0 (lv_sub hl [1, 5] rfl)
          · have hf := q_neg c59 hf
            refine lv_iconst (v := 1) E.1 E.2.1 dX10_odds_78 rfl ?_
            refine lv_goto (tgt := 83) E.1 E.2.1 dX10_odds_79 (by decide) ?_
            exact X10_odds_b83_w E hr hlk hf w t_v0 (lv_sub hl [1, 5] rfl)
        · have hf := q_pos c58 hf
          refine lv_ldc2 (v := (-1)) E.1 E.2.1 E.2.2.2.1 (E.2.2.2.2 _ ct_RX10_184) dX10_odds_60 ?_
          have hf := Option.some.inj hf
          subst hf
          exact q_lret E w hr hlk dX10_odds_63
    · have hf := q_pos c52 hf
      refine lv_ldc2 (v := (-1)) E.1 E.2.1 E.2.2.2.1 (E.2.2.2.2 _ ct_RX10_184) dX10_odds_37 ?_
      have hf := Option.some.inj hf
      subst hf
      exact q_lret E w hr hlk dX10_odds_40

def X10_hire (N : Nat) (h : HS) (v0 : Nat) (v1 : Int32) : Option (Int32 × HS) := bd1 (X7_houseAt N h (v0 + 1) v1) fun r2 => (if r2 = 0 then some ((-1), h) else bd2 (X5_hired N h (v0 + 170) r2) fun r7 h8 => some (r7, h8))
set_option maxRecDepth 4000 in
set_option maxHeartbeats 2000000 in
theorem X10_hire_c {l : Launch} {G : GT} {N : Nat} {h : HS} {v0 : Nat} {v1 : Int32} {z : (Int32 × HS)} (t_v0 : sh v0 = 10) (hf : X10_hire N h v0 v1 = some z) : CT l G yX10_hire cX10_hire 3 (some .int) 27 582 [.ref (ad G v0), .int v1] h (some (.int z.1)) z.2 := by
  unfold X10_hire at hf
  refine CT.of (by decide) (Nat.le_of_ble_eq_true rfl) ?_
  intro p e s m below meth c ls E hr hlk w hl
  have hl : lv_has ls 3 [(0, .ref (ad G v0)), (1, .int v1)] := hl
  refine lv_aload_n E.1 E.2.1 dX10_hire_0 rfl (lv_at hl 0 rfl) ?_
  refine q_gs E w 1 t_v0 fl_RX10_10 dX10_hire_1 ?_
  refine lv_iload_n E.1 E.2.1 dX10_hire_4 rfl (lv_at hl 1 rfl) ?_
  obtain ⟨r2, hc1, hf⟩ := bd1_e hf
  refine k_Vr (As := [.int v1]) (rest := []) E w (lay_10_0 t_v0) ⟨by decide, rfl⟩ (X7_houseAt_c (lay_10_0 t_v0) hc1) mv_RX10_113 rfl rfl hl.1 ⟨Nat.le_of_ble_eq_true rfl, Nat.le_of_ble_eq_true rfl⟩ (Nat.le_of_ble_eq_true rfl) ⟨Nat.le_refl _, Nat.le_refl _⟩ dX10_hire_5 (fun H locs w => ?_)
  by_cases c5 : r2 = 0
  · have hf := q_pos c5 hf
    rw [c5, rfv_0]
    refine lv_astore_nN (lv' := [(2, .null), (0, .ref (ad G v0)), (1, .int v1)]) E.1 E.2.1 dX10_hire_8 rfl hl (by decide) rfl (fun ls hl => ?_)
    refine lv_aload_nN E.1 E.2.1 dX10_hire_9 rfl (lv_at hl 0 rfl) ?_
    refine lv_ifnonnullN E.1 E.2.1 dX10_hire_10 ?_
    refine lv_iconst (v := (-1)) E.1 E.2.1 dX10_hire_13 rfl ?_
    refine lv_goto (tgt := 25) E.1 E.2.1 dX10_hire_14 (by decide) ?_
    have hf := Option.some.inj hf
    subst hf
    exact q_iret E w hr hlk dX10_hire_25
  have hf := q_neg c5 hf
  have t4 : sh r2 = 1 := (X7_houseAt_t (lay_10_0 t_v0) hc1).resolve_left c5
  rw [rfv_p G (by rw [t4]; decide)]
  refine lv_astore_n (lv' := [(2, .ref (ad G r2)), (0, .ref (ad G v0)), (1, .int v1)]) E.1 E.2.1 dX10_hire_8 rfl hl (by decide) rfl (fun ls hl => ?_)
  refine lv_aload_n E.1 E.2.1 dX10_hire_9 rfl (lv_at hl 0 rfl) ?_
  refine lv_ifnonnull (tgt := 17) E.1 E.2.1 dX10_hire_10 (by decide) ?_
  refine lv_aload_n E.1 E.2.1 dX10_hire_17 rfl (lv_at hl 1 rfl) ?_
  refine q_gs E w 170 t_v0 fl_RX10_34 dX10_hire_18 ?_
  refine lv_aload_n E.1 E.2.1 dX10_hire_21 rfl (lv_at hl 0 rfl) ?_
  obtain ⟨r7, h8, hc6, hf⟩ := bd2_e hf
  refine k_Vi (As := [.ref (ad G r2)]) (rest := []) E w (lay_10_4 t_v0) ⟨by decide, rfl⟩ (X5_hired_c (lay_10_4 t_v0) t4 hc6) mv_RX10_318 rfl rfl hl.1 ⟨Nat.le_of_ble_eq_true rfl, Nat.le_of_ble_eq_true rfl⟩ (Nat.le_of_ble_eq_true rfl) ⟨Nat.le_refl _, Nat.le_refl _⟩ dX10_hire_22 (fun H locs w => ?_)
  have hf := Option.some.inj hf
  subst hf
  exact q_iret E w hr hlk dX10_hire_25

def X10_shift (N : Nat) (h : HS) (v0 : Nat) (v1 : Int32) (v2 : Int32) : Option Int32 := bd1 (X7_houseAt N h (v0 + 1) v1) fun r2 => (if r2 = 0 then some (-1) else (if v2 < ((-8) : Int32) then some (-1) else (if v2 ≤ (8 : Int32) then bd1 (X1_reachedBy N h r2 v2) fun r9 => some r9 else some (-1))))
set_option maxRecDepth 4000 in
set_option maxHeartbeats 2000000 in
theorem X10_shift_c {l : Launch} {G : GT} {N : Nat} {h : HS} {v0 : Nat} {v1 : Int32} {v2 : Int32} {z : Int32} (t_v0 : sh v0 = 10) (hf : X10_shift N h v0 v1 v2 = some z) : CT l G yX10_shift cX10_shift 4 (some .int) 3 72 [.ref (ad G v0), .int v1, .int v2] h (some (.int z)) h := by
  unfold X10_shift at hf
  refine CT.of (by decide) (Nat.le_of_ble_eq_true rfl) ?_
  intro p e s m below meth c ls E hr hlk w hl
  have hl : lv_has ls 4 [(0, .ref (ad G v0)), (1, .int v1), (2, .int v2)] := hl
  refine lv_aload_n E.1 E.2.1 dX10_shift_0 rfl (lv_at hl 0 rfl) ?_
  refine q_gs E w 1 t_v0 fl_RX10_10 dX10_shift_1 ?_
  refine lv_iload_n E.1 E.2.1 dX10_shift_4 rfl (lv_at hl 1 rfl) ?_
  obtain ⟨r2, hc1, hf⟩ := bd1_e hf
  refine k_Vr (As := [.int v1]) (rest := []) E w (lay_10_0 t_v0) ⟨by decide, rfl⟩ (X7_houseAt_c (lay_10_0 t_v0) hc1) mv_RX10_113 rfl rfl hl.1 ⟨Nat.le_of_ble_eq_true rfl, Nat.le_of_ble_eq_true rfl⟩ (Nat.le_of_ble_eq_true rfl) ⟨Nat.le_refl _, Nat.le_refl _⟩ dX10_shift_5 (fun H locs w => ?_)
  by_cases c5 : r2 = 0
  · have hf := q_pos c5 hf
    rw [c5, rfv_0]
    refine lv_astore_nN (lv' := [(3, .null), (0, .ref (ad G v0)), (1, .int v1), (2, .int v2)]) E.1 E.2.1 dX10_shift_8 rfl hl (by decide) rfl (fun ls hl => ?_)
    refine lv_aload_nN E.1 E.2.1 dX10_shift_9 rfl (lv_at hl 0 rfl) ?_
    refine lv_ifnullN (tgt := 25) E.1 E.2.1 dX10_shift_10 (by decide) ?_
    refine lv_iconst (v := (-1)) E.1 E.2.1 dX10_shift_25 rfl ?_
    have hf := Option.some.inj hf
    subst hf
    exact q_iret E w hr hlk dX10_shift_26
  have hf := q_neg c5 hf
  have t4 : sh r2 = 1 := (X7_houseAt_t (lay_10_0 t_v0) hc1).resolve_left c5
  rw [rfv_p G (by rw [t4]; decide)]
  refine lv_astore_n (lv' := [(3, .ref (ad G r2)), (0, .ref (ad G v0)), (1, .int v1), (2, .int v2)]) E.1 E.2.1 dX10_shift_8 rfl hl (by decide) rfl (fun ls hl => ?_)
  refine lv_aload_n E.1 E.2.1 dX10_shift_9 rfl (lv_at hl 0 rfl) ?_
  refine lv_ifnull E.1 E.2.1 dX10_shift_10 ?_
  refine lv_iload_n E.1 E.2.1 dX10_shift_13 rfl (lv_at hl 3 rfl) ?_
  refine lv_bipush (v := (-8)) E.1 E.2.1 dX10_shift_14 rfl ?_
  refine lv_icmp_lt (tgt := 25) E.1 E.2.1 dX10_shift_16 (by decide) (fun c6 => ?_) (fun c6 => ?_)
  · have hf := q_pos c6 hf
    refine lv_iconst (v := (-1)) E.1 E.2.1 dX10_shift_25 rfl ?_
    have hf := Option.some.inj hf
    subst hf
    exact q_iret E w hr hlk dX10_shift_26
  · have hf := q_neg c6 hf
    refine lv_iload_n E.1 E.2.1 dX10_shift_19 rfl (lv_at hl 3 rfl) ?_
    refine lv_bipush (v := 8) E.1 E.2.1 dX10_shift_20 rfl ?_
    refine lv_icmp_le (tgt := 27) E.1 E.2.1 dX10_shift_22 (by decide) (fun c7 => ?_) (fun c7 => ?_)
    · have hf := q_pos c7 hf
      refine lv_aload_n E.1 E.2.1 dX10_shift_27 rfl (lv_at hl 0 rfl) ?_
      refine lv_iload_n E.1 E.2.1 dX10_shift_28 rfl (lv_at hl 3 rfl) ?_
      obtain ⟨r9, hc8, hf⟩ := bd1_e hf
      refine k_Vi (As := [.int v2]) (rest := []) E w t4 ⟨by decide, rfl⟩ (X1_reachedBy_c t4 hc8) mv_RX10_321 rfl rfl hl.1 ⟨Nat.le_of_ble_eq_true rfl, Nat.le_of_ble_eq_true rfl⟩ (Nat.le_of_ble_eq_true rfl) ⟨Nat.le_refl _, Nat.le_refl _⟩ dX10_shift_29 (fun H locs w => ?_)
      have hf := Option.some.inj hf
      subst hf
      exact q_iret E w hr hlk dX10_shift_32
    · have hf := q_neg c7 hf
      refine lv_iconst (v := (-1)) E.1 E.2.1 dX10_shift_25 rfl ?_
      have hf := Option.some.inj hf
      subst hf
      exact q_iret E w hr hlk dX10_shift_26

def X10_tuned_l21 (N : Nat) (h : HS) : Nat → Nat → Int32 → Int32 → Option Int32
  | 0, _, _, _ => none
  | n + 1, v2, v3, v4 => (if (8 : Int32) < v4 then some v3 else bd1 (X1_reachedBy N h v2 v4) fun r8 => bd1 (X1_reachedBy N h v2 v3) fun r11 => (if r8 ≤ r11 then bd1 (X1_reachedBy N h v2 (-v4)) fun r15 => bd1 (X1_reachedBy N h v2 v3) fun r18 => (if r15 ≤ r18 then X10_tuned_l21 N h n v2 v3 (v4 + 1) else X10_tuned_l21 N h n v2 (-v4) (v4 + 1)) else bd1 (X1_reachedBy N h v2 (-v4)) fun r22 => bd1 (X1_reachedBy N h v2 v4) fun r25 => (if r22 ≤ r25 then X10_tuned_l21 N h n v2 v4 (v4 + 1) else X10_tuned_l21 N h n v2 (-v4) (v4 + 1))))
set_option maxRecDepth 4000 in
set_option maxHeartbeats 2000000 in
theorem X10_tuned_l21_w {p : Program} {l : Launch} {e : Env} {s : State} {m : MethodId} {args : Array Value} {below : List Frame} {meth : Method} {c : Code} {G : GT} {N : Nat} {h : HS} {z : Int32} (E : CallFix p m c cX10_tuned 5 s args UW RX10) (hr : meth.sig.returnType = (some .int)) (hlk : meth.locks = false) : ∀ (n : Nat) (H : Heap) (locs : List Loc) (ls : Array Slot) (v2 : Nat) (v3 : Int32) (v4 : Int32), X10_tuned_l21 N h n v2 v3 v4 = some z → WD G s h H locs → sh v2 = 1 → lv_has ls 5 [(2, .ref (ad G v2)), (3, .int v3), (4, .int v4)] → W p l e ({ frames := 3, cells := 0, slots := 0, locals := 72 } : Room) s m args below meth c H locs 0 0 (MQ below (QC G (some (.int z)) h) args s 0 0 (AD G)) (F0 m 21 ls []) := by
  intro n
  induction n with
  | zero =>
    intro H locs ls v2 v3 v4 hf
    cases hf
  | succ n ih =>
    intro H locs ls v2 v3 v4 hf w t_v2 hl
    unfold X10_tuned_l21 at hf
    refine lv_iload E.1 E.2.1 dX10_tuned_21 (lv_at hl 2 rfl) ?_
    refine lv_bipush (v := 8) E.1 E.2.1 dX10_tuned_23 rfl ?_
    refine lv_icmp_gt (tgt := 70) E.1 E.2.1 dX10_tuned_25 (by decide) (fun c6 => ?_) (fun c6 => ?_)
    · have hf := q_pos c6 hf
      refine lv_iload_n E.1 E.2.1 dX10_tuned_70 rfl (lv_at hl 1 rfl) ?_
      have hf := Option.some.inj hf
      subst hf
      exact q_iret E w hr hlk dX10_tuned_71
    · have hf := q_neg c6 hf
      refine lv_aload_n E.1 E.2.1 dX10_tuned_28 rfl (lv_at hl 0 rfl) ?_
      refine lv_iload E.1 E.2.1 dX10_tuned_29 (lv_at hl 2 rfl) ?_
      obtain ⟨r8, hc7, hf⟩ := bd1_e hf
      refine k_Vi (As := [.int v4]) (rest := []) E w t_v2 ⟨by decide, rfl⟩ (X1_reachedBy_c t_v2 hc7) mv_RX10_321 rfl rfl hl.1 ⟨Nat.le_of_ble_eq_true rfl, Nat.le_of_ble_eq_true rfl⟩ (Nat.le_of_ble_eq_true rfl) ⟨Nat.le_refl _, Nat.le_refl _⟩ dX10_tuned_31 (fun H locs w => ?_)
      refine lv_aload_n E.1 E.2.1 dX10_tuned_34 rfl (lv_at hl 0 rfl) ?_
      refine lv_iload_n E.1 E.2.1 dX10_tuned_35 rfl (lv_at hl 1 rfl) ?_
      obtain ⟨r11, hc10, hf⟩ := bd1_e hf
      refine k_Vi (As := [.int v3]) (rest := [.int r8]) E w t_v2 ⟨by decide, rfl⟩ (X1_reachedBy_c t_v2 hc10) mv_RX10_321 rfl rfl hl.1 ⟨Nat.le_of_ble_eq_true rfl, Nat.le_of_ble_eq_true rfl⟩ (Nat.le_of_ble_eq_true rfl) ⟨Nat.le_refl _, Nat.le_refl _⟩ dX10_tuned_36 (fun H locs w => ?_)
      refine lv_icmp_le (tgt := 45) E.1 E.2.1 dX10_tuned_39 (by decide) (fun c13 => ?_) (fun c13 => ?_)
      · have hf := q_pos c13 hf
        refine lv_aload_n E.1 E.2.1 dX10_tuned_45 rfl (lv_at hl 0 rfl) ?_
        refine lv_iload E.1 E.2.1 dX10_tuned_46 (lv_at hl 2 rfl) ?_
        refine lv_ineg E.1 E.2.1 dX10_tuned_48 ?_
        obtain ⟨r15, hc14, hf⟩ := bd1_e hf
        refine k_Vi (As := [.int (-v4)]) (rest := []) E w t_v2 ⟨by decide, rfl⟩ (X1_reachedBy_c t_v2 hc14) mv_RX10_321 rfl rfl hl.1 ⟨Nat.le_of_ble_eq_true rfl, Nat.le_of_ble_eq_true rfl⟩ (Nat.le_of_ble_eq_true rfl) ⟨Nat.le_refl _, Nat.le_refl _⟩ dX10_tuned_49 (fun H locs w => ?_)
        refine lv_aload_n E.1 E.2.1 dX10_tuned_52 rfl (lv_at hl 0 rfl) ?_
        refine lv_iload_n E.1 E.2.1 dX10_tuned_53 rfl (lv_at hl 1 rfl) ?_
        obtain ⟨r18, hc17, hf⟩ := bd1_e hf
        refine k_Vi (As := [.int v3]) (rest := [.int r15]) E w t_v2 ⟨by decide, rfl⟩ (X1_reachedBy_c t_v2 hc17) mv_RX10_321 rfl rfl hl.1 ⟨Nat.le_of_ble_eq_true rfl, Nat.le_of_ble_eq_true rfl⟩ (Nat.le_of_ble_eq_true rfl) ⟨Nat.le_refl _, Nat.le_refl _⟩ dX10_tuned_54 (fun H locs w => ?_)
        refine lv_icmp_le (tgt := 64) E.1 E.2.1 dX10_tuned_57 (by decide) (fun c20 => ?_) (fun c20 => ?_)
        · have hf := q_pos c20 hf
          refine lv_iinc (v := v4 + 1) (lv' := [(4, .int (v4 + 1)), (2, .ref (ad G v2)), (3, .int v3)]) E.1 E.2.1 dX10_tuned_64 hl (k := 2) rfl rfl (by decide) rfl (fun ls hl => ?_)
          refine lv_goto (tgt := 21) E.1 E.2.1 dX10_tuned_67 (by decide) ?_
          exact ih _ _ _ _ _ _ hf w t_v2 (lv_sub hl [1, 2, 0] rfl)
        · have hf := q_neg c20 hf
          refine lv_iload E.1 E.2.1 dX10_tuned_60 (lv_at hl 2 rfl) ?_
          refine lv_ineg E.1 E.2.1 dX10_tuned_62 ?_
          refine lv_istore_n (lv' := [(3, .int (-v4)), (2, .ref (ad G v2)), (4, .int v4)]) E.1 E.2.1 dX10_tuned_63 rfl hl (by decide) rfl (fun ls hl => ?_)
          refine lv_iinc (v := v4 + 1) (lv' := [(4, .int (v4 + 1)), (3, .int (-v4)), (2, .ref (ad G v2))]) E.1 E.2.1 dX10_tuned_64 hl (k := 2) rfl rfl (by decide) rfl (fun ls hl => ?_)
          refine lv_goto (tgt := 21) E.1 E.2.1 dX10_tuned_67 (by decide) ?_
          exact ih _ _ _ _ _ _ hf w t_v2 (lv_sub hl [2, 1, 0] rfl)
      · have hf := q_neg c13 hf
        refine lv_iload E.1 E.2.1 dX10_tuned_42 (lv_at hl 2 rfl) ?_
        refine lv_istore_n (lv' := [(3, .int v4), (2, .ref (ad G v2)), (4, .int v4)]) E.1 E.2.1 dX10_tuned_44 rfl hl (by decide) rfl (fun ls hl => ?_)
        refine lv_aload_n E.1 E.2.1 dX10_tuned_45 rfl (lv_at hl 1 rfl) ?_
        refine lv_iload E.1 E.2.1 dX10_tuned_46 (lv_at hl 2 rfl) ?_
        refine lv_ineg E.1 E.2.1 dX10_tuned_48 ?_
        obtain ⟨r22, hc21, hf⟩ := bd1_e hf
        refine k_Vi (As := [.int (-v4)]) (rest := []) E w t_v2 ⟨by decide, rfl⟩ (X1_reachedBy_c t_v2 hc21) mv_RX10_321 rfl rfl hl.1 ⟨Nat.le_of_ble_eq_true rfl, Nat.le_of_ble_eq_true rfl⟩ (Nat.le_of_ble_eq_true rfl) ⟨Nat.le_refl _, Nat.le_refl _⟩ dX10_tuned_49 (fun H locs w => ?_)
        refine lv_aload_n E.1 E.2.1 dX10_tuned_52 rfl (lv_at hl 1 rfl) ?_
        refine lv_iload_n E.1 E.2.1 dX10_tuned_53 rfl (lv_at hl 0 rfl) ?_
        obtain ⟨r25, hc24, hf⟩ := bd1_e hf
        refine k_Vi (As := [.int v4]) (rest := [.int r22]) E w t_v2 ⟨by decide, rfl⟩ (X1_reachedBy_c t_v2 hc24) mv_RX10_321 rfl rfl hl.1 ⟨Nat.le_of_ble_eq_true rfl, Nat.le_of_ble_eq_true rfl⟩ (Nat.le_of_ble_eq_true rfl) ⟨Nat.le_refl _, Nat.le_refl _⟩ dX10_tuned_54 (fun H locs w => ?_)
        refine lv_icmp_le (tgt := 64) E.1 E.2.1 dX10_tuned_57 (by decide) (fun c27 => ?_) (fun c27 => ?_)
        · have hf := q_pos c27 hf
          refine lv_iinc (v := v4 + 1) (lv' := [(4, .int (v4 + 1)), (3, .int v4), (2, .ref (ad G v2))]) E.1 E.2.1 dX10_tuned_64 hl (k := 2) rfl rfl (by decide) rfl (fun ls hl => ?_)
          refine lv_goto (tgt := 21) E.1 E.2.1 dX10_tuned_67 (by decide) ?_
          exact ih _ _ _ _ _ _ hf w t_v2 (lv_sub hl [2, 1, 0] rfl)
        · have hf := q_neg c27 hf
          refine lv_iload E.1 E.2.1 dX10_tuned_60 (lv_at hl 2 rfl) ?_
          refine lv_ineg E.1 E.2.1 dX10_tuned_62 ?_
          refine lv_istore_n (lv' := [(3, .int (-v4)), (2, .ref (ad G v2)), (4, .int v4)]) E.1 E.2.1 dX10_tuned_63 rfl hl (by decide) rfl (fun ls hl => ?_)
          refine lv_iinc (v := v4 + 1) (lv' := [(4, .int (v4 + 1)), (3, .int (-v4)), (2, .ref (ad G v2))]) E.1 E.2.1 dX10_tuned_64 hl (k := 2) rfl rfl (by decide) rfl (fun ls hl => ?_)
          refine lv_goto (tgt := 21) E.1 E.2.1 dX10_tuned_67 (by decide) ?_
          exact ih _ _ _ _ _ _ hf w t_v2 (lv_sub hl [2, 1, 0] rfl)

def X10_tuned (N : Nat) (h : HS) (v0 : Nat) (v1 : Int32) : Option Int32 := bd1 (X7_houseAt N h (v0 + 1) v1) fun r2 => (if r2 = 0 then some (-99) else X10_tuned_l21 N h N r2 0 1)
set_option maxRecDepth 4000 in
set_option maxHeartbeats 2000000 in
theorem X10_tuned_c {l : Launch} {G : GT} {N : Nat} {h : HS} {v0 : Nat} {v1 : Int32} {z : Int32} (t_v0 : sh v0 = 10) (hf : X10_tuned N h v0 v1 = some z) : CT l G yX10_tuned cX10_tuned 5 (some .int) 3 72 [.ref (ad G v0), .int v1] h (some (.int z)) h := by
  unfold X10_tuned at hf
  refine CT.of (by decide) (Nat.le_of_ble_eq_true rfl) ?_
  intro p e s m below meth c ls E hr hlk w hl
  have hl : lv_has ls 5 [(0, .ref (ad G v0)), (1, .int v1)] := hl
  refine lv_aload_n E.1 E.2.1 dX10_tuned_0 rfl (lv_at hl 0 rfl) ?_
  refine q_gs E w 1 t_v0 fl_RX10_10 dX10_tuned_1 ?_
  refine lv_iload_n E.1 E.2.1 dX10_tuned_4 rfl (lv_at hl 1 rfl) ?_
  obtain ⟨r2, hc1, hf⟩ := bd1_e hf
  refine k_Vr (As := [.int v1]) (rest := []) E w (lay_10_0 t_v0) ⟨by decide, rfl⟩ (X7_houseAt_c (lay_10_0 t_v0) hc1) mv_RX10_113 rfl rfl hl.1 ⟨Nat.le_of_ble_eq_true rfl, Nat.le_of_ble_eq_true rfl⟩ (Nat.le_of_ble_eq_true rfl) ⟨Nat.le_refl _, Nat.le_refl _⟩ dX10_tuned_5 (fun H locs w => ?_)
  by_cases c5 : r2 = 0
  · have hf := q_pos c5 hf
    rw [c5, rfv_0]
    refine lv_astore_nN (lv' := [(2, .null), (0, .ref (ad G v0)), (1, .int v1)]) E.1 E.2.1 dX10_tuned_8 rfl hl (by decide) rfl (fun ls hl => ?_)
    refine lv_aload_nN E.1 E.2.1 dX10_tuned_9 rfl (lv_at hl 0 rfl) ?_
    refine lv_ifnonnullN E.1 E.2.1 dX10_tuned_10 ?_
    refine lv_bipush (v := (-99)) E.1 E.2.1 dX10_tuned_13 rfl ?_
    have hf := Option.some.inj hf
    subst hf
    exact q_iret E w hr hlk dX10_tuned_15
  have hf := q_neg c5 hf
  have t4 : sh r2 = 1 := (X7_houseAt_t (lay_10_0 t_v0) hc1).resolve_left c5
  rw [rfv_p G (by rw [t4]; decide)]
  refine lv_astore_n (lv' := [(2, .ref (ad G r2)), (0, .ref (ad G v0)), (1, .int v1)]) E.1 E.2.1 dX10_tuned_8 rfl hl (by decide) rfl (fun ls hl => ?_)
  refine lv_aload_n E.1 E.2.1 dX10_tuned_9 rfl (lv_at hl 0 rfl) ?_
  refine lv_ifnonnull (tgt := 16) E.1 E.2.1 dX10_tuned_10 (by decide) ?_
  refine lv_iconst (v := 0) E.1 E.2.1 dX10_tuned_16 rfl ?_
  refine lv_istore_n (lv' := [(3, .int 0), (2, .ref (ad G r2)), (0, .ref (ad G v0)), (1, .int v1)]) E.1 E.2.1 dX10_tuned_17 rfl hl (by decide) rfl (fun ls hl => ?_)
  refine lv_iconst (v := 1) E.1 E.2.1 dX10_tuned_18 rfl ?_
  refine lv_istore (lv' := [(4, .int 1), (3, .int 0), (2, .ref (ad G r2)), (0, .ref (ad G v0)), (1, .int v1)]) E.1 E.2.1 dX10_tuned_19 hl (by decide) rfl (fun ls hl => ?_)
  exact X10_tuned_l21_w E hr hlk N _ _ _ _ _ _ hf w t4 (lv_sub hl [2, 1, 0] rfl)

def X10_landing (N : Nat) (h : HS) (v0 : Nat) (v1 : Int32) (v2 : Int32) : Option Int32 := bd1 (X7_houseAt N h (v0 + 1) v1) fun r2 => (if r2 = 0 then some (-2) else bd1 (X1_busiest N h r2) fun r7 => (if v2 = 0 then some r7 else bd1 (X1_notesOn N h r2 r7) fun r11 => some r11))
set_option maxRecDepth 4000 in
set_option maxHeartbeats 2000000 in
theorem X10_landing_c {l : Launch} {G : GT} {N : Nat} {h : HS} {v0 : Nat} {v1 : Int32} {v2 : Int32} {z : Int32} (t_v0 : sh v0 = 10) (hf : X10_landing N h v0 v1 v2 = some z) : CT l G yX10_landing cX10_landing 5 (some .int) 4 87 [.ref (ad G v0), .int v1, .int v2] h (some (.int z)) h := by
  unfold X10_landing at hf
  refine CT.of (by decide) (Nat.le_of_ble_eq_true rfl) ?_
  intro p e s m below meth c ls E hr hlk w hl
  have hl : lv_has ls 5 [(0, .ref (ad G v0)), (1, .int v1), (2, .int v2)] := hl
  refine lv_aload_n E.1 E.2.1 dX10_landing_0 rfl (lv_at hl 0 rfl) ?_
  refine q_gs E w 1 t_v0 fl_RX10_10 dX10_landing_1 ?_
  refine lv_iload_n E.1 E.2.1 dX10_landing_4 rfl (lv_at hl 1 rfl) ?_
  obtain ⟨r2, hc1, hf⟩ := bd1_e hf
  refine k_Vr (As := [.int v1]) (rest := []) E w (lay_10_0 t_v0) ⟨by decide, rfl⟩ (X7_houseAt_c (lay_10_0 t_v0) hc1) mv_RX10_113 rfl rfl hl.1 ⟨Nat.le_of_ble_eq_true rfl, Nat.le_of_ble_eq_true rfl⟩ (Nat.le_of_ble_eq_true rfl) ⟨Nat.le_refl _, Nat.le_refl _⟩ dX10_landing_5 (fun H locs w => ?_)
  by_cases c5 : r2 = 0
  · have hf := q_pos c5 hf
    rw [c5, rfv_0]
    refine lv_astore_nN (lv' := [(3, .null), (0, .ref (ad G v0)), (1, .int v1), (2, .int v2)]) E.1 E.2.1 dX10_landing_8 rfl hl (by decide) rfl (fun ls hl => ?_)
    refine lv_aload_nN E.1 E.2.1 dX10_landing_9 rfl (lv_at hl 0 rfl) ?_
    refine lv_ifnonnullN E.1 E.2.1 dX10_landing_10 ?_
    refine lv_bipush (v := (-2)) E.1 E.2.1 dX10_landing_13 rfl ?_
    have hf := Option.some.inj hf
    subst hf
    exact q_iret E w hr hlk dX10_landing_15
  have hf := q_neg c5 hf
  have t4 : sh r2 = 1 := (X7_houseAt_t (lay_10_0 t_v0) hc1).resolve_left c5
  rw [rfv_p G (by rw [t4]; decide)]
  refine lv_astore_n (lv' := [(3, .ref (ad G r2)), (0, .ref (ad G v0)), (1, .int v1), (2, .int v2)]) E.1 E.2.1 dX10_landing_8 rfl hl (by decide) rfl (fun ls hl => ?_)
  refine lv_aload_n E.1 E.2.1 dX10_landing_9 rfl (lv_at hl 0 rfl) ?_
  refine lv_ifnonnull (tgt := 16) E.1 E.2.1 dX10_landing_10 (by decide) ?_
  refine lv_aload_n E.1 E.2.1 dX10_landing_16 rfl (lv_at hl 0 rfl) ?_
  obtain ⟨r7, hc6, hf⟩ := bd1_e hf
  refine k_Vi (As := []) (rest := []) E w t4 ⟨by decide, rfl⟩ (X1_busiest_c t4 hc6) mv_RX10_324 rfl rfl hl.1 ⟨Nat.le_of_ble_eq_true rfl, Nat.le_of_ble_eq_true rfl⟩ (Nat.le_of_ble_eq_true rfl) ⟨Nat.le_refl _, Nat.le_refl _⟩ dX10_landing_17 (fun H locs w => ?_)
  refine lv_istore (lv' := [(4, .int r7), (3, .ref (ad G r2)), (0, .ref (ad G v0)), (1, .int v1), (2, .int v2)]) E.1 E.2.1 dX10_landing_20 hl (by decide) rfl (fun ls hl => ?_)
  refine lv_iload_n E.1 E.2.1 dX10_landing_22 rfl (lv_at hl 4 rfl) ?_
  refine lv_if_eq (tgt := 35) E.1 E.2.1 dX10_landing_23 (by decide) (fun c9 => ?_) (fun c9 => ?_)
  · have hf := q_pos c9 hf
    refine lv_iload E.1 E.2.1 dX10_landing_35 (lv_at hl 0 rfl) ?_
    have hf := Option.some.inj hf
    subst hf
    exact q_iret E w hr hlk dX10_landing_37
  · have hf := q_neg c9 hf
    refine lv_aload_n E.1 E.2.1 dX10_landing_26 rfl (lv_at hl 1 rfl) ?_
    refine lv_iload E.1 E.2.1 dX10_landing_27 (lv_at hl 0 rfl) ?_
    obtain ⟨r11, hc10, hf⟩ := bd1_e hf
    refine k_Vi (As := [.int r7]) (rest := []) E w t4 ⟨by decide, rfl⟩ (X1_notesOn_c t4 hc10) mv_RX10_294 rfl rfl hl.1 ⟨Nat.le_of_ble_eq_true rfl, Nat.le_of_ble_eq_true rfl⟩ (Nat.le_of_ble_eq_true rfl) ⟨Nat.le_refl _, Nat.le_refl _⟩ dX10_landing_29 (fun H locs w => ?_)
    refine lv_goto (tgt := 37) E.1 E.2.1 dX10_landing_32 (by decide) ?_
    have hf := Option.some.inj hf
    subst hf
    exact q_iret E w hr hlk dX10_landing_37

def X10_count (N : Nat) (h : HS) (v0 : Nat) (v1 : Int32) : Option Int32 := (if v1 < 0 then some (-2) else (if v1 < (3 : Int32) then (if v1 < 0 ∨ 3 ≤ v1.toNatClampNeg then none else some (h.1 ((v0 + 1) + 2) v1.toNatClampNeg)) else some (-2)))
set_option maxRecDepth 4000 in
set_option maxHeartbeats 2000000 in
theorem X10_count_c {l : Launch} {G : GT} {N : Nat} {h : HS} {v0 : Nat} {v1 : Int32} {z : Int32} (t_v0 : sh v0 = 10) (hf : X10_count N h v0 v1 = some z) : CT l G yX10_count cX10_count 2 (some .int) 0 0 [.ref (ad G v0), .int v1] h (some (.int z)) h := by
  unfold X10_count at hf
  refine CT.of (by decide) (Nat.le_of_ble_eq_true rfl) ?_
  intro p e s m below meth c ls E hr hlk w hl
  have hl : lv_has ls 2 [(0, .ref (ad G v0)), (1, .int v1)] := hl
  refine lv_iload_n E.1 E.2.1 dX10_count_0 rfl (lv_at hl 1 rfl) ?_
  refine lv_if_lt (tgt := 9) E.1 E.2.1 dX10_count_1 (by decide) (fun c1 => ?_) (fun c1 => ?_)
  · have hf := q_pos c1 hf
    refine lv_bipush (v := (-2)) E.1 E.2.1 dX10_count_9 rfl ?_
    refine lv_goto (tgt := 23) E.1 E.2.1 dX10_count_11 (by decide) ?_
    have hf := Option.some.inj hf
    subst hf
    exact q_iret E w hr hlk dX10_count_23
  · have hf := q_neg c1 hf
    refine lv_iload_n E.1 E.2.1 dX10_count_4 rfl (lv_at hl 1 rfl) ?_
    refine lv_iconst (v := 3) E.1 E.2.1 dX10_count_5 rfl ?_
    refine lv_icmp_lt (tgt := 14) E.1 E.2.1 dX10_count_6 (by decide) (fun c2 => ?_) (fun c2 => ?_)
    · have hf := q_pos c2 hf
      refine lv_aload_n E.1 E.2.1 dX10_count_14 rfl (lv_at hl 0 rfl) ?_
      refine q_gs E w 1 t_v0 fl_RX10_10 dX10_count_15 ?_
      refine q_gs E w 2 (lay_10_0 t_v0) fl_RX10_327 dX10_count_18 ?_
      refine lv_iload_n E.1 E.2.1 dX10_count_21 rfl (lv_at hl 1 rfl) ?_
      obtain ⟨b3, hf⟩ := q_if hf
      refine q_iald E w ((lay_7_4 (lay_10_0 t_v0)).1) ((lay_7_4 (lay_10_0 t_v0)).2) b3 dX10_count_22 ?_
      have hf := Option.some.inj hf
      subst hf
      exact q_iret E w hr hlk dX10_count_23
    · have hf := q_neg c2 hf
      refine lv_bipush (v := (-2)) E.1 E.2.1 dX10_count_9 rfl ?_
      refine lv_goto (tgt := 23) E.1 E.2.1 dX10_count_11 (by decide) ?_
      have hf := Option.some.inj hf
      subst hf
      exact q_iret E w hr hlk dX10_count_23

def X10_image (N : Nat) (h : HS) (v0 : Nat) (v1 : Int32) : Option (Int32 × HS) := (if v1 < 0 then some (nz 0, h) else (if v1 < (3 : Int32) then (if v1 < 0 ∨ 3 ≤ v1.toNatClampNeg then none else bd1 (X7_copy N h (ra (v0 + 39) v1.toNatClampNeg) (v0 + 1)) fun h7 => (if v1 < 0 ∨ 3 ≤ v1.toNatClampNeg then none else sq (wi h7 (v0 + 154) v1.toNatClampNeg (vp_nar .boolean 1)) fun h9 => some (nz 1, h9))) else some (nz 0, h)))
set_option maxRecDepth 4000 in
set_option maxHeartbeats 2000000 in
theorem X10_image_c {l : Launch} {G : GT} {N : Nat} {h : HS} {v0 : Nat} {v1 : Int32} {z : (Int32 × HS)} (t_v0 : sh v0 = 10) (hf : X10_image N h v0 v1 = some z) : CT l G yX10_image cX10_image 2 (some .boolean) 3 83 [.ref (ad G v0), .int v1] h (some (.int z.1)) z.2 := by
  unfold X10_image at hf
  refine CT.of (by decide) (Nat.le_of_ble_eq_true rfl) ?_
  intro p e s m below meth c ls E hr hlk w hl
  have hl : lv_has ls 2 [(0, .ref (ad G v0)), (1, .int v1)] := hl
  refine lv_iload_n E.1 E.2.1 dX10_image_0 rfl (lv_at hl 1 rfl) ?_
  refine lv_if_lt (tgt := 9) E.1 E.2.1 dX10_image_1 (by decide) (fun c1 => ?_) (fun c1 => ?_)
  · have hf := q_pos c1 hf
    refine lv_iconst (v := 0) E.1 E.2.1 dX10_image_9 rfl ?_
    have hf := Option.some.inj hf
    subst hf
    exact q_zret E w hr hlk dX10_image_10
  · have hf := q_neg c1 hf
    refine lv_iload_n E.1 E.2.1 dX10_image_4 rfl (lv_at hl 1 rfl) ?_
    refine lv_iconst (v := 3) E.1 E.2.1 dX10_image_5 rfl ?_
    refine lv_icmp_lt (tgt := 11) E.1 E.2.1 dX10_image_6 (by decide) (fun c2 => ?_) (fun c2 => ?_)
    · have hf := q_pos c2 hf
      refine lv_aload_n E.1 E.2.1 dX10_image_11 rfl (lv_at hl 0 rfl) ?_
      refine q_gs E w 39 t_v0 fl_RX10_16 dX10_image_12 ?_
      refine lv_iload_n E.1 E.2.1 dX10_image_15 rfl (lv_at hl 1 rfl) ?_
      obtain ⟨b3, hf⟩ := q_if hf
      have t4 : sh (ra (v0 + 39) v1.toNatClampNeg) = 7 := lay_ra ((lay_10_1 t_v0).1) ((lay_10_1 t_v0).2) (by decide) rfl b3
      refine q_aald (t := 5) E w ((lay_10_1 t_v0).1) (by decide) ((lay_10_1 t_v0).2) b3 dX10_image_16 ?_
      refine lv_aload_n E.1 E.2.1 dX10_image_17 rfl (lv_at hl 0 rfl) ?_
      refine q_gs E w 1 t_v0 fl_RX10_10 dX10_image_18 ?_
      obtain ⟨h7, hc5, hf⟩ := bd1_e hf
      refine k_Vv (As := [.ref (ad G (v0 + 1))]) (rest := []) E w t4 ⟨by decide, rfl⟩ (X7_copy_c t4 (lay_10_0 t_v0) hc5) mv_RX10_331 rfl rfl hl.1 ⟨Nat.le_of_ble_eq_true rfl, Nat.le_of_ble_eq_true rfl⟩ (Nat.le_of_ble_eq_true rfl) ⟨Nat.le_refl _, Nat.le_refl _⟩ dX10_image_21 (fun H locs w => ?_)
      refine lv_aload_n E.1 E.2.1 dX10_image_24 rfl (lv_at hl 0 rfl) ?_
      refine q_gs E w 154 t_v0 fl_RX10_20 dX10_image_25 ?_
      refine lv_iload_n E.1 E.2.1 dX10_image_28 rfl (lv_at hl 1 rfl) ?_
      refine lv_iconst (v := 1) E.1 E.2.1 dX10_image_29 rfl ?_
      obtain ⟨b8, hf⟩ := q_if hf
      refine p_zast E w ((lay_10_2 t_v0).1) ((lay_10_2 t_v0).2) b8 dX10_image_30 (fun h9 H locs eh w => ?_)
      have hf := sq_e eh hf
      clear eh
      refine lv_iconst (v := 1) E.1 E.2.1 dX10_image_31 rfl ?_
      have hf := Option.some.inj hf
      subst hf
      exact q_zret E w hr hlk dX10_image_32
    · have hf := q_neg c2 hf
      refine lv_iconst (v := 0) E.1 E.2.1 dX10_image_9 rfl ?_
      have hf := Option.some.inj hf
      subst hf
      exact q_zret E w hr hlk dX10_image_10

def X10_again (N : Nat) (h : HS) (v0 : Nat) (v1 : Int32) : Option (Int32 × HS) := (if v1 < 0 then some (nz 0, h) else (if (3 : Int32) ≤ v1 then some (nz 0, h) else (if v1 < 0 ∨ 3 ≤ v1.toNatClampNeg then none else (if (h.1 (v0 + 154) v1.toNatClampNeg) = 0 then some (nz 0, h) else (if v1 < 0 ∨ 3 ≤ v1.toNatClampNeg then none else bd1 (X7_copy N h (v0 + 1) (ra (v0 + 39) v1.toNatClampNeg)) fun h9 => some (nz 1, h9))))))
set_option maxRecDepth 4000 in
set_option maxHeartbeats 2000000 in
theorem X10_again_c {l : Launch} {G : GT} {N : Nat} {h : HS} {v0 : Nat} {v1 : Int32} {z : (Int32 × HS)} (t_v0 : sh v0 = 10) (hf : X10_again N h v0 v1 = some z) : CT l G yX10_again cX10_again 2 (some .boolean) 3 83 [.ref (ad G v0), .int v1] h (some (.int z.1)) z.2 := by
  unfold X10_again at hf
  refine CT.of (by decide) (Nat.le_of_ble_eq_true rfl) ?_
  intro p e s m below meth c ls E hr hlk w hl
  have hl : lv_has ls 2 [(0, .ref (ad G v0)), (1, .int v1)] := hl
  refine lv_iload_n E.1 E.2.1 dX10_again_0 rfl (lv_at hl 1 rfl) ?_
  refine lv_if_lt (tgt := 18) E.1 E.2.1 dX10_again_1 (by decide) (fun c1 => ?_) (fun c1 => ?_)
  · have hf := q_pos c1 hf
    refine lv_iconst (v := 0) E.1 E.2.1 dX10_again_18 rfl ?_
    have hf := Option.some.inj hf
    subst hf
    exact q_zret E w hr hlk dX10_again_19
  · have hf := q_neg c1 hf
    refine lv_iload_n E.1 E.2.1 dX10_again_4 rfl (lv_at hl 1 rfl) ?_
    refine lv_iconst (v := 3) E.1 E.2.1 dX10_again_5 rfl ?_
    refine lv_icmp_ge (tgt := 18) E.1 E.2.1 dX10_again_6 (by decide) (fun c2 => ?_) (fun c2 => ?_)
    · have hf := q_pos c2 hf
      refine lv_iconst (v := 0) E.1 E.2.1 dX10_again_18 rfl ?_
      have hf := Option.some.inj hf
      subst hf
      exact q_zret E w hr hlk dX10_again_19
    · have hf := q_neg c2 hf
      refine lv_aload_n E.1 E.2.1 dX10_again_9 rfl (lv_at hl 0 rfl) ?_
      refine q_gs E w 154 t_v0 fl_RX10_20 dX10_again_10 ?_
      refine lv_iload_n E.1 E.2.1 dX10_again_13 rfl (lv_at hl 1 rfl) ?_
      obtain ⟨b3, hf⟩ := q_if hf
      refine q_zald E w ((lay_10_2 t_v0).1) ((lay_10_2 t_v0).2) b3 dX10_again_14 ?_
      refine lv_if_ne (tgt := 20) E.1 E.2.1 dX10_again_15 (by decide) (fun c4 => ?_) (fun c4 => ?_)
      · have hf := q_neg c4 hf
        refine lv_aload_n E.1 E.2.1 dX10_again_20 rfl (lv_at hl 0 rfl) ?_
        refine q_gs E w 1 t_v0 fl_RX10_10 dX10_again_21 ?_
        refine lv_aload_n E.1 E.2.1 dX10_again_24 rfl (lv_at hl 0 rfl) ?_
        refine q_gs E w 39 t_v0 fl_RX10_16 dX10_again_25 ?_
        refine lv_iload_n E.1 E.2.1 dX10_again_28 rfl (lv_at hl 1 rfl) ?_
        obtain ⟨b5, hf⟩ := q_if hf
        have t6 : sh (ra (v0 + 39) v1.toNatClampNeg) = 7 := lay_ra ((lay_10_1 t_v0).1) ((lay_10_1 t_v0).2) (by decide) rfl b5
        refine q_aald (t := 5) E w ((lay_10_1 t_v0).1) (by decide) ((lay_10_1 t_v0).2) b5 dX10_again_29 ?_
        obtain ⟨h9, hc7, hf⟩ := bd1_e hf
        refine k_Vv (As := [.ref (ad G (ra (v0 + 39) v1.toNatClampNeg))]) (rest := []) E w (lay_10_0 t_v0) ⟨by decide, rfl⟩ (X7_copy_c (lay_10_0 t_v0) t6 hc7) mv_RX10_331 rfl rfl hl.1 ⟨Nat.le_of_ble_eq_true rfl, Nat.le_of_ble_eq_true rfl⟩ (Nat.le_of_ble_eq_true rfl) ⟨Nat.le_refl _, Nat.le_refl _⟩ dX10_again_30 (fun H locs w => ?_)
        refine lv_iconst (v := 1) E.1 E.2.1 dX10_again_33 rfl ?_
        have hf := Option.some.inj hf
        subst hf
        exact q_zret E w hr hlk dX10_again_34
      · have hf := q_pos c4 hf
        refine lv_iconst (v := 0) E.1 E.2.1 dX10_again_18 rfl ?_
        have hf := Option.some.inj hf
        subst hf
        exact q_zret E w hr hlk dX10_again_19
