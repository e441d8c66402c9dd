def X1_clear (N : Nat) (h : HS) (v0 : Nat) : Option HS := sq (wi h v0 0 0) fun h1 => sq (wi h1 v0 1 0) fun h2 => sq (wi h2 v0 2 0) fun h3 => sq (wi h3 v0 3 9) fun h4 => sq (wi h4 v0 4 0) fun h5 => some h5
set_option maxRecDepth 4000 in
set_option maxHeartbeats 2000000 in
theorem X1_clear_c {l : Launch} {G : GT} {N : Nat} {h : HS} {v0 : Nat} {z : HS} (t_v0 : sh v0 = 1) (hf : X1_clear N h v0 = some z) : CT l G yX1_clear cX1_clear 1 none 0 0 [.ref (ad G v0)] h none z := by
  unfold X1_clear at hf
  refine CT.of (by decide) (Nat.le_of_ble_eq_true rfl) ?_
  intro p e s m below meth c ls E hr hlk w hl
  have hl : lv_has ls 1 [(0, .ref (ad G v0))] := hl
  refine lv_aload_n E.1 E.2.1 dX1_clear_0 rfl (lv_at hl 0 rfl) ?_
  refine lv_iconst (v := 0) E.1 E.2.1 dX1_clear_1 rfl ?_
  refine p_pi E w t_v0 fl_RX1_9 (fp_1_0 _) dX1_clear_2 (fun h1 H locs eh w => ?_)
  have hf := sq_e eh hf
  clear eh
  refine lv_aload_n E.1 E.2.1 dX1_clear_5 rfl (lv_at hl 0 rfl) ?_
  refine lv_iconst (v := 0) E.1 E.2.1 dX1_clear_6 rfl ?_
  refine p_pi E w t_v0 fl_RX1_15 (fp_1_1 _) dX1_clear_7 (fun h2 H locs eh w => ?_)
  have hf := sq_e eh hf
  clear eh
  refine lv_aload_n E.1 E.2.1 dX1_clear_10 rfl (lv_at hl 0 rfl) ?_
  refine lv_iconst (v := 0) E.1 E.2.1 dX1_clear_11 rfl ?_
  refine p_pi E w t_v0 fl_RX1_18 (fp_1_2 _) dX1_clear_12 (fun h3 H locs eh w => ?_)
  have hf := sq_e eh hf
  clear eh
  refine lv_aload_n E.1 E.2.1 dX1_clear_15 rfl (lv_at hl 0 rfl) ?_
  refine lv_bipush (v := 9) E.1 E.2.1 dX1_clear_16 rfl ?_
  refine p_pi E w t_v0 fl_RX1_21 (fp_1_3 _) dX1_clear_18 (fun h4 H locs eh w => ?_)
  have hf := sq_e eh hf
  clear eh
  refine lv_aload_n E.1 E.2.1 dX1_clear_21 rfl (lv_at hl 0 rfl) ?_
  refine lv_iconst (v := 0) E.1 E.2.1 dX1_clear_22 rfl ?_
  refine p_pi E w t_v0 fl_RX1_24 (fp_1_4 _) dX1_clear_23 (fun h5 H locs eh w => ?_)
  have hf := sq_e eh hf
  clear eh
  have hf := Option.some.inj hf
  subst hf
  exact q_vret E w hr hlk dX1_clear_26

def X1_copy (N : Nat) (h : HS) (v0 : Nat) (v1 : Nat) : Option HS := sq (wi h v0 0 (h.1 v1 0)) fun h1 => sq (wi h1 v0 1 (h1.1 v1 1)) fun h2 => sq (wi h2 v0 2 (h2.1 v1 2)) fun h3 => sq (wi h3 v0 3 (h3.1 v1 3)) fun h4 => sq (wi h4 v0 4 (h4.1 v1 4)) fun h5 => sq (wa h5 (v0 + 1) (va_cpy (h5.1 (v1 + 1)) (h5.1 (v0 + 1)) 0 0 6)) fun h6 => sq (wa h6 (v0 + 2) (va_cpy (h6.1 (v1 + 2)) (h6.1 (v0 + 2)) 0 0 6)) fun h7 => sq (wa h7 (v0 + 3) (va_cpy (h7.1 (v1 + 3)) (h7.1 (v0 + 3)) 0 0 8)) fun h8 => sq (wa h8 (v0 + 4) (va_cpy (h8.1 (v1 + 4)) (h8.1 (v0 + 4)) 0 0 8)) fun h9 => sq (wa h9 (v0 + 5) (va_cpy (h9.1 (v1 + 5)) (h9.1 (v0 + 5)) 0 0 8)) fun h10 => sq (wa h10 (v0 + 6) (va_cpy (h10.1 (v1 + 6)) (h10.1 (v0 + 6)) 0 0 8)) fun h11 => sq (wa h11 (v0 + 7) (va_cpy (h11.1 (v1 + 7)) (h11.1 (v0 + 7)) 0 0 5)) fun h12 => sq (wa h12 (v0 + 8) (va_cpy (h12.1 (v1 + 8)) (h12.1 (v0 + 8)) 0 0 5)) fun h13 => sq (wa h13 (v0 + 9) (va_cpy (h13.1 (v1 + 9)) (h13.1 (v0 + 9)) 0 0 5)) fun h14 => some h14
set_option maxRecDepth 4000 in
set_option maxHeartbeats 2000000 in
theorem X1_copy_c {l : Launch} {G : GT} {N : Nat} {h : HS} {v0 : Nat} {v1 : Nat} {z : HS} (t_v0 : sh v0 = 1) (t_v1 : sh v1 = 1) (hf : X1_copy N h v0 v1 = some z) : CT l G yX1_copy cX1_copy 2 none 1 40 [.ref (ad G v0), .ref (ad G v1)] h none z := by
  unfold X1_copy at hf
  refine CT.of (by decide) (Nat.le_of_ble_eq_true rfl) ?_
  intro p e s m below meth c ls E hr hlk w hl
  have hl : lv_has ls 2 [(0, .ref (ad G v0)), (1, .ref (ad G v1))] := hl
  refine lv_aload_n E.1 E.2.1 dX1_copy_0 rfl (lv_at hl 0 rfl) ?_
  refine lv_aload_n E.1 E.2.1 dX1_copy_1 rfl (lv_at hl 1 rfl) ?_
  refine q_gi E w t_v1 fl_RX1_9 dX1_copy_2 ?_
  refine p_pi E w t_v0 fl_RX1_9 (fp_1_0 _) dX1_copy_5 (fun h1 H locs eh w => ?_)
  have hf := sq_e eh hf
  clear eh
  refine lv_aload_n E.1 E.2.1 dX1_copy_8 rfl (lv_at hl 0 rfl) ?_
  refine lv_aload_n E.1 E.2.1 dX1_copy_9 rfl (lv_at hl 1 rfl) ?_
  refine q_gi E w t_v1 fl_RX1_15 dX1_copy_10 ?_
  refine p_pi E w t_v0 fl_RX1_15 (fp_1_1 _) dX1_copy_13 (fun h2 H locs eh w => ?_)
  have hf := sq_e eh hf
  clear eh
  refine lv_aload_n E.1 E.2.1 dX1_copy_16 rfl (lv_at hl 0 rfl) ?_
  refine lv_aload_n E.1 E.2.1 dX1_copy_17 rfl (lv_at hl 1 rfl) ?_
  refine q_gi E w t_v1 fl_RX1_18 dX1_copy_18 ?_
  refine p_pi E w t_v0 fl_RX1_18 (fp_1_2 _) dX1_copy_21 (fun h3 H locs eh w => ?_)
  have hf := sq_e eh hf
  clear eh
  refine lv_aload_n E.1 E.2.1 dX1_copy_24 rfl (lv_at hl 0 rfl) ?_
  refine lv_aload_n E.1 E.2.1 dX1_copy_25 rfl (lv_at hl 1 rfl) ?_
  refine q_gi E w t_v1 fl_RX1_21 dX1_copy_26 ?_
  refine p_pi E w t_v0 fl_RX1_21 (fp_1_3 _) dX1_copy_29 (fun h4 H locs eh w => ?_)
  have hf := sq_e eh hf
  clear eh
  refine lv_aload_n E.1 E.2.1 dX1_copy_32 rfl (lv_at hl 0 rfl) ?_
  refine lv_aload_n E.1 E.2.1 dX1_copy_33 rfl (lv_at hl 1 rfl) ?_
  refine q_gi E w t_v1 fl_RX1_24 dX1_copy_34 ?_
  refine p_pi E w t_v0 fl_RX1_24 (fp_1_4 _) dX1_copy_37 (fun h5 H locs eh w => ?_)
  have hf := sq_e eh hf
  clear eh
  refine lv_aload_n E.1 E.2.1 dX1_copy_40 rfl (lv_at hl 1 rfl) ?_
  refine q_gs E w 1 t_v1 fl_RX1_27 dX1_copy_41 ?_
  refine lv_iconst (v := 0) E.1 E.2.1 dX1_copy_44 rfl ?_
  refine lv_aload_n E.1 E.2.1 dX1_copy_45 rfl (lv_at hl 0 rfl) ?_
  refine q_gs E w 1 t_v0 fl_RX1_27 dX1_copy_46 ?_
  refine lv_iconst (v := 0) E.1 E.2.1 dX1_copy_49 rfl ?_
  refine lv_bipush (v := 6) E.1 E.2.1 dX1_copy_50 rfl ?_
  refine p_copy E w (t := 1) (by decide) ((lay_1_5 t_v1).1) ((lay_1_5 t_v0).1) ((lay_1_5 t_v1).2) ((lay_1_5 t_v0).2) mc_RX1_55 hl.1 (sp := 0) (dp := 0) (n := 6) (by decide) (by decide) (by decide) (by decide) (by decide) ⟨Nat.le_of_ble_eq_true rfl, Nat.le_of_ble_eq_true rfl⟩ dX1_copy_52 (fun h6 H locs eh w => ?_)
  have hf := sq_e eh hf
  clear eh
  refine lv_aload_n E.1 E.2.1 dX1_copy_55 rfl (lv_at hl 1 rfl) ?_
  refine q_gs E w 2 t_v1 fl_RX1_31 dX1_copy_56 ?_
  refine lv_iconst (v := 0) E.1 E.2.1 dX1_copy_59 rfl ?_
  refine lv_aload_n E.1 E.2.1 dX1_copy_60 rfl (lv_at hl 0 rfl) ?_
  refine q_gs E w 2 t_v0 fl_RX1_31 dX1_copy_61 ?_
  refine lv_iconst (v := 0) E.1 E.2.1 dX1_copy_64 rfl ?_
  refine lv_bipush (v := 6) E.1 E.2.1 dX1_copy_65 rfl ?_
  refine p_copy E w (t := 1) (by decide) ((lay_1_6 t_v1).1) ((lay_1_6 t_v0).1) ((lay_1_6 t_v1).2) ((lay_1_6 t_v0).2) mc_RX1_55 hl.1 (sp := 0) (dp := 0) (n := 6) (by decide) (by decide) (by decide) (by decide) (by decide) ⟨Nat.le_of_ble_eq_true rfl, Nat.le_of_ble_eq_true rfl⟩ dX1_copy_67 (fun h7 H locs eh w => ?_)
  have hf := sq_e eh hf
  clear eh
  refine lv_aload_n E.1 E.2.1 dX1_copy_70 rfl (lv_at hl 1 rfl) ?_
  refine q_gs E w 3 t_v1 fl_RX1_34 dX1_copy_71 ?_
  refine lv_iconst (v := 0) E.1 E.2.1 dX1_copy_74 rfl ?_
  refine lv_aload_n E.1 E.2.1 dX1_copy_75 rfl (lv_at hl 0 rfl) ?_
  refine q_gs E w 3 t_v0 fl_RX1_34 dX1_copy_76 ?_
  refine lv_iconst (v := 0) E.1 E.2.1 dX1_copy_79 rfl ?_
  refine lv_bipush (v := 8) E.1 E.2.1 dX1_copy_80 rfl ?_
  refine p_copy E w (t := 1) (by decide) ((lay_1_7 t_v1).1) ((lay_1_7 t_v0).1) ((lay_1_7 t_v1).2) ((lay_1_7 t_v0).2) mc_RX1_55 hl.1 (sp := 0) (dp := 0) (n := 8) (by decide) (by decide) (by decide) (by decide) (by decide) ⟨Nat.le_of_ble_eq_true rfl, Nat.le_of_ble_eq_true rfl⟩ dX1_copy_82 (fun h8 H locs eh w => ?_)
  have hf := sq_e eh hf
  clear eh
  refine lv_aload_n E.1 E.2.1 dX1_copy_85 rfl (lv_at hl 1 rfl) ?_
  refine q_gs E w 4 t_v1 fl_RX1_37 dX1_copy_86 ?_
  refine lv_iconst (v := 0) E.1 E.2.1 dX1_copy_89 rfl ?_
  refine lv_aload_n E.1 E.2.1 dX1_copy_90 rfl (lv_at hl 0 rfl) ?_
  refine q_gs E w 4 t_v0 fl_RX1_37 dX1_copy_91 ?_
  refine lv_iconst (v := 0) E.1 E.2.1 dX1_copy_94 rfl ?_
  refine lv_bipush (v := 8) E.1 E.2.1 dX1_copy_95 rfl ?_
  refine p_copy E w (t := 1) (by decide) ((lay_1_8 t_v1).1) ((lay_1_8 t_v0).1) ((lay_1_8 t_v1).2) ((lay_1_8 t_v0).2) mc_RX1_55 hl.1 (sp := 0) (dp := 0) (n := 8) (by decide) (by decide) (by decide) (by decide) (by decide) ⟨Nat.le_of_ble_eq_true rfl, Nat.le_of_ble_eq_true rfl⟩ dX1_copy_97 (fun h9 H locs eh w => ?_)
  have hf := sq_e eh hf
  clear eh
  refine lv_aload_n E.1 E.2.1 dX1_copy_100 rfl (lv_at hl 1 rfl) ?_
  refine q_gs E w 5 t_v1 fl_RX1_40 dX1_copy_101 ?_
  refine lv_iconst (v := 0) E.1 E.2.1 dX1_copy_104 rfl ?_
  refine lv_aload_n E.1 E.2.1 dX1_copy_105 rfl (lv_at hl 0 rfl) ?_
  refine q_gs E w 5 t_v0 fl_RX1_40 dX1_copy_106 ?_
  refine lv_iconst (v := 0) E.1 E.2.1 dX1_copy_109 rfl ?_
  refine lv_bipush (v := 8) E.1 E.2.1 dX1_copy_110 rfl ?_
  refine p_copy E w (t := 1) (by decide) ((lay_1_9 t_v1).1) ((lay_1_9 t_v0).1) ((lay_1_9 t_v1).2) ((lay_1_9 t_v0).2) mc_RX1_55 hl.1 (sp := 0) (dp := 0) (n := 8) (by decide) (by decide) (by decide) (by decide) (by decide) ⟨Nat.le_of_ble_eq_true rfl, Nat.le_of_ble_eq_true rfl⟩ dX1_copy_112 (fun h10 H locs eh w => ?_)
  have hf := sq_e eh hf
  clear eh
  refine lv_aload_n E.1 E.2.1 dX1_copy_115 rfl (lv_at hl 1 rfl) ?_
  refine q_gs E w 6 t_v1 fl_RX1_43 dX1_copy_116 ?_
  refine lv_iconst (v := 0) E.1 E.2.1 dX1_copy_119 rfl ?_
  refine lv_aload_n E.1 E.2.1 dX1_copy_120 rfl (lv_at hl 0 rfl) ?_
  refine q_gs E w 6 t_v0 fl_RX1_43 dX1_copy_121 ?_
  refine lv_iconst (v := 0) E.1 E.2.1 dX1_copy_124 rfl ?_
  refine lv_bipush (v := 8) E.1 E.2.1 dX1_copy_125 rfl ?_
  refine p_copy E w (t := 1) (by decide) ((lay_1_10 t_v1).1) ((lay_1_10 t_v0).1) ((lay_1_10 t_v1).2) ((lay_1_10 t_v0).2) mc_RX1_55 hl.1 (sp := 0) (dp := 0) (n := 8) (by decide) (by decide) (by decide) (by decide) (by decide) ⟨Nat.le_of_ble_eq_true rfl, Nat.le_of_ble_eq_true rfl⟩ dX1_copy_127 (fun h11 H locs eh w => ?_)
  have hf := sq_e eh hf
  clear eh
  refine lv_aload_n E.1 E.2.1 dX1_copy_130 rfl (lv_at hl 1 rfl) ?_
  refine q_gs E w 7 t_v1 fl_RX1_46 dX1_copy_131 ?_
  refine lv_iconst (v := 0) E.1 E.2.1 dX1_copy_134 rfl ?_
  refine lv_aload_n E.1 E.2.1 dX1_copy_135 rfl (lv_at hl 0 rfl) ?_
  refine q_gs E w 7 t_v0 fl_RX1_46 dX1_copy_136 ?_
  refine lv_iconst (v := 0) E.1 E.2.1 dX1_copy_139 rfl ?_
  refine lv_iconst (v := 5) E.1 E.2.1 dX1_copy_140 rfl ?_
  refine p_copy E w (t := 1) (by decide) ((lay_1_11 t_v1).1) ((lay_1_11 t_v0).1) ((lay_1_11 t_v1).2) ((lay_1_11 t_v0).2) mc_RX1_55 hl.1 (sp := 0) (dp := 0) (n := 5) (by decide) (by decide) (by decide) (by decide) (by decide) ⟨Nat.le_of_ble_eq_true rfl, Nat.le_of_ble_eq_true rfl⟩ dX1_copy_141 (fun h12 H locs eh w => ?_)
  have hf := sq_e eh hf
  clear eh
  refine lv_aload_n E.1 E.2.1 dX1_copy_144 rfl (lv_at hl 1 rfl) ?_
  refine q_gs E w 8 t_v1 fl_RX1_49 dX1_copy_145 ?_
  refine lv_iconst (v := 0) E.1 E.2.1 dX1_copy_148 rfl ?_
  refine lv_aload_n E.1 E.2.1 dX1_copy_149 rfl (lv_at hl 0 rfl) ?_
  refine q_gs E w 8 t_v0 fl_RX1_49 dX1_copy_150 ?_
  refine lv_iconst (v := 0) E.1 E.2.1 dX1_copy_153 rfl ?_
  refine lv_iconst (v := 5) E.1 E.2.1 dX1_copy_154 rfl ?_
  refine p_copy E w (t := 1) (by decide) ((lay_1_12 t_v1).1) ((lay_1_12 t_v0).1) ((lay_1_12 t_v1).2) ((lay_1_12 t_v0).2) mc_RX1_55 hl.1 (sp := 0) (dp := 0) (n := 5) (by decide) (by decide) (by decide) (by decide) (by decide) ⟨Nat.le_of_ble_eq_true rfl, Nat.le_of_ble_eq_true rfl⟩ dX1_copy_155 (fun h13 H locs eh w => ?_)
  have hf := sq_e eh hf
  clear eh
  refine lv_aload_n E.1 E.2.1 dX1_copy_158 rfl (lv_at hl 1 rfl) ?_
  refine q_gs E w 9 t_v1 fl_RX1_52 dX1_copy_159 ?_
  refine lv_iconst (v := 0) E.1 E.2.1 dX1_copy_162 rfl ?_
  refine lv_aload_n E.1 E.2.1 dX1_copy_163 rfl (lv_at hl 0 rfl) ?_
  refine q_gs E w 9 t_v0 fl_RX1_52 dX1_copy_164 ?_
  refine lv_iconst (v := 0) E.1 E.2.1 dX1_copy_167 rfl ?_
  refine lv_iconst (v := 5) E.1 E.2.1 dX1_copy_168 rfl ?_
  refine p_copy E w (t := 1) (by decide) ((lay_1_13 t_v1).1) ((lay_1_13 t_v0).1) ((lay_1_13 t_v1).2) ((lay_1_13 t_v0).2) mc_RX1_55 hl.1 (sp := 0) (dp := 0) (n := 5) (by decide) (by decide) (by decide) (by decide) (by decide) ⟨Nat.le_of_ble_eq_true rfl, Nat.le_of_ble_eq_true rfl⟩ dX1_copy_169 (fun h14 H locs eh w => ?_)
  have hf := sq_e eh hf
  clear eh
  have hf := Option.some.inj hf
  subst hf
  exact q_vret E w hr hlk dX1_copy_172

def X1_addFloor (N : Nat) (h : HS) (v0 : Nat) (v1 : Int32) (v2 : Int32) : Option HS := (if (h.1 v0 0) < 0 then some h else (if (6 : Int32) ≤ (h.1 v0 0) then some h else (if (h.1 v0 0) < 0 ∨ 6 ≤ (h.1 v0 0).toNatClampNeg then none else sq (wi h (v0 + 1) (h.1 v0 0).toNatClampNeg v1) fun h4 => (if (h4.1 v0 0) < 0 ∨ 6 ≤ (h4.1 v0 0).toNatClampNeg then none else sq (wi h4 (v0 + 2) (h4.1 v0 0).toNatClampNeg v2) fun h6 => sq (wi h6 v0 0 ((h6.1 v0 0) + 1)) fun h7 => some h7))))
set_option maxRecDepth 4000 in
set_option maxHeartbeats 2000000 in
theorem X1_addFloor_c {l : Launch} {G : GT} {N : Nat} {h : HS} {v0 : Nat} {v1 : Int32} {v2 : Int32} {z : HS} (t_v0 : sh v0 = 1) (hf : X1_addFloor N h v0 v1 v2 = some z) : CT l G yX1_addFloor cX1_addFloor 3 none 0 0 [.ref (ad G v0), .int v1, .int v2] h none z := by
  unfold X1_addFloor at hf
  refine CT.of (by decide) (Nat.le_of_ble_eq_true rfl) ?_
  intro p e s m below meth c ls E hr hlk w hl
  have hl : lv_has ls 3 [(0, .ref (ad G v0)), (1, .int v1), (2, .int v2)] := hl
  refine lv_aload_n E.1 E.2.1 dX1_addFloor_0 rfl (lv_at hl 0 rfl) ?_
  refine q_gi E w t_v0 fl_RX1_9 dX1_addFloor_1 ?_
  refine lv_if_lt (tgt := 46) E.1 E.2.1 dX1_addFloor_4 (by decide) (fun c1 => ?_) (fun c1 => ?_)
  · have hf := q_pos c1 hf
    have hf := Option.some.inj hf
    subst hf
    exact q_vret E w hr hlk dX1_addFloor_46
  · have hf := q_neg c1 hf
    refine lv_aload_n E.1 E.2.1 dX1_addFloor_7 rfl (lv_at hl 0 rfl) ?_
    refine q_gi E w t_v0 fl_RX1_9 dX1_addFloor_8 ?_
    refine lv_bipush (v := 6) E.1 E.2.1 dX1_addFloor_11 rfl ?_
    refine lv_icmp_ge (tgt := 46) E.1 E.2.1 dX1_addFloor_13 (by decide) (fun c2 => ?_) (fun c2 => ?_)
    · have hf := q_pos c2 hf
      have hf := Option.some.inj hf
      subst hf
      exact q_vret E w hr hlk dX1_addFloor_46
    · have hf := q_neg c2 hf
      refine lv_aload_n E.1 E.2.1 dX1_addFloor_16 rfl (lv_at hl 0 rfl) ?_
      refine q_gs E w 1 t_v0 fl_RX1_27 dX1_addFloor_17 ?_
      refine lv_aload_n E.1 E.2.1 dX1_addFloor_20 rfl (lv_at hl 0 rfl) ?_
      refine q_gi E w t_v0 fl_RX1_9 dX1_addFloor_21 ?_
      refine lv_iload_n E.1 E.2.1 dX1_addFloor_24 rfl (lv_at hl 1 rfl) ?_
      obtain ⟨b3, hf⟩ := q_if hf
      refine p_iast E w ((lay_1_5 t_v0).1) ((lay_1_5 t_v0).2) b3 dX1_addFloor_25 (fun h4 H locs eh w => ?_)
      have hf := sq_e eh hf
      clear eh
      refine lv_aload_n E.1 E.2.1 dX1_addFloor_26 rfl (lv_at hl 0 rfl) ?_
      refine q_gs E w 2 t_v0 fl_RX1_31 dX1_addFloor_27 ?_
      refine lv_aload_n E.1 E.2.1 dX1_addFloor_30 rfl (lv_at hl 0 rfl) ?_
      refine q_gi E w t_v0 fl_RX1_9 dX1_addFloor_31 ?_
      refine lv_iload_n E.1 E.2.1 dX1_addFloor_34 rfl (lv_at hl 2 rfl) ?_
      obtain ⟨b5, hf⟩ := q_if hf
      refine p_iast E w ((lay_1_6 t_v0).1) ((lay_1_6 t_v0).2) b5 dX1_addFloor_35 (fun h6 H locs eh w => ?_)
      have hf := sq_e eh hf
      clear eh
      refine lv_aload_n E.1 E.2.1 dX1_addFloor_36 rfl (lv_at hl 0 rfl) ?_
      refine lv_dup E.1 E.2.1 dX1_addFloor_37 rfl ?_
      refine q_gi E w t_v0 fl_RX1_9 dX1_addFloor_38 ?_
      refine lv_iconst (v := 1) E.1 E.2.1 dX1_addFloor_41 rfl ?_
      refine lv_iadd E.1 E.2.1 dX1_addFloor_42 ?_
      refine p_pi E w t_v0 fl_RX1_9 (fp_1_0 _) dX1_addFloor_43 (fun h7 H locs eh w => ?_)
      have hf := sq_e eh hf
      clear eh
      have hf := Option.some.inj hf
      subst hf
      exact q_vret E w hr hlk dX1_addFloor_46

def X1_addBar (N : Nat) (h : HS) (v0 : Nat) (v1 : Int32) (v2 : Int32) (v3 : Int32) (v4 : Int32) : Option HS := (if (h.1 v0 1) < 0 then some h else (if (8 : Int32) ≤ (h.1 v0 1) then some h else (if (h.1 v0 1) < 0 ∨ 8 ≤ (h.1 v0 1).toNatClampNeg then none else sq (wi h (v0 + 3) (h.1 v0 1).toNatClampNeg v1) fun h4 => (if (h4.1 v0 1) < 0 ∨ 8 ≤ (h4.1 v0 1).toNatClampNeg then none else sq (wi h4 (v0 + 4) (h4.1 v0 1).toNatClampNeg v2) fun h6 => (if (h6.1 v0 1) < 0 ∨ 8 ≤ (h6.1 v0 1).toNatClampNeg then none else sq (wi h6 (v0 + 5) (h6.1 v0 1).toNatClampNeg v3) fun h8 => (if (h8.1 v0 1) < 0 ∨ 8 ≤ (h8.1 v0 1).toNatClampNeg then none else sq (wi h8 (v0 + 6) (h8.1 v0 1).toNatClampNeg v4) fun h10 => sq (wi h10 v0 1 ((h10.1 v0 1) + 1)) fun h11 => some h11))))))
set_option maxRecDepth 4000 in
set_option maxHeartbeats 2000000 in
theorem X1_addBar_c {l : Launch} {G : GT} {N : Nat} {h : HS} {v0 : Nat} {v1 : Int32} {v2 : Int32} {v3 : Int32} {v4 : Int32} {z : HS} (t_v0 : sh v0 = 1) (hf : X1_addBar N h v0 v1 v2 v3 v4 = some z) : CT l G yX1_addBar cX1_addBar 5 none 0 0 [.ref (ad G v0), .int v1, .int v2, .int v3, .int v4] h none z := by
  unfold X1_addBar at hf
  refine CT.of (by decide) (Nat.le_of_ble_eq_true rfl) ?_
  intro p e s m below meth c ls E hr hlk w hl
  have hl : lv_has ls 5 [(0, .ref (ad G v0)), (1, .int v1), (2, .int v2), (3, .int v3), (4, .int v4)] := hl
  refine lv_aload_n E.1 E.2.1 dX1_addBar_0 rfl (lv_at hl 0 rfl) ?_
  refine q_gi E w t_v0 fl_RX1_15 dX1_addBar_1 ?_
  refine lv_if_lt (tgt := 67) E.1 E.2.1 dX1_addBar_4 (by decide) (fun c1 => ?_) (fun c1 => ?_)
  · have hf := q_pos c1 hf
    have hf := Option.some.inj hf
    subst hf
    exact q_vret E w hr hlk dX1_addBar_67
  · have hf := q_neg c1 hf
    refine lv_aload_n E.1 E.2.1 dX1_addBar_7 rfl (lv_at hl 0 rfl) ?_
    refine q_gi E w t_v0 fl_RX1_15 dX1_addBar_8 ?_
    refine lv_bipush (v := 8) E.1 E.2.1 dX1_addBar_11 rfl ?_
    refine lv_icmp_ge (tgt := 67) E.1 E.2.1 dX1_addBar_13 (by decide) (fun c2 => ?_) (fun c2 => ?_)
    · have hf := q_pos c2 hf
      have hf := Option.some.inj hf
      subst hf
      exact q_vret E w hr hlk dX1_addBar_67
    · have hf := q_neg c2 hf
      refine lv_aload_n E.1 E.2.1 dX1_addBar_16 rfl (lv_at hl 0 rfl) ?_
      refine q_gs E w 3 t_v0 fl_RX1_34 dX1_addBar_17 ?_
      refine lv_aload_n E.1 E.2.1 dX1_addBar_20 rfl (lv_at hl 0 rfl) ?_
      refine q_gi E w t_v0 fl_RX1_15 dX1_addBar_21 ?_
      refine lv_iload_n E.1 E.2.1 dX1_addBar_24 rfl (lv_at hl 1 rfl) ?_
      obtain ⟨b3, hf⟩ := q_if hf
      refine p_iast E w ((lay_1_7 t_v0).1) ((lay_1_7 t_v0).2) b3 dX1_addBar_25 (fun h4 H locs eh w => ?_)
      have hf := sq_e eh hf
      clear eh
      refine lv_aload_n E.1 E.2.1 dX1_addBar_26 rfl (lv_at hl 0 rfl) ?_
      refine q_gs E w 4 t_v0 fl_RX1_37 dX1_addBar_27 ?_
      refine lv_aload_n E.1 E.2.1 dX1_addBar_30 rfl (lv_at hl 0 rfl) ?_
      refine q_gi E w t_v0 fl_RX1_15 dX1_addBar_31 ?_
      refine lv_iload_n E.1 E.2.1 dX1_addBar_34 rfl (lv_at hl 2 rfl) ?_
      obtain ⟨b5, hf⟩ := q_if hf
      refine p_iast E w ((lay_1_8 t_v0).1) ((lay_1_8 t_v0).2) b5 dX1_addBar_35 (fun h6 H locs eh w => ?_)
      have hf := sq_e eh hf
      clear eh
      refine lv_aload_n E.1 E.2.1 dX1_addBar_36 rfl (lv_at hl 0 rfl) ?_
      refine q_gs E w 5 t_v0 fl_RX1_40 dX1_addBar_37 ?_
      refine lv_aload_n E.1 E.2.1 dX1_addBar_40 rfl (lv_at hl 0 rfl) ?_
      refine q_gi E w t_v0 fl_RX1_15 dX1_addBar_41 ?_
      refine lv_iload_n E.1 E.2.1 dX1_addBar_44 rfl (lv_at hl 3 rfl) ?_
      obtain ⟨b7, hf⟩ := q_if hf
      refine p_iast E w ((lay_1_9 t_v0).1) ((lay_1_9 t_v0).2) b7 dX1_addBar_45 (fun h8 H locs eh w => ?_)
      have hf := sq_e eh hf
      clear eh
      refine lv_aload_n E.1 E.2.1 dX1_addBar_46 rfl (lv_at hl 0 rfl) ?_
      refine q_gs E w 6 t_v0 fl_RX1_43 dX1_addBar_47 ?_
      refine lv_aload_n E.1 E.2.1 dX1_addBar_50 rfl (lv_at hl 0 rfl) ?_
      refine q_gi E w t_v0 fl_RX1_15 dX1_addBar_51 ?_
      refine lv_iload E.1 E.2.1 dX1_addBar_54 (lv_at hl 4 rfl) ?_
      obtain ⟨b9, hf⟩ := q_if hf
      refine p_iast E w ((lay_1_10 t_v0).1) ((lay_1_10 t_v0).2) b9 dX1_addBar_56 (fun h10 H locs eh w => ?_)
      have hf := sq_e eh hf
      clear eh
      refine lv_aload_n E.1 E.2.1 dX1_addBar_57 rfl (lv_at hl 0 rfl) ?_
      refine lv_dup E.1 E.2.1 dX1_addBar_58 rfl ?_
      refine q_gi E w t_v0 fl_RX1_15 dX1_addBar_59 ?_
      refine lv_iconst (v := 1) E.1 E.2.1 dX1_addBar_62 rfl ?_
      refine lv_iadd E.1 E.2.1 dX1_addBar_63 ?_
      refine p_pi E w t_v0 fl_RX1_15 (fp_1_1 _) dX1_addBar_64 (fun h11 H locs eh w => ?_)
      have hf := sq_e eh hf
      clear eh
      have hf := Option.some.inj hf
      subst hf
      exact q_vret E w hr hlk dX1_addBar_67

def X1_addSinger (N : Nat) (h : HS) (v0 : Nat) (v1 : Int32) (v2 : Int32) (v3 : Int32) : Option HS := (if (h.1 v0 2) < 0 then some h else (if (5 : Int32) ≤ (h.1 v0 2) then some h else (if (h.1 v0 2) < 0 ∨ 5 ≤ (h.1 v0 2).toNatClampNeg then none else sq (wi h (v0 + 7) (h.1 v0 2).toNatClampNeg v1) fun h4 => (if (h4.1 v0 2) < 0 ∨ 5 ≤ (h4.1 v0 2).toNatClampNeg then none else sq (wi h4 (v0 + 8) (h4.1 v0 2).toNatClampNeg v2) fun h6 => (if (h6.1 v0 2) < 0 ∨ 5 ≤ (h6.1 v0 2).toNatClampNeg then none else sq (wi h6 (v0 + 9) (h6.1 v0 2).toNatClampNeg v3) fun h8 => sq (wi h8 v0 2 ((h8.1 v0 2) + 1)) fun h9 => some h9)))))
set_option maxRecDepth 4000 in
set_option maxHeartbeats 2000000 in
theorem X1_addSinger_c {l : Launch} {G : GT} {N : Nat} {h : HS} {v0 : Nat} {v1 : Int32} {v2 : Int32} {v3 : Int32} {z : HS} (t_v0 : sh v0 = 1) (hf : X1_addSinger N h v0 v1 v2 v3 = some z) : CT l G yX1_addSinger cX1_addSinger 4 none 0 0 [.ref (ad G v0), .int v1, .int v2, .int v3] h none z := by
  unfold X1_addSinger at hf
  refine CT.of (by decide) (Nat.le_of_ble_eq_true rfl) ?_
  intro p e s m below meth c ls E hr hlk w hl
  have hl : lv_has ls 4 [(0, .ref (ad G v0)), (1, .int v1), (2, .int v2), (3, .int v3)] := hl
  refine lv_aload_n E.1 E.2.1 dX1_addSinger_0 rfl (lv_at hl 0 rfl) ?_
  refine q_gi E w t_v0 fl_RX1_18 dX1_addSinger_1 ?_
  refine lv_if_lt (tgt := 55) E.1 E.2.1 dX1_addSinger_4 (by decide) (fun c1 => ?_) (fun c1 => ?_)
  · have hf := q_pos c1 hf
    have hf := Option.some.inj hf
    subst hf
    exact q_vret E w hr hlk dX1_addSinger_55
  · have hf := q_neg c1 hf
    refine lv_aload_n E.1 E.2.1 dX1_addSinger_7 rfl (lv_at hl 0 rfl) ?_
    refine q_gi E w t_v0 fl_RX1_18 dX1_addSinger_8 ?_
    refine lv_iconst (v := 5) E.1 E.2.1 dX1_addSinger_11 rfl ?_
    refine lv_icmp_ge (tgt := 55) E.1 E.2.1 dX1_addSinger_12 (by decide) (fun c2 => ?_) (fun c2 => ?_)
    · have hf := q_pos c2 hf
      have hf := Option.some.inj hf
      subst hf
      exact q_vret E w hr hlk dX1_addSinger_55
    · have hf := q_neg c2 hf
      refine lv_aload_n E.1 E.2.1 dX1_addSinger_15 rfl (lv_at hl 0 rfl) ?_
      refine q_gs E w 7 t_v0 fl_RX1_46 dX1_addSinger_16 ?_
      refine lv_aload_n E.1 E.2.1 dX1_addSinger_19 rfl (lv_at hl 0 rfl) ?_
      refine q_gi E w t_v0 fl_RX1_18 dX1_addSinger_20 ?_
      refine lv_iload_n E.1 E.2.1 dX1_addSinger_23 rfl (lv_at hl 1 rfl) ?_
      obtain ⟨b3, hf⟩ := q_if hf
      refine p_iast E w ((lay_1_11 t_v0).1) ((lay_1_11 t_v0).2) b3 dX1_addSinger_24 (fun h4 H locs eh w => ?_)
      have hf := sq_e eh hf
      clear eh
      refine lv_aload_n E.1 E.2.1 dX1_addSinger_25 rfl (lv_at hl 0 rfl) ?_
      refine q_gs E w 8 t_v0 fl_RX1_49 dX1_addSinger_26 ?_
      refine lv_aload_n E.1 E.2.1 dX1_addSinger_29 rfl (lv_at hl 0 rfl) ?_
      refine q_gi E w t_v0 fl_RX1_18 dX1_addSinger_30 ?_
      refine lv_iload_n E.1 E.2.1 dX1_addSinger_33 rfl (lv_at hl 2 rfl) ?_
      obtain ⟨b5, hf⟩ := q_if hf
      refine p_iast E w ((lay_1_12 t_v0).1) ((lay_1_12 t_v0).2) b5 dX1_addSinger_34 (fun h6 H locs eh w => ?_)
      have hf := sq_e eh hf
      clear eh
      refine lv_aload_n E.1 E.2.1 dX1_addSinger_35 rfl (lv_at hl 0 rfl) ?_
      refine q_gs E w 9 t_v0 fl_RX1_52 dX1_addSinger_36 ?_
      refine lv_aload_n E.1 E.2.1 dX1_addSinger_39 rfl (lv_at hl 0 rfl) ?_
      refine q_gi E w t_v0 fl_RX1_18 dX1_addSinger_40 ?_
      refine lv_iload_n E.1 E.2.1 dX1_addSinger_43 rfl (lv_at hl 3 rfl) ?_
      obtain ⟨b7, hf⟩ := q_if hf
      refine p_iast E w ((lay_1_13 t_v0).1) ((lay_1_13 t_v0).2) b7 dX1_addSinger_44 (fun h8 H locs eh w => ?_)
      have hf := sq_e eh hf
      clear eh
      refine lv_aload_n E.1 E.2.1 dX1_addSinger_45 rfl (lv_at hl 0 rfl) ?_
      refine lv_dup E.1 E.2.1 dX1_addSinger_46 rfl ?_
      refine q_gi E w t_v0 fl_RX1_18 dX1_addSinger_47 ?_
      refine lv_iconst (v := 1) E.1 E.2.1 dX1_addSinger_50 rfl ?_
      refine lv_iadd E.1 E.2.1 dX1_addSinger_51 ?_
      refine p_pi E w t_v0 fl_RX1_18 (fp_1_2 _) dX1_addSinger_52 (fun h9 H locs eh w => ?_)
      have hf := sq_e eh hf
      clear eh
      have hf := Option.some.inj hf
      subst hf
      exact q_vret E w hr hlk dX1_addSinger_55

def X1_hasFloor (N : Nat) (h : HS) (v0 : Nat) (v1 : Int32) : Option Int32 := (if v1 < 0 then some (nz 0) else (if (h.1 v0 0) ≤ v1 then some (nz 0) else (if (6 : Int32) ≤ v1 then some (nz 0) else some (nz 1))))
set_option maxRecDepth 4000 in
set_option maxHeartbeats 2000000 in
theorem X1_hasFloor_c {l : Launch} {G : GT} {N : Nat} {h : HS} {v0 : Nat} {v1 : Int32} {z : Int32} (t_v0 : sh v0 = 1) (hf : X1_hasFloor N h v0 v1 = some z) : CT l G yX1_hasFloor cX1_hasFloor 2 (some .boolean) 0 0 [.ref (ad G v0), .int v1] h (some (.int z)) h := by
  unfold X1_hasFloor at hf
  refine CT.of (by decide) (Nat.le_of_ble_eq_true rfl) ?_
  intro p e s m below meth c ls E hr hlk w hl
  have hl : lv_has ls 2 [(0, .ref (ad G v0)), (1, .int v1)] := hl
  refine lv_iload_n E.1 E.2.1 dX1_hasFloor_0 rfl (lv_at hl 1 rfl) ?_
  refine lv_if_lt (tgt := 22) E.1 E.2.1 dX1_hasFloor_1 (by decide) (fun c1 => ?_) (fun c1 => ?_)
  · have hf := q_pos c1 hf
    refine lv_iconst (v := 0) E.1 E.2.1 dX1_hasFloor_22 rfl ?_
    have hf := Option.some.inj hf
    subst hf
    exact q_zret E w hr hlk dX1_hasFloor_23
  · have hf := q_neg c1 hf
    refine lv_iload_n E.1 E.2.1 dX1_hasFloor_4 rfl (lv_at hl 1 rfl) ?_
    refine lv_aload_n E.1 E.2.1 dX1_hasFloor_5 rfl (lv_at hl 0 rfl) ?_
    refine q_gi E w t_v0 fl_RX1_9 dX1_hasFloor_6 ?_
    refine lv_icmp_ge (tgt := 22) E.1 E.2.1 dX1_hasFloor_9 (by decide) (fun c2 => ?_) (fun c2 => ?_)
    · have hf := q_pos c2 hf
      refine lv_iconst (v := 0) E.1 E.2.1 dX1_hasFloor_22 rfl ?_
      have hf := Option.some.inj hf
      subst hf
      exact q_zret E w hr hlk dX1_hasFloor_23
    · have hf := q_neg c2 hf
      refine lv_iload_n E.1 E.2.1 dX1_hasFloor_12 rfl (lv_at hl 1 rfl) ?_
      refine lv_bipush (v := 6) E.1 E.2.1 dX1_hasFloor_13 rfl ?_
      refine lv_icmp_ge (tgt := 22) E.1 E.2.1 dX1_hasFloor_15 (by decide) (fun c3 => ?_) (fun c3 => ?_)
      · have hf := q_pos c3 hf
        refine lv_iconst (v := 0) E.1 E.2.1 dX1_hasFloor_22 rfl ?_
        have hf := Option.some.inj hf
        subst hf
        exact q_zret E w hr hlk dX1_hasFloor_23
      · have hf := q_neg c3 hf
        refine lv_iconst (v := 1) E.1 E.2.1 dX1_hasFloor_18 rfl ?_
        refine lv_goto (tgt := 23) E.1 E.2.1 dX1_hasFloor_19 (by decide) ?_
        have hf := Option.some.inj hf
        subst hf
        exact q_zret E w hr hlk dX1_hasFloor_23

def X1_hasBar (N : Nat) (h : HS) (v0 : Nat) (v1 : Int32) : Option Int32 := (if v1 < 0 then some (nz 0) else (if (h.1 v0 1) ≤ v1 then some (nz 0) else (if (8 : Int32) ≤ v1 then some (nz 0) else some (nz 1))))
set_option maxRecDepth 4000 in
set_option maxHeartbeats 2000000 in
theorem X1_hasBar_c {l : Launch} {G : GT} {N : Nat} {h : HS} {v0 : Nat} {v1 : Int32} {z : Int32} (t_v0 : sh v0 = 1) (hf : X1_hasBar N h v0 v1 = some z) : CT l G yX1_hasBar cX1_hasBar 2 (some .boolean) 0 0 [.ref (ad G v0), .int v1] h (some (.int z)) h := by
  unfold X1_hasBar at hf
  refine CT.of (by decide) (Nat.le_of_ble_eq_true rfl) ?_
  intro p e s m below meth c ls E hr hlk w hl
  have hl : lv_has ls 2 [(0, .ref (ad G v0)), (1, .int v1)] := hl
  refine lv_iload_n E.1 E.2.1 dX1_hasBar_0 rfl (lv_at hl 1 rfl) ?_
  refine lv_if_lt (tgt := 22) E.1 E.2.1 dX1_hasBar_1 (by decide) (fun c1 => ?_) (fun c1 => ?_)
  · have hf := q_pos c1 hf
    refine lv_iconst (v := 0) E.1 E.2.1 dX1_hasBar_22 rfl ?_
    have hf := Option.some.inj hf
    subst hf
    exact q_zret E w hr hlk dX1_hasBar_23
  · have hf := q_neg c1 hf
    refine lv_iload_n E.1 E.2.1 dX1_hasBar_4 rfl (lv_at hl 1 rfl) ?_
    refine lv_aload_n E.1 E.2.1 dX1_hasBar_5 rfl (lv_at hl 0 rfl) ?_
    refine q_gi E w t_v0 fl_RX1_15 dX1_hasBar_6 ?_
    refine lv_icmp_ge (tgt := 22) E.1 E.2.1 dX1_hasBar_9 (by decide) (fun c2 => ?_) (fun c2 => ?_)
    · have hf := q_pos c2 hf
      refine lv_iconst (v := 0) E.1 E.2.1 dX1_hasBar_22 rfl ?_
      have hf := Option.some.inj hf
      subst hf
      exact q_zret E w hr hlk dX1_hasBar_23
    · have hf := q_neg c2 hf
      refine lv_iload_n E.1 E.2.1 dX1_hasBar_12 rfl (lv_at hl 1 rfl) ?_
      refine lv_bipush (v := 8) E.1 E.2.1 dX1_hasBar_13 rfl ?_
      refine lv_icmp_ge (tgt := 22) E.1 E.2.1 dX1_hasBar_15 (by decide) (fun c3 => ?_) (fun c3 => ?_)
      · have hf := q_pos c3 hf
        refine lv_iconst (v := 0) E.1 E.2.1 dX1_hasBar_22 rfl ?_
        have hf := Option.some.inj hf
        subst hf
        exact q_zret E w hr hlk dX1_hasBar_23
      · have hf := q_neg c3 hf
        refine lv_iconst (v := 1) E.1 E.2.1 dX1_hasBar_18 rfl ?_
        refine lv_goto (tgt := 23) E.1 E.2.1 dX1_hasBar_19 (by decide) ?_
        have hf := Option.some.inj hf
        subst hf
        exact q_zret E w hr hlk dX1_hasBar_23

def X1_hasSinger (N : Nat) (h : HS) (v0 : Nat) (v1 : Int32) : Option Int32 := (if v1 < 0 then some (nz 0) else (if (h.1 v0 2) ≤ v1 then some (nz 0) else (if (5 : Int32) ≤ v1 then some (nz 0) else some (nz 1))))
set_option maxRecDepth 4000 in
set_option maxHeartbeats 2000000 in
theorem X1_hasSinger_c {l : Launch} {G : GT} {N : Nat} {h : HS} {v0 : Nat} {v1 : Int32} {z : Int32} (t_v0 : sh v0 = 1) (hf : X1_hasSinger N h v0 v1 = some z) : CT l G yX1_hasSinger cX1_hasSinger 2 (some .boolean) 0 0 [.ref (ad G v0), .int v1] h (some (.int z)) h := by
  unfold X1_hasSinger at hf
  refine CT.of (by decide) (Nat.le_of_ble_eq_true rfl) ?_
  intro p e s m below meth c ls E hr hlk w hl
  have hl : lv_has ls 2 [(0, .ref (ad G v0)), (1, .int v1)] := hl
  refine lv_iload_n E.1 E.2.1 dX1_hasSinger_0 rfl (lv_at hl 1 rfl) ?_
  refine lv_if_lt (tgt := 21) E.1 E.2.1 dX1_hasSinger_1 (by decide) (fun c1 => ?_) (fun c1 => ?_)
  · have hf := q_pos c1 hf
    refine lv_iconst (v := 0) E.1 E.2.1 dX1_hasSinger_21 rfl ?_
    have hf := Option.some.inj hf
    subst hf
    exact q_zret E w hr hlk dX1_hasSinger_22
  · have hf := q_neg c1 hf
    refine lv_iload_n E.1 E.2.1 dX1_hasSinger_4 rfl (lv_at hl 1 rfl) ?_
    refine lv_aload_n E.1 E.2.1 dX1_hasSinger_5 rfl (lv_at hl 0 rfl) ?_
    refine q_gi E w t_v0 fl_RX1_18 dX1_hasSinger_6 ?_
    refine lv_icmp_ge (tgt := 21) E.1 E.2.1 dX1_hasSinger_9 (by decide) (fun c2 => ?_) (fun c2 => ?_)
    · have hf := q_pos c2 hf
      refine lv_iconst (v := 0) E.1 E.2.1 dX1_hasSinger_21 rfl ?_
      have hf := Option.some.inj hf
      subst hf
      exact q_zret E w hr hlk dX1_hasSinger_22
    · have hf := q_neg c2 hf
      refine lv_iload_n E.1 E.2.1 dX1_hasSinger_12 rfl (lv_at hl 1 rfl) ?_
      refine lv_iconst (v := 5) E.1 E.2.1 dX1_hasSinger_13 rfl ?_
      refine lv_icmp_ge (tgt := 21) E.1 E.2.1 dX1_hasSinger_14 (by decide) (fun c3 => ?_) (fun c3 => ?_)
      · have hf := q_pos c3 hf
        refine lv_iconst (v := 0) E.1 E.2.1 dX1_hasSinger_21 rfl ?_
        have hf := Option.some.inj hf
        subst hf
        exact q_zret E w hr hlk dX1_hasSinger_22
      · have hf := q_neg c3 hf
        refine lv_iconst (v := 1) E.1 E.2.1 dX1_hasSinger_17 rfl ?_
        refine lv_goto (tgt := 22) E.1 E.2.1 dX1_hasSinger_18 (by decide) ?_
        have hf := Option.some.inj hf
        subst hf
        exact q_zret E w hr hlk dX1_hasSinger_22

def X1_isWhole_l2 (N : Nat) (h : HS) : Nat → Nat → Int32 → Option Int32
  | 0, _, _ => none
  | n + 1, v0, v1 => (if (h.1 v0 1) ≤ v1 then (if ((h.1 v0 4) >>> ((h.1 v0 1) &&& 31)) = 0 then some (nz 1) else some (nz 0)) else (if (8 : Int32) ≤ v1 then (if ((h.1 v0 4) >>> ((h.1 v0 1) &&& 31)) = 0 then some (nz 1) else some (nz 0)) else (if v1 < 0 ∨ 8 ≤ v1.toNatClampNeg then none else (if (h.1 (v0 + 5) v1.toNatClampNeg) < (h.1 v0 0) then X1_isWhole_l2 N h n v0 (v1 + 1) else some (nz 0)))))
set_option maxRecDepth 4000 in
set_option maxHeartbeats 2000000 in
theorem X1_isWhole_l2_w {p : Program} {l : Launch} {e : Env} {s : State} {m : MethodId} {args : Array Value} {below : List Frame} {meth : Method} {c : Code} {G : GT} {N : Nat} {h : HS} {z : Int32} (E : CallFix p m c cX1_isWhole 2 s args UW RX1) (hr : meth.sig.returnType = (some .boolean)) (hlk : meth.locks = false) : ∀ (n : Nat) (H : Heap) (locs : List Loc) (ls : Array Slot) (v0 : Nat) (v1 : Int32), X1_isWhole_l2 N h n v0 v1 = some z → WD G s h H locs → sh v0 = 1 → lv_has ls 2 [(0, .ref (ad G v0)), (1, .int v1)] → W p l e ({ frames := 0, cells := 0, slots := 0, locals := 0 } : Room) s m args below meth c H locs 0 0 (MQ below (QC G (some (.int z)) h) args s 0 0 (AD G)) (F0 m 2 ls []) := by
  intro n
  induction n with
  | zero =>
    intro H locs ls v0 v1 hf
    cases hf
  | succ n ih =>
    intro H locs ls v0 v1 hf w t_v0 hl
    unfold X1_isWhole_l2 at hf
    refine lv_iload_n E.1 E.2.1 dX1_isWhole_2 rfl (lv_at hl 1 rfl) ?_
    refine lv_aload_n E.1 E.2.1 dX1_isWhole_3 rfl (lv_at hl 0 rfl) ?_
    refine q_gi E w t_v0 fl_RX1_15 dX1_isWhole_4 ?_
    refine lv_icmp_ge (tgt := 37) E.1 E.2.1 dX1_isWhole_7 (by decide) (fun c1 => ?_) (fun c1 => ?_)
    · have hf := q_pos c1 hf
      refine lv_aload_n E.1 E.2.1 dX1_isWhole_37 rfl (lv_at hl 0 rfl) ?_
      refine q_gi E w t_v0 fl_RX1_24 dX1_isWhole_38 ?_
      refine lv_aload_n E.1 E.2.1 dX1_isWhole_41 rfl (lv_at hl 0 rfl) ?_
      refine q_gi E w t_v0 fl_RX1_15 dX1_isWhole_42 ?_
      refine lv_ishr E.1 E.2.1 dX1_isWhole_45 ?_
      refine lv_if_ne (tgt := 53) E.1 E.2.1 dX1_isWhole_46 (by decide) (fun c2 => ?_) (fun c2 => ?_)
      · have hf := q_neg c2 hf
        refine lv_iconst (v := 0) E.1 E.2.1 dX1_isWhole_53 rfl ?_
        have hf := Option.some.inj hf
        subst hf
        exact q_zret E w hr hlk dX1_isWhole_54
      · have hf := q_pos c2 hf
        refine lv_iconst (v := 1) E.1 E.2.1 dX1_isWhole_49 rfl ?_
        refine lv_goto (tgt := 54) E.1 E.2.1 dX1_isWhole_50 (by decide) ?_
        have hf := Option.some.inj hf
        subst hf
        exact q_zret E w hr hlk dX1_isWhole_54
    · have hf := q_neg c1 hf
      refine lv_iload_n E.1 E.2.1 dX1_isWhole_10 rfl (lv_at hl 1 rfl) ?_
      refine lv_bipush (v := 8) E.1 E.2.1 dX1_isWhole_11 rfl ?_
      refine lv_icmp_ge (tgt := 37) E.1 E.2.1 dX1_isWhole_13 (by decide) (fun c3 => ?_) (fun c3 => ?_)
      · have hf := q_pos c3 hf
        refine lv_aload_n E.1 E.2.1 dX1_isWhole_37 rfl (lv_at hl 0 rfl) ?_
        refine q_gi E w t_v0 fl_RX1_24 dX1_isWhole_38 ?_
        refine lv_aload_n E.1 E.2.1 dX1_isWhole_41 rfl (lv_at hl 0 rfl) ?_
        refine q_gi E w t_v0 fl_RX1_15 dX1_isWhole_42 ?_
        refine lv_ishr E.1 E.2.1 dX1_isWhole_45 ?_
        refine lv_if_ne (tgt := 53) E.1 E.2.1 dX1_isWhole_46 (by decide) (fun c4 => ?_) (fun c4 => ?_)
        · have hf := q_neg c4 hf
          refine lv_iconst (v := 0) E.1 E.2.1 dX1_isWhole_53 rfl ?_
          have hf := Option.some.inj hf
          subst hf
          exact q_zret E w hr hlk dX1_isWhole_54
        · have hf := q_pos c4 hf
          refine lv_iconst (v := 1) E.1 E.2.1 dX1_isWhole_49 rfl ?_
          refine lv_goto (tgt := 54) E.1 E.2.1 dX1_isWhole_50 (by decide) ?_
          have hf := Option.some.inj hf
          subst hf
          exact q_zret E w hr hlk dX1_isWhole_54
      · have hf := q_neg c3 hf
        refine lv_aload_n E.1 E.2.1 dX1_isWhole_16 rfl (lv_at hl 0 rfl) ?_
        refine q_gs E w 5 t_v0 fl_RX1_40 dX1_isWhole_17 ?_
        refine lv_iload_n E.1 E.2.1 dX1_isWhole_20 rfl (lv_at hl 1 rfl) ?_
        obtain ⟨b5, hf⟩ := q_if hf
        refine q_iald E w ((lay_1_9 t_v0).1) ((lay_1_9 t_v0).2) b5 dX1_isWhole_21 ?_
        refine lv_aload_n E.1 E.2.1 dX1_isWhole_22 rfl (lv_at hl 0 rfl) ?_
        refine q_gi E w t_v0 fl_RX1_9 dX1_isWhole_23 ?_
        refine lv_icmp_lt (tgt := 31) E.1 E.2.1 dX1_isWhole_26 (by decide) (fun c6 => ?_) (fun c6 => ?_)
        · have hf := q_pos c6 hf
          refine lv_iinc (v := v1 + 1) (lv' := [(1, .int (v1 + 1)), (0, .ref (ad G v0))]) E.1 E.2.1 dX1_isWhole_31 hl (k := 1) rfl rfl (by decide) rfl (fun ls hl => ?_)
          refine lv_goto (tgt := 2) E.1 E.2.1 dX1_isWhole_34 (by decide) ?_
          exact ih _ _ _ _ _ hf w t_v0 (lv_sub hl [1, 0] rfl)
        · have hf := q_neg c6 hf
          refine lv_iconst (v := 0) E.1 E.2.1 dX1_isWhole_29 rfl ?_
          have hf := Option.some.inj hf
          subst hf
          exact q_zret E w hr hlk dX1_isWhole_30

def X1_isWhole (N : Nat) (h : HS) (v0 : Nat) : Option Int32 := X1_isWhole_l2 N h N v0 0
set_option maxRecDepth 4000 in
set_option maxHeartbeats 2000000 in
theorem X1_isWhole_c {l : Launch} {G : GT} {N : Nat} {h : HS} {v0 : Nat} {z : Int32} (t_v0 : sh v0 = 1) (hf : X1_isWhole N h v0 = some z) : CT l G yX1_isWhole cX1_isWhole 2 (some .boolean) 0 0 [.ref (ad G v0)] h (some (.int z)) h := by
  unfold X1_isWhole at hf
  refine CT.of (by decide) (Nat.le_of_ble_eq_true rfl) ?_
  intro p e s m below meth c ls E hr hlk w hl
  have hl : lv_has ls 2 [(0, .ref (ad G v0))] := hl
  refine lv_iconst (v := 0) E.1 E.2.1 dX1_isWhole_0 rfl ?_
  refine lv_istore_n (lv' := [(1, .int 0), (0, .ref (ad G v0))]) E.1 E.2.1 dX1_isWhole_1 rfl hl (by decide) rfl (fun ls hl => ?_)
  exact X1_isWhole_l2_w E hr hlk N _ _ _ _ _ hf w t_v0 (lv_sub hl [1, 0] rfl)

def X1_detail (N : Nat) (h : HS) (v0 : Nat) (v1 : Int32) : Option Int32 := (if v1 < (10 : Int32) then some (-1) else (if v1 ≤ (99 : Int32) then (if (v1 / 10) = 1 then bd1 (X1_hasFloor N h v0 (v1 - v1 / 10 * 10)) fun r5 => (if r5 = 0 then some (-1) else (if (v1 - v1 / 10 * 10) < 0 ∨ 6 ≤ (v1 - v1 / 10 * 10).toNatClampNeg then none else some (h.1 (v0 + 1) (v1 - v1 / 10 * 10).toNatClampNeg))) else (if (v1 / 10) = 2 then bd1 (X1_hasFloor N h v0 (v1 - v1 / 10 * 10)) fun r11 => (if r11 = 0 then some (-1) else (if (v1 - v1 / 10 * 10) < 0 ∨ 6 ≤ (v1 - v1 / 10 * 10).toNatClampNeg then none else some (h.1 (v0 + 2) (v1 - v1 / 10 * 10).toNatClampNeg))) else (if (v1 / 10) = 3 then bd1 (X1_hasBar N h v0 (v1 - v1 / 10 * 10)) fun r17 => (if r17 = 0 then some (-1) else (if (v1 - v1 / 10 * 10) < 0 ∨ 8 ≤ (v1 - v1 / 10 * 10).toNatClampNeg then none else some (h.1 (v0 + 3) (v1 - v1 / 10 * 10).toNatClampNeg))) else (if (v1 / 10) = 4 then bd1 (X1_hasBar N h v0 (v1 - v1 / 10 * 10)) fun r23 => (if r23 = 0 then some (-1) else (if (v1 - v1 / 10 * 10) < 0 ∨ 8 ≤ (v1 - v1 / 10 * 10).toNatClampNeg then none else some (h.1 (v0 + 4) (v1 - v1 / 10 * 10).toNatClampNeg))) else (if (v1 / 10) = 5 then bd1 (X1_hasBar N h v0 (v1 - v1 / 10 * 10)) fun r29 => (if r29 = 0 then some (-1) else (if (v1 - v1 / 10 * 10) < 0 ∨ 8 ≤ (v1 - v1 / 10 * 10).toNatClampNeg then none else some (h.1 (v0 + 5) (v1 - v1 / 10 * 10).toNatClampNeg))) else (if (v1 / 10) = 6 then bd1 (X1_hasBar N h v0 (v1 - v1 / 10 * 10)) fun r35 => (if r35 = 0 then some (-1) else (if (v1 - v1 / 10 * 10) < 0 ∨ 8 ≤ (v1 - v1 / 10 * 10).toNatClampNeg then none else some (h.1 (v0 + 6) (v1 - v1 / 10 * 10).toNatClampNeg))) else (if (v1 / 10) = 7 then bd1 (X1_hasSinger N h v0 (v1 - v1 / 10 * 10)) fun r41 => (if r41 = 0 then some (-1) else (if (v1 - v1 / 10 * 10) < 0 ∨ 5 ≤ (v1 - v1 / 10 * 10).toNatClampNeg then none else some (h.1 (v0 + 7) (v1 - v1 / 10 * 10).toNatClampNeg))) else (if (v1 / 10) = 8 then bd1 (X1_hasSinger N h v0 (v1 - v1 / 10 * 10)) fun r47 => (if r47 = 0 then some (-1) else (if (v1 - v1 / 10 * 10) < 0 ∨ 5 ≤ (v1 - v1 / 10 * 10).toNatClampNeg then none else some (h.1 (v0 + 8) (v1 - v1 / 10 * 10).toNatClampNeg))) else bd1 (X1_hasSinger N h v0 (v1 - v1 / 10 * 10)) fun r52 => (if r52 = 0 then some (-1) else (if (v1 - v1 / 10 * 10) < 0 ∨ 5 ≤ (v1 - v1 / 10 * 10).toNatClampNeg then none else some (h.1 (v0 + 9) (v1 - v1 / 10 * 10).toNatClampNeg))))))))))) else some (-1)))
set_option maxRecDepth 4000 in
set_option maxHeartbeats 2000000 in
theorem X1_detail_c {l : Launch} {G : GT} {N : Nat} {h : HS} {v0 : Nat} {v1 : Int32} {z : Int32} (t_v0 : sh v0 = 1) (hf : X1_detail N h v0 v1 = some z) : CT l G yX1_detail cX1_detail 3 (some .int) 1 21 [.ref (ad G v0), .int v1] h (some (.int z)) h := by
  unfold X1_detail at hf
  refine CT.of (by decide) (Nat.le_of_ble_eq_true rfl) ?_
  intro p e s m below meth c ls E hr hlk w hl
  have hl : lv_has ls 3 [(0, .ref (ad G v0)), (1, .int v1)] := hl
  refine lv_iload_n E.1 E.2.1 dX1_detail_0 rfl (lv_at hl 1 rfl) ?_
  refine lv_bipush (v := 10) E.1 E.2.1 dX1_detail_1 rfl ?_
  refine lv_icmp_lt (tgt := 12) E.1 E.2.1 dX1_detail_3 (by decide) (fun c1 => ?_) (fun c1 => ?_)
  · have hf := q_pos c1 hf
    refine lv_iconst (v := (-1)) E.1 E.2.1 dX1_detail_12 rfl ?_
    have hf := Option.some.inj hf
    subst hf
    exact q_iret E w hr hlk dX1_detail_13
  · have hf := q_neg c1 hf
    refine lv_iload_n E.1 E.2.1 dX1_detail_6 rfl (lv_at hl 1 rfl) ?_
    refine lv_bipush (v := 99) E.1 E.2.1 dX1_detail_7 rfl ?_
    refine lv_icmp_le (tgt := 14) E.1 E.2.1 dX1_detail_9 (by decide) (fun c2 => ?_) (fun c2 => ?_)
    · have hf := q_pos c2 hf
      refine lv_iload_n E.1 E.2.1 dX1_detail_14 rfl (lv_at hl 1 rfl) ?_
      refine lv_bipush (v := 10) E.1 E.2.1 dX1_detail_15 rfl ?_
      refine lv_irem E.1 E.2.1 dX1_detail_17 (by decide) ?_
      refine lv_istore_n (lv' := [(2, .int (v1 - v1 / 10 * 10)), (0, .ref (ad G v0)), (1, .int v1)]) E.1 E.2.1 dX1_detail_18 rfl hl (by decide) rfl (fun ls hl => ?_)
      refine lv_iload_n E.1 E.2.1 dX1_detail_19 rfl (lv_at hl 2 rfl) ?_
      refine lv_bipush (v := 10) E.1 E.2.1 dX1_detail_20 rfl ?_
      refine lv_idiv E.1 E.2.1 dX1_detail_22 (by decide) ?_
      by_cases c3 : (v1 / 10) = 1
      · have hf := q_pos c3 hf
        refine lv_tableIn (off := 45) (tgt := 68) E.1 E.2.1 dX1_detail_23 (by rw [c3]; decide) (by rw [c3]; decide) (by rw [c3]; rfl) (by decide) ?_
        refine lv_aload_n E.1 E.2.1 dX1_detail_68 rfl (lv_at hl 1 rfl) ?_
        refine lv_iload_n E.1 E.2.1 dX1_detail_69 rfl (lv_at hl 0 rfl) ?_
        obtain ⟨r5, hc4, hf⟩ := bd1_e hf
        refine k_Vi (As := [.int (v1 - v1 / 10 * 10)]) (rest := []) E w t_v0 ⟨by decide, rfl⟩ (X1_hasFloor_c t_v0 hc4) mv_RX1_61 rfl rfl hl.1 ⟨Nat.le_of_ble_eq_true rfl, Nat.le_of_ble_eq_true rfl⟩ (Nat.le_of_ble_eq_true rfl) ⟨Nat.le_refl _, Nat.le_refl _⟩ dX1_detail_70 (fun H locs w => ?_)
        refine lv_if_eq (tgt := 85) E.1 E.2.1 dX1_detail_73 (by decide) (fun c7 => ?_) (fun c7 => ?_)
        · have hf := q_pos c7 hf
          refine lv_iconst (v := (-1)) E.1 E.2.1 dX1_detail_85 rfl ?_
          have hf := Option.some.inj hf
          subst hf
          exact q_iret E w hr hlk dX1_detail_86
        · have hf := q_neg c7 hf
          refine lv_aload_n E.1 E.2.1 dX1_detail_76 rfl (lv_at hl 1 rfl) ?_
          refine q_gs E w 1 t_v0 fl_RX1_27 dX1_detail_77 ?_
          refine lv_iload_n E.1 E.2.1 dX1_detail_80 rfl (lv_at hl 0 rfl) ?_
          obtain ⟨b8, hf⟩ := q_if hf
          refine q_iald E w ((lay_1_5 t_v0).1) ((lay_1_5 t_v0).2) b8 dX1_detail_81 ?_
          refine lv_goto (tgt := 86) E.1 E.2.1 dX1_detail_82 (by decide) ?_
          have hf := Option.some.inj hf
          subst hf
          exact q_iret E w hr hlk dX1_detail_86
      have hf := q_neg c3 hf
      by_cases c9 : (v1 / 10) = 2
      · have hf := q_pos c9 hf
        refine lv_tableIn (off := 64) (tgt := 87) E.1 E.2.1 dX1_detail_23 (by rw [c9]; decide) (by rw [c9]; decide) (by rw [c9]; rfl) (by decide) ?_
        refine lv_aload_n E.1 E.2.1 dX1_detail_87 rfl (lv_at hl 1 rfl) ?_
        refine lv_iload_n E.1 E.2.1 dX1_detail_88 rfl (lv_at hl 0 rfl) ?_
        obtain ⟨r11, hc10, hf⟩ := bd1_e hf
        refine k_Vi (As := [.int (v1 - v1 / 10 * 10)]) (rest := []) E w t_v0 ⟨by decide, rfl⟩ (X1_hasFloor_c t_v0 hc10) mv_RX1_61 rfl rfl hl.1 ⟨Nat.le_of_ble_eq_true rfl, Nat.le_of_ble_eq_true rfl⟩ (Nat.le_of_ble_eq_true rfl) ⟨Nat.le_refl _, Nat.le_refl _⟩ dX1_detail_89 (fun H locs w => ?_)
        refine lv_if_eq (tgt := 104) E.1 E.2.1 dX1_detail_92 (by decide) (fun c13 => ?_) (fun c13 => ?_)
        · have hf := q_pos c13 hf
          refine lv_iconst (v := (-1)) E.1 E.2.1 dX1_detail_104 rfl ?_
          have hf := Option.some.inj hf
          subst hf
          exact q_iret E w hr hlk dX1_detail_105
        · have hf := q_neg c13 hf
          refine lv_aload_n E.1 E.2.1 dX1_detail_95 rfl (lv_at hl 1 rfl) ?_
          refine q_gs E w 2 t_v0 fl_RX1_31 dX1_detail_96 ?_
          refine lv_iload_n E.1 E.2.1 dX1_detail_99 rfl (lv_at hl 0 rfl) ?_
          obtain ⟨b14, hf⟩ := q_if hf
          refine q_iald E w ((lay_1_6 t_v0).1) ((lay_1_6 t_v0).2) b14 dX1_detail_100 ?_
          refine lv_goto (tgt := 105) E.1 E.2.1 dX1_detail_101 (by decide) ?_
          have hf := Option.some.inj hf
          subst hf
          exact q_iret E w hr hlk dX1_detail_105
      have hf := q_neg c9 hf
      by_cases c15 : (v1 / 10) = 3
      · have hf := q_pos c15 hf
        refine lv_tableIn (off := 83) (tgt := 106) E.1 E.2.1 dX1_detail_23 (by rw [c15]; decide) (by rw [c15]; decide) (by rw [c15]; rfl) (by decide) ?_
        refine lv_aload_n E.1 E.2.1 dX1_detail_106 rfl (lv_at hl 1 rfl) ?_
        refine lv_iload_n E.1 E.2.1 dX1_detail_107 rfl (lv_at hl 0 rfl) ?_
        obtain ⟨r17, hc16, hf⟩ := bd1_e hf
        refine k_Vi (As := [.int (v1 - v1 / 10 * 10)]) (rest := []) E w t_v0 ⟨by decide, rfl⟩ (X1_hasBar_c t_v0 hc16) mv_RX1_65 rfl rfl hl.1 ⟨Nat.le_of_ble_eq_true rfl, Nat.le_of_ble_eq_true rfl⟩ (Nat.le_of_ble_eq_true rfl) ⟨Nat.le_refl _, Nat.le_refl _⟩ dX1_detail_108 (fun H locs w => ?_)
        refine lv_if_eq (tgt := 123) E.1 E.2.1 dX1_detail_111 (by decide) (fun c19 => ?_) (fun c19 => ?_)
        · have hf := q_pos c19 hf
          refine lv_iconst (v := (-1)) E.1 E.2.1 dX1_detail_123 rfl ?_
          have hf := Option.some.inj hf
          subst hf
          exact q_iret E w hr hlk dX1_detail_124
        · have hf := q_neg c19 hf
          refine lv_aload_n E.1 E.2.1 dX1_detail_114 rfl (lv_at hl 1 rfl) ?_
          refine q_gs E w 3 t_v0 fl_RX1_34 dX1_detail_115 ?_
          refine lv_iload_n E.1 E.2.1 dX1_detail_118 rfl (lv_at hl 0 rfl) ?_
          obtain ⟨b20, hf⟩ := q_if hf
          refine q_iald E w ((lay_1_7 t_v0).1) ((lay_1_7 t_v0).2) b20 dX1_detail_119 ?_
          refine lv_goto (tgt := 124) E.1 E.2.1 dX1_detail_120 (by decide) ?_
          have hf := Option.some.inj hf
          subst hf
          exact q_iret E w hr hlk dX1_detail_124
      have hf := q_neg c15 hf
      by_cases c21 : (v1 / 10) = 4
      · have hf := q_pos c21 hf
        refine lv_tableIn (off := 102) (tgt := 125) E.1 E.2.1 dX1_detail_23 (by rw [c21]; decide) (by rw [c21]; decide) (by rw [c21]; rfl) (by decide) ?_
        refine lv_aload_n E.1 E.2.1 dX1_detail_125 rfl (lv_at hl 1 rfl) ?_
        refine lv_iload_n E.1 E.2.1 dX1_detail_126 rfl (lv_at hl 0 rfl) ?_
        obtain ⟨r23, hc22, hf⟩ := bd1_e hf
        refine k_Vi (As := [.int (v1 - v1 / 10 * 10)]) (rest := []) E w t_v0 ⟨by decide, rfl⟩ (X1_hasBar_c t_v0 hc22) mv_RX1_65 rfl rfl hl.1 ⟨Nat.le_of_ble_eq_true rfl, Nat.le_of_ble_eq_true rfl⟩ (Nat.le_of_ble_eq_true rfl) ⟨Nat.le_refl _, Nat.le_refl _⟩ dX1_detail_127 (fun H locs w => ?_)
        refine lv_if_eq (tgt := 142) E.1 E.2.1 dX1_detail_130 (by decide) (fun c25 => ?_) (fun c25 => ?_)
        · have hf := q_pos c25 hf
          refine lv_iconst (v := (-1)) E.1 E.2.1 dX1_detail_142 rfl ?_
          have hf := Option.some.inj hf
          subst hf
          exact q_iret E w hr hlk dX1_detail_143
        · have hf := q_neg c25 hf
          refine lv_aload_n E.1 E.2.1 dX1_detail_133 rfl (lv_at hl 1 rfl) ?_
          refine q_gs E w 4 t_v0 fl_RX1_37 dX1_detail_134 ?_
          refine lv_iload_n E.1 E.2.1 dX1_detail_137 rfl (lv_at hl 0 rfl) ?_
          obtain ⟨b26, hf⟩ := q_if hf
          refine q_iald E w ((lay_1_8 t_v0).1) ((lay_1_8 t_v0).2) b26 dX1_detail_138 ?_
          refine lv_goto (tgt := 143) E.1 E.2.1 dX1_detail_139 (by decide) ?_
          have hf := Option.some.inj hf
          subst hf
          exact q_iret E w hr hlk dX1_detail_143
      have hf := q_neg c21 hf
      by_cases c27 : (v1 / 10) = 5
      · have hf := q_pos c27 hf
        refine lv_tableIn (off := 121) (tgt := 144) E.1 E.2.1 dX1_detail_23 (by rw [c27]; decide) (by rw [c27]; decide) (by rw [c27]; rfl) (by decide) ?_
        refine lv_aload_n E.1 E.2.1 dX1_detail_144 rfl (lv_at hl 1 rfl) ?_
        refine lv_iload_n E.1 E.2.1 dX1_detail_145 rfl (lv_at hl 0 rfl) ?_
        obtain ⟨r29, hc28, hf⟩ := bd1_e hf
        refine k_Vi (As := [.int (v1 - v1 / 10 * 10)]) (rest := []) E w t_v0 ⟨by decide, rfl⟩ (X1_hasBar_c t_v0 hc28) mv_RX1_65 rfl rfl hl.1 ⟨Nat.le_of_ble_eq_true rfl, Nat.le_of_ble_eq_true rfl⟩ (Nat.le_of_ble_eq_true rfl) ⟨Nat.le_refl _, Nat.le_refl _⟩ dX1_detail_146 (fun H locs w => ?_)
        refine lv_if_eq (tgt := 161) E.1 E.2.1 dX1_detail_149 (by decide) (fun c31 => ?_) (fun c31 => ?_)
        · have hf := q_pos c31 hf
          refine lv_iconst (v := (-1)) E.1 E.2.1 dX1_detail_161 rfl ?_
          have hf := Option.some.inj hf
          subst hf
          exact q_iret E w hr hlk dX1_detail_162
        · have hf := q_neg c31 hf
          refine lv_aload_n E.1 E.2.1 dX1_detail_152 rfl (lv_at hl 1 rfl) ?_
          refine q_gs E w 5 t_v0 fl_RX1_40 dX1_detail_153 ?_
          refine lv_iload_n E.1 E.2.1 dX1_detail_156 rfl (lv_at hl 0 rfl) ?_
          obtain ⟨b32, hf⟩ := q_if hf
          refine q_iald E w ((lay_1_9 t_v0).1) ((lay_1_9 t_v0).2) b32 dX1_detail_157 ?_
          refine lv_goto (tgt := 162) E.1 E.2.1 dX1_detail_158 (by decide) ?_
          have hf := Option.some.inj hf
          subst hf
          exact q_iret E w hr hlk dX1_detail_162
      have hf := q_neg c27 hf
      by_cases c33 : (v1 / 10) = 6
      · have hf := q_pos c33 hf
        refine lv_tableIn (off := 140) (tgt := 163) E.1 E.2.1 dX1_detail_23 (by rw [c33]; decide) (by rw [c33]; decide) (by rw [c33]; rfl) (by decide) ?_
        refine lv_aload_n E.1 E.2.1 dX1_detail_163 rfl (lv_at hl 1 rfl) ?_
        refine lv_iload_n E.1 E.2.1 dX1_detail_164 rfl (lv_at hl 0 rfl) ?_
        obtain ⟨r35, hc34, hf⟩ := bd1_e hf
        refine k_Vi (As := [.int (v1 - v1 / 10 * 10)]) (rest := []) E w t_v0 ⟨by decide, rfl⟩ (X1_hasBar_c t_v0 hc34) mv_RX1_65 rfl rfl hl.1 ⟨Nat.le_of_ble_eq_true rfl, Nat.le_of_ble_eq_true rfl⟩ (Nat.le_of_ble_eq_true rfl) ⟨Nat.le_refl _, Nat.le_refl _⟩ dX1_detail_165 (fun H locs w => ?_)
        refine lv_if_eq (tgt := 180) E.1 E.2.1 dX1_detail_168 (by decide) (fun c37 => ?_) (fun c37 => ?_)
        · have hf := q_pos c37 hf
          refine lv_iconst (v := (-1)) E.1 E.2.1 dX1_detail_180 rfl ?_
          have hf := Option.some.inj hf
          subst hf
          exact q_iret E w hr hlk dX1_detail_181
        · have hf := q_neg c37 hf
          refine lv_aload_n E.1 E.2.1 dX1_detail_171 rfl (lv_at hl 1 rfl) ?_
          refine q_gs E w 6 t_v0 fl_RX1_43 dX1_detail_172 ?_
          refine lv_iload_n E.1 E.2.1 dX1_detail_175 rfl (lv_at hl 0 rfl) ?_
          obtain ⟨b38, hf⟩ := q_if hf
          refine q_iald E w ((lay_1_10 t_v0).1) ((lay_1_10 t_v0).2) b38 dX1_detail_176 ?_
          refine lv_goto (tgt := 181) E.1 E.2.1 dX1_detail_177 (by decide) ?_
          have hf := Option.some.inj hf
          subst hf
          exact q_iret E w hr hlk dX1_detail_181
      have hf := q_neg c33 hf
      by_cases c39 : (v1 / 10) = 7
      · have hf := q_pos c39 hf
        refine lv_tableIn (off := 159) (tgt := 182) E.1 E.2.1 dX1_detail_23 (by rw [c39]; decide) (by rw [c39]; decide) (by rw [c39]; rfl) (by decide) ?_
        refine lv_aload_n E.1 E.2.1 dX1_detail_182 rfl (lv_at hl 1 rfl) ?_
        refine lv_iload_n E.1 E.2.1 dX1_detail_183 rfl (lv_at hl 0 rfl) ?_
        obtain ⟨r41, hc40, hf⟩ := bd1_e hf
        refine k_Vi (As := [.int (v1 - v1 / 10 * 10)]) (rest := []) E w t_v0 ⟨by decide, rfl⟩ (X1_hasSinger_c t_v0 hc40) mv_RX1_68 rfl rfl hl.1 ⟨Nat.le_of_ble_eq_true rfl, Nat.le_of_ble_eq_true rfl⟩ (Nat.le_of_ble_eq_true rfl) ⟨Nat.le_refl _, Nat.le_refl _⟩ dX1_detail_184 (fun H locs w => ?_)
        refine lv_if_eq (tgt := 199) E.1 E.2.1 dX1_detail_187 (by decide) (fun c43 => ?_) (fun c43 => ?_)
        · have hf := q_pos c43 hf
          refine lv_iconst (v := (-1)) E.1 E.2.1 dX1_detail_199 rfl ?_
          have hf := Option.some.inj hf
          subst hf
          exact q_iret E w hr hlk dX1_detail_200
        · have hf := q_neg c43 hf
          refine lv_aload_n E.1 E.2.1 dX1_detail_190 rfl (lv_at hl 1 rfl) ?_
          refine q_gs E w 7 t_v0 fl_RX1_46 dX1_detail_191 ?_
          refine lv_iload_n E.1 E.2.1 dX1_detail_194 rfl (lv_at hl 0 rfl) ?_
          obtain ⟨b44, hf⟩ := q_if hf
          refine q_iald E w ((lay_1_11 t_v0).1) ((lay_1_11 t_v0).2) b44 dX1_detail_195 ?_
          refine lv_goto (tgt := 200) E.1 E.2.1 dX1_detail_196 (by decide) ?_
          have hf := Option.some.inj hf
          subst hf
          exact q_iret E w hr hlk dX1_detail_200
      have hf := q_neg c39 hf
      by_cases c45 : (v1 / 10) = 8
      · have hf := q_pos c45 hf
        refine lv_tableIn (off := 178) (tgt := 201) E.1 E.2.1 dX1_detail_23 (by rw [c45]; decide) (by rw [c45]; decide) (by rw [c45]; rfl) (by decide) ?_
        refine lv_aload_n E.1 E.2.1 dX1_detail_201 rfl (lv_at hl 1 rfl) ?_
        refine lv_iload_n E.1 E.2.1 dX1_detail_202 rfl (lv_at hl 0 rfl) ?_
        obtain ⟨r47, hc46, hf⟩ := bd1_e hf
        refine k_Vi (As := [.int (v1 - v1 / 10 * 10)]) (rest := []) E w t_v0 ⟨by decide, rfl⟩ (X1_hasSinger_c t_v0 hc46) mv_RX1_68 rfl rfl hl.1 ⟨Nat.le_of_ble_eq_true rfl, Nat.le_of_ble_eq_true rfl⟩ (Nat.le_of_ble_eq_true rfl) ⟨Nat.le_refl _, Nat.le_refl _⟩ dX1_detail_203 (fun H locs w => ?_)
        refine lv_if_eq (tgt := 218) E.1 E.2.1 dX1_detail_206 (by decide) (fun c49 => ?_) (fun c49 => ?_)
        · have hf := q_pos c49 hf
          refine lv_iconst (v := (-1)) E.1 E.2.1 dX1_detail_218 rfl ?_
          have hf := Option.some.inj hf
          subst hf
          exact q_iret E w hr hlk dX1_detail_219
        · have hf := q_neg c49 hf
          refine lv_aload_n E.1 E.2.1 dX1_detail_209 rfl (lv_at hl 1 rfl) ?_
          refine q_gs E w 8 t_v0 fl_RX1_49 dX1_detail_210 ?_
          refine lv_iload_n E.1 E.2.1 dX1_detail_213 rfl (lv_at hl 0 rfl) ?_
          obtain ⟨b50, hf⟩ := q_if hf
          refine q_iald E w ((lay_1_12 t_v0).1) ((lay_1_12 t_v0).2) b50 dX1_detail_214 ?_
          refine lv_goto (tgt := 219) E.1 E.2.1 dX1_detail_215 (by decide) ?_
          have hf := Option.some.inj hf
          subst hf
          exact q_iret E w hr hlk dX1_detail_219
      have hf := q_neg c45 hf
      refine lv_tableOut (tgt := 220) E.1 E.2.1 dX1_detail_23 (by have := ne_i c3 (z := 1) (by decide); have := ne_i c9 (z := 2) (by decide); have := ne_i c15 (z := 3) (by decide); have := ne_i c21 (z := 4) (by decide); have := ne_i c27 (z := 5) (by decide); have := ne_i c33 (z := 6) (by decide); have := ne_i c39 (z := 7) (by decide); have := ne_i c45 (z := 8) (by decide); omega) (by decide) ?_
      refine lv_aload_n E.1 E.2.1 dX1_detail_220 rfl (lv_at hl 1 rfl) ?_
      refine lv_iload_n E.1 E.2.1 dX1_detail_221 rfl (lv_at hl 0 rfl) ?_
      obtain ⟨r52, hc51, hf⟩ := bd1_e hf
      refine k_Vi (As := [.int (v1 - v1 / 10 * 10)]) (rest := []) E w t_v0 ⟨by decide, rfl⟩ (X1_hasSinger_c t_v0 hc51) mv_RX1_68 rfl rfl hl.1 ⟨Nat.le_of_ble_eq_true rfl, Nat.le_of_ble_eq_true rfl⟩ (Nat.le_of_ble_eq_true rfl) ⟨Nat.le_refl _, Nat.le_refl _⟩ dX1_detail_222 (fun H locs w => ?_)
      refine lv_if_eq (tgt := 237) E.1 E.2.1 dX1_detail_225 (by decide) (fun c54 => ?_) (fun c54 => ?_)
      · have hf := q_pos c54 hf
        refine lv_iconst (v := (-1)) E.1 E.2.1 dX1_detail_237 rfl ?_
        have hf := Option.some.inj hf
        subst hf
        exact q_iret E w hr hlk dX1_detail_238
      · have hf := q_neg c54 hf
        refine lv_aload_n E.1 E.2.1 dX1_detail_228 rfl (lv_at hl 1 rfl) ?_
        refine q_gs E w 9 t_v0 fl_RX1_52 dX1_detail_229 ?_
        refine lv_iload_n E.1 E.2.1 dX1_detail_232 rfl (lv_at hl 0 rfl) ?_
        obtain ⟨b55, hf⟩ := q_if hf
        refine q_iald E w ((lay_1_13 t_v0).1) ((lay_1_13 t_v0).2) b55 dX1_detail_233 ?_
        refine lv_goto (tgt := 238) E.1 E.2.1 dX1_detail_234 (by decide) ?_
        have hf := Option.some.inj hf
        subst hf
        exact q_iret E w hr hlk dX1_detail_238
    · have hf := q_neg c2 hf
      refine lv_iconst (v := (-1)) E.1 E.2.1 dX1_detail_12 rfl ?_
      have hf := Option.some.inj hf
      subst hf
      exact q_iret E w hr hlk dX1_detail_13

def X1_sounds (N : Nat) (h : HS) (v0 : Nat) (v1 : Int32) : Option Int32 := bd1 (X1_hasBar N h v0 v1) fun r2 => (if r2 = 0 then some (nz 0) else (if v1 < 0 ∨ 8 ≤ v1.toNatClampNeg then none else (if (h.1 (v0 + 3) v1.toNatClampNeg) = 0 then some (nz 0) else some (nz 1))))
set_option maxRecDepth 4000 in
set_option maxHeartbeats 2000000 in
theorem X1_sounds_c {l : Launch} {G : GT} {N : Nat} {h : HS} {v0 : Nat} {v1 : Int32} {z : Int32} (t_v0 : sh v0 = 1) (hf : X1_sounds N h v0 v1 = some z) : CT l G yX1_sounds cX1_sounds 2 (some .boolean) 1 21 [.ref (ad G v0), .int v1] h (some (.int z)) h := by
  unfold X1_sounds at hf
  refine CT.of (by decide) (Nat.le_of_ble_eq_true rfl) ?_
  intro p e s m below meth c ls E hr hlk w hl
  have hl : lv_has ls 2 [(0, .ref (ad G v0)), (1, .int v1)] := hl
  refine lv_aload_n E.1 E.2.1 dX1_sounds_0 rfl (lv_at hl 0 rfl) ?_
  refine lv_iload_n E.1 E.2.1 dX1_sounds_1 rfl (lv_at hl 1 rfl) ?_
  obtain ⟨r2, hc1, hf⟩ := bd1_e hf
  refine k_Vi (As := [.int v1]) (rest := []) E w t_v0 ⟨by decide, rfl⟩ (X1_hasBar_c t_v0 hc1) mv_RX1_65 rfl rfl hl.1 ⟨Nat.le_of_ble_eq_true rfl, Nat.le_of_ble_eq_true rfl⟩ (Nat.le_of_ble_eq_true rfl) ⟨Nat.le_refl _, Nat.le_refl _⟩ dX1_sounds_2 (fun H locs w => ?_)
  refine lv_if_eq (tgt := 21) E.1 E.2.1 dX1_sounds_5 (by decide) (fun c4 => ?_) (fun c4 => ?_)
  · have hf := q_pos c4 hf
    refine lv_iconst (v := 0) E.1 E.2.1 dX1_sounds_21 rfl ?_
    have hf := Option.some.inj hf
    subst hf
    exact q_zret E w hr hlk dX1_sounds_22
  · have hf := q_neg c4 hf
    refine lv_aload_n E.1 E.2.1 dX1_sounds_8 rfl (lv_at hl 0 rfl) ?_
    refine q_gs E w 3 t_v0 fl_RX1_34 dX1_sounds_9 ?_
    refine lv_iload_n E.1 E.2.1 dX1_sounds_12 rfl (lv_at hl 1 rfl) ?_
    obtain ⟨b5, hf⟩ := q_if hf
    refine q_iald E w ((lay_1_7 t_v0).1) ((lay_1_7 t_v0).2) b5 dX1_sounds_13 ?_
    refine lv_if_eq (tgt := 21) E.1 E.2.1 dX1_sounds_14 (by decide) (fun c6 => ?_) (fun c6 => ?_)
    · have hf := q_pos c6 hf
      refine lv_iconst (v := 0) E.1 E.2.1 dX1_sounds_21 rfl ?_
      have hf := Option.some.inj hf
      subst hf
      exact q_zret E w hr hlk dX1_sounds_22
    · have hf := q_neg c6 hf
      refine lv_iconst (v := 1) E.1 E.2.1 dX1_sounds_17 rfl ?_
      refine lv_goto (tgt := 22) E.1 E.2.1 dX1_sounds_18 (by decide) ?_
      have hf := Option.some.inj hf
      subst hf
      exact q_zret E w hr hlk dX1_sounds_22

def X1_nextFrom_l2 (N : Nat) (h : HS) : Nat → Nat → Int32 → Option Int32
  | 0, _, _ => none
  | n + 1, v0, v2 => (if (h.1 v0 1) ≤ v2 then some (-1) else bd1 (X1_sounds N h v0 v2) fun r3 => (if r3 = 0 then X1_nextFrom_l2 N h n v0 (v2 + 1) else some v2))
set_option maxRecDepth 4000 in
set_option maxHeartbeats 2000000 in
theorem X1_nextFrom_l2_w {p : Program} {l : Launch} {e : Env} {s : State} {m : MethodId} {args : Array Value} {below : List Frame} {meth : Method} {c : Code} {G : GT} {N : Nat} {h : HS} {z : Int32} (E : CallFix p m c cX1_nextFrom 3 s args UW RX1) (hr : meth.sig.returnType = (some .int)) (hlk : meth.locks = false) : ∀ (n : Nat) (H : Heap) (locs : List Loc) (ls : Array Slot) (v0 : Nat) (v2 : Int32), X1_nextFrom_l2 N h n v0 v2 = some z → WD G s h H locs → sh v0 = 1 → lv_has ls 3 [(0, .ref (ad G v0)), (2, .int v2)] → W p l e ({ frames := 2, cells := 0, slots := 0, locals := 42 } : Room) s m args below meth c H locs 0 0 (MQ below (QC G (some (.int z)) h) args s 0 0 (AD G)) (F0 m 2 ls []) := by
  intro n
  induction n with
  | zero =>
    intro H locs ls v0 v2 hf
    cases hf
  | succ n ih =>
    intro H locs ls v0 v2 hf w t_v0 hl
    unfold X1_nextFrom_l2 at hf
    refine lv_iload_n E.1 E.2.1 dX1_nextFrom_2 rfl (lv_at hl 1 rfl) ?_
    refine lv_aload_n E.1 E.2.1 dX1_nextFrom_3 rfl (lv_at hl 0 rfl) ?_
    refine q_gi E w t_v0 fl_RX1_15 dX1_nextFrom_4 ?_
    refine lv_icmp_ge (tgt := 26) E.1 E.2.1 dX1_nextFrom_7 (by decide) (fun c1 => ?_) (fun c1 => ?_)
    · have hf := q_pos c1 hf
      refine lv_iconst (v := (-1)) E.1 E.2.1 dX1_nextFrom_26 rfl ?_
      have hf := Option.some.inj hf
      subst hf
      exact q_iret E w hr hlk dX1_nextFrom_27
    · have hf := q_neg c1 hf
      refine lv_aload_n E.1 E.2.1 dX1_nextFrom_10 rfl (lv_at hl 0 rfl) ?_
      refine lv_iload_n E.1 E.2.1 dX1_nextFrom_11 rfl (lv_at hl 1 rfl) ?_
      obtain ⟨r3, hc2, hf⟩ := bd1_e hf
      refine k_Vi (As := [.int v2]) (rest := []) E w t_v0 ⟨by decide, rfl⟩ (X1_sounds_c t_v0 hc2) mv_RX1_71 rfl rfl hl.1 ⟨Nat.le_of_ble_eq_true rfl, Nat.le_of_ble_eq_true rfl⟩ (Nat.le_of_ble_eq_true rfl) ⟨Nat.le_refl _, Nat.le_refl _⟩ dX1_nextFrom_12 (fun H locs w => ?_)
      refine lv_if_eq (tgt := 20) E.1 E.2.1 dX1_nextFrom_15 (by decide) (fun c5 => ?_) (fun c5 => ?_)
      · have hf := q_pos c5 hf
        refine lv_iinc (v := v2 + 1) (lv' := [(2, .int (v2 + 1)), (0, .ref (ad G v0))]) E.1 E.2.1 dX1_nextFrom_20 hl (k := 1) rfl rfl (by decide) rfl (fun ls hl => ?_)
        refine lv_goto (tgt := 2) E.1 E.2.1 dX1_nextFrom_23 (by decide) ?_
        exact ih _ _ _ _ _ hf w t_v0 (lv_sub hl [1, 0] rfl)
      · have hf := q_neg c5 hf
        refine lv_iload_n E.1 E.2.1 dX1_nextFrom_18 rfl (lv_at hl 1 rfl) ?_
        have hf := Option.some.inj hf
        subst hf
        exact q_iret E w hr hlk dX1_nextFrom_19

def X1_nextFrom (N : Nat) (h : HS) (v0 : Nat) (v1 : Int32) : Option Int32 := X1_nextFrom_l2 N h N v0 v1
set_option maxRecDepth 4000 in
set_option maxHeartbeats 2000000 in
theorem X1_nextFrom_c {l : Launch} {G : GT} {N : Nat} {h : HS} {v0 : Nat} {v1 : Int32} {z : Int32} (t_v0 : sh v0 = 1) (hf : X1_nextFrom N h v0 v1 = some z) : CT l G yX1_nextFrom cX1_nextFrom 3 (some .int) 2 42 [.ref (ad G v0), .int v1] h (some (.int z)) h := by
  unfold X1_nextFrom at hf
  refine CT.of (by decide) (Nat.le_of_ble_eq_true rfl) ?_
  intro p e s m below meth c ls E hr hlk w hl
  have hl : lv_has ls 3 [(0, .ref (ad G v0)), (1, .int v1)] := hl
  refine lv_iload_n E.1 E.2.1 dX1_nextFrom_0 rfl (lv_at hl 1 rfl) ?_
  refine lv_istore_n (lv' := [(2, .int v1), (0, .ref (ad G v0)), (1, .int v1)]) E.1 E.2.1 dX1_nextFrom_1 rfl hl (by decide) rfl (fun ls hl => ?_)
  exact X1_nextFrom_l2_w E hr hlk N _ _ _ _ _ hf w t_v0 (lv_sub hl [1, 0] rfl)

def X1_reaches (N : Nat) (h : HS) (v0 : Nat) (v1 : Int32) (v2 : Int32) (v3 : Int32) : Option Int32 := (if v1 < 0 then some (nz 0) else (if (h.1 v0 2) ≤ v1 then some (nz 0) else (if (5 : Int32) ≤ v1 then some (nz 0) else (if v1 < 0 ∨ 5 ≤ v1.toNatClampNeg then none else (if v2 < (h.1 (v0 + 7) v1.toNatClampNeg) then some (nz 0) else (if v1 < 0 ∨ 5 ≤ v1.toNatClampNeg then none else (if v3 = 0 then (if ((h.1 (v0 + 8) v1.toNatClampNeg) - 0) < v2 then some (nz 0) else some (nz 1)) else (if ((h.1 (v0 + 8) v1.toNatClampNeg) - 2) < v2 then some (nz 0) else some (nz 1)))))))))
set_option maxRecDepth 4000 in
set_option maxHeartbeats 2000000 in
theorem X1_reaches_c {l : Launch} {G : GT} {N : Nat} {h : HS} {v0 : Nat} {v1 : Int32} {v2 : Int32} {v3 : Int32} {z : Int32} (t_v0 : sh v0 = 1) (hf : X1_reaches N h v0 v1 v2 v3 = some z) : CT l G yX1_reaches cX1_reaches 4 (some .boolean) 0 0 [.ref (ad G v0), .int v1, .int v2, .int v3] h (some (.int z)) h := by
  unfold X1_reaches at hf
  refine CT.of (by decide) (Nat.le_of_ble_eq_true rfl) ?_
  intro p e s m below meth c ls E hr hlk w hl
  have hl : lv_has ls 4 [(0, .ref (ad G v0)), (1, .int v1), (2, .int v2), (3, .int v3)] := hl
  refine lv_iload_n E.1 E.2.1 dX1_reaches_0 rfl (lv_at hl 1 rfl) ?_
  refine lv_if_lt (tgt := 51) E.1 E.2.1 dX1_reaches_1 (by decide) (fun c1 => ?_) (fun c1 => ?_)
  · have hf := q_pos c1 hf
    refine lv_iconst (v := 0) E.1 E.2.1 dX1_reaches_51 rfl ?_
    have hf := Option.some.inj hf
    subst hf
    exact q_zret E w hr hlk dX1_reaches_52
  · have hf := q_neg c1 hf
    refine lv_iload_n E.1 E.2.1 dX1_reaches_4 rfl (lv_at hl 1 rfl) ?_
    refine lv_aload_n E.1 E.2.1 dX1_reaches_5 rfl (lv_at hl 0 rfl) ?_
    refine q_gi E w t_v0 fl_RX1_18 dX1_reaches_6 ?_
    refine lv_icmp_ge (tgt := 51) E.1 E.2.1 dX1_reaches_9 (by decide) (fun c2 => ?_) (fun c2 => ?_)
    · have hf := q_pos c2 hf
      refine lv_iconst (v := 0) E.1 E.2.1 dX1_reaches_51 rfl ?_
      have hf := Option.some.inj hf
      subst hf
      exact q_zret E w hr hlk dX1_reaches_52
    · have hf := q_neg c2 hf
      refine lv_iload_n E.1 E.2.1 dX1_reaches_12 rfl (lv_at hl 1 rfl) ?_
      refine lv_iconst (v := 5) E.1 E.2.1 dX1_reaches_13 rfl ?_
      refine lv_icmp_ge (tgt := 51) E.1 E.2.1 dX1_reaches_14 (by decide) (fun c3 => ?_) (fun c3 => ?_)
      · have hf := q_pos c3 hf
        refine lv_iconst (v := 0) E.1 E.2.1 dX1_reaches_51 rfl ?_
        have hf := Option.some.inj hf
        subst hf
        exact q_zret E w hr hlk dX1_reaches_52
      · have hf := q_neg c3 hf
        refine lv_iload_n E.1 E.2.1 dX1_reaches_17 rfl (lv_at hl 2 rfl) ?_
        refine lv_aload_n E.1 E.2.1 dX1_reaches_18 rfl (lv_at hl 0 rfl) ?_
        refine q_gs E w 7 t_v0 fl_RX1_46 dX1_reaches_19 ?_
        refine lv_iload_n E.1 E.2.1 dX1_reaches_22 rfl (lv_at hl 1 rfl) ?_
        obtain ⟨b4, hf⟩ := q_if hf
        refine q_iald E w ((lay_1_11 t_v0).1) ((lay_1_11 t_v0).2) b4 dX1_reaches_23 ?_
        refine lv_icmp_lt (tgt := 51) E.1 E.2.1 dX1_reaches_24 (by decide) (fun c5 => ?_) (fun c5 => ?_)
        · have hf := q_pos c5 hf
          refine lv_iconst (v := 0) E.1 E.2.1 dX1_reaches_51 rfl ?_
          have hf := Option.some.inj hf
          subst hf
          exact q_zret E w hr hlk dX1_reaches_52
        · have hf := q_neg c5 hf
          refine lv_iload_n E.1 E.2.1 dX1_reaches_27 rfl (lv_at hl 2 rfl) ?_
          refine lv_aload_n E.1 E.2.1 dX1_reaches_28 rfl (lv_at hl 0 rfl) ?_
          refine q_gs E w 8 t_v0 fl_RX1_49 dX1_reaches_29 ?_
          refine lv_iload_n E.1 E.2.1 dX1_reaches_32 rfl (lv_at hl 1 rfl) ?_
          obtain ⟨b6, hf⟩ := q_if hf
          refine q_iald E w ((lay_1_12 t_v0).1) ((lay_1_12 t_v0).2) b6 dX1_reaches_33 ?_
          refine lv_iload_n E.1 E.2.1 dX1_reaches_34 rfl (lv_at hl 3 rfl) ?_
          refine lv_if_eq (tgt := 42) E.1 E.2.1 dX1_reaches_35 (by decide) (fun c7 => ?_) (fun c7 => ?_)
          · have hf := q_pos c7 hf
            refine lv_iconst (v := 0) E.1 E.2.1 dX1_reaches_42 rfl ?_
            refine lv_isub E.1 E.2.1 dX1_reaches_43 ?_
            refine lv_icmp_gt (tgt := 51) E.1 E.2.1 dX1_reaches_44 (by decide) (fun c8 => ?_) (fun c8 => ?_)
            · have hf := q_pos c8 hf
              refine lv_iconst (v := 0) E.1 E.2.1 dX1_reaches_51 rfl ?_
              have hf := Option.some.inj hf
              subst hf
              exact q_zret E w hr hlk dX1_reaches_52
            · have hf := q_neg c8 hf
              refine lv_iconst (v := 1) E.1 E.2.1 dX1_reaches_47 rfl ?_
              refine lv_goto (tgt := 52) E.1 E.2.1 dX1_reaches_48 (by decide) ?_
              have hf := Option.some.inj hf
              subst hf
              exact q_zret E w hr hlk dX1_reaches_52
          · have hf := q_neg c7 hf
            refine lv_iconst (v := 2) E.1 E.2.1 dX1_reaches_38 rfl ?_
            refine lv_goto (tgt := 43) E.1 E.2.1 dX1_reaches_39 (by decide) ?_
            refine lv_isub E.1 E.2.1 dX1_reaches_43 ?_
            refine lv_icmp_gt (tgt := 51) E.1 E.2.1 dX1_reaches_44 (by decide) (fun c9 => ?_) (fun c9 => ?_)
            · have hf := q_pos c9 hf
              refine lv_iconst (v := 0) E.1 E.2.1 dX1_reaches_51 rfl ?_
              have hf := Option.some.inj hf
              subst hf
              exact q_zret E w hr hlk dX1_reaches_52
            · have hf := q_neg c9 hf
              refine lv_iconst (v := 1) E.1 E.2.1 dX1_reaches_47 rfl ?_
              refine lv_goto (tgt := 52) E.1 E.2.1 dX1_reaches_48 (by decide) ?_
              have hf := Option.some.inj hf
              subst hf
              exact q_zret E w hr hlk dX1_reaches_52

def X1_everybody (N : Nat) (h : HS) (v0 : Nat) : Option Int32 := some (((1 : Int32) <<< ((h.1 v0 2) &&& 31)) - 1)
set_option maxRecDepth 4000 in
set_option maxHeartbeats 2000000 in
theorem X1_everybody_c {l : Launch} {G : GT} {N : Nat} {h : HS} {v0 : Nat} {z : Int32} (t_v0 : sh v0 = 1) (hf : X1_everybody N h v0 = some z) : CT l G yX1_everybody cX1_everybody 1 (some .int) 0 0 [.ref (ad G v0)] h (some (.int z)) h := by
  unfold X1_everybody at hf
  refine CT.of (by decide) (Nat.le_of_ble_eq_true rfl) ?_
  intro p e s m below meth c ls E hr hlk w hl
  have hl : lv_has ls 1 [(0, .ref (ad G v0))] := hl
  refine lv_iconst (v := 1) E.1 E.2.1 dX1_everybody_0 rfl ?_
  refine lv_aload_n E.1 E.2.1 dX1_everybody_1 rfl (lv_at hl 0 rfl) ?_
  refine q_gi E w t_v0 fl_RX1_18 dX1_everybody_2 ?_
  refine lv_ishl E.1 E.2.1 dX1_everybody_5 ?_
  refine lv_iconst (v := 1) E.1 E.2.1 dX1_everybody_6 rfl ?_
  refine lv_isub E.1 E.2.1 dX1_everybody_7 ?_
  have hf := Option.some.inj hf
  subst hf
  exact q_iret E w hr hlk dX1_everybody_8

def X1_notesOf_l12 (N : Nat) (h : HS) (K4 : Nat → Int32 → Int32 → Int32 → Option Int32) : Nat → Nat → Int32 → Int32 → Int32 → Int32 → Option Int32
  | 0, _, _, _, _, _ => none
  | n + 1, v0, v1, v2, v3, v4 => (if (9 : Int32) < v4 then K4 v0 v1 v2 (v3 + 1) else (if ((v1 >>> (v3 &&& 31)) &&& 1) = 0 then X1_notesOf_l12 N h K4 n v0 v1 v2 v3 (v4 + 1) else bd1 (X1_reaches N h v0 v3 v4 0) fun r5 => (if r5 = 0 then X1_notesOf_l12 N h K4 n v0 v1 v2 v3 (v4 + 1) else X1_notesOf_l12 N h K4 n v0 v1 (v2 ||| ((1 : Int32) <<< (v4 &&& 31))) v3 (v4 + 1))))
set_option maxRecDepth 4000 in
set_option maxHeartbeats 2000000 in
theorem X1_notesOf_l12_w {p : Program} {l : Launch} {e : Env} {s : State} {m : MethodId} {args : Array Value} {below : List Frame} {meth : Method} {c : Code} {G : GT} {N : Nat} {h : HS} {z : Int32} (E : CallFix p m c cX1_notesOf 5 s args UW RX1) (hr : meth.sig.returnType = (some .int)) (hlk : meth.locks = false) {K4 : Nat → Int32 → Int32 → Int32 → Option Int32} (hK4 : ∀ (H : Heap) (locs : List Loc) (ls : Array Slot) (v0 : Nat) (v1 : Int32) (v2 : Int32) (v3 : Int32), K4 v0 v1 v2 v3 = some z → WD G s h H locs → sh v0 = 1 → lv_has ls 5 [(0, .ref (ad G v0)), (1, .int v1), (2, .int v2), (3, .int v3)] → W p l e ({ frames := 1, cells := 0, slots := 0, locals := 23 } : Room) s m args below meth c H locs 0 0 (MQ below (QC G (some (.int z)) h) args s 0 0 (AD G)) (F0 m 4 ls [])) : ∀ (n : Nat) (H : Heap) (locs : List Loc) (ls : Array Slot) (v0 : Nat) (v1 : Int32) (v2 : Int32) (v3 : Int32) (v4 : Int32), X1_notesOf_l12 N h K4 n v0 v1 v2 v3 v4 = some z → WD G s h H locs → sh v0 = 1 → lv_has ls 5 [(0, .ref (ad G v0)), (1, .int v1), (2, .int v2), (3, .int v3), (4, .int v4)] → W p l e ({ frames := 1, cells := 0, slots := 0, locals := 23 } : Room) s m args below meth c H locs 0 0 (MQ below (QC G (some (.int z)) h) args s 0 0 (AD G)) (F0 m 12 ls []) := by
  intro n
  induction n with
  | zero =>
    intro H locs ls v0 v1 v2 v3 v4 hf
    cases hf
  | succ n ih =>
    intro H locs ls v0 v1 v2 v3 v4 hf w t_v0 hl
    unfold X1_notesOf_l12 at hf
    refine lv_iload E.1 E.2.1 dX1_notesOf_12 (lv_at hl 4 rfl) ?_
    refine lv_bipush (v := 9) E.1 E.2.1 dX1_notesOf_14 rfl ?_
    refine lv_icmp_gt (tgt := 51) E.1 E.2.1 dX1_notesOf_16 (by decide) (fun c2 => ?_) (fun c2 => ?_)
    · have hf := q_pos c2 hf
      refine lv_iinc (v := v3 + 1) (lv' := [(3, .int (v3 + 1)), (0, .ref (ad G v0)), (1, .int v1), (2, .int v2), (4, .int v4)]) E.1 E.2.1 dX1_notesOf_51 hl (k := 3) rfl rfl (by decide) rfl (fun ls hl => ?_)
      refine lv_goto (tgt := 4) E.1 E.2.1 dX1_notesOf_54 (by decide) ?_
      exact hK4 _ _ _ _ _ _ _ hf w t_v0 (lv_sub hl [1, 2, 3, 0] rfl)
    · have hf := q_neg c2 hf
      refine lv_iload_n E.1 E.2.1 dX1_notesOf_19 rfl (lv_at hl 1 rfl) ?_
      refine lv_iload_n E.1 E.2.1 dX1_notesOf_20 rfl (lv_at hl 3 rfl) ?_
      refine lv_ishr E.1 E.2.1 dX1_notesOf_21 ?_
      refine lv_iconst (v := 1) E.1 E.2.1 dX1_notesOf_22 rfl ?_
      refine lv_iand E.1 E.2.1 dX1_notesOf_23 ?_
      refine lv_if_eq (tgt := 45) E.1 E.2.1 dX1_notesOf_24 (by decide) (fun c3 => ?_) (fun c3 => ?_)
      · have hf := q_pos c3 hf
        refine lv_iinc (v := v4 + 1) (lv' := [(4, .int (v4 + 1)), (0, .ref (ad G v0)), (1, .int v1), (2, .int v2), (3, .int v3)]) E.1 E.2.1 dX1_notesOf_45 hl (k := 4) rfl rfl (by decide) rfl (fun ls hl => ?_)
        refine lv_goto (tgt := 12) E.1 E.2.1 dX1_notesOf_48 (by decide) ?_
        exact ih _ _ _ _ _ _ _ _ hf w t_v0 (lv_sub hl [1, 2, 3, 4, 0] rfl)
      · have hf := q_neg c3 hf
        refine lv_aload_n E.1 E.2.1 dX1_notesOf_27 rfl (lv_at hl 0 rfl) ?_
        refine lv_iload_n E.1 E.2.1 dX1_notesOf_28 rfl (lv_at hl 3 rfl) ?_
        refine lv_iload E.1 E.2.1 dX1_notesOf_29 (lv_at hl 4 rfl) ?_
        refine lv_iconst (v := 0) E.1 E.2.1 dX1_notesOf_31 rfl ?_
        obtain ⟨r5, hc4, hf⟩ := bd1_e hf
        refine k_Vi (As := [.int v3, .int v4, .int 0]) (rest := []) E w t_v0 ⟨by decide, rfl⟩ (X1_reaches_c t_v0 hc4) mv_RX1_74 rfl rfl hl.1 ⟨Nat.le_of_ble_eq_true rfl, Nat.le_of_ble_eq_true rfl⟩ (Nat.le_of_ble_eq_true rfl) ⟨Nat.le_refl _, Nat.le_refl _⟩ dX1_notesOf_32 (fun H locs w => ?_)
        refine lv_if_eq (tgt := 45) E.1 E.2.1 dX1_notesOf_35 (by decide) (fun c7 => ?_) (fun c7 => ?_)
        · have hf := q_pos c7 hf
          refine lv_iinc (v := v4 + 1) (lv' := [(4, .int (v4 + 1)), (0, .ref (ad G v0)), (1, .int v1), (2, .int v2), (3, .int v3)]) E.1 E.2.1 dX1_notesOf_45 hl (k := 4) rfl rfl (by decide) rfl (fun ls hl => ?_)
          refine lv_goto (tgt := 12) E.1 E.2.1 dX1_notesOf_48 (by decide) ?_
          exact ih _ _ _ _ _ _ _ _ hf w t_v0 (lv_sub hl [1, 2, 3, 4, 0] rfl)
        · have hf := q_neg c7 hf
          refine lv_iload_n E.1 E.2.1 dX1_notesOf_38 rfl (lv_at hl 2 rfl) ?_
          refine lv_iconst (v := 1) E.1 E.2.1 dX1_notesOf_39 rfl ?_
          refine lv_iload E.1 E.2.1 dX1_notesOf_40 (lv_at hl 4 rfl) ?_
          refine lv_ishl E.1 E.2.1 dX1_notesOf_42 ?_
          refine lv_ior E.1 E.2.1 dX1_notesOf_43 ?_
          refine lv_istore_n (lv' := [(2, .int (v2 ||| ((1 : Int32) <<< (v4 &&& 31)))), (0, .ref (ad G v0)), (1, .int v1), (3, .int v3), (4, .int v4)]) E.1 E.2.1 dX1_notesOf_44 rfl hl (by decide) rfl (fun ls hl => ?_)
          refine lv_iinc (v := v4 + 1) (lv' := [(4, .int (v4 + 1)), (2, .int (v2 ||| ((1 : Int32) <<< (v4 &&& 31)))), (0, .ref (ad G v0)), (1, .int v1), (3, .int v3)]) E.1 E.2.1 dX1_notesOf_45 hl (k := 4) rfl rfl (by decide) rfl (fun ls hl => ?_)
          refine lv_goto (tgt := 12) E.1 E.2.1 dX1_notesOf_48 (by decide) ?_
          exact ih _ _ _ _ _ _ _ _ hf w t_v0 (lv_sub hl [2, 3, 1, 4, 0] rfl)

def X1_notesOf_l4 (N : Nat) (h : HS) : Nat → Nat → Int32 → Int32 → Int32 → Option Int32
  | 0, _, _, _, _ => none
  | n + 1, v0, v1, v2, v3 => (if (5 : Int32) ≤ v3 then some v2 else X1_notesOf_l12 N h (X1_notesOf_l4 N h n) N v0 v1 v2 v3 1)
set_option maxRecDepth 4000 in
set_option maxHeartbeats 2000000 in
theorem X1_notesOf_l4_w {p : Program} {l : Launch} {e : Env} {s : State} {m : MethodId} {args : Array Value} {below : List Frame} {meth : Method} {c : Code} {G : GT} {N : Nat} {h : HS} {z : Int32} (E : CallFix p m c cX1_notesOf 5 s args UW RX1) (hr : meth.sig.returnType = (some .int)) (hlk : meth.locks = false) : ∀ (n : Nat) (H : Heap) (locs : List Loc) (ls : Array Slot) (v0 : Nat) (v1 : Int32) (v2 : Int32) (v3 : Int32), X1_notesOf_l4 N h n v0 v1 v2 v3 = some z → WD G s h H locs → sh v0 = 1 → lv_has ls 5 [(0, .ref (ad G v0)), (1, .int v1), (2, .int v2), (3, .int v3)] → W p l e ({ frames := 1, cells := 0, slots := 0, locals := 23 } : Room) s m args below meth c H locs 0 0 (MQ below (QC G (some (.int z)) h) args s 0 0 (AD G)) (F0 m 4 ls []) := by
  intro n
  induction n with
  | zero =>
    intro H locs ls v0 v1 v2 v3 hf
    cases hf
  | succ n ih =>
    intro H locs ls v0 v1 v2 v3 hf w t_v0 hl
    unfold X1_notesOf_l4 at hf
    refine lv_iload_n E.1 E.2.1 dX1_notesOf_4 rfl (lv_at hl 3 rfl) ?_
    refine lv_iconst (v := 5) E.1 E.2.1 dX1_notesOf_5 rfl ?_
    refine lv_icmp_ge (tgt := 57) E.1 E.2.1 dX1_notesOf_6 (by decide) (fun c1 => ?_) (fun c1 => ?_)
    · have hf := q_pos c1 hf
      refine lv_iload_n E.1 E.2.1 dX1_notesOf_57 rfl (lv_at hl 2 rfl) ?_
      have hf := Option.some.inj hf
      subst hf
      exact q_iret E w hr hlk dX1_notesOf_58
    · have hf := q_neg c1 hf
      refine lv_iconst (v := 1) E.1 E.2.1 dX1_notesOf_9 rfl ?_
      refine lv_istore (lv' := [(4, .int 1), (0, .ref (ad G v0)), (1, .int v1), (2, .int v2), (3, .int v3)]) E.1 E.2.1 dX1_notesOf_10 hl (by decide) rfl (fun ls hl => ?_)
      exact X1_notesOf_l12_w E hr hlk ih N _ _ _ _ _ _ _ _ hf w t_v0 (lv_sub hl [1, 2, 3, 4, 0] rfl)

def X1_notesOf (N : Nat) (h : HS) (v0 : Nat) (v1 : Int32) : Option Int32 := X1_notesOf_l4 N h N v0 v1 0 0
set_option maxRecDepth 4000 in
set_option maxHeartbeats 2000000 in
theorem X1_notesOf_c {l : Launch} {G : GT} {N : Nat} {h : HS} {v0 : Nat} {v1 : Int32} {z : Int32} (t_v0 : sh v0 = 1) (hf : X1_notesOf N h v0 v1 = some z) : CT l G yX1_notesOf cX1_notesOf 5 (some .int) 1 23 [.ref (ad G v0), .int v1] h (some (.int z)) h := by
  unfold X1_notesOf at hf
  refine CT.of (by decide) (Nat.le_of_ble_eq_true rfl) ?_
  intro p e s m below meth c ls E hr hlk w hl
  have hl : lv_has ls 5 [(0, .ref (ad G v0)), (1, .int v1)] := hl
  refine lv_iconst (v := 0) E.1 E.2.1 dX1_notesOf_0 rfl ?_
  refine lv_istore_n (lv' := [(2, .int 0), (0, .ref (ad G v0)), (1, .int v1)]) E.1 E.2.1 dX1_notesOf_1 rfl hl (by decide) rfl (fun ls hl => ?_)
  refine lv_iconst (v := 0) E.1 E.2.1 dX1_notesOf_2 rfl ?_
  refine lv_istore_n (lv' := [(3, .int 0), (2, .int 0), (0, .ref (ad G v0)), (1, .int v1)]) E.1 E.2.1 dX1_notesOf_3 rfl hl (by decide) rfl (fun ls hl => ?_)
  exact X1_notesOf_l4_w E hr hlk N _ _ _ _ _ _ _ hf w t_v0 (lv_sub hl [2, 3, 1, 0] rfl)

def X1_notesSung_l4 (N : Nat) (h : HS) : Nat → Nat → Int32 → Int32 → Option Int32
  | 0, _, _, _ => none
  | n + 1, v0, v1, v2 => (if (8 : Int32) ≤ v2 then some v1 else bd1 (X1_sounds N h v0 v2) fun r3 => (if r3 = 0 then X1_notesSung_l4 N h n v0 v1 (v2 + 1) else (if v2 < 0 ∨ 8 ≤ v2.toNatClampNeg then none else X1_notesSung_l4 N h n v0 (v1 ||| ((1 : Int32) <<< ((h.1 (v0 + 3) v2.toNatClampNeg) &&& 31))) (v2 + 1))))
set_option maxRecDepth 4000 in
set_option maxHeartbeats 2000000 in
theorem X1_notesSung_l4_w {p : Program} {l : Launch} {e : Env} {s : State} {m : MethodId} {args : Array Value} {below : List Frame} {meth : Method} {c : Code} {G : GT} {N : Nat} {h : HS} {z : Int32} (E : CallFix p m c cX1_notesSung 3 s args UW RX1) (hr : meth.sig.returnType = (some .int)) (hlk : meth.locks = false) : ∀ (n : Nat) (H : Heap) (locs : List Loc) (ls : Array Slot) (v0 : Nat) (v1 : Int32) (v2 : Int32), X1_notesSung_l4 N h n v0 v1 v2 = some z → WD G s h H locs → sh v0 = 1 → lv_has ls 3 [(0, .ref (ad G v0)), (1, .int v1), (2, .int v2)] → W p l e ({ frames := 2, cells := 0, slots := 0, locals := 42 } : Room) s m args below meth c H locs 0 0 (MQ below (QC G (some (.int z)) h) args s 0 0 (AD G)) (F0 m 4 ls []) := by
  intro n
  induction n with
  | zero =>
    intro H locs ls v0 v1 v2 hf
    cases hf
  | succ n ih =>
    intro H locs ls v0 v1 v2 hf w t_v0 hl
    unfold X1_notesSung_l4 at hf
    refine lv_iload_n E.1 E.2.1 dX1_notesSung_4 rfl (lv_at hl 2 rfl) ?_
    refine lv_bipush (v := 8) E.1 E.2.1 dX1_notesSung_5 rfl ?_
    refine lv_icmp_ge (tgt := 35) E.1 E.2.1 dX1_notesSung_7 (by decide) (fun c1 => ?_) (fun c1 => ?_)
    · have hf := q_pos c1 hf
      refine lv_iload_n E.1 E.2.1 dX1_notesSung_35 rfl (lv_at hl 1 rfl) ?_
      have hf := Option.some.inj hf
      subst hf
      exact q_iret E w hr hlk dX1_notesSung_36
    · have hf := q_neg c1 hf
      refine lv_aload_n E.1 E.2.1 dX1_notesSung_10 rfl (lv_at hl 0 rfl) ?_
      refine lv_iload_n E.1 E.2.1 dX1_notesSung_11 rfl (lv_at hl 2 rfl) ?_
      obtain ⟨r3, hc2, hf⟩ := bd1_e hf
      refine k_Vi (As := [.int v2]) (rest := []) E w t_v0 ⟨by decide, rfl⟩ (X1_sounds_c t_v0 hc2) mv_RX1_71 rfl rfl hl.1 ⟨Nat.le_of_ble_eq_true rfl, Nat.le_of_ble_eq_true rfl⟩ (Nat.le_of_ble_eq_true rfl) ⟨Nat.le_refl _, Nat.le_refl _⟩ dX1_notesSung_12 (fun H locs w => ?_)
      refine lv_if_eq (tgt := 29) E.1 E.2.1 dX1_notesSung_15 (by decide) (fun c5 => ?_) (fun c5 => ?_)
      · have hf := q_pos c5 hf
        refine lv_iinc (v := v2 + 1) (lv' := [(2, .int (v2 + 1)), (0, .ref (ad G v0)), (1, .int v1)]) E.1 E.2.1 dX1_notesSung_29 hl (k := 2) rfl rfl (by decide) rfl (fun ls hl => ?_)
        refine lv_goto (tgt := 4) E.1 E.2.1 dX1_notesSung_32 (by decide) ?_
        exact ih _ _ _ _ _ _ hf w t_v0 (lv_sub hl [1, 2, 0] rfl)
      · have hf := q_neg c5 hf
        refine lv_iload_n E.1 E.2.1 dX1_notesSung_18 rfl (lv_at hl 1 rfl) ?_
        refine lv_iconst (v := 1) E.1 E.2.1 dX1_notesSung_19 rfl ?_
        refine lv_aload_n E.1 E.2.1 dX1_notesSung_20 rfl (lv_at hl 0 rfl) ?_
        refine q_gs E w 3 t_v0 fl_RX1_34 dX1_notesSung_21 ?_
        refine lv_iload_n E.1 E.2.1 dX1_notesSung_24 rfl (lv_at hl 2 rfl) ?_
        obtain ⟨b6, hf⟩ := q_if hf
        refine q_iald E w ((lay_1_7 t_v0).1) ((lay_1_7 t_v0).2) b6 dX1_notesSung_25 ?_
        refine lv_ishl E.1 E.2.1 dX1_notesSung_26 ?_
        refine lv_ior E.1 E.2.1 dX1_notesSung_27 ?_
        refine lv_istore_n (lv' := [(1, .int (v1 ||| ((1 : Int32) <<< ((h.1 (v0 + 3) v2.toNatClampNeg) &&& 31)))), (0, .ref (ad G v0)), (2, .int v2)]) E.1 E.2.1 dX1_notesSung_28 rfl hl (by decide) rfl (fun ls hl => ?_)
        refine lv_iinc (v := v2 + 1) (lv' := [(2, .int (v2 + 1)), (1, .int (v1 ||| ((1 : Int32) <<< ((h.1 (v0 + 3) v2.toNatClampNeg) &&& 31)))), (0, .ref (ad G v0))]) E.1 E.2.1 dX1_notesSung_29 hl (k := 2) rfl rfl (by decide) rfl (fun ls hl => ?_)
        refine lv_goto (tgt := 4) E.1 E.2.1 dX1_notesSung_32 (by decide) ?_
        exact ih _ _ _ _ _ _ hf w t_v0 (lv_sub hl [2, 1, 0] rfl)

def X1_notesSung (N : Nat) (h : HS) (v0 : Nat) : Option Int32 := X1_notesSung_l4 N h N v0 0 0
set_option maxRecDepth 4000 in
set_option maxHeartbeats 2000000 in
theorem X1_notesSung_c {l : Launch} {G : GT} {N : Nat} {h : HS} {v0 : Nat} {z : Int32} (t_v0 : sh v0 = 1) (hf : X1_notesSung N h v0 = some z) : CT l G yX1_notesSung cX1_notesSung 3 (some .int) 2 42 [.ref (ad G v0)] h (some (.int z)) h := by
  unfold X1_notesSung at hf
  refine CT.of (by decide) (Nat.le_of_ble_eq_true rfl) ?_
  intro p e s m below meth c ls E hr hlk w hl
  have hl : lv_has ls 3 [(0, .ref (ad G v0))] := hl
  refine lv_iconst (v := 0) E.1 E.2.1 dX1_notesSung_0 rfl ?_
  refine lv_istore_n (lv' := [(1, .int 0), (0, .ref (ad G v0))]) E.1 E.2.1 dX1_notesSung_1 rfl hl (by decide) rfl (fun ls hl => ?_)
  refine lv_iconst (v := 0) E.1 E.2.1 dX1_notesSung_2 rfl ?_
  refine lv_istore_n (lv' := [(2, .int 0), (1, .int 0), (0, .ref (ad G v0))]) E.1 E.2.1 dX1_notesSung_3 rfl hl (by decide) rfl (fun ls hl => ?_)
  exact X1_notesSung_l4_w E hr hlk N _ _ _ _ _ _ hf w t_v0 (lv_sub hl [2, 1, 0] rfl)

def X10_at (N : Nat) (h : HS) (v0 : Nat) (v1 : Int32) : Option Int32 := (if v1 < 0 then some 0 else (if (nI (ln v0)) ≤ v1 then some 0 else (if v1 < 0 ∨ ln v0 ≤ v1.toNatClampNeg then none else some (h.1 v0 v1.toNatClampNeg))))
set_option maxRecDepth 4000 in
set_option maxHeartbeats 2000000 in
theorem X10_at_c {l : Launch} {G : GT} {N : Nat} {h : HS} {v0 : Nat} {v1 : Int32} {z : Int32} (t_v0 : sh v0 = 13) (hf : X10_at N h v0 v1 = some z) : CT l G yX10_at cX10_at 2 (some .int) 0 0 [.ref (ad G v0), .int v1] h (some (.int z)) h := by
  unfold X10_at at hf
  refine CT.of (by decide) (Nat.le_of_ble_eq_true rfl) ?_
  intro p e s m below meth c ls E hr hlk w hl
  have hl : lv_has ls 2 [(0, .ref (ad G v0)), (1, .int v1)] := hl
  refine lv_iload_n E.1 E.2.1 dX10_at_0 rfl (lv_at hl 1 rfl) ?_
  refine lv_if_lt (tgt := 16) E.1 E.2.1 dX10_at_1 (by decide) (fun c1 => ?_) (fun c1 => ?_)
  · have hf := q_pos c1 hf
    refine lv_iconst (v := 0) E.1 E.2.1 dX10_at_16 rfl ?_
    have hf := Option.some.inj hf
    subst hf
    exact q_iret E w hr hlk dX10_at_17
  · have hf := q_neg c1 hf
    refine lv_iload_n E.1 E.2.1 dX10_at_4 rfl (lv_at hl 1 rfl) ?_
    refine lv_aload_n E.1 E.2.1 dX10_at_5 rfl (lv_at hl 0 rfl) ?_
    refine q_alen (t := 1) E w t_v0 (by decide) dX10_at_6 ?_
    refine lv_icmp_ge (tgt := 16) E.1 E.2.1 dX10_at_7 (by decide) (fun c2 => ?_) (fun c2 => ?_)
    · have hf := q_pos c2 hf
      refine lv_iconst (v := 0) E.1 E.2.1 dX10_at_16 rfl ?_
      have hf := Option.some.inj hf
      subst hf
      exact q_iret E w hr hlk dX10_at_17
    · have hf := q_neg c2 hf
      refine lv_aload_n E.1 E.2.1 dX10_at_10 rfl (lv_at hl 0 rfl) ?_
      refine lv_iload_n E.1 E.2.1 dX10_at_11 rfl (lv_at hl 1 rfl) ?_
      obtain ⟨b3, hf⟩ := q_if hf
      refine q_iald E w t_v0 rfl b3 dX10_at_12 ?_
      refine lv_goto (tgt := 17) E.1 E.2.1 dX10_at_13 (by decide) ?_
      have hf := Option.some.inj hf
      subst hf
      exact q_iret E w hr hlk dX10_at_17

def X1_reachedBy_l14 (N : Nat) (h : HS) : Nat → Nat → Int32 → Int32 → Int32 → Int32 → Option Int32
  | 0, _, _, _, _, _ => none
  | n + 1, v0, v1, v2, v3, v4 => (if (8 : Int32) ≤ v4 then some v3 else bd1 (X10_at N h (v0 + 3) v4) fun r9 => bd1 (X1_sounds N h v0 v4) fun r12 => (if r12 = 0 then X1_reachedBy_l14 N h n v0 v1 v2 v3 (v4 + 1) else (if (r9 + v1) < (1 : Int32) then X1_reachedBy_l14 N h n v0 v1 v2 v3 (v4 + 1) else (if (9 : Int32) < (r9 + v1) then X1_reachedBy_l14 N h n v0 v1 v2 v3 (v4 + 1) else (if ((v2 >>> ((r9 + v1) &&& 31)) &&& 1) = 0 then X1_reachedBy_l14 N h n v0 v1 v2 v3 (v4 + 1) else X1_reachedBy_l14 N h n v0 v1 v2 (v3 + 1) (v4 + 1))))))
set_option maxRecDepth 4000 in
set_option maxHeartbeats 2000000 in
theorem X1_reachedBy_l14_w {p : Program} {l : Launch} {e : Env} {s : State} {m : MethodId} {args : Array Value} {below : List Frame} {meth : Method} {c : Code} {G : GT} {N : Nat} {h : HS} {z : Int32} (E : CallFix p m c cX1_reachedBy 6 s args UW RX1) (hr : meth.sig.returnType = (some .int)) (hlk : meth.locks = false) : ∀ (n : Nat) (H : Heap) (locs : List Loc) (ls : Array Slot) (v0 : Nat) (v1 : Int32) (v2 : Int32) (v3 : Int32) (v4 : Int32), X1_reachedBy_l14 N h n v0 v1 v2 v3 v4 = some z → WD G s h H locs → sh v0 = 1 → lv_has ls 6 [(0, .ref (ad G v0)), (1, .int v1), (2, .int v2), (3, .int v3), (4, .int v4)] → W p l e ({ frames := 2, cells := 0, slots := 0, locals := 47 } : Room) s m args below meth c H locs 0 0 (MQ below (QC G (some (.int z)) h) args s 0 0 (AD G)) (F0 m 14 ls []) := by
  intro n
  induction n with
  | zero =>
    intro H locs ls v0 v1 v2 v3 v4 hf
    cases hf
  | succ n ih =>
    intro H locs ls v0 v1 v2 v3 v4 hf w t_v0 hl
    unfold X1_reachedBy_l14 at hf
    refine lv_iload E.1 E.2.1 dX1_reachedBy_14 (lv_at hl 4 rfl) ?_
    refine lv_bipush (v := 8) E.1 E.2.1 dX1_reachedBy_16 rfl ?_
    refine lv_icmp_ge (tgt := 74) E.1 E.2.1 dX1_reachedBy_18 (by decide) (fun c7 => ?_) (fun c7 => ?_)
    · have hf := q_pos c7 hf
      refine lv_iload_n E.1 E.2.1 dX1_reachedBy_74 rfl (lv_at hl 3 rfl) ?_
      have hf := Option.some.inj hf
      subst hf
      exact q_iret E w hr hlk dX1_reachedBy_75
    · have hf := q_neg c7 hf
      refine lv_aload_n E.1 E.2.1 dX1_reachedBy_21 rfl (lv_at hl 0 rfl) ?_
      refine q_gs E w 3 t_v0 fl_RX1_34 dX1_reachedBy_22 ?_
      refine lv_iload E.1 E.2.1 dX1_reachedBy_25 (lv_at hl 4 rfl) ?_
      obtain ⟨r9, hc8, hf⟩ := bd1_e hf
      refine k_Ni (As := [.ref (ad G (v0 + 3)), .int v4]) (rest := []) E w (X10_at_c ((lay_1_7 t_v0).1) hc8) mn_RX1_86 rfl rfl hl.1 ⟨Nat.le_of_ble_eq_true rfl, Nat.le_of_ble_eq_true rfl⟩ (Nat.le_of_ble_eq_true rfl) ⟨Nat.le_refl _, Nat.le_refl _⟩ dX1_reachedBy_27 (fun H locs w => ?_)
      refine lv_iload_n E.1 E.2.1 dX1_reachedBy_30 rfl (lv_at hl 1 rfl) ?_
      refine lv_iadd E.1 E.2.1 dX1_reachedBy_31 ?_
      refine lv_istore (lv' := [(5, .int (r9 + v1)), (0, .ref (ad G v0)), (1, .int v1), (2, .int v2), (3, .int v3), (4, .int v4)]) E.1 E.2.1 dX1_reachedBy_32 hl (by decide) rfl (fun ls hl => ?_)
      refine lv_aload_n E.1 E.2.1 dX1_reachedBy_34 rfl (lv_at hl 1 rfl) ?_
      refine lv_iload E.1 E.2.1 dX1_reachedBy_35 (lv_at hl 5 rfl) ?_
      obtain ⟨r12, hc11, hf⟩ := bd1_e hf
      refine k_Vi (As := [.int v4]) (rest := []) E w t_v0 ⟨by decide, rfl⟩ (X1_sounds_c t_v0 hc11) mv_RX1_71 rfl rfl hl.1 ⟨Nat.le_of_ble_eq_true rfl, Nat.le_of_ble_eq_true rfl⟩ (Nat.le_of_ble_eq_true rfl) ⟨Nat.le_refl _, Nat.le_refl _⟩ dX1_reachedBy_37 (fun H locs w => ?_)
      refine lv_if_eq (tgt := 68) E.1 E.2.1 dX1_reachedBy_40 (by decide) (fun c14 => ?_) (fun c14 => ?_)
      · have hf := q_pos c14 hf
        refine lv_iinc (v := v4 + 1) (lv' := [(4, .int (v4 + 1)), (5, .int (r9 + v1)), (0, .ref (ad G v0)), (1, .int v1), (2, .int v2), (3, .int v3)]) E.1 E.2.1 dX1_reachedBy_68 hl (k := 5) rfl rfl (by decide) rfl (fun ls hl => ?_)
        refine lv_goto (tgt := 14) E.1 E.2.1 dX1_reachedBy_71 (by decide) ?_
        exact ih _ _ _ _ _ _ _ _ hf w t_v0 (lv_sub hl [2, 3, 4, 5, 0] rfl)
      · have hf := q_neg c14 hf
        refine lv_iload E.1 E.2.1 dX1_reachedBy_43 (lv_at hl 0 rfl) ?_
        refine lv_iconst (v := 1) E.1 E.2.1 dX1_reachedBy_45 rfl ?_
        refine lv_icmp_lt (tgt := 68) E.1 E.2.1 dX1_reachedBy_46 (by decide) (fun c15 => ?_) (fun c15 => ?_)
        · have hf := q_pos c15 hf
          refine lv_iinc (v := v4 + 1) (lv' := [(4, .int (v4 + 1)), (5, .int (r9 + v1)), (0, .ref (ad G v0)), (1, .int v1), (2, .int v2), (3, .int v3)]) E.1 E.2.1 dX1_reachedBy_68 hl (k := 5) rfl rfl (by decide) rfl (fun ls hl => ?_)
          refine lv_goto (tgt := 14) E.1 E.2.1 dX1_reachedBy_71 (by decide) ?_
          exact ih _ _ _ _ _ _ _ _ hf w t_v0 (lv_sub hl [2, 3, 4, 5, 0] rfl)
        · have hf := q_neg c15 hf
          refine lv_iload E.1 E.2.1 dX1_reachedBy_49 (lv_at hl 0 rfl) ?_
          refine lv_bipush (v := 9) E.1 E.2.1 dX1_reachedBy_51 rfl ?_
          refine lv_icmp_gt (tgt := 68) E.1 E.2.1 dX1_reachedBy_53 (by decide) (fun c16 => ?_) (fun c16 => ?_)
          · have hf := q_pos c16 hf
            refine lv_iinc (v := v4 + 1) (lv' := [(4, .int (v4 + 1)), (5, .int (r9 + v1)), (0, .ref (ad G v0)), (1, .int v1), (2, .int v2), (3, .int v3)]) E.1 E.2.1 dX1_reachedBy_68 hl (k := 5) rfl rfl (by decide) rfl (fun ls hl => ?_)
            refine lv_goto (tgt := 14) E.1 E.2.1 dX1_reachedBy_71 (by decide) ?_
            exact ih _ _ _ _ _ _ _ _ hf w t_v0 (lv_sub hl [2, 3, 4, 5, 0] rfl)
          · have hf := q_neg c16 hf
            refine lv_iload_n E.1 E.2.1 dX1_reachedBy_56 rfl (lv_at hl 3 rfl) ?_
            refine lv_iload E.1 E.2.1 dX1_reachedBy_57 (lv_at hl 0 rfl) ?_
            refine lv_ishr E.1 E.2.1 dX1_reachedBy_59 ?_
            refine lv_iconst (v := 1) E.1 E.2.1 dX1_reachedBy_60 rfl ?_
            refine lv_iand E.1 E.2.1 dX1_reachedBy_61 ?_
            refine lv_if_eq (tgt := 68) E.1 E.2.1 dX1_reachedBy_62 (by decide) (fun c17 => ?_) (fun c17 => ?_)
            · have hf := q_pos c17 hf
              refine lv_iinc (v := v4 + 1) (lv' := [(4, .int (v4 + 1)), (5, .int (r9 + v1)), (0, .ref (ad G v0)), (1, .int v1), (2, .int v2), (3, .int v3)]) E.1 E.2.1 dX1_reachedBy_68 hl (k := 5) rfl rfl (by decide) rfl (fun ls hl => ?_)
              refine lv_goto (tgt := 14) E.1 E.2.1 dX1_reachedBy_71 (by decide) ?_
              exact ih _ _ _ _ _ _ _ _ hf w t_v0 (lv_sub hl [2, 3, 4, 5, 0] rfl)
            · have hf := q_neg c17 hf
              refine lv_iinc (v := v3 + 1) (lv' := [(3, .int (v3 + 1)), (5, .int (r9 + v1)), (0, .ref (ad G v0)), (1, .int v1), (2, .int v2), (4, .int v4)]) E.1 E.2.1 dX1_reachedBy_65 hl (k := 4) rfl rfl (by decide) rfl (fun ls hl => ?_)
              refine lv_iinc (v := v4 + 1) (lv' := [(4, .int (v4 + 1)), (3, .int (v3 + 1)), (5, .int (r9 + v1)), (0, .ref (ad G v0)), (1, .int v1), (2, .int v2)]) E.1 E.2.1 dX1_reachedBy_68 hl (k := 5) rfl rfl (by decide) rfl (fun ls hl => ?_)
              refine lv_goto (tgt := 14) E.1 E.2.1 dX1_reachedBy_71 (by decide) ?_
              exact ih _ _ _ _ _ _ _ _ hf w t_v0 (lv_sub hl [3, 4, 5, 1, 0] rfl)

def X1_reachedBy (N : Nat) (h : HS) (v0 : Nat) (v1 : Int32) : Option Int32 := bd1 (X1_everybody N h v0) fun r2 => bd1 (X1_notesOf N h v0 r2) fun r5 => X1_reachedBy_l14 N h N v0 v1 r5 0 0
set_option maxRecDepth 4000 in
set_option maxHeartbeats 2000000 in
theorem X1_reachedBy_c {l : Launch} {G : GT} {N : Nat} {h : HS} {v0 : Nat} {v1 : Int32} {z : Int32} (t_v0 : sh v0 = 1) (hf : X1_reachedBy N h v0 v1 = some z) : CT l G yX1_reachedBy cX1_reachedBy 6 (some .int) 2 47 [.ref (ad G v0), .int v1] h (some (.int z)) h := by
  unfold X1_reachedBy at hf
  refine CT.of (by decide) (Nat.le_of_ble_eq_true rfl) ?_
  intro p e s m below meth c ls E hr hlk w hl
  have hl : lv_has ls 6 [(0, .ref (ad G v0)), (1, .int v1)] := hl
  refine lv_aload_n E.1 E.2.1 dX1_reachedBy_0 rfl (lv_at hl 0 rfl) ?_
  refine lv_aload_n E.1 E.2.1 dX1_reachedBy_1 rfl (lv_at hl 0 rfl) ?_
  obtain ⟨r2, hc1, hf⟩ := bd1_e hf
  refine k_Vi (As := []) (rest := [.ref (ad G v0)]) E w t_v0 ⟨by decide, rfl⟩ (X1_everybody_c t_v0 hc1) mv_RX1_78 rfl rfl hl.1 ⟨Nat.le_of_ble_eq_true rfl, Nat.le_of_ble_eq_true rfl⟩ (Nat.le_of_ble_eq_true rfl) ⟨Nat.le_refl _, Nat.le_refl _⟩ dX1_reachedBy_2 (fun H locs w => ?_)
  obtain ⟨r5, hc4, hf⟩ := bd1_e hf
  refine k_Vi (As := [.int r2]) (rest := []) E w t_v0 ⟨by decide, rfl⟩ (X1_notesOf_c t_v0 hc4) mv_RX1_82 rfl rfl hl.1 ⟨Nat.le_of_ble_eq_true rfl, Nat.le_of_ble_eq_true rfl⟩ (Nat.le_of_ble_eq_true rfl) ⟨Nat.le_refl _, Nat.le_refl _⟩ dX1_reachedBy_5 (fun H locs w => ?_)
  refine lv_istore_n (lv' := [(2, .int r5), (0, .ref (ad G v0)), (1, .int v1)]) E.1 E.2.1 dX1_reachedBy_8 rfl hl (by decide) rfl (fun ls hl => ?_)
  refine lv_iconst (v := 0) E.1 E.2.1 dX1_reachedBy_9 rfl ?_
  refine lv_istore_n (lv' := [(3, .int 0), (2, .int r5), (0, .ref (ad G v0)), (1, .int v1)]) E.1 E.2.1 dX1_reachedBy_10 rfl hl (by decide) rfl (fun ls hl => ?_)
  refine lv_iconst (v := 0) E.1 E.2.1 dX1_reachedBy_11 rfl ?_
  refine lv_istore (lv' := [(4, .int 0), (3, .int 0), (2, .int r5), (0, .ref (ad G v0)), (1, .int v1)]) E.1 E.2.1 dX1_reachedBy_12 hl (by decide) rfl (fun ls hl => ?_)
  exact X1_reachedBy_l14_w E hr hlk N _ _ _ _ _ _ _ _ hf w t_v0 (lv_sub hl [3, 4, 2, 1, 0] rfl)

def X1_mutes_l13 (N : Nat) (h : HS) : Nat → Nat → Int32 → Int32 → Int32 → Option Int32
  | 0, _, _, _, _ => none
  | n + 1, v0, v1, v2, v3 => (if (8 : Int32) ≤ v3 then some v2 else bd1 (X1_sounds N h v0 v3) fun r9 => (if r9 = 0 then X1_mutes_l13 N h n v0 v1 v2 (v3 + 1) else (if v3 < 0 ∨ 8 ≤ v3.toNatClampNeg then none else (if ((v1 >>> ((h.1 (v0 + 3) v3.toNatClampNeg) &&& 31)) &&& 1) = 0 then X1_mutes_l13 N h n v0 v1 (v2 ||| ((1 : Int32) <<< (v3 &&& 31))) (v3 + 1) else X1_mutes_l13 N h n v0 v1 v2 (v3 + 1)))))
set_option maxRecDepth 4000 in
set_option maxHeartbeats 2000000 in
theorem X1_mutes_l13_w {p : Program} {l : Launch} {e : Env} {s : State} {m : MethodId} {args : Array Value} {below : List Frame} {meth : Method} {c : Code} {G : GT} {N : Nat} {h : HS} {z : Int32} (E : CallFix p m c cX1_mutes 4 s args UW RX1) (hr : meth.sig.returnType = (some .int)) (hlk : meth.locks = false) : ∀ (n : Nat) (H : Heap) (locs : List Loc) (ls : Array Slot) (v0 : Nat) (v1 : Int32) (v2 : Int32) (v3 : Int32), X1_mutes_l13 N h n v0 v1 v2 v3 = some z → WD G s h H locs → sh v0 = 1 → lv_has ls 4 [(0, .ref (ad G v0)), (1, .int v1), (2, .int v2), (3, .int v3)] → W p l e ({ frames := 2, cells := 0, slots := 0, locals := 47 } : Room) s m args below meth c H locs 0 0 (MQ below (QC G (some (.int z)) h) args s 0 0 (AD G)) (F0 m 13 ls []) := by
  intro n
  induction n with
  | zero =>
    intro H locs ls v0 v1 v2 v3 hf
    cases hf
  | succ n ih =>
    intro H locs ls v0 v1 v2 v3 hf w t_v0 hl
    unfold X1_mutes_l13 at hf
    refine lv_iload_n E.1 E.2.1 dX1_mutes_13 rfl (lv_at hl 3 rfl) ?_
    refine lv_bipush (v := 8) E.1 E.2.1 dX1_mutes_14 rfl ?_
    refine lv_icmp_ge (tgt := 52) E.1 E.2.1 dX1_mutes_16 (by decide) (fun c7 => ?_) (fun c7 => ?_)
    · have hf := q_pos c7 hf
      refine lv_iload_n E.1 E.2.1 dX1_mutes_52 rfl (lv_at hl 2 rfl) ?_
      have hf := Option.some.inj hf
      subst hf
      exact q_iret E w hr hlk dX1_mutes_53
    · have hf := q_neg c7 hf
      refine lv_aload_n E.1 E.2.1 dX1_mutes_19 rfl (lv_at hl 0 rfl) ?_
      refine lv_iload_n E.1 E.2.1 dX1_mutes_20 rfl (lv_at hl 3 rfl) ?_
      obtain ⟨r9, hc8, hf⟩ := bd1_e hf
      refine k_Vi (As := [.int v3]) (rest := []) E w t_v0 ⟨by decide, rfl⟩ (X1_sounds_c t_v0 hc8) mv_RX1_71 rfl rfl hl.1 ⟨Nat.le_of_ble_eq_true rfl, Nat.le_of_ble_eq_true rfl⟩ (Nat.le_of_ble_eq_true rfl) ⟨Nat.le_refl _, Nat.le_refl _⟩ dX1_mutes_21 (fun H locs w => ?_)
      refine lv_if_eq (tgt := 46) E.1 E.2.1 dX1_mutes_24 (by decide) (fun c11 => ?_) (fun c11 => ?_)
      · have hf := q_pos c11 hf
        refine lv_iinc (v := v3 + 1) (lv' := [(3, .int (v3 + 1)), (0, .ref (ad G v0)), (1, .int v1), (2, .int v2)]) E.1 E.2.1 dX1_mutes_46 hl (k := 3) rfl rfl (by decide) rfl (fun ls hl => ?_)
        refine lv_goto (tgt := 13) E.1 E.2.1 dX1_mutes_49 (by decide) ?_
        exact ih _ _ _ _ _ _ _ hf w t_v0 (lv_sub hl [1, 2, 3, 0] rfl)
      · have hf := q_neg c11 hf
        refine lv_iload_n E.1 E.2.1 dX1_mutes_27 rfl (lv_at hl 1 rfl) ?_
        refine lv_aload_n E.1 E.2.1 dX1_mutes_28 rfl (lv_at hl 0 rfl) ?_
        refine q_gs E w 3 t_v0 fl_RX1_34 dX1_mutes_29 ?_
        refine lv_iload_n E.1 E.2.1 dX1_mutes_32 rfl (lv_at hl 3 rfl) ?_
        obtain ⟨b12, hf⟩ := q_if hf
        refine q_iald E w ((lay_1_7 t_v0).1) ((lay_1_7 t_v0).2) b12 dX1_mutes_33 ?_
        refine lv_ishr E.1 E.2.1 dX1_mutes_34 ?_
        refine lv_iconst (v := 1) E.1 E.2.1 dX1_mutes_35 rfl ?_
        refine lv_iand E.1 E.2.1 dX1_mutes_36 ?_
        refine lv_if_ne (tgt := 46) E.1 E.2.1 dX1_mutes_37 (by decide) (fun c13 => ?_) (fun c13 => ?_)
        · have hf := q_neg c13 hf
          refine lv_iinc (v := v3 + 1) (lv' := [(3, .int (v3 + 1)), (0, .ref (ad G v0)), (1, .int v1), (2, .int v2)]) E.1 E.2.1 dX1_mutes_46 hl (k := 3) rfl rfl (by decide) rfl (fun ls hl => ?_)
          refine lv_goto (tgt := 13) E.1 E.2.1 dX1_mutes_49 (by decide) ?_
          exact ih _ _ _ _ _ _ _ hf w t_v0 (lv_sub hl [1, 2, 3, 0] rfl)
        · have hf := q_pos c13 hf
          refine lv_iload_n E.1 E.2.1 dX1_mutes_40 rfl (lv_at hl 2 rfl) ?_
          refine lv_iconst (v := 1) E.1 E.2.1 dX1_mutes_41 rfl ?_
          refine lv_iload_n E.1 E.2.1 dX1_mutes_42 rfl (lv_at hl 3 rfl) ?_
          refine lv_ishl E.1 E.2.1 dX1_mutes_43 ?_
          refine lv_ior E.1 E.2.1 dX1_mutes_44 ?_
          refine lv_istore_n (lv' := [(2, .int (v2 ||| ((1 : Int32) <<< (v3 &&& 31)))), (0, .ref (ad G v0)), (1, .int v1), (3, .int v3)]) E.1 E.2.1 dX1_mutes_45 rfl hl (by decide) rfl (fun ls hl => ?_)
          refine lv_iinc (v := v3 + 1) (lv' := [(3, .int (v3 + 1)), (2, .int (v2 ||| ((1 : Int32) <<< (v3 &&& 31)))), (0, .ref (ad G v0)), (1, .int v1)]) E.1 E.2.1 dX1_mutes_46 hl (k := 3) rfl rfl (by decide) rfl (fun ls hl => ?_)
          refine lv_goto (tgt := 13) E.1 E.2.1 dX1_mutes_49 (by decide) ?_
          exact ih _ _ _ _ _ _ _ hf w t_v0 (lv_sub hl [2, 3, 1, 0] rfl)

def X1_mutes (N : Nat) (h : HS) (v0 : Nat) : Option Int32 := bd1 (X1_everybody N h v0) fun r2 => bd1 (X1_notesOf N h v0 r2) fun r5 => X1_mutes_l13 N h N v0 r5 0 0
set_option maxRecDepth 4000 in
set_option maxHeartbeats 2000000 in
theorem X1_mutes_c {l : Launch} {G : GT} {N : Nat} {h : HS} {v0 : Nat} {z : Int32} (t_v0 : sh v0 = 1) (hf : X1_mutes N h v0 = some z) : CT l G yX1_mutes cX1_mutes 4 (some .int) 2 47 [.ref (ad G v0)] h (some (.int z)) h := by
  unfold X1_mutes at hf
  refine CT.of (by decide) (Nat.le_of_ble_eq_true rfl) ?_
  intro p e s m below meth c ls E hr hlk w hl
  have hl : lv_has ls 4 [(0, .ref (ad G v0))] := hl
  refine lv_aload_n E.1 E.2.1 dX1_mutes_0 rfl (lv_at hl 0 rfl) ?_
  refine lv_aload_n E.1 E.2.1 dX1_mutes_1 rfl (lv_at hl 0 rfl) ?_
  obtain ⟨r2, hc1, hf⟩ := bd1_e hf
  refine k_Vi (As := []) (rest := [.ref (ad G v0)]) E w t_v0 ⟨by decide, rfl⟩ (X1_everybody_c t_v0 hc1) mv_RX1_78 rfl rfl hl.1 ⟨Nat.le_of_ble_eq_true rfl, Nat.le_of_ble_eq_true rfl⟩ (Nat.le_of_ble_eq_true rfl) ⟨Nat.le_refl _, Nat.le_refl _⟩ dX1_mutes_2 (fun H locs w => ?_)
  obtain ⟨r5, hc4, hf⟩ := bd1_e hf
  refine k_Vi (As := [.int r2]) (rest := []) E w t_v0 ⟨by decide, rfl⟩ (X1_notesOf_c t_v0 hc4) mv_RX1_82 rfl rfl hl.1 ⟨Nat.le_of_ble_eq_true rfl, Nat.le_of_ble_eq_true rfl⟩ (Nat.le_of_ble_eq_true rfl) ⟨Nat.le_refl _, Nat.le_refl _⟩ dX1_mutes_5 (fun H locs w => ?_)
  refine lv_istore_n (lv' := [(1, .int r5), (0, .ref (ad G v0))]) E.1 E.2.1 dX1_mutes_8 rfl hl (by decide) rfl (fun ls hl => ?_)
  refine lv_iconst (v := 0) E.1 E.2.1 dX1_mutes_9 rfl ?_
  refine lv_istore_n (lv' := [(2, .int 0), (1, .int r5), (0, .ref (ad G v0))]) E.1 E.2.1 dX1_mutes_10 rfl hl (by decide) rfl (fun ls hl => ?_)
  refine lv_iconst (v := 0) E.1 E.2.1 dX1_mutes_11 rfl ?_
  refine lv_istore_n (lv' := [(3, .int 0), (2, .int 0), (1, .int r5), (0, .ref (ad G v0))]) E.1 E.2.1 dX1_mutes_12 rfl hl (by decide) rfl (fun ls hl => ?_)
  exact X1_mutes_l13_w E hr hlk N _ _ _ _ _ _ _ hf w t_v0 (lv_sub hl [3, 2, 1, 0] rfl)

def X1_from (N : Nat) (h : HS) (v0 : Nat) (v1 : Int32) : Option Int32 := some ((((1 : Int32) <<< ((h.1 v0 0) &&& 31)) - 1) &&& (((-1) : Int32) <<< (v1 &&& 31)))
set_option maxRecDepth 4000 in
set_option maxHeartbeats 2000000 in
theorem X1_from_c {l : Launch} {G : GT} {N : Nat} {h : HS} {v0 : Nat} {v1 : Int32} {z : Int32} (t_v0 : sh v0 = 1) (hf : X1_from N h v0 v1 = some z) : CT l G yX1_from cX1_from 2 (some .int) 0 0 [.ref (ad G v0), .int v1] h (some (.int z)) h := by
  unfold X1_from at hf
  refine CT.of (by decide) (Nat.le_of_ble_eq_true rfl) ?_
  intro p e s m below meth c ls E hr hlk w hl
  have hl : lv_has ls 2 [(0, .ref (ad G v0)), (1, .int v1)] := hl
  refine lv_iconst (v := 1) E.1 E.2.1 dX1_from_0 rfl ?_
  refine lv_aload_n E.1 E.2.1 dX1_from_1 rfl (lv_at hl 0 rfl) ?_
  refine q_gi E w t_v0 fl_RX1_9 dX1_from_2 ?_
  refine lv_ishl E.1 E.2.1 dX1_from_5 ?_
  refine lv_iconst (v := 1) E.1 E.2.1 dX1_from_6 rfl ?_
  refine lv_isub E.1 E.2.1 dX1_from_7 ?_
  refine lv_iconst (v := (-1)) E.1 E.2.1 dX1_from_8 rfl ?_
  refine lv_iload_n E.1 E.2.1 dX1_from_9 rfl (lv_at hl 1 rfl) ?_
  refine lv_ishl E.1 E.2.1 dX1_from_10 ?_
  refine lv_iand E.1 E.2.1 dX1_from_11 ?_
  have hf := Option.some.inj hf
  subst hf
  exact q_iret E w hr hlk dX1_from_12

def X1_peopleOf_l4 (N : Nat) (h : HS) : Nat → Nat → Int32 → Int32 → Int32 → Option Int32
  | 0, _, _, _, _ => none
  | n + 1, v0, v1, v2, v3 => (if (h.1 v0 0) ≤ v3 then some v2 else (if (6 : Int32) ≤ v3 then some v2 else (if v3 < 0 ∨ 6 ≤ v3.toNatClampNeg then none else X1_peopleOf_l4 N h n v0 v1 (v2 + (((v1 >>> (v3 &&& 31)) &&& 1) * (h.1 (v0 + 2) v3.toNatClampNeg))) (v3 + 1))))
set_option maxRecDepth 4000 in
set_option maxHeartbeats 2000000 in
theorem X1_peopleOf_l4_w {p : Program} {l : Launch} {e : Env} {s : State} {m : MethodId} {args : Array Value} {below : List Frame} {meth : Method} {c : Code} {G : GT} {N : Nat} {h : HS} {z : Int32} (E : CallFix p m c cX1_peopleOf 4 s args UW RX1) (hr : meth.sig.returnType = (some .int)) (hlk : meth.locks = false) : ∀ (n : Nat) (H : Heap) (locs : List Loc) (ls : Array Slot) (v0 : Nat) (v1 : Int32) (v2 : Int32) (v3 : Int32), X1_peopleOf_l4 N h n v0 v1 v2 v3 = some z → WD G s h H locs → sh v0 = 1 → lv_has ls 4 [(0, .ref (ad G v0)), (1, .int v1), (2, .int v2), (3, .int v3)] → W p l e ({ frames := 0, cells := 0, slots := 0, locals := 0 } : Room) s m args below meth c H locs 0 0 (MQ below (QC G (some (.int z)) h) args s 0 0 (AD G)) (F0 m 4 ls []) := by
  intro n
  induction n with
  | zero =>
    intro H locs ls v0 v1 v2 v3 hf
    cases hf
  | succ n ih =>
    intro H locs ls v0 v1 v2 v3 hf w t_v0 hl
    unfold X1_peopleOf_l4 at hf
    refine lv_iload_n E.1 E.2.1 dX1_peopleOf_4 rfl (lv_at hl 3 rfl) ?_
    refine lv_aload_n E.1 E.2.1 dX1_peopleOf_5 rfl (lv_at hl 0 rfl) ?_
    refine q_gi E w t_v0 fl_RX1_9 dX1_peopleOf_6 ?_
    refine lv_icmp_ge (tgt := 39) E.1 E.2.1 dX1_peopleOf_9 (by decide) (fun c1 => ?_) (fun c1 => ?_)
    · have hf := q_pos c1 hf
      refine lv_iload_n E.1 E.2.1 dX1_peopleOf_39 rfl (lv_at hl 2 rfl) ?_
      have hf := Option.some.inj hf
      subst hf
      exact q_iret E w hr hlk dX1_peopleOf_40
    · have hf := q_neg c1 hf
      refine lv_iload_n E.1 E.2.1 dX1_peopleOf_12 rfl (lv_at hl 3 rfl) ?_
      refine lv_bipush (v := 6) E.1 E.2.1 dX1_peopleOf_13 rfl ?_
      refine lv_icmp_ge (tgt := 39) E.1 E.2.1 dX1_peopleOf_15 (by decide) (fun c2 => ?_) (fun c2 => ?_)
      · have hf := q_pos c2 hf
        refine lv_iload_n E.1 E.2.1 dX1_peopleOf_39 rfl (lv_at hl 2 rfl) ?_
        have hf := Option.some.inj hf
        subst hf
        exact q_iret E w hr hlk dX1_peopleOf_40
      · have hf := q_neg c2 hf
        refine lv_iload_n E.1 E.2.1 dX1_peopleOf_18 rfl (lv_at hl 2 rfl) ?_
        refine lv_iload_n E.1 E.2.1 dX1_peopleOf_19 rfl (lv_at hl 1 rfl) ?_
        refine lv_iload_n E.1 E.2.1 dX1_peopleOf_20 rfl (lv_at hl 3 rfl) ?_
        refine lv_ishr E.1 E.2.1 dX1_peopleOf_21 ?_
        refine lv_iconst (v := 1) E.1 E.2.1 dX1_peopleOf_22 rfl ?_
        refine lv_iand E.1 E.2.1 dX1_peopleOf_23 ?_
        refine lv_aload_n E.1 E.2.1 dX1_peopleOf_24 rfl (lv_at hl 0 rfl) ?_
        refine q_gs E w 2 t_v0 fl_RX1_31 dX1_peopleOf_25 ?_
        refine lv_iload_n E.1 E.2.1 dX1_peopleOf_28 rfl (lv_at hl 3 rfl) ?_
        obtain ⟨b3, hf⟩ := q_if hf
        refine q_iald E w ((lay_1_6 t_v0).1) ((lay_1_6 t_v0).2) b3 dX1_peopleOf_29 ?_
        refine lv_imul E.1 E.2.1 dX1_peopleOf_30 ?_
        refine lv_iadd E.1 E.2.1 dX1_peopleOf_31 ?_
        refine lv_istore_n (lv' := [(2, .int (v2 + (((v1 >>> (v3 &&& 31)) &&& 1) * (h.1 (v0 + 2) v3.toNatClampNeg)))), (0, .ref (ad G v0)), (1, .int v1), (3, .int v3)]) E.1 E.2.1 dX1_peopleOf_32 rfl hl (by decide) rfl (fun ls hl => ?_)
        refine lv_iinc (v := v3 + 1) (lv' := [(3, .int (v3 + 1)), (2, .int (v2 + (((v1 >>> (v3 &&& 31)) &&& 1) * (h.1 (v0 + 2) v3.toNatClampNeg)))), (0, .ref (ad G v0)), (1, .int v1)]) E.1 E.2.1 dX1_peopleOf_33 hl (k := 3) rfl rfl (by decide) rfl (fun ls hl => ?_)
        refine lv_goto (tgt := 4) E.1 E.2.1 dX1_peopleOf_36 (by decide) ?_
        exact ih _ _ _ _ _ _ _ hf w t_v0 (lv_sub hl [2, 3, 1, 0] rfl)

def X1_peopleOf (N : Nat) (h : HS) (v0 : Nat) (v1 : Int32) : Option Int32 := X1_peopleOf_l4 N h N v0 v1 0 0
set_option maxRecDepth 4000 in
set_option maxHeartbeats 2000000 in
theorem X1_peopleOf_c {l : Launch} {G : GT} {N : Nat} {h : HS} {v0 : Nat} {v1 : Int32} {z : Int32} (t_v0 : sh v0 = 1) (hf : X1_peopleOf N h v0 v1 = some z) : CT l G yX1_peopleOf cX1_peopleOf 4 (some .int) 0 0 [.ref (ad G v0), .int v1] h (some (.int z)) h := by
  unfold X1_peopleOf at hf
  refine CT.of (by decide) (Nat.le_of_ble_eq_true rfl) ?_
  intro p e s m below meth c ls E hr hlk w hl
  have hl : lv_has ls 4 [(0, .ref (ad G v0)), (1, .int v1)] := hl
  refine lv_iconst (v := 0) E.1 E.2.1 dX1_peopleOf_0 rfl ?_
  refine lv_istore_n (lv' := [(2, .int 0), (0, .ref (ad G v0)), (1, .int v1)]) E.1 E.2.1 dX1_peopleOf_1 rfl hl (by decide) rfl (fun ls hl => ?_)
  refine lv_iconst (v := 0) E.1 E.2.1 dX1_peopleOf_2 rfl ?_
  refine lv_istore_n (lv' := [(3, .int 0), (2, .int 0), (0, .ref (ad G v0)), (1, .int v1)]) E.1 E.2.1 dX1_peopleOf_3 rfl hl (by decide) rfl (fun ls hl => ?_)
  exact X1_peopleOf_l4_w E hr hlk N _ _ _ _ _ _ _ hf w t_v0 (lv_sub hl [2, 3, 1, 0] rfl)

def X1_rentsOf_l4 (N : Nat) (h : HS) : Nat → Nat → Int32 → Int32 → Int32 → Option Int32
  | 0, _, _, _, _ => none
  | n + 1, v0, v1, v2, v3 => (if (h.1 v0 0) ≤ v3 then some v2 else (if (6 : Int32) ≤ v3 then some v2 else (if v3 < 0 ∨ 6 ≤ v3.toNatClampNeg then none else X1_rentsOf_l4 N h n v0 v1 (v2 + (((v1 >>> (v3 &&& 31)) &&& 1) * (h.1 (v0 + 1) v3.toNatClampNeg))) (v3 + 1))))
set_option maxRecDepth 4000 in
set_option maxHeartbeats 2000000 in
theorem X1_rentsOf_l4_w {p : Program} {l : Launch} {e : Env} {s : State} {m : MethodId} {args : Array Value} {below : List Frame} {meth : Method} {c : Code} {G : GT} {N : Nat} {h : HS} {z : Int32} (E : CallFix p m c cX1_rentsOf 4 s args UW RX1) (hr : meth.sig.returnType = (some .int)) (hlk : meth.locks = false) : ∀ (n : Nat) (H : Heap) (locs : List Loc) (ls : Array Slot) (v0 : Nat) (v1 : Int32) (v2 : Int32) (v3 : Int32), X1_rentsOf_l4 N h n v0 v1 v2 v3 = some z → WD G s h H locs → sh v0 = 1 → lv_has ls 4 [(0, .ref (ad G v0)), (1, .int v1), (2, .int v2), (3, .int v3)] → W p l e ({ frames := 0, cells := 0, slots := 0, locals := 0 } : Room) s m args below meth c H locs 0 0 (MQ below (QC G (some (.int z)) h) args s 0 0 (AD G)) (F0 m 4 ls []) := by
  intro n
  induction n with
  | zero =>
    intro H locs ls v0 v1 v2 v3 hf
    cases hf
  | succ n ih =>
    intro H locs ls v0 v1 v2 v3 hf w t_v0 hl
    unfold X1_rentsOf_l4 at hf
    refine lv_iload_n E.1 E.2.1 dX1_rentsOf_4 rfl (lv_at hl 3 rfl) ?_
    refine lv_aload_n E.1 E.2.1 dX1_rentsOf_5 rfl (lv_at hl 0 rfl) ?_
    refine q_gi E w t_v0 fl_RX1_9 dX1_rentsOf_6 ?_
    refine lv_icmp_ge (tgt := 39) E.1 E.2.1 dX1_rentsOf_9 (by decide) (fun c1 => ?_) (fun c1 => ?_)
    · have hf := q_pos c1 hf
      refine lv_iload_n E.1 E.2.1 dX1_rentsOf_39 rfl (lv_at hl 2 rfl) ?_
      have hf := Option.some.inj hf
      subst hf
      exact q_iret E w hr hlk dX1_rentsOf_40
    · have hf := q_neg c1 hf
      refine lv_iload_n E.1 E.2.1 dX1_rentsOf_12 rfl (lv_at hl 3 rfl) ?_
      refine lv_bipush (v := 6) E.1 E.2.1 dX1_rentsOf_13 rfl ?_
      refine lv_icmp_ge (tgt := 39) E.1 E.2.1 dX1_rentsOf_15 (by decide) (fun c2 => ?_) (fun c2 => ?_)
      · have hf := q_pos c2 hf
        refine lv_iload_n E.1 E.2.1 dX1_rentsOf_39 rfl (lv_at hl 2 rfl) ?_
        have hf := Option.some.inj hf
        subst hf
        exact q_iret E w hr hlk dX1_rentsOf_40
      · have hf := q_neg c2 hf
        refine lv_iload_n E.1 E.2.1 dX1_rentsOf_18 rfl (lv_at hl 2 rfl) ?_
        refine lv_iload_n E.1 E.2.1 dX1_rentsOf_19 rfl (lv_at hl 1 rfl) ?_
        refine lv_iload_n E.1 E.2.1 dX1_rentsOf_20 rfl (lv_at hl 3 rfl) ?_
        refine lv_ishr E.1 E.2.1 dX1_rentsOf_21 ?_
        refine lv_iconst (v := 1) E.1 E.2.1 dX1_rentsOf_22 rfl ?_
        refine lv_iand E.1 E.2.1 dX1_rentsOf_23 ?_
        refine lv_aload_n E.1 E.2.1 dX1_rentsOf_24 rfl (lv_at hl 0 rfl) ?_
        refine q_gs E w 1 t_v0 fl_RX1_27 dX1_rentsOf_25 ?_
        refine lv_iload_n E.1 E.2.1 dX1_rentsOf_28 rfl (lv_at hl 3 rfl) ?_
        obtain ⟨b3, hf⟩ := q_if hf
        refine q_iald E w ((lay_1_5 t_v0).1) ((lay_1_5 t_v0).2) b3 dX1_rentsOf_29 ?_
        refine lv_imul E.1 E.2.1 dX1_rentsOf_30 ?_
        refine lv_iadd E.1 E.2.1 dX1_rentsOf_31 ?_
        refine lv_istore_n (lv' := [(2, .int (v2 + (((v1 >>> (v3 &&& 31)) &&& 1) * (h.1 (v0 + 1) v3.toNatClampNeg)))), (0, .ref (ad G v0)), (1, .int v1), (3, .int v3)]) E.1 E.2.1 dX1_rentsOf_32 rfl hl (by decide) rfl (fun ls hl => ?_)
        refine lv_iinc (v := v3 + 1) (lv' := [(3, .int (v3 + 1)), (2, .int (v2 + (((v1 >>> (v3 &&& 31)) &&& 1) * (h.1 (v0 + 1) v3.toNatClampNeg)))), (0, .ref (ad G v0)), (1, .int v1)]) E.1 E.2.1 dX1_rentsOf_33 hl (k := 3) rfl rfl (by decide) rfl (fun ls hl => ?_)
        refine lv_goto (tgt := 4) E.1 E.2.1 dX1_rentsOf_36 (by decide) ?_
        exact ih _ _ _ _ _ _ _ hf w t_v0 (lv_sub hl [2, 3, 1, 0] rfl)

def X1_rentsOf (N : Nat) (h : HS) (v0 : Nat) (v1 : Int32) : Option Int32 := X1_rentsOf_l4 N h N v0 v1 0 0
set_option maxRecDepth 4000 in
set_option maxHeartbeats 2000000 in
theorem X1_rentsOf_c {l : Launch} {G : GT} {N : Nat} {h : HS} {v0 : Nat} {v1 : Int32} {z : Int32} (t_v0 : sh v0 = 1) (hf : X1_rentsOf N h v0 v1 = some z) : CT l G yX1_rentsOf cX1_rentsOf 4 (some .int) 0 0 [.ref (ad G v0), .int v1] h (some (.int z)) h := by
  unfold X1_rentsOf at hf
  refine CT.of (by decide) (Nat.le_of_ble_eq_true rfl) ?_
  intro p e s m below meth c ls E hr hlk w hl
  have hl : lv_has ls 4 [(0, .ref (ad G v0)), (1, .int v1)] := hl
  refine lv_iconst (v := 0) E.1 E.2.1 dX1_rentsOf_0 rfl ?_
  refine lv_istore_n (lv' := [(2, .int 0), (0, .ref (ad G v0)), (1, .int v1)]) E.1 E.2.1 dX1_rentsOf_1 rfl hl (by decide) rfl (fun ls hl => ?_)
  refine lv_iconst (v := 0) E.1 E.2.1 dX1_rentsOf_2 rfl ?_
  refine lv_istore_n (lv' := [(3, .int 0), (2, .int 0), (0, .ref (ad G v0)), (1, .int v1)]) E.1 E.2.1 dX1_rentsOf_3 rfl hl (by decide) rfl (fun ls hl => ?_)
  exact X1_rentsOf_l4_w E hr hlk N _ _ _ _ _ _ _ hf w t_v0 (lv_sub hl [2, 3, 1, 0] rfl)

def X1_roofOf (N : Nat) (h : HS) (v0 : Nat) (v1 : Int32) : Option Int32 := bd1 (X1_sounds N h v0 v1) fun r2 => (if r2 = 0 then some 0 else bd1 (X10_at N h (v0 + 5) v1) fun r6 => bd1 (X1_from N h v0 r6) fun r9 => bd1 (X1_peopleOf N h v0 r9) fun r12 => some r12)
set_option maxRecDepth 4000 in
set_option maxHeartbeats 2000000 in
theorem X1_roofOf_c {l : Launch} {G : GT} {N : Nat} {h : HS} {v0 : Nat} {v1 : Int32} {z : Int32} (t_v0 : sh v0 = 1) (hf : X1_roofOf N h v0 v1 = some z) : CT l G yX1_roofOf cX1_roofOf 2 (some .int) 2 42 [.ref (ad G v0), .int v1] h (some (.int z)) h := by
  unfold X1_roofOf at hf
  refine CT.of (by decide) (Nat.le_of_ble_eq_true rfl) ?_
  intro p e s m below meth c ls E hr hlk w hl
  have hl : lv_has ls 2 [(0, .ref (ad G v0)), (1, .int v1)] := hl
  refine lv_aload_n E.1 E.2.1 dX1_roofOf_0 rfl (lv_at hl 0 rfl) ?_
  refine lv_iload_n E.1 E.2.1 dX1_roofOf_1 rfl (lv_at hl 1 rfl) ?_
  obtain ⟨r2, hc1, hf⟩ := bd1_e hf
  refine k_Vi (As := [.int v1]) (rest := []) E w t_v0 ⟨by decide, rfl⟩ (X1_sounds_c t_v0 hc1) mv_RX1_71 rfl rfl hl.1 ⟨Nat.le_of_ble_eq_true rfl, Nat.le_of_ble_eq_true rfl⟩ (Nat.le_of_ble_eq_true rfl) ⟨Nat.le_refl _, Nat.le_refl _⟩ dX1_roofOf_2 (fun H locs w => ?_)
  refine lv_if_eq (tgt := 27) E.1 E.2.1 dX1_roofOf_5 (by decide) (fun c4 => ?_) (fun c4 => ?_)
  · have hf := q_pos c4 hf
    refine lv_iconst (v := 0) E.1 E.2.1 dX1_roofOf_27 rfl ?_
    have hf := Option.some.inj hf
    subst hf
    exact q_iret E w hr hlk dX1_roofOf_28
  · have hf := q_neg c4 hf
    refine lv_aload_n E.1 E.2.1 dX1_roofOf_8 rfl (lv_at hl 0 rfl) ?_
    refine lv_aload_n E.1 E.2.1 dX1_roofOf_9 rfl (lv_at hl 0 rfl) ?_
    refine lv_aload_n E.1 E.2.1 dX1_roofOf_10 rfl (lv_at hl 0 rfl) ?_
    refine q_gs E w 5 t_v0 fl_RX1_40 dX1_roofOf_11 ?_
    refine lv_iload_n E.1 E.2.1 dX1_roofOf_14 rfl (lv_at hl 1 rfl) ?_
    obtain ⟨r6, hc5, hf⟩ := bd1_e hf
    refine k_Ni (As := [.ref (ad G (v0 + 5)), .int v1]) (rest := [.ref (ad G v0), .ref (ad G v0)]) E w (X10_at_c ((lay_1_9 t_v0).1) hc5) mn_RX1_86 rfl rfl hl.1 ⟨Nat.le_of_ble_eq_true rfl, Nat.le_of_ble_eq_true rfl⟩ (Nat.le_of_ble_eq_true rfl) ⟨Nat.le_refl _, Nat.le_refl _⟩ dX1_roofOf_15 (fun H locs w => ?_)
    obtain ⟨r9, hc8, hf⟩ := bd1_e hf
    refine k_Vi (As := [.int r6]) (rest := [.ref (ad G v0)]) E w t_v0 ⟨by decide, rfl⟩ (X1_from_c t_v0 hc8) mv_RX1_90 rfl rfl hl.1 ⟨Nat.le_of_ble_eq_true rfl, Nat.le_of_ble_eq_true rfl⟩ (Nat.le_of_ble_eq_true rfl) ⟨Nat.le_refl _, Nat.le_refl _⟩ dX1_roofOf_18 (fun H locs w => ?_)
    obtain ⟨r12, hc11, hf⟩ := bd1_e hf
    refine k_Vi (As := [.int r9]) (rest := []) E w t_v0 ⟨by decide, rfl⟩ (X1_peopleOf_c t_v0 hc11) mv_RX1_93 rfl rfl hl.1 ⟨Nat.le_of_ble_eq_true rfl, Nat.le_of_ble_eq_true rfl⟩ (Nat.le_of_ble_eq_true rfl) ⟨Nat.le_refl _, Nat.le_refl _⟩ dX1_roofOf_21 (fun H locs w => ?_)
    refine lv_goto (tgt := 28) E.1 E.2.1 dX1_roofOf_24 (by decide) ?_
    have hf := Option.some.inj hf
    subst hf
    exact q_iret E w hr hlk dX1_roofOf_28

def X1_quietest_l4 (N : Nat) (h : HS) : Nat → Nat → Int32 → Int32 → Option Int32
  | 0, _, _, _ => none
  | n + 1, v0, v1, v2 => (if (8 : Int32) ≤ v2 then some v1 else bd1 (X1_sounds N h v0 v2) fun r3 => (if r3 = 0 then X1_quietest_l4 N h n v0 v1 (v2 + 1) else (if v1 = ((-1) : Int32) then X1_quietest_l4 N h n v0 v2 (v2 + 1) else bd1 (X1_roofOf N h v0 v2) fun r8 => bd1 (X1_roofOf N h v0 v1) fun r11 => (if r11 ≤ r8 then X1_quietest_l4 N h n v0 v1 (v2 + 1) else X1_quietest_l4 N h n v0 v2 (v2 + 1)))))
set_option maxRecDepth 4000 in
set_option maxHeartbeats 2000000 in
theorem X1_quietest_l4_w {p : Program} {l : Launch} {e : Env} {s : State} {m : MethodId} {args : Array Value} {below : List Frame} {meth : Method} {c : Code} {G : GT} {N : Nat} {h : HS} {z : Int32} (E : CallFix p m c cX1_quietest 3 s args UW RX1) (hr : meth.sig.returnType = (some .int)) (hlk : meth.locks = false) : ∀ (n : Nat) (H : Heap) (locs : List Loc) (ls : Array Slot) (v0 : Nat) (v1 : Int32) (v2 : Int32), X1_quietest_l4 N h n v0 v1 v2 = some z → WD G s h H locs → sh v0 = 1 → lv_has ls 3 [(0, .ref (ad G v0)), (1, .int v1), (2, .int v2)] → W p l e ({ frames := 3, cells := 0, slots := 0, locals := 63 } : Room) s m args below meth c H locs 0 0 (MQ below (QC G (some (.int z)) h) args s 0 0 (AD G)) (F0 m 4 ls []) := by
  intro n
  induction n with
  | zero =>
    intro H locs ls v0 v1 v2 hf
    cases hf
  | succ n ih =>
    intro H locs ls v0 v1 v2 hf w t_v0 hl
    unfold X1_quietest_l4 at hf
    refine lv_iload_n E.1 E.2.1 dX1_quietest_4 rfl (lv_at hl 2 rfl) ?_
    refine lv_bipush (v := 8) E.1 E.2.1 dX1_quietest_5 rfl ?_
    refine lv_icmp_ge (tgt := 44) E.1 E.2.1 dX1_quietest_7 (by decide) (fun c1 => ?_) (fun c1 => ?_)
    · have hf := q_pos c1 hf
      refine lv_iload_n E.1 E.2.1 dX1_quietest_44 rfl (lv_at hl 1 rfl) ?_
      have hf := Option.some.inj hf
      subst hf
      exact q_iret E w hr hlk dX1_quietest_45
    · have hf := q_neg c1 hf
      refine lv_aload_n E.1 E.2.1 dX1_quietest_10 rfl (lv_at hl 0 rfl) ?_
      refine lv_iload_n E.1 E.2.1 dX1_quietest_11 rfl (lv_at hl 2 rfl) ?_
      obtain ⟨r3, hc2, hf⟩ := bd1_e hf
      refine k_Vi (As := [.int v2]) (rest := []) E w t_v0 ⟨by decide, rfl⟩ (X1_sounds_c t_v0 hc2) mv_RX1_71 rfl rfl hl.1 ⟨Nat.le_of_ble_eq_true rfl, Nat.le_of_ble_eq_true rfl⟩ (Nat.le_of_ble_eq_true rfl) ⟨Nat.le_refl _, Nat.le_refl _⟩ dX1_quietest_12 (fun H locs w => ?_)
      refine lv_if_eq (tgt := 38) E.1 E.2.1 dX1_quietest_15 (by decide) (fun c5 => ?_) (fun c5 => ?_)
      · have hf := q_pos c5 hf
        refine lv_iinc (v := v2 + 1) (lv' := [(2, .int (v2 + 1)), (0, .ref (ad G v0)), (1, .int v1)]) E.1 E.2.1 dX1_quietest_38 hl (k := 2) rfl rfl (by decide) rfl (fun ls hl => ?_)
        refine lv_goto (tgt := 4) E.1 E.2.1 dX1_quietest_41 (by decide) ?_
        exact ih _ _ _ _ _ _ hf w t_v0 (lv_sub hl [1, 2, 0] rfl)
      · have hf := q_neg c5 hf
        refine lv_iload_n E.1 E.2.1 dX1_quietest_18 rfl (lv_at hl 1 rfl) ?_
        refine lv_iconst (v := (-1)) E.1 E.2.1 dX1_quietest_19 rfl ?_
        refine lv_icmp_eq (tgt := 36) E.1 E.2.1 dX1_quietest_20 (by decide) (fun c6 => ?_) (fun c6 => ?_)
        · have hf := q_pos c6 hf
          refine lv_iload_n E.1 E.2.1 dX1_quietest_36 rfl (lv_at hl 2 rfl) ?_
          refine lv_istore_n (lv' := [(1, .int v2), (0, .ref (ad G v0)), (2, .int v2)]) E.1 E.2.1 dX1_quietest_37 rfl hl (by decide) rfl (fun ls hl => ?_)
          refine lv_iinc (v := v2 + 1) (lv' := [(2, .int (v2 + 1)), (1, .int v2), (0, .ref (ad G v0))]) E.1 E.2.1 dX1_quietest_38 hl (k := 2) rfl rfl (by decide) rfl (fun ls hl => ?_)
          refine lv_goto (tgt := 4) E.1 E.2.1 dX1_quietest_41 (by decide) ?_
          exact ih _ _ _ _ _ _ hf w t_v0 (lv_sub hl [2, 1, 0] rfl)
        · have hf := q_neg c6 hf
          refine lv_aload_n E.1 E.2.1 dX1_quietest_23 rfl (lv_at hl 0 rfl) ?_
          refine lv_iload_n E.1 E.2.1 dX1_quietest_24 rfl (lv_at hl 2 rfl) ?_
          obtain ⟨r8, hc7, hf⟩ := bd1_e hf
          refine k_Vi (As := [.int v2]) (rest := []) E w t_v0 ⟨by decide, rfl⟩ (X1_roofOf_c t_v0 hc7) mv_RX1_96 rfl rfl hl.1 ⟨Nat.le_of_ble_eq_true rfl, Nat.le_of_ble_eq_true rfl⟩ (Nat.le_of_ble_eq_true rfl) ⟨Nat.le_refl _, Nat.le_refl _⟩ dX1_quietest_25 (fun H locs w => ?_)
          refine lv_aload_n E.1 E.2.1 dX1_quietest_28 rfl (lv_at hl 0 rfl) ?_
          refine lv_iload_n E.1 E.2.1 dX1_quietest_29 rfl (lv_at hl 1 rfl) ?_
          obtain ⟨r11, hc10, hf⟩ := bd1_e hf
          refine k_Vi (As := [.int v1]) (rest := [.int r8]) E w t_v0 ⟨by decide, rfl⟩ (X1_roofOf_c t_v0 hc10) mv_RX1_96 rfl rfl hl.1 ⟨Nat.le_of_ble_eq_true rfl, Nat.le_of_ble_eq_true rfl⟩ (Nat.le_of_ble_eq_true rfl) ⟨Nat.le_refl _, Nat.le_refl _⟩ dX1_quietest_30 (fun H locs w => ?_)
          refine lv_icmp_ge (tgt := 38) E.1 E.2.1 dX1_quietest_33 (by decide) (fun c13 => ?_) (fun c13 => ?_)
          · have hf := q_pos c13 hf
            refine lv_iinc (v := v2 + 1) (lv' := [(2, .int (v2 + 1)), (0, .ref (ad G v0)), (1, .int v1)]) E.1 E.2.1 dX1_quietest_38 hl (k := 2) rfl rfl (by decide) rfl (fun ls hl => ?_)
            refine lv_goto (tgt := 4) E.1 E.2.1 dX1_quietest_41 (by decide) ?_
            exact ih _ _ _ _ _ _ hf w t_v0 (lv_sub hl [1, 2, 0] rfl)
          · have hf := q_neg c13 hf
            refine lv_iload_n E.1 E.2.1 dX1_quietest_36 rfl (lv_at hl 2 rfl) ?_
            refine lv_istore_n (lv' := [(1, .int v2), (0, .ref (ad G v0)), (2, .int v2)]) E.1 E.2.1 dX1_quietest_37 rfl hl (by decide) rfl (fun ls hl => ?_)
            refine lv_iinc (v := v2 + 1) (lv' := [(2, .int (v2 + 1)), (1, .int v2), (0, .ref (ad G v0))]) E.1 E.2.1 dX1_quietest_38 hl (k := 2) rfl rfl (by decide) rfl (fun ls hl => ?_)
            refine lv_goto (tgt := 4) E.1 E.2.1 dX1_quietest_41 (by decide) ?_
            exact ih _ _ _ _ _ _ hf w t_v0 (lv_sub hl [2, 1, 0] rfl)

def X1_quietest (N : Nat) (h : HS) (v0 : Nat) : Option Int32 := X1_quietest_l4 N h N v0 (-1) 0
set_option maxRecDepth 4000 in
set_option maxHeartbeats 2000000 in
theorem X1_quietest_c {l : Launch} {G : GT} {N : Nat} {h : HS} {v0 : Nat} {z : Int32} (t_v0 : sh v0 = 1) (hf : X1_quietest N h v0 = some z) : CT l G yX1_quietest cX1_quietest 3 (some .int) 3 63 [.ref (ad G v0)] h (some (.int z)) h := by
  unfold X1_quietest at hf
  refine CT.of (by decide) (Nat.le_of_ble_eq_true rfl) ?_
  intro p e s m below meth c ls E hr hlk w hl
  have hl : lv_has ls 3 [(0, .ref (ad G v0))] := hl
  refine lv_iconst (v := (-1)) E.1 E.2.1 dX1_quietest_0 rfl ?_
  refine lv_istore_n (lv' := [(1, .int (-1)), (0, .ref (ad G v0))]) E.1 E.2.1 dX1_quietest_1 rfl hl (by decide) rfl (fun ls hl => ?_)
  refine lv_iconst (v := 0) E.1 E.2.1 dX1_quietest_2 rfl ?_
  refine lv_istore_n (lv' := [(2, .int 0), (1, .int (-1)), (0, .ref (ad G v0))]) E.1 E.2.1 dX1_quietest_3 rfl hl (by decide) rfl (fun ls hl => ?_)
  exact X1_quietest_l4_w E hr hlk N _ _ _ _ _ _ hf w t_v0 (lv_sub hl [2, 1, 0] rfl)

def X1_notesOn_l4 (N : Nat) (h : HS) : Nat → Nat → Int32 → Int32 → Int32 → Option Int32
  | 0, _, _, _, _ => none
  | n + 1, v0, v1, v2, v3 => (if (8 : Int32) ≤ v3 then some v2 else bd1 (X1_sounds N h v0 v3) fun r3 => (if r3 = 0 then X1_notesOn_l4 N h n v0 v1 v2 (v3 + 1) else (if v3 < 0 ∨ 8 ≤ v3.toNatClampNeg then none else (if (h.1 (v0 + 5) v3.toNatClampNeg) = v1 then X1_notesOn_l4 N h n v0 v1 (v2 + 1) (v3 + 1) else X1_notesOn_l4 N h n v0 v1 v2 (v3 + 1)))))
set_option maxRecDepth 4000 in
set_option maxHeartbeats 2000000 in
theorem X1_notesOn_l4_w {p : Program} {l : Launch} {e : Env} {s : State} {m : MethodId} {args : Array Value} {below : List Frame} {meth : Method} {c : Code} {G : GT} {N : Nat} {h : HS} {z : Int32} (E : CallFix p m c cX1_notesOn 4 s args UW RX1) (hr : meth.sig.returnType = (some .int)) (hlk : meth.locks = false) : ∀ (n : Nat) (H : Heap) (locs : List Loc) (ls : Array Slot) (v0 : Nat) (v1 : Int32) (v2 : Int32) (v3 : Int32), X1_notesOn_l4 N h n v0 v1 v2 v3 = some z → WD G s h H locs → sh v0 = 1 → lv_has ls 4 [(0, .ref (ad G v0)), (1, .int v1), (2, .int v2), (3, .int v3)] → W p l e ({ frames := 2, cells := 0, slots := 0, locals := 42 } : Room) s m args below meth c H locs 0 0 (MQ below (QC G (some (.int z)) h) args s 0 0 (AD G)) (F0 m 4 ls []) := by
  intro n
  induction n with
  | zero =>
    intro H locs ls v0 v1 v2 v3 hf
    cases hf
  | succ n ih =>
    intro H locs ls v0 v1 v2 v3 hf w t_v0 hl
    unfold X1_notesOn_l4 at hf
    refine lv_iload_n E.1 E.2.1 dX1_notesOn_4 rfl (lv_at hl 3 rfl) ?_
    refine lv_bipush (v := 8) E.1 E.2.1 dX1_notesOn_5 rfl ?_
    refine lv_icmp_ge (tgt := 37) E.1 E.2.1 dX1_notesOn_7 (by decide) (fun c1 => ?_) (fun c1 => ?_)
    · have hf := q_pos c1 hf
      refine lv_iload_n E.1 E.2.1 dX1_notesOn_37 rfl (lv_at hl 2 rfl) ?_
      have hf := Option.some.inj hf
      subst hf
      exact q_iret E w hr hlk dX1_notesOn_38
    · have hf := q_neg c1 hf
      refine lv_aload_n E.1 E.2.1 dX1_notesOn_10 rfl (lv_at hl 0 rfl) ?_
      refine lv_iload_n E.1 E.2.1 dX1_notesOn_11 rfl (lv_at hl 3 rfl) ?_
      obtain ⟨r3, hc2, hf⟩ := bd1_e hf
      refine k_Vi (As := [.int v3]) (rest := []) E w t_v0 ⟨by decide, rfl⟩ (X1_sounds_c t_v0 hc2) mv_RX1_71 rfl rfl hl.1 ⟨Nat.le_of_ble_eq_true rfl, Nat.le_of_ble_eq_true rfl⟩ (Nat.le_of_ble_eq_true rfl) ⟨Nat.le_refl _, Nat.le_refl _⟩ dX1_notesOn_12 (fun H locs w => ?_)
      refine lv_if_eq (tgt := 31) E.1 E.2.1 dX1_notesOn_15 (by decide) (fun c5 => ?_) (fun c5 => ?_)
      · have hf := q_pos c5 hf
        refine lv_iinc (v := v3 + 1) (lv' := [(3, .int (v3 + 1)), (0, .ref (ad G v0)), (1, .int v1), (2, .int v2)]) E.1 E.2.1 dX1_notesOn_31 hl (k := 3) rfl rfl (by decide) rfl (fun ls hl => ?_)
        refine lv_goto (tgt := 4) E.1 E.2.1 dX1_notesOn_34 (by decide) ?_
        exact ih _ _ _ _ _ _ _ hf w t_v0 (lv_sub hl [1, 2, 3, 0] rfl)
      · have hf := q_neg c5 hf
        refine lv_aload_n E.1 E.2.1 dX1_notesOn_18 rfl (lv_at hl 0 rfl) ?_
        refine q_gs E w 5 t_v0 fl_RX1_40 dX1_notesOn_19 ?_
        refine lv_iload_n E.1 E.2.1 dX1_notesOn_22 rfl (lv_at hl 3 rfl) ?_
        obtain ⟨b6, hf⟩ := q_if hf
        refine q_iald E w ((lay_1_9 t_v0).1) ((lay_1_9 t_v0).2) b6 dX1_notesOn_23 ?_
        refine lv_iload_n E.1 E.2.1 dX1_notesOn_24 rfl (lv_at hl 1 rfl) ?_
        refine lv_icmp_ne (tgt := 31) E.1 E.2.1 dX1_notesOn_25 (by decide) (fun c7 => ?_) (fun c7 => ?_)
        · have hf := q_neg c7 hf
          refine lv_iinc (v := v3 + 1) (lv' := [(3, .int (v3 + 1)), (0, .ref (ad G v0)), (1, .int v1), (2, .int v2)]) E.1 E.2.1 dX1_notesOn_31 hl (k := 3) rfl rfl (by decide) rfl (fun ls hl => ?_)
          refine lv_goto (tgt := 4) E.1 E.2.1 dX1_notesOn_34 (by decide) ?_
          exact ih _ _ _ _ _ _ _ hf w t_v0 (lv_sub hl [1, 2, 3, 0] rfl)
        · have hf := q_pos c7 hf
          refine lv_iinc (v := v2 + 1) (lv' := [(2, .int (v2 + 1)), (0, .ref (ad G v0)), (1, .int v1), (3, .int v3)]) E.1 E.2.1 dX1_notesOn_28 hl (k := 2) rfl rfl (by decide) rfl (fun ls hl => ?_)
          refine lv_iinc (v := v3 + 1) (lv' := [(3, .int (v3 + 1)), (2, .int (v2 + 1)), (0, .ref (ad G v0)), (1, .int v1)]) E.1 E.2.1 dX1_notesOn_31 hl (k := 3) rfl rfl (by decide) rfl (fun ls hl => ?_)
          refine lv_goto (tgt := 4) E.1 E.2.1 dX1_notesOn_34 (by decide) ?_
          exact ih _ _ _ _ _ _ _ hf w t_v0 (lv_sub hl [2, 3, 1, 0] rfl)

def X1_notesOn (N : Nat) (h : HS) (v0 : Nat) (v1 : Int32) : Option Int32 := X1_notesOn_l4 N h N v0 v1 0 0
set_option maxRecDepth 4000 in
set_option maxHeartbeats 2000000 in
theorem X1_notesOn_c {l : Launch} {G : GT} {N : Nat} {h : HS} {v0 : Nat} {v1 : Int32} {z : Int32} (t_v0 : sh v0 = 1) (hf : X1_notesOn N h v0 v1 = some z) : CT l G yX1_notesOn cX1_notesOn 4 (some .int) 2 42 [.ref (ad G v0), .int v1] h (some (.int z)) h := by
  unfold X1_notesOn at hf
  refine CT.of (by decide) (Nat.le_of_ble_eq_true rfl) ?_
  intro p e s m below meth c ls E hr hlk w hl
  have hl : lv_has ls 4 [(0, .ref (ad G v0)), (1, .int v1)] := hl
  refine lv_iconst (v := 0) E.1 E.2.1 dX1_notesOn_0 rfl ?_
  refine lv_istore_n (lv' := [(2, .int 0), (0, .ref (ad G v0)), (1, .int v1)]) E.1 E.2.1 dX1_notesOn_1 rfl hl (by decide) rfl (fun ls hl => ?_)
  refine lv_iconst (v := 0) E.1 E.2.1 dX1_notesOn_2 rfl ?_
  refine lv_istore_n (lv' := [(3, .int 0), (2, .int 0), (0, .ref (ad G v0)), (1, .int v1)]) E.1 E.2.1 dX1_notesOn_3 rfl hl (by decide) rfl (fun ls hl => ?_)
  exact X1_notesOn_l4_w E hr hlk N _ _ _ _ _ _ _ hf w t_v0 (lv_sub hl [2, 3, 1, 0] rfl)

def X1_busiest_l4 (N : Nat) (h : HS) : Nat → Nat → Int32 → Int32 → Option Int32
  | 0, _, _, _ => none
  | n + 1, v0, v1, v2 => (if (h.1 v0 0) ≤ v2 then some v1 else (if (6 : Int32) ≤ v2 then some v1 else (if v1 = ((-1) : Int32) then X1_busiest_l4 N h n v0 v2 (v2 + 1) else bd1 (X1_notesOn N h v0 v2) fun r5 => bd1 (X1_notesOn N h v0 v1) fun r8 => (if r5 ≤ r8 then X1_busiest_l4 N h n v0 v1 (v2 + 1) else X1_busiest_l4 N h n v0 v2 (v2 + 1)))))
set_option maxRecDepth 4000 in
set_option maxHeartbeats 2000000 in
theorem X1_busiest_l4_w {p : Program} {l : Launch} {e : Env} {s : State} {m : MethodId} {args : Array Value} {below : List Frame} {meth : Method} {c : Code} {G : GT} {N : Nat} {h : HS} {z : Int32} (E : CallFix p m c cX1_busiest 3 s args UW RX1) (hr : meth.sig.returnType = (some .int)) (hlk : meth.locks = false) : ∀ (n : Nat) (H : Heap) (locs : List Loc) (ls : Array Slot) (v0 : Nat) (v1 : Int32) (v2 : Int32), X1_busiest_l4 N h n v0 v1 v2 = some z → WD G s h H locs → sh v0 = 1 → lv_has ls 3 [(0, .ref (ad G v0)), (1, .int v1), (2, .int v2)] → W p l e ({ frames := 3, cells := 0, slots := 0, locals := 65 } : Room) s m args below meth c H locs 0 0 (MQ below (QC G (some (.int z)) h) args s 0 0 (AD G)) (F0 m 4 ls []) := by
  intro n
  induction n with
  | zero =>
    intro H locs ls v0 v1 v2 hf
    cases hf
  | succ n ih =>
    intro H locs ls v0 v1 v2 hf w t_v0 hl
    unfold X1_busiest_l4 at hf
    refine lv_iload_n E.1 E.2.1 dX1_busiest_4 rfl (lv_at hl 2 rfl) ?_
    refine lv_aload_n E.1 E.2.1 dX1_busiest_5 rfl (lv_at hl 0 rfl) ?_
    refine q_gi E w t_v0 fl_RX1_9 dX1_busiest_6 ?_
    refine lv_icmp_ge (tgt := 44) E.1 E.2.1 dX1_busiest_9 (by decide) (fun c1 => ?_) (fun c1 => ?_)
    · have hf := q_pos c1 hf
      refine lv_iload_n E.1 E.2.1 dX1_busiest_44 rfl (lv_at hl 1 rfl) ?_
      have hf := Option.some.inj hf
      subst hf
      exact q_iret E w hr hlk dX1_busiest_45
    · have hf := q_neg c1 hf
      refine lv_iload_n E.1 E.2.1 dX1_busiest_12 rfl (lv_at hl 2 rfl) ?_
      refine lv_bipush (v := 6) E.1 E.2.1 dX1_busiest_13 rfl ?_
      refine lv_icmp_ge (tgt := 44) E.1 E.2.1 dX1_busiest_15 (by decide) (fun c2 => ?_) (fun c2 => ?_)
      · have hf := q_pos c2 hf
        refine lv_iload_n E.1 E.2.1 dX1_busiest_44 rfl (lv_at hl 1 rfl) ?_
        have hf := Option.some.inj hf
        subst hf
        exact q_iret E w hr hlk dX1_busiest_45
      · have hf := q_neg c2 hf
        refine lv_iload_n E.1 E.2.1 dX1_busiest_18 rfl (lv_at hl 1 rfl) ?_
        refine lv_iconst (v := (-1)) E.1 E.2.1 dX1_busiest_19 rfl ?_
        refine lv_icmp_eq (tgt := 36) E.1 E.2.1 dX1_busiest_20 (by decide) (fun c3 => ?_) (fun c3 => ?_)
        · have hf := q_pos c3 hf
          refine lv_iload_n E.1 E.2.1 dX1_busiest_36 rfl (lv_at hl 2 rfl) ?_
          refine lv_istore_n (lv' := [(1, .int v2), (0, .ref (ad G v0)), (2, .int v2)]) E.1 E.2.1 dX1_busiest_37 rfl hl (by decide) rfl (fun ls hl => ?_)
          refine lv_iinc (v := v2 + 1) (lv' := [(2, .int (v2 + 1)), (1, .int v2), (0, .ref (ad G v0))]) E.1 E.2.1 dX1_busiest_38 hl (k := 2) rfl rfl (by decide) rfl (fun ls hl => ?_)
          refine lv_goto (tgt := 4) E.1 E.2.1 dX1_busiest_41 (by decide) ?_
          exact ih _ _ _ _ _ _ hf w t_v0 (lv_sub hl [2, 1, 0] rfl)
        · have hf := q_neg c3 hf
          refine lv_aload_n E.1 E.2.1 dX1_busiest_23 rfl (lv_at hl 0 rfl) ?_
          refine lv_iload_n E.1 E.2.1 dX1_busiest_24 rfl (lv_at hl 2 rfl) ?_
          obtain ⟨r5, hc4, hf⟩ := bd1_e hf
          refine k_Vi (As := [.int v2]) (rest := []) E w t_v0 ⟨by decide, rfl⟩ (X1_notesOn_c t_v0 hc4) mv_RX1_99 rfl rfl hl.1 ⟨Nat.le_of_ble_eq_true rfl, Nat.le_of_ble_eq_true rfl⟩ (Nat.le_of_ble_eq_true rfl) ⟨Nat.le_refl _, Nat.le_refl _⟩ dX1_busiest_25 (fun H locs w => ?_)
          refine lv_aload_n E.1 E.2.1 dX1_busiest_28 rfl (lv_at hl 0 rfl) ?_
          refine lv_iload_n E.1 E.2.1 dX1_busiest_29 rfl (lv_at hl 1 rfl) ?_
          obtain ⟨r8, hc7, hf⟩ := bd1_e hf
          refine k_Vi (As := [.int v1]) (rest := [.int r5]) E w t_v0 ⟨by decide, rfl⟩ (X1_notesOn_c t_v0 hc7) mv_RX1_99 rfl rfl hl.1 ⟨Nat.le_of_ble_eq_true rfl, Nat.le_of_ble_eq_true rfl⟩ (Nat.le_of_ble_eq_true rfl) ⟨Nat.le_refl _, Nat.le_refl _⟩ dX1_busiest_30 (fun H locs w => ?_)
          refine lv_icmp_le (tgt := 38) E.1 E.2.1 dX1_busiest_33 (by decide) (fun c10 => ?_) (fun c10 => ?_)
          · have hf := q_pos c10 hf
            refine lv_iinc (v := v2 + 1) (lv' := [(2, .int (v2 + 1)), (0, .ref (ad G v0)), (1, .int v1)]) E.1 E.2.1 dX1_busiest_38 hl (k := 2) rfl rfl (by decide) rfl (fun ls hl => ?_)
            refine lv_goto (tgt := 4) E.1 E.2.1 dX1_busiest_41 (by decide) ?_
            exact ih _ _ _ _ _ _ hf w t_v0 (lv_sub hl [1, 2, 0] rfl)
          · have hf := q_neg c10 hf
            refine lv_iload_n E.1 E.2.1 dX1_busiest_36 rfl (lv_at hl 2 rfl) ?_
            refine lv_istore_n (lv' := [(1, .int v2), (0, .ref (ad G v0)), (2, .int v2)]) E.1 E.2.1 dX1_busiest_37 rfl hl (by decide) rfl (fun ls hl => ?_)
            refine lv_iinc (v := v2 + 1) (lv' := [(2, .int (v2 + 1)), (1, .int v2), (0, .ref (ad G v0))]) E.1 E.2.1 dX1_busiest_38 hl (k := 2) rfl rfl (by decide) rfl (fun ls hl => ?_)
            refine lv_goto (tgt := 4) E.1 E.2.1 dX1_busiest_41 (by decide) ?_
            exact ih _ _ _ _ _ _ hf w t_v0 (lv_sub hl [2, 1, 0] rfl)

def X1_busiest (N : Nat) (h : HS) (v0 : Nat) : Option Int32 := X1_busiest_l4 N h N v0 (-1) 0
set_option maxRecDepth 4000 in
set_option maxHeartbeats 2000000 in
theorem X1_busiest_c {l : Launch} {G : GT} {N : Nat} {h : HS} {v0 : Nat} {z : Int32} (t_v0 : sh v0 = 1) (hf : X1_busiest N h v0 = some z) : CT l G yX1_busiest cX1_busiest 3 (some .int) 3 65 [.ref (ad G v0)] h (some (.int z)) h := by
  unfold X1_busiest at hf
  refine CT.of (by decide) (Nat.le_of_ble_eq_true rfl) ?_
  intro p e s m below meth c ls E hr hlk w hl
  have hl : lv_has ls 3 [(0, .ref (ad G v0))] := hl
  refine lv_iconst (v := (-1)) E.1 E.2.1 dX1_busiest_0 rfl ?_
  refine lv_istore_n (lv' := [(1, .int (-1)), (0, .ref (ad G v0))]) E.1 E.2.1 dX1_busiest_1 rfl hl (by decide) rfl (fun ls hl => ?_)
  refine lv_iconst (v := 0) E.1 E.2.1 dX1_busiest_2 rfl ?_
  refine lv_istore_n (lv' := [(2, .int 0), (1, .int (-1)), (0, .ref (ad G v0))]) E.1 E.2.1 dX1_busiest_3 rfl hl (by decide) rfl (fun ls hl => ?_)
  exact X1_busiest_l4_w E hr hlk N _ _ _ _ _ _ hf w t_v0 (lv_sub hl [2, 1, 0] rfl)

def X1_alike_l3 (N : Nat) (h : HS) : Nat → Nat → Int32 → Int32 → Int32 → Int32 → Option Int32
  | 0, _, _, _, _, _ => none
  | n + 1, v0, v1, v2, v3, v4 => (if v3 ≤ v4 then some (nz 1) else bd1 (X10_at N h (v0 + 3) (v1 + v4)) fun r3 => bd1 (X10_at N h (v0 + 3) (v2 + v4)) fun r6 => (if r3 = r6 then bd1 (X10_at N h (v0 + 4) (v1 + v4)) fun r10 => bd1 (X10_at N h (v0 + 4) (v2 + v4)) fun r13 => (if r10 = r13 then X1_alike_l3 N h n v0 v1 v2 v3 (v4 + 1) else some (nz 0)) else some (nz 0)))
set_option maxRecDepth 4000 in
set_option maxHeartbeats 2000000 in
theorem X1_alike_l3_w {p : Program} {l : Launch} {e : Env} {s : State} {m : MethodId} {args : Array Value} {below : List Frame} {meth : Method} {c : Code} {G : GT} {N : Nat} {h : HS} {z : Int32} (E : CallFix p m c cX1_alike 5 s args UW RX1) (hr : meth.sig.returnType = (some .boolean)) (hlk : meth.locks = false) : ∀ (n : Nat) (H : Heap) (locs : List Loc) (ls : Array Slot) (v0 : Nat) (v1 : Int32) (v2 : Int32) (v3 : Int32) (v4 : Int32), X1_alike_l3 N h n v0 v1 v2 v3 v4 = some z → WD G s h H locs → sh v0 = 1 → lv_has ls 5 [(0, .ref (ad G v0)), (1, .int v1), (2, .int v2), (3, .int v3), (4, .int v4)] → W p l e ({ frames := 1, cells := 0, slots := 0, locals := 21 } : Room) s m args below meth c H locs 0 0 (MQ below (QC G (some (.int z)) h) args s 0 0 (AD G)) (F0 m 3 ls []) := by
  intro n
  induction n with
  | zero =>
    intro H locs ls v0 v1 v2 v3 v4 hf
    cases hf
  | succ n ih =>
    intro H locs ls v0 v1 v2 v3 v4 hf w t_v0 hl
    unfold X1_alike_l3 at hf
    refine lv_iload E.1 E.2.1 dX1_alike_3 (lv_at hl 4 rfl) ?_
    refine lv_iload_n E.1 E.2.1 dX1_alike_5 rfl (lv_at hl 3 rfl) ?_
    refine lv_icmp_ge (tgt := 67) E.1 E.2.1 dX1_alike_6 (by decide) (fun c1 => ?_) (fun c1 => ?_)
    · have hf := q_pos c1 hf
      refine lv_iconst (v := 1) E.1 E.2.1 dX1_alike_67 rfl ?_
      have hf := Option.some.inj hf
      subst hf
      exact q_zret E w hr hlk dX1_alike_68
    · have hf := q_neg c1 hf
      refine lv_aload_n E.1 E.2.1 dX1_alike_9 rfl (lv_at hl 0 rfl) ?_
      refine q_gs E w 3 t_v0 fl_RX1_34 dX1_alike_10 ?_
      refine lv_iload_n E.1 E.2.1 dX1_alike_13 rfl (lv_at hl 1 rfl) ?_
      refine lv_iload E.1 E.2.1 dX1_alike_14 (lv_at hl 4 rfl) ?_
      refine lv_iadd E.1 E.2.1 dX1_alike_16 ?_
      obtain ⟨r3, hc2, hf⟩ := bd1_e hf
      refine k_Ni (As := [.ref (ad G (v0 + 3)), .int (v1 + v4)]) (rest := []) E w (X10_at_c ((lay_1_7 t_v0).1) hc2) mn_RX1_86 rfl rfl hl.1 ⟨Nat.le_of_ble_eq_true rfl, Nat.le_of_ble_eq_true rfl⟩ (Nat.le_of_ble_eq_true rfl) ⟨Nat.le_refl _, Nat.le_refl _⟩ dX1_alike_17 (fun H locs w => ?_)
      refine lv_aload_n E.1 E.2.1 dX1_alike_20 rfl (lv_at hl 0 rfl) ?_
      refine q_gs E w 3 t_v0 fl_RX1_34 dX1_alike_21 ?_
      refine lv_iload_n E.1 E.2.1 dX1_alike_24 rfl (lv_at hl 2 rfl) ?_
      refine lv_iload E.1 E.2.1 dX1_alike_25 (lv_at hl 4 rfl) ?_
      refine lv_iadd E.1 E.2.1 dX1_alike_27 ?_
      obtain ⟨r6, hc5, hf⟩ := bd1_e hf
      refine k_Ni (As := [.ref (ad G (v0 + 3)), .int (v2 + v4)]) (rest := [.int r3]) E w (X10_at_c ((lay_1_7 t_v0).1) hc5) mn_RX1_86 rfl rfl hl.1 ⟨Nat.le_of_ble_eq_true rfl, Nat.le_of_ble_eq_true rfl⟩ (Nat.le_of_ble_eq_true rfl) ⟨Nat.le_refl _, Nat.le_refl _⟩ dX1_alike_28 (fun H locs w => ?_)
      refine lv_icmp_ne (tgt := 59) E.1 E.2.1 dX1_alike_31 (by decide) (fun c8 => ?_) (fun c8 => ?_)
      · have hf := q_neg c8 hf
        refine lv_iconst (v := 0) E.1 E.2.1 dX1_alike_59 rfl ?_
        have hf := Option.some.inj hf
        subst hf
        exact q_zret E w hr hlk dX1_alike_60
      · have hf := q_pos c8 hf
        refine lv_aload_n E.1 E.2.1 dX1_alike_34 rfl (lv_at hl 0 rfl) ?_
        refine q_gs E w 4 t_v0 fl_RX1_37 dX1_alike_35 ?_
        refine lv_iload_n E.1 E.2.1 dX1_alike_38 rfl (lv_at hl 1 rfl) ?_
        refine lv_iload E.1 E.2.1 dX1_alike_39 (lv_at hl 4 rfl) ?_
        refine lv_iadd E.1 E.2.1 dX1_alike_41 ?_
        obtain ⟨r10, hc9, hf⟩ := bd1_e hf
        refine k_Ni (As := [.ref (ad G (v0 + 4)), .int (v1 + v4)]) (rest := []) E w (X10_at_c ((lay_1_8 t_v0).1) hc9) mn_RX1_86 rfl rfl hl.1 ⟨Nat.le_of_ble_eq_true rfl, Nat.le_of_ble_eq_true rfl⟩ (Nat.le_of_ble_eq_true rfl) ⟨Nat.le_refl _, Nat.le_refl _⟩ dX1_alike_42 (fun H locs w => ?_)
        refine lv_aload_n E.1 E.2.1 dX1_alike_45 rfl (lv_at hl 0 rfl) ?_
        refine q_gs E w 4 t_v0 fl_RX1_37 dX1_alike_46 ?_
        refine lv_iload_n E.1 E.2.1 dX1_alike_49 rfl (lv_at hl 2 rfl) ?_
        refine lv_iload E.1 E.2.1 dX1_alike_50 (lv_at hl 4 rfl) ?_
        refine lv_iadd E.1 E.2.1 dX1_alike_52 ?_
        obtain ⟨r13, hc12, hf⟩ := bd1_e hf
        refine k_Ni (As := [.ref (ad G (v0 + 4)), .int (v2 + v4)]) (rest := [.int r10]) E w (X10_at_c ((lay_1_8 t_v0).1) hc12) mn_RX1_86 rfl rfl hl.1 ⟨Nat.le_of_ble_eq_true rfl, Nat.le_of_ble_eq_true rfl⟩ (Nat.le_of_ble_eq_true rfl) ⟨Nat.le_refl _, Nat.le_refl _⟩ dX1_alike_53 (fun H locs w => ?_)
        refine lv_icmp_eq (tgt := 61) E.1 E.2.1 dX1_alike_56 (by decide) (fun c15 => ?_) (fun c15 => ?_)
        · have hf := q_pos c15 hf
          refine lv_iinc (v := v4 + 1) (lv' := [(4, .int (v4 + 1)), (0, .ref (ad G v0)), (1, .int v1), (2, .int v2), (3, .int v3)]) E.1 E.2.1 dX1_alike_61 hl (k := 4) rfl rfl (by decide) rfl (fun ls hl => ?_)
          refine lv_goto (tgt := 3) E.1 E.2.1 dX1_alike_64 (by decide) ?_
          exact ih _ _ _ _ _ _ _ _ hf w t_v0 (lv_sub hl [1, 2, 3, 4, 0] rfl)
        · have hf := q_neg c15 hf
          refine lv_iconst (v := 0) E.1 E.2.1 dX1_alike_59 rfl ?_
          have hf := Option.some.inj hf
          subst hf
          exact q_zret E w hr hlk dX1_alike_60

def X1_alike (N : Nat) (h : HS) (v0 : Nat) (v1 : Int32) (v2 : Int32) (v3 : Int32) : Option Int32 := X1_alike_l3 N h N v0 v1 v2 v3 0
set_option maxRecDepth 4000 in
set_option maxHeartbeats 2000000 in
theorem X1_alike_c {l : Launch} {G : GT} {N : Nat} {h : HS} {v0 : Nat} {v1 : Int32} {v2 : Int32} {v3 : Int32} {z : Int32} (t_v0 : sh v0 = 1) (hf : X1_alike N h v0 v1 v2 v3 = some z) : CT l G yX1_alike cX1_alike 5 (some .boolean) 1 21 [.ref (ad G v0), .int v1, .int v2, .int v3] h (some (.int z)) h := by
  unfold X1_alike at hf
  refine CT.of (by decide) (Nat.le_of_ble_eq_true rfl) ?_
  intro p e s m below meth c ls E hr hlk w hl
  have hl : lv_has ls 5 [(0, .ref (ad G v0)), (1, .int v1), (2, .int v2), (3, .int v3)] := hl
  refine lv_iconst (v := 0) E.1 E.2.1 dX1_alike_0 rfl ?_
  refine lv_istore (lv' := [(4, .int 0), (0, .ref (ad G v0)), (1, .int v1), (2, .int v2), (3, .int v3)]) E.1 E.2.1 dX1_alike_1 hl (by decide) rfl (fun ls hl => ?_)
  exact X1_alike_l3_w E hr hlk N _ _ _ _ _ _ _ _ hf w t_v0 (lv_sub hl [1, 2, 3, 4, 0] rfl)

def X10_bitAt_l4 (N : Nat) (h : HS) : Nat → Int32 → Int32 → Int32 → Int32 → Option Int32
  | 0, _, _, _, _ => none
  | n + 1, v0, v1, v2, v3 => (if (31 : Int32) ≤ v3 then some (-1) else (if ((v0 >>> (v3 &&& 31)) &&& 1) = 0 then X10_bitAt_l4 N h n v0 v1 v2 (v3 + 1) else (if v2 = v1 then some v3 else X10_bitAt_l4 N h n v0 v1 (v2 + 1) (v3 + 1))))
set_option maxRecDepth 4000 in
set_option maxHeartbeats 2000000 in
theorem X10_bitAt_l4_w {p : Program} {l : Launch} {e : Env} {s : State} {m : MethodId} {args : Array Value} {below : List Frame} {meth : Method} {c : Code} {G : GT} {N : Nat} {h : HS} {z : Int32} (E : CallFix p m c cX10_bitAt 4 s args UW RX10) (hr : meth.sig.returnType = (some .int)) (hlk : meth.locks = false) : ∀ (n : Nat) (H : Heap) (locs : List Loc) (ls : Array Slot) (v0 : Int32) (v1 : Int32) (v2 : Int32) (v3 : Int32), X10_bitAt_l4 N h n v0 v1 v2 v3 = some z → WD G s h H locs → lv_has ls 4 [(0, .int v0), (1, .int v1), (2, .int v2), (3, .int v3)] → W p l e ({ frames := 0, cells := 0, slots := 0, locals := 0 } : Room) s m args below meth c H locs 0 0 (MQ below (QC G (some (.int z)) h) args s 0 0 (AD G)) (F0 m 4 ls []) := by
  intro n
  induction n with
  | zero =>
    intro H locs ls v0 v1 v2 v3 hf
    cases hf
  | succ n ih =>
    intro H locs ls v0 v1 v2 v3 hf w  hl
    unfold X10_bitAt_l4 at hf
    refine lv_iload_n E.1 E.2.1 dX10_bitAt_4 rfl (lv_at hl 3 rfl) ?_
    refine lv_bipush (v := 31) E.1 E.2.1 dX10_bitAt_5 rfl ?_
    refine lv_icmp_ge (tgt := 34) E.1 E.2.1 dX10_bitAt_7 (by decide) (fun c1 => ?_) (fun c1 => ?_)
    · have hf := q_pos c1 hf
      refine lv_iconst (v := (-1)) E.1 E.2.1 dX10_bitAt_34 rfl ?_
      have hf := Option.some.inj hf
      subst hf
      exact q_iret E w hr hlk dX10_bitAt_35
    · have hf := q_neg c1 hf
      refine lv_iload_n E.1 E.2.1 dX10_bitAt_10 rfl (lv_at hl 0 rfl) ?_
      refine lv_iload_n E.1 E.2.1 dX10_bitAt_11 rfl (lv_at hl 3 rfl) ?_
      refine lv_ishr E.1 E.2.1 dX10_bitAt_12 ?_
      refine lv_iconst (v := 1) E.1 E.2.1 dX10_bitAt_13 rfl ?_
      refine lv_iand E.1 E.2.1 dX10_bitAt_14 ?_
      refine lv_if_eq (tgt := 28) E.1 E.2.1 dX10_bitAt_15 (by decide) (fun c2 => ?_) (fun c2 => ?_)
      · have hf := q_pos c2 hf
        refine lv_iinc (v := v3 + 1) (lv' := [(3, .int (v3 + 1)), (0, .int v0), (1, .int v1), (2, .int v2)]) E.1 E.2.1 dX10_bitAt_28 hl (k := 3) rfl rfl (by decide) rfl (fun ls hl => ?_)
        refine lv_goto (tgt := 4) E.1 E.2.1 dX10_bitAt_31 (by decide) ?_
        exact ih _ _ _ _ _ _ _ hf w  (lv_sub hl [1, 2, 3, 0] rfl)
      · have hf := q_neg c2 hf
        refine lv_iload_n E.1 E.2.1 dX10_bitAt_18 rfl (lv_at hl 2 rfl) ?_
        refine lv_iload_n E.1 E.2.1 dX10_bitAt_19 rfl (lv_at hl 1 rfl) ?_
        refine lv_icmp_ne (tgt := 25) E.1 E.2.1 dX10_bitAt_20 (by decide) (fun c3 => ?_) (fun c3 => ?_)
        · have hf := q_neg c3 hf
          refine lv_iinc (v := v2 + 1) (lv' := [(2, .int (v2 + 1)), (0, .int v0), (1, .int v1), (3, .int v3)]) E.1 E.2.1 dX10_bitAt_25 hl (k := 2) rfl rfl (by decide) rfl (fun ls hl => ?_)
          refine lv_iinc (v := v3 + 1) (lv' := [(3, .int (v3 + 1)), (2, .int (v2 + 1)), (0, .int v0), (1, .int v1)]) E.1 E.2.1 dX10_bitAt_28 hl (k := 3) rfl rfl (by decide) rfl (fun ls hl => ?_)
          refine lv_goto (tgt := 4) E.1 E.2.1 dX10_bitAt_31 (by decide) ?_
          exact ih _ _ _ _ _ _ _ hf w  (lv_sub hl [2, 3, 1, 0] rfl)
        · have hf := q_pos c3 hf
          refine lv_iload_n E.1 E.2.1 dX10_bitAt_23 rfl (lv_at hl 3 rfl) ?_
          have hf := Option.some.inj hf
          subst hf
          exact q_iret E w hr hlk dX10_bitAt_24

def X10_bitAt (N : Nat) (h : HS) (v0 : Int32) (v1 : Int32) : Option Int32 := X10_bitAt_l4 N h N v0 v1 0 0
set_option maxRecDepth 4000 in
set_option maxHeartbeats 2000000 in
theorem X10_bitAt_c {l : Launch} {G : GT} {N : Nat} {h : HS} {v0 : Int32} {v1 : Int32} {z : Int32} (hf : X10_bitAt N h v0 v1 = some z) : CT l G yX10_bitAt cX10_bitAt 4 (some .int) 0 0 [.int v0, .int v1] h (some (.int z)) h := by
  unfold X10_bitAt at hf
  refine CT.of (by decide) (Nat.le_of_ble_eq_true rfl) ?_
  intro p e s m below meth c ls E hr hlk w hl
  have hl : lv_has ls 4 [(0, .int v0), (1, .int v1)] := hl
  refine lv_iconst (v := 0) E.1 E.2.1 dX10_bitAt_0 rfl ?_
  refine lv_istore_n (lv' := [(2, .int 0), (0, .int v0), (1, .int v1)]) E.1 E.2.1 dX10_bitAt_1 rfl hl (by decide) rfl (fun ls hl => ?_)
  refine lv_iconst (v := 0) E.1 E.2.1 dX10_bitAt_2 rfl ?_
  refine lv_istore_n (lv' := [(3, .int 0), (2, .int 0), (0, .int v0), (1, .int v1)]) E.1 E.2.1 dX10_bitAt_3 rfl hl (by decide) rfl (fun ls hl => ?_)
  exact X10_bitAt_l4_w E hr hlk N _ _ _ _ _ _ _ hf w  (lv_sub hl [2, 3, 1, 0] rfl)

def J6_bitCount_0f7a4 (N : Nat) (h : HS) (v0 : Int32) : Option Int32 := some ((((((((v0 - ((ush v0 1) &&& 1431655765)) &&& 858993459) + ((ush (v0 - ((ush v0 1) &&& 1431655765)) 2) &&& 858993459)) + (ush (((v0 - ((ush v0 1) &&& 1431655765)) &&& 858993459) + ((ush (v0 - ((ush v0 1) &&& 1431655765)) 2) &&& 858993459)) 4)) &&& 252645135) + (ush (((((v0 - ((ush v0 1) &&& 1431655765)) &&& 858993459) + ((ush (v0 - ((ush v0 1) &&& 1431655765)) 2) &&& 858993459)) + (ush (((v0 - ((ush v0 1) &&& 1431655765)) &&& 858993459) + ((ush (v0 - ((ush v0 1) &&& 1431655765)) 2) &&& 858993459)) 4)) &&& 252645135) 8)) + (ush ((((((v0 - ((ush v0 1) &&& 1431655765)) &&& 858993459) + ((ush (v0 - ((ush v0 1) &&& 1431655765)) 2) &&& 858993459)) + (ush (((v0 - ((ush v0 1) &&& 1431655765)) &&& 858993459) + ((ush (v0 - ((ush v0 1) &&& 1431655765)) 2) &&& 858993459)) 4)) &&& 252645135) + (ush (((((v0 - ((ush v0 1) &&& 1431655765)) &&& 858993459) + ((ush (v0 - ((ush v0 1) &&& 1431655765)) 2) &&& 858993459)) + (ush (((v0 - ((ush v0 1) &&& 1431655765)) &&& 858993459) + ((ush (v0 - ((ush v0 1) &&& 1431655765)) 2) &&& 858993459)) 4)) &&& 252645135) 8)) 16)) &&& 63)
set_option maxRecDepth 4000 in
set_option maxHeartbeats 2000000 in
theorem J6_bitCount_0f7a4_c {l : Launch} {G : GT} {N : Nat} {h : HS} {v0 : Int32} {z : Int32} (hf : J6_bitCount_0f7a4 N h v0 = some z) : CT l G yJ6_bitCount_0f7a4 cJ6_bitCount_0f7a4 1 (some .int) 0 0 [.int v0] h (some (.int z)) h := by
  unfold J6_bitCount_0f7a4 at hf
  refine CT.of (by decide) (Nat.le_of_ble_eq_true rfl) ?_
  intro p e s m below meth c ls E hr hlk w hl
  have hl : lv_has ls 1 [(0, .int v0)] := hl
  refine lv_iload_n E.1 E.2.1 dJ6_bitCount_0f7a4_0 rfl (lv_at hl 0 rfl) ?_
  refine lv_iload_n E.1 E.2.1 dJ6_bitCount_0f7a4_1 rfl (lv_at hl 0 rfl) ?_
  refine lv_iconst (v := 1) E.1 E.2.1 dJ6_bitCount_0f7a4_2 rfl ?_
  refine lv_iushr (v := ush v0 1) E.1 E.2.1 dJ6_bitCount_0f7a4_3 rfl ?_
  refine lv_ldcw (v := 1431655765) E.1 E.2.1 E.2.2.2.1 (E.2.2.2.2 _ ct_RJ6_265) dJ6_bitCount_0f7a4_4 ?_
  refine lv_iand E.1 E.2.1 dJ6_bitCount_0f7a4_7 ?_
  refine lv_isub E.1 E.2.1 dJ6_bitCount_0f7a4_8 ?_
  refine lv_istore_n (lv' := [(0, .int (v0 - ((ush v0 1) &&& 1431655765)))]) E.1 E.2.1 dJ6_bitCount_0f7a4_9 rfl hl (by decide) rfl (fun ls hl => ?_)
  refine lv_iload_n E.1 E.2.1 dJ6_bitCount_0f7a4_10 rfl (lv_at hl 0 rfl) ?_
  refine lv_ldcw (v := 858993459) E.1 E.2.1 E.2.2.2.1 (E.2.2.2.2 _ ct_RJ6_266) dJ6_bitCount_0f7a4_11 ?_
  refine lv_iand E.1 E.2.1 dJ6_bitCount_0f7a4_14 ?_
  refine lv_iload_n E.1 E.2.1 dJ6_bitCount_0f7a4_15 rfl (lv_at hl 0 rfl) ?_
  refine lv_iconst (v := 2) E.1 E.2.1 dJ6_bitCount_0f7a4_16 rfl ?_
  refine lv_iushr (v := ush (v0 - ((ush v0 1) &&& 1431655765)) 2) E.1 E.2.1 dJ6_bitCount_0f7a4_17 rfl ?_
  refine lv_ldcw (v := 858993459) E.1 E.2.1 E.2.2.2.1 (E.2.2.2.2 _ ct_RJ6_266) dJ6_bitCount_0f7a4_18 ?_
  refine lv_iand E.1 E.2.1 dJ6_bitCount_0f7a4_21 ?_
  refine lv_iadd E.1 E.2.1 dJ6_bitCount_0f7a4_22 ?_
  refine lv_istore_n (lv' := [(0, .int (((v0 - ((ush v0 1) &&& 1431655765)) &&& 858993459) + ((ush (v0 - ((ush v0 1) &&& 1431655765)) 2) &&& 858993459)))]) E.1 E.2.1 dJ6_bitCount_0f7a4_23 rfl hl (by decide) rfl (fun ls hl => ?_)
  refine lv_iload_n E.1 E.2.1 dJ6_bitCount_0f7a4_24 rfl (lv_at hl 0 rfl) ?_
  refine lv_iload_n E.1 E.2.1 dJ6_bitCount_0f7a4_25 rfl (lv_at hl 0 rfl) ?_
  refine lv_iconst (v := 4) E.1 E.2.1 dJ6_bitCount_0f7a4_26 rfl ?_
  refine lv_iushr (v := ush (((v0 - ((ush v0 1) &&& 1431655765)) &&& 858993459) + ((ush (v0 - ((ush v0 1) &&& 1431655765)) 2) &&& 858993459)) 4) E.1 E.2.1 dJ6_bitCount_0f7a4_27 rfl ?_
  refine lv_iadd E.1 E.2.1 dJ6_bitCount_0f7a4_28 ?_
  refine lv_ldcw (v := 252645135) E.1 E.2.1 E.2.2.2.1 (E.2.2.2.2 _ ct_RJ6_267) dJ6_bitCount_0f7a4_29 ?_
  refine lv_iand E.1 E.2.1 dJ6_bitCount_0f7a4_32 ?_
  refine lv_istore_n (lv' := [(0, .int (((((v0 - ((ush v0 1) &&& 1431655765)) &&& 858993459) + ((ush (v0 - ((ush v0 1) &&& 1431655765)) 2) &&& 858993459)) + (ush (((v0 - ((ush v0 1) &&& 1431655765)) &&& 858993459) + ((ush (v0 - ((ush v0 1) &&& 1431655765)) 2) &&& 858993459)) 4)) &&& 252645135))]) E.1 E.2.1 dJ6_bitCount_0f7a4_33 rfl hl (by decide) rfl (fun ls hl => ?_)
  refine lv_iload_n E.1 E.2.1 dJ6_bitCount_0f7a4_34 rfl (lv_at hl 0 rfl) ?_
  refine lv_iload_n E.1 E.2.1 dJ6_bitCount_0f7a4_35 rfl (lv_at hl 0 rfl) ?_
  refine lv_bipush (v := 8) E.1 E.2.1 dJ6_bitCount_0f7a4_36 rfl ?_
  refine lv_iushr (v := ush (((((v0 - ((ush v0 1) &&& 1431655765)) &&& 858993459) + ((ush (v0 - ((ush v0 1) &&& 1431655765)) 2) &&& 858993459)) + (ush (((v0 - ((ush v0 1) &&& 1431655765)) &&& 858993459) + ((ush (v0 - ((ush v0 1) &&& 1431655765)) 2) &&& 858993459)) 4)) &&& 252645135) 8) E.1 E.2.1 dJ6_bitCount_0f7a4_38 rfl ?_
  refine lv_iadd E.1 E.2.1 dJ6_bitCount_0f7a4_39 ?_
  refine lv_istore_n (lv' := [(0, .int ((((((v0 - ((ush v0 1) &&& 1431655765)) &&& 858993459) + ((ush (v0 - ((ush v0 1) &&& 1431655765)) 2) &&& 858993459)) + (ush (((v0 - ((ush v0 1) &&& 1431655765)) &&& 858993459) + ((ush (v0 - ((ush v0 1) &&& 1431655765)) 2) &&& 858993459)) 4)) &&& 252645135) + (ush (((((v0 - ((ush v0 1) &&& 1431655765)) &&& 858993459) + ((ush (v0 - ((ush v0 1) &&& 1431655765)) 2) &&& 858993459)) + (ush (((v0 - ((ush v0 1) &&& 1431655765)) &&& 858993459) + ((ush (v0 - ((ush v0 1) &&& 1431655765)) 2) &&& 858993459)) 4)) &&& 252645135) 8)))]) E.1 E.2.1 dJ6_bitCount_0f7a4_40 rfl hl (by decide) rfl (fun ls hl => ?_)
  refine lv_iload_n E.1 E.2.1 dJ6_bitCount_0f7a4_41 rfl (lv_at hl 0 rfl) ?_
  refine lv_iload_n E.1 E.2.1 dJ6_bitCount_0f7a4_42 rfl (lv_at hl 0 rfl) ?_
  refine lv_bipush (v := 16) E.1 E.2.1 dJ6_bitCount_0f7a4_43 rfl ?_
  refine lv_iushr (v := ush ((((((v0 - ((ush v0 1) &&& 1431655765)) &&& 858993459) + ((ush (v0 - ((ush v0 1) &&& 1431655765)) 2) &&& 858993459)) + (ush (((v0 - ((ush v0 1) &&& 1431655765)) &&& 858993459) + ((ush (v0 - ((ush v0 1) &&& 1431655765)) 2) &&& 858993459)) 4)) &&& 252645135) + (ush (((((v0 - ((ush v0 1) &&& 1431655765)) &&& 858993459) + ((ush (v0 - ((ush v0 1) &&& 1431655765)) 2) &&& 858993459)) + (ush (((v0 - ((ush v0 1) &&& 1431655765)) &&& 858993459) + ((ush (v0 - ((ush v0 1) &&& 1431655765)) 2) &&& 858993459)) 4)) &&& 252645135) 8)) 16) E.1 E.2.1 dJ6_bitCount_0f7a4_45 rfl ?_
  refine lv_iadd E.1 E.2.1 dJ6_bitCount_0f7a4_46 ?_
  refine lv_istore_n (lv' := [(0, .int (((((((v0 - ((ush v0 1) &&& 1431655765)) &&& 858993459) + ((ush (v0 - ((ush v0 1) &&& 1431655765)) 2) &&& 858993459)) + (ush (((v0 - ((ush v0 1) &&& 1431655765)) &&& 858993459) + ((ush (v0 - ((ush v0 1) &&& 1431655765)) 2) &&& 858993459)) 4)) &&& 252645135) + (ush (((((v0 - ((ush v0 1) &&& 1431655765)) &&& 858993459) + ((ush (v0 - ((ush v0 1) &&& 1431655765)) 2) &&& 858993459)) + (ush (((v0 - ((ush v0 1) &&& 1431655765)) &&& 858993459) + ((ush (v0 - ((ush v0 1) &&& 1431655765)) 2) &&& 858993459)) 4)) &&& 252645135) 8)) + (ush ((((((v0 - ((ush v0 1) &&& 1431655765)) &&& 858993459) + ((ush (v0 - ((ush v0 1) &&& 1431655765)) 2) &&& 858993459)) + (ush (((v0 - ((ush v0 1) &&& 1431655765)) &&& 858993459) + ((ush (v0 - ((ush v0 1) &&& 1431655765)) 2) &&& 858993459)) 4)) &&& 252645135) + (ush (((((v0 - ((ush v0 1) &&& 1431655765)) &&& 858993459) + ((ush (v0 - ((ush v0 1) &&& 1431655765)) 2) &&& 858993459)) + (ush (((v0 - ((ush v0 1) &&& 1431655765)) &&& 858993459) + ((ush (v0 - ((ush v0 1) &&& 1431655765)) 2) &&& 858993459)) 4)) &&& 252645135) 8)) 16)))]) E.1 E.2.1 dJ6_bitCount_0f7a4_47 rfl hl (by decide) rfl (fun ls hl => ?_)
  refine lv_iload_n E.1 E.2.1 dJ6_bitCount_0f7a4_48 rfl (lv_at hl 0 rfl) ?_
  refine lv_bipush (v := 63) E.1 E.2.1 dJ6_bitCount_0f7a4_49 rfl ?_
  refine lv_iand E.1 E.2.1 dJ6_bitCount_0f7a4_51 ?_
  have hf := Option.some.inj hf
  subst hf
  exact q_iret E w hr hlk dJ6_bitCount_0f7a4_52

def J7_fill_53178_l5 (N : Nat) : Nat → HS → Nat → Int32 → Int32 → Int32 → Option HS
  | 0, _, _, _, _, _ => none
  | n + 1, h, v0, v1, v2, v3 => (if v3 ≤ v2 then some h else (if v2 < 0 ∨ ln v0 ≤ v2.toNatClampNeg then none else sq (wi h v0 v2.toNatClampNeg v1) fun h3 => J7_fill_53178_l5 N n h3 v0 v1 (v2 + 1) v3))
set_option maxRecDepth 4000 in
set_option maxHeartbeats 2000000 in
theorem J7_fill_53178_l5_w {p : Program} {l : Launch} {e : Env} {s : State} {m : MethodId} {args : Array Value} {below : List Frame} {meth : Method} {c : Code} {G : GT} {N : Nat} {z : HS} (E : CallFix p m c cJ7_fill_53178 4 s args UW RJ7) (hr : meth.sig.returnType = none) (hlk : meth.locks = false) : ∀ (n : Nat) (h : HS) (H : Heap) (locs : List Loc) (ls : Array Slot) (v0 : Nat) (v1 : Int32) (v2 : Int32) (v3 : Int32), J7_fill_53178_l5 N n h v0 v1 v2 v3 = some z → WD G s h H locs → sh v0 = 13 → lv_has ls 4 [(0, .ref (ad G v0)), (1, .int v1), (2, .int v2), (3, .int v3)] → W p l e ({ frames := 0, cells := 0, slots := 0, locals := 0 } : Room) s m args below meth c H locs 0 0 (MQ below (QC G none z) args s 0 0 (AD G)) (F0 m 5 ls []) := by
  intro n
  induction n with
  | zero =>
    intro h H locs ls v0 v1 v2 v3 hf
    cases hf
  | succ n ih =>
    intro h H locs ls v0 v1 v2 v3 hf w t_v0 hl
    unfold J7_fill_53178_l5 at hf
    refine lv_iload_n E.1 E.2.1 dJ7_fill_53178_5 rfl (lv_at hl 2 rfl) ?_
    refine lv_iload_n E.1 E.2.1 dJ7_fill_53178_6 rfl (lv_at hl 3 rfl) ?_
    refine lv_icmp_ge (tgt := 20) E.1 E.2.1 dJ7_fill_53178_7 (by decide) (fun c1 => ?_) (fun c1 => ?_)
    · have hf := q_pos c1 hf
      have hf := Option.some.inj hf
      subst hf
      exact q_vret E w hr hlk dJ7_fill_53178_20
    · have hf := q_neg c1 hf
      refine lv_aload_n E.1 E.2.1 dJ7_fill_53178_10 rfl (lv_at hl 0 rfl) ?_
      refine lv_iload_n E.1 E.2.1 dJ7_fill_53178_11 rfl (lv_at hl 2 rfl) ?_
      refine lv_iload_n E.1 E.2.1 dJ7_fill_53178_12 rfl (lv_at hl 1 rfl) ?_
      obtain ⟨b2, hf⟩ := q_if hf
      refine p_iast E w t_v0 rfl b2 dJ7_fill_53178_13 (fun h3 H locs eh w => ?_)
      have hf := sq_e eh hf
      clear eh
      refine lv_iinc (v := v2 + 1) (lv' := [(2, .int (v2 + 1)), (0, .ref (ad G v0)), (1, .int v1), (3, .int v3)]) E.1 E.2.1 dJ7_fill_53178_14 hl (k := 2) rfl rfl (by decide) rfl (fun ls hl => ?_)
      refine lv_goto (tgt := 5) E.1 E.2.1 dJ7_fill_53178_17 (by decide) ?_
      exact ih _ _ _ _ _ _ _ _ hf w t_v0 (lv_sub hl [1, 2, 0, 3] rfl)

def J7_fill_53178 (N : Nat) (h : HS) (v0 : Nat) (v1 : Int32) : Option HS := J7_fill_53178_l5 N N h v0 v1 0 (nI (ln v0))
set_option maxRecDepth 4000 in
set_option maxHeartbeats 2000000 in
theorem J7_fill_53178_c {l : Launch} {G : GT} {N : Nat} {h : HS} {v0 : Nat} {v1 : Int32} {z : HS} (t_v0 : sh v0 = 13) (hf : J7_fill_53178 N h v0 v1 = some z) : CT l G yJ7_fill_53178 cJ7_fill_53178 4 none 0 0 [.ref (ad G v0), .int v1] h none z := by
  unfold J7_fill_53178 at hf
  refine CT.of (by decide) (Nat.le_of_ble_eq_true rfl) ?_
  intro p e s m below meth c ls E hr hlk w hl
  have hl : lv_has ls 4 [(0, .ref (ad G v0)), (1, .int v1)] := hl
  refine lv_iconst (v := 0) E.1 E.2.1 dJ7_fill_53178_0 rfl ?_
  refine lv_istore_n (lv' := [(2, .int 0), (0, .ref (ad G v0)), (1, .int v1)]) E.1 E.2.1 dJ7_fill_53178_1 rfl hl (by decide) rfl (fun ls hl => ?_)
  refine lv_aload_n E.1 E.2.1 dJ7_fill_53178_2 rfl (lv_at hl 1 rfl) ?_
  refine q_alen (t := 1) E w t_v0 (by decide) dJ7_fill_53178_3 ?_
  refine lv_istore_n (lv' := [(3, .int (nI (ln v0))), (2, .int 0), (0, .ref (ad G v0)), (1, .int v1)]) E.1 E.2.1 dJ7_fill_53178_4 rfl hl (by decide) rfl (fun ls hl => ?_)
  exact J7_fill_53178_l5_w E hr hlk N _ _ _ _ _ _ _ _ hf w t_v0 (lv_sub hl [2, 3, 1, 0] rfl)
