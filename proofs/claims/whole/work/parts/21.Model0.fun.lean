def X11_isIn (N : Nat) (h : HS) (v0 : Int32) (v1 : Int32) (v2 : Int32) : Option Int32 := (if v0 < v1 then some (nz 0) else (if v2 < v0 then some (nz 0) else some (nz 1)))
set_option maxRecDepth 4000 in
set_option maxHeartbeats 2000000 in
theorem X11_isIn_c {l : Launch} {G : GT} {N : Nat} {h : HS} {v0 : Int32} {v1 : Int32} {v2 : Int32} {z : Int32} (hf : X11_isIn N h v0 v1 v2 = some z) : CT l G yX11_isIn cX11_isIn 3 (some .boolean) 0 0 [.int v0, .int v1, .int v2] h (some (.int z)) h := by
  unfold X11_isIn at hf
  refine CT.of (by decide) (Nat.le_of_ble_eq_true rfl) ?_
  intro p e s m below meth c ls E hr hlk w hl
  have hl : lv_has ls 3 [(0, .int v0), (1, .int v1), (2, .int v2)] := hl
  refine lv_iload_n E.1 E.2.1 dX11_isIn_0 rfl (lv_at hl 0 rfl) ?_
  refine lv_iload_n E.1 E.2.1 dX11_isIn_1 rfl (lv_at hl 1 rfl) ?_
  refine lv_icmp_lt (tgt := 14) E.1 E.2.1 dX11_isIn_2 (by decide) (fun c1 => ?_) (fun c1 => ?_)
  · have hf := q_pos c1 hf
    refine lv_iconst (v := 0) E.1 E.2.1 dX11_isIn_14 rfl ?_
    have hf := Option.some.inj hf
    subst hf
    exact q_zret E w hr hlk dX11_isIn_15
  · have hf := q_neg c1 hf
    refine lv_iload_n E.1 E.2.1 dX11_isIn_5 rfl (lv_at hl 0 rfl) ?_
    refine lv_iload_n E.1 E.2.1 dX11_isIn_6 rfl (lv_at hl 2 rfl) ?_
    refine lv_icmp_gt (tgt := 14) E.1 E.2.1 dX11_isIn_7 (by decide) (fun c2 => ?_) (fun c2 => ?_)
    · have hf := q_pos c2 hf
      refine lv_iconst (v := 0) E.1 E.2.1 dX11_isIn_14 rfl ?_
      have hf := Option.some.inj hf
      subst hf
      exact q_zret E w hr hlk dX11_isIn_15
    · have hf := q_neg c2 hf
      refine lv_iconst (v := 1) E.1 E.2.1 dX11_isIn_10 rfl ?_
      refine lv_goto (tgt := 15) E.1 E.2.1 dX11_isIn_11 (by decide) ?_
      have hf := Option.some.inj hf
      subst hf
      exact q_zret E w hr hlk dX11_isIn_15

def X11_feed_b73 (N : Nat) (h : HS) (K20 : HS → Nat → Int32 → Int32 → Int32 → Int32 → Int32 → Int32 → Option (Int32 × HS)) (v0 : Nat) (v1 : Int32) (v2 : Int32) (v3 : Int32) (v4 : Int32) (v5 : Int32) (v6 : Int32) (u0 : Int32) : Option (Int32 × HS) := (if (4 : Int32) < 0 ∨ 3736 ≤ (4 : Int32).toNatClampNeg then none else (if (10 + (h.1 (v0 + 1) (4 : Int32).toNatClampNeg)) < 0 ∨ 3736 ≤ (10 + (h.1 (v0 + 1) (4 : Int32).toNatClampNeg)).toNatClampNeg then none else sq (wi h (v0 + 1) (10 + (h.1 (v0 + 1) (4 : Int32).toNatClampNeg)).toNatClampNeg ((u0 >>> ((24 - (8 * (v6 - v6 / 4 * 4))) &&& 31)) &&& 255)) fun h11 => (if (4 : Int32) < 0 ∨ 3736 ≤ (4 : Int32).toNatClampNeg then none else (if (4 : Int32) < 0 ∨ 3736 ≤ (4 : Int32).toNatClampNeg then none else sq (wi h11 (v0 + 1) (4 : Int32).toNatClampNeg ((h11.1 (v0 + 1) (4 : Int32).toNatClampNeg) + 1)) fun h14 => K20 h14 v0 v1 v2 v3 v4 v5 (v6 + 1)))))
set_option maxRecDepth 4000 in
set_option maxHeartbeats 2000000 in
theorem X11_feed_b73_w {p : Program} {l : Launch} {e : Env} {s : State} {m : MethodId} {args : Array Value} {below : List Frame} {meth : Method} {c : Code} {G : GT} {N : Nat} {z : (Int32 × HS)} {h : HS} (E : CallFix p m c cX11_feed 8 s args UW RX11) (hr : meth.sig.returnType = (some .int)) (hlk : meth.locks = false) {K20 : HS → Nat → Int32 → Int32 → Int32 → Int32 → Int32 → Int32 → Option (Int32 × HS)} (hK20 : ∀ (h : HS) (H : Heap) (locs : List Loc) (ls : Array Slot) (v0 : Nat) (v1 : Int32) (v2 : Int32) (v3 : Int32) (v4 : Int32) (v5 : Int32) (v6 : Int32), K20 h v0 v1 v2 v3 v4 v5 v6 = some z → WD G s h H locs → sh v0 = 11 → lv_has ls 8 [(0, .ref (ad G v0)), (1, .int v1), (2, .int v2), (3, .int v3), (4, .int v4), (5, .int v5), (6, .int v6)] → W p l e ({ frames := 0, cells := 0, slots := 0, locals := 0 } : Room) s m args below meth c H locs 0 0 (MQ below (QC G (some (.int z.1)) z.2) args s 0 0 (AD G)) (F0 m 20 ls [])) {H : Heap} {locs : List Loc} {ls : Array Slot} {v0 : Nat} {v1 : Int32} {v2 : Int32} {v3 : Int32} {v4 : Int32} {v5 : Int32} {v6 : Int32} {u0 : Int32} (hf : X11_feed_b73 N h K20 v0 v1 v2 v3 v4 v5 v6 u0 = some z) (w : WD G s h H locs) (t_v0 : sh v0 = 11) (hl : lv_has ls 8 [(0, .ref (ad G v0)), (1, .int v1), (2, .int v2), (3, .int v3), (4, .int v4), (5, .int v5), (6, .int v6)]) : W p l e ({ frames := 0, cells := 0, slots := 0, locals := 0 } : Room) s m args below meth c H locs 0 0 (MQ below (QC G (some (.int z.1)) z.2) args s 0 0 (AD G)) (F0 m 73 ls [.int u0]) := by
  unfold X11_feed_b73 at hf
  refine lv_istore (lv' := [(7, .int u0), (0, .ref (ad G v0)), (1, .int v1), (2, .int v2), (3, .int v3), (4, .int v4), (5, .int v5), (6, .int v6)]) E.1 E.2.1 dX11_feed_73 hl (by decide) rfl (fun ls hl => ?_)
  refine lv_aload_n E.1 E.2.1 dX11_feed_75 rfl (lv_at hl 1 rfl) ?_
  refine q_gs E w 1 t_v0 fl_RX11_7 dX11_feed_76 ?_
  refine lv_bipush (v := 10) E.1 E.2.1 dX11_feed_79 rfl ?_
  refine lv_aload_n E.1 E.2.1 dX11_feed_81 rfl (lv_at hl 1 rfl) ?_
  refine q_gs E w 1 t_v0 fl_RX11_7 dX11_feed_82 ?_
  refine lv_iconst (v := 4) E.1 E.2.1 dX11_feed_85 rfl ?_
  obtain ⟨b9, hf⟩ := q_if hf
  refine q_iald E w ((lay_11_0 t_v0).1) ((lay_11_0 t_v0).2) b9 dX11_feed_86 ?_
  refine lv_iadd E.1 E.2.1 dX11_feed_87 ?_
  refine lv_iload E.1 E.2.1 dX11_feed_88 (lv_at hl 0 rfl) ?_
  refine lv_bipush (v := 24) E.1 E.2.1 dX11_feed_90 rfl ?_
  refine lv_bipush (v := 8) E.1 E.2.1 dX11_feed_92 rfl ?_
  refine lv_iload E.1 E.2.1 dX11_feed_94 (lv_at hl 7 rfl) ?_
  refine lv_iconst (v := 4) E.1 E.2.1 dX11_feed_96 rfl ?_
  refine lv_irem E.1 E.2.1 dX11_feed_97 (by decide) ?_
  refine lv_imul E.1 E.2.1 dX11_feed_98 ?_
  refine lv_isub E.1 E.2.1 dX11_feed_99 ?_
  refine lv_ishr E.1 E.2.1 dX11_feed_100 ?_
  refine lv_sipush (v := 255) E.1 E.2.1 dX11_feed_101 rfl ?_
  refine lv_iand E.1 E.2.1 dX11_feed_104 ?_
  obtain ⟨b10, hf⟩ := q_if hf
  refine p_iast E w ((lay_11_0 t_v0).1) ((lay_11_0 t_v0).2) b10 dX11_feed_105 (fun h11 H locs eh w => ?_)
  have hf := sq_e eh hf
  clear eh
  refine lv_aload_n E.1 E.2.1 dX11_feed_106 rfl (lv_at hl 1 rfl) ?_
  refine q_gs E w 1 t_v0 fl_RX11_7 dX11_feed_107 ?_
  refine lv_iconst (v := 4) E.1 E.2.1 dX11_feed_110 rfl ?_
  refine lv_dup2_11 E.1 E.2.1 dX11_feed_111 rfl rfl ?_
  obtain ⟨b12, hf⟩ := q_if hf
  refine q_iald E w ((lay_11_0 t_v0).1) ((lay_11_0 t_v0).2) b12 dX11_feed_112 ?_
  refine lv_iconst (v := 1) E.1 E.2.1 dX11_feed_113 rfl ?_
  refine lv_iadd E.1 E.2.1 dX11_feed_114 ?_
  obtain ⟨b13, hf⟩ := q_if hf
  refine p_iast E w ((lay_11_0 t_v0).1) ((lay_11_0 t_v0).2) b13 dX11_feed_115 (fun h14 H locs eh w => ?_)
  have hf := sq_e eh hf
  clear eh
  refine lv_iinc (v := v6 + 1) (lv' := [(6, .int (v6 + 1)), (7, .int u0), (0, .ref (ad G v0)), (1, .int v1), (2, .int v2), (3, .int v3), (4, .int v4), (5, .int v5)]) E.1 E.2.1 dX11_feed_116 hl (k := 7) rfl rfl (by decide) rfl (fun ls hl => ?_)
  refine lv_goto (tgt := 20) E.1 E.2.1 dX11_feed_119 (by decide) ?_
  exact hK20 _ _ _ _ _ _ _ _ _ _ _ hf w t_v0 (lv_sub hl [2, 3, 4, 5, 6, 7, 0] rfl)

def X11_feed_l20 (N : Nat) : Nat → HS → Nat → Int32 → Int32 → Int32 → Int32 → Int32 → Int32 → Option (Int32 × HS)
  | 0, _, _, _, _, _, _, _, _ => none
  | n + 1, h, v0, v1, v2, v3, v4, v5, v6 => (if (20 : Int32) ≤ v6 then (if (4 : Int32) < 0 ∨ 3736 ≤ (4 : Int32).toNatClampNeg then none else some (h.1 (v0 + 1) (4 : Int32).toNatClampNeg, h)) else (if (4 : Int32) ≤ v6 then (if (8 : Int32) ≤ v6 then (if (12 : Int32) ≤ v6 then (if (16 : Int32) ≤ v6 then X11_feed_b73 N h (X11_feed_l20 N n) v0 v1 v2 v3 v4 v5 v6 v5 else X11_feed_b73 N h (X11_feed_l20 N n) v0 v1 v2 v3 v4 v5 v6 v4) else X11_feed_b73 N h (X11_feed_l20 N n) v0 v1 v2 v3 v4 v5 v6 v3) else X11_feed_b73 N h (X11_feed_l20 N n) v0 v1 v2 v3 v4 v5 v6 v2) else X11_feed_b73 N h (X11_feed_l20 N n) v0 v1 v2 v3 v4 v5 v6 v1))
set_option maxRecDepth 4000 in
set_option maxHeartbeats 2000000 in
theorem X11_feed_l20_w {p : Program} {l : Launch} {e : Env} {s : State} {m : MethodId} {args : Array Value} {below : List Frame} {meth : Method} {c : Code} {G : GT} {N : Nat} {z : (Int32 × HS)} (E : CallFix p m c cX11_feed 8 s args UW RX11) (hr : meth.sig.returnType = (some .int)) (hlk : meth.locks = false) : ∀ (n : Nat) (h : HS) (H : Heap) (locs : List Loc) (ls : Array Slot) (v0 : Nat) (v1 : Int32) (v2 : Int32) (v3 : Int32) (v4 : Int32) (v5 : Int32) (v6 : Int32), X11_feed_l20 N n h v0 v1 v2 v3 v4 v5 v6 = some z → WD G s h H locs → sh v0 = 11 → lv_has ls 8 [(0, .ref (ad G v0)), (1, .int v1), (2, .int v2), (3, .int v3), (4, .int v4), (5, .int v5), (6, .int v6)] → W p l e ({ frames := 0, cells := 0, slots := 0, locals := 0 } : Room) s m args below meth c H locs 0 0 (MQ below (QC G (some (.int z.1)) z.2) args s 0 0 (AD G)) (F0 m 20 ls []) := by
  intro n
  induction n with
  | zero =>
    intro h H locs ls v0 v1 v2 v3 v4 v5 v6 hf
    cases hf
  | succ n ih =>
    intro h H locs ls v0 v1 v2 v3 v4 v5 v6 hf w t_v0 hl
    unfold X11_feed_l20 at hf
    refine lv_iload E.1 E.2.1 dX11_feed_20 (lv_at hl 6 rfl) ?_
    refine lv_bipush (v := 20) E.1 E.2.1 dX11_feed_22 rfl ?_
    refine lv_icmp_ge (tgt := 122) E.1 E.2.1 dX11_feed_24 (by decide) (fun c3 => ?_) (fun c3 => ?_)
    · have hf := q_pos c3 hf
      refine lv_aload_n E.1 E.2.1 dX11_feed_122 rfl (lv_at hl 0 rfl) ?_
      refine q_gs E w 1 t_v0 fl_RX11_7 dX11_feed_123 ?_
      refine lv_iconst (v := 4) E.1 E.2.1 dX11_feed_126 rfl ?_
      obtain ⟨b4, hf⟩ := q_if hf
      refine q_iald E w ((lay_11_0 t_v0).1) ((lay_11_0 t_v0).2) b4 dX11_feed_127 ?_
      have hf := Option.some.inj hf
      subst hf
      exact q_iret E w hr hlk dX11_feed_128
    · have hf := q_neg c3 hf
      refine lv_iload E.1 E.2.1 dX11_feed_27 (lv_at hl 6 rfl) ?_
      refine lv_iconst (v := 4) E.1 E.2.1 dX11_feed_29 rfl ?_
      refine lv_icmp_ge (tgt := 37) E.1 E.2.1 dX11_feed_30 (by decide) (fun c5 => ?_) (fun c5 => ?_)
      · have hf := q_pos c5 hf
        refine lv_iload E.1 E.2.1 dX11_feed_37 (lv_at hl 6 rfl) ?_
        refine lv_bipush (v := 8) E.1 E.2.1 dX11_feed_39 rfl ?_
        refine lv_icmp_ge (tgt := 48) E.1 E.2.1 dX11_feed_41 (by decide) (fun c6 => ?_) (fun c6 => ?_)
        · have hf := q_pos c6 hf
          refine lv_iload E.1 E.2.1 dX11_feed_48 (lv_at hl 6 rfl) ?_
          refine lv_bipush (v := 12) E.1 E.2.1 dX11_feed_50 rfl ?_
          refine lv_icmp_ge (tgt := 59) E.1 E.2.1 dX11_feed_52 (by decide) (fun c7 => ?_) (fun c7 => ?_)
          · have hf := q_pos c7 hf
            refine lv_iload E.1 E.2.1 dX11_feed_59 (lv_at hl 6 rfl) ?_
            refine lv_bipush (v := 16) E.1 E.2.1 dX11_feed_61 rfl ?_
            refine lv_icmp_ge (tgt := 71) E.1 E.2.1 dX11_feed_63 (by decide) (fun c8 => ?_) (fun c8 => ?_)
            · have hf := q_pos c8 hf
              refine lv_iload E.1 E.2.1 dX11_feed_71 (lv_at hl 5 rfl) ?_
              exact X11_feed_b73_w E hr hlk ih hf w t_v0 (lv_sub hl [0, 1, 2, 3, 4, 5, 6] rfl)
            · have hf := q_neg c8 hf
              refine lv_iload E.1 E.2.1 dX11_feed_66 (lv_at hl 4 rfl) ?_
              refine lv_goto (tgt := 73) E.1 E.2.1 dX11_feed_68 (by decide) ?_
              exact X11_feed_b73_w E hr hlk ih hf w t_v0 (lv_sub hl [0, 1, 2, 3, 4, 5, 6] rfl)
          · have hf := q_neg c7 hf
            refine lv_iload_n E.1 E.2.1 dX11_feed_55 rfl (lv_at hl 3 rfl) ?_
            refine lv_goto (tgt := 73) E.1 E.2.1 dX11_feed_56 (by decide) ?_
            exact X11_feed_b73_w E hr hlk ih hf w t_v0 (lv_sub hl [0, 1, 2, 3, 4, 5, 6] rfl)
        · have hf := q_neg c6 hf
          refine lv_iload_n E.1 E.2.1 dX11_feed_44 rfl (lv_at hl 2 rfl) ?_
          refine lv_goto (tgt := 73) E.1 E.2.1 dX11_feed_45 (by decide) ?_
          exact X11_feed_b73_w E hr hlk ih hf w t_v0 (lv_sub hl [0, 1, 2, 3, 4, 5, 6] rfl)
      · have hf := q_neg c5 hf
        refine lv_iload_n E.1 E.2.1 dX11_feed_33 rfl (lv_at hl 1 rfl) ?_
        refine lv_goto (tgt := 73) E.1 E.2.1 dX11_feed_34 (by decide) ?_
        exact X11_feed_b73_w E hr hlk ih hf w t_v0 (lv_sub hl [0, 1, 2, 3, 4, 5, 6] rfl)

def X11_feed (N : Nat) (h : HS) (v0 : Nat) (v1 : Int32) (v2 : Int32) (v3 : Int32) (v4 : Int32) (v5 : Int32) : Option (Int32 × HS) := (if (4 : Int32) < 0 ∨ 3736 ≤ (4 : Int32).toNatClampNeg then none else (if ((h.1 (v0 + 1) (4 : Int32).toNatClampNeg) + 20) ≤ (600 : Int32) then X11_feed_l20 N N h v0 v1 v2 v3 v4 v5 0 else some ((-1), h)))
set_option maxRecDepth 4000 in
set_option maxHeartbeats 2000000 in
theorem X11_feed_c {l : Launch} {G : GT} {N : Nat} {h : HS} {v0 : Nat} {v1 : Int32} {v2 : Int32} {v3 : Int32} {v4 : Int32} {v5 : Int32} {z : (Int32 × HS)} (t_v0 : sh v0 = 11) (hf : X11_feed N h v0 v1 v2 v3 v4 v5 = some z) : CT l G yX11_feed cX11_feed 8 (some .int) 0 0 [.ref (ad G v0), .int v1, .int v2, .int v3, .int v4, .int v5] h (some (.int z.1)) z.2 := by
  unfold X11_feed at hf
  refine CT.of (by decide) (Nat.le_of_ble_eq_true rfl) ?_
  intro p e s m below meth c ls E hr hlk w hl
  have hl : lv_has ls 8 [(0, .ref (ad G v0)), (1, .int v1), (2, .int v2), (3, .int v3), (4, .int v4), (5, .int v5)] := hl
  refine lv_aload_n E.1 E.2.1 dX11_feed_0 rfl (lv_at hl 0 rfl) ?_
  refine q_gs E w 1 t_v0 fl_RX11_7 dX11_feed_1 ?_
  refine lv_iconst (v := 4) E.1 E.2.1 dX11_feed_4 rfl ?_
  obtain ⟨b1, hf⟩ := q_if hf
  refine q_iald E w ((lay_11_0 t_v0).1) ((lay_11_0 t_v0).2) b1 dX11_feed_5 ?_
  refine lv_bipush (v := 20) E.1 E.2.1 dX11_feed_6 rfl ?_
  refine lv_iadd E.1 E.2.1 dX11_feed_8 ?_
  refine lv_sipush (v := 600) E.1 E.2.1 dX11_feed_9 rfl ?_
  refine lv_icmp_le (tgt := 17) E.1 E.2.1 dX11_feed_12 (by decide) (fun c2 => ?_) (fun c2 => ?_)
  · have hf := q_pos c2 hf
    refine lv_iconst (v := 0) E.1 E.2.1 dX11_feed_17 rfl ?_
    refine lv_istore (lv' := [(6, .int 0), (0, .ref (ad G v0)), (1, .int v1), (2, .int v2), (3, .int v3), (4, .int v4), (5, .int v5)]) E.1 E.2.1 dX11_feed_18 hl (by decide) rfl (fun ls hl => ?_)
    exact X11_feed_l20_w E hr hlk N _ _ _ _ _ _ _ _ _ _ _ hf w t_v0 (lv_sub hl [1, 2, 3, 4, 5, 6, 0] rfl)
  · have hf := q_neg c2 hf
    refine lv_iconst (v := (-1)) E.1 E.2.1 dX11_feed_15 rfl ?_
    have hf := Option.some.inj hf
    subst hf
    exact q_iret E w hr hlk dX11_feed_16

def X11_end (N : Nat) (h : HS) (v0 : Nat) (v1 : Int32) : Option (Int32 × HS) := (if v1 < 0 then some ((-1), h) else (if (4 : Int32) < 0 ∨ 3736 ≤ (4 : Int32).toNatClampNeg then none else (if v1 ≤ (h.1 (v0 + 1) (4 : Int32).toNatClampNeg) then (if (4 : Int32) < 0 ∨ 3736 ≤ (4 : Int32).toNatClampNeg then none else sq (wi h (v0 + 1) (4 : Int32).toNatClampNeg v1) fun h5 => some (v1, h5)) else some ((-1), h))))
set_option maxRecDepth 4000 in
set_option maxHeartbeats 2000000 in
theorem X11_end_c {l : Launch} {G : GT} {N : Nat} {h : HS} {v0 : Nat} {v1 : Int32} {z : (Int32 × HS)} (t_v0 : sh v0 = 11) (hf : X11_end N h v0 v1 = some z) : CT l G yX11_end cX11_end 2 (some .int) 0 0 [.ref (ad G v0), .int v1] h (some (.int z.1)) z.2 := by
  unfold X11_end at hf
  refine CT.of (by decide) (Nat.le_of_ble_eq_true rfl) ?_
  intro p e s m below meth c ls E hr hlk w hl
  have hl : lv_has ls 2 [(0, .ref (ad G v0)), (1, .int v1)] := hl
  refine lv_iload_n E.1 E.2.1 dX11_end_0 rfl (lv_at hl 1 rfl) ?_
  refine lv_if_lt (tgt := 14) E.1 E.2.1 dX11_end_1 (by decide) (fun c1 => ?_) (fun c1 => ?_)
  · have hf := q_pos c1 hf
    refine lv_iconst (v := (-1)) E.1 E.2.1 dX11_end_14 rfl ?_
    have hf := Option.some.inj hf
    subst hf
    exact q_iret E w hr hlk dX11_end_15
  · have hf := q_neg c1 hf
    refine lv_iload_n E.1 E.2.1 dX11_end_4 rfl (lv_at hl 1 rfl) ?_
    refine lv_aload_n E.1 E.2.1 dX11_end_5 rfl (lv_at hl 0 rfl) ?_
    refine q_gs E w 1 t_v0 fl_RX11_7 dX11_end_6 ?_
    refine lv_iconst (v := 4) E.1 E.2.1 dX11_end_9 rfl ?_
    obtain ⟨b2, hf⟩ := q_if hf
    refine q_iald E w ((lay_11_0 t_v0).1) ((lay_11_0 t_v0).2) b2 dX11_end_10 ?_
    refine lv_icmp_le (tgt := 16) E.1 E.2.1 dX11_end_11 (by decide) (fun c3 => ?_) (fun c3 => ?_)
    · have hf := q_pos c3 hf
      refine lv_aload_n E.1 E.2.1 dX11_end_16 rfl (lv_at hl 0 rfl) ?_
      refine q_gs E w 1 t_v0 fl_RX11_7 dX11_end_17 ?_
      refine lv_iconst (v := 4) E.1 E.2.1 dX11_end_20 rfl ?_
      refine lv_iload_n E.1 E.2.1 dX11_end_21 rfl (lv_at hl 1 rfl) ?_
      obtain ⟨b4, hf⟩ := q_if hf
      refine p_iast E w ((lay_11_0 t_v0).1) ((lay_11_0 t_v0).2) b4 dX11_end_22 (fun h5 H locs eh w => ?_)
      have hf := sq_e eh hf
      clear eh
      refine lv_iload_n E.1 E.2.1 dX11_end_23 rfl (lv_at hl 1 rfl) ?_
      have hf := Option.some.inj hf
      subst hf
      exact q_iret E w hr hlk dX11_end_24
    · have hf := q_neg c3 hf
      refine lv_iconst (v := (-1)) E.1 E.2.1 dX11_end_14 rfl ?_
      have hf := Option.some.inj hf
      subst hf
      exact q_iret E w hr hlk dX11_end_15

def X11_byteAt (N : Nat) (h : HS) (v0 : Nat) (v1 : Int32) : Option Int32 := (if (h.1 v0 2) ≤ v1 then some (-1) else (if (10 + v1) < 0 ∨ 3736 ≤ (10 + v1).toNatClampNeg then none else some (h.1 (v0 + 1) (10 + v1).toNatClampNeg)))
set_option maxRecDepth 4000 in
set_option maxHeartbeats 2000000 in
theorem X11_byteAt_c {l : Launch} {G : GT} {N : Nat} {h : HS} {v0 : Nat} {v1 : Int32} {z : Int32} (t_v0 : sh v0 = 11) (hf : X11_byteAt N h v0 v1 = some z) : CT l G yX11_byteAt cX11_byteAt 2 (some .int) 0 0 [.ref (ad G v0), .int v1] h (some (.int z)) h := by
  unfold X11_byteAt at hf
  refine CT.of (by decide) (Nat.le_of_ble_eq_true rfl) ?_
  intro p e s m below meth c ls E hr hlk w hl
  have hl : lv_has ls 2 [(0, .ref (ad G v0)), (1, .int v1)] := hl
  refine lv_iload_n E.1 E.2.1 dX11_byteAt_0 rfl (lv_at hl 1 rfl) ?_
  refine lv_aload_n E.1 E.2.1 dX11_byteAt_1 rfl (lv_at hl 0 rfl) ?_
  refine q_gi E w t_v0 fl_RX11_68 dX11_byteAt_2 ?_
  refine lv_icmp_ge (tgt := 20) E.1 E.2.1 dX11_byteAt_5 (by decide) (fun c1 => ?_) (fun c1 => ?_)
  · have hf := q_pos c1 hf
    refine lv_iconst (v := (-1)) E.1 E.2.1 dX11_byteAt_20 rfl ?_
    have hf := Option.some.inj hf
    subst hf
    exact q_iret E w hr hlk dX11_byteAt_21
  · have hf := q_neg c1 hf
    refine lv_aload_n E.1 E.2.1 dX11_byteAt_8 rfl (lv_at hl 0 rfl) ?_
    refine q_gs E w 1 t_v0 fl_RX11_7 dX11_byteAt_9 ?_
    refine lv_bipush (v := 10) E.1 E.2.1 dX11_byteAt_12 rfl ?_
    refine lv_iload_n E.1 E.2.1 dX11_byteAt_14 rfl (lv_at hl 1 rfl) ?_
    refine lv_iadd E.1 E.2.1 dX11_byteAt_15 ?_
    obtain ⟨b2, hf⟩ := q_if hf
    refine q_iald E w ((lay_11_0 t_v0).1) ((lay_11_0 t_v0).2) b2 dX11_byteAt_16 ?_
    refine lv_goto (tgt := 21) E.1 E.2.1 dX11_byteAt_17 (by decide) ?_
    have hf := Option.some.inj hf
    subst hf
    exact q_iret E w hr hlk dX11_byteAt_21

def X11_isLetter (N : Nat) (h : HS) (v0 : Int32) : Option Int32 := (if v0 < (97 : Int32) then some (nz 0) else (if (122 : Int32) < v0 then some (nz 0) else some (nz 1)))
set_option maxRecDepth 4000 in
set_option maxHeartbeats 2000000 in
theorem X11_isLetter_c {l : Launch} {G : GT} {N : Nat} {h : HS} {v0 : Int32} {z : Int32} (hf : X11_isLetter N h v0 = some z) : CT l G yX11_isLetter cX11_isLetter 1 (some .boolean) 0 0 [.int v0] h (some (.int z)) h := by
  unfold X11_isLetter at hf
  refine CT.of (by decide) (Nat.le_of_ble_eq_true rfl) ?_
  intro p e s m below meth c ls E hr hlk w hl
  have hl : lv_has ls 1 [(0, .int v0)] := hl
  refine lv_iload_n E.1 E.2.1 dX11_isLetter_0 rfl (lv_at hl 0 rfl) ?_
  refine lv_bipush (v := 97) E.1 E.2.1 dX11_isLetter_1 rfl ?_
  refine lv_icmp_lt (tgt := 16) E.1 E.2.1 dX11_isLetter_3 (by decide) (fun c1 => ?_) (fun c1 => ?_)
  · have hf := q_pos c1 hf
    refine lv_iconst (v := 0) E.1 E.2.1 dX11_isLetter_16 rfl ?_
    have hf := Option.some.inj hf
    subst hf
    exact q_zret E w hr hlk dX11_isLetter_17
  · have hf := q_neg c1 hf
    refine lv_iload_n E.1 E.2.1 dX11_isLetter_6 rfl (lv_at hl 0 rfl) ?_
    refine lv_bipush (v := 122) E.1 E.2.1 dX11_isLetter_7 rfl ?_
    refine lv_icmp_gt (tgt := 16) E.1 E.2.1 dX11_isLetter_9 (by decide) (fun c2 => ?_) (fun c2 => ?_)
    · have hf := q_pos c2 hf
      refine lv_iconst (v := 0) E.1 E.2.1 dX11_isLetter_16 rfl ?_
      have hf := Option.some.inj hf
      subst hf
      exact q_zret E w hr hlk dX11_isLetter_17
    · have hf := q_neg c2 hf
      refine lv_iconst (v := 1) E.1 E.2.1 dX11_isLetter_12 rfl ?_
      refine lv_goto (tgt := 17) E.1 E.2.1 dX11_isLetter_13 (by decide) ?_
      have hf := Option.some.inj hf
      subst hf
      exact q_zret E w hr hlk dX11_isLetter_17

def X11_isDigit (N : Nat) (h : HS) (v0 : Int32) : Option Int32 := (if v0 < (48 : Int32) then some (nz 0) else (if (57 : Int32) < v0 then some (nz 0) else some (nz 1)))
set_option maxRecDepth 4000 in
set_option maxHeartbeats 2000000 in
theorem X11_isDigit_c {l : Launch} {G : GT} {N : Nat} {h : HS} {v0 : Int32} {z : Int32} (hf : X11_isDigit N h v0 = some z) : CT l G yX11_isDigit cX11_isDigit 1 (some .boolean) 0 0 [.int v0] h (some (.int z)) h := by
  unfold X11_isDigit at hf
  refine CT.of (by decide) (Nat.le_of_ble_eq_true rfl) ?_
  intro p e s m below meth c ls E hr hlk w hl
  have hl : lv_has ls 1 [(0, .int v0)] := hl
  refine lv_iload_n E.1 E.2.1 dX11_isDigit_0 rfl (lv_at hl 0 rfl) ?_
  refine lv_bipush (v := 48) E.1 E.2.1 dX11_isDigit_1 rfl ?_
  refine lv_icmp_lt (tgt := 16) E.1 E.2.1 dX11_isDigit_3 (by decide) (fun c1 => ?_) (fun c1 => ?_)
  · have hf := q_pos c1 hf
    refine lv_iconst (v := 0) E.1 E.2.1 dX11_isDigit_16 rfl ?_
    have hf := Option.some.inj hf
    subst hf
    exact q_zret E w hr hlk dX11_isDigit_17
  · have hf := q_neg c1 hf
    refine lv_iload_n E.1 E.2.1 dX11_isDigit_6 rfl (lv_at hl 0 rfl) ?_
    refine lv_bipush (v := 57) E.1 E.2.1 dX11_isDigit_7 rfl ?_
    refine lv_icmp_gt (tgt := 16) E.1 E.2.1 dX11_isDigit_9 (by decide) (fun c2 => ?_) (fun c2 => ?_)
    · have hf := q_pos c2 hf
      refine lv_iconst (v := 0) E.1 E.2.1 dX11_isDigit_16 rfl ?_
      have hf := Option.some.inj hf
      subst hf
      exact q_zret E w hr hlk dX11_isDigit_17
    · have hf := q_neg c2 hf
      refine lv_iconst (v := 1) E.1 E.2.1 dX11_isDigit_12 rfl ?_
      refine lv_goto (tgt := 17) E.1 E.2.1 dX11_isDigit_13 (by decide) ?_
      have hf := Option.some.inj hf
      subst hf
      exact q_zret E w hr hlk dX11_isDigit_17

def X11_four (N : Nat) (h : HS) (v0 : Int32) (v1 : Int32) (v2 : Int32) (v3 : Int32) : Option Int64 := some (((((((v0 * 32) + v1) * 32) + v2) * 32) + v3).toInt64)
set_option maxRecDepth 4000 in
set_option maxHeartbeats 2000000 in
theorem X11_four_c {l : Launch} {G : GT} {N : Nat} {h : HS} {v0 : Int32} {v1 : Int32} {v2 : Int32} {v3 : Int32} {z : Int64} (hf : X11_four N h v0 v1 v2 v3 = some z) : CT l G yX11_four cX11_four 4 (some .long) 0 0 [.int v0, .int v1, .int v2, .int v3] h (some (.long z)) h := by
  unfold X11_four at hf
  refine CT.of (by decide) (Nat.le_of_ble_eq_true rfl) ?_
  intro p e s m below meth c ls E hr hlk w hl
  have hl : lv_has ls 4 [(0, .int v0), (1, .int v1), (2, .int v2), (3, .int v3)] := hl
  refine lv_iload_n E.1 E.2.1 dX11_four_0 rfl (lv_at hl 0 rfl) ?_
  refine lv_bipush (v := 32) E.1 E.2.1 dX11_four_1 rfl ?_
  refine lv_imul E.1 E.2.1 dX11_four_3 ?_
  refine lv_iload_n E.1 E.2.1 dX11_four_4 rfl (lv_at hl 1 rfl) ?_
  refine lv_iadd E.1 E.2.1 dX11_four_5 ?_
  refine lv_bipush (v := 32) E.1 E.2.1 dX11_four_6 rfl ?_
  refine lv_imul E.1 E.2.1 dX11_four_8 ?_
  refine lv_iload_n E.1 E.2.1 dX11_four_9 rfl (lv_at hl 2 rfl) ?_
  refine lv_iadd E.1 E.2.1 dX11_four_10 ?_
  refine lv_bipush (v := 32) E.1 E.2.1 dX11_four_11 rfl ?_
  refine lv_imul E.1 E.2.1 dX11_four_13 ?_
  refine lv_iload_n E.1 E.2.1 dX11_four_14 rfl (lv_at hl 3 rfl) ?_
  refine lv_iadd E.1 E.2.1 dX11_four_15 ?_
  refine lv_i2l (v := ((((((v0 * 32) + v1) * 32) + v2) * 32) + v3).toInt64) E.1 E.2.1 dX11_four_16 rfl ?_
  have hf := Option.some.inj hf
  subst hf
  exact q_lret E w hr hlk dX11_four_17

def X11_eight (N : Nat) (h : HS) (v0 : Int32) (v1 : Int32) (v2 : Int32) (v3 : Int32) (v4 : Int32) (v5 : Int32) (v6 : Int32) (v7 : Int32) : Option Int64 := bd1 (X11_four N h v0 v1 v2 v3) fun r2 => bd1 (X11_four N h v4 v5 v6 v7) fun r5 => some ((r2 * 1048576) + r5)
set_option maxRecDepth 4000 in
set_option maxHeartbeats 2000000 in
theorem X11_eight_c {l : Launch} {G : GT} {N : Nat} {h : HS} {v0 : Int32} {v1 : Int32} {v2 : Int32} {v3 : Int32} {v4 : Int32} {v5 : Int32} {v6 : Int32} {v7 : Int32} {z : Int64} (hf : X11_eight N h v0 v1 v2 v3 v4 v5 v6 v7 = some z) : CT l G yX11_eight cX11_eight 8 (some .long) 1 23 [.int v0, .int v1, .int v2, .int v3, .int v4, .int v5, .int v6, .int v7] h (some (.long z)) h := by
  unfold X11_eight at hf
  refine CT.of (by decide) (Nat.le_of_ble_eq_true rfl) ?_
  intro p e s m below meth c ls E hr hlk w hl
  have hl : lv_has ls 8 [(0, .int v0), (1, .int v1), (2, .int v2), (3, .int v3), (4, .int v4), (5, .int v5), (6, .int v6), (7, .int v7)] := hl
  refine lv_iload_n E.1 E.2.1 dX11_eight_0 rfl (lv_at hl 0 rfl) ?_
  refine lv_iload_n E.1 E.2.1 dX11_eight_1 rfl (lv_at hl 1 rfl) ?_
  refine lv_iload_n E.1 E.2.1 dX11_eight_2 rfl (lv_at hl 2 rfl) ?_
  refine lv_iload_n E.1 E.2.1 dX11_eight_3 rfl (lv_at hl 3 rfl) ?_
  obtain ⟨r2, hc1, hf⟩ := bd1_e hf
  refine k_Sl (As := [.int v0, .int v1, .int v2, .int v3]) (rest := []) E w (X11_four_c  hc1) ms_RX11_72 rfl rfl hl.1 ⟨Nat.le_of_ble_eq_true rfl, Nat.le_of_ble_eq_true rfl⟩ (Nat.le_of_ble_eq_true rfl) ⟨Nat.le_refl _, Nat.le_refl _⟩ dX11_eight_4 (fun H locs w => ?_)
  refine lv_ldc2 (v := 1048576) E.1 E.2.1 E.2.2.2.1 (E.2.2.2.2 _ ct_RX11_76) dX11_eight_7 ?_
  refine lv_lmul E.1 E.2.1 dX11_eight_10 ?_
  refine lv_iload E.1 E.2.1 dX11_eight_11 (lv_at hl 4 rfl) ?_
  refine lv_iload E.1 E.2.1 dX11_eight_13 (lv_at hl 5 rfl) ?_
  refine lv_iload E.1 E.2.1 dX11_eight_15 (lv_at hl 6 rfl) ?_
  refine lv_iload E.1 E.2.1 dX11_eight_17 (lv_at hl 7 rfl) ?_
  obtain ⟨r5, hc4, hf⟩ := bd1_e hf
  refine k_Sl (As := [.int v4, .int v5, .int v6, .int v7]) (rest := [.long (r2 * 1048576)]) E w (X11_four_c  hc4) ms_RX11_72 rfl rfl hl.1 ⟨Nat.le_of_ble_eq_true rfl, Nat.le_of_ble_eq_true rfl⟩ (Nat.le_of_ble_eq_true rfl) ⟨Nat.le_refl _, Nat.le_refl _⟩ dX11_eight_19 (fun H locs w => ?_)
  refine lv_ladd E.1 E.2.1 dX11_eight_22 ?_
  have hf := Option.some.inj hf
  subst hf
  exact q_lret E w hr hlk dX11_eight_23

def X11_wordOf (N : Nat) (h : HS) (v0 : Int64) : Option Int32 := bd1 (X11_eight N h 0 0 0 6 12 15 15 18) fun r2 => (if (lg_cmp v0 r2) = 0 then some 1 else bd1 (X11_four N h 0 2 1 18) fun r6 => (if (lg_cmp v0 r6) = 0 then some 2 else bd1 (X11_eight N h 0 0 19 9 14 7 5 18) fun r10 => (if (lg_cmp v0 r10) = 0 then some 3 else bd1 (X11_four N h 19 20 5 16) fun r14 => (if (lg_cmp v0 r14) = 0 then some 4 else bd1 (X11_four N h 23 1 12 12) fun r18 => (if (lg_cmp v0 r18) = 0 then some 5 else bd1 (X11_four N h 19 9 14 7) fun r22 => (if (lg_cmp v0 r22) = 0 then some 6 else bd1 (X11_four N h 3 15 12 4) fun r26 => (if (lg_cmp v0 r26) = 0 then some 7 else bd1 (X11_four N h 23 5 12 12) fun r30 => (if (lg_cmp v0 r30) = 0 then some 8 else bd1 (X11_four N h 19 11 9 16) fun r34 => (if (lg_cmp v0 r34) = 0 then some 9 else bd1 (X11_eight N h 0 0 0 14 9 7 8 20) fun r38 => (if (lg_cmp v0 r38) = 0 then some 10 else bd1 (X11_eight N h 0 0 4 18 5 1 13 20) fun r42 => (if (lg_cmp v0 r42) = 0 then some 11 else bd1 (X11_four N h 3 1 12 13) fun r46 => (if (lg_cmp v0 r46) = 0 then some 12 else some 99))))))))))))
set_option maxRecDepth 4000 in
set_option maxHeartbeats 2000000 in
theorem X11_wordOf_c {l : Launch} {G : GT} {N : Nat} {h : HS} {v0 : Int64} {z : Int32} (hf : X11_wordOf N h v0 = some z) : CT l G yX11_wordOf cX11_wordOf 2 (some .int) 2 50 [.long v0] h (some (.int z)) h := by
  unfold X11_wordOf at hf
  refine CT.of (by decide) (Nat.le_of_ble_eq_true rfl) ?_
  intro p e s m below meth c ls E hr hlk w hl
  have hl : lv_has ls 2 [(0, .long v0)] := hl
  refine lv_lload_n E.1 E.2.1 dX11_wordOf_0 rfl (lv_at hl 0 rfl) ?_
  refine lv_iconst (v := 0) E.1 E.2.1 dX11_wordOf_1 rfl ?_
  refine lv_iconst (v := 0) E.1 E.2.1 dX11_wordOf_2 rfl ?_
  refine lv_iconst (v := 0) E.1 E.2.1 dX11_wordOf_3 rfl ?_
  refine lv_bipush (v := 6) E.1 E.2.1 dX11_wordOf_4 rfl ?_
  refine lv_bipush (v := 12) E.1 E.2.1 dX11_wordOf_6 rfl ?_
  refine lv_bipush (v := 15) E.1 E.2.1 dX11_wordOf_8 rfl ?_
  refine lv_bipush (v := 15) E.1 E.2.1 dX11_wordOf_10 rfl ?_
  refine lv_bipush (v := 18) E.1 E.2.1 dX11_wordOf_12 rfl ?_
  obtain ⟨r2, hc1, hf⟩ := bd1_e hf
  refine k_Sl (As := [.int 0, .int 0, .int 0, .int 6, .int 12, .int 15, .int 15, .int 18]) (rest := [.long v0]) E w (X11_eight_c  hc1) ms_RX11_78 rfl rfl hl.1 ⟨Nat.le_of_ble_eq_true rfl, Nat.le_of_ble_eq_true rfl⟩ (Nat.le_of_ble_eq_true rfl) ⟨Nat.le_refl _, Nat.le_refl _⟩ dX11_wordOf_14 (fun H locs w => ?_)
  refine W.lcmp E.1 E.2.1 dX11_wordOf_17 ?_
  refine lv_if_ne (tgt := 23) E.1 E.2.1 dX11_wordOf_18 (by decide) (fun c4 => ?_) (fun c4 => ?_)
  · have hf := q_neg c4 hf
    refine lv_lload_n E.1 E.2.1 dX11_wordOf_23 rfl (lv_at hl 0 rfl) ?_
    refine lv_iconst (v := 0) E.1 E.2.1 dX11_wordOf_24 rfl ?_
    refine lv_iconst (v := 2) E.1 E.2.1 dX11_wordOf_25 rfl ?_
    refine lv_iconst (v := 1) E.1 E.2.1 dX11_wordOf_26 rfl ?_
    refine lv_bipush (v := 18) E.1 E.2.1 dX11_wordOf_27 rfl ?_
    obtain ⟨r6, hc5, hf⟩ := bd1_e hf
    refine k_Sl (As := [.int 0, .int 2, .int 1, .int 18]) (rest := [.long v0]) E w (X11_four_c  hc5) ms_RX11_72 rfl rfl hl.1 ⟨Nat.le_of_ble_eq_true rfl, Nat.le_of_ble_eq_true rfl⟩ (Nat.le_of_ble_eq_true rfl) ⟨Nat.le_refl _, Nat.le_refl _⟩ dX11_wordOf_29 (fun H locs w => ?_)
    refine W.lcmp E.1 E.2.1 dX11_wordOf_32 ?_
    refine lv_if_ne (tgt := 38) E.1 E.2.1 dX11_wordOf_33 (by decide) (fun c8 => ?_) (fun c8 => ?_)
    · have hf := q_neg c8 hf
      refine lv_lload_n E.1 E.2.1 dX11_wordOf_38 rfl (lv_at hl 0 rfl) ?_
      refine lv_iconst (v := 0) E.1 E.2.1 dX11_wordOf_39 rfl ?_
      refine lv_iconst (v := 0) E.1 E.2.1 dX11_wordOf_40 rfl ?_
      refine lv_bipush (v := 19) E.1 E.2.1 dX11_wordOf_41 rfl ?_
      refine lv_bipush (v := 9) E.1 E.2.1 dX11_wordOf_43 rfl ?_
      refine lv_bipush (v := 14) E.1 E.2.1 dX11_wordOf_45 rfl ?_
      refine lv_bipush (v := 7) E.1 E.2.1 dX11_wordOf_47 rfl ?_
      refine lv_iconst (v := 5) E.1 E.2.1 dX11_wordOf_49 rfl ?_
      refine lv_bipush (v := 18) E.1 E.2.1 dX11_wordOf_50 rfl ?_
      obtain ⟨r10, hc9, hf⟩ := bd1_e hf
      refine k_Sl (As := [.int 0, .int 0, .int 19, .int 9, .int 14, .int 7, .int 5, .int 18]) (rest := [.long v0]) E w (X11_eight_c  hc9) ms_RX11_78 rfl rfl hl.1 ⟨Nat.le_of_ble_eq_true rfl, Nat.le_of_ble_eq_true rfl⟩ (Nat.le_of_ble_eq_true rfl) ⟨Nat.le_refl _, Nat.le_refl _⟩ dX11_wordOf_52 (fun H locs w => ?_)
      refine W.lcmp E.1 E.2.1 dX11_wordOf_55 ?_
      refine lv_if_ne (tgt := 61) E.1 E.2.1 dX11_wordOf_56 (by decide) (fun c12 => ?_) (fun c12 => ?_)
      · have hf := q_neg c12 hf
        refine lv_lload_n E.1 E.2.1 dX11_wordOf_61 rfl (lv_at hl 0 rfl) ?_
        refine lv_bipush (v := 19) E.1 E.2.1 dX11_wordOf_62 rfl ?_
        refine lv_bipush (v := 20) E.1 E.2.1 dX11_wordOf_64 rfl ?_
        refine lv_iconst (v := 5) E.1 E.2.1 dX11_wordOf_66 rfl ?_
        refine lv_bipush (v := 16) E.1 E.2.1 dX11_wordOf_67 rfl ?_
        obtain ⟨r14, hc13, hf⟩ := bd1_e hf
        refine k_Sl (As := [.int 19, .int 20, .int 5, .int 16]) (rest := [.long v0]) E w (X11_four_c  hc13) ms_RX11_72 rfl rfl hl.1 ⟨Nat.le_of_ble_eq_true rfl, Nat.le_of_ble_eq_true rfl⟩ (Nat.le_of_ble_eq_true rfl) ⟨Nat.le_refl _, Nat.le_refl _⟩ dX11_wordOf_69 (fun H locs w => ?_)
        refine W.lcmp E.1 E.2.1 dX11_wordOf_72 ?_
        refine lv_if_ne (tgt := 78) E.1 E.2.1 dX11_wordOf_73 (by decide) (fun c16 => ?_) (fun c16 => ?_)
        · have hf := q_neg c16 hf
          refine lv_lload_n E.1 E.2.1 dX11_wordOf_78 rfl (lv_at hl 0 rfl) ?_
          refine lv_bipush (v := 23) E.1 E.2.1 dX11_wordOf_79 rfl ?_
          refine lv_iconst (v := 1) E.1 E.2.1 dX11_wordOf_81 rfl ?_
          refine lv_bipush (v := 12) E.1 E.2.1 dX11_wordOf_82 rfl ?_
          refine lv_bipush (v := 12) E.1 E.2.1 dX11_wordOf_84 rfl ?_
          obtain ⟨r18, hc17, hf⟩ := bd1_e hf
          refine k_Sl (As := [.int 23, .int 1, .int 12, .int 12]) (rest := [.long v0]) E w (X11_four_c  hc17) ms_RX11_72 rfl rfl hl.1 ⟨Nat.le_of_ble_eq_true rfl, Nat.le_of_ble_eq_true rfl⟩ (Nat.le_of_ble_eq_true rfl) ⟨Nat.le_refl _, Nat.le_refl _⟩ dX11_wordOf_86 (fun H locs w => ?_)
          refine W.lcmp E.1 E.2.1 dX11_wordOf_89 ?_
          refine lv_if_ne (tgt := 95) E.1 E.2.1 dX11_wordOf_90 (by decide) (fun c20 => ?_) (fun c20 => ?_)
          · have hf := q_neg c20 hf
            refine lv_lload_n E.1 E.2.1 dX11_wordOf_95 rfl (lv_at hl 0 rfl) ?_
            refine lv_bipush (v := 19) E.1 E.2.1 dX11_wordOf_96 rfl ?_
            refine lv_bipush (v := 9) E.1 E.2.1 dX11_wordOf_98 rfl ?_
            refine lv_bipush (v := 14) E.1 E.2.1 dX11_wordOf_100 rfl ?_
            refine lv_bipush (v := 7) E.1 E.2.1 dX11_wordOf_102 rfl ?_
            obtain ⟨r22, hc21, hf⟩ := bd1_e hf
            refine k_Sl (As := [.int 19, .int 9, .int 14, .int 7]) (rest := [.long v0]) E w (X11_four_c  hc21) ms_RX11_72 rfl rfl hl.1 ⟨Nat.le_of_ble_eq_true rfl, Nat.le_of_ble_eq_true rfl⟩ (Nat.le_of_ble_eq_true rfl) ⟨Nat.le_refl _, Nat.le_refl _⟩ dX11_wordOf_104 (fun H locs w => ?_)
            refine W.lcmp E.1 E.2.1 dX11_wordOf_107 ?_
            refine lv_if_ne (tgt := 114) E.1 E.2.1 dX11_wordOf_108 (by decide) (fun c24 => ?_) (fun c24 => ?_)
            · have hf := q_neg c24 hf
              refine lv_lload_n E.1 E.2.1 dX11_wordOf_114 rfl (lv_at hl 0 rfl) ?_
              refine lv_iconst (v := 3) E.1 E.2.1 dX11_wordOf_115 rfl ?_
              refine lv_bipush (v := 15) E.1 E.2.1 dX11_wordOf_116 rfl ?_
              refine lv_bipush (v := 12) E.1 E.2.1 dX11_wordOf_118 rfl ?_
              refine lv_iconst (v := 4) E.1 E.2.1 dX11_wordOf_120 rfl ?_
              obtain ⟨r26, hc25, hf⟩ := bd1_e hf
              refine k_Sl (As := [.int 3, .int 15, .int 12, .int 4]) (rest := [.long v0]) E w (X11_four_c  hc25) ms_RX11_72 rfl rfl hl.1 ⟨Nat.le_of_ble_eq_true rfl, Nat.le_of_ble_eq_true rfl⟩ (Nat.le_of_ble_eq_true rfl) ⟨Nat.le_refl _, Nat.le_refl _⟩ dX11_wordOf_121 (fun H locs w => ?_)
              refine W.lcmp E.1 E.2.1 dX11_wordOf_124 ?_
              refine lv_if_ne (tgt := 131) E.1 E.2.1 dX11_wordOf_125 (by decide) (fun c28 => ?_) (fun c28 => ?_)
              · have hf := q_neg c28 hf
                refine lv_lload_n E.1 E.2.1 dX11_wordOf_131 rfl (lv_at hl 0 rfl) ?_
                refine lv_bipush (v := 23) E.1 E.2.1 dX11_wordOf_132 rfl ?_
                refine lv_iconst (v := 5) E.1 E.2.1 dX11_wordOf_134 rfl ?_
                refine lv_bipush (v := 12) E.1 E.2.1 dX11_wordOf_135 rfl ?_
                refine lv_bipush (v := 12) E.1 E.2.1 dX11_wordOf_137 rfl ?_
                obtain ⟨r30, hc29, hf⟩ := bd1_e hf
                refine k_Sl (As := [.int 23, .int 5, .int 12, .int 12]) (rest := [.long v0]) E w (X11_four_c  hc29) ms_RX11_72 rfl rfl hl.1 ⟨Nat.le_of_ble_eq_true rfl, Nat.le_of_ble_eq_true rfl⟩ (Nat.le_of_ble_eq_true rfl) ⟨Nat.le_refl _, Nat.le_refl _⟩ dX11_wordOf_139 (fun H locs w => ?_)
                refine W.lcmp E.1 E.2.1 dX11_wordOf_142 ?_
                refine lv_if_ne (tgt := 149) E.1 E.2.1 dX11_wordOf_143 (by decide) (fun c32 => ?_) (fun c32 => ?_)
                · have hf := q_neg c32 hf
                  refine lv_lload_n E.1 E.2.1 dX11_wordOf_149 rfl (lv_at hl 0 rfl) ?_
                  refine lv_bipush (v := 19) E.1 E.2.1 dX11_wordOf_150 rfl ?_
                  refine lv_bipush (v := 11) E.1 E.2.1 dX11_wordOf_152 rfl ?_
                  refine lv_bipush (v := 9) E.1 E.2.1 dX11_wordOf_154 rfl ?_
                  refine lv_bipush (v := 16) E.1 E.2.1 dX11_wordOf_156 rfl ?_
                  obtain ⟨r34, hc33, hf⟩ := bd1_e hf
                  refine k_Sl (As := [.int 19, .int 11, .int 9, .int 16]) (rest := [.long v0]) E w (X11_four_c  hc33) ms_RX11_72 rfl rfl hl.1 ⟨Nat.le_of_ble_eq_true rfl, Nat.le_of_ble_eq_true rfl⟩ (Nat.le_of_ble_eq_true rfl) ⟨Nat.le_refl _, Nat.le_refl _⟩ dX11_wordOf_158 (fun H locs w => ?_)
                  refine W.lcmp E.1 E.2.1 dX11_wordOf_161 ?_
                  refine lv_if_ne (tgt := 168) E.1 E.2.1 dX11_wordOf_162 (by decide) (fun c36 => ?_) (fun c36 => ?_)
                  · have hf := q_neg c36 hf
                    refine lv_lload_n E.1 E.2.1 dX11_wordOf_168 rfl (lv_at hl 0 rfl) ?_
                    refine lv_iconst (v := 0) E.1 E.2.1 dX11_wordOf_169 rfl ?_
                    refine lv_iconst (v := 0) E.1 E.2.1 dX11_wordOf_170 rfl ?_
                    refine lv_iconst (v := 0) E.1 E.2.1 dX11_wordOf_171 rfl ?_
                    refine lv_bipush (v := 14) E.1 E.2.1 dX11_wordOf_172 rfl ?_
                    refine lv_bipush (v := 9) E.1 E.2.1 dX11_wordOf_174 rfl ?_
                    refine lv_bipush (v := 7) E.1 E.2.1 dX11_wordOf_176 rfl ?_
                    refine lv_bipush (v := 8) E.1 E.2.1 dX11_wordOf_178 rfl ?_
                    refine lv_bipush (v := 20) E.1 E.2.1 dX11_wordOf_180 rfl ?_
                    obtain ⟨r38, hc37, hf⟩ := bd1_e hf
                    refine k_Sl (As := [.int 0, .int 0, .int 0, .int 14, .int 9, .int 7, .int 8, .int 20]) (rest := [.long v0]) E w (X11_eight_c  hc37) ms_RX11_78 rfl rfl hl.1 ⟨Nat.le_of_ble_eq_true rfl, Nat.le_of_ble_eq_true rfl⟩ (Nat.le_of_ble_eq_true rfl) ⟨Nat.le_refl _, Nat.le_refl _⟩ dX11_wordOf_182 (fun H locs w => ?_)
                    refine W.lcmp E.1 E.2.1 dX11_wordOf_185 ?_
                    refine lv_if_ne (tgt := 192) E.1 E.2.1 dX11_wordOf_186 (by decide) (fun c40 => ?_) (fun c40 => ?_)
                    · have hf := q_neg c40 hf
                      refine lv_lload_n E.1 E.2.1 dX11_wordOf_192 rfl (lv_at hl 0 rfl) ?_
                      refine lv_iconst (v := 0) E.1 E.2.1 dX11_wordOf_193 rfl ?_
                      refine lv_iconst (v := 0) E.1 E.2.1 dX11_wordOf_194 rfl ?_
                      refine lv_iconst (v := 4) E.1 E.2.1 dX11_wordOf_195 rfl ?_
                      refine lv_bipush (v := 18) E.1 E.2.1 dX11_wordOf_196 rfl ?_
                      refine lv_iconst (v := 5) E.1 E.2.1 dX11_wordOf_198 rfl ?_
                      refine lv_iconst (v := 1) E.1 E.2.1 dX11_wordOf_199 rfl ?_
                      refine lv_bipush (v := 13) E.1 E.2.1 dX11_wordOf_200 rfl ?_
                      refine lv_bipush (v := 20) E.1 E.2.1 dX11_wordOf_202 rfl ?_
                      obtain ⟨r42, hc41, hf⟩ := bd1_e hf
                      refine k_Sl (As := [.int 0, .int 0, .int 4, .int 18, .int 5, .int 1, .int 13, .int 20]) (rest := [.long v0]) E w (X11_eight_c  hc41) ms_RX11_78 rfl rfl hl.1 ⟨Nat.le_of_ble_eq_true rfl, Nat.le_of_ble_eq_true rfl⟩ (Nat.le_of_ble_eq_true rfl) ⟨Nat.le_refl _, Nat.le_refl _⟩ dX11_wordOf_204 (fun H locs w => ?_)
                      refine W.lcmp E.1 E.2.1 dX11_wordOf_207 ?_
                      refine lv_if_ne (tgt := 214) E.1 E.2.1 dX11_wordOf_208 (by decide) (fun c44 => ?_) (fun c44 => ?_)
                      · have hf := q_neg c44 hf
                        refine lv_lload_n E.1 E.2.1 dX11_wordOf_214 rfl (lv_at hl 0 rfl) ?_
                        refine lv_iconst (v := 3) E.1 E.2.1 dX11_wordOf_215 rfl ?_
                        refine lv_iconst (v := 1) E.1 E.2.1 dX11_wordOf_216 rfl ?_
                        refine lv_bipush (v := 12) E.1 E.2.1 dX11_wordOf_217 rfl ?_
                        refine lv_bipush (v := 13) E.1 E.2.1 dX11_wordOf_219 rfl ?_
                        obtain ⟨r46, hc45, hf⟩ := bd1_e hf
                        refine k_Sl (As := [.int 3, .int 1, .int 12, .int 13]) (rest := [.long v0]) E w (X11_four_c  hc45) ms_RX11_72 rfl rfl hl.1 ⟨Nat.le_of_ble_eq_true rfl, Nat.le_of_ble_eq_true rfl⟩ (Nat.le_of_ble_eq_true rfl) ⟨Nat.le_refl _, Nat.le_refl _⟩ dX11_wordOf_221 (fun H locs w => ?_)
                        refine W.lcmp E.1 E.2.1 dX11_wordOf_224 ?_
                        refine lv_if_ne (tgt := 233) E.1 E.2.1 dX11_wordOf_225 (by decide) (fun c48 => ?_) (fun c48 => ?_)
                        · have hf := q_neg c48 hf
                          refine lv_bipush (v := 99) E.1 E.2.1 dX11_wordOf_233 rfl ?_
                          have hf := Option.some.inj hf
                          subst hf
                          exact q_iret E w hr hlk dX11_wordOf_235
                        · have hf := q_pos c48 hf
                          refine lv_bipush (v := 12) E.1 E.2.1 dX11_wordOf_228 rfl ?_
                          refine lv_goto (tgt := 235) E.1 E.2.1 dX11_wordOf_230 (by decide) ?_
                          have hf := Option.some.inj hf
                          subst hf
                          exact q_iret E w hr hlk dX11_wordOf_235
                      · have hf := q_pos c44 hf
                        refine lv_bipush (v := 11) E.1 E.2.1 dX11_wordOf_211 rfl ?_
                        have hf := Option.some.inj hf
                        subst hf
                        exact q_iret E w hr hlk dX11_wordOf_213
                    · have hf := q_pos c40 hf
                      refine lv_bipush (v := 10) E.1 E.2.1 dX11_wordOf_189 rfl ?_
                      have hf := Option.some.inj hf
                      subst hf
                      exact q_iret E w hr hlk dX11_wordOf_191
                  · have hf := q_pos c36 hf
                    refine lv_bipush (v := 9) E.1 E.2.1 dX11_wordOf_165 rfl ?_
                    have hf := Option.some.inj hf
                    subst hf
                    exact q_iret E w hr hlk dX11_wordOf_167
                · have hf := q_pos c32 hf
                  refine lv_bipush (v := 8) E.1 E.2.1 dX11_wordOf_146 rfl ?_
                  have hf := Option.some.inj hf
                  subst hf
                  exact q_iret E w hr hlk dX11_wordOf_148
              · have hf := q_pos c28 hf
                refine lv_bipush (v := 7) E.1 E.2.1 dX11_wordOf_128 rfl ?_
                have hf := Option.some.inj hf
                subst hf
                exact q_iret E w hr hlk dX11_wordOf_130
            · have hf := q_pos c24 hf
              refine lv_bipush (v := 6) E.1 E.2.1 dX11_wordOf_111 rfl ?_
              have hf := Option.some.inj hf
              subst hf
              exact q_iret E w hr hlk dX11_wordOf_113
          · have hf := q_pos c20 hf
            refine lv_iconst (v := 5) E.1 E.2.1 dX11_wordOf_93 rfl ?_
            have hf := Option.some.inj hf
            subst hf
            exact q_iret E w hr hlk dX11_wordOf_94
        · have hf := q_pos c16 hf
          refine lv_iconst (v := 4) E.1 E.2.1 dX11_wordOf_76 rfl ?_
          have hf := Option.some.inj hf
          subst hf
          exact q_iret E w hr hlk dX11_wordOf_77
      · have hf := q_pos c12 hf
        refine lv_iconst (v := 3) E.1 E.2.1 dX11_wordOf_59 rfl ?_
        have hf := Option.some.inj hf
        subst hf
        exact q_iret E w hr hlk dX11_wordOf_60
    · have hf := q_pos c8 hf
      refine lv_iconst (v := 2) E.1 E.2.1 dX11_wordOf_36 rfl ?_
      have hf := Option.some.inj hf
      subst hf
      exact q_iret E w hr hlk dX11_wordOf_37
  · have hf := q_pos c4 hf
    refine lv_iconst (v := 1) E.1 E.2.1 dX11_wordOf_21 rfl ?_
    have hf := Option.some.inj hf
    subst hf
    exact q_iret E w hr hlk dX11_wordOf_22

def X11_advance_l198 (N : Nat) : Nat → HS → Nat → Option HS
  | 0, _, _ => none
  | n + 1, h, v0 => bd1 (X11_byteAt N h v0 (h.1 v0 3)) fun r29 => bd1 (X11_isDigit N h r29) fun r32 => (if r32 = 0 then (if ((h.1 v0 3) - (h.1 v0 4)) ≤ (2 : Int32) then sq (wi h v0 5 1) fun h36 => some h36 else sq (wi h v0 5 4) fun h37 => some h37) else (if (2 : Int32) ≤ ((h.1 v0 3) - (h.1 v0 4)) then sq (wi h v0 3 ((h.1 v0 3) + 1)) fun h39 => X11_advance_l198 N n h39 v0 else bd1 (X11_byteAt N h v0 (h.1 v0 3)) fun r41 => sq (wi h v0 6 (((10 * (h.1 v0 6)) + r41) - 48)) fun h43 => sq (wi h43 v0 3 ((h43.1 v0 3) + 1)) fun h44 => X11_advance_l198 N n h44 v0))
set_option maxRecDepth 4000 in
set_option maxHeartbeats 2000000 in
theorem X11_advance_l198_w {p : Program} {l : Launch} {e : Env} {s : State} {m : MethodId} {args : Array Value} {below : List Frame} {meth : Method} {c : Code} {G : GT} {N : Nat} {z : HS} (E : CallFix p m c cX11_advance 4 s args UW RX11) (hr : meth.sig.returnType = none) (hlk : meth.locks = false) : ∀ (n : Nat) (h : HS) (H : Heap) (locs : List Loc) (ls : Array Slot) (v0 : Nat), X11_advance_l198 N n h v0 = some z → WD G s h H locs → sh v0 = 11 → lv_has ls 4 [(0, .ref (ad G v0))] → W p l e ({ frames := 3, cells := 0, slots := 0, locals := 71 } : Room) s m args below meth c H locs 0 0 (MQ below (QC G none z) args s 0 0 (AD G)) (F0 m 198 ls []) := by
  intro n
  induction n with
  | zero =>
    intro h H locs ls v0 hf
    cases hf
  | succ n ih =>
    intro h H locs ls v0 hf w t_v0 hl
    unfold X11_advance_l198 at hf
    refine lv_aload_n E.1 E.2.1 dX11_advance_198 rfl (lv_at hl 0 rfl) ?_
    refine lv_aload_n E.1 E.2.1 dX11_advance_199 rfl (lv_at hl 0 rfl) ?_
    refine q_gi E w t_v0 fl_RX11_82 dX11_advance_200 ?_
    obtain ⟨r29, hc28, hf⟩ := bd1_e hf
    refine k_Vi (As := [.int (h.1 v0 3)]) (rest := []) E w t_v0 ⟨by decide, rfl⟩ (X11_byteAt_c t_v0 hc28) mv_RX11_85 rfl rfl hl.1 ⟨Nat.le_of_ble_eq_true rfl, Nat.le_of_ble_eq_true rfl⟩ (Nat.le_of_ble_eq_true rfl) ⟨Nat.le_refl _, Nat.le_refl _⟩ dX11_advance_203 (fun H locs w => ?_)
    obtain ⟨r32, hc31, hf⟩ := bd1_e hf
    refine k_Si (As := [.int r29]) (rest := []) E w (X11_isDigit_c  hc31) ms_RX11_110 rfl rfl hl.1 ⟨Nat.le_of_ble_eq_true rfl, Nat.le_of_ble_eq_true rfl⟩ (Nat.le_of_ble_eq_true rfl) ⟨Nat.le_refl _, Nat.le_refl _⟩ dX11_advance_206 (fun H locs w => ?_)
    refine lv_if_eq (tgt := 261) E.1 E.2.1 dX11_advance_209 (by decide) (fun c34 => ?_) (fun c34 => ?_)
    · have hf := q_pos c34 hf
      refine lv_aload_n E.1 E.2.1 dX11_advance_261 rfl (lv_at hl 0 rfl) ?_
      refine lv_aload_n E.1 E.2.1 dX11_advance_262 rfl (lv_at hl 0 rfl) ?_
      refine q_gi E w t_v0 fl_RX11_82 dX11_advance_263 ?_
      refine lv_aload_n E.1 E.2.1 dX11_advance_266 rfl (lv_at hl 0 rfl) ?_
      refine q_gi E w t_v0 fl_RX11_89 dX11_advance_267 ?_
      refine lv_isub E.1 E.2.1 dX11_advance_270 ?_
      refine lv_iconst (v := 2) E.1 E.2.1 dX11_advance_271 rfl ?_
      refine lv_icmp_le (tgt := 279) E.1 E.2.1 dX11_advance_272 (by decide) (fun c35 => ?_) (fun c35 => ?_)
      · have hf := q_pos c35 hf
        refine lv_iconst (v := 1) E.1 E.2.1 dX11_advance_279 rfl ?_
        refine p_pi E w t_v0 fl_RX11_92 (fp_11_5 _) dX11_advance_280 (fun h36 H locs eh w => ?_)
        have hf := sq_e eh hf
        clear eh
        refine lv_goto (tgt := 311) E.1 E.2.1 dX11_advance_283 (by decide) ?_
        have hf := Option.some.inj hf
        subst hf
        exact q_vret E w hr hlk dX11_advance_311
      · have hf := q_neg c35 hf
        refine lv_iconst (v := 4) E.1 E.2.1 dX11_advance_275 rfl ?_
        refine lv_goto (tgt := 280) E.1 E.2.1 dX11_advance_276 (by decide) ?_
        refine p_pi E w t_v0 fl_RX11_92 (fp_11_5 _) dX11_advance_280 (fun h37 H locs eh w => ?_)
        have hf := sq_e eh hf
        clear eh
        refine lv_goto (tgt := 311) E.1 E.2.1 dX11_advance_283 (by decide) ?_
        have hf := Option.some.inj hf
        subst hf
        exact q_vret E w hr hlk dX11_advance_311
    · have hf := q_neg c34 hf
      refine lv_aload_n E.1 E.2.1 dX11_advance_212 rfl (lv_at hl 0 rfl) ?_
      refine q_gi E w t_v0 fl_RX11_82 dX11_advance_213 ?_
      refine lv_aload_n E.1 E.2.1 dX11_advance_216 rfl (lv_at hl 0 rfl) ?_
      refine q_gi E w t_v0 fl_RX11_89 dX11_advance_217 ?_
      refine lv_isub E.1 E.2.1 dX11_advance_220 ?_
      refine lv_iconst (v := 2) E.1 E.2.1 dX11_advance_221 rfl ?_
      refine lv_icmp_ge (tgt := 248) E.1 E.2.1 dX11_advance_222 (by decide) (fun c38 => ?_) (fun c38 => ?_)
      · have hf := q_pos c38 hf
        refine lv_aload_n E.1 E.2.1 dX11_advance_248 rfl (lv_at hl 0 rfl) ?_
        refine lv_dup E.1 E.2.1 dX11_advance_249 rfl ?_
        refine q_gi E w t_v0 fl_RX11_82 dX11_advance_250 ?_
        refine lv_iconst (v := 1) E.1 E.2.1 dX11_advance_253 rfl ?_
        refine lv_iadd E.1 E.2.1 dX11_advance_254 ?_
        refine p_pi E w t_v0 fl_RX11_82 (fp_11_3 _) dX11_advance_255 (fun h39 H locs eh w => ?_)
        have hf := sq_e eh hf
        clear eh
        refine lv_goto (tgt := 198) E.1 E.2.1 dX11_advance_258 (by decide) ?_
        exact ih _ _ _ _ _ hf w t_v0 (lv_sub hl [0] rfl)
      · have hf := q_neg c38 hf
        refine lv_aload_n E.1 E.2.1 dX11_advance_225 rfl (lv_at hl 0 rfl) ?_
        refine lv_bipush (v := 10) E.1 E.2.1 dX11_advance_226 rfl ?_
        refine lv_aload_n E.1 E.2.1 dX11_advance_228 rfl (lv_at hl 0 rfl) ?_
        refine q_gi E w t_v0 fl_RX11_113 dX11_advance_229 ?_
        refine lv_imul E.1 E.2.1 dX11_advance_232 ?_
        refine lv_aload_n E.1 E.2.1 dX11_advance_233 rfl (lv_at hl 0 rfl) ?_
        refine lv_aload_n E.1 E.2.1 dX11_advance_234 rfl (lv_at hl 0 rfl) ?_
        refine q_gi E w t_v0 fl_RX11_82 dX11_advance_235 ?_
        obtain ⟨r41, hc40, hf⟩ := bd1_e hf
        refine k_Vi (As := [.int (h.1 v0 3)]) (rest := [.int (10 * (h.1 v0 6)), .ref (ad G v0)]) E w t_v0 ⟨by decide, rfl⟩ (X11_byteAt_c t_v0 hc40) mv_RX11_85 rfl rfl hl.1 ⟨Nat.le_of_ble_eq_true rfl, Nat.le_of_ble_eq_true rfl⟩ (Nat.le_of_ble_eq_true rfl) ⟨Nat.le_refl _, Nat.le_refl _⟩ dX11_advance_238 (fun H locs w => ?_)
        refine lv_iadd E.1 E.2.1 dX11_advance_241 ?_
        refine lv_bipush (v := 48) E.1 E.2.1 dX11_advance_242 rfl ?_
        refine lv_isub E.1 E.2.1 dX11_advance_244 ?_
        refine p_pi E w t_v0 fl_RX11_113 (fp_11_6 _) dX11_advance_245 (fun h43 H locs eh w => ?_)
        have hf := sq_e eh hf
        clear eh
        refine lv_aload_n E.1 E.2.1 dX11_advance_248 rfl (lv_at hl 0 rfl) ?_
        refine lv_dup E.1 E.2.1 dX11_advance_249 rfl ?_
        refine q_gi E w t_v0 fl_RX11_82 dX11_advance_250 ?_
        refine lv_iconst (v := 1) E.1 E.2.1 dX11_advance_253 rfl ?_
        refine lv_iadd E.1 E.2.1 dX11_advance_254 ?_
        refine p_pi E w t_v0 fl_RX11_82 (fp_11_3 _) dX11_advance_255 (fun h44 H locs eh w => ?_)
        have hf := sq_e eh hf
        clear eh
        refine lv_goto (tgt := 198) E.1 E.2.1 dX11_advance_258 (by decide) ?_
        exact ih _ _ _ _ _ hf w t_v0 (lv_sub hl [0] rfl)

def X11_advance_l77 (N : Nat) : Nat → HS → Nat → Int64 → Option HS
  | 0, _, _, _ => none
  | n + 1, h, v0, v2 => bd1 (X11_byteAt N h v0 (h.1 v0 3)) fun r46 => bd1 (X11_isLetter N h r46) fun r49 => (if r49 = 0 then (if ((h.1 v0 3) - (h.1 v0 4)) ≤ (8 : Int32) then bd1 (X11_wordOf N h v2) fun r54 => sq (wi h v0 7 r54) fun h56 => (if (h56.1 v0 7) = (99 : Int32) then sq (wi h56 v0 5 4) fun h59 => some h59 else sq (wi h56 v0 5 3) fun h58 => some h58) else sq (wi h v0 7 99) fun h60 => (if (h60.1 v0 7) = (99 : Int32) then sq (wi h60 v0 5 4) fun h63 => some h63 else sq (wi h60 v0 5 3) fun h62 => some h62)) else (if (8 : Int32) ≤ ((h.1 v0 3) - (h.1 v0 4)) then sq (wi h v0 3 ((h.1 v0 3) + 1)) fun h65 => X11_advance_l77 N n h65 v0 v2 else bd1 (X11_byteAt N h v0 (h.1 v0 3)) fun r67 => sq (wi h v0 3 ((h.1 v0 3) + 1)) fun h69 => X11_advance_l77 N n h69 v0 (((32 * v2) + r67.toInt64) - 96)))
set_option maxRecDepth 4000 in
set_option maxHeartbeats 2000000 in
theorem X11_advance_l77_w {p : Program} {l : Launch} {e : Env} {s : State} {m : MethodId} {args : Array Value} {below : List Frame} {meth : Method} {c : Code} {G : GT} {N : Nat} {z : HS} (E : CallFix p m c cX11_advance 4 s args UW RX11) (hr : meth.sig.returnType = none) (hlk : meth.locks = false) : ∀ (n : Nat) (h : HS) (H : Heap) (locs : List Loc) (ls : Array Slot) (v0 : Nat) (v2 : Int64), X11_advance_l77 N n h v0 v2 = some z → WD G s h H locs → sh v0 = 11 → lv_has ls 4 [(0, .ref (ad G v0)), (2, .long v2)] → W p l e ({ frames := 3, cells := 0, slots := 0, locals := 71 } : Room) s m args below meth c H locs 0 0 (MQ below (QC G none z) args s 0 0 (AD G)) (F0 m 77 ls []) := by
  intro n
  induction n with
  | zero =>
    intro h H locs ls v0 v2 hf
    cases hf
  | succ n ih =>
    intro h H locs ls v0 v2 hf w t_v0 hl
    unfold X11_advance_l77 at hf
    refine lv_aload_n E.1 E.2.1 dX11_advance_77 rfl (lv_at hl 0 rfl) ?_
    refine lv_aload_n E.1 E.2.1 dX11_advance_78 rfl (lv_at hl 0 rfl) ?_
    refine q_gi E w t_v0 fl_RX11_82 dX11_advance_79 ?_
    obtain ⟨r46, hc45, hf⟩ := bd1_e hf
    refine k_Vi (As := [.int (h.1 v0 3)]) (rest := []) E w t_v0 ⟨by decide, rfl⟩ (X11_byteAt_c t_v0 hc45) mv_RX11_85 rfl rfl hl.1 ⟨Nat.le_of_ble_eq_true rfl, Nat.le_of_ble_eq_true rfl⟩ (Nat.le_of_ble_eq_true rfl) ⟨Nat.le_refl _, Nat.le_refl _⟩ dX11_advance_82 (fun H locs w => ?_)
    obtain ⟨r49, hc48, hf⟩ := bd1_e hf
    refine k_Si (As := [.int r46]) (rest := []) E w (X11_isLetter_c  hc48) ms_RX11_95 rfl rfl hl.1 ⟨Nat.le_of_ble_eq_true rfl, Nat.le_of_ble_eq_true rfl⟩ (Nat.le_of_ble_eq_true rfl) ⟨Nat.le_refl _, Nat.le_refl _⟩ dX11_advance_85 (fun H locs w => ?_)
    refine lv_if_eq (tgt := 138) E.1 E.2.1 dX11_advance_88 (by decide) (fun c51 => ?_) (fun c51 => ?_)
    · have hf := q_pos c51 hf
      refine lv_aload_n E.1 E.2.1 dX11_advance_138 rfl (lv_at hl 0 rfl) ?_
      refine lv_aload_n E.1 E.2.1 dX11_advance_139 rfl (lv_at hl 0 rfl) ?_
      refine q_gi E w t_v0 fl_RX11_82 dX11_advance_140 ?_
      refine lv_aload_n E.1 E.2.1 dX11_advance_143 rfl (lv_at hl 0 rfl) ?_
      refine q_gi E w t_v0 fl_RX11_89 dX11_advance_144 ?_
      refine lv_isub E.1 E.2.1 dX11_advance_147 ?_
      refine lv_bipush (v := 8) E.1 E.2.1 dX11_advance_148 rfl ?_
      refine lv_icmp_le (tgt := 158) E.1 E.2.1 dX11_advance_150 (by decide) (fun c52 => ?_) (fun c52 => ?_)
      · have hf := q_pos c52 hf
        refine lv_lload_n E.1 E.2.1 dX11_advance_158 rfl (lv_at hl 1 rfl) ?_
        obtain ⟨r54, hc53, hf⟩ := bd1_e hf
        refine k_Si (As := [.long v2]) (rest := [.ref (ad G v0)]) E w (X11_wordOf_c  hc53) ms_RX11_103 rfl rfl hl.1 ⟨Nat.le_of_ble_eq_true rfl, Nat.le_of_ble_eq_true rfl⟩ (Nat.le_of_ble_eq_true rfl) ⟨Nat.le_refl _, Nat.le_refl _⟩ dX11_advance_159 (fun H locs w => ?_)
        refine p_pi E w t_v0 fl_RX11_107 (fp_11_7 _) dX11_advance_162 (fun h56 H locs eh w => ?_)
        have hf := sq_e eh hf
        clear eh
        refine lv_aload_n E.1 E.2.1 dX11_advance_165 rfl (lv_at hl 0 rfl) ?_
        refine lv_aload_n E.1 E.2.1 dX11_advance_166 rfl (lv_at hl 0 rfl) ?_
        refine q_gi E w t_v0 fl_RX11_107 dX11_advance_167 ?_
        refine lv_bipush (v := 99) E.1 E.2.1 dX11_advance_170 rfl ?_
        refine lv_icmp_ne (tgt := 179) E.1 E.2.1 dX11_advance_172 (by decide) (fun c57 => ?_) (fun c57 => ?_)
        · have hf := q_neg c57 hf
          refine lv_iconst (v := 3) E.1 E.2.1 dX11_advance_179 rfl ?_
          refine p_pi E w t_v0 fl_RX11_92 (fp_11_5 _) dX11_advance_180 (fun h58 H locs eh w => ?_)
          have hf := sq_e eh hf
          clear eh
          refine lv_goto (tgt := 311) E.1 E.2.1 dX11_advance_183 (by decide) ?_
          have hf := Option.some.inj hf
          subst hf
          exact q_vret E w hr hlk dX11_advance_311
        · have hf := q_pos c57 hf
          refine lv_iconst (v := 4) E.1 E.2.1 dX11_advance_175 rfl ?_
          refine lv_goto (tgt := 180) E.1 E.2.1 dX11_advance_176 (by decide) ?_
          refine p_pi E w t_v0 fl_RX11_92 (fp_11_5 _) dX11_advance_180 (fun h59 H locs eh w => ?_)
          have hf := sq_e eh hf
          clear eh
          refine lv_goto (tgt := 311) E.1 E.2.1 dX11_advance_183 (by decide) ?_
          have hf := Option.some.inj hf
          subst hf
          exact q_vret E w hr hlk dX11_advance_311
      · have hf := q_neg c52 hf
        refine lv_bipush (v := 99) E.1 E.2.1 dX11_advance_153 rfl ?_
        refine lv_goto (tgt := 162) E.1 E.2.1 dX11_advance_155 (by decide) ?_
        refine p_pi E w t_v0 fl_RX11_107 (fp_11_7 _) dX11_advance_162 (fun h60 H locs eh w => ?_)
        have hf := sq_e eh hf
        clear eh
        refine lv_aload_n E.1 E.2.1 dX11_advance_165 rfl (lv_at hl 0 rfl) ?_
        refine lv_aload_n E.1 E.2.1 dX11_advance_166 rfl (lv_at hl 0 rfl) ?_
        refine q_gi E w t_v0 fl_RX11_107 dX11_advance_167 ?_
        refine lv_bipush (v := 99) E.1 E.2.1 dX11_advance_170 rfl ?_
        refine lv_icmp_ne (tgt := 179) E.1 E.2.1 dX11_advance_172 (by decide) (fun c61 => ?_) (fun c61 => ?_)
        · have hf := q_neg c61 hf
          refine lv_iconst (v := 3) E.1 E.2.1 dX11_advance_179 rfl ?_
          refine p_pi E w t_v0 fl_RX11_92 (fp_11_5 _) dX11_advance_180 (fun h62 H locs eh w => ?_)
          have hf := sq_e eh hf
          clear eh
          refine lv_goto (tgt := 311) E.1 E.2.1 dX11_advance_183 (by decide) ?_
          have hf := Option.some.inj hf
          subst hf
          exact q_vret E w hr hlk dX11_advance_311
        · have hf := q_pos c61 hf
          refine lv_iconst (v := 4) E.1 E.2.1 dX11_advance_175 rfl ?_
          refine lv_goto (tgt := 180) E.1 E.2.1 dX11_advance_176 (by decide) ?_
          refine p_pi E w t_v0 fl_RX11_92 (fp_11_5 _) dX11_advance_180 (fun h63 H locs eh w => ?_)
          have hf := sq_e eh hf
          clear eh
          refine lv_goto (tgt := 311) E.1 E.2.1 dX11_advance_183 (by decide) ?_
          have hf := Option.some.inj hf
          subst hf
          exact q_vret E w hr hlk dX11_advance_311
    · have hf := q_neg c51 hf
      refine lv_aload_n E.1 E.2.1 dX11_advance_91 rfl (lv_at hl 0 rfl) ?_
      refine q_gi E w t_v0 fl_RX11_82 dX11_advance_92 ?_
      refine lv_aload_n E.1 E.2.1 dX11_advance_95 rfl (lv_at hl 0 rfl) ?_
      refine q_gi E w t_v0 fl_RX11_89 dX11_advance_96 ?_
      refine lv_isub E.1 E.2.1 dX11_advance_99 ?_
      refine lv_bipush (v := 8) E.1 E.2.1 dX11_advance_100 rfl ?_
      refine lv_icmp_ge (tgt := 125) E.1 E.2.1 dX11_advance_102 (by decide) (fun c64 => ?_) (fun c64 => ?_)
      · have hf := q_pos c64 hf
        refine lv_aload_n E.1 E.2.1 dX11_advance_125 rfl (lv_at hl 0 rfl) ?_
        refine lv_dup E.1 E.2.1 dX11_advance_126 rfl ?_
        refine q_gi E w t_v0 fl_RX11_82 dX11_advance_127 ?_
        refine lv_iconst (v := 1) E.1 E.2.1 dX11_advance_130 rfl ?_
        refine lv_iadd E.1 E.2.1 dX11_advance_131 ?_
        refine p_pi E w t_v0 fl_RX11_82 (fp_11_3 _) dX11_advance_132 (fun h65 H locs eh w => ?_)
        have hf := sq_e eh hf
        clear eh
        refine lv_goto (tgt := 77) E.1 E.2.1 dX11_advance_135 (by decide) ?_
        exact ih _ _ _ _ _ _ hf w t_v0 (lv_sub hl [0, 1] rfl)
      · have hf := q_neg c64 hf
        refine lv_ldc2 (v := 32) E.1 E.2.1 E.2.2.2.1 (E.2.2.2.2 _ ct_RX11_99) dX11_advance_105 ?_
        refine lv_lload_n E.1 E.2.1 dX11_advance_108 rfl (lv_at hl 1 rfl) ?_
        refine lv_lmul E.1 E.2.1 dX11_advance_109 ?_
        refine lv_aload_n E.1 E.2.1 dX11_advance_110 rfl (lv_at hl 0 rfl) ?_
        refine lv_aload_n E.1 E.2.1 dX11_advance_111 rfl (lv_at hl 0 rfl) ?_
        refine q_gi E w t_v0 fl_RX11_82 dX11_advance_112 ?_
        obtain ⟨r67, hc66, hf⟩ := bd1_e hf
        refine k_Vi (As := [.int (h.1 v0 3)]) (rest := [.long (32 * v2)]) E w t_v0 ⟨by decide, rfl⟩ (X11_byteAt_c t_v0 hc66) mv_RX11_85 rfl rfl hl.1 ⟨Nat.le_of_ble_eq_true rfl, Nat.le_of_ble_eq_true rfl⟩ (Nat.le_of_ble_eq_true rfl) ⟨Nat.le_refl _, Nat.le_refl _⟩ dX11_advance_115 (fun H locs w => ?_)
        refine lv_i2l (v := r67.toInt64) E.1 E.2.1 dX11_advance_118 rfl ?_
        refine lv_ladd E.1 E.2.1 dX11_advance_119 ?_
        refine lv_ldc2 (v := 96) E.1 E.2.1 E.2.2.2.1 (E.2.2.2.2 _ ct_RX11_101) dX11_advance_120 ?_
        refine lv_lsub E.1 E.2.1 dX11_advance_123 ?_
        refine lv_lstore_n (lv' := [(2, .long (((32 * v2) + r67.toInt64) - 96)), (0, .ref (ad G v0))]) E.1 E.2.1 dX11_advance_124 rfl hl (by decide) rfl (fun ls hl => ?_)
        refine lv_aload_n E.1 E.2.1 dX11_advance_125 rfl (lv_at hl 1 rfl) ?_
        refine lv_dup E.1 E.2.1 dX11_advance_126 rfl ?_
        refine q_gi E w t_v0 fl_RX11_82 dX11_advance_127 ?_
        refine lv_iconst (v := 1) E.1 E.2.1 dX11_advance_130 rfl ?_
        refine lv_iadd E.1 E.2.1 dX11_advance_131 ?_
        refine p_pi E w t_v0 fl_RX11_82 (fp_11_3 _) dX11_advance_132 (fun h69 H locs eh w => ?_)
        have hf := sq_e eh hf
        clear eh
        refine lv_goto (tgt := 77) E.1 E.2.1 dX11_advance_135 (by decide) ?_
        exact ih _ _ _ _ _ _ hf w t_v0 (lv_sub hl [1, 0] rfl)

def X11_advance_l0 (N : Nat) : Nat → HS → Nat → Option HS
  | 0, _, _ => none
  | n + 1, h, v0 => bd1 (X11_byteAt N h v0 (h.1 v0 3)) fun r2 => (if r2 = (10 : Int32) then sq (wi h v0 3 ((h.1 v0 3) + 1)) fun h5 => X11_advance_l0 N n h5 v0 else bd1 (X11_byteAt N h v0 (h.1 v0 3)) fun r7 => (if r7 = (32 : Int32) then sq (wi h v0 3 ((h.1 v0 3) + 1)) fun h71 => X11_advance_l0 N n h71 v0 else sq (wi h v0 4 (h.1 v0 3)) fun h10 => bd1 (X11_byteAt N h10 v0 (h10.1 v0 3)) fun r12 => (if 0 ≤ r12 then bd1 (X11_isLetter N h10 r12) fun r16 => (if r16 = 0 then bd1 (X11_isDigit N h10 r12) fun r20 => (if r20 = 0 then sq (wi h10 v0 3 ((h10.1 v0 3) + 1)) fun h23 => (if r12 = (59 : Int32) then sq (wi h23 v0 5 2) fun h26 => some h26 else sq (wi h23 v0 5 4) fun h25 => some h25) else sq (wi h10 v0 6 0) fun h27 => X11_advance_l198 N N h27 v0) else X11_advance_l77 N N h10 v0 0) else sq (wi h10 v0 5 0) fun h70 => some h70)))
set_option maxRecDepth 4000 in
set_option maxHeartbeats 2000000 in
theorem X11_advance_l0_w {p : Program} {l : Launch} {e : Env} {s : State} {m : MethodId} {args : Array Value} {below : List Frame} {meth : Method} {c : Code} {G : GT} {N : Nat} {z : HS} (E : CallFix p m c cX11_advance 4 s args UW RX11) (hr : meth.sig.returnType = none) (hlk : meth.locks = false) : ∀ (n : Nat) (h : HS) (H : Heap) (locs : List Loc) (ls : Array Slot) (v0 : Nat), X11_advance_l0 N n h v0 = some z → WD G s h H locs → sh v0 = 11 → lv_has ls 4 [(0, .ref (ad G v0))] → W p l e ({ frames := 3, cells := 0, slots := 0, locals := 71 } : Room) s m args below meth c H locs 0 0 (MQ below (QC G none z) args s 0 0 (AD G)) (F0 m 0 ls []) := by
  intro n
  induction n with
  | zero =>
    intro h H locs ls v0 hf
    cases hf
  | succ n ih =>
    intro h H locs ls v0 hf w t_v0 hl
    unfold X11_advance_l0 at hf
    refine lv_aload_n E.1 E.2.1 dX11_advance_0 rfl (lv_at hl 0 rfl) ?_
    refine lv_aload_n E.1 E.2.1 dX11_advance_1 rfl (lv_at hl 0 rfl) ?_
    refine q_gi E w t_v0 fl_RX11_82 dX11_advance_2 ?_
    obtain ⟨r2, hc1, hf⟩ := bd1_e hf
    refine k_Vi (As := [.int (h.1 v0 3)]) (rest := []) E w t_v0 ⟨by decide, rfl⟩ (X11_byteAt_c t_v0 hc1) mv_RX11_85 rfl rfl hl.1 ⟨Nat.le_of_ble_eq_true rfl, Nat.le_of_ble_eq_true rfl⟩ (Nat.le_of_ble_eq_true rfl) ⟨Nat.le_refl _, Nat.le_refl _⟩ dX11_advance_5 (fun H locs w => ?_)
    refine lv_bipush (v := 10) E.1 E.2.1 dX11_advance_8 rfl ?_
    refine lv_icmp_eq (tgt := 26) E.1 E.2.1 dX11_advance_10 (by decide) (fun c4 => ?_) (fun c4 => ?_)
    · have hf := q_pos c4 hf
      refine lv_aload_n E.1 E.2.1 dX11_advance_26 rfl (lv_at hl 0 rfl) ?_
      refine lv_dup E.1 E.2.1 dX11_advance_27 rfl ?_
      refine q_gi E w t_v0 fl_RX11_82 dX11_advance_28 ?_
      refine lv_iconst (v := 1) E.1 E.2.1 dX11_advance_31 rfl ?_
      refine lv_iadd E.1 E.2.1 dX11_advance_32 ?_
      refine p_pi E w t_v0 fl_RX11_82 (fp_11_3 _) dX11_advance_33 (fun h5 H locs eh w => ?_)
      have hf := sq_e eh hf
      clear eh
      refine lv_goto (tgt := 0) E.1 E.2.1 dX11_advance_36 (by decide) ?_
      exact ih _ _ _ _ _ hf w t_v0 (lv_sub hl [0] rfl)
    · have hf := q_neg c4 hf
      refine lv_aload_n E.1 E.2.1 dX11_advance_13 rfl (lv_at hl 0 rfl) ?_
      refine lv_aload_n E.1 E.2.1 dX11_advance_14 rfl (lv_at hl 0 rfl) ?_
      refine q_gi E w t_v0 fl_RX11_82 dX11_advance_15 ?_
      obtain ⟨r7, hc6, hf⟩ := bd1_e hf
      refine k_Vi (As := [.int (h.1 v0 3)]) (rest := []) E w t_v0 ⟨by decide, rfl⟩ (X11_byteAt_c t_v0 hc6) mv_RX11_85 rfl rfl hl.1 ⟨Nat.le_of_ble_eq_true rfl, Nat.le_of_ble_eq_true rfl⟩ (Nat.le_of_ble_eq_true rfl) ⟨Nat.le_refl _, Nat.le_refl _⟩ dX11_advance_18 (fun H locs w => ?_)
      refine lv_bipush (v := 32) E.1 E.2.1 dX11_advance_21 rfl ?_
      refine lv_icmp_ne (tgt := 39) E.1 E.2.1 dX11_advance_23 (by decide) (fun c9 => ?_) (fun c9 => ?_)
      · have hf := q_neg c9 hf
        refine lv_aload_n E.1 E.2.1 dX11_advance_39 rfl (lv_at hl 0 rfl) ?_
        refine lv_aload_n E.1 E.2.1 dX11_advance_40 rfl (lv_at hl 0 rfl) ?_
        refine q_gi E w t_v0 fl_RX11_82 dX11_advance_41 ?_
        refine p_pi E w t_v0 fl_RX11_89 (fp_11_4 _) dX11_advance_44 (fun h10 H locs eh w => ?_)
        have hf := sq_e eh hf
        clear eh
        refine lv_aload_n E.1 E.2.1 dX11_advance_47 rfl (lv_at hl 0 rfl) ?_
        refine lv_aload_n E.1 E.2.1 dX11_advance_48 rfl (lv_at hl 0 rfl) ?_
        refine q_gi E w t_v0 fl_RX11_82 dX11_advance_49 ?_
        obtain ⟨r12, hc11, hf⟩ := bd1_e hf
        refine k_Vi (As := [.int (h10.1 v0 3)]) (rest := []) E w t_v0 ⟨by decide, rfl⟩ (X11_byteAt_c t_v0 hc11) mv_RX11_85 rfl rfl hl.1 ⟨Nat.le_of_ble_eq_true rfl, Nat.le_of_ble_eq_true rfl⟩ (Nat.le_of_ble_eq_true rfl) ⟨Nat.le_refl _, Nat.le_refl _⟩ dX11_advance_52 (fun H locs w => ?_)
        refine lv_istore_n (lv' := [(1, .int r12), (0, .ref (ad G v0))]) E.1 E.2.1 dX11_advance_55 rfl hl (by decide) rfl (fun ls hl => ?_)
        refine lv_iload_n E.1 E.2.1 dX11_advance_56 rfl (lv_at hl 0 rfl) ?_
        refine lv_if_ge (tgt := 68) E.1 E.2.1 dX11_advance_57 (by decide) (fun c14 => ?_) (fun c14 => ?_)
        · have hf := q_pos c14 hf
          refine lv_iload_n E.1 E.2.1 dX11_advance_68 rfl (lv_at hl 0 rfl) ?_
          obtain ⟨r16, hc15, hf⟩ := bd1_e hf
          refine k_Si (As := [.int r12]) (rest := []) E w (X11_isLetter_c  hc15) ms_RX11_95 rfl rfl hl.1 ⟨Nat.le_of_ble_eq_true rfl, Nat.le_of_ble_eq_true rfl⟩ (Nat.le_of_ble_eq_true rfl) ⟨Nat.le_refl _, Nat.le_refl _⟩ dX11_advance_69 (fun H locs w => ?_)
          refine lv_if_eq (tgt := 186) E.1 E.2.1 dX11_advance_72 (by decide) (fun c18 => ?_) (fun c18 => ?_)
          · have hf := q_pos c18 hf
            refine lv_iload_n E.1 E.2.1 dX11_advance_186 rfl (lv_at hl 0 rfl) ?_
            obtain ⟨r20, hc19, hf⟩ := bd1_e hf
            refine k_Si (As := [.int r12]) (rest := []) E w (X11_isDigit_c  hc19) ms_RX11_110 rfl rfl hl.1 ⟨Nat.le_of_ble_eq_true rfl, Nat.le_of_ble_eq_true rfl⟩ (Nat.le_of_ble_eq_true rfl) ⟨Nat.le_refl _, Nat.le_refl _⟩ dX11_advance_187 (fun H locs w => ?_)
            refine lv_if_eq (tgt := 286) E.1 E.2.1 dX11_advance_190 (by decide) (fun c22 => ?_) (fun c22 => ?_)
            · have hf := q_pos c22 hf
              refine lv_aload_n E.1 E.2.1 dX11_advance_286 rfl (lv_at hl 1 rfl) ?_
              refine lv_dup E.1 E.2.1 dX11_advance_287 rfl ?_
              refine q_gi E w t_v0 fl_RX11_82 dX11_advance_288 ?_
              refine lv_iconst (v := 1) E.1 E.2.1 dX11_advance_291 rfl ?_
              refine lv_iadd E.1 E.2.1 dX11_advance_292 ?_
              refine p_pi E w t_v0 fl_RX11_82 (fp_11_3 _) dX11_advance_293 (fun h23 H locs eh w => ?_)
              have hf := sq_e eh hf
              clear eh
              refine lv_aload_n E.1 E.2.1 dX11_advance_296 rfl (lv_at hl 1 rfl) ?_
              refine lv_iload_n E.1 E.2.1 dX11_advance_297 rfl (lv_at hl 0 rfl) ?_
              refine lv_bipush (v := 59) E.1 E.2.1 dX11_advance_298 rfl ?_
              refine lv_icmp_ne (tgt := 307) E.1 E.2.1 dX11_advance_300 (by decide) (fun c24 => ?_) (fun c24 => ?_)
              · have hf := q_neg c24 hf
                refine lv_iconst (v := 4) E.1 E.2.1 dX11_advance_307 rfl ?_
                refine p_pi E w t_v0 fl_RX11_92 (fp_11_5 _) dX11_advance_308 (fun h25 H locs eh w => ?_)
                have hf := sq_e eh hf
                clear eh
                have hf := Option.some.inj hf
                subst hf
                exact q_vret E w hr hlk dX11_advance_311
              · have hf := q_pos c24 hf
                refine lv_iconst (v := 2) E.1 E.2.1 dX11_advance_303 rfl ?_
                refine lv_goto (tgt := 308) E.1 E.2.1 dX11_advance_304 (by decide) ?_
                refine p_pi E w t_v0 fl_RX11_92 (fp_11_5 _) dX11_advance_308 (fun h26 H locs eh w => ?_)
                have hf := sq_e eh hf
                clear eh
                have hf := Option.some.inj hf
                subst hf
                exact q_vret E w hr hlk dX11_advance_311
            · have hf := q_neg c22 hf
              refine lv_aload_n E.1 E.2.1 dX11_advance_193 rfl (lv_at hl 1 rfl) ?_
              refine lv_iconst (v := 0) E.1 E.2.1 dX11_advance_194 rfl ?_
              refine p_pi E w t_v0 fl_RX11_113 (fp_11_6 _) dX11_advance_195 (fun h27 H locs eh w => ?_)
              have hf := sq_e eh hf
              clear eh
              exact X11_advance_l198_w E hr hlk N _ _ _ _ _ hf w t_v0 (lv_sub hl [1] rfl)
          · have hf := q_neg c18 hf
            refine lv_lconst (v := 0) E.1 E.2.1 dX11_advance_75 rfl ?_
            refine lv_lstore_n (lv' := [(2, .long 0), (1, .int r12), (0, .ref (ad G v0))]) E.1 E.2.1 dX11_advance_76 rfl hl (by decide) rfl (fun ls hl => ?_)
            exact X11_advance_l77_w E hr hlk N _ _ _ _ _ _ hf w t_v0 (lv_sub hl [2, 0] rfl)
        · have hf := q_neg c14 hf
          refine lv_aload_n E.1 E.2.1 dX11_advance_60 rfl (lv_at hl 1 rfl) ?_
          refine lv_iconst (v := 0) E.1 E.2.1 dX11_advance_61 rfl ?_
          refine p_pi E w t_v0 fl_RX11_92 (fp_11_5 _) dX11_advance_62 (fun h70 H locs eh w => ?_)
          have hf := sq_e eh hf
          clear eh
          refine lv_goto (tgt := 311) E.1 E.2.1 dX11_advance_65 (by decide) ?_
          have hf := Option.some.inj hf
          subst hf
          exact q_vret E w hr hlk dX11_advance_311
      · have hf := q_pos c9 hf
        refine lv_aload_n E.1 E.2.1 dX11_advance_26 rfl (lv_at hl 0 rfl) ?_
        refine lv_dup E.1 E.2.1 dX11_advance_27 rfl ?_
        refine q_gi E w t_v0 fl_RX11_82 dX11_advance_28 ?_
        refine lv_iconst (v := 1) E.1 E.2.1 dX11_advance_31 rfl ?_
        refine lv_iadd E.1 E.2.1 dX11_advance_32 ?_
        refine p_pi E w t_v0 fl_RX11_82 (fp_11_3 _) dX11_advance_33 (fun h71 H locs eh w => ?_)
        have hf := sq_e eh hf
        clear eh
        refine lv_goto (tgt := 0) E.1 E.2.1 dX11_advance_36 (by decide) ?_
        exact ih _ _ _ _ _ hf w t_v0 (lv_sub hl [0] rfl)

def X11_advance (N : Nat) (h : HS) (v0 : Nat) : Option HS := X11_advance_l0 N N h v0
set_option maxRecDepth 4000 in
set_option maxHeartbeats 2000000 in
theorem X11_advance_c {l : Launch} {G : GT} {N : Nat} {h : HS} {v0 : Nat} {z : HS} (t_v0 : sh v0 = 11) (hf : X11_advance N h v0 = some z) : CT l G yX11_advance cX11_advance 4 none 3 71 [.ref (ad G v0)] h none z := by
  unfold X11_advance at hf
  refine CT.of (by decide) (Nat.le_of_ble_eq_true rfl) ?_
  intro p e s m below meth c ls E hr hlk w hl
  have hl : lv_has ls 4 [(0, .ref (ad G v0))] := hl
  exact X11_advance_l0_w E hr hlk N _ _ _ _ _ hf w t_v0 (lv_sub hl [0] rfl)

def X11_ends (N : Nat) (h : HS) (v0 : Nat) : Option HS := (if (h.1 v0 8) = 0 then sq (wi h v0 8 1) fun h2 => (if (5 : Int32) < 0 ∨ 3736 ≤ (5 : Int32).toNatClampNeg then none else sq (wi h2 (v0 + 1) (5 : Int32).toNatClampNeg 1) fun h4 => (if (6 : Int32) < 0 ∨ 3736 ≤ (6 : Int32).toNatClampNeg then none else sq (wi h4 (v0 + 1) (6 : Int32).toNatClampNeg (h4.1 v0 4)) fun h6 => some h6)) else some h)
set_option maxRecDepth 4000 in
set_option maxHeartbeats 2000000 in
theorem X11_ends_c {l : Launch} {G : GT} {N : Nat} {h : HS} {v0 : Nat} {z : HS} (t_v0 : sh v0 = 11) (hf : X11_ends N h v0 = some z) : CT l G yX11_ends cX11_ends 1 none 0 0 [.ref (ad G v0)] h none z := by
  unfold X11_ends at hf
  refine CT.of (by decide) (Nat.le_of_ble_eq_true rfl) ?_
  intro p e s m below meth c ls E hr hlk w hl
  have hl : lv_has ls 1 [(0, .ref (ad G v0))] := hl
  refine lv_aload_n E.1 E.2.1 dX11_ends_0 rfl (lv_at hl 0 rfl) ?_
  refine q_gi E w t_v0 fl_RX11_116 dX11_ends_1 ?_
  refine lv_if_eq (tgt := 8) E.1 E.2.1 dX11_ends_4 (by decide) (fun c1 => ?_) (fun c1 => ?_)
  · have hf := q_pos c1 hf
    refine lv_aload_n E.1 E.2.1 dX11_ends_8 rfl (lv_at hl 0 rfl) ?_
    refine lv_iconst (v := 1) E.1 E.2.1 dX11_ends_9 rfl ?_
    refine p_pi E w t_v0 fl_RX11_116 (fp_11_8_1) dX11_ends_10 (fun h2 H locs eh w => ?_)
    have hf := sq_e eh hf
    clear eh
    refine lv_aload_n E.1 E.2.1 dX11_ends_13 rfl (lv_at hl 0 rfl) ?_
    refine q_gs E w 1 t_v0 fl_RX11_7 dX11_ends_14 ?_
    refine lv_iconst (v := 5) E.1 E.2.1 dX11_ends_17 rfl ?_
    refine lv_iconst (v := 1) E.1 E.2.1 dX11_ends_18 rfl ?_
    obtain ⟨b3, hf⟩ := q_if hf
    refine p_iast E w ((lay_11_0 t_v0).1) ((lay_11_0 t_v0).2) b3 dX11_ends_19 (fun h4 H locs eh w => ?_)
    have hf := sq_e eh hf
    clear eh
    refine lv_aload_n E.1 E.2.1 dX11_ends_20 rfl (lv_at hl 0 rfl) ?_
    refine q_gs E w 1 t_v0 fl_RX11_7 dX11_ends_21 ?_
    refine lv_bipush (v := 6) E.1 E.2.1 dX11_ends_24 rfl ?_
    refine lv_aload_n E.1 E.2.1 dX11_ends_26 rfl (lv_at hl 0 rfl) ?_
    refine q_gi E w t_v0 fl_RX11_89 dX11_ends_27 ?_
    obtain ⟨b5, hf⟩ := q_if hf
    refine p_iast E w ((lay_11_0 t_v0).1) ((lay_11_0 t_v0).2) b5 dX11_ends_30 (fun h6 H locs eh w => ?_)
    have hf := sq_e eh hf
    clear eh
    have hf := Option.some.inj hf
    subst hf
    exact q_vret E w hr hlk dX11_ends_31
  · have hf := q_neg c1 hf
    have hf := Option.some.inj hf
    subst hf
    exact q_vret E w hr hlk dX11_ends_7

def X11_also (N : Nat) (h : HS) (v0 : Nat) (v1 : Int32) (v2 : Int32) : Option HS := (if (h.1 v0 8) = 0 then (if (5 : Int32) < 0 ∨ 3736 ≤ (5 : Int32).toNatClampNeg then none else (if (h.1 (v0 + 1) (5 : Int32).toNatClampNeg) = 0 then (if (5 : Int32) < 0 ∨ 3736 ≤ (5 : Int32).toNatClampNeg then none else sq (wi h (v0 + 1) (5 : Int32).toNatClampNeg v1) fun h5 => (if (6 : Int32) < 0 ∨ 3736 ≤ (6 : Int32).toNatClampNeg then none else sq (wi h5 (v0 + 1) (6 : Int32).toNatClampNeg v2) fun h7 => some h7)) else (if (6 : Int32) < 0 ∨ 3736 ≤ (6 : Int32).toNatClampNeg then none else (if (h.1 (v0 + 1) (6 : Int32).toNatClampNeg) < v2 then some h else (if (6 : Int32) < 0 ∨ 3736 ≤ (6 : Int32).toNatClampNeg then none else (if (h.1 (v0 + 1) (6 : Int32).toNatClampNeg) = v2 then (if (5 : Int32) < 0 ∨ 3736 ≤ (5 : Int32).toNatClampNeg then none else (if v1 < (h.1 (v0 + 1) (5 : Int32).toNatClampNeg) then (if (5 : Int32) < 0 ∨ 3736 ≤ (5 : Int32).toNatClampNeg then none else sq (wi h (v0 + 1) (5 : Int32).toNatClampNeg v1) fun h19 => (if (6 : Int32) < 0 ∨ 3736 ≤ (6 : Int32).toNatClampNeg then none else sq (wi h19 (v0 + 1) (6 : Int32).toNatClampNeg v2) fun h21 => some h21)) else some h)) else (if (5 : Int32) < 0 ∨ 3736 ≤ (5 : Int32).toNatClampNeg then none else sq (wi h (v0 + 1) (5 : Int32).toNatClampNeg v1) fun h13 => (if (6 : Int32) < 0 ∨ 3736 ≤ (6 : Int32).toNatClampNeg then none else sq (wi h13 (v0 + 1) (6 : Int32).toNatClampNeg v2) fun h15 => some h15)))))))) else some h)
set_option maxRecDepth 4000 in
set_option maxHeartbeats 2000000 in
theorem X11_also_c {l : Launch} {G : GT} {N : Nat} {h : HS} {v0 : Nat} {v1 : Int32} {v2 : Int32} {z : HS} (t_v0 : sh v0 = 11) (hf : X11_also N h v0 v1 v2 = some z) : CT l G yX11_also cX11_also 3 none 0 0 [.ref (ad G v0), .int v1, .int v2] h none z := by
  unfold X11_also at hf
  refine CT.of (by decide) (Nat.le_of_ble_eq_true rfl) ?_
  intro p e s m below meth c ls E hr hlk w hl
  have hl : lv_has ls 3 [(0, .ref (ad G v0)), (1, .int v1), (2, .int v2)] := hl
  refine lv_aload_n E.1 E.2.1 dX11_also_0 rfl (lv_at hl 0 rfl) ?_
  refine q_gi E w t_v0 fl_RX11_116 dX11_also_1 ?_
  refine lv_if_ne (tgt := 48) E.1 E.2.1 dX11_also_4 (by decide) (fun c1 => ?_) (fun c1 => ?_)
  · have hf := q_neg c1 hf
    have hf := Option.some.inj hf
    subst hf
    exact q_vret E w hr hlk dX11_also_48
  · have hf := q_pos c1 hf
    refine lv_aload_n E.1 E.2.1 dX11_also_7 rfl (lv_at hl 0 rfl) ?_
    refine q_gs E w 1 t_v0 fl_RX11_7 dX11_also_8 ?_
    refine lv_iconst (v := 5) E.1 E.2.1 dX11_also_11 rfl ?_
    obtain ⟨b2, hf⟩ := q_if hf
    refine q_iald E w ((lay_11_0 t_v0).1) ((lay_11_0 t_v0).2) b2 dX11_also_12 ?_
    refine lv_if_eq (tgt := 49) E.1 E.2.1 dX11_also_13 (by decide) (fun c3 => ?_) (fun c3 => ?_)
    · have hf := q_pos c3 hf
      refine lv_aload_n E.1 E.2.1 dX11_also_49 rfl (lv_at hl 0 rfl) ?_
      refine q_gs E w 1 t_v0 fl_RX11_7 dX11_also_50 ?_
      refine lv_iconst (v := 5) E.1 E.2.1 dX11_also_53 rfl ?_
      refine lv_iload_n E.1 E.2.1 dX11_also_54 rfl (lv_at hl 1 rfl) ?_
      obtain ⟨b4, hf⟩ := q_if hf
      refine p_iast E w ((lay_11_0 t_v0).1) ((lay_11_0 t_v0).2) b4 dX11_also_55 (fun h5 H locs eh w => ?_)
      have hf := sq_e eh hf
      clear eh
      refine lv_aload_n E.1 E.2.1 dX11_also_56 rfl (lv_at hl 0 rfl) ?_
      refine q_gs E w 1 t_v0 fl_RX11_7 dX11_also_57 ?_
      refine lv_bipush (v := 6) E.1 E.2.1 dX11_also_60 rfl ?_
      refine lv_iload_n E.1 E.2.1 dX11_also_62 rfl (lv_at hl 2 rfl) ?_
      obtain ⟨b6, hf⟩ := q_if hf
      refine p_iast E w ((lay_11_0 t_v0).1) ((lay_11_0 t_v0).2) b6 dX11_also_63 (fun h7 H locs eh w => ?_)
      have hf := sq_e eh hf
      clear eh
      have hf := Option.some.inj hf
      subst hf
      exact q_vret E w hr hlk dX11_also_64
    · have hf := q_neg c3 hf
      refine lv_aload_n E.1 E.2.1 dX11_also_16 rfl (lv_at hl 0 rfl) ?_
      refine q_gs E w 1 t_v0 fl_RX11_7 dX11_also_17 ?_
      refine lv_bipush (v := 6) E.1 E.2.1 dX11_also_20 rfl ?_
      obtain ⟨b8, hf⟩ := q_if hf
      refine q_iald E w ((lay_11_0 t_v0).1) ((lay_11_0 t_v0).2) b8 dX11_also_22 ?_
      refine lv_iload_n E.1 E.2.1 dX11_also_23 rfl (lv_at hl 2 rfl) ?_
      refine lv_icmp_lt (tgt := 48) E.1 E.2.1 dX11_also_24 (by decide) (fun c9 => ?_) (fun c9 => ?_)
      · have hf := q_pos c9 hf
        have hf := Option.some.inj hf
        subst hf
        exact q_vret E w hr hlk dX11_also_48
      · have hf := q_neg c9 hf
        refine lv_aload_n E.1 E.2.1 dX11_also_27 rfl (lv_at hl 0 rfl) ?_
        refine q_gs E w 1 t_v0 fl_RX11_7 dX11_also_28 ?_
        refine lv_bipush (v := 6) E.1 E.2.1 dX11_also_31 rfl ?_
        obtain ⟨b10, hf⟩ := q_if hf
        refine q_iald E w ((lay_11_0 t_v0).1) ((lay_11_0 t_v0).2) b10 dX11_also_33 ?_
        refine lv_iload_n E.1 E.2.1 dX11_also_34 rfl (lv_at hl 2 rfl) ?_
        refine lv_icmp_ne (tgt := 49) E.1 E.2.1 dX11_also_35 (by decide) (fun c11 => ?_) (fun c11 => ?_)
        · have hf := q_neg c11 hf
          refine lv_aload_n E.1 E.2.1 dX11_also_49 rfl (lv_at hl 0 rfl) ?_
          refine q_gs E w 1 t_v0 fl_RX11_7 dX11_also_50 ?_
          refine lv_iconst (v := 5) E.1 E.2.1 dX11_also_53 rfl ?_
          refine lv_iload_n E.1 E.2.1 dX11_also_54 rfl (lv_at hl 1 rfl) ?_
          obtain ⟨b12, hf⟩ := q_if hf
          refine p_iast E w ((lay_11_0 t_v0).1) ((lay_11_0 t_v0).2) b12 dX11_also_55 (fun h13 H locs eh w => ?_)
          have hf := sq_e eh hf
          clear eh
          refine lv_aload_n E.1 E.2.1 dX11_also_56 rfl (lv_at hl 0 rfl) ?_
          refine q_gs E w 1 t_v0 fl_RX11_7 dX11_also_57 ?_
          refine lv_bipush (v := 6) E.1 E.2.1 dX11_also_60 rfl ?_
          refine lv_iload_n E.1 E.2.1 dX11_also_62 rfl (lv_at hl 2 rfl) ?_
          obtain ⟨b14, hf⟩ := q_if hf
          refine p_iast E w ((lay_11_0 t_v0).1) ((lay_11_0 t_v0).2) b14 dX11_also_63 (fun h15 H locs eh w => ?_)
          have hf := sq_e eh hf
          clear eh
          have hf := Option.some.inj hf
          subst hf
          exact q_vret E w hr hlk dX11_also_64
        · have hf := q_pos c11 hf
          refine lv_aload_n E.1 E.2.1 dX11_also_38 rfl (lv_at hl 0 rfl) ?_
          refine q_gs E w 1 t_v0 fl_RX11_7 dX11_also_39 ?_
          refine lv_iconst (v := 5) E.1 E.2.1 dX11_also_42 rfl ?_
          obtain ⟨b16, hf⟩ := q_if hf
          refine q_iald E w ((lay_11_0 t_v0).1) ((lay_11_0 t_v0).2) b16 dX11_also_43 ?_
          refine lv_iload_n E.1 E.2.1 dX11_also_44 rfl (lv_at hl 1 rfl) ?_
          refine lv_icmp_gt (tgt := 49) E.1 E.2.1 dX11_also_45 (by decide) (fun c17 => ?_) (fun c17 => ?_)
          · have hf := q_pos c17 hf
            refine lv_aload_n E.1 E.2.1 dX11_also_49 rfl (lv_at hl 0 rfl) ?_
            refine q_gs E w 1 t_v0 fl_RX11_7 dX11_also_50 ?_
            refine lv_iconst (v := 5) E.1 E.2.1 dX11_also_53 rfl ?_
            refine lv_iload_n E.1 E.2.1 dX11_also_54 rfl (lv_at hl 1 rfl) ?_
            obtain ⟨b18, hf⟩ := q_if hf
            refine p_iast E w ((lay_11_0 t_v0).1) ((lay_11_0 t_v0).2) b18 dX11_also_55 (fun h19 H locs eh w => ?_)
            have hf := sq_e eh hf
            clear eh
            refine lv_aload_n E.1 E.2.1 dX11_also_56 rfl (lv_at hl 0 rfl) ?_
            refine q_gs E w 1 t_v0 fl_RX11_7 dX11_also_57 ?_
            refine lv_bipush (v := 6) E.1 E.2.1 dX11_also_60 rfl ?_
            refine lv_iload_n E.1 E.2.1 dX11_also_62 rfl (lv_at hl 2 rfl) ?_
            obtain ⟨b20, hf⟩ := q_if hf
            refine p_iast E w ((lay_11_0 t_v0).1) ((lay_11_0 t_v0).2) b20 dX11_also_63 (fun h21 H locs eh w => ?_)
            have hf := sq_e eh hf
            clear eh
            have hf := Option.some.inj hf
            subst hf
            exact q_vret E w hr hlk dX11_also_64
          · have hf := q_neg c17 hf
            have hf := Option.some.inj hf
            subst hf
            exact q_vret E w hr hlk dX11_also_48

def X11_numbered (N : Nat) (h : HS) (v0 : Nat) (v1 : Int32) (v2 : Int32) : Option (Int32 × HS) := (if (h.1 v0 8) = 0 then (if (h.1 v0 5) = (1 : Int32) then bd1 (X11_isIn N h (h.1 v0 6) v1 v2) fun r7 => (if r7 = 0 then bd1 (X11_also N h v0 2 (h.1 v0 4)) fun h19 => bd1 (X11_advance N h19 v0) fun h22 => bd1 (X11_isIn N h22 (h.1 v0 6) v1 v2) fun r24 => (if r24 = 0 then some (v1, h22) else some (h.1 v0 6, h22)) else bd1 (X11_advance N h v0) fun h12 => bd1 (X11_isIn N h12 (h.1 v0 6) v1 v2) fun r14 => (if r14 = 0 then some (v1, h12) else some (h.1 v0 6, h12))) else bd1 (X11_ends N h v0) fun h29 => some (v1, h29)) else bd1 (X11_ends N h v0) fun h4 => some (v1, h4))
set_option maxRecDepth 4000 in
set_option maxHeartbeats 2000000 in
theorem X11_numbered_c {l : Launch} {G : GT} {N : Nat} {h : HS} {v0 : Nat} {v1 : Int32} {v2 : Int32} {z : (Int32 × HS)} (t_v0 : sh v0 = 11) (hf : X11_numbered N h v0 v1 v2 = some z) : CT l G yX11_numbered cX11_numbered 4 (some .int) 4 94 [.ref (ad G v0), .int v1, .int v2] h (some (.int z.1)) z.2 := by
  unfold X11_numbered at hf
  refine CT.of (by decide) (Nat.le_of_ble_eq_true rfl) ?_
  intro p e s m below meth c ls E hr hlk w hl
  have hl : lv_has ls 4 [(0, .ref (ad G v0)), (1, .int v1), (2, .int v2)] := hl
  refine lv_aload_n E.1 E.2.1 dX11_numbered_0 rfl (lv_at hl 0 rfl) ?_
  refine q_gi E w t_v0 fl_RX11_116 dX11_numbered_1 ?_
  refine lv_if_ne (tgt := 15) E.1 E.2.1 dX11_numbered_4 (by decide) (fun c1 => ?_) (fun c1 => ?_)
  · have hf := q_neg c1 hf
    refine lv_aload_n E.1 E.2.1 dX11_numbered_15 rfl (lv_at hl 0 rfl) ?_
    obtain ⟨h4, hc2, hf⟩ := bd1_e hf
    refine k_Vv (As := []) (rest := []) E w t_v0 ⟨by decide, rfl⟩ (X11_ends_c t_v0 hc2) mv_RX11_120 rfl rfl hl.1 ⟨Nat.le_of_ble_eq_true rfl, Nat.le_of_ble_eq_true rfl⟩ (Nat.le_of_ble_eq_true rfl) ⟨Nat.le_refl _, Nat.le_refl _⟩ dX11_numbered_16 (fun H locs w => ?_)
    refine lv_iload_n E.1 E.2.1 dX11_numbered_19 rfl (lv_at hl 1 rfl) ?_
    have hf := Option.some.inj hf
    subst hf
    exact q_iret E w hr hlk dX11_numbered_20
  · have hf := q_pos c1 hf
    refine lv_aload_n E.1 E.2.1 dX11_numbered_7 rfl (lv_at hl 0 rfl) ?_
    refine q_gi E w t_v0 fl_RX11_92 dX11_numbered_8 ?_
    refine lv_iconst (v := 1) E.1 E.2.1 dX11_numbered_11 rfl ?_
    refine lv_icmp_eq (tgt := 21) E.1 E.2.1 dX11_numbered_12 (by decide) (fun c5 => ?_) (fun c5 => ?_)
    · have hf := q_pos c5 hf
      refine lv_aload_n E.1 E.2.1 dX11_numbered_21 rfl (lv_at hl 0 rfl) ?_
      refine q_gi E w t_v0 fl_RX11_113 dX11_numbered_22 ?_
      refine lv_istore_n (lv' := [(3, .int (h.1 v0 6)), (0, .ref (ad G v0)), (1, .int v1), (2, .int v2)]) E.1 E.2.1 dX11_numbered_25 rfl hl (by decide) rfl (fun ls hl => ?_)
      refine lv_iload_n E.1 E.2.1 dX11_numbered_26 rfl (lv_at hl 0 rfl) ?_
      refine lv_iload_n E.1 E.2.1 dX11_numbered_27 rfl (lv_at hl 2 rfl) ?_
      refine lv_iload_n E.1 E.2.1 dX11_numbered_28 rfl (lv_at hl 3 rfl) ?_
      obtain ⟨r7, hc6, hf⟩ := bd1_e hf
      refine k_Si (As := [.int (h.1 v0 6), .int v1, .int v2]) (rest := []) E w (X11_isIn_c  hc6) ms_RX11_123 rfl rfl hl.1 ⟨Nat.le_of_ble_eq_true rfl, Nat.le_of_ble_eq_true rfl⟩ (Nat.le_of_ble_eq_true rfl) ⟨Nat.le_refl _, Nat.le_refl _⟩ dX11_numbered_29 (fun H locs w => ?_)
      refine lv_if_ne (tgt := 44) E.1 E.2.1 dX11_numbered_32 (by decide) (fun c9 => ?_) (fun c9 => ?_)
      · have hf := q_neg c9 hf
        refine lv_aload_n E.1 E.2.1 dX11_numbered_44 rfl (lv_at hl 1 rfl) ?_
        obtain ⟨h12, hc10, hf⟩ := bd1_e hf
        refine k_Vv (As := []) (rest := []) E w t_v0 ⟨by decide, rfl⟩ (X11_advance_c t_v0 hc10) mv_RX11_131 rfl rfl hl.1 ⟨Nat.le_of_ble_eq_true rfl, Nat.le_of_ble_eq_true rfl⟩ (Nat.le_of_ble_eq_true rfl) ⟨Nat.le_refl _, Nat.le_refl _⟩ dX11_numbered_45 (fun H locs w => ?_)
        refine lv_iload_n E.1 E.2.1 dX11_numbered_48 rfl (lv_at hl 0 rfl) ?_
        refine lv_iload_n E.1 E.2.1 dX11_numbered_49 rfl (lv_at hl 2 rfl) ?_
        refine lv_iload_n E.1 E.2.1 dX11_numbered_50 rfl (lv_at hl 3 rfl) ?_
        obtain ⟨r14, hc13, hf⟩ := bd1_e hf
        refine k_Si (As := [.int (h.1 v0 6), .int v1, .int v2]) (rest := []) E w (X11_isIn_c  hc13) ms_RX11_123 rfl rfl hl.1 ⟨Nat.le_of_ble_eq_true rfl, Nat.le_of_ble_eq_true rfl⟩ (Nat.le_of_ble_eq_true rfl) ⟨Nat.le_refl _, Nat.le_refl _⟩ dX11_numbered_51 (fun H locs w => ?_)
        refine lv_if_eq (tgt := 61) E.1 E.2.1 dX11_numbered_54 (by decide) (fun c16 => ?_) (fun c16 => ?_)
        · have hf := q_pos c16 hf
          refine lv_iload_n E.1 E.2.1 dX11_numbered_61 rfl (lv_at hl 2 rfl) ?_
          have hf := Option.some.inj hf
          subst hf
          exact q_iret E w hr hlk dX11_numbered_62
        · have hf := q_neg c16 hf
          refine lv_iload_n E.1 E.2.1 dX11_numbered_57 rfl (lv_at hl 0 rfl) ?_
          refine lv_goto (tgt := 62) E.1 E.2.1 dX11_numbered_58 (by decide) ?_
          have hf := Option.some.inj hf
          subst hf
          exact q_iret E w hr hlk dX11_numbered_62
      · have hf := q_pos c9 hf
        refine lv_aload_n E.1 E.2.1 dX11_numbered_35 rfl (lv_at hl 1 rfl) ?_
        refine lv_iconst (v := 2) E.1 E.2.1 dX11_numbered_36 rfl ?_
        refine lv_aload_n E.1 E.2.1 dX11_numbered_37 rfl (lv_at hl 1 rfl) ?_
        refine q_gi E w t_v0 fl_RX11_89 dX11_numbered_38 ?_
        obtain ⟨h19, hc17, hf⟩ := bd1_e hf
        refine k_Vv (As := [.int 2, .int (h.1 v0 4)]) (rest := []) E w t_v0 ⟨by decide, rfl⟩ (X11_also_c t_v0 hc17) mv_RX11_127 rfl rfl hl.1 ⟨Nat.le_of_ble_eq_true rfl, Nat.le_of_ble_eq_true rfl⟩ (Nat.le_of_ble_eq_true rfl) ⟨Nat.le_refl _, Nat.le_refl _⟩ dX11_numbered_41 (fun H locs w => ?_)
        refine lv_aload_n E.1 E.2.1 dX11_numbered_44 rfl (lv_at hl 1 rfl) ?_
        obtain ⟨h22, hc20, hf⟩ := bd1_e hf
        refine k_Vv (As := []) (rest := []) E w t_v0 ⟨by decide, rfl⟩ (X11_advance_c t_v0 hc20) mv_RX11_131 rfl rfl hl.1 ⟨Nat.le_of_ble_eq_true rfl, Nat.le_of_ble_eq_true rfl⟩ (Nat.le_of_ble_eq_true rfl) ⟨Nat.le_refl _, Nat.le_refl _⟩ dX11_numbered_45 (fun H locs w => ?_)
        refine lv_iload_n E.1 E.2.1 dX11_numbered_48 rfl (lv_at hl 0 rfl) ?_
        refine lv_iload_n E.1 E.2.1 dX11_numbered_49 rfl (lv_at hl 2 rfl) ?_
        refine lv_iload_n E.1 E.2.1 dX11_numbered_50 rfl (lv_at hl 3 rfl) ?_
        obtain ⟨r24, hc23, hf⟩ := bd1_e hf
        refine k_Si (As := [.int (h.1 v0 6), .int v1, .int v2]) (rest := []) E w (X11_isIn_c  hc23) ms_RX11_123 rfl rfl hl.1 ⟨Nat.le_of_ble_eq_true rfl, Nat.le_of_ble_eq_true rfl⟩ (Nat.le_of_ble_eq_true rfl) ⟨Nat.le_refl _, Nat.le_refl _⟩ dX11_numbered_51 (fun H locs w => ?_)
        refine lv_if_eq (tgt := 61) E.1 E.2.1 dX11_numbered_54 (by decide) (fun c26 => ?_) (fun c26 => ?_)
        · have hf := q_pos c26 hf
          refine lv_iload_n E.1 E.2.1 dX11_numbered_61 rfl (lv_at hl 2 rfl) ?_
          have hf := Option.some.inj hf
          subst hf
          exact q_iret E w hr hlk dX11_numbered_62
        · have hf := q_neg c26 hf
          refine lv_iload_n E.1 E.2.1 dX11_numbered_57 rfl (lv_at hl 0 rfl) ?_
          refine lv_goto (tgt := 62) E.1 E.2.1 dX11_numbered_58 (by decide) ?_
          have hf := Option.some.inj hf
          subst hf
          exact q_iret E w hr hlk dX11_numbered_62
    · have hf := q_neg c5 hf
      refine lv_aload_n E.1 E.2.1 dX11_numbered_15 rfl (lv_at hl 0 rfl) ?_
      obtain ⟨h29, hc27, hf⟩ := bd1_e hf
      refine k_Vv (As := []) (rest := []) E w t_v0 ⟨by decide, rfl⟩ (X11_ends_c t_v0 hc27) mv_RX11_120 rfl rfl hl.1 ⟨Nat.le_of_ble_eq_true rfl, Nat.le_of_ble_eq_true rfl⟩ (Nat.le_of_ble_eq_true rfl) ⟨Nat.le_refl _, Nat.le_refl _⟩ dX11_numbered_16 (fun H locs w => ?_)
      refine lv_iload_n E.1 E.2.1 dX11_numbered_19 rfl (lv_at hl 1 rfl) ?_
      have hf := Option.some.inj hf
      subst hf
      exact q_iret E w hr hlk dX11_numbered_20

def X11_wordIn (N : Nat) (h : HS) (v0 : Nat) (v1 : Int32) (v2 : Int32) : Option (Int32 × HS) := (if (h.1 v0 8) = 0 then (if (h.1 v0 5) = (3 : Int32) then bd1 (X11_isIn N h (h.1 v0 7) v1 v2) fun r10 => (if r10 = 0 then bd1 (X11_ends N h v0) fun h18 => some (0, h18) else bd1 (X11_advance N h v0) fun h15 => some (h.1 v0 7, h15)) else bd1 (X11_ends N h v0) fun h8 => some (0, h8)) else bd1 (X11_ends N h v0) fun h4 => some (0, h4))
set_option maxRecDepth 4000 in
set_option maxHeartbeats 2000000 in
theorem X11_wordIn_c {l : Launch} {G : GT} {N : Nat} {h : HS} {v0 : Nat} {v1 : Int32} {v2 : Int32} {z : (Int32 × HS)} (t_v0 : sh v0 = 11) (hf : X11_wordIn N h v0 v1 v2 = some z) : CT l G yX11_wordIn cX11_wordIn 4 (some .int) 4 94 [.ref (ad G v0), .int v1, .int v2] h (some (.int z.1)) z.2 := by
  unfold X11_wordIn at hf
  refine CT.of (by decide) (Nat.le_of_ble_eq_true rfl) ?_
  intro p e s m below meth c ls E hr hlk w hl
  have hl : lv_has ls 4 [(0, .ref (ad G v0)), (1, .int v1), (2, .int v2)] := hl
  refine lv_aload_n E.1 E.2.1 dX11_wordIn_0 rfl (lv_at hl 0 rfl) ?_
  refine q_gi E w t_v0 fl_RX11_116 dX11_wordIn_1 ?_
  refine lv_if_ne (tgt := 27) E.1 E.2.1 dX11_wordIn_4 (by decide) (fun c1 => ?_) (fun c1 => ?_)
  · have hf := q_neg c1 hf
    refine lv_aload_n E.1 E.2.1 dX11_wordIn_27 rfl (lv_at hl 0 rfl) ?_
    obtain ⟨h4, hc2, hf⟩ := bd1_e hf
    refine k_Vv (As := []) (rest := []) E w t_v0 ⟨by decide, rfl⟩ (X11_ends_c t_v0 hc2) mv_RX11_120 rfl rfl hl.1 ⟨Nat.le_of_ble_eq_true rfl, Nat.le_of_ble_eq_true rfl⟩ (Nat.le_of_ble_eq_true rfl) ⟨Nat.le_refl _, Nat.le_refl _⟩ dX11_wordIn_28 (fun H locs w => ?_)
    refine lv_iconst (v := 0) E.1 E.2.1 dX11_wordIn_31 rfl ?_
    have hf := Option.some.inj hf
    subst hf
    exact q_iret E w hr hlk dX11_wordIn_32
  · have hf := q_pos c1 hf
    refine lv_aload_n E.1 E.2.1 dX11_wordIn_7 rfl (lv_at hl 0 rfl) ?_
    refine q_gi E w t_v0 fl_RX11_92 dX11_wordIn_8 ?_
    refine lv_iconst (v := 3) E.1 E.2.1 dX11_wordIn_11 rfl ?_
    refine lv_icmp_ne (tgt := 27) E.1 E.2.1 dX11_wordIn_12 (by decide) (fun c5 => ?_) (fun c5 => ?_)
    · have hf := q_neg c5 hf
      refine lv_aload_n E.1 E.2.1 dX11_wordIn_27 rfl (lv_at hl 0 rfl) ?_
      obtain ⟨h8, hc6, hf⟩ := bd1_e hf
      refine k_Vv (As := []) (rest := []) E w t_v0 ⟨by decide, rfl⟩ (X11_ends_c t_v0 hc6) mv_RX11_120 rfl rfl hl.1 ⟨Nat.le_of_ble_eq_true rfl, Nat.le_of_ble_eq_true rfl⟩ (Nat.le_of_ble_eq_true rfl) ⟨Nat.le_refl _, Nat.le_refl _⟩ dX11_wordIn_28 (fun H locs w => ?_)
      refine lv_iconst (v := 0) E.1 E.2.1 dX11_wordIn_31 rfl ?_
      have hf := Option.some.inj hf
      subst hf
      exact q_iret E w hr hlk dX11_wordIn_32
    · have hf := q_pos c5 hf
      refine lv_aload_n E.1 E.2.1 dX11_wordIn_15 rfl (lv_at hl 0 rfl) ?_
      refine q_gi E w t_v0 fl_RX11_107 dX11_wordIn_16 ?_
      refine lv_iload_n E.1 E.2.1 dX11_wordIn_19 rfl (lv_at hl 1 rfl) ?_
      refine lv_iload_n E.1 E.2.1 dX11_wordIn_20 rfl (lv_at hl 2 rfl) ?_
      obtain ⟨r10, hc9, hf⟩ := bd1_e hf
      refine k_Si (As := [.int (h.1 v0 7), .int v1, .int v2]) (rest := []) E w (X11_isIn_c  hc9) ms_RX11_123 rfl rfl hl.1 ⟨Nat.le_of_ble_eq_true rfl, Nat.le_of_ble_eq_true rfl⟩ (Nat.le_of_ble_eq_true rfl) ⟨Nat.le_refl _, Nat.le_refl _⟩ dX11_wordIn_21 (fun H locs w => ?_)
      refine lv_if_ne (tgt := 33) E.1 E.2.1 dX11_wordIn_24 (by decide) (fun c12 => ?_) (fun c12 => ?_)
      · have hf := q_neg c12 hf
        refine lv_aload_n E.1 E.2.1 dX11_wordIn_33 rfl (lv_at hl 0 rfl) ?_
        refine q_gi E w t_v0 fl_RX11_107 dX11_wordIn_34 ?_
        refine lv_istore_n (lv' := [(3, .int (h.1 v0 7)), (0, .ref (ad G v0)), (1, .int v1), (2, .int v2)]) E.1 E.2.1 dX11_wordIn_37 rfl hl (by decide) rfl (fun ls hl => ?_)
        refine lv_aload_n E.1 E.2.1 dX11_wordIn_38 rfl (lv_at hl 1 rfl) ?_
        obtain ⟨h15, hc13, hf⟩ := bd1_e hf
        refine k_Vv (As := []) (rest := []) E w t_v0 ⟨by decide, rfl⟩ (X11_advance_c t_v0 hc13) mv_RX11_131 rfl rfl hl.1 ⟨Nat.le_of_ble_eq_true rfl, Nat.le_of_ble_eq_true rfl⟩ (Nat.le_of_ble_eq_true rfl) ⟨Nat.le_refl _, Nat.le_refl _⟩ dX11_wordIn_39 (fun H locs w => ?_)
        refine lv_iload_n E.1 E.2.1 dX11_wordIn_42 rfl (lv_at hl 0 rfl) ?_
        have hf := Option.some.inj hf
        subst hf
        exact q_iret E w hr hlk dX11_wordIn_43
      · have hf := q_pos c12 hf
        refine lv_aload_n E.1 E.2.1 dX11_wordIn_27 rfl (lv_at hl 0 rfl) ?_
        obtain ⟨h18, hc16, hf⟩ := bd1_e hf
        refine k_Vv (As := []) (rest := []) E w t_v0 ⟨by decide, rfl⟩ (X11_ends_c t_v0 hc16) mv_RX11_120 rfl rfl hl.1 ⟨Nat.le_of_ble_eq_true rfl, Nat.le_of_ble_eq_true rfl⟩ (Nat.le_of_ble_eq_true rfl) ⟨Nat.le_refl _, Nat.le_refl _⟩ dX11_wordIn_28 (fun H locs w => ?_)
        refine lv_iconst (v := 0) E.1 E.2.1 dX11_wordIn_31 rfl ?_
        have hf := Option.some.inj hf
        subst hf
        exact q_iret E w hr hlk dX11_wordIn_32

def X11_endsLine (N : Nat) (h : HS) (v0 : Nat) : Option HS := (if (h.1 v0 8) = 0 then (if (h.1 v0 5) = (2 : Int32) then bd1 (X11_advance N h v0) fun h11 => some h11 else bd1 (X11_ends N h v0) fun h8 => some h8) else bd1 (X11_ends N h v0) fun h4 => some h4)
set_option maxRecDepth 4000 in
set_option maxHeartbeats 2000000 in
theorem X11_endsLine_c {l : Launch} {G : GT} {N : Nat} {h : HS} {v0 : Nat} {z : HS} (t_v0 : sh v0 = 11) (hf : X11_endsLine N h v0 = some z) : CT l G yX11_endsLine cX11_endsLine 1 none 4 94 [.ref (ad G v0)] h none z := by
  unfold X11_endsLine at hf
  refine CT.of (by decide) (Nat.le_of_ble_eq_true rfl) ?_
  intro p e s m below meth c ls E hr hlk w hl
  have hl : lv_has ls 1 [(0, .ref (ad G v0))] := hl
  refine lv_aload_n E.1 E.2.1 dX11_endsLine_0 rfl (lv_at hl 0 rfl) ?_
  refine q_gi E w t_v0 fl_RX11_116 dX11_endsLine_1 ?_
  refine lv_if_ne (tgt := 22) E.1 E.2.1 dX11_endsLine_4 (by decide) (fun c1 => ?_) (fun c1 => ?_)
  · have hf := q_neg c1 hf
    refine lv_aload_n E.1 E.2.1 dX11_endsLine_22 rfl (lv_at hl 0 rfl) ?_
    obtain ⟨h4, hc2, hf⟩ := bd1_e hf
    refine k_Vv (As := []) (rest := []) E w t_v0 ⟨by decide, rfl⟩ (X11_ends_c t_v0 hc2) mv_RX11_120 rfl rfl hl.1 ⟨Nat.le_of_ble_eq_true rfl, Nat.le_of_ble_eq_true rfl⟩ (Nat.le_of_ble_eq_true rfl) ⟨Nat.le_refl _, Nat.le_refl _⟩ dX11_endsLine_23 (fun H locs w => ?_)
    have hf := Option.some.inj hf
    subst hf
    exact q_vret E w hr hlk dX11_endsLine_26
  · have hf := q_pos c1 hf
    refine lv_aload_n E.1 E.2.1 dX11_endsLine_7 rfl (lv_at hl 0 rfl) ?_
    refine q_gi E w t_v0 fl_RX11_92 dX11_endsLine_8 ?_
    refine lv_iconst (v := 2) E.1 E.2.1 dX11_endsLine_11 rfl ?_
    refine lv_icmp_ne (tgt := 22) E.1 E.2.1 dX11_endsLine_12 (by decide) (fun c5 => ?_) (fun c5 => ?_)
    · have hf := q_neg c5 hf
      refine lv_aload_n E.1 E.2.1 dX11_endsLine_22 rfl (lv_at hl 0 rfl) ?_
      obtain ⟨h8, hc6, hf⟩ := bd1_e hf
      refine k_Vv (As := []) (rest := []) E w t_v0 ⟨by decide, rfl⟩ (X11_ends_c t_v0 hc6) mv_RX11_120 rfl rfl hl.1 ⟨Nat.le_of_ble_eq_true rfl, Nat.le_of_ble_eq_true rfl⟩ (Nat.le_of_ble_eq_true rfl) ⟨Nat.le_refl _, Nat.le_refl _⟩ dX11_endsLine_23 (fun H locs w => ?_)
      have hf := Option.some.inj hf
      subst hf
      exact q_vret E w hr hlk dX11_endsLine_26
    · have hf := q_pos c5 hf
      refine lv_aload_n E.1 E.2.1 dX11_endsLine_15 rfl (lv_at hl 0 rfl) ?_
      obtain ⟨h11, hc9, hf⟩ := bd1_e hf
      refine k_Vv (As := []) (rest := []) E w t_v0 ⟨by decide, rfl⟩ (X11_advance_c t_v0 hc9) mv_RX11_131 rfl rfl hl.1 ⟨Nat.le_of_ble_eq_true rfl, Nat.le_of_ble_eq_true rfl⟩ (Nat.le_of_ble_eq_true rfl) ⟨Nat.le_refl _, Nat.le_refl _⟩ dX11_endsLine_16 (fun H locs w => ?_)
      refine lv_goto (tgt := 26) E.1 E.2.1 dX11_endsLine_19 (by decide) ?_
      have hf := Option.some.inj hf
      subst hf
      exact q_vret E w hr hlk dX11_endsLine_26

def X11_above_b32 (N : Nat) (h : HS) (v0 : Nat) (v2 : Int32) (v3 : Int32) : Option (Int32 × HS) := bd2 (X11_numbered N h v0 1 v2) fun r3 h4 => (if (0 : Int32) = 0 then some (r3, h4) else bd1 (X11_also N h4 v0 2 v3) fun h8 => some (r3, h8))
set_option maxRecDepth 4000 in
set_option maxHeartbeats 2000000 in
theorem X11_above_b32_w {p : Program} {l : Launch} {e : Env} {s : State} {m : MethodId} {args : Array Value} {below : List Frame} {meth : Method} {c : Code} {G : GT} {N : Nat} {z : (Int32 × HS)} {h : HS} (E : CallFix p m c cX11_above 6 s args UW RX11) (hr : meth.sig.returnType = (some .int)) (hlk : meth.locks = false) {H : Heap} {locs : List Loc} {ls : Array Slot} {v0 : Nat} {v2 : Int32} {v3 : Int32} (hf : X11_above_b32 N h v0 v2 v3 = some z) (w : WD G s h H locs) (t_v0 : sh v0 = 11) (hl : lv_has ls 6 [(0, .ref (ad G v0)), (2, .int v2), (3, .int v3)]) : W p l e ({ frames := 5, cells := 0, slots := 0, locals := 117 } : Room) s m args below meth c H locs 0 0 (MQ below (QC G (some (.int z.1)) z.2) args s 0 0 (AD G)) (F0 m 32 ls []) := by
  unfold X11_above_b32 at hf
  refine lv_iconst (v := 0) E.1 E.2.1 dX11_above_32 rfl ?_
  refine lv_istore (lv' := [(4, .int 0), (0, .ref (ad G v0)), (2, .int v2), (3, .int v3)]) E.1 E.2.1 dX11_above_33 hl (by decide) rfl (fun ls hl => ?_)
  refine lv_aload_n E.1 E.2.1 dX11_above_35 rfl (lv_at hl 1 rfl) ?_
  refine lv_iconst (v := 1) E.1 E.2.1 dX11_above_36 rfl ?_
  refine lv_iload_n E.1 E.2.1 dX11_above_37 rfl (lv_at hl 2 rfl) ?_
  obtain ⟨r3, h4, hc2, hf⟩ := bd2_e hf
  refine k_Vi (As := [.int 1, .int v2]) (rest := []) E w t_v0 ⟨by decide, rfl⟩ (X11_numbered_c t_v0 hc2) mv_RX11_134 rfl rfl hl.1 ⟨Nat.le_of_ble_eq_true rfl, Nat.le_of_ble_eq_true rfl⟩ (Nat.le_of_ble_eq_true rfl) ⟨Nat.le_refl _, Nat.le_refl _⟩ dX11_above_38 (fun H locs w => ?_)
  refine lv_istore (lv' := [(5, .int r3), (4, .int 0), (0, .ref (ad G v0)), (2, .int v2), (3, .int v3)]) E.1 E.2.1 dX11_above_41 hl (by decide) rfl (fun ls hl => ?_)
  refine lv_iload E.1 E.2.1 dX11_above_43 (lv_at hl 1 rfl) ?_
  refine lv_if_eq (tgt := 54) E.1 E.2.1 dX11_above_45 (by decide) (fun c5 => ?_) (fun c5 => ?_)
  · have hf := q_pos c5 hf
    refine lv_iload E.1 E.2.1 dX11_above_54 (lv_at hl 0 rfl) ?_
    have hf := Option.some.inj hf
    subst hf
    exact q_iret E w hr hlk dX11_above_56
  · have hf := q_neg c5 hf
    refine lv_aload_n E.1 E.2.1 dX11_above_48 rfl (lv_at hl 2 rfl) ?_
    refine lv_iconst (v := 2) E.1 E.2.1 dX11_above_49 rfl ?_
    refine lv_iload_n E.1 E.2.1 dX11_above_50 rfl (lv_at hl 4 rfl) ?_
    obtain ⟨h8, hc6, hf⟩ := bd1_e hf
    refine k_Vv (As := [.int 2, .int v3]) (rest := []) E w t_v0 ⟨by decide, rfl⟩ (X11_also_c t_v0 hc6) mv_RX11_127 rfl rfl hl.1 ⟨Nat.le_of_ble_eq_true rfl, Nat.le_of_ble_eq_true rfl⟩ (Nat.le_of_ble_eq_true rfl) ⟨Nat.le_refl _, Nat.le_refl _⟩ dX11_above_51 (fun H locs w => ?_)
    refine lv_iload E.1 E.2.1 dX11_above_54 (lv_at hl 0 rfl) ?_
    have hf := Option.some.inj hf
    subst hf
    exact q_iret E w hr hlk dX11_above_56

def X11_above (N : Nat) (h : HS) (v0 : Nat) (v1 : Int32) (v2 : Int32) : Option (Int32 × HS) := (if (h.1 v0 8) = 0 then (if (h.1 v0 5) = (1 : Int32) then (if v1 ≤ (h.1 v0 6) then X11_above_b32 N h v0 v2 (h.1 v0 4) else bd2 (X11_numbered N h v0 1 v2) fun r12 h13 => (if (1 : Int32) = 0 then some (r12, h13) else bd1 (X11_also N h13 v0 2 (h.1 v0 4)) fun h17 => some (r12, h17))) else X11_above_b32 N h v0 v2 (h.1 v0 4)) else X11_above_b32 N h v0 v2 (h.1 v0 4))
set_option maxRecDepth 4000 in
set_option maxHeartbeats 2000000 in
theorem X11_above_c {l : Launch} {G : GT} {N : Nat} {h : HS} {v0 : Nat} {v1 : Int32} {v2 : Int32} {z : (Int32 × HS)} (t_v0 : sh v0 = 11) (hf : X11_above N h v0 v1 v2 = some z) : CT l G yX11_above cX11_above 6 (some .int) 5 117 [.ref (ad G v0), .int v1, .int v2] h (some (.int z.1)) z.2 := by
  unfold X11_above at hf
  refine CT.of (by decide) (Nat.le_of_ble_eq_true rfl) ?_
  intro p e s m below meth c ls E hr hlk w hl
  have hl : lv_has ls 6 [(0, .ref (ad G v0)), (1, .int v1), (2, .int v2)] := hl
  refine lv_aload_n E.1 E.2.1 dX11_above_0 rfl (lv_at hl 0 rfl) ?_
  refine q_gi E w t_v0 fl_RX11_89 dX11_above_1 ?_
  refine lv_istore_n (lv' := [(3, .int (h.1 v0 4)), (0, .ref (ad G v0)), (1, .int v1), (2, .int v2)]) E.1 E.2.1 dX11_above_4 rfl hl (by decide) rfl (fun ls hl => ?_)
  refine lv_aload_n E.1 E.2.1 dX11_above_5 rfl (lv_at hl 1 rfl) ?_
  refine q_gi E w t_v0 fl_RX11_116 dX11_above_6 ?_
  refine lv_if_ne (tgt := 32) E.1 E.2.1 dX11_above_9 (by decide) (fun c1 => ?_) (fun c1 => ?_)
  · have hf := q_neg c1 hf
    exact X11_above_b32_w E hr hlk hf w t_v0 (lv_sub hl [1, 3, 0] rfl)
  · have hf := q_pos c1 hf
    refine lv_aload_n E.1 E.2.1 dX11_above_12 rfl (lv_at hl 1 rfl) ?_
    refine q_gi E w t_v0 fl_RX11_92 dX11_above_13 ?_
    refine lv_iconst (v := 1) E.1 E.2.1 dX11_above_16 rfl ?_
    refine lv_icmp_ne (tgt := 32) E.1 E.2.1 dX11_above_17 (by decide) (fun c9 => ?_) (fun c9 => ?_)
    · have hf := q_neg c9 hf
      exact X11_above_b32_w E hr hlk hf w t_v0 (lv_sub hl [1, 3, 0] rfl)
    · have hf := q_pos c9 hf
      refine lv_aload_n E.1 E.2.1 dX11_above_20 rfl (lv_at hl 1 rfl) ?_
      refine q_gi E w t_v0 fl_RX11_113 dX11_above_21 ?_
      refine lv_iload_n E.1 E.2.1 dX11_above_24 rfl (lv_at hl 2 rfl) ?_
      refine lv_icmp_ge (tgt := 32) E.1 E.2.1 dX11_above_25 (by decide) (fun c10 => ?_) (fun c10 => ?_)
      · have hf := q_pos c10 hf
        exact X11_above_b32_w E hr hlk hf w t_v0 (lv_sub hl [1, 3, 0] rfl)
      · have hf := q_neg c10 hf
        refine lv_iconst (v := 1) E.1 E.2.1 dX11_above_28 rfl ?_
        refine lv_goto (tgt := 33) E.1 E.2.1 dX11_above_29 (by decide) ?_
        refine lv_istore (lv' := [(4, .int 1), (3, .int (h.1 v0 4)), (0, .ref (ad G v0)), (1, .int v1), (2, .int v2)]) E.1 E.2.1 dX11_above_33 hl (by decide) rfl (fun ls hl => ?_)
        refine lv_aload_n E.1 E.2.1 dX11_above_35 rfl (lv_at hl 2 rfl) ?_
        refine lv_iconst (v := 1) E.1 E.2.1 dX11_above_36 rfl ?_
        refine lv_iload_n E.1 E.2.1 dX11_above_37 rfl (lv_at hl 4 rfl) ?_
        obtain ⟨r12, h13, hc11, hf⟩ := bd2_e hf
        refine k_Vi (As := [.int 1, .int v2]) (rest := []) E w t_v0 ⟨by decide, rfl⟩ (X11_numbered_c t_v0 hc11) mv_RX11_134 rfl rfl hl.1 ⟨Nat.le_of_ble_eq_true rfl, Nat.le_of_ble_eq_true rfl⟩ (Nat.le_of_ble_eq_true rfl) ⟨Nat.le_refl _, Nat.le_refl _⟩ dX11_above_38 (fun H locs w => ?_)
        refine lv_istore (lv' := [(5, .int r12), (4, .int 1), (3, .int (h.1 v0 4)), (0, .ref (ad G v0)), (1, .int v1), (2, .int v2)]) E.1 E.2.1 dX11_above_41 hl (by decide) rfl (fun ls hl => ?_)
        refine lv_iload E.1 E.2.1 dX11_above_43 (lv_at hl 1 rfl) ?_
        refine lv_if_eq (tgt := 54) E.1 E.2.1 dX11_above_45 (by decide) (fun c14 => ?_) (fun c14 => ?_)
        · have hf := q_pos c14 hf
          refine lv_iload E.1 E.2.1 dX11_above_54 (lv_at hl 0 rfl) ?_
          have hf := Option.some.inj hf
          subst hf
          exact q_iret E w hr hlk dX11_above_56
        · have hf := q_neg c14 hf
          refine lv_aload_n E.1 E.2.1 dX11_above_48 rfl (lv_at hl 3 rfl) ?_
          refine lv_iconst (v := 2) E.1 E.2.1 dX11_above_49 rfl ?_
          refine lv_iload_n E.1 E.2.1 dX11_above_50 rfl (lv_at hl 2 rfl) ?_
          obtain ⟨h17, hc15, hf⟩ := bd1_e hf
          refine k_Vv (As := [.int 2, .int (h.1 v0 4)]) (rest := []) E w t_v0 ⟨by decide, rfl⟩ (X11_also_c t_v0 hc15) mv_RX11_127 rfl rfl hl.1 ⟨Nat.le_of_ble_eq_true rfl, Nat.le_of_ble_eq_true rfl⟩ (Nat.le_of_ble_eq_true rfl) ⟨Nat.le_refl _, Nat.le_refl _⟩ dX11_above_51 (fun H locs w => ?_)
          refine lv_iload E.1 E.2.1 dX11_above_54 (lv_at hl 0 rfl) ?_
          have hf := Option.some.inj hf
          subst hf
          exact q_iret E w hr hlk dX11_above_56

def X11_floorTold_b17 (N : Nat) (h : HS) (v0 : Nat) : Option HS := bd2 (X11_numbered N h v0 0 20) fun r4 h5 => bd2 (X11_numbered N h5 v0 1 9) fun r7 h8 => (if (0 : Int32) < 0 ∨ 81 ≤ (0 : Int32).toNatClampNeg then none else (if (h8.1 (v0 + 3) (0 : Int32).toNatClampNeg) < (6 : Int32) then (if (0 : Int32) < 0 ∨ 81 ≤ (0 : Int32).toNatClampNeg then none else (if (5 + (2 * (h8.1 (v0 + 3) (0 : Int32).toNatClampNeg))) < 0 ∨ 81 ≤ (5 + (2 * (h8.1 (v0 + 3) (0 : Int32).toNatClampNeg))).toNatClampNeg then none else sq (wi h8 (v0 + 3) (5 + (2 * (h8.1 (v0 + 3) (0 : Int32).toNatClampNeg))).toNatClampNeg r4) fun h13 => (if (0 : Int32) < 0 ∨ 81 ≤ (0 : Int32).toNatClampNeg then none else (if (6 + (2 * (h13.1 (v0 + 3) (0 : Int32).toNatClampNeg))) < 0 ∨ 81 ≤ (6 + (2 * (h13.1 (v0 + 3) (0 : Int32).toNatClampNeg))).toNatClampNeg then none else sq (wi h13 (v0 + 3) (6 + (2 * (h13.1 (v0 + 3) (0 : Int32).toNatClampNeg))).toNatClampNeg r7) fun h16 => (if (0 : Int32) < 0 ∨ 81 ≤ (0 : Int32).toNatClampNeg then none else (if (0 : Int32) < 0 ∨ 81 ≤ (0 : Int32).toNatClampNeg then none else sq (wi h16 (v0 + 3) (0 : Int32).toNatClampNeg ((h16.1 (v0 + 3) (0 : Int32).toNatClampNeg) + 1)) fun h19 => some h19)))))) else some h8))
set_option maxRecDepth 4000 in
set_option maxHeartbeats 2000000 in
theorem X11_floorTold_b17_w {p : Program} {l : Launch} {e : Env} {s : State} {m : MethodId} {args : Array Value} {below : List Frame} {meth : Method} {c : Code} {G : GT} {N : Nat} {z : HS} {h : HS} (E : CallFix p m c cX11_floorTold 4 s args UW RX11) (hr : meth.sig.returnType = none) (hlk : meth.locks = false) {H : Heap} {locs : List Loc} {ls : Array Slot} {v0 : Nat} (hf : X11_floorTold_b17 N h v0 = some z) (w : WD G s h H locs) (t_v0 : sh v0 = 11) (hl : lv_has ls 4 [(0, .ref (ad G v0))]) : W p l e ({ frames := 5, cells := 0, slots := 0, locals := 117 } : Room) s m args below meth c H locs 0 0 (MQ below (QC G none z) args s 0 0 (AD G)) (F0 m 17 ls []) := by
  unfold X11_floorTold_b17 at hf
  refine lv_aload_n E.1 E.2.1 dX11_floorTold_17 rfl (lv_at hl 0 rfl) ?_
  refine lv_iconst (v := 0) E.1 E.2.1 dX11_floorTold_18 rfl ?_
  refine lv_bipush (v := 20) E.1 E.2.1 dX11_floorTold_19 rfl ?_
  obtain ⟨r4, h5, hc3, hf⟩ := bd2_e hf
  refine k_Vi (As := [.int 0, .int 20]) (rest := []) E w t_v0 ⟨by decide, rfl⟩ (X11_numbered_c t_v0 hc3) mv_RX11_134 rfl rfl hl.1 ⟨Nat.le_of_ble_eq_true rfl, Nat.le_of_ble_eq_true rfl⟩ (Nat.le_of_ble_eq_true rfl) ⟨Nat.le_refl _, Nat.le_refl _⟩ dX11_floorTold_21 (fun H locs w => ?_)
  refine lv_istore_n (lv' := [(2, .int r4), (0, .ref (ad G v0))]) E.1 E.2.1 dX11_floorTold_24 rfl hl (by decide) rfl (fun ls hl => ?_)
  refine lv_aload_n E.1 E.2.1 dX11_floorTold_25 rfl (lv_at hl 1 rfl) ?_
  refine lv_iconst (v := 1) E.1 E.2.1 dX11_floorTold_26 rfl ?_
  refine lv_bipush (v := 9) E.1 E.2.1 dX11_floorTold_27 rfl ?_
  obtain ⟨r7, h8, hc6, hf⟩ := bd2_e hf
  refine k_Vi (As := [.int 1, .int 9]) (rest := []) E w t_v0 ⟨by decide, rfl⟩ (X11_numbered_c t_v0 hc6) mv_RX11_134 rfl rfl hl.1 ⟨Nat.le_of_ble_eq_true rfl, Nat.le_of_ble_eq_true rfl⟩ (Nat.le_of_ble_eq_true rfl) ⟨Nat.le_refl _, Nat.le_refl _⟩ dX11_floorTold_29 (fun H locs w => ?_)
  refine lv_istore_n (lv' := [(3, .int r7), (2, .int r4), (0, .ref (ad G v0))]) E.1 E.2.1 dX11_floorTold_32 rfl hl (by decide) rfl (fun ls hl => ?_)
  refine lv_aload_n E.1 E.2.1 dX11_floorTold_33 rfl (lv_at hl 2 rfl) ?_
  refine q_gs E w 3 t_v0 fl_RX11_17 dX11_floorTold_34 ?_
  refine lv_iconst (v := 0) E.1 E.2.1 dX11_floorTold_37 rfl ?_
  obtain ⟨b9, hf⟩ := q_if hf
  refine q_iald E w ((lay_11_11 t_v0).1) ((lay_11_11 t_v0).2) b9 dX11_floorTold_38 ?_
  refine lv_bipush (v := 6) E.1 E.2.1 dX11_floorTold_39 rfl ?_
  refine lv_icmp_lt (tgt := 45) E.1 E.2.1 dX11_floorTold_41 (by decide) (fun c10 => ?_) (fun c10 => ?_)
  · have hf := q_pos c10 hf
    refine lv_aload_n E.1 E.2.1 dX11_floorTold_45 rfl (lv_at hl 2 rfl) ?_
    refine q_gs E w 3 t_v0 fl_RX11_17 dX11_floorTold_46 ?_
    refine lv_iconst (v := 5) E.1 E.2.1 dX11_floorTold_49 rfl ?_
    refine lv_iconst (v := 2) E.1 E.2.1 dX11_floorTold_50 rfl ?_
    refine lv_aload_n E.1 E.2.1 dX11_floorTold_51 rfl (lv_at hl 2 rfl) ?_
    refine q_gs E w 3 t_v0 fl_RX11_17 dX11_floorTold_52 ?_
    refine lv_iconst (v := 0) E.1 E.2.1 dX11_floorTold_55 rfl ?_
    obtain ⟨b11, hf⟩ := q_if hf
    refine q_iald E w ((lay_11_11 t_v0).1) ((lay_11_11 t_v0).2) b11 dX11_floorTold_56 ?_
    refine lv_imul E.1 E.2.1 dX11_floorTold_57 ?_
    refine lv_iadd E.1 E.2.1 dX11_floorTold_58 ?_
    refine lv_iload_n E.1 E.2.1 dX11_floorTold_59 rfl (lv_at hl 1 rfl) ?_
    obtain ⟨b12, hf⟩ := q_if hf
    refine p_iast E w ((lay_11_11 t_v0).1) ((lay_11_11 t_v0).2) b12 dX11_floorTold_60 (fun h13 H locs eh w => ?_)
    have hf := sq_e eh hf
    clear eh
    refine lv_aload_n E.1 E.2.1 dX11_floorTold_61 rfl (lv_at hl 2 rfl) ?_
    refine q_gs E w 3 t_v0 fl_RX11_17 dX11_floorTold_62 ?_
    refine lv_bipush (v := 6) E.1 E.2.1 dX11_floorTold_65 rfl ?_
    refine lv_iconst (v := 2) E.1 E.2.1 dX11_floorTold_67 rfl ?_
    refine lv_aload_n E.1 E.2.1 dX11_floorTold_68 rfl (lv_at hl 2 rfl) ?_
    refine q_gs E w 3 t_v0 fl_RX11_17 dX11_floorTold_69 ?_
    refine lv_iconst (v := 0) E.1 E.2.1 dX11_floorTold_72 rfl ?_
    obtain ⟨b14, hf⟩ := q_if hf
    refine q_iald E w ((lay_11_11 t_v0).1) ((lay_11_11 t_v0).2) b14 dX11_floorTold_73 ?_
    refine lv_imul E.1 E.2.1 dX11_floorTold_74 ?_
    refine lv_iadd E.1 E.2.1 dX11_floorTold_75 ?_
    refine lv_iload_n E.1 E.2.1 dX11_floorTold_76 rfl (lv_at hl 0 rfl) ?_
    obtain ⟨b15, hf⟩ := q_if hf
    refine p_iast E w ((lay_11_11 t_v0).1) ((lay_11_11 t_v0).2) b15 dX11_floorTold_77 (fun h16 H locs eh w => ?_)
    have hf := sq_e eh hf
    clear eh
    refine lv_aload_n E.1 E.2.1 dX11_floorTold_78 rfl (lv_at hl 2 rfl) ?_
    refine q_gs E w 3 t_v0 fl_RX11_17 dX11_floorTold_79 ?_
    refine lv_iconst (v := 0) E.1 E.2.1 dX11_floorTold_82 rfl ?_
    refine lv_dup2_11 E.1 E.2.1 dX11_floorTold_83 rfl rfl ?_
    obtain ⟨b17, hf⟩ := q_if hf
    refine q_iald E w ((lay_11_11 t_v0).1) ((lay_11_11 t_v0).2) b17 dX11_floorTold_84 ?_
    refine lv_iconst (v := 1) E.1 E.2.1 dX11_floorTold_85 rfl ?_
    refine lv_iadd E.1 E.2.1 dX11_floorTold_86 ?_
    obtain ⟨b18, hf⟩ := q_if hf
    refine p_iast E w ((lay_11_11 t_v0).1) ((lay_11_11 t_v0).2) b18 dX11_floorTold_87 (fun h19 H locs eh w => ?_)
    have hf := sq_e eh hf
    clear eh
    have hf := Option.some.inj hf
    subst hf
    exact q_vret E w hr hlk dX11_floorTold_88
  · have hf := q_neg c10 hf
    have hf := Option.some.inj hf
    subst hf
    exact q_vret E w hr hlk dX11_floorTold_44

def X11_floorTold (N : Nat) (h : HS) (v0 : Nat) (v1 : Int32) : Option HS := (if (0 : Int32) < 0 ∨ 81 ≤ (0 : Int32).toNatClampNeg then none else (if (h.1 (v0 + 3) (0 : Int32).toNatClampNeg) < (6 : Int32) then X11_floorTold_b17 N h v0 else bd1 (X11_also N h v0 3 v1) fun h22 => X11_floorTold_b17 N h22 v0))
set_option maxRecDepth 4000 in
set_option maxHeartbeats 2000000 in
theorem X11_floorTold_c {l : Launch} {G : GT} {N : Nat} {h : HS} {v0 : Nat} {v1 : Int32} {z : HS} (t_v0 : sh v0 = 11) (hf : X11_floorTold N h v0 v1 = some z) : CT l G yX11_floorTold cX11_floorTold 4 none 5 117 [.ref (ad G v0), .int v1] h none z := by
  unfold X11_floorTold at hf
  refine CT.of (by decide) (Nat.le_of_ble_eq_true rfl) ?_
  intro p e s m below meth c ls E hr hlk w hl
  have hl : lv_has ls 4 [(0, .ref (ad G v0)), (1, .int v1)] := hl
  refine lv_aload_n E.1 E.2.1 dX11_floorTold_0 rfl (lv_at hl 0 rfl) ?_
  refine q_gs E w 3 t_v0 fl_RX11_17 dX11_floorTold_1 ?_
  refine lv_iconst (v := 0) E.1 E.2.1 dX11_floorTold_4 rfl ?_
  obtain ⟨b1, hf⟩ := q_if hf
  refine q_iald E w ((lay_11_11 t_v0).1) ((lay_11_11 t_v0).2) b1 dX11_floorTold_5 ?_
  refine lv_bipush (v := 6) E.1 E.2.1 dX11_floorTold_6 rfl ?_
  refine lv_icmp_lt (tgt := 17) E.1 E.2.1 dX11_floorTold_8 (by decide) (fun c2 => ?_) (fun c2 => ?_)
  · have hf := q_pos c2 hf
    exact X11_floorTold_b17_w E hr hlk hf w t_v0 (lv_sub hl [0] rfl)
  · have hf := q_neg c2 hf
    refine lv_aload_n E.1 E.2.1 dX11_floorTold_11 rfl (lv_at hl 0 rfl) ?_
    refine lv_iconst (v := 3) E.1 E.2.1 dX11_floorTold_12 rfl ?_
    refine lv_iload_n E.1 E.2.1 dX11_floorTold_13 rfl (lv_at hl 1 rfl) ?_
    obtain ⟨h22, hc20, hf⟩ := bd1_e hf
    refine k_Vv (As := [.int 3, .int v1]) (rest := []) E w t_v0 ⟨by decide, rfl⟩ (X11_also_c t_v0 hc20) mv_RX11_127 rfl rfl hl.1 ⟨Nat.le_of_ble_eq_true rfl, Nat.le_of_ble_eq_true rfl⟩ (Nat.le_of_ble_eq_true rfl) ⟨Nat.le_refl _, Nat.le_refl _⟩ dX11_floorTold_14 (fun H locs w => ?_)
    exact X11_floorTold_b17_w E hr hlk hf w t_v0 (lv_sub hl [0] rfl)

def X11_barTold_b68 (N : Nat) (h : HS) (v0 : Nat) (v2 : Int32) (v3 : Int32) (v4 : Int32) (v5 : Int32) (u0 : Int32) (u1 : Nat) : Option HS := sq (wi h u1 9 u0) fun h16 => (if (1 : Int32) < 0 ∨ 81 ≤ (1 : Int32).toNatClampNeg then none else (if (h16.1 (v0 + 3) (1 : Int32).toNatClampNeg) < (8 : Int32) then (if (1 : Int32) < 0 ∨ 81 ≤ (1 : Int32).toNatClampNeg then none else (if (17 + (4 * (h16.1 (v0 + 3) (1 : Int32).toNatClampNeg))) < 0 ∨ 81 ≤ (17 + (4 * (h16.1 (v0 + 3) (1 : Int32).toNatClampNeg))).toNatClampNeg then none else sq (wi h16 (v0 + 3) (17 + (4 * (h16.1 (v0 + 3) (1 : Int32).toNatClampNeg))).toNatClampNeg v2) fun h21 => (if ((17 + (4 * (h16.1 (v0 + 3) (1 : Int32).toNatClampNeg))) + 1) < 0 ∨ 81 ≤ ((17 + (4 * (h16.1 (v0 + 3) (1 : Int32).toNatClampNeg))) + 1).toNatClampNeg then none else sq (wi h21 (v0 + 3) ((17 + (4 * (h16.1 (v0 + 3) (1 : Int32).toNatClampNeg))) + 1).toNatClampNeg v3) fun h23 => (if ((17 + (4 * (h16.1 (v0 + 3) (1 : Int32).toNatClampNeg))) + 2) < 0 ∨ 81 ≤ ((17 + (4 * (h16.1 (v0 + 3) (1 : Int32).toNatClampNeg))) + 2).toNatClampNeg then none else sq (wi h23 (v0 + 3) ((17 + (4 * (h16.1 (v0 + 3) (1 : Int32).toNatClampNeg))) + 2).toNatClampNeg v4) fun h25 => (if ((17 + (4 * (h16.1 (v0 + 3) (1 : Int32).toNatClampNeg))) + 3) < 0 ∨ 81 ≤ ((17 + (4 * (h16.1 (v0 + 3) (1 : Int32).toNatClampNeg))) + 3).toNatClampNeg then none else sq (wi h25 (v0 + 3) ((17 + (4 * (h16.1 (v0 + 3) (1 : Int32).toNatClampNeg))) + 3).toNatClampNeg v5) fun h27 => (if (1 : Int32) < 0 ∨ 81 ≤ (1 : Int32).toNatClampNeg then none else (if (1 : Int32) < 0 ∨ 81 ≤ (1 : Int32).toNatClampNeg then none else sq (wi h27 (v0 + 3) (1 : Int32).toNatClampNeg ((h27.1 (v0 + 3) (1 : Int32).toNatClampNeg) + 1)) fun h30 => some h30))))))) else some h16))
set_option maxRecDepth 4000 in
set_option maxHeartbeats 2000000 in
theorem X11_barTold_b68_w {p : Program} {l : Launch} {e : Env} {s : State} {m : MethodId} {args : Array Value} {below : List Frame} {meth : Method} {c : Code} {G : GT} {N : Nat} {z : HS} {h : HS} (E : CallFix p m c cX11_barTold 7 s args UW RX11) (hr : meth.sig.returnType = none) (hlk : meth.locks = false) {H : Heap} {locs : List Loc} {ls : Array Slot} {v0 : Nat} {v2 : Int32} {v3 : Int32} {v4 : Int32} {v5 : Int32} {u0 : Int32} {u1 : Nat} (hf : X11_barTold_b68 N h v0 v2 v3 v4 v5 u0 u1 = some z) (w : WD G s h H locs) (t_v0 : sh v0 = 11) (t_u1 : sh u1 = 11) (hl : lv_has ls 7 [(0, .ref (ad G v0)), (2, .int v2), (3, .int v3), (4, .int v4), (5, .int v5)]) : W p l e ({ frames := 5, cells := 0, slots := 0, locals := 117 } : Room) s m args below meth c H locs 0 0 (MQ below (QC G none z) args s 0 0 (AD G)) (F0 m 68 ls [.int u0, .ref (ad G u1)]) := by
  unfold X11_barTold_b68 at hf
  refine p_pi E w t_u1 fl_RX11_138 (fp_11_9 _) dX11_barTold_68 (fun h16 H locs eh w => ?_)
  have hf := sq_e eh hf
  clear eh
  refine lv_aload_n E.1 E.2.1 dX11_barTold_71 rfl (lv_at hl 0 rfl) ?_
  refine q_gs E w 3 t_v0 fl_RX11_17 dX11_barTold_72 ?_
  refine lv_iconst (v := 1) E.1 E.2.1 dX11_barTold_75 rfl ?_
  obtain ⟨b17, hf⟩ := q_if hf
  refine q_iald E w ((lay_11_11 t_v0).1) ((lay_11_11 t_v0).2) b17 dX11_barTold_76 ?_
  refine lv_bipush (v := 8) E.1 E.2.1 dX11_barTold_77 rfl ?_
  refine lv_icmp_lt (tgt := 83) E.1 E.2.1 dX11_barTold_79 (by decide) (fun c18 => ?_) (fun c18 => ?_)
  · have hf := q_pos c18 hf
    refine lv_bipush (v := 17) E.1 E.2.1 dX11_barTold_83 rfl ?_
    refine lv_iconst (v := 4) E.1 E.2.1 dX11_barTold_85 rfl ?_
    refine lv_aload_n E.1 E.2.1 dX11_barTold_86 rfl (lv_at hl 0 rfl) ?_
    refine q_gs E w 3 t_v0 fl_RX11_17 dX11_barTold_87 ?_
    refine lv_iconst (v := 1) E.1 E.2.1 dX11_barTold_90 rfl ?_
    obtain ⟨b19, hf⟩ := q_if hf
    refine q_iald E w ((lay_11_11 t_v0).1) ((lay_11_11 t_v0).2) b19 dX11_barTold_91 ?_
    refine lv_imul E.1 E.2.1 dX11_barTold_92 ?_
    refine lv_iadd E.1 E.2.1 dX11_barTold_93 ?_
    refine lv_istore (lv' := [(6, .int (17 + (4 * (h16.1 (v0 + 3) (1 : Int32).toNatClampNeg)))), (0, .ref (ad G v0)), (2, .int v2), (3, .int v3), (4, .int v4), (5, .int v5)]) E.1 E.2.1 dX11_barTold_94 hl (by decide) rfl (fun ls hl => ?_)
    refine lv_aload_n E.1 E.2.1 dX11_barTold_96 rfl (lv_at hl 1 rfl) ?_
    refine q_gs E w 3 t_v0 fl_RX11_17 dX11_barTold_97 ?_
    refine lv_iload E.1 E.2.1 dX11_barTold_100 (lv_at hl 0 rfl) ?_
    refine lv_iload_n E.1 E.2.1 dX11_barTold_102 rfl (lv_at hl 2 rfl) ?_
    obtain ⟨b20, hf⟩ := q_if hf
    refine p_iast E w ((lay_11_11 t_v0).1) ((lay_11_11 t_v0).2) b20 dX11_barTold_103 (fun h21 H locs eh w => ?_)
    have hf := sq_e eh hf
    clear eh
    refine lv_aload_n E.1 E.2.1 dX11_barTold_104 rfl (lv_at hl 1 rfl) ?_
    refine q_gs E w 3 t_v0 fl_RX11_17 dX11_barTold_105 ?_
    refine lv_iload E.1 E.2.1 dX11_barTold_108 (lv_at hl 0 rfl) ?_
    refine lv_iconst (v := 1) E.1 E.2.1 dX11_barTold_110 rfl ?_
    refine lv_iadd E.1 E.2.1 dX11_barTold_111 ?_
    refine lv_iload_n E.1 E.2.1 dX11_barTold_112 rfl (lv_at hl 3 rfl) ?_
    obtain ⟨b22, hf⟩ := q_if hf
    refine p_iast E w ((lay_11_11 t_v0).1) ((lay_11_11 t_v0).2) b22 dX11_barTold_113 (fun h23 H locs eh w => ?_)
    have hf := sq_e eh hf
    clear eh
    refine lv_aload_n E.1 E.2.1 dX11_barTold_114 rfl (lv_at hl 1 rfl) ?_
    refine q_gs E w 3 t_v0 fl_RX11_17 dX11_barTold_115 ?_
    refine lv_iload E.1 E.2.1 dX11_barTold_118 (lv_at hl 0 rfl) ?_
    refine lv_iconst (v := 2) E.1 E.2.1 dX11_barTold_120 rfl ?_
    refine lv_iadd E.1 E.2.1 dX11_barTold_121 ?_
    refine lv_iload E.1 E.2.1 dX11_barTold_122 (lv_at hl 4 rfl) ?_
    obtain ⟨b24, hf⟩ := q_if hf
    refine p_iast E w ((lay_11_11 t_v0).1) ((lay_11_11 t_v0).2) b24 dX11_barTold_124 (fun h25 H locs eh w => ?_)
    have hf := sq_e eh hf
    clear eh
    refine lv_aload_n E.1 E.2.1 dX11_barTold_125 rfl (lv_at hl 1 rfl) ?_
    refine q_gs E w 3 t_v0 fl_RX11_17 dX11_barTold_126 ?_
    refine lv_iload E.1 E.2.1 dX11_barTold_129 (lv_at hl 0 rfl) ?_
    refine lv_iconst (v := 3) E.1 E.2.1 dX11_barTold_131 rfl ?_
    refine lv_iadd E.1 E.2.1 dX11_barTold_132 ?_
    refine lv_iload E.1 E.2.1 dX11_barTold_133 (lv_at hl 5 rfl) ?_
    obtain ⟨b26, hf⟩ := q_if hf
    refine p_iast E w ((lay_11_11 t_v0).1) ((lay_11_11 t_v0).2) b26 dX11_barTold_135 (fun h27 H locs eh w => ?_)
    have hf := sq_e eh hf
    clear eh
    refine lv_aload_n E.1 E.2.1 dX11_barTold_136 rfl (lv_at hl 1 rfl) ?_
    refine q_gs E w 3 t_v0 fl_RX11_17 dX11_barTold_137 ?_
    refine lv_iconst (v := 1) E.1 E.2.1 dX11_barTold_140 rfl ?_
    refine lv_dup2_11 E.1 E.2.1 dX11_barTold_141 rfl rfl ?_
    obtain ⟨b28, hf⟩ := q_if hf
    refine q_iald E w ((lay_11_11 t_v0).1) ((lay_11_11 t_v0).2) b28 dX11_barTold_142 ?_
    refine lv_iconst (v := 1) E.1 E.2.1 dX11_barTold_143 rfl ?_
    refine lv_iadd E.1 E.2.1 dX11_barTold_144 ?_
    obtain ⟨b29, hf⟩ := q_if hf
    refine p_iast E w ((lay_11_11 t_v0).1) ((lay_11_11 t_v0).2) b29 dX11_barTold_145 (fun h30 H locs eh w => ?_)
    have hf := sq_e eh hf
    clear eh
    have hf := Option.some.inj hf
    subst hf
    exact q_vret E w hr hlk dX11_barTold_146
  · have hf := q_neg c18 hf
    have hf := Option.some.inj hf
    subst hf
    exact q_vret E w hr hlk dX11_barTold_82

def X11_barTold_b17 (N : Nat) (h : HS) (v0 : Nat) : Option HS := bd2 (X11_numbered N h v0 0 9) fun r4 h5 => bd2 (X11_numbered N h5 v0 1 4) fun r7 h8 => bd2 (X11_numbered N h8 v0 0 5) fun r10 h11 => bd2 (X11_numbered N h11 v0 0 10) fun r13 h14 => (if r10 ≤ (h14.1 v0 9) then X11_barTold_b68 N h14 v0 r4 r7 r10 r13 (h14.1 v0 9) v0 else X11_barTold_b68 N h14 v0 r4 r7 r10 r13 r10 v0)
set_option maxRecDepth 4000 in
set_option maxHeartbeats 2000000 in
theorem X11_barTold_b17_w {p : Program} {l : Launch} {e : Env} {s : State} {m : MethodId} {args : Array Value} {below : List Frame} {meth : Method} {c : Code} {G : GT} {N : Nat} {z : HS} {h : HS} (E : CallFix p m c cX11_barTold 7 s args UW RX11) (hr : meth.sig.returnType = none) (hlk : meth.locks = false) {H : Heap} {locs : List Loc} {ls : Array Slot} {v0 : Nat} (hf : X11_barTold_b17 N h v0 = some z) (w : WD G s h H locs) (t_v0 : sh v0 = 11) (hl : lv_has ls 7 [(0, .ref (ad G v0))]) : W p l e ({ frames := 5, cells := 0, slots := 0, locals := 117 } : Room) s m args below meth c H locs 0 0 (MQ below (QC G none z) args s 0 0 (AD G)) (F0 m 17 ls []) := by
  unfold X11_barTold_b17 at hf
  refine lv_aload_n E.1 E.2.1 dX11_barTold_17 rfl (lv_at hl 0 rfl) ?_
  refine lv_iconst (v := 0) E.1 E.2.1 dX11_barTold_18 rfl ?_
  refine lv_bipush (v := 9) E.1 E.2.1 dX11_barTold_19 rfl ?_
  obtain ⟨r4, h5, hc3, hf⟩ := bd2_e hf
  refine k_Vi (As := [.int 0, .int 9]) (rest := []) E w t_v0 ⟨by decide, rfl⟩ (X11_numbered_c t_v0 hc3) mv_RX11_134 rfl rfl hl.1 ⟨Nat.le_of_ble_eq_true rfl, Nat.le_of_ble_eq_true rfl⟩ (Nat.le_of_ble_eq_true rfl) ⟨Nat.le_refl _, Nat.le_refl _⟩ dX11_barTold_21 (fun H locs w => ?_)
  refine lv_istore_n (lv' := [(2, .int r4), (0, .ref (ad G v0))]) E.1 E.2.1 dX11_barTold_24 rfl hl (by decide) rfl (fun ls hl => ?_)
  refine lv_aload_n E.1 E.2.1 dX11_barTold_25 rfl (lv_at hl 1 rfl) ?_
  refine lv_iconst (v := 1) E.1 E.2.1 dX11_barTold_26 rfl ?_
  refine lv_iconst (v := 4) E.1 E.2.1 dX11_barTold_27 rfl ?_
  obtain ⟨r7, h8, hc6, hf⟩ := bd2_e hf
  refine k_Vi (As := [.int 1, .int 4]) (rest := []) E w t_v0 ⟨by decide, rfl⟩ (X11_numbered_c t_v0 hc6) mv_RX11_134 rfl rfl hl.1 ⟨Nat.le_of_ble_eq_true rfl, Nat.le_of_ble_eq_true rfl⟩ (Nat.le_of_ble_eq_true rfl) ⟨Nat.le_refl _, Nat.le_refl _⟩ dX11_barTold_28 (fun H locs w => ?_)
  refine lv_istore_n (lv' := [(3, .int r7), (2, .int r4), (0, .ref (ad G v0))]) E.1 E.2.1 dX11_barTold_31 rfl hl (by decide) rfl (fun ls hl => ?_)
  refine lv_aload_n E.1 E.2.1 dX11_barTold_32 rfl (lv_at hl 2 rfl) ?_
  refine lv_iconst (v := 0) E.1 E.2.1 dX11_barTold_33 rfl ?_
  refine lv_iconst (v := 5) E.1 E.2.1 dX11_barTold_34 rfl ?_
  obtain ⟨r10, h11, hc9, hf⟩ := bd2_e hf
  refine k_Vi (As := [.int 0, .int 5]) (rest := []) E w t_v0 ⟨by decide, rfl⟩ (X11_numbered_c t_v0 hc9) mv_RX11_134 rfl rfl hl.1 ⟨Nat.le_of_ble_eq_true rfl, Nat.le_of_ble_eq_true rfl⟩ (Nat.le_of_ble_eq_true rfl) ⟨Nat.le_refl _, Nat.le_refl _⟩ dX11_barTold_35 (fun H locs w => ?_)
  refine lv_istore (lv' := [(4, .int r10), (3, .int r7), (2, .int r4), (0, .ref (ad G v0))]) E.1 E.2.1 dX11_barTold_38 hl (by decide) rfl (fun ls hl => ?_)
  refine lv_aload_n E.1 E.2.1 dX11_barTold_40 rfl (lv_at hl 3 rfl) ?_
  refine lv_iconst (v := 0) E.1 E.2.1 dX11_barTold_41 rfl ?_
  refine lv_bipush (v := 10) E.1 E.2.1 dX11_barTold_42 rfl ?_
  obtain ⟨r13, h14, hc12, hf⟩ := bd2_e hf
  refine k_Vi (As := [.int 0, .int 10]) (rest := []) E w t_v0 ⟨by decide, rfl⟩ (X11_numbered_c t_v0 hc12) mv_RX11_134 rfl rfl hl.1 ⟨Nat.le_of_ble_eq_true rfl, Nat.le_of_ble_eq_true rfl⟩ (Nat.le_of_ble_eq_true rfl) ⟨Nat.le_refl _, Nat.le_refl _⟩ dX11_barTold_44 (fun H locs w => ?_)
  refine lv_istore (lv' := [(5, .int r13), (4, .int r10), (3, .int r7), (2, .int r4), (0, .ref (ad G v0))]) E.1 E.2.1 dX11_barTold_47 hl (by decide) rfl (fun ls hl => ?_)
  refine lv_aload_n E.1 E.2.1 dX11_barTold_49 rfl (lv_at hl 4 rfl) ?_
  refine lv_iload E.1 E.2.1 dX11_barTold_50 (lv_at hl 1 rfl) ?_
  refine lv_aload_n E.1 E.2.1 dX11_barTold_52 rfl (lv_at hl 4 rfl) ?_
  refine q_gi E w t_v0 fl_RX11_138 dX11_barTold_53 ?_
  refine lv_icmp_le (tgt := 64) E.1 E.2.1 dX11_barTold_56 (by decide) (fun c15 => ?_) (fun c15 => ?_)
  · have hf := q_pos c15 hf
    refine lv_aload_n E.1 E.2.1 dX11_barTold_64 rfl (lv_at hl 4 rfl) ?_
    refine q_gi E w t_v0 fl_RX11_138 dX11_barTold_65 ?_
    exact X11_barTold_b68_w E hr hlk hf w t_v0 t_v0 (lv_sub hl [4, 3, 2, 1, 0] rfl)
  · have hf := q_neg c15 hf
    refine lv_iload E.1 E.2.1 dX11_barTold_59 (lv_at hl 1 rfl) ?_
    refine lv_goto (tgt := 68) E.1 E.2.1 dX11_barTold_61 (by decide) ?_
    exact X11_barTold_b68_w E hr hlk hf w t_v0 t_v0 (lv_sub hl [4, 3, 2, 1, 0] rfl)

def X11_barTold (N : Nat) (h : HS) (v0 : Nat) (v1 : Int32) : Option HS := (if (1 : Int32) < 0 ∨ 81 ≤ (1 : Int32).toNatClampNeg then none else (if (h.1 (v0 + 3) (1 : Int32).toNatClampNeg) < (8 : Int32) then X11_barTold_b17 N h v0 else bd1 (X11_also N h v0 3 v1) fun h33 => X11_barTold_b17 N h33 v0))
set_option maxRecDepth 4000 in
set_option maxHeartbeats 2000000 in
theorem X11_barTold_c {l : Launch} {G : GT} {N : Nat} {h : HS} {v0 : Nat} {v1 : Int32} {z : HS} (t_v0 : sh v0 = 11) (hf : X11_barTold N h v0 v1 = some z) : CT l G yX11_barTold cX11_barTold 7 none 5 117 [.ref (ad G v0), .int v1] h none z := by
  unfold X11_barTold at hf
  refine CT.of (by decide) (Nat.le_of_ble_eq_true rfl) ?_
  intro p e s m below meth c ls E hr hlk w hl
  have hl : lv_has ls 7 [(0, .ref (ad G v0)), (1, .int v1)] := hl
  refine lv_aload_n E.1 E.2.1 dX11_barTold_0 rfl (lv_at hl 0 rfl) ?_
  refine q_gs E w 3 t_v0 fl_RX11_17 dX11_barTold_1 ?_
  refine lv_iconst (v := 1) E.1 E.2.1 dX11_barTold_4 rfl ?_
  obtain ⟨b1, hf⟩ := q_if hf
  refine q_iald E w ((lay_11_11 t_v0).1) ((lay_11_11 t_v0).2) b1 dX11_barTold_5 ?_
  refine lv_bipush (v := 8) E.1 E.2.1 dX11_barTold_6 rfl ?_
  refine lv_icmp_lt (tgt := 17) E.1 E.2.1 dX11_barTold_8 (by decide) (fun c2 => ?_) (fun c2 => ?_)
  · have hf := q_pos c2 hf
    exact X11_barTold_b17_w E hr hlk hf w t_v0 (lv_sub hl [0] rfl)
  · have hf := q_neg c2 hf
    refine lv_aload_n E.1 E.2.1 dX11_barTold_11 rfl (lv_at hl 0 rfl) ?_
    refine lv_iconst (v := 3) E.1 E.2.1 dX11_barTold_12 rfl ?_
    refine lv_iload_n E.1 E.2.1 dX11_barTold_13 rfl (lv_at hl 1 rfl) ?_
    obtain ⟨h33, hc31, hf⟩ := bd1_e hf
    refine k_Vv (As := [.int 3, .int v1]) (rest := []) E w t_v0 ⟨by decide, rfl⟩ (X11_also_c t_v0 hc31) mv_RX11_127 rfl rfl hl.1 ⟨Nat.le_of_ble_eq_true rfl, Nat.le_of_ble_eq_true rfl⟩ (Nat.le_of_ble_eq_true rfl) ⟨Nat.le_refl _, Nat.le_refl _⟩ dX11_barTold_14 (fun H locs w => ?_)
    exact X11_barTold_b17_w E hr hlk hf w t_v0 (lv_sub hl [0] rfl)

def X11_singerTold_b16 (N : Nat) (h : HS) (v0 : Nat) : Option HS := bd2 (X11_numbered N h v0 1 9) fun r4 h5 => bd2 (X11_above N h5 v0 r4 9) fun r7 h8 => bd2 (X11_numbered N h8 v0 1 20) fun r10 h11 => (if (2 : Int32) < 0 ∨ 81 ≤ (2 : Int32).toNatClampNeg then none else (if (h11.1 (v0 + 3) (2 : Int32).toNatClampNeg) < (5 : Int32) then (if (2 : Int32) < 0 ∨ 81 ≤ (2 : Int32).toNatClampNeg then none else (if (49 + (3 * (h11.1 (v0 + 3) (2 : Int32).toNatClampNeg))) < 0 ∨ 81 ≤ (49 + (3 * (h11.1 (v0 + 3) (2 : Int32).toNatClampNeg))).toNatClampNeg then none else sq (wi h11 (v0 + 3) (49 + (3 * (h11.1 (v0 + 3) (2 : Int32).toNatClampNeg))).toNatClampNeg r4) fun h16 => (if ((49 + (3 * (h11.1 (v0 + 3) (2 : Int32).toNatClampNeg))) + 1) < 0 ∨ 81 ≤ ((49 + (3 * (h11.1 (v0 + 3) (2 : Int32).toNatClampNeg))) + 1).toNatClampNeg then none else sq (wi h16 (v0 + 3) ((49 + (3 * (h11.1 (v0 + 3) (2 : Int32).toNatClampNeg))) + 1).toNatClampNeg r7) fun h18 => (if ((49 + (3 * (h11.1 (v0 + 3) (2 : Int32).toNatClampNeg))) + 2) < 0 ∨ 81 ≤ ((49 + (3 * (h11.1 (v0 + 3) (2 : Int32).toNatClampNeg))) + 2).toNatClampNeg then none else sq (wi h18 (v0 + 3) ((49 + (3 * (h11.1 (v0 + 3) (2 : Int32).toNatClampNeg))) + 2).toNatClampNeg r10) fun h20 => (if (2 : Int32) < 0 ∨ 81 ≤ (2 : Int32).toNatClampNeg then none else (if (2 : Int32) < 0 ∨ 81 ≤ (2 : Int32).toNatClampNeg then none else sq (wi h20 (v0 + 3) (2 : Int32).toNatClampNeg ((h20.1 (v0 + 3) (2 : Int32).toNatClampNeg) + 1)) fun h23 => some h23)))))) else some h11))
set_option maxRecDepth 4000 in
set_option maxHeartbeats 2000000 in
theorem X11_singerTold_b16_w {p : Program} {l : Launch} {e : Env} {s : State} {m : MethodId} {args : Array Value} {below : List Frame} {meth : Method} {c : Code} {G : GT} {N : Nat} {z : HS} {h : HS} (E : CallFix p m c cX11_singerTold 6 s args UW RX11) (hr : meth.sig.returnType = none) (hlk : meth.locks = false) {H : Heap} {locs : List Loc} {ls : Array Slot} {v0 : Nat} (hf : X11_singerTold_b16 N h v0 = some z) (w : WD G s h H locs) (t_v0 : sh v0 = 11) (hl : lv_has ls 6 [(0, .ref (ad G v0))]) : W p l e ({ frames := 6, cells := 0, slots := 0, locals := 142 } : Room) s m args below meth c H locs 0 0 (MQ below (QC G none z) args s 0 0 (AD G)) (F0 m 16 ls []) := by
  unfold X11_singerTold_b16 at hf
  refine lv_aload_n E.1 E.2.1 dX11_singerTold_16 rfl (lv_at hl 0 rfl) ?_
  refine lv_iconst (v := 1) E.1 E.2.1 dX11_singerTold_17 rfl ?_
  refine lv_bipush (v := 9) E.1 E.2.1 dX11_singerTold_18 rfl ?_
  obtain ⟨r4, h5, hc3, hf⟩ := bd2_e hf
  refine k_Vi (As := [.int 1, .int 9]) (rest := []) E w t_v0 ⟨by decide, rfl⟩ (X11_numbered_c t_v0 hc3) mv_RX11_134 rfl rfl hl.1 ⟨Nat.le_of_ble_eq_true rfl, Nat.le_of_ble_eq_true rfl⟩ (Nat.le_of_ble_eq_true rfl) ⟨Nat.le_refl _, Nat.le_refl _⟩ dX11_singerTold_20 (fun H locs w => ?_)
  refine lv_istore_n (lv' := [(2, .int r4), (0, .ref (ad G v0))]) E.1 E.2.1 dX11_singerTold_23 rfl hl (by decide) rfl (fun ls hl => ?_)
  refine lv_aload_n E.1 E.2.1 dX11_singerTold_24 rfl (lv_at hl 1 rfl) ?_
  refine lv_iload_n E.1 E.2.1 dX11_singerTold_25 rfl (lv_at hl 0 rfl) ?_
  refine lv_bipush (v := 9) E.1 E.2.1 dX11_singerTold_26 rfl ?_
  obtain ⟨r7, h8, hc6, hf⟩ := bd2_e hf
  refine k_Vi (As := [.int r4, .int 9]) (rest := []) E w t_v0 ⟨by decide, rfl⟩ (X11_above_c t_v0 hc6) mv_RX11_141 rfl rfl hl.1 ⟨Nat.le_of_ble_eq_true rfl, Nat.le_of_ble_eq_true rfl⟩ (Nat.le_of_ble_eq_true rfl) ⟨Nat.le_refl _, Nat.le_refl _⟩ dX11_singerTold_28 (fun H locs w => ?_)
  refine lv_istore_n (lv' := [(3, .int r7), (2, .int r4), (0, .ref (ad G v0))]) E.1 E.2.1 dX11_singerTold_31 rfl hl (by decide) rfl (fun ls hl => ?_)
  refine lv_aload_n E.1 E.2.1 dX11_singerTold_32 rfl (lv_at hl 2 rfl) ?_
  refine lv_iconst (v := 1) E.1 E.2.1 dX11_singerTold_33 rfl ?_
  refine lv_bipush (v := 20) E.1 E.2.1 dX11_singerTold_34 rfl ?_
  obtain ⟨r10, h11, hc9, hf⟩ := bd2_e hf
  refine k_Vi (As := [.int 1, .int 20]) (rest := []) E w t_v0 ⟨by decide, rfl⟩ (X11_numbered_c t_v0 hc9) mv_RX11_134 rfl rfl hl.1 ⟨Nat.le_of_ble_eq_true rfl, Nat.le_of_ble_eq_true rfl⟩ (Nat.le_of_ble_eq_true rfl) ⟨Nat.le_refl _, Nat.le_refl _⟩ dX11_singerTold_36 (fun H locs w => ?_)
  refine lv_istore (lv' := [(4, .int r10), (3, .int r7), (2, .int r4), (0, .ref (ad G v0))]) E.1 E.2.1 dX11_singerTold_39 hl (by decide) rfl (fun ls hl => ?_)
  refine lv_aload_n E.1 E.2.1 dX11_singerTold_41 rfl (lv_at hl 3 rfl) ?_
  refine q_gs E w 3 t_v0 fl_RX11_17 dX11_singerTold_42 ?_
  refine lv_iconst (v := 2) E.1 E.2.1 dX11_singerTold_45 rfl ?_
  obtain ⟨b12, hf⟩ := q_if hf
  refine q_iald E w ((lay_11_11 t_v0).1) ((lay_11_11 t_v0).2) b12 dX11_singerTold_46 ?_
  refine lv_iconst (v := 5) E.1 E.2.1 dX11_singerTold_47 rfl ?_
  refine lv_icmp_lt (tgt := 52) E.1 E.2.1 dX11_singerTold_48 (by decide) (fun c13 => ?_) (fun c13 => ?_)
  · have hf := q_pos c13 hf
    refine lv_bipush (v := 49) E.1 E.2.1 dX11_singerTold_52 rfl ?_
    refine lv_iconst (v := 3) E.1 E.2.1 dX11_singerTold_54 rfl ?_
    refine lv_aload_n E.1 E.2.1 dX11_singerTold_55 rfl (lv_at hl 3 rfl) ?_
    refine q_gs E w 3 t_v0 fl_RX11_17 dX11_singerTold_56 ?_
    refine lv_iconst (v := 2) E.1 E.2.1 dX11_singerTold_59 rfl ?_
    obtain ⟨b14, hf⟩ := q_if hf
    refine q_iald E w ((lay_11_11 t_v0).1) ((lay_11_11 t_v0).2) b14 dX11_singerTold_60 ?_
    refine lv_imul E.1 E.2.1 dX11_singerTold_61 ?_
    refine lv_iadd E.1 E.2.1 dX11_singerTold_62 ?_
    refine lv_istore (lv' := [(5, .int (49 + (3 * (h11.1 (v0 + 3) (2 : Int32).toNatClampNeg)))), (4, .int r10), (3, .int r7), (2, .int r4), (0, .ref (ad G v0))]) E.1 E.2.1 dX11_singerTold_63 hl (by decide) rfl (fun ls hl => ?_)
    refine lv_aload_n E.1 E.2.1 dX11_singerTold_65 rfl (lv_at hl 4 rfl) ?_
    refine q_gs E w 3 t_v0 fl_RX11_17 dX11_singerTold_66 ?_
    refine lv_iload E.1 E.2.1 dX11_singerTold_69 (lv_at hl 0 rfl) ?_
    refine lv_iload_n E.1 E.2.1 dX11_singerTold_71 rfl (lv_at hl 3 rfl) ?_
    obtain ⟨b15, hf⟩ := q_if hf
    refine p_iast E w ((lay_11_11 t_v0).1) ((lay_11_11 t_v0).2) b15 dX11_singerTold_72 (fun h16 H locs eh w => ?_)
    have hf := sq_e eh hf
    clear eh
    refine lv_aload_n E.1 E.2.1 dX11_singerTold_73 rfl (lv_at hl 4 rfl) ?_
    refine q_gs E w 3 t_v0 fl_RX11_17 dX11_singerTold_74 ?_
    refine lv_iload E.1 E.2.1 dX11_singerTold_77 (lv_at hl 0 rfl) ?_
    refine lv_iconst (v := 1) E.1 E.2.1 dX11_singerTold_79 rfl ?_
    refine lv_iadd E.1 E.2.1 dX11_singerTold_80 ?_
    refine lv_iload_n E.1 E.2.1 dX11_singerTold_81 rfl (lv_at hl 2 rfl) ?_
    obtain ⟨b17, hf⟩ := q_if hf
    refine p_iast E w ((lay_11_11 t_v0).1) ((lay_11_11 t_v0).2) b17 dX11_singerTold_82 (fun h18 H locs eh w => ?_)
    have hf := sq_e eh hf
    clear eh
    refine lv_aload_n E.1 E.2.1 dX11_singerTold_83 rfl (lv_at hl 4 rfl) ?_
    refine q_gs E w 3 t_v0 fl_RX11_17 dX11_singerTold_84 ?_
    refine lv_iload E.1 E.2.1 dX11_singerTold_87 (lv_at hl 0 rfl) ?_
    refine lv_iconst (v := 2) E.1 E.2.1 dX11_singerTold_89 rfl ?_
    refine lv_iadd E.1 E.2.1 dX11_singerTold_90 ?_
    refine lv_iload E.1 E.2.1 dX11_singerTold_91 (lv_at hl 1 rfl) ?_
    obtain ⟨b19, hf⟩ := q_if hf
    refine p_iast E w ((lay_11_11 t_v0).1) ((lay_11_11 t_v0).2) b19 dX11_singerTold_93 (fun h20 H locs eh w => ?_)
    have hf := sq_e eh hf
    clear eh
    refine lv_aload_n E.1 E.2.1 dX11_singerTold_94 rfl (lv_at hl 4 rfl) ?_
    refine q_gs E w 3 t_v0 fl_RX11_17 dX11_singerTold_95 ?_
    refine lv_iconst (v := 2) E.1 E.2.1 dX11_singerTold_98 rfl ?_
    refine lv_dup2_11 E.1 E.2.1 dX11_singerTold_99 rfl rfl ?_
    obtain ⟨b21, hf⟩ := q_if hf
    refine q_iald E w ((lay_11_11 t_v0).1) ((lay_11_11 t_v0).2) b21 dX11_singerTold_100 ?_
    refine lv_iconst (v := 1) E.1 E.2.1 dX11_singerTold_101 rfl ?_
    refine lv_iadd E.1 E.2.1 dX11_singerTold_102 ?_
    obtain ⟨b22, hf⟩ := q_if hf
    refine p_iast E w ((lay_11_11 t_v0).1) ((lay_11_11 t_v0).2) b22 dX11_singerTold_103 (fun h23 H locs eh w => ?_)
    have hf := sq_e eh hf
    clear eh
    have hf := Option.some.inj hf
    subst hf
    exact q_vret E w hr hlk dX11_singerTold_104
  · have hf := q_neg c13 hf
    have hf := Option.some.inj hf
    subst hf
    exact q_vret E w hr hlk dX11_singerTold_51

def X11_singerTold (N : Nat) (h : HS) (v0 : Nat) (v1 : Int32) : Option HS := (if (2 : Int32) < 0 ∨ 81 ≤ (2 : Int32).toNatClampNeg then none else (if (h.1 (v0 + 3) (2 : Int32).toNatClampNeg) < (5 : Int32) then X11_singerTold_b16 N h v0 else bd1 (X11_also N h v0 3 v1) fun h26 => X11_singerTold_b16 N h26 v0))
set_option maxRecDepth 4000 in
set_option maxHeartbeats 2000000 in
theorem X11_singerTold_c {l : Launch} {G : GT} {N : Nat} {h : HS} {v0 : Nat} {v1 : Int32} {z : HS} (t_v0 : sh v0 = 11) (hf : X11_singerTold N h v0 v1 = some z) : CT l G yX11_singerTold cX11_singerTold 6 none 6 142 [.ref (ad G v0), .int v1] h none z := by
  unfold X11_singerTold at hf
  refine CT.of (by decide) (Nat.le_of_ble_eq_true rfl) ?_
  intro p e s m below meth c ls E hr hlk w hl
  have hl : lv_has ls 6 [(0, .ref (ad G v0)), (1, .int v1)] := hl
  refine lv_aload_n E.1 E.2.1 dX11_singerTold_0 rfl (lv_at hl 0 rfl) ?_
  refine q_gs E w 3 t_v0 fl_RX11_17 dX11_singerTold_1 ?_
  refine lv_iconst (v := 2) E.1 E.2.1 dX11_singerTold_4 rfl ?_
  obtain ⟨b1, hf⟩ := q_if hf
  refine q_iald E w ((lay_11_11 t_v0).1) ((lay_11_11 t_v0).2) b1 dX11_singerTold_5 ?_
  refine lv_iconst (v := 5) E.1 E.2.1 dX11_singerTold_6 rfl ?_
  refine lv_icmp_lt (tgt := 16) E.1 E.2.1 dX11_singerTold_7 (by decide) (fun c2 => ?_) (fun c2 => ?_)
  · have hf := q_pos c2 hf
    exact X11_singerTold_b16_w E hr hlk hf w t_v0 (lv_sub hl [0] rfl)
  · have hf := q_neg c2 hf
    refine lv_aload_n E.1 E.2.1 dX11_singerTold_10 rfl (lv_at hl 0 rfl) ?_
    refine lv_iconst (v := 3) E.1 E.2.1 dX11_singerTold_11 rfl ?_
    refine lv_iload_n E.1 E.2.1 dX11_singerTold_12 rfl (lv_at hl 1 rfl) ?_
    obtain ⟨h26, hc24, hf⟩ := bd1_e hf
    refine k_Vv (As := [.int 3, .int v1]) (rest := []) E w t_v0 ⟨by decide, rfl⟩ (X11_also_c t_v0 hc24) mv_RX11_127 rfl rfl hl.1 ⟨Nat.le_of_ble_eq_true rfl, Nat.le_of_ble_eq_true rfl⟩ (Nat.le_of_ble_eq_true rfl) ⟨Nat.le_refl _, Nat.le_refl _⟩ dX11_singerTold_13 (fun H locs w => ?_)
    exact X11_singerTold_b16_w E hr hlk hf w t_v0 (lv_sub hl [0] rfl)

def X11_houseLine_b24 (N : Nat) (h : HS) (v0 : Nat) (v1 : Int32) (u0 : Int32) : Option HS := (if u0 = 1 then bd1 (X11_floorTold N h v0 v1) fun h8 => bd1 (X11_endsLine N h8 v0) fun h11 => some h11 else (if u0 = 2 then bd1 (X11_barTold N h v0 v1) fun h15 => bd1 (X11_endsLine N h15 v0) fun h18 => some h18 else (if u0 = 3 then bd1 (X11_singerTold N h v0 v1) fun h22 => bd1 (X11_endsLine N h22 v0) fun h25 => some h25 else (if u0 = 4 then bd2 (X11_numbered N h v0 0 9) fun r28 h29 => (if (3 : Int32) < 0 ∨ 81 ≤ (3 : Int32).toNatClampNeg then none else sq (wi h29 (v0 + 3) (3 : Int32).toNatClampNeg r28) fun h31 => bd1 (X11_endsLine N h31 v0) fun h34 => some h34) else (if u0 = 5 then bd2 (X11_numbered N h v0 0 7) fun r37 h38 => (if r37 ≤ (h38.1 v0 10) then sq (wi h38 v0 10 (h38.1 v0 10)) fun h40 => (if (4 : Int32) < 0 ∨ 81 ≤ (4 : Int32).toNatClampNeg then none else (if (4 : Int32) < 0 ∨ 81 ≤ (4 : Int32).toNatClampNeg then none else sq (wi h40 (v0 + 3) (4 : Int32).toNatClampNeg ((h40.1 (v0 + 3) (4 : Int32).toNatClampNeg) ||| ((1 : Int32) <<< (r37 &&& 31)))) fun h43 => bd1 (X11_endsLine N h43 v0) fun h46 => some h46)) else sq (wi h38 v0 10 r37) fun h47 => (if (4 : Int32) < 0 ∨ 81 ≤ (4 : Int32).toNatClampNeg then none else (if (4 : Int32) < 0 ∨ 81 ≤ (4 : Int32).toNatClampNeg then none else sq (wi h47 (v0 + 3) (4 : Int32).toNatClampNeg ((h47.1 (v0 + 3) (4 : Int32).toNatClampNeg) ||| ((1 : Int32) <<< (r37 &&& 31)))) fun h50 => bd1 (X11_endsLine N h50 v0) fun h53 => some h53))) else bd1 (X11_endsLine N h v0) fun h56 => some h56)))))
set_option maxRecDepth 4000 in
set_option maxHeartbeats 2000000 in
theorem X11_houseLine_b24_w {p : Program} {l : Launch} {e : Env} {s : State} {m : MethodId} {args : Array Value} {below : List Frame} {meth : Method} {c : Code} {G : GT} {N : Nat} {z : HS} {h : HS} (E : CallFix p m c cX11_houseLine 4 s args UW RX11) (hr : meth.sig.returnType = none) (hlk : meth.locks = false) {H : Heap} {locs : List Loc} {ls : Array Slot} {v0 : Nat} {v1 : Int32} {u0 : Int32} (hf : X11_houseLine_b24 N h v0 v1 u0 = some z) (w : WD G s h H locs) (t_v0 : sh v0 = 11) (hl : lv_has ls 4 [(0, .ref (ad G v0)), (1, .int v1)]) : W p l e ({ frames := 7, cells := 0, slots := 0, locals := 167 } : Room) s m args below meth c H locs 0 0 (MQ below (QC G none z) args s 0 0 (AD G)) (F0 m 24 ls [.int u0]) := by
  unfold X11_houseLine_b24 at hf
  by_cases c5 : u0 = 1
  · have hf := q_pos c5 hf
    refine lv_tableIn (off := 36) (tgt := 60) E.1 E.2.1 dX11_houseLine_24 (by rw [c5]; decide) (by rw [c5]; decide) (by rw [c5]; rfl) (by decide) ?_
    refine lv_aload_n E.1 E.2.1 dX11_houseLine_60 rfl (lv_at hl 0 rfl) ?_
    refine lv_iload_n E.1 E.2.1 dX11_houseLine_61 rfl (lv_at hl 1 rfl) ?_
    obtain ⟨h8, hc6, hf⟩ := bd1_e hf
    refine k_Vv (As := [.int v1]) (rest := []) E w t_v0 ⟨by decide, rfl⟩ (X11_floorTold_c t_v0 hc6) mv_RX11_147 rfl rfl hl.1 ⟨Nat.le_of_ble_eq_true rfl, Nat.le_of_ble_eq_true rfl⟩ (Nat.le_of_ble_eq_true rfl) ⟨Nat.le_refl _, Nat.le_refl _⟩ dX11_houseLine_62 (fun H locs w => ?_)
    refine lv_goto (tgt := 143) E.1 E.2.1 dX11_houseLine_65 (by decide) ?_
    refine lv_aload_n E.1 E.2.1 dX11_houseLine_143 rfl (lv_at hl 0 rfl) ?_
    obtain ⟨h11, hc9, hf⟩ := bd1_e hf
    refine k_Vv (As := []) (rest := []) E w t_v0 ⟨by decide, rfl⟩ (X11_endsLine_c t_v0 hc9) mv_RX11_160 rfl rfl hl.1 ⟨Nat.le_of_ble_eq_true rfl, Nat.le_of_ble_eq_true rfl⟩ (Nat.le_of_ble_eq_true rfl) ⟨Nat.le_refl _, Nat.le_refl _⟩ dX11_houseLine_144 (fun H locs w => ?_)
    have hf := Option.some.inj hf
    subst hf
    exact q_vret E w hr hlk dX11_houseLine_147
  have hf := q_neg c5 hf
  by_cases c12 : u0 = 2
  · have hf := q_pos c12 hf
    refine lv_tableIn (off := 44) (tgt := 68) E.1 E.2.1 dX11_houseLine_24 (by rw [c12]; decide) (by rw [c12]; decide) (by rw [c12]; rfl) (by decide) ?_
    refine lv_aload_n E.1 E.2.1 dX11_houseLine_68 rfl (lv_at hl 0 rfl) ?_
    refine lv_iload_n E.1 E.2.1 dX11_houseLine_69 rfl (lv_at hl 1 rfl) ?_
    obtain ⟨h15, hc13, hf⟩ := bd1_e hf
    refine k_Vv (As := [.int v1]) (rest := []) E w t_v0 ⟨by decide, rfl⟩ (X11_barTold_c t_v0 hc13) mv_RX11_151 rfl rfl hl.1 ⟨Nat.le_of_ble_eq_true rfl, Nat.le_of_ble_eq_true rfl⟩ (Nat.le_of_ble_eq_true rfl) ⟨Nat.le_refl _, Nat.le_refl _⟩ dX11_houseLine_70 (fun H locs w => ?_)
    refine lv_goto (tgt := 143) E.1 E.2.1 dX11_houseLine_73 (by decide) ?_
    refine lv_aload_n E.1 E.2.1 dX11_houseLine_143 rfl (lv_at hl 0 rfl) ?_
    obtain ⟨h18, hc16, hf⟩ := bd1_e hf
    refine k_Vv (As := []) (rest := []) E w t_v0 ⟨by decide, rfl⟩ (X11_endsLine_c t_v0 hc16) mv_RX11_160 rfl rfl hl.1 ⟨Nat.le_of_ble_eq_true rfl, Nat.le_of_ble_eq_true rfl⟩ (Nat.le_of_ble_eq_true rfl) ⟨Nat.le_refl _, Nat.le_refl _⟩ dX11_houseLine_144 (fun H locs w => ?_)
    have hf := Option.some.inj hf
    subst hf
    exact q_vret E w hr hlk dX11_houseLine_147
  have hf := q_neg c12 hf
  by_cases c19 : u0 = 3
  · have hf := q_pos c19 hf
    refine lv_tableIn (off := 52) (tgt := 76) E.1 E.2.1 dX11_houseLine_24 (by rw [c19]; decide) (by rw [c19]; decide) (by rw [c19]; rfl) (by decide) ?_
    refine lv_aload_n E.1 E.2.1 dX11_houseLine_76 rfl (lv_at hl 0 rfl) ?_
    refine lv_iload_n E.1 E.2.1 dX11_houseLine_77 rfl (lv_at hl 1 rfl) ?_
    obtain ⟨h22, hc20, hf⟩ := bd1_e hf
    refine k_Vv (As := [.int v1]) (rest := []) E w t_v0 ⟨by decide, rfl⟩ (X11_singerTold_c t_v0 hc20) mv_RX11_154 rfl rfl hl.1 ⟨Nat.le_of_ble_eq_true rfl, Nat.le_of_ble_eq_true rfl⟩ (Nat.le_of_ble_eq_true rfl) ⟨Nat.le_refl _, Nat.le_refl _⟩ dX11_houseLine_78 (fun H locs w => ?_)
    refine lv_goto (tgt := 143) E.1 E.2.1 dX11_houseLine_81 (by decide) ?_
    refine lv_aload_n E.1 E.2.1 dX11_houseLine_143 rfl (lv_at hl 0 rfl) ?_
    obtain ⟨h25, hc23, hf⟩ := bd1_e hf
    refine k_Vv (As := []) (rest := []) E w t_v0 ⟨by decide, rfl⟩ (X11_endsLine_c t_v0 hc23) mv_RX11_160 rfl rfl hl.1 ⟨Nat.le_of_ble_eq_true rfl, Nat.le_of_ble_eq_true rfl⟩ (Nat.le_of_ble_eq_true rfl) ⟨Nat.le_refl _, Nat.le_refl _⟩ dX11_houseLine_144 (fun H locs w => ?_)
    have hf := Option.some.inj hf
    subst hf
    exact q_vret E w hr hlk dX11_houseLine_147
  have hf := q_neg c19 hf
  by_cases c26 : u0 = 4
  · have hf := q_pos c26 hf
    refine lv_tableIn (off := 60) (tgt := 84) E.1 E.2.1 dX11_houseLine_24 (by rw [c26]; decide) (by rw [c26]; decide) (by rw [c26]; rfl) (by decide) ?_
    refine lv_aload_n E.1 E.2.1 dX11_houseLine_84 rfl (lv_at hl 0 rfl) ?_
    refine q_gs E w 3 t_v0 fl_RX11_17 dX11_houseLine_85 ?_
    refine lv_iconst (v := 3) E.1 E.2.1 dX11_houseLine_88 rfl ?_
    refine lv_aload_n E.1 E.2.1 dX11_houseLine_89 rfl (lv_at hl 0 rfl) ?_
    refine lv_iconst (v := 0) E.1 E.2.1 dX11_houseLine_90 rfl ?_
    refine lv_bipush (v := 9) E.1 E.2.1 dX11_houseLine_91 rfl ?_
    obtain ⟨r28, h29, hc27, hf⟩ := bd2_e hf
    refine k_Vi (As := [.int 0, .int 9]) (rest := [.int 3, .ref (ad G (v0 + 3))]) E w t_v0 ⟨by decide, rfl⟩ (X11_numbered_c t_v0 hc27) mv_RX11_134 rfl rfl hl.1 ⟨Nat.le_of_ble_eq_true rfl, Nat.le_of_ble_eq_true rfl⟩ (Nat.le_of_ble_eq_true rfl) ⟨Nat.le_refl _, Nat.le_refl _⟩ dX11_houseLine_93 (fun H locs w => ?_)
    obtain ⟨b30, hf⟩ := q_if hf
    refine p_iast E w ((lay_11_11 t_v0).1) ((lay_11_11 t_v0).2) b30 dX11_houseLine_96 (fun h31 H locs eh w => ?_)
    have hf := sq_e eh hf
    clear eh
    refine lv_goto (tgt := 143) E.1 E.2.1 dX11_houseLine_97 (by decide) ?_
    refine lv_aload_n E.1 E.2.1 dX11_houseLine_143 rfl (lv_at hl 0 rfl) ?_
    obtain ⟨h34, hc32, hf⟩ := bd1_e hf
    refine k_Vv (As := []) (rest := []) E w t_v0 ⟨by decide, rfl⟩ (X11_endsLine_c t_v0 hc32) mv_RX11_160 rfl rfl hl.1 ⟨Nat.le_of_ble_eq_true rfl, Nat.le_of_ble_eq_true rfl⟩ (Nat.le_of_ble_eq_true rfl) ⟨Nat.le_refl _, Nat.le_refl _⟩ dX11_houseLine_144 (fun H locs w => ?_)
    have hf := Option.some.inj hf
    subst hf
    exact q_vret E w hr hlk dX11_houseLine_147
  have hf := q_neg c26 hf
  by_cases c35 : u0 = 5
  · have hf := q_pos c35 hf
    refine lv_tableIn (off := 76) (tgt := 100) E.1 E.2.1 dX11_houseLine_24 (by rw [c35]; decide) (by rw [c35]; decide) (by rw [c35]; rfl) (by decide) ?_
    refine lv_aload_n E.1 E.2.1 dX11_houseLine_100 rfl (lv_at hl 0 rfl) ?_
    refine lv_iconst (v := 0) E.1 E.2.1 dX11_houseLine_101 rfl ?_
    refine lv_bipush (v := 7) E.1 E.2.1 dX11_houseLine_102 rfl ?_
    obtain ⟨r37, h38, hc36, hf⟩ := bd2_e hf
    refine k_Vi (As := [.int 0, .int 7]) (rest := []) E w t_v0 ⟨by decide, rfl⟩ (X11_numbered_c t_v0 hc36) mv_RX11_134 rfl rfl hl.1 ⟨Nat.le_of_ble_eq_true rfl, Nat.le_of_ble_eq_true rfl⟩ (Nat.le_of_ble_eq_true rfl) ⟨Nat.le_refl _, Nat.le_refl _⟩ dX11_houseLine_104 (fun H locs w => ?_)
    refine lv_istore_n (lv' := [(3, .int r37), (0, .ref (ad G v0)), (1, .int v1)]) E.1 E.2.1 dX11_houseLine_107 rfl hl (by decide) rfl (fun ls hl => ?_)
    refine lv_aload_n E.1 E.2.1 dX11_houseLine_108 rfl (lv_at hl 1 rfl) ?_
    refine lv_iload_n E.1 E.2.1 dX11_houseLine_109 rfl (lv_at hl 0 rfl) ?_
    refine lv_aload_n E.1 E.2.1 dX11_houseLine_110 rfl (lv_at hl 1 rfl) ?_
    refine q_gi E w t_v0 fl_RX11_157 dX11_houseLine_111 ?_
    refine lv_icmp_le (tgt := 121) E.1 E.2.1 dX11_houseLine_114 (by decide) (fun c39 => ?_) (fun c39 => ?_)
    · have hf := q_pos c39 hf
      refine lv_aload_n E.1 E.2.1 dX11_houseLine_121 rfl (lv_at hl 1 rfl) ?_
      refine q_gi E w t_v0 fl_RX11_157 dX11_houseLine_122 ?_
      refine p_pi E w t_v0 fl_RX11_157 (fp_11_10 _) dX11_houseLine_125 (fun h40 H locs eh w => ?_)
      have hf := sq_e eh hf
      clear eh
      refine lv_aload_n E.1 E.2.1 dX11_houseLine_128 rfl (lv_at hl 1 rfl) ?_
      refine q_gs E w 3 t_v0 fl_RX11_17 dX11_houseLine_129 ?_
      refine lv_iconst (v := 4) E.1 E.2.1 dX11_houseLine_132 rfl ?_
      refine lv_dup2_11 E.1 E.2.1 dX11_houseLine_133 rfl rfl ?_
      obtain ⟨b41, hf⟩ := q_if hf
      refine q_iald E w ((lay_11_11 t_v0).1) ((lay_11_11 t_v0).2) b41 dX11_houseLine_134 ?_
      refine lv_iconst (v := 1) E.1 E.2.1 dX11_houseLine_135 rfl ?_
      refine lv_iload_n E.1 E.2.1 dX11_houseLine_136 rfl (lv_at hl 0 rfl) ?_
      refine lv_ishl E.1 E.2.1 dX11_houseLine_137 ?_
      refine lv_ior E.1 E.2.1 dX11_houseLine_138 ?_
      obtain ⟨b42, hf⟩ := q_if hf
      refine p_iast E w ((lay_11_11 t_v0).1) ((lay_11_11 t_v0).2) b42 dX11_houseLine_139 (fun h43 H locs eh w => ?_)
      have hf := sq_e eh hf
      clear eh
      refine lv_goto (tgt := 143) E.1 E.2.1 dX11_houseLine_140 (by decide) ?_
      refine lv_aload_n E.1 E.2.1 dX11_houseLine_143 rfl (lv_at hl 1 rfl) ?_
      obtain ⟨h46, hc44, hf⟩ := bd1_e hf
      refine k_Vv (As := []) (rest := []) E w t_v0 ⟨by decide, rfl⟩ (X11_endsLine_c t_v0 hc44) mv_RX11_160 rfl rfl hl.1 ⟨Nat.le_of_ble_eq_true rfl, Nat.le_of_ble_eq_true rfl⟩ (Nat.le_of_ble_eq_true rfl) ⟨Nat.le_refl _, Nat.le_refl _⟩ dX11_houseLine_144 (fun H locs w => ?_)
      have hf := Option.some.inj hf
      subst hf
      exact q_vret E w hr hlk dX11_houseLine_147
    · have hf := q_neg c39 hf
      refine lv_iload_n E.1 E.2.1 dX11_houseLine_117 rfl (lv_at hl 0 rfl) ?_
      refine lv_goto (tgt := 125) E.1 E.2.1 dX11_houseLine_118 (by decide) ?_
      refine p_pi E w t_v0 fl_RX11_157 (fp_11_10 _) dX11_houseLine_125 (fun h47 H locs eh w => ?_)
      have hf := sq_e eh hf
      clear eh
      refine lv_aload_n E.1 E.2.1 dX11_houseLine_128 rfl (lv_at hl 1 rfl) ?_
      refine q_gs E w 3 t_v0 fl_RX11_17 dX11_houseLine_129 ?_
      refine lv_iconst (v := 4) E.1 E.2.1 dX11_houseLine_132 rfl ?_
      refine lv_dup2_11 E.1 E.2.1 dX11_houseLine_133 rfl rfl ?_
      obtain ⟨b48, hf⟩ := q_if hf
      refine q_iald E w ((lay_11_11 t_v0).1) ((lay_11_11 t_v0).2) b48 dX11_houseLine_134 ?_
      refine lv_iconst (v := 1) E.1 E.2.1 dX11_houseLine_135 rfl ?_
      refine lv_iload_n E.1 E.2.1 dX11_houseLine_136 rfl (lv_at hl 0 rfl) ?_
      refine lv_ishl E.1 E.2.1 dX11_houseLine_137 ?_
      refine lv_ior E.1 E.2.1 dX11_houseLine_138 ?_
      obtain ⟨b49, hf⟩ := q_if hf
      refine p_iast E w ((lay_11_11 t_v0).1) ((lay_11_11 t_v0).2) b49 dX11_houseLine_139 (fun h50 H locs eh w => ?_)
      have hf := sq_e eh hf
      clear eh
      refine lv_goto (tgt := 143) E.1 E.2.1 dX11_houseLine_140 (by decide) ?_
      refine lv_aload_n E.1 E.2.1 dX11_houseLine_143 rfl (lv_at hl 1 rfl) ?_
      obtain ⟨h53, hc51, hf⟩ := bd1_e hf
      refine k_Vv (As := []) (rest := []) E w t_v0 ⟨by decide, rfl⟩ (X11_endsLine_c t_v0 hc51) mv_RX11_160 rfl rfl hl.1 ⟨Nat.le_of_ble_eq_true rfl, Nat.le_of_ble_eq_true rfl⟩ (Nat.le_of_ble_eq_true rfl) ⟨Nat.le_refl _, Nat.le_refl _⟩ dX11_houseLine_144 (fun H locs w => ?_)
      have hf := Option.some.inj hf
      subst hf
      exact q_vret E w hr hlk dX11_houseLine_147
  have hf := q_neg c35 hf
  refine lv_tableOut (tgt := 143) E.1 E.2.1 dX11_houseLine_24 (by have := ne_i c5 (z := 1) (by decide); have := ne_i c12 (z := 2) (by decide); have := ne_i c19 (z := 3) (by decide); have := ne_i c26 (z := 4) (by decide); have := ne_i c35 (z := 5) (by decide); omega) (by decide) ?_
  refine lv_aload_n E.1 E.2.1 dX11_houseLine_143 rfl (lv_at hl 0 rfl) ?_
  obtain ⟨h56, hc54, hf⟩ := bd1_e hf
  refine k_Vv (As := []) (rest := []) E w t_v0 ⟨by decide, rfl⟩ (X11_endsLine_c t_v0 hc54) mv_RX11_160 rfl rfl hl.1 ⟨Nat.le_of_ble_eq_true rfl, Nat.le_of_ble_eq_true rfl⟩ (Nat.le_of_ble_eq_true rfl) ⟨Nat.le_refl _, Nat.le_refl _⟩ dX11_houseLine_144 (fun H locs w => ?_)
  have hf := Option.some.inj hf
  subst hf
  exact q_vret E w hr hlk dX11_houseLine_147

def X11_houseLine (N : Nat) (h : HS) (v0 : Nat) : Option HS := bd2 (X11_wordIn N h v0 1 5) fun r2 h3 => (if (h3.1 v0 8) = 0 then X11_houseLine_b24 N h3 v0 (h.1 v0 4) r2 else X11_houseLine_b24 N h3 v0 (h.1 v0 4) 0)
set_option maxRecDepth 4000 in
set_option maxHeartbeats 2000000 in
theorem X11_houseLine_c {l : Launch} {G : GT} {N : Nat} {h : HS} {v0 : Nat} {z : HS} (t_v0 : sh v0 = 11) (hf : X11_houseLine N h v0 = some z) : CT l G yX11_houseLine cX11_houseLine 4 none 7 167 [.ref (ad G v0)] h none z := by
  unfold X11_houseLine at hf
  refine CT.of (by decide) (Nat.le_of_ble_eq_true rfl) ?_
  intro p e s m below meth c ls E hr hlk w hl
  have hl : lv_has ls 4 [(0, .ref (ad G v0))] := hl
  refine lv_aload_n E.1 E.2.1 dX11_houseLine_0 rfl (lv_at hl 0 rfl) ?_
  refine q_gi E w t_v0 fl_RX11_89 dX11_houseLine_1 ?_
  refine lv_istore_n (lv' := [(1, .int (h.1 v0 4)), (0, .ref (ad G v0))]) E.1 E.2.1 dX11_houseLine_4 rfl hl (by decide) rfl (fun ls hl => ?_)
  refine lv_aload_n E.1 E.2.1 dX11_houseLine_5 rfl (lv_at hl 1 rfl) ?_
  refine lv_iconst (v := 1) E.1 E.2.1 dX11_houseLine_6 rfl ?_
  refine lv_iconst (v := 5) E.1 E.2.1 dX11_houseLine_7 rfl ?_
  obtain ⟨r2, h3, hc1, hf⟩ := bd2_e hf
  refine k_Vi (As := [.int 1, .int 5]) (rest := []) E w t_v0 ⟨by decide, rfl⟩ (X11_wordIn_c t_v0 hc1) mv_RX11_144 rfl rfl hl.1 ⟨Nat.le_of_ble_eq_true rfl, Nat.le_of_ble_eq_true rfl⟩ (Nat.le_of_ble_eq_true rfl) ⟨Nat.le_refl _, Nat.le_refl _⟩ dX11_houseLine_8 (fun H locs w => ?_)
  refine lv_istore_n (lv' := [(2, .int r2), (1, .int (h.1 v0 4)), (0, .ref (ad G v0))]) E.1 E.2.1 dX11_houseLine_11 rfl hl (by decide) rfl (fun ls hl => ?_)
  refine lv_aload_n E.1 E.2.1 dX11_houseLine_12 rfl (lv_at hl 2 rfl) ?_
  refine q_gi E w t_v0 fl_RX11_116 dX11_houseLine_13 ?_
  refine lv_if_eq (tgt := 23) E.1 E.2.1 dX11_houseLine_16 (by decide) (fun c4 => ?_) (fun c4 => ?_)
  · have hf := q_pos c4 hf
    refine lv_iload_n E.1 E.2.1 dX11_houseLine_23 rfl (lv_at hl 0 rfl) ?_
    exact X11_houseLine_b24_w E hr hlk hf w t_v0 (lv_sub hl [2, 1] rfl)
  · have hf := q_neg c4 hf
    refine lv_iconst (v := 0) E.1 E.2.1 dX11_houseLine_19 rfl ?_
    refine lv_goto (tgt := 24) E.1 E.2.1 dX11_houseLine_20 (by decide) ?_
    exact X11_houseLine_b24_w E hr hlk hf w t_v0 (lv_sub hl [2, 1] rfl)

def X11_nightsLine_b56 (N : Nat) (h : HS) (v0 : Nat) (v2 : Int32) (u0 : Int32) : Option HS := (if (0 : Int32) < 0 ∨ 81 ≤ (0 : Int32).toNatClampNeg then none else (if (40 : Int32) ≤ (h.1 (v0 + 3) (0 : Int32).toNatClampNeg) then bd1 (X11_endsLine N h v0) fun h10 => some h10 else (if (0 : Int32) < 0 ∨ 81 ≤ (0 : Int32).toNatClampNeg then none else (if (1 + (2 * (h.1 (v0 + 3) (0 : Int32).toNatClampNeg))) < 0 ∨ 81 ≤ (1 + (2 * (h.1 (v0 + 3) (0 : Int32).toNatClampNeg))).toNatClampNeg then none else sq (wi h (v0 + 3) (1 + (2 * (h.1 (v0 + 3) (0 : Int32).toNatClampNeg))).toNatClampNeg v2) fun h13 => (if (0 : Int32) < 0 ∨ 81 ≤ (0 : Int32).toNatClampNeg then none else (if (2 + (2 * (h13.1 (v0 + 3) (0 : Int32).toNatClampNeg))) < 0 ∨ 81 ≤ (2 + (2 * (h13.1 (v0 + 3) (0 : Int32).toNatClampNeg))).toNatClampNeg then none else sq (wi h13 (v0 + 3) (2 + (2 * (h13.1 (v0 + 3) (0 : Int32).toNatClampNeg))).toNatClampNeg u0) fun h16 => (if (0 : Int32) < 0 ∨ 81 ≤ (0 : Int32).toNatClampNeg then none else (if (0 : Int32) < 0 ∨ 81 ≤ (0 : Int32).toNatClampNeg then none else sq (wi h16 (v0 + 3) (0 : Int32).toNatClampNeg ((h16.1 (v0 + 3) (0 : Int32).toNatClampNeg) + 1)) fun h19 => bd1 (X11_endsLine N h19 v0) fun h22 => some h22))))))))
set_option maxRecDepth 4000 in
set_option maxHeartbeats 2000000 in
theorem X11_nightsLine_b56_w {p : Program} {l : Launch} {e : Env} {s : State} {m : MethodId} {args : Array Value} {below : List Frame} {meth : Method} {c : Code} {G : GT} {N : Nat} {z : HS} {h : HS} (E : CallFix p m c cX11_nightsLine 4 s args UW RX11) (hr : meth.sig.returnType = none) (hlk : meth.locks = false) {H : Heap} {locs : List Loc} {ls : Array Slot} {v0 : Nat} {v2 : Int32} {u0 : Int32} (hf : X11_nightsLine_b56 N h v0 v2 u0 = some z) (w : WD G s h H locs) (t_v0 : sh v0 = 11) (hl : lv_has ls 4 [(0, .ref (ad G v0)), (2, .int v2)]) : W p l e ({ frames := 5, cells := 0, slots := 0, locals := 117 } : Room) s m args below meth c H locs 0 0 (MQ below (QC G none z) args s 0 0 (AD G)) (F0 m 56 ls [.int u0]) := by
  unfold X11_nightsLine_b56 at hf
  refine lv_istore_n (lv' := [(3, .int u0), (0, .ref (ad G v0)), (2, .int v2)]) E.1 E.2.1 dX11_nightsLine_56 rfl hl (by decide) rfl (fun ls hl => ?_)
  refine lv_aload_n E.1 E.2.1 dX11_nightsLine_57 rfl (lv_at hl 1 rfl) ?_
  refine q_gs E w 3 t_v0 fl_RX11_17 dX11_nightsLine_58 ?_
  refine lv_iconst (v := 0) E.1 E.2.1 dX11_nightsLine_61 rfl ?_
  obtain ⟨b6, hf⟩ := q_if hf
  refine q_iald E w ((lay_11_11 t_v0).1) ((lay_11_11 t_v0).2) b6 dX11_nightsLine_62 ?_
  refine lv_bipush (v := 40) E.1 E.2.1 dX11_nightsLine_63 rfl ?_
  refine lv_icmp_ge (tgt := 110) E.1 E.2.1 dX11_nightsLine_65 (by decide) (fun c7 => ?_) (fun c7 => ?_)
  · have hf := q_pos c7 hf
    refine lv_aload_n E.1 E.2.1 dX11_nightsLine_110 rfl (lv_at hl 1 rfl) ?_
    obtain ⟨h10, hc8, hf⟩ := bd1_e hf
    refine k_Vv (As := []) (rest := []) E w t_v0 ⟨by decide, rfl⟩ (X11_endsLine_c t_v0 hc8) mv_RX11_160 rfl rfl hl.1 ⟨Nat.le_of_ble_eq_true rfl, Nat.le_of_ble_eq_true rfl⟩ (Nat.le_of_ble_eq_true rfl) ⟨Nat.le_refl _, Nat.le_refl _⟩ dX11_nightsLine_111 (fun H locs w => ?_)
    have hf := Option.some.inj hf
    subst hf
    exact q_vret E w hr hlk dX11_nightsLine_114
  · have hf := q_neg c7 hf
    refine lv_aload_n E.1 E.2.1 dX11_nightsLine_68 rfl (lv_at hl 1 rfl) ?_
    refine q_gs E w 3 t_v0 fl_RX11_17 dX11_nightsLine_69 ?_
    refine lv_iconst (v := 1) E.1 E.2.1 dX11_nightsLine_72 rfl ?_
    refine lv_iconst (v := 2) E.1 E.2.1 dX11_nightsLine_73 rfl ?_
    refine lv_aload_n E.1 E.2.1 dX11_nightsLine_74 rfl (lv_at hl 1 rfl) ?_
    refine q_gs E w 3 t_v0 fl_RX11_17 dX11_nightsLine_75 ?_
    refine lv_iconst (v := 0) E.1 E.2.1 dX11_nightsLine_78 rfl ?_
    obtain ⟨b11, hf⟩ := q_if hf
    refine q_iald E w ((lay_11_11 t_v0).1) ((lay_11_11 t_v0).2) b11 dX11_nightsLine_79 ?_
    refine lv_imul E.1 E.2.1 dX11_nightsLine_80 ?_
    refine lv_iadd E.1 E.2.1 dX11_nightsLine_81 ?_
    refine lv_iload_n E.1 E.2.1 dX11_nightsLine_82 rfl (lv_at hl 2 rfl) ?_
    obtain ⟨b12, hf⟩ := q_if hf
    refine p_iast E w ((lay_11_11 t_v0).1) ((lay_11_11 t_v0).2) b12 dX11_nightsLine_83 (fun h13 H locs eh w => ?_)
    have hf := sq_e eh hf
    clear eh
    refine lv_aload_n E.1 E.2.1 dX11_nightsLine_84 rfl (lv_at hl 1 rfl) ?_
    refine q_gs E w 3 t_v0 fl_RX11_17 dX11_nightsLine_85 ?_
    refine lv_iconst (v := 2) E.1 E.2.1 dX11_nightsLine_88 rfl ?_
    refine lv_iconst (v := 2) E.1 E.2.1 dX11_nightsLine_89 rfl ?_
    refine lv_aload_n E.1 E.2.1 dX11_nightsLine_90 rfl (lv_at hl 1 rfl) ?_
    refine q_gs E w 3 t_v0 fl_RX11_17 dX11_nightsLine_91 ?_
    refine lv_iconst (v := 0) E.1 E.2.1 dX11_nightsLine_94 rfl ?_
    obtain ⟨b14, hf⟩ := q_if hf
    refine q_iald E w ((lay_11_11 t_v0).1) ((lay_11_11 t_v0).2) b14 dX11_nightsLine_95 ?_
    refine lv_imul E.1 E.2.1 dX11_nightsLine_96 ?_
    refine lv_iadd E.1 E.2.1 dX11_nightsLine_97 ?_
    refine lv_iload_n E.1 E.2.1 dX11_nightsLine_98 rfl (lv_at hl 0 rfl) ?_
    obtain ⟨b15, hf⟩ := q_if hf
    refine p_iast E w ((lay_11_11 t_v0).1) ((lay_11_11 t_v0).2) b15 dX11_nightsLine_99 (fun h16 H locs eh w => ?_)
    have hf := sq_e eh hf
    clear eh
    refine lv_aload_n E.1 E.2.1 dX11_nightsLine_100 rfl (lv_at hl 1 rfl) ?_
    refine q_gs E w 3 t_v0 fl_RX11_17 dX11_nightsLine_101 ?_
    refine lv_iconst (v := 0) E.1 E.2.1 dX11_nightsLine_104 rfl ?_
    refine lv_dup2_11 E.1 E.2.1 dX11_nightsLine_105 rfl rfl ?_
    obtain ⟨b17, hf⟩ := q_if hf
    refine q_iald E w ((lay_11_11 t_v0).1) ((lay_11_11 t_v0).2) b17 dX11_nightsLine_106 ?_
    refine lv_iconst (v := 1) E.1 E.2.1 dX11_nightsLine_107 rfl ?_
    refine lv_iadd E.1 E.2.1 dX11_nightsLine_108 ?_
    obtain ⟨b18, hf⟩ := q_if hf
    refine p_iast E w ((lay_11_11 t_v0).1) ((lay_11_11 t_v0).2) b18 dX11_nightsLine_109 (fun h19 H locs eh w => ?_)
    have hf := sq_e eh hf
    clear eh
    refine lv_aload_n E.1 E.2.1 dX11_nightsLine_110 rfl (lv_at hl 1 rfl) ?_
    obtain ⟨h22, hc20, hf⟩ := bd1_e hf
    refine k_Vv (As := []) (rest := []) E w t_v0 ⟨by decide, rfl⟩ (X11_endsLine_c t_v0 hc20) mv_RX11_160 rfl rfl hl.1 ⟨Nat.le_of_ble_eq_true rfl, Nat.le_of_ble_eq_true rfl⟩ (Nat.le_of_ble_eq_true rfl) ⟨Nat.le_refl _, Nat.le_refl _⟩ dX11_nightsLine_111 (fun H locs w => ?_)
    have hf := Option.some.inj hf
    subst hf
    exact q_vret E w hr hlk dX11_nightsLine_114

def X11_nightsLine (N : Nat) (h : HS) (v0 : Nat) : Option HS := bd2 (X11_wordIn N h v0 6 10) fun r2 h3 => (if (h3.1 v0 8) = 0 then (if (0 : Int32) < 0 ∨ 81 ≤ (0 : Int32).toNatClampNeg then none else (if (h3.1 (v0 + 3) (0 : Int32).toNatClampNeg) < (40 : Int32) then (if (3 : Int32) ≤ (r2 - 6) then X11_nightsLine_b56 N h3 v0 (r2 - 6) (-1) else bd2 (X11_numbered N h3 v0 0 4) fun r30 h31 => X11_nightsLine_b56 N h31 v0 (r2 - 6) r30) else bd1 (X11_also N h3 v0 3 (h.1 v0 4)) fun h34 => (if (3 : Int32) ≤ (r2 - 6) then X11_nightsLine_b56 N h34 v0 (r2 - 6) (-1) else bd2 (X11_numbered N h34 v0 0 4) fun r37 h38 => X11_nightsLine_b56 N h38 v0 (r2 - 6) r37))) else (if (3 : Int32) ≤ (r2 - 6) then X11_nightsLine_b56 N h3 v0 (r2 - 6) (-1) else bd2 (X11_numbered N h3 v0 0 4) fun r24 h25 => X11_nightsLine_b56 N h25 v0 (r2 - 6) r24))
set_option maxRecDepth 4000 in
set_option maxHeartbeats 2000000 in
theorem X11_nightsLine_c {l : Launch} {G : GT} {N : Nat} {h : HS} {v0 : Nat} {z : HS} (t_v0 : sh v0 = 11) (hf : X11_nightsLine N h v0 = some z) : CT l G yX11_nightsLine cX11_nightsLine 4 none 5 117 [.ref (ad G v0)] h none z := by
  unfold X11_nightsLine at hf
  refine CT.of (by decide) (Nat.le_of_ble_eq_true rfl) ?_
  intro p e s m below meth c ls E hr hlk w hl
  have hl : lv_has ls 4 [(0, .ref (ad G v0))] := hl
  refine lv_aload_n E.1 E.2.1 dX11_nightsLine_0 rfl (lv_at hl 0 rfl) ?_
  refine q_gi E w t_v0 fl_RX11_89 dX11_nightsLine_1 ?_
  refine lv_istore_n (lv' := [(1, .int (h.1 v0 4)), (0, .ref (ad G v0))]) E.1 E.2.1 dX11_nightsLine_4 rfl hl (by decide) rfl (fun ls hl => ?_)
  refine lv_aload_n E.1 E.2.1 dX11_nightsLine_5 rfl (lv_at hl 1 rfl) ?_
  refine lv_bipush (v := 6) E.1 E.2.1 dX11_nightsLine_6 rfl ?_
  refine lv_bipush (v := 10) E.1 E.2.1 dX11_nightsLine_8 rfl ?_
  obtain ⟨r2, h3, hc1, hf⟩ := bd2_e hf
  refine k_Vi (As := [.int 6, .int 10]) (rest := []) E w t_v0 ⟨by decide, rfl⟩ (X11_wordIn_c t_v0 hc1) mv_RX11_144 rfl rfl hl.1 ⟨Nat.le_of_ble_eq_true rfl, Nat.le_of_ble_eq_true rfl⟩ (Nat.le_of_ble_eq_true rfl) ⟨Nat.le_refl _, Nat.le_refl _⟩ dX11_nightsLine_10 (fun H locs w => ?_)
  refine lv_bipush (v := 6) E.1 E.2.1 dX11_nightsLine_13 rfl ?_
  refine lv_isub E.1 E.2.1 dX11_nightsLine_15 ?_
  refine lv_istore_n (lv' := [(2, .int (r2 - 6)), (1, .int (h.1 v0 4)), (0, .ref (ad G v0))]) E.1 E.2.1 dX11_nightsLine_16 rfl hl (by decide) rfl (fun ls hl => ?_)
  refine lv_aload_n E.1 E.2.1 dX11_nightsLine_17 rfl (lv_at hl 2 rfl) ?_
  refine q_gi E w t_v0 fl_RX11_116 dX11_nightsLine_18 ?_
  refine lv_if_ne (tgt := 41) E.1 E.2.1 dX11_nightsLine_21 (by decide) (fun c4 => ?_) (fun c4 => ?_)
  · have hf := q_neg c4 hf
    refine lv_iload_n E.1 E.2.1 dX11_nightsLine_41 rfl (lv_at hl 0 rfl) ?_
    refine lv_iconst (v := 3) E.1 E.2.1 dX11_nightsLine_42 rfl ?_
    refine lv_icmp_ge (tgt := 55) E.1 E.2.1 dX11_nightsLine_43 (by decide) (fun c5 => ?_) (fun c5 => ?_)
    · have hf := q_pos c5 hf
      refine lv_iconst (v := (-1)) E.1 E.2.1 dX11_nightsLine_55 rfl ?_
      exact X11_nightsLine_b56_w E hr hlk hf w t_v0 (lv_sub hl [2, 0] rfl)
    · have hf := q_neg c5 hf
      refine lv_aload_n E.1 E.2.1 dX11_nightsLine_46 rfl (lv_at hl 2 rfl) ?_
      refine lv_iconst (v := 0) E.1 E.2.1 dX11_nightsLine_47 rfl ?_
      refine lv_iconst (v := 4) E.1 E.2.1 dX11_nightsLine_48 rfl ?_
      obtain ⟨r24, h25, hc23, hf⟩ := bd2_e hf
      refine k_Vi (As := [.int 0, .int 4]) (rest := []) E w t_v0 ⟨by decide, rfl⟩ (X11_numbered_c t_v0 hc23) mv_RX11_134 rfl rfl hl.1 ⟨Nat.le_of_ble_eq_true rfl, Nat.le_of_ble_eq_true rfl⟩ (Nat.le_of_ble_eq_true rfl) ⟨Nat.le_refl _, Nat.le_refl _⟩ dX11_nightsLine_49 (fun H locs w => ?_)
      refine lv_goto (tgt := 56) E.1 E.2.1 dX11_nightsLine_52 (by decide) ?_
      exact X11_nightsLine_b56_w E hr hlk hf w t_v0 (lv_sub hl [2, 0] rfl)
  · have hf := q_pos c4 hf
    refine lv_aload_n E.1 E.2.1 dX11_nightsLine_24 rfl (lv_at hl 2 rfl) ?_
    refine q_gs E w 3 t_v0 fl_RX11_17 dX11_nightsLine_25 ?_
    refine lv_iconst (v := 0) E.1 E.2.1 dX11_nightsLine_28 rfl ?_
    obtain ⟨b26, hf⟩ := q_if hf
    refine q_iald E w ((lay_11_11 t_v0).1) ((lay_11_11 t_v0).2) b26 dX11_nightsLine_29 ?_
    refine lv_bipush (v := 40) E.1 E.2.1 dX11_nightsLine_30 rfl ?_
    refine lv_icmp_lt (tgt := 41) E.1 E.2.1 dX11_nightsLine_32 (by decide) (fun c27 => ?_) (fun c27 => ?_)
    · have hf := q_pos c27 hf
      refine lv_iload_n E.1 E.2.1 dX11_nightsLine_41 rfl (lv_at hl 0 rfl) ?_
      refine lv_iconst (v := 3) E.1 E.2.1 dX11_nightsLine_42 rfl ?_
      refine lv_icmp_ge (tgt := 55) E.1 E.2.1 dX11_nightsLine_43 (by decide) (fun c28 => ?_) (fun c28 => ?_)
      · have hf := q_pos c28 hf
        refine lv_iconst (v := (-1)) E.1 E.2.1 dX11_nightsLine_55 rfl ?_
        exact X11_nightsLine_b56_w E hr hlk hf w t_v0 (lv_sub hl [2, 0] rfl)
      · have hf := q_neg c28 hf
        refine lv_aload_n E.1 E.2.1 dX11_nightsLine_46 rfl (lv_at hl 2 rfl) ?_
        refine lv_iconst (v := 0) E.1 E.2.1 dX11_nightsLine_47 rfl ?_
        refine lv_iconst (v := 4) E.1 E.2.1 dX11_nightsLine_48 rfl ?_
        obtain ⟨r30, h31, hc29, hf⟩ := bd2_e hf
        refine k_Vi (As := [.int 0, .int 4]) (rest := []) E w t_v0 ⟨by decide, rfl⟩ (X11_numbered_c t_v0 hc29) mv_RX11_134 rfl rfl hl.1 ⟨Nat.le_of_ble_eq_true rfl, Nat.le_of_ble_eq_true rfl⟩ (Nat.le_of_ble_eq_true rfl) ⟨Nat.le_refl _, Nat.le_refl _⟩ dX11_nightsLine_49 (fun H locs w => ?_)
        refine lv_goto (tgt := 56) E.1 E.2.1 dX11_nightsLine_52 (by decide) ?_
        exact X11_nightsLine_b56_w E hr hlk hf w t_v0 (lv_sub hl [2, 0] rfl)
    · have hf := q_neg c27 hf
      refine lv_aload_n E.1 E.2.1 dX11_nightsLine_35 rfl (lv_at hl 2 rfl) ?_
      refine lv_iconst (v := 3) E.1 E.2.1 dX11_nightsLine_36 rfl ?_
      refine lv_iload_n E.1 E.2.1 dX11_nightsLine_37 rfl (lv_at hl 1 rfl) ?_
      obtain ⟨h34, hc32, hf⟩ := bd1_e hf
      refine k_Vv (As := [.int 3, .int (h.1 v0 4)]) (rest := []) E w t_v0 ⟨by decide, rfl⟩ (X11_also_c t_v0 hc32) mv_RX11_127 rfl rfl hl.1 ⟨Nat.le_of_ble_eq_true rfl, Nat.le_of_ble_eq_true rfl⟩ (Nat.le_of_ble_eq_true rfl) ⟨Nat.le_refl _, Nat.le_refl _⟩ dX11_nightsLine_38 (fun H locs w => ?_)
      refine lv_iload_n E.1 E.2.1 dX11_nightsLine_41 rfl (lv_at hl 0 rfl) ?_
      refine lv_iconst (v := 3) E.1 E.2.1 dX11_nightsLine_42 rfl ?_
      refine lv_icmp_ge (tgt := 55) E.1 E.2.1 dX11_nightsLine_43 (by decide) (fun c35 => ?_) (fun c35 => ?_)
      · have hf := q_pos c35 hf
        refine lv_iconst (v := (-1)) E.1 E.2.1 dX11_nightsLine_55 rfl ?_
        exact X11_nightsLine_b56_w E hr hlk hf w t_v0 (lv_sub hl [2, 0] rfl)
      · have hf := q_neg c35 hf
        refine lv_aload_n E.1 E.2.1 dX11_nightsLine_46 rfl (lv_at hl 2 rfl) ?_
        refine lv_iconst (v := 0) E.1 E.2.1 dX11_nightsLine_47 rfl ?_
        refine lv_iconst (v := 4) E.1 E.2.1 dX11_nightsLine_48 rfl ?_
        obtain ⟨r37, h38, hc36, hf⟩ := bd2_e hf
        refine k_Vi (As := [.int 0, .int 4]) (rest := []) E w t_v0 ⟨by decide, rfl⟩ (X11_numbered_c t_v0 hc36) mv_RX11_134 rfl rfl hl.1 ⟨Nat.le_of_ble_eq_true rfl, Nat.le_of_ble_eq_true rfl⟩ (Nat.le_of_ble_eq_true rfl) ⟨Nat.le_refl _, Nat.le_refl _⟩ dX11_nightsLine_49 (fun H locs w => ?_)
        refine lv_goto (tgt := 56) E.1 E.2.1 dX11_nightsLine_52 (by decide) ?_
        exact X11_nightsLine_b56_w E hr hlk hf w t_v0 (lv_sub hl [2, 0] rfl)

def X11_morningsLine_b41 (N : Nat) (h : HS) (v0 : Nat) (v2 : Int32) : Option HS := bd2 (X11_numbered N h v0 0 5) fun r6 h7 => (if (0 : Int32) < 0 ∨ 81 ≤ (0 : Int32).toNatClampNeg then none else (if (8 : Int32) ≤ (h7.1 (v0 + 3) (0 : Int32).toNatClampNeg) then bd1 (X11_endsLine N h7 v0) fun h12 => some h12 else (if (0 : Int32) < 0 ∨ 81 ≤ (0 : Int32).toNatClampNeg then none else (if (1 + (2 * (h7.1 (v0 + 3) (0 : Int32).toNatClampNeg))) < 0 ∨ 81 ≤ (1 + (2 * (h7.1 (v0 + 3) (0 : Int32).toNatClampNeg))).toNatClampNeg then none else sq (wi h7 (v0 + 3) (1 + (2 * (h7.1 (v0 + 3) (0 : Int32).toNatClampNeg))).toNatClampNeg v2) fun h15 => (if (0 : Int32) < 0 ∨ 81 ≤ (0 : Int32).toNatClampNeg then none else (if (2 + (2 * (h15.1 (v0 + 3) (0 : Int32).toNatClampNeg))) < 0 ∨ 81 ≤ (2 + (2 * (h15.1 (v0 + 3) (0 : Int32).toNatClampNeg))).toNatClampNeg then none else sq (wi h15 (v0 + 3) (2 + (2 * (h15.1 (v0 + 3) (0 : Int32).toNatClampNeg))).toNatClampNeg r6) fun h18 => (if (0 : Int32) < 0 ∨ 81 ≤ (0 : Int32).toNatClampNeg then none else (if (0 : Int32) < 0 ∨ 81 ≤ (0 : Int32).toNatClampNeg then none else sq (wi h18 (v0 + 3) (0 : Int32).toNatClampNeg ((h18.1 (v0 + 3) (0 : Int32).toNatClampNeg) + 1)) fun h21 => bd1 (X11_endsLine N h21 v0) fun h24 => some h24))))))))
set_option maxRecDepth 4000 in
set_option maxHeartbeats 2000000 in
theorem X11_morningsLine_b41_w {p : Program} {l : Launch} {e : Env} {s : State} {m : MethodId} {args : Array Value} {below : List Frame} {meth : Method} {c : Code} {G : GT} {N : Nat} {z : HS} {h : HS} (E : CallFix p m c cX11_morningsLine 4 s args UW RX11) (hr : meth.sig.returnType = none) (hlk : meth.locks = false) {H : Heap} {locs : List Loc} {ls : Array Slot} {v0 : Nat} {v2 : Int32} (hf : X11_morningsLine_b41 N h v0 v2 = some z) (w : WD G s h H locs) (t_v0 : sh v0 = 11) (hl : lv_has ls 4 [(0, .ref (ad G v0)), (2, .int v2)]) : W p l e ({ frames := 5, cells := 0, slots := 0, locals := 117 } : Room) s m args below meth c H locs 0 0 (MQ below (QC G none z) args s 0 0 (AD G)) (F0 m 41 ls []) := by
  unfold X11_morningsLine_b41 at hf
  refine lv_aload_n E.1 E.2.1 dX11_morningsLine_41 rfl (lv_at hl 0 rfl) ?_
  refine lv_iconst (v := 0) E.1 E.2.1 dX11_morningsLine_42 rfl ?_
  refine lv_iconst (v := 5) E.1 E.2.1 dX11_morningsLine_43 rfl ?_
  obtain ⟨r6, h7, hc5, hf⟩ := bd2_e hf
  refine k_Vi (As := [.int 0, .int 5]) (rest := []) E w t_v0 ⟨by decide, rfl⟩ (X11_numbered_c t_v0 hc5) mv_RX11_134 rfl rfl hl.1 ⟨Nat.le_of_ble_eq_true rfl, Nat.le_of_ble_eq_true rfl⟩ (Nat.le_of_ble_eq_true rfl) ⟨Nat.le_refl _, Nat.le_refl _⟩ dX11_morningsLine_44 (fun H locs w => ?_)
  refine lv_istore_n (lv' := [(3, .int r6), (0, .ref (ad G v0)), (2, .int v2)]) E.1 E.2.1 dX11_morningsLine_47 rfl hl (by decide) rfl (fun ls hl => ?_)
  refine lv_aload_n E.1 E.2.1 dX11_morningsLine_48 rfl (lv_at hl 1 rfl) ?_
  refine q_gs E w 3 t_v0 fl_RX11_17 dX11_morningsLine_49 ?_
  refine lv_iconst (v := 0) E.1 E.2.1 dX11_morningsLine_52 rfl ?_
  obtain ⟨b8, hf⟩ := q_if hf
  refine q_iald E w ((lay_11_11 t_v0).1) ((lay_11_11 t_v0).2) b8 dX11_morningsLine_53 ?_
  refine lv_bipush (v := 8) E.1 E.2.1 dX11_morningsLine_54 rfl ?_
  refine lv_icmp_ge (tgt := 101) E.1 E.2.1 dX11_morningsLine_56 (by decide) (fun c9 => ?_) (fun c9 => ?_)
  · have hf := q_pos c9 hf
    refine lv_aload_n E.1 E.2.1 dX11_morningsLine_101 rfl (lv_at hl 1 rfl) ?_
    obtain ⟨h12, hc10, hf⟩ := bd1_e hf
    refine k_Vv (As := []) (rest := []) E w t_v0 ⟨by decide, rfl⟩ (X11_endsLine_c t_v0 hc10) mv_RX11_160 rfl rfl hl.1 ⟨Nat.le_of_ble_eq_true rfl, Nat.le_of_ble_eq_true rfl⟩ (Nat.le_of_ble_eq_true rfl) ⟨Nat.le_refl _, Nat.le_refl _⟩ dX11_morningsLine_102 (fun H locs w => ?_)
    have hf := Option.some.inj hf
    subst hf
    exact q_vret E w hr hlk dX11_morningsLine_105
  · have hf := q_neg c9 hf
    refine lv_aload_n E.1 E.2.1 dX11_morningsLine_59 rfl (lv_at hl 1 rfl) ?_
    refine q_gs E w 3 t_v0 fl_RX11_17 dX11_morningsLine_60 ?_
    refine lv_iconst (v := 1) E.1 E.2.1 dX11_morningsLine_63 rfl ?_
    refine lv_iconst (v := 2) E.1 E.2.1 dX11_morningsLine_64 rfl ?_
    refine lv_aload_n E.1 E.2.1 dX11_morningsLine_65 rfl (lv_at hl 1 rfl) ?_
    refine q_gs E w 3 t_v0 fl_RX11_17 dX11_morningsLine_66 ?_
    refine lv_iconst (v := 0) E.1 E.2.1 dX11_morningsLine_69 rfl ?_
    obtain ⟨b13, hf⟩ := q_if hf
    refine q_iald E w ((lay_11_11 t_v0).1) ((lay_11_11 t_v0).2) b13 dX11_morningsLine_70 ?_
    refine lv_imul E.1 E.2.1 dX11_morningsLine_71 ?_
    refine lv_iadd E.1 E.2.1 dX11_morningsLine_72 ?_
    refine lv_iload_n E.1 E.2.1 dX11_morningsLine_73 rfl (lv_at hl 2 rfl) ?_
    obtain ⟨b14, hf⟩ := q_if hf
    refine p_iast E w ((lay_11_11 t_v0).1) ((lay_11_11 t_v0).2) b14 dX11_morningsLine_74 (fun h15 H locs eh w => ?_)
    have hf := sq_e eh hf
    clear eh
    refine lv_aload_n E.1 E.2.1 dX11_morningsLine_75 rfl (lv_at hl 1 rfl) ?_
    refine q_gs E w 3 t_v0 fl_RX11_17 dX11_morningsLine_76 ?_
    refine lv_iconst (v := 2) E.1 E.2.1 dX11_morningsLine_79 rfl ?_
    refine lv_iconst (v := 2) E.1 E.2.1 dX11_morningsLine_80 rfl ?_
    refine lv_aload_n E.1 E.2.1 dX11_morningsLine_81 rfl (lv_at hl 1 rfl) ?_
    refine q_gs E w 3 t_v0 fl_RX11_17 dX11_morningsLine_82 ?_
    refine lv_iconst (v := 0) E.1 E.2.1 dX11_morningsLine_85 rfl ?_
    obtain ⟨b16, hf⟩ := q_if hf
    refine q_iald E w ((lay_11_11 t_v0).1) ((lay_11_11 t_v0).2) b16 dX11_morningsLine_86 ?_
    refine lv_imul E.1 E.2.1 dX11_morningsLine_87 ?_
    refine lv_iadd E.1 E.2.1 dX11_morningsLine_88 ?_
    refine lv_iload_n E.1 E.2.1 dX11_morningsLine_89 rfl (lv_at hl 0 rfl) ?_
    obtain ⟨b17, hf⟩ := q_if hf
    refine p_iast E w ((lay_11_11 t_v0).1) ((lay_11_11 t_v0).2) b17 dX11_morningsLine_90 (fun h18 H locs eh w => ?_)
    have hf := sq_e eh hf
    clear eh
    refine lv_aload_n E.1 E.2.1 dX11_morningsLine_91 rfl (lv_at hl 1 rfl) ?_
    refine q_gs E w 3 t_v0 fl_RX11_17 dX11_morningsLine_92 ?_
    refine lv_iconst (v := 0) E.1 E.2.1 dX11_morningsLine_95 rfl ?_
    refine lv_dup2_11 E.1 E.2.1 dX11_morningsLine_96 rfl rfl ?_
    obtain ⟨b19, hf⟩ := q_if hf
    refine q_iald E w ((lay_11_11 t_v0).1) ((lay_11_11 t_v0).2) b19 dX11_morningsLine_97 ?_
    refine lv_iconst (v := 1) E.1 E.2.1 dX11_morningsLine_98 rfl ?_
    refine lv_iadd E.1 E.2.1 dX11_morningsLine_99 ?_
    obtain ⟨b20, hf⟩ := q_if hf
    refine p_iast E w ((lay_11_11 t_v0).1) ((lay_11_11 t_v0).2) b20 dX11_morningsLine_100 (fun h21 H locs eh w => ?_)
    have hf := sq_e eh hf
    clear eh
    refine lv_aload_n E.1 E.2.1 dX11_morningsLine_101 rfl (lv_at hl 1 rfl) ?_
    obtain ⟨h24, hc22, hf⟩ := bd1_e hf
    refine k_Vv (As := []) (rest := []) E w t_v0 ⟨by decide, rfl⟩ (X11_endsLine_c t_v0 hc22) mv_RX11_160 rfl rfl hl.1 ⟨Nat.le_of_ble_eq_true rfl, Nat.le_of_ble_eq_true rfl⟩ (Nat.le_of_ble_eq_true rfl) ⟨Nat.le_refl _, Nat.le_refl _⟩ dX11_morningsLine_102 (fun H locs w => ?_)
    have hf := Option.some.inj hf
    subst hf
    exact q_vret E w hr hlk dX11_morningsLine_105

def X11_morningsLine (N : Nat) (h : HS) (v0 : Nat) : Option HS := bd2 (X11_wordIn N h v0 11 12) fun r2 h3 => (if (h3.1 v0 8) = 0 then (if (0 : Int32) < 0 ∨ 81 ≤ (0 : Int32).toNatClampNeg then none else (if (h3.1 (v0 + 3) (0 : Int32).toNatClampNeg) < (8 : Int32) then X11_morningsLine_b41 N h3 v0 (r2 - 11) else bd1 (X11_also N h3 v0 3 (h.1 v0 4)) fun h29 => X11_morningsLine_b41 N h29 v0 (r2 - 11))) else X11_morningsLine_b41 N h3 v0 (r2 - 11))
set_option maxRecDepth 4000 in
set_option maxHeartbeats 2000000 in
theorem X11_morningsLine_c {l : Launch} {G : GT} {N : Nat} {h : HS} {v0 : Nat} {z : HS} (t_v0 : sh v0 = 11) (hf : X11_morningsLine N h v0 = some z) : CT l G yX11_morningsLine cX11_morningsLine 4 none 5 117 [.ref (ad G v0)] h none z := by
  unfold X11_morningsLine at hf
  refine CT.of (by decide) (Nat.le_of_ble_eq_true rfl) ?_
  intro p e s m below meth c ls E hr hlk w hl
  have hl : lv_has ls 4 [(0, .ref (ad G v0))] := hl
  refine lv_aload_n E.1 E.2.1 dX11_morningsLine_0 rfl (lv_at hl 0 rfl) ?_
  refine q_gi E w t_v0 fl_RX11_89 dX11_morningsLine_1 ?_
  refine lv_istore_n (lv' := [(1, .int (h.1 v0 4)), (0, .ref (ad G v0))]) E.1 E.2.1 dX11_morningsLine_4 rfl hl (by decide) rfl (fun ls hl => ?_)
  refine lv_aload_n E.1 E.2.1 dX11_morningsLine_5 rfl (lv_at hl 1 rfl) ?_
  refine lv_bipush (v := 11) E.1 E.2.1 dX11_morningsLine_6 rfl ?_
  refine lv_bipush (v := 12) E.1 E.2.1 dX11_morningsLine_8 rfl ?_
  obtain ⟨r2, h3, hc1, hf⟩ := bd2_e hf
  refine k_Vi (As := [.int 11, .int 12]) (rest := []) E w t_v0 ⟨by decide, rfl⟩ (X11_wordIn_c t_v0 hc1) mv_RX11_144 rfl rfl hl.1 ⟨Nat.le_of_ble_eq_true rfl, Nat.le_of_ble_eq_true rfl⟩ (Nat.le_of_ble_eq_true rfl) ⟨Nat.le_refl _, Nat.le_refl _⟩ dX11_morningsLine_10 (fun H locs w => ?_)
  refine lv_bipush (v := 11) E.1 E.2.1 dX11_morningsLine_13 rfl ?_
  refine lv_isub E.1 E.2.1 dX11_morningsLine_15 ?_
  refine lv_istore_n (lv' := [(2, .int (r2 - 11)), (1, .int (h.1 v0 4)), (0, .ref (ad G v0))]) E.1 E.2.1 dX11_morningsLine_16 rfl hl (by decide) rfl (fun ls hl => ?_)
  refine lv_aload_n E.1 E.2.1 dX11_morningsLine_17 rfl (lv_at hl 2 rfl) ?_
  refine q_gi E w t_v0 fl_RX11_116 dX11_morningsLine_18 ?_
  refine lv_if_ne (tgt := 41) E.1 E.2.1 dX11_morningsLine_21 (by decide) (fun c4 => ?_) (fun c4 => ?_)
  · have hf := q_neg c4 hf
    exact X11_morningsLine_b41_w E hr hlk hf w t_v0 (lv_sub hl [2, 0] rfl)
  · have hf := q_pos c4 hf
    refine lv_aload_n E.1 E.2.1 dX11_morningsLine_24 rfl (lv_at hl 2 rfl) ?_
    refine q_gs E w 3 t_v0 fl_RX11_17 dX11_morningsLine_25 ?_
    refine lv_iconst (v := 0) E.1 E.2.1 dX11_morningsLine_28 rfl ?_
    obtain ⟨b25, hf⟩ := q_if hf
    refine q_iald E w ((lay_11_11 t_v0).1) ((lay_11_11 t_v0).2) b25 dX11_morningsLine_29 ?_
    refine lv_bipush (v := 8) E.1 E.2.1 dX11_morningsLine_30 rfl ?_
    refine lv_icmp_lt (tgt := 41) E.1 E.2.1 dX11_morningsLine_32 (by decide) (fun c26 => ?_) (fun c26 => ?_)
    · have hf := q_pos c26 hf
      exact X11_morningsLine_b41_w E hr hlk hf w t_v0 (lv_sub hl [2, 0] rfl)
    · have hf := q_neg c26 hf
      refine lv_aload_n E.1 E.2.1 dX11_morningsLine_35 rfl (lv_at hl 2 rfl) ?_
      refine lv_iconst (v := 3) E.1 E.2.1 dX11_morningsLine_36 rfl ?_
      refine lv_iload_n E.1 E.2.1 dX11_morningsLine_37 rfl (lv_at hl 1 rfl) ?_
      obtain ⟨h29, hc27, hf⟩ := bd1_e hf
      refine k_Vv (As := [.int 3, .int (h.1 v0 4)]) (rest := []) E w t_v0 ⟨by decide, rfl⟩ (X11_also_c t_v0 hc27) mv_RX11_127 rfl rfl hl.1 ⟨Nat.le_of_ble_eq_true rfl, Nat.le_of_ble_eq_true rfl⟩ (Nat.le_of_ble_eq_true rfl) ⟨Nat.le_refl _, Nat.le_refl _⟩ dX11_morningsLine_38 (fun H locs w => ?_)
      exact X11_morningsLine_b41_w E hr hlk hf w t_v0 (lv_sub hl [2, 0] rfl)

def X11_placeOf (N : Nat) (h : HS) (v0 : Int32) (v1 : Int32) : Option Int32 := (if v0 = 0 then some (610 + (64 * v1)) else (if v0 = (1 : Int32) then some (738 + (81 * v1)) else some (900 + (17 * v1))))
set_option maxRecDepth 4000 in
set_option maxHeartbeats 2000000 in
theorem X11_placeOf_c {l : Launch} {G : GT} {N : Nat} {h : HS} {v0 : Int32} {v1 : Int32} {z : Int32} (hf : X11_placeOf N h v0 v1 = some z) : CT l G yX11_placeOf cX11_placeOf 2 (some .int) 0 0 [.int v0, .int v1] h (some (.int z)) h := by
  unfold X11_placeOf at hf
  refine CT.of (by decide) (Nat.le_of_ble_eq_true rfl) ?_
  intro p e s m below meth c ls E hr hlk w hl
  have hl : lv_has ls 2 [(0, .int v0), (1, .int v1)] := hl
  refine lv_iload_n E.1 E.2.1 dX11_placeOf_0 rfl (lv_at hl 0 rfl) ?_
  refine lv_if_ne (tgt := 15) E.1 E.2.1 dX11_placeOf_1 (by decide) (fun c1 => ?_) (fun c1 => ?_)
  · have hf := q_neg c1 hf
    refine lv_iload_n E.1 E.2.1 dX11_placeOf_15 rfl (lv_at hl 0 rfl) ?_
    refine lv_iconst (v := 1) E.1 E.2.1 dX11_placeOf_16 rfl ?_
    refine lv_icmp_ne (tgt := 31) E.1 E.2.1 dX11_placeOf_17 (by decide) (fun c2 => ?_) (fun c2 => ?_)
    · have hf := q_neg c2 hf
      refine lv_sipush (v := 900) E.1 E.2.1 dX11_placeOf_31 rfl ?_
      refine lv_bipush (v := 17) E.1 E.2.1 dX11_placeOf_34 rfl ?_
      refine lv_iload_n E.1 E.2.1 dX11_placeOf_36 rfl (lv_at hl 1 rfl) ?_
      refine lv_imul E.1 E.2.1 dX11_placeOf_37 ?_
      refine lv_iadd E.1 E.2.1 dX11_placeOf_38 ?_
      have hf := Option.some.inj hf
      subst hf
      exact q_iret E w hr hlk dX11_placeOf_39
    · have hf := q_pos c2 hf
      refine lv_sipush (v := 738) E.1 E.2.1 dX11_placeOf_20 rfl ?_
      refine lv_bipush (v := 81) E.1 E.2.1 dX11_placeOf_23 rfl ?_
      refine lv_iload_n E.1 E.2.1 dX11_placeOf_25 rfl (lv_at hl 1 rfl) ?_
      refine lv_imul E.1 E.2.1 dX11_placeOf_26 ?_
      refine lv_iadd E.1 E.2.1 dX11_placeOf_27 ?_
      refine lv_goto (tgt := 39) E.1 E.2.1 dX11_placeOf_28 (by decide) ?_
      have hf := Option.some.inj hf
      subst hf
      exact q_iret E w hr hlk dX11_placeOf_39
  · have hf := q_pos c1 hf
    refine lv_sipush (v := 610) E.1 E.2.1 dX11_placeOf_4 rfl ?_
    refine lv_bipush (v := 64) E.1 E.2.1 dX11_placeOf_7 rfl ?_
    refine lv_iload_n E.1 E.2.1 dX11_placeOf_9 rfl (lv_at hl 1 rfl) ?_
    refine lv_imul E.1 E.2.1 dX11_placeOf_10 ?_
    refine lv_iadd E.1 E.2.1 dX11_placeOf_11 ?_
    refine lv_goto (tgt := 39) E.1 E.2.1 dX11_placeOf_12 (by decide) ?_
    have hf := Option.some.inj hf
    subst hf
    exact q_iret E w hr hlk dX11_placeOf_39

def X11_sizeOf (N : Nat) (h : HS) (v0 : Int32) : Option Int32 := (if v0 = 0 then some 64 else (if v0 = (1 : Int32) then some 81 else some 17))
set_option maxRecDepth 4000 in
set_option maxHeartbeats 2000000 in
theorem X11_sizeOf_c {l : Launch} {G : GT} {N : Nat} {h : HS} {v0 : Int32} {z : Int32} (hf : X11_sizeOf N h v0 = some z) : CT l G yX11_sizeOf cX11_sizeOf 1 (some .int) 0 0 [.int v0] h (some (.int z)) h := by
  unfold X11_sizeOf at hf
  refine CT.of (by decide) (Nat.le_of_ble_eq_true rfl) ?_
  intro p e s m below meth c ls E hr hlk w hl
  have hl : lv_has ls 1 [(0, .int v0)] := hl
  refine lv_iload_n E.1 E.2.1 dX11_sizeOf_0 rfl (lv_at hl 0 rfl) ?_
  refine lv_if_ne (tgt := 9) E.1 E.2.1 dX11_sizeOf_1 (by decide) (fun c1 => ?_) (fun c1 => ?_)
  · have hf := q_neg c1 hf
    refine lv_iload_n E.1 E.2.1 dX11_sizeOf_9 rfl (lv_at hl 0 rfl) ?_
    refine lv_iconst (v := 1) E.1 E.2.1 dX11_sizeOf_10 rfl ?_
    refine lv_icmp_ne (tgt := 19) E.1 E.2.1 dX11_sizeOf_11 (by decide) (fun c2 => ?_) (fun c2 => ?_)
    · have hf := q_neg c2 hf
      refine lv_bipush (v := 17) E.1 E.2.1 dX11_sizeOf_19 rfl ?_
      have hf := Option.some.inj hf
      subst hf
      exact q_iret E w hr hlk dX11_sizeOf_21
    · have hf := q_pos c2 hf
      refine lv_bipush (v := 81) E.1 E.2.1 dX11_sizeOf_14 rfl ?_
      refine lv_goto (tgt := 21) E.1 E.2.1 dX11_sizeOf_16 (by decide) ?_
      have hf := Option.some.inj hf
      subst hf
      exact q_iret E w hr hlk dX11_sizeOf_21
  · have hf := q_pos c1 hf
    refine lv_bipush (v := 64) E.1 E.2.1 dX11_sizeOf_4 rfl ?_
    refine lv_goto (tgt := 21) E.1 E.2.1 dX11_sizeOf_6 (by decide) ?_
    have hf := Option.some.inj hf
    subst hf
    exact q_iret E w hr hlk dX11_sizeOf_21

def X11_isOf (N : Nat) (h : HS) (v0 : Nat) (v1 : Int32) (v2 : Int32) : Option Int32 := (if v1 < 0 ∨ 3736 ≤ v1.toNatClampNeg then none else bd1 (X11_isIn N h v2 0 ((h.1 (v0 + 1) v1.toNatClampNeg) - 1)) fun r3 => some (nz r3))
set_option maxRecDepth 4000 in
set_option maxHeartbeats 2000000 in
theorem X11_isOf_c {l : Launch} {G : GT} {N : Nat} {h : HS} {v0 : Nat} {v1 : Int32} {v2 : Int32} {z : Int32} (t_v0 : sh v0 = 11) (hf : X11_isOf N h v0 v1 v2 = some z) : CT l G yX11_isOf cX11_isOf 3 (some .boolean) 1 22 [.ref (ad G v0), .int v1, .int v2] h (some (.int z)) h := by
  unfold X11_isOf at hf
  refine CT.of (by decide) (Nat.le_of_ble_eq_true rfl) ?_
  intro p e s m below meth c ls E hr hlk w hl
  have hl : lv_has ls 3 [(0, .ref (ad G v0)), (1, .int v1), (2, .int v2)] := hl
  refine lv_iload_n E.1 E.2.1 dX11_isOf_0 rfl (lv_at hl 2 rfl) ?_
  refine lv_iconst (v := 0) E.1 E.2.1 dX11_isOf_1 rfl ?_
  refine lv_aload_n E.1 E.2.1 dX11_isOf_2 rfl (lv_at hl 0 rfl) ?_
  refine q_gs E w 1 t_v0 fl_RX11_7 dX11_isOf_3 ?_
  refine lv_iload_n E.1 E.2.1 dX11_isOf_6 rfl (lv_at hl 1 rfl) ?_
  obtain ⟨b1, hf⟩ := q_if hf
  refine q_iald E w ((lay_11_0 t_v0).1) ((lay_11_0 t_v0).2) b1 dX11_isOf_7 ?_
  refine lv_iconst (v := 1) E.1 E.2.1 dX11_isOf_8 rfl ?_
  refine lv_isub E.1 E.2.1 dX11_isOf_9 ?_
  obtain ⟨r3, hc2, hf⟩ := bd1_e hf
  refine k_Si (As := [.int v2, .int 0, .int ((h.1 (v0 + 1) v1.toNatClampNeg) - 1)]) (rest := []) E w (X11_isIn_c  hc2) ms_RX11_123 rfl rfl hl.1 ⟨Nat.le_of_ble_eq_true rfl, Nat.le_of_ble_eq_true rfl⟩ (Nat.le_of_ble_eq_true rfl) ⟨Nat.le_refl _, Nat.le_refl _⟩ dX11_isOf_10 (fun H locs w => ?_)
  have hf := Option.some.inj hf
  subst hf
  exact q_zret E w hr hlk dX11_isOf_13

def X11_text_l282 (N : Nat) : Nat → HS → Nat → Int32 → Int32 → Int32 → Option (Int32 × HS)
  | 0, _, _, _, _, _ => none
  | n + 1, h, v0, v1, v3, v4 => bd1 (X11_sizeOf N h v1) fun r34 => (if r34 ≤ v4 then some (v3, h) else bd1 (X11_placeOf N h v1 v3) fun r38 => (if v4 < 0 ∨ 81 ≤ v4.toNatClampNeg then none else (if (r38 + v4) < 0 ∨ 3736 ≤ (r38 + v4).toNatClampNeg then none else sq (wi h (v0 + 1) (r38 + v4).toNatClampNeg (h.1 (v0 + 3) v4.toNatClampNeg)) fun h42 => X11_text_l282 N n h42 v0 v1 v3 (v4 + 1))))
set_option maxRecDepth 4000 in
set_option maxHeartbeats 2000000 in
theorem X11_text_l282_w {p : Program} {l : Launch} {e : Env} {s : State} {m : MethodId} {args : Array Value} {below : List Frame} {meth : Method} {c : Code} {G : GT} {N : Nat} {z : (Int32 × HS)} (E : CallFix p m c cX11_text 5 s args UW RX11) (hr : meth.sig.returnType = (some .int)) (hlk : meth.locks = false) : ∀ (n : Nat) (h : HS) (H : Heap) (locs : List Loc) (ls : Array Slot) (v0 : Nat) (v1 : Int32) (v3 : Int32) (v4 : Int32), X11_text_l282 N n h v0 v1 v3 v4 = some z → WD G s h H locs → sh v0 = 11 → lv_has ls 5 [(0, .ref (ad G v0)), (1, .int v1), (3, .int v3), (4, .int v4)] → W p l e ({ frames := 8, cells := 0, slots := 0, locals := 190 } : Room) s m args below meth c H locs 0 0 (MQ below (QC G (some (.int z.1)) z.2) args s 0 0 (AD G)) (F0 m 282 ls []) := by
  intro n
  induction n with
  | zero =>
    intro h H locs ls v0 v1 v3 v4 hf
    cases hf
  | succ n ih =>
    intro h H locs ls v0 v1 v3 v4 hf w t_v0 hl
    unfold X11_text_l282 at hf
    refine lv_iload E.1 E.2.1 dX11_text_282 (lv_at hl 3 rfl) ?_
    refine lv_iload_n E.1 E.2.1 dX11_text_284 rfl (lv_at hl 1 rfl) ?_
    obtain ⟨r34, hc33, hf⟩ := bd1_e hf
    refine k_Si (As := [.int v1]) (rest := [.int v4]) E w (X11_sizeOf_c  hc33) ms_RX11_176 rfl rfl hl.1 ⟨Nat.le_of_ble_eq_true rfl, Nat.le_of_ble_eq_true rfl⟩ (Nat.le_of_ble_eq_true rfl) ⟨Nat.le_refl _, Nat.le_refl _⟩ dX11_text_285 (fun H locs w => ?_)
    refine lv_icmp_ge (tgt := 317) E.1 E.2.1 dX11_text_288 (by decide) (fun c36 => ?_) (fun c36 => ?_)
    · have hf := q_pos c36 hf
      refine lv_iload_n E.1 E.2.1 dX11_text_317 rfl (lv_at hl 2 rfl) ?_
      have hf := Option.some.inj hf
      subst hf
      exact q_iret E w hr hlk dX11_text_318
    · have hf := q_neg c36 hf
      refine lv_aload_n E.1 E.2.1 dX11_text_291 rfl (lv_at hl 0 rfl) ?_
      refine q_gs E w 1 t_v0 fl_RX11_7 dX11_text_292 ?_
      refine lv_iload_n E.1 E.2.1 dX11_text_295 rfl (lv_at hl 1 rfl) ?_
      refine lv_iload_n E.1 E.2.1 dX11_text_296 rfl (lv_at hl 2 rfl) ?_
      obtain ⟨r38, hc37, hf⟩ := bd1_e hf
      refine k_Si (As := [.int v1, .int v3]) (rest := [.ref (ad G (v0 + 1))]) E w (X11_placeOf_c  hc37) ms_RX11_179 rfl rfl hl.1 ⟨Nat.le_of_ble_eq_true rfl, Nat.le_of_ble_eq_true rfl⟩ (Nat.le_of_ble_eq_true rfl) ⟨Nat.le_refl _, Nat.le_refl _⟩ dX11_text_297 (fun H locs w => ?_)
      refine lv_iload E.1 E.2.1 dX11_text_300 (lv_at hl 3 rfl) ?_
      refine lv_iadd E.1 E.2.1 dX11_text_302 ?_
      refine lv_aload_n E.1 E.2.1 dX11_text_303 rfl (lv_at hl 0 rfl) ?_
      refine q_gs E w 3 t_v0 fl_RX11_17 dX11_text_304 ?_
      refine lv_iload E.1 E.2.1 dX11_text_307 (lv_at hl 3 rfl) ?_
      obtain ⟨b40, hf⟩ := q_if hf
      refine q_iald E w ((lay_11_11 t_v0).1) ((lay_11_11 t_v0).2) b40 dX11_text_309 ?_
      obtain ⟨b41, hf⟩ := q_if hf
      refine p_iast E w ((lay_11_0 t_v0).1) ((lay_11_0 t_v0).2) b41 dX11_text_310 (fun h42 H locs eh w => ?_)
      have hf := sq_e eh hf
      clear eh
      refine lv_iinc (v := v4 + 1) (lv' := [(4, .int (v4 + 1)), (0, .ref (ad G v0)), (1, .int v1), (3, .int v3)]) E.1 E.2.1 dX11_text_311 hl (k := 3) rfl rfl (by decide) rfl (fun ls hl => ?_)
      refine lv_goto (tgt := 282) E.1 E.2.1 dX11_text_314 (by decide) ?_
      exact ih _ _ _ _ _ _ _ _ hf w t_v0 (lv_sub hl [1, 2, 3, 0] rfl)

def X11_text_b237 (N : Nat) (h : HS) (v0 : Nat) (v1 : Int32) (v2 : Int32) : Option (Int32 × HS) := (if (5 : Int32) < 0 ∨ 3736 ≤ (5 : Int32).toNatClampNeg then none else (if (h.1 (v0 + 1) (5 : Int32).toNatClampNeg) = 0 then (if v2 = ((-1) : Int32) then (if v1 < 0 ∨ 3736 ≤ v1.toNatClampNeg then none else (if v2 = ((-1) : Int32) then (if v1 < 0 ∨ 3736 ≤ v1.toNatClampNeg then none else (if v1 < 0 ∨ 3736 ≤ v1.toNatClampNeg then none else sq (wi h (v0 + 1) v1.toNatClampNeg ((h.1 (v0 + 1) v1.toNatClampNeg) + 1)) fun h50 => X11_text_l282 N N h50 v0 v1 (h.1 (v0 + 1) v1.toNatClampNeg) 0)) else X11_text_l282 N N h v0 v1 (h.1 (v0 + 1) v1.toNatClampNeg) 0)) else (if v2 = ((-1) : Int32) then (if v1 < 0 ∨ 3736 ≤ v1.toNatClampNeg then none else (if v1 < 0 ∨ 3736 ≤ v1.toNatClampNeg then none else sq (wi h (v0 + 1) v1.toNatClampNeg ((h.1 (v0 + 1) v1.toNatClampNeg) + 1)) fun h45 => X11_text_l282 N N h45 v0 v1 v2 0)) else X11_text_l282 N N h v0 v1 v2 0)) else some ((-1), h)))
set_option maxRecDepth 4000 in
set_option maxHeartbeats 2000000 in
theorem X11_text_b237_w {p : Program} {l : Launch} {e : Env} {s : State} {m : MethodId} {args : Array Value} {below : List Frame} {meth : Method} {c : Code} {G : GT} {N : Nat} {z : (Int32 × HS)} {h : HS} (E : CallFix p m c cX11_text 5 s args UW RX11) (hr : meth.sig.returnType = (some .int)) (hlk : meth.locks = false) {H : Heap} {locs : List Loc} {ls : Array Slot} {v0 : Nat} {v1 : Int32} {v2 : Int32} (hf : X11_text_b237 N h v0 v1 v2 = some z) (w : WD G s h H locs) (t_v0 : sh v0 = 11) (hl : lv_has ls 5 [(0, .ref (ad G v0)), (1, .int v1), (2, .int v2)]) : W p l e ({ frames := 8, cells := 0, slots := 0, locals := 190 } : Room) s m args below meth c H locs 0 0 (MQ below (QC G (some (.int z.1)) z.2) args s 0 0 (AD G)) (F0 m 237 ls []) := by
  unfold X11_text_b237 at hf
  refine lv_aload_n E.1 E.2.1 dX11_text_237 rfl (lv_at hl 0 rfl) ?_
  refine q_gs E w 1 t_v0 fl_RX11_7 dX11_text_238 ?_
  refine lv_iconst (v := 5) E.1 E.2.1 dX11_text_241 rfl ?_
  obtain ⟨b29, hf⟩ := q_if hf
  refine q_iald E w ((lay_11_0 t_v0).1) ((lay_11_0 t_v0).2) b29 dX11_text_242 ?_
  refine lv_if_eq (tgt := 248) E.1 E.2.1 dX11_text_243 (by decide) (fun c30 => ?_) (fun c30 => ?_)
  · have hf := q_pos c30 hf
    refine lv_iload_n E.1 E.2.1 dX11_text_248 rfl (lv_at hl 2 rfl) ?_
    refine lv_iconst (v := (-1)) E.1 E.2.1 dX11_text_249 rfl ?_
    refine lv_icmp_ne (tgt := 262) E.1 E.2.1 dX11_text_250 (by decide) (fun c31 => ?_) (fun c31 => ?_)
    · have hf := q_neg c31 hf
      refine lv_iload_n E.1 E.2.1 dX11_text_262 rfl (lv_at hl 2 rfl) ?_
      refine lv_istore_n (lv' := [(3, .int v2), (0, .ref (ad G v0)), (1, .int v1), (2, .int v2)]) E.1 E.2.1 dX11_text_263 rfl hl (by decide) rfl (fun ls hl => ?_)
      refine lv_iload_n E.1 E.2.1 dX11_text_264 rfl (lv_at hl 3 rfl) ?_
      refine lv_iconst (v := (-1)) E.1 E.2.1 dX11_text_265 rfl ?_
      refine lv_icmp_ne (tgt := 279) E.1 E.2.1 dX11_text_266 (by decide) (fun c32 => ?_) (fun c32 => ?_)
      · have hf := q_neg c32 hf
        refine lv_iconst (v := 0) E.1 E.2.1 dX11_text_279 rfl ?_
        refine lv_istore (lv' := [(4, .int 0), (3, .int v2), (0, .ref (ad G v0)), (1, .int v1), (2, .int v2)]) E.1 E.2.1 dX11_text_280 hl (by decide) rfl (fun ls hl => ?_)
        exact X11_text_l282_w E hr hlk N _ _ _ _ _ _ _ _ hf w t_v0 (lv_sub hl [2, 3, 1, 0] rfl)
      · have hf := q_pos c32 hf
        refine lv_aload_n E.1 E.2.1 dX11_text_269 rfl (lv_at hl 1 rfl) ?_
        refine q_gs E w 1 t_v0 fl_RX11_7 dX11_text_270 ?_
        refine lv_iload_n E.1 E.2.1 dX11_text_273 rfl (lv_at hl 2 rfl) ?_
        refine lv_dup2_11 E.1 E.2.1 dX11_text_274 rfl rfl ?_
        obtain ⟨b43, hf⟩ := q_if hf
        refine q_iald E w ((lay_11_0 t_v0).1) ((lay_11_0 t_v0).2) b43 dX11_text_275 ?_
        refine lv_iconst (v := 1) E.1 E.2.1 dX11_text_276 rfl ?_
        refine lv_iadd E.1 E.2.1 dX11_text_277 ?_
        obtain ⟨b44, hf⟩ := q_if hf
        refine p_iast E w ((lay_11_0 t_v0).1) ((lay_11_0 t_v0).2) b44 dX11_text_278 (fun h45 H locs eh w => ?_)
        have hf := sq_e eh hf
        clear eh
        refine lv_iconst (v := 0) E.1 E.2.1 dX11_text_279 rfl ?_
        refine lv_istore (lv' := [(4, .int 0), (3, .int v2), (0, .ref (ad G v0)), (1, .int v1), (2, .int v2)]) E.1 E.2.1 dX11_text_280 hl (by decide) rfl (fun ls hl => ?_)
        exact X11_text_l282_w E hr hlk N _ _ _ _ _ _ _ _ hf w t_v0 (lv_sub hl [2, 3, 1, 0] rfl)
    · have hf := q_pos c31 hf
      refine lv_aload_n E.1 E.2.1 dX11_text_253 rfl (lv_at hl 0 rfl) ?_
      refine q_gs E w 1 t_v0 fl_RX11_7 dX11_text_254 ?_
      refine lv_iload_n E.1 E.2.1 dX11_text_257 rfl (lv_at hl 1 rfl) ?_
      obtain ⟨b46, hf⟩ := q_if hf
      refine q_iald E w ((lay_11_0 t_v0).1) ((lay_11_0 t_v0).2) b46 dX11_text_258 ?_
      refine lv_goto (tgt := 263) E.1 E.2.1 dX11_text_259 (by decide) ?_
      refine lv_istore_n (lv' := [(3, .int (h.1 (v0 + 1) v1.toNatClampNeg)), (0, .ref (ad G v0)), (1, .int v1), (2, .int v2)]) E.1 E.2.1 dX11_text_263 rfl hl (by decide) rfl (fun ls hl => ?_)
      refine lv_iload_n E.1 E.2.1 dX11_text_264 rfl (lv_at hl 3 rfl) ?_
      refine lv_iconst (v := (-1)) E.1 E.2.1 dX11_text_265 rfl ?_
      refine lv_icmp_ne (tgt := 279) E.1 E.2.1 dX11_text_266 (by decide) (fun c47 => ?_) (fun c47 => ?_)
      · have hf := q_neg c47 hf
        refine lv_iconst (v := 0) E.1 E.2.1 dX11_text_279 rfl ?_
        refine lv_istore (lv' := [(4, .int 0), (3, .int (h.1 (v0 + 1) v1.toNatClampNeg)), (0, .ref (ad G v0)), (1, .int v1), (2, .int v2)]) E.1 E.2.1 dX11_text_280 hl (by decide) rfl (fun ls hl => ?_)
        exact X11_text_l282_w E hr hlk N _ _ _ _ _ _ _ _ hf w t_v0 (lv_sub hl [2, 3, 1, 0] rfl)
      · have hf := q_pos c47 hf
        refine lv_aload_n E.1 E.2.1 dX11_text_269 rfl (lv_at hl 1 rfl) ?_
        refine q_gs E w 1 t_v0 fl_RX11_7 dX11_text_270 ?_
        refine lv_iload_n E.1 E.2.1 dX11_text_273 rfl (lv_at hl 2 rfl) ?_
        refine lv_dup2_11 E.1 E.2.1 dX11_text_274 rfl rfl ?_
        obtain ⟨b48, hf⟩ := q_if hf
        refine q_iald E w ((lay_11_0 t_v0).1) ((lay_11_0 t_v0).2) b48 dX11_text_275 ?_
        refine lv_iconst (v := 1) E.1 E.2.1 dX11_text_276 rfl ?_
        refine lv_iadd E.1 E.2.1 dX11_text_277 ?_
        obtain ⟨b49, hf⟩ := q_if hf
        refine p_iast E w ((lay_11_0 t_v0).1) ((lay_11_0 t_v0).2) b49 dX11_text_278 (fun h50 H locs eh w => ?_)
        have hf := sq_e eh hf
        clear eh
        refine lv_iconst (v := 0) E.1 E.2.1 dX11_text_279 rfl ?_
        refine lv_istore (lv' := [(4, .int 0), (3, .int (h.1 (v0 + 1) v1.toNatClampNeg)), (0, .ref (ad G v0)), (1, .int v1), (2, .int v2)]) E.1 E.2.1 dX11_text_280 hl (by decide) rfl (fun ls hl => ?_)
        exact X11_text_l282_w E hr hlk N _ _ _ _ _ _ _ _ hf w t_v0 (lv_sub hl [2, 3, 1, 0] rfl)
  · have hf := q_neg c30 hf
    refine lv_iconst (v := (-1)) E.1 E.2.1 dX11_text_246 rfl ?_
    have hf := Option.some.inj hf
    subst hf
    exact q_iret E w hr hlk dX11_text_247

def X11_text_b189 (N : Nat) (h : HS) (v0 : Nat) (v1 : Int32) (v2 : Int32) : Option (Int32 × HS) := (if v1 = 0 then (if (5 : Int32) < 0 ∨ 3736 ≤ (5 : Int32).toNatClampNeg then none else (if (h.1 (v0 + 1) (5 : Int32).toNatClampNeg) = 0 then (if (0 : Int32) < 0 ∨ 81 ≤ (0 : Int32).toNatClampNeg then none else (if (h.1 (v0 + 3) (0 : Int32).toNatClampNeg) ≤ (h.1 v0 9) then bd1 (X11_also N h v0 4 (h.1 v0 4)) fun h57 => X11_text_b237 N h57 v0 v1 v2 else (if (1 : Int32) < 0 ∨ 81 ≤ (1 : Int32).toNatClampNeg then none else (if (h.1 v0 10) < (h.1 (v0 + 3) (1 : Int32).toNatClampNeg) then X11_text_b237 N h v0 v1 v2 else bd1 (X11_also N h v0 4 (h.1 v0 4)) fun h62 => X11_text_b237 N h62 v0 v1 v2)))) else X11_text_b237 N h v0 v1 v2)) else X11_text_b237 N h v0 v1 v2)
set_option maxRecDepth 4000 in
set_option maxHeartbeats 2000000 in
theorem X11_text_b189_w {p : Program} {l : Launch} {e : Env} {s : State} {m : MethodId} {args : Array Value} {below : List Frame} {meth : Method} {c : Code} {G : GT} {N : Nat} {z : (Int32 × HS)} {h : HS} (E : CallFix p m c cX11_text 5 s args UW RX11) (hr : meth.sig.returnType = (some .int)) (hlk : meth.locks = false) {H : Heap} {locs : List Loc} {ls : Array Slot} {v0 : Nat} {v1 : Int32} {v2 : Int32} (hf : X11_text_b189 N h v0 v1 v2 = some z) (w : WD G s h H locs) (t_v0 : sh v0 = 11) (hl : lv_has ls 5 [(0, .ref (ad G v0)), (1, .int v1), (2, .int v2)]) : W p l e ({ frames := 8, cells := 0, slots := 0, locals := 190 } : Room) s m args below meth c H locs 0 0 (MQ below (QC G (some (.int z.1)) z.2) args s 0 0 (AD G)) (F0 m 189 ls []) := by
  unfold X11_text_b189 at hf
  refine lv_iload_n E.1 E.2.1 dX11_text_189 rfl (lv_at hl 1 rfl) ?_
  refine lv_if_ne (tgt := 237) E.1 E.2.1 dX11_text_190 (by decide) (fun c28 => ?_) (fun c28 => ?_)
  · have hf := q_neg c28 hf
    exact X11_text_b237_w E hr hlk hf w t_v0 (lv_sub hl [0, 1, 2] rfl)
  · have hf := q_pos c28 hf
    refine lv_aload_n E.1 E.2.1 dX11_text_193 rfl (lv_at hl 0 rfl) ?_
    refine q_gs E w 1 t_v0 fl_RX11_7 dX11_text_194 ?_
    refine lv_iconst (v := 5) E.1 E.2.1 dX11_text_197 rfl ?_
    obtain ⟨b51, hf⟩ := q_if hf
    refine q_iald E w ((lay_11_0 t_v0).1) ((lay_11_0 t_v0).2) b51 dX11_text_198 ?_
    refine lv_if_ne (tgt := 237) E.1 E.2.1 dX11_text_199 (by decide) (fun c52 => ?_) (fun c52 => ?_)
    · have hf := q_neg c52 hf
      exact X11_text_b237_w E hr hlk hf w t_v0 (lv_sub hl [0, 1, 2] rfl)
    · have hf := q_pos c52 hf
      refine lv_aload_n E.1 E.2.1 dX11_text_202 rfl (lv_at hl 0 rfl) ?_
      refine q_gi E w t_v0 fl_RX11_138 dX11_text_203 ?_
      refine lv_aload_n E.1 E.2.1 dX11_text_206 rfl (lv_at hl 0 rfl) ?_
      refine q_gs E w 3 t_v0 fl_RX11_17 dX11_text_207 ?_
      refine lv_iconst (v := 0) E.1 E.2.1 dX11_text_210 rfl ?_
      obtain ⟨b53, hf⟩ := q_if hf
      refine q_iald E w ((lay_11_11 t_v0).1) ((lay_11_11 t_v0).2) b53 dX11_text_211 ?_
      refine lv_icmp_ge (tgt := 228) E.1 E.2.1 dX11_text_212 (by decide) (fun c54 => ?_) (fun c54 => ?_)
      · have hf := q_pos c54 hf
        refine lv_aload_n E.1 E.2.1 dX11_text_228 rfl (lv_at hl 0 rfl) ?_
        refine lv_iconst (v := 4) E.1 E.2.1 dX11_text_229 rfl ?_
        refine lv_aload_n E.1 E.2.1 dX11_text_230 rfl (lv_at hl 0 rfl) ?_
        refine q_gi E w t_v0 fl_RX11_89 dX11_text_231 ?_
        obtain ⟨h57, hc55, hf⟩ := bd1_e hf
        refine k_Vv (As := [.int 4, .int (h.1 v0 4)]) (rest := []) E w t_v0 ⟨by decide, rfl⟩ (X11_also_c t_v0 hc55) mv_RX11_127 rfl rfl hl.1 ⟨Nat.le_of_ble_eq_true rfl, Nat.le_of_ble_eq_true rfl⟩ (Nat.le_of_ble_eq_true rfl) ⟨Nat.le_refl _, Nat.le_refl _⟩ dX11_text_234 (fun H locs w => ?_)
        exact X11_text_b237_w E hr hlk hf w t_v0 (lv_sub hl [0, 1, 2] rfl)
      · have hf := q_neg c54 hf
        refine lv_aload_n E.1 E.2.1 dX11_text_215 rfl (lv_at hl 0 rfl) ?_
        refine q_gi E w t_v0 fl_RX11_157 dX11_text_216 ?_
        refine lv_aload_n E.1 E.2.1 dX11_text_219 rfl (lv_at hl 0 rfl) ?_
        refine q_gs E w 3 t_v0 fl_RX11_17 dX11_text_220 ?_
        refine lv_iconst (v := 1) E.1 E.2.1 dX11_text_223 rfl ?_
        obtain ⟨b58, hf⟩ := q_if hf
        refine q_iald E w ((lay_11_11 t_v0).1) ((lay_11_11 t_v0).2) b58 dX11_text_224 ?_
        refine lv_icmp_lt (tgt := 237) E.1 E.2.1 dX11_text_225 (by decide) (fun c59 => ?_) (fun c59 => ?_)
        · have hf := q_pos c59 hf
          exact X11_text_b237_w E hr hlk hf w t_v0 (lv_sub hl [0, 1, 2] rfl)
        · have hf := q_neg c59 hf
          refine lv_aload_n E.1 E.2.1 dX11_text_228 rfl (lv_at hl 0 rfl) ?_
          refine lv_iconst (v := 4) E.1 E.2.1 dX11_text_229 rfl ?_
          refine lv_aload_n E.1 E.2.1 dX11_text_230 rfl (lv_at hl 0 rfl) ?_
          refine q_gi E w t_v0 fl_RX11_89 dX11_text_231 ?_
          obtain ⟨h62, hc60, hf⟩ := bd1_e hf
          refine k_Vv (As := [.int 4, .int (h.1 v0 4)]) (rest := []) E w t_v0 ⟨by decide, rfl⟩ (X11_also_c t_v0 hc60) mv_RX11_127 rfl rfl hl.1 ⟨Nat.le_of_ble_eq_true rfl, Nat.le_of_ble_eq_true rfl⟩ (Nat.le_of_ble_eq_true rfl) ⟨Nat.le_refl _, Nat.le_refl _⟩ dX11_text_234 (fun H locs w => ?_)
          exact X11_text_b237_w E hr hlk hf w t_v0 (lv_sub hl [0, 1, 2] rfl)

def X11_text_l128 (N : Nat) : Nat → HS → Nat → Int32 → Int32 → Option (Int32 × HS)
  | 0, _, _, _, _ => none
  | n + 1, h, v0, v1, v2 => (if (h.1 v0 8) = 0 then (if (h.1 v0 5) = 0 then X11_text_b189 N h v0 v1 v2 else (if v1 = 0 then bd1 (X11_houseLine N h v0) fun h67 => X11_text_l128 N n h67 v0 v1 v2 else (if v1 = 1 then bd1 (X11_nightsLine N h v0) fun h71 => X11_text_l128 N n h71 v0 v1 v2 else bd1 (X11_morningsLine N h v0) fun h74 => X11_text_l128 N n h74 v0 v1 v2))) else X11_text_b189 N h v0 v1 v2)
set_option maxRecDepth 4000 in
set_option maxHeartbeats 2000000 in
theorem X11_text_l128_w {p : Program} {l : Launch} {e : Env} {s : State} {m : MethodId} {args : Array Value} {below : List Frame} {meth : Method} {c : Code} {G : GT} {N : Nat} {z : (Int32 × HS)} (E : CallFix p m c cX11_text 5 s args UW RX11) (hr : meth.sig.returnType = (some .int)) (hlk : meth.locks = false) : ∀ (n : Nat) (h : HS) (H : Heap) (locs : List Loc) (ls : Array Slot) (v0 : Nat) (v1 : Int32) (v2 : Int32), X11_text_l128 N n h v0 v1 v2 = some z → WD G s h H locs → sh v0 = 11 → lv_has ls 5 [(0, .ref (ad G v0)), (1, .int v1), (2, .int v2)] → W p l e ({ frames := 8, cells := 0, slots := 0, locals := 190 } : Room) s m args below meth c H locs 0 0 (MQ below (QC G (some (.int z.1)) z.2) args s 0 0 (AD G)) (F0 m 128 ls []) := by
  intro n
  induction n with
  | zero =>
    intro h H locs ls v0 v1 v2 hf
    cases hf
  | succ n ih =>
    intro h H locs ls v0 v1 v2 hf w t_v0 hl
    unfold X11_text_l128 at hf
    refine lv_aload_n E.1 E.2.1 dX11_text_128 rfl (lv_at hl 0 rfl) ?_
    refine q_gi E w t_v0 fl_RX11_116 dX11_text_129 ?_
    refine lv_if_ne (tgt := 189) E.1 E.2.1 dX11_text_132 (by decide) (fun c27 => ?_) (fun c27 => ?_)
    · have hf := q_neg c27 hf
      exact X11_text_b189_w E hr hlk hf w t_v0 (lv_sub hl [0, 1, 2] rfl)
    · have hf := q_pos c27 hf
      refine lv_aload_n E.1 E.2.1 dX11_text_135 rfl (lv_at hl 0 rfl) ?_
      refine q_gi E w t_v0 fl_RX11_92 dX11_text_136 ?_
      refine lv_if_eq (tgt := 189) E.1 E.2.1 dX11_text_139 (by decide) (fun c63 => ?_) (fun c63 => ?_)
      · have hf := q_pos c63 hf
        exact X11_text_b189_w E hr hlk hf w t_v0 (lv_sub hl [0, 1, 2] rfl)
      · have hf := q_neg c63 hf
        refine lv_iload_n E.1 E.2.1 dX11_text_142 rfl (lv_at hl 1 rfl) ?_
        by_cases c64 : v1 = 0
        · have hf := q_pos c64 hf
          refine lv_lookup (off := 25) (tgt := 168) E.1 E.2.1 dX11_text_143 (by decide) (by rw [c64]; decide) (by decide) ?_
          refine lv_aload_n E.1 E.2.1 dX11_text_168 rfl (lv_at hl 0 rfl) ?_
          obtain ⟨h67, hc65, hf⟩ := bd1_e hf
          refine k_Vv (As := []) (rest := []) E w t_v0 ⟨by decide, rfl⟩ (X11_houseLine_c t_v0 hc65) mv_RX11_167 rfl rfl hl.1 ⟨Nat.le_of_ble_eq_true rfl, Nat.le_of_ble_eq_true rfl⟩ (Nat.le_of_ble_eq_true rfl) ⟨Nat.le_refl _, Nat.le_refl _⟩ dX11_text_169 (fun H locs w => ?_)
          refine lv_goto (tgt := 128) E.1 E.2.1 dX11_text_172 (by decide) ?_
          exact ih _ _ _ _ _ _ _ hf w t_v0 (lv_sub hl [0, 1, 2] rfl)
        have hf := q_neg c64 hf
        by_cases c68 : v1 = 1
        · have hf := q_pos c68 hf
          refine lv_lookup (off := 32) (tgt := 175) E.1 E.2.1 dX11_text_143 (by decide) (by rw [c68]; decide) (by decide) ?_
          refine lv_aload_n E.1 E.2.1 dX11_text_175 rfl (lv_at hl 0 rfl) ?_
          obtain ⟨h71, hc69, hf⟩ := bd1_e hf
          refine k_Vv (As := []) (rest := []) E w t_v0 ⟨by decide, rfl⟩ (X11_nightsLine_c t_v0 hc69) mv_RX11_170 rfl rfl hl.1 ⟨Nat.le_of_ble_eq_true rfl, Nat.le_of_ble_eq_true rfl⟩ (Nat.le_of_ble_eq_true rfl) ⟨Nat.le_refl _, Nat.le_refl _⟩ dX11_text_176 (fun H locs w => ?_)
          refine lv_goto (tgt := 128) E.1 E.2.1 dX11_text_179 (by decide) ?_
          exact ih _ _ _ _ _ _ _ hf w t_v0 (lv_sub hl [0, 1, 2] rfl)
        have hf := q_neg c68 hf
        refine lv_lookup (off := 39) (tgt := 182) E.1 E.2.1 dX11_text_143 (by decide) (by have q0 := (ne_i c64 (z := 0) (by decide)).symm; have q1 := (ne_i c68 (z := 1) (by decide)).symm; simp [Op.lookupswitch.offset, q0, q1]) (by decide) ?_
        refine lv_aload_n E.1 E.2.1 dX11_text_182 rfl (lv_at hl 0 rfl) ?_
        obtain ⟨h74, hc72, hf⟩ := bd1_e hf
        refine k_Vv (As := []) (rest := []) E w t_v0 ⟨by decide, rfl⟩ (X11_morningsLine_c t_v0 hc72) mv_RX11_173 rfl rfl hl.1 ⟨Nat.le_of_ble_eq_true rfl, Nat.le_of_ble_eq_true rfl⟩ (Nat.le_of_ble_eq_true rfl) ⟨Nat.le_refl _, Nat.le_refl _⟩ dX11_text_183 (fun H locs w => ?_)
        refine lv_goto (tgt := 128) E.1 E.2.1 dX11_text_186 (by decide) ?_
        exact ih _ _ _ _ _ _ _ hf w t_v0 (lv_sub hl [0, 1, 2] rfl)

def X11_text_l93 (N : Nat) : Nat → HS → Nat → Int32 → Int32 → Int32 → Option (Int32 × HS)
  | 0, _, _, _, _, _ => none
  | n + 1, h, v0, v1, v2, v3 => (if (81 : Int32) ≤ v3 then (if v1 = 0 then (if (3 : Int32) < 0 ∨ 81 ≤ (3 : Int32).toNatClampNeg then none else sq (wi h (v0 + 3) (3 : Int32).toNatClampNeg 9) fun h76 => bd1 (X11_advance N h76 v0) fun h79 => X11_text_l128 N N h79 v0 v1 v2) else bd1 (X11_advance N h v0) fun h26 => X11_text_l128 N N h26 v0 v1 v2) else (if v3 < 0 ∨ 81 ≤ v3.toNatClampNeg then none else sq (wi h (v0 + 3) v3.toNatClampNeg 0) fun h81 => X11_text_l93 N n h81 v0 v1 v2 (v3 + 1)))
set_option maxRecDepth 4000 in
set_option maxHeartbeats 2000000 in
theorem X11_text_l93_w {p : Program} {l : Launch} {e : Env} {s : State} {m : MethodId} {args : Array Value} {below : List Frame} {meth : Method} {c : Code} {G : GT} {N : Nat} {z : (Int32 × HS)} (E : CallFix p m c cX11_text 5 s args UW RX11) (hr : meth.sig.returnType = (some .int)) (hlk : meth.locks = false) : ∀ (n : Nat) (h : HS) (H : Heap) (locs : List Loc) (ls : Array Slot) (v0 : Nat) (v1 : Int32) (v2 : Int32) (v3 : Int32), X11_text_l93 N n h v0 v1 v2 v3 = some z → WD G s h H locs → sh v0 = 11 → lv_has ls 5 [(0, .ref (ad G v0)), (1, .int v1), (2, .int v2), (3, .int v3)] → W p l e ({ frames := 8, cells := 0, slots := 0, locals := 190 } : Room) s m args below meth c H locs 0 0 (MQ below (QC G (some (.int z.1)) z.2) args s 0 0 (AD G)) (F0 m 93 ls []) := by
  intro n
  induction n with
  | zero =>
    intro h H locs ls v0 v1 v2 v3 hf
    cases hf
  | succ n ih =>
    intro h H locs ls v0 v1 v2 v3 hf w t_v0 hl
    unfold X11_text_l93 at hf
    refine lv_iload_n E.1 E.2.1 dX11_text_93 rfl (lv_at hl 3 rfl) ?_
    refine lv_bipush (v := 81) E.1 E.2.1 dX11_text_94 rfl ?_
    refine lv_icmp_ge (tgt := 112) E.1 E.2.1 dX11_text_96 (by decide) (fun c22 => ?_) (fun c22 => ?_)
    · have hf := q_pos c22 hf
      refine lv_iload_n E.1 E.2.1 dX11_text_112 rfl (lv_at hl 1 rfl) ?_
      refine lv_if_ne (tgt := 124) E.1 E.2.1 dX11_text_113 (by decide) (fun c23 => ?_) (fun c23 => ?_)
      · have hf := q_neg c23 hf
        refine lv_aload_n E.1 E.2.1 dX11_text_124 rfl (lv_at hl 0 rfl) ?_
        obtain ⟨h26, hc24, hf⟩ := bd1_e hf
        refine k_Vv (As := []) (rest := []) E w t_v0 ⟨by decide, rfl⟩ (X11_advance_c t_v0 hc24) mv_RX11_131 rfl rfl hl.1 ⟨Nat.le_of_ble_eq_true rfl, Nat.le_of_ble_eq_true rfl⟩ (Nat.le_of_ble_eq_true rfl) ⟨Nat.le_refl _, Nat.le_refl _⟩ dX11_text_125 (fun H locs w => ?_)
        exact X11_text_l128_w E hr hlk N _ _ _ _ _ _ _ hf w t_v0 (lv_sub hl [0, 1, 2] rfl)
      · have hf := q_pos c23 hf
        refine lv_aload_n E.1 E.2.1 dX11_text_116 rfl (lv_at hl 0 rfl) ?_
        refine q_gs E w 3 t_v0 fl_RX11_17 dX11_text_117 ?_
        refine lv_iconst (v := 3) E.1 E.2.1 dX11_text_120 rfl ?_
        refine lv_bipush (v := 9) E.1 E.2.1 dX11_text_121 rfl ?_
        obtain ⟨b75, hf⟩ := q_if hf
        refine p_iast E w ((lay_11_11 t_v0).1) ((lay_11_11 t_v0).2) b75 dX11_text_123 (fun h76 H locs eh w => ?_)
        have hf := sq_e eh hf
        clear eh
        refine lv_aload_n E.1 E.2.1 dX11_text_124 rfl (lv_at hl 0 rfl) ?_
        obtain ⟨h79, hc77, hf⟩ := bd1_e hf
        refine k_Vv (As := []) (rest := []) E w t_v0 ⟨by decide, rfl⟩ (X11_advance_c t_v0 hc77) mv_RX11_131 rfl rfl hl.1 ⟨Nat.le_of_ble_eq_true rfl, Nat.le_of_ble_eq_true rfl⟩ (Nat.le_of_ble_eq_true rfl) ⟨Nat.le_refl _, Nat.le_refl _⟩ dX11_text_125 (fun H locs w => ?_)
        exact X11_text_l128_w E hr hlk N _ _ _ _ _ _ _ hf w t_v0 (lv_sub hl [0, 1, 2] rfl)
    · have hf := q_neg c22 hf
      refine lv_aload_n E.1 E.2.1 dX11_text_99 rfl (lv_at hl 0 rfl) ?_
      refine q_gs E w 3 t_v0 fl_RX11_17 dX11_text_100 ?_
      refine lv_iload_n E.1 E.2.1 dX11_text_103 rfl (lv_at hl 3 rfl) ?_
      refine lv_iconst (v := 0) E.1 E.2.1 dX11_text_104 rfl ?_
      obtain ⟨b80, hf⟩ := q_if hf
      refine p_iast E w ((lay_11_11 t_v0).1) ((lay_11_11 t_v0).2) b80 dX11_text_105 (fun h81 H locs eh w => ?_)
      have hf := sq_e eh hf
      clear eh
      refine lv_iinc (v := v3 + 1) (lv' := [(3, .int (v3 + 1)), (0, .ref (ad G v0)), (1, .int v1), (2, .int v2)]) E.1 E.2.1 dX11_text_106 hl (k := 3) rfl rfl (by decide) rfl (fun ls hl => ?_)
      refine lv_goto (tgt := 93) E.1 E.2.1 dX11_text_109 (by decide) ?_
      exact ih _ _ _ _ _ _ _ _ hf w t_v0 (lv_sub hl [1, 2, 3, 0] rfl)

def X11_text (N : Nat) (h : HS) (v0 : Nat) (v1 : Int32) (v2 : Int32) : Option (Int32 × HS) := (if (4 : Int32) < 0 ∨ 3736 ≤ (4 : Int32).toNatClampNeg then none else sq (wi h v0 2 (h.1 (v0 + 1) (4 : Int32).toNatClampNeg)) fun h2 => (if (4 : Int32) < 0 ∨ 3736 ≤ (4 : Int32).toNatClampNeg then none else sq (wi h2 (v0 + 1) (4 : Int32).toNatClampNeg 0) fun h4 => (if (5 : Int32) < 0 ∨ 3736 ≤ (5 : Int32).toNatClampNeg then none else sq (wi h4 (v0 + 1) (5 : Int32).toNatClampNeg 0) fun h6 => (if (6 : Int32) < 0 ∨ 3736 ≤ (6 : Int32).toNatClampNeg then none else sq (wi h6 (v0 + 1) (6 : Int32).toNatClampNeg (-1)) fun h8 => bd1 (X11_isIn N h8 v1 0 2) fun r10 => (if r10 = 0 then some ((-2), h8) else (if v2 = ((-1) : Int32) then (if v1 < 0 ∨ 3736 ≤ v1.toNatClampNeg then none else (if (h8.1 (v0 + 1) v1.toNatClampNeg) < (2 : Int32) then sq (wi h8 v0 3 0) fun h84 => sq (wi h84 v0 8 0) fun h85 => sq (wi h85 v0 9 (-1)) fun h86 => sq (wi h86 v0 10 (-1)) fun h87 => X11_text_l93 N N h87 v0 v1 v2 0 else some ((-2), h8))) else bd1 (X11_isOf N h8 v0 v1 v2) fun r15 => (if r15 = 0 then some ((-2), h8) else sq (wi h8 v0 3 0) fun h18 => sq (wi h18 v0 8 0) fun h19 => sq (wi h19 v0 9 (-1)) fun h20 => sq (wi h20 v0 10 (-1)) fun h21 => X11_text_l93 N N h21 v0 v1 v2 0)))))))
set_option maxRecDepth 4000 in
set_option maxHeartbeats 2000000 in
theorem X11_text_c {l : Launch} {G : GT} {N : Nat} {h : HS} {v0 : Nat} {v1 : Int32} {v2 : Int32} {z : (Int32 × HS)} (t_v0 : sh v0 = 11) (hf : X11_text N h v0 v1 v2 = some z) : CT l G yX11_text cX11_text 5 (some .int) 8 190 [.ref (ad G v0), .int v1, .int v2] h (some (.int z.1)) z.2 := by
  unfold X11_text at hf
  refine CT.of (by decide) (Nat.le_of_ble_eq_true rfl) ?_
  intro p e s m below meth c ls E hr hlk w hl
  have hl : lv_has ls 5 [(0, .ref (ad G v0)), (1, .int v1), (2, .int v2)] := hl
  refine lv_aload_n E.1 E.2.1 dX11_text_0 rfl (lv_at hl 0 rfl) ?_
  refine lv_aload_n E.1 E.2.1 dX11_text_1 rfl (lv_at hl 0 rfl) ?_
  refine q_gs E w 1 t_v0 fl_RX11_7 dX11_text_2 ?_
  refine lv_iconst (v := 4) E.1 E.2.1 dX11_text_5 rfl ?_
  obtain ⟨b1, hf⟩ := q_if hf
  refine q_iald E w ((lay_11_0 t_v0).1) ((lay_11_0 t_v0).2) b1 dX11_text_6 ?_
  refine p_pi E w t_v0 fl_RX11_68 (fp_11_2 _) dX11_text_7 (fun h2 H locs eh w => ?_)
  have hf := sq_e eh hf
  clear eh
  refine lv_aload_n E.1 E.2.1 dX11_text_10 rfl (lv_at hl 0 rfl) ?_
  refine q_gs E w 1 t_v0 fl_RX11_7 dX11_text_11 ?_
  refine lv_iconst (v := 4) E.1 E.2.1 dX11_text_14 rfl ?_
  refine lv_iconst (v := 0) E.1 E.2.1 dX11_text_15 rfl ?_
  obtain ⟨b3, hf⟩ := q_if hf
  refine p_iast E w ((lay_11_0 t_v0).1) ((lay_11_0 t_v0).2) b3 dX11_text_16 (fun h4 H locs eh w => ?_)
  have hf := sq_e eh hf
  clear eh
  refine lv_aload_n E.1 E.2.1 dX11_text_17 rfl (lv_at hl 0 rfl) ?_
  refine q_gs E w 1 t_v0 fl_RX11_7 dX11_text_18 ?_
  refine lv_iconst (v := 5) E.1 E.2.1 dX11_text_21 rfl ?_
  refine lv_iconst (v := 0) E.1 E.2.1 dX11_text_22 rfl ?_
  obtain ⟨b5, hf⟩ := q_if hf
  refine p_iast E w ((lay_11_0 t_v0).1) ((lay_11_0 t_v0).2) b5 dX11_text_23 (fun h6 H locs eh w => ?_)
  have hf := sq_e eh hf
  clear eh
  refine lv_aload_n E.1 E.2.1 dX11_text_24 rfl (lv_at hl 0 rfl) ?_
  refine q_gs E w 1 t_v0 fl_RX11_7 dX11_text_25 ?_
  refine lv_bipush (v := 6) E.1 E.2.1 dX11_text_28 rfl ?_
  refine lv_iconst (v := (-1)) E.1 E.2.1 dX11_text_30 rfl ?_
  obtain ⟨b7, hf⟩ := q_if hf
  refine p_iast E w ((lay_11_0 t_v0).1) ((lay_11_0 t_v0).2) b7 dX11_text_31 (fun h8 H locs eh w => ?_)
  have hf := sq_e eh hf
  clear eh
  refine lv_iload_n E.1 E.2.1 dX11_text_32 rfl (lv_at hl 1 rfl) ?_
  refine lv_iconst (v := 0) E.1 E.2.1 dX11_text_33 rfl ?_
  refine lv_iconst (v := 2) E.1 E.2.1 dX11_text_34 rfl ?_
  obtain ⟨r10, hc9, hf⟩ := bd1_e hf
  refine k_Si (As := [.int v1, .int 0, .int 2]) (rest := []) E w (X11_isIn_c  hc9) ms_RX11_123 rfl rfl hl.1 ⟨Nat.le_of_ble_eq_true rfl, Nat.le_of_ble_eq_true rfl⟩ (Nat.le_of_ble_eq_true rfl) ⟨Nat.le_refl _, Nat.le_refl _⟩ dX11_text_35 (fun H locs w => ?_)
  refine lv_if_eq (tgt := 68) E.1 E.2.1 dX11_text_38 (by decide) (fun c12 => ?_) (fun c12 => ?_)
  · have hf := q_pos c12 hf
    refine lv_bipush (v := (-2)) E.1 E.2.1 dX11_text_68 rfl ?_
    have hf := Option.some.inj hf
    subst hf
    exact q_iret E w hr hlk dX11_text_70
  · have hf := q_neg c12 hf
    refine lv_iload_n E.1 E.2.1 dX11_text_41 rfl (lv_at hl 2 rfl) ?_
    refine lv_iconst (v := (-1)) E.1 E.2.1 dX11_text_42 rfl ?_
    refine lv_icmp_ne (tgt := 59) E.1 E.2.1 dX11_text_43 (by decide) (fun c13 => ?_) (fun c13 => ?_)
    · have hf := q_neg c13 hf
      refine lv_aload_n E.1 E.2.1 dX11_text_59 rfl (lv_at hl 0 rfl) ?_
      refine lv_iload_n E.1 E.2.1 dX11_text_60 rfl (lv_at hl 1 rfl) ?_
      refine lv_iload_n E.1 E.2.1 dX11_text_61 rfl (lv_at hl 2 rfl) ?_
      obtain ⟨r15, hc14, hf⟩ := bd1_e hf
      refine k_Vi (As := [.int v1, .int v2]) (rest := []) E w t_v0 ⟨by decide, rfl⟩ (X11_isOf_c t_v0 hc14) mv_RX11_163 rfl rfl hl.1 ⟨Nat.le_of_ble_eq_true rfl, Nat.le_of_ble_eq_true rfl⟩ (Nat.le_of_ble_eq_true rfl) ⟨Nat.le_refl _, Nat.le_refl _⟩ dX11_text_62 (fun H locs w => ?_)
      refine lv_if_ne (tgt := 71) E.1 E.2.1 dX11_text_65 (by decide) (fun c17 => ?_) (fun c17 => ?_)
      · have hf := q_neg c17 hf
        refine lv_aload_n E.1 E.2.1 dX11_text_71 rfl (lv_at hl 0 rfl) ?_
        refine lv_iconst (v := 0) E.1 E.2.1 dX11_text_72 rfl ?_
        refine p_pi E w t_v0 fl_RX11_82 (fp_11_3 _) dX11_text_73 (fun h18 H locs eh w => ?_)
        have hf := sq_e eh hf
        clear eh
        refine lv_aload_n E.1 E.2.1 dX11_text_76 rfl (lv_at hl 0 rfl) ?_
        refine lv_iconst (v := 0) E.1 E.2.1 dX11_text_77 rfl ?_
        refine p_pi E w t_v0 fl_RX11_116 (fp_11_8_0) dX11_text_78 (fun h19 H locs eh w => ?_)
        have hf := sq_e eh hf
        clear eh
        refine lv_aload_n E.1 E.2.1 dX11_text_81 rfl (lv_at hl 0 rfl) ?_
        refine lv_iconst (v := (-1)) E.1 E.2.1 dX11_text_82 rfl ?_
        refine p_pi E w t_v0 fl_RX11_138 (fp_11_9 _) dX11_text_83 (fun h20 H locs eh w => ?_)
        have hf := sq_e eh hf
        clear eh
        refine lv_aload_n E.1 E.2.1 dX11_text_86 rfl (lv_at hl 0 rfl) ?_
        refine lv_iconst (v := (-1)) E.1 E.2.1 dX11_text_87 rfl ?_
        refine p_pi E w t_v0 fl_RX11_157 (fp_11_10 _) dX11_text_88 (fun h21 H locs eh w => ?_)
        have hf := sq_e eh hf
        clear eh
        refine lv_iconst (v := 0) E.1 E.2.1 dX11_text_91 rfl ?_
        refine lv_istore_n (lv' := [(3, .int 0), (0, .ref (ad G v0)), (1, .int v1), (2, .int v2)]) E.1 E.2.1 dX11_text_92 rfl hl (by decide) rfl (fun ls hl => ?_)
        exact X11_text_l93_w E hr hlk N _ _ _ _ _ _ _ _ hf w t_v0 (lv_sub hl [1, 2, 3, 0] rfl)
      · have hf := q_pos c17 hf
        refine lv_bipush (v := (-2)) E.1 E.2.1 dX11_text_68 rfl ?_
        have hf := Option.some.inj hf
        subst hf
        exact q_iret E w hr hlk dX11_text_70
    · have hf := q_pos c13 hf
      refine lv_aload_n E.1 E.2.1 dX11_text_46 rfl (lv_at hl 0 rfl) ?_
      refine q_gs E w 1 t_v0 fl_RX11_7 dX11_text_47 ?_
      refine lv_iload_n E.1 E.2.1 dX11_text_50 rfl (lv_at hl 1 rfl) ?_
      obtain ⟨b82, hf⟩ := q_if hf
      refine q_iald E w ((lay_11_0 t_v0).1) ((lay_11_0 t_v0).2) b82 dX11_text_51 ?_
      refine lv_iconst (v := 2) E.1 E.2.1 dX11_text_52 rfl ?_
      refine lv_icmp_lt (tgt := 71) E.1 E.2.1 dX11_text_53 (by decide) (fun c83 => ?_) (fun c83 => ?_)
      · have hf := q_pos c83 hf
        refine lv_aload_n E.1 E.2.1 dX11_text_71 rfl (lv_at hl 0 rfl) ?_
        refine lv_iconst (v := 0) E.1 E.2.1 dX11_text_72 rfl ?_
        refine p_pi E w t_v0 fl_RX11_82 (fp_11_3 _) dX11_text_73 (fun h84 H locs eh w => ?_)
        have hf := sq_e eh hf
        clear eh
        refine lv_aload_n E.1 E.2.1 dX11_text_76 rfl (lv_at hl 0 rfl) ?_
        refine lv_iconst (v := 0) E.1 E.2.1 dX11_text_77 rfl ?_
        refine p_pi E w t_v0 fl_RX11_116 (fp_11_8_0) dX11_text_78 (fun h85 H locs eh w => ?_)
        have hf := sq_e eh hf
        clear eh
        refine lv_aload_n E.1 E.2.1 dX11_text_81 rfl (lv_at hl 0 rfl) ?_
        refine lv_iconst (v := (-1)) E.1 E.2.1 dX11_text_82 rfl ?_
        refine p_pi E w t_v0 fl_RX11_138 (fp_11_9 _) dX11_text_83 (fun h86 H locs eh w => ?_)
        have hf := sq_e eh hf
        clear eh
        refine lv_aload_n E.1 E.2.1 dX11_text_86 rfl (lv_at hl 0 rfl) ?_
        refine lv_iconst (v := (-1)) E.1 E.2.1 dX11_text_87 rfl ?_
        refine p_pi E w t_v0 fl_RX11_157 (fp_11_10 _) dX11_text_88 (fun h87 H locs eh w => ?_)
        have hf := sq_e eh hf
        clear eh
        refine lv_iconst (v := 0) E.1 E.2.1 dX11_text_91 rfl ?_
        refine lv_istore_n (lv' := [(3, .int 0), (0, .ref (ad G v0)), (1, .int v1), (2, .int v2)]) E.1 E.2.1 dX11_text_92 rfl hl (by decide) rfl (fun ls hl => ?_)
        exact X11_text_l93_w E hr hlk N _ _ _ _ _ _ _ _ hf w t_v0 (lv_sub hl [1, 2, 3, 0] rfl)
      · have hf := q_neg c83 hf
        refine lv_goto (tgt := 68) E.1 E.2.1 dX11_text_56 (by decide) ?_
        refine lv_bipush (v := (-2)) E.1 E.2.1 dX11_text_68 rfl ?_
        have hf := Option.some.inj hf
        subst hf
        exact q_iret E w hr hlk dX11_text_70

def X11_fault (N : Nat) (h : HS) (v0 : Nat) (v1 : Int32) : Option Int32 := (if v1 = 0 then (if (5 : Int32) < 0 ∨ 3736 ≤ (5 : Int32).toNatClampNeg then none else some (h.1 (v0 + 1) (5 : Int32).toNatClampNeg)) else (if v1 = (1 : Int32) then (if (6 : Int32) < 0 ∨ 3736 ≤ (6 : Int32).toNatClampNeg then none else some (h.1 (v0 + 1) (6 : Int32).toNatClampNeg)) else some (-1)))
set_option maxRecDepth 4000 in
set_option maxHeartbeats 2000000 in
theorem X11_fault_c {l : Launch} {G : GT} {N : Nat} {h : HS} {v0 : Nat} {v1 : Int32} {z : Int32} (t_v0 : sh v0 = 11) (hf : X11_fault N h v0 v1 = some z) : CT l G yX11_fault cX11_fault 2 (some .int) 0 0 [.ref (ad G v0), .int v1] h (some (.int z)) h := by
  unfold X11_fault at hf
  refine CT.of (by decide) (Nat.le_of_ble_eq_true rfl) ?_
  intro p e s m below meth c ls E hr hlk w hl
  have hl : lv_has ls 2 [(0, .ref (ad G v0)), (1, .int v1)] := hl
  refine lv_iload_n E.1 E.2.1 dX11_fault_0 rfl (lv_at hl 1 rfl) ?_
  refine lv_if_ne (tgt := 13) E.1 E.2.1 dX11_fault_1 (by decide) (fun c1 => ?_) (fun c1 => ?_)
  · have hf := q_neg c1 hf
    refine lv_iload_n E.1 E.2.1 dX11_fault_13 rfl (lv_at hl 1 rfl) ?_
    refine lv_iconst (v := 1) E.1 E.2.1 dX11_fault_14 rfl ?_
    refine lv_icmp_ne (tgt := 28) E.1 E.2.1 dX11_fault_15 (by decide) (fun c2 => ?_) (fun c2 => ?_)
    · have hf := q_neg c2 hf
      refine lv_iconst (v := (-1)) E.1 E.2.1 dX11_fault_28 rfl ?_
      have hf := Option.some.inj hf
      subst hf
      exact q_iret E w hr hlk dX11_fault_29
    · have hf := q_pos c2 hf
      refine lv_aload_n E.1 E.2.1 dX11_fault_18 rfl (lv_at hl 0 rfl) ?_
      refine q_gs E w 1 t_v0 fl_RX11_7 dX11_fault_19 ?_
      refine lv_bipush (v := 6) E.1 E.2.1 dX11_fault_22 rfl ?_
      obtain ⟨b3, hf⟩ := q_if hf
      refine q_iald E w ((lay_11_0 t_v0).1) ((lay_11_0 t_v0).2) b3 dX11_fault_24 ?_
      refine lv_goto (tgt := 29) E.1 E.2.1 dX11_fault_25 (by decide) ?_
      have hf := Option.some.inj hf
      subst hf
      exact q_iret E w hr hlk dX11_fault_29
  · have hf := q_pos c1 hf
    refine lv_aload_n E.1 E.2.1 dX11_fault_4 rfl (lv_at hl 0 rfl) ?_
    refine q_gs E w 1 t_v0 fl_RX11_7 dX11_fault_5 ?_
    refine lv_iconst (v := 5) E.1 E.2.1 dX11_fault_8 rfl ?_
    obtain ⟨b4, hf⟩ := q_if hf
    refine q_iald E w ((lay_11_0 t_v0).1) ((lay_11_0 t_v0).2) b4 dX11_fault_9 ?_
    refine lv_goto (tgt := 29) E.1 E.2.1 dX11_fault_10 (by decide) ?_
    have hf := Option.some.inj hf
    subst hf
    exact q_iret E w hr hlk dX11_fault_29

def X11_isHouse (N : Nat) (h : HS) (v0 : Nat) (v1 : Int32) : Option (Int32 × HS) := bd1 (X11_isOf N h v0 0 v1) fun r2 => (if r2 = 0 then some (nz 0, h) else bd1 (X11_placeOf N h 0 v1) fun r6 => sq (wi h v0 12 r6) fun h8 => (if (h8.1 v0 12) < 0 ∨ 3736 ≤ (h8.1 v0 12).toNatClampNeg then none else sq (wi h8 v0 13 (h8.1 (v0 + 1) (h8.1 v0 12).toNatClampNeg)) fun h10 => (if ((h10.1 v0 12) + 1) < 0 ∨ 3736 ≤ ((h10.1 v0 12) + 1).toNatClampNeg then none else sq (wi h10 v0 14 (h10.1 (v0 + 1) ((h10.1 v0 12) + 1).toNatClampNeg)) fun h12 => (if ((h12.1 v0 12) + 2) < 0 ∨ 3736 ≤ ((h12.1 v0 12) + 2).toNatClampNeg then none else sq (wi h12 v0 15 (h12.1 (v0 + 1) ((h12.1 v0 12) + 2).toNatClampNeg)) fun h14 => some (nz 1, h14)))))
set_option maxRecDepth 4000 in
set_option maxHeartbeats 2000000 in
theorem X11_isHouse_c {l : Launch} {G : GT} {N : Nat} {h : HS} {v0 : Nat} {v1 : Int32} {z : (Int32 × HS)} (t_v0 : sh v0 = 11) (hf : X11_isHouse N h v0 v1 = some z) : CT l G yX11_isHouse cX11_isHouse 2 (some .boolean) 2 44 [.ref (ad G v0), .int v1] h (some (.int z.1)) z.2 := by
  unfold X11_isHouse at hf
  refine CT.of (by decide) (Nat.le_of_ble_eq_true rfl) ?_
  intro p e s m below meth c ls E hr hlk w hl
  have hl : lv_has ls 2 [(0, .ref (ad G v0)), (1, .int v1)] := hl
  refine lv_aload_n E.1 E.2.1 dX11_isHouse_0 rfl (lv_at hl 0 rfl) ?_
  refine lv_iconst (v := 0) E.1 E.2.1 dX11_isHouse_1 rfl ?_
  refine lv_iload_n E.1 E.2.1 dX11_isHouse_2 rfl (lv_at hl 1 rfl) ?_
  obtain ⟨r2, hc1, hf⟩ := bd1_e hf
  refine k_Vi (As := [.int 0, .int v1]) (rest := []) E w t_v0 ⟨by decide, rfl⟩ (X11_isOf_c t_v0 hc1) mv_RX11_163 rfl rfl hl.1 ⟨Nat.le_of_ble_eq_true rfl, Nat.le_of_ble_eq_true rfl⟩ (Nat.le_of_ble_eq_true rfl) ⟨Nat.le_refl _, Nat.le_refl _⟩ dX11_isHouse_3 (fun H locs w => ?_)
  refine lv_if_ne (tgt := 11) E.1 E.2.1 dX11_isHouse_6 (by decide) (fun c4 => ?_) (fun c4 => ?_)
  · have hf := q_neg c4 hf
    refine lv_aload_n E.1 E.2.1 dX11_isHouse_11 rfl (lv_at hl 0 rfl) ?_
    refine lv_iconst (v := 0) E.1 E.2.1 dX11_isHouse_12 rfl ?_
    refine lv_iload_n E.1 E.2.1 dX11_isHouse_13 rfl (lv_at hl 1 rfl) ?_
    obtain ⟨r6, hc5, hf⟩ := bd1_e hf
    refine k_Si (As := [.int 0, .int v1]) (rest := [.ref (ad G v0)]) E w (X11_placeOf_c  hc5) ms_RX11_179 rfl rfl hl.1 ⟨Nat.le_of_ble_eq_true rfl, Nat.le_of_ble_eq_true rfl⟩ (Nat.le_of_ble_eq_true rfl) ⟨Nat.le_refl _, Nat.le_refl _⟩ dX11_isHouse_14 (fun H locs w => ?_)
    refine p_pi E w t_v0 fl_RX11_182 (fp_11_12 _) dX11_isHouse_17 (fun h8 H locs eh w => ?_)
    have hf := sq_e eh hf
    clear eh
    refine lv_aload_n E.1 E.2.1 dX11_isHouse_20 rfl (lv_at hl 0 rfl) ?_
    refine lv_aload_n E.1 E.2.1 dX11_isHouse_21 rfl (lv_at hl 0 rfl) ?_
    refine q_gs E w 1 t_v0 fl_RX11_7 dX11_isHouse_22 ?_
    refine lv_aload_n E.1 E.2.1 dX11_isHouse_25 rfl (lv_at hl 0 rfl) ?_
    refine q_gi E w t_v0 fl_RX11_182 dX11_isHouse_26 ?_
    obtain ⟨b9, hf⟩ := q_if hf
    refine q_iald E w ((lay_11_0 t_v0).1) ((lay_11_0 t_v0).2) b9 dX11_isHouse_29 ?_
    refine p_pi E w t_v0 fl_RX11_185 (fp_11_13 _) dX11_isHouse_30 (fun h10 H locs eh w => ?_)
    have hf := sq_e eh hf
    clear eh
    refine lv_aload_n E.1 E.2.1 dX11_isHouse_33 rfl (lv_at hl 0 rfl) ?_
    refine lv_aload_n E.1 E.2.1 dX11_isHouse_34 rfl (lv_at hl 0 rfl) ?_
    refine q_gs E w 1 t_v0 fl_RX11_7 dX11_isHouse_35 ?_
    refine lv_aload_n E.1 E.2.1 dX11_isHouse_38 rfl (lv_at hl 0 rfl) ?_
    refine q_gi E w t_v0 fl_RX11_182 dX11_isHouse_39 ?_
    refine lv_iconst (v := 1) E.1 E.2.1 dX11_isHouse_42 rfl ?_
    refine lv_iadd E.1 E.2.1 dX11_isHouse_43 ?_
    obtain ⟨b11, hf⟩ := q_if hf
    refine q_iald E w ((lay_11_0 t_v0).1) ((lay_11_0 t_v0).2) b11 dX11_isHouse_44 ?_
    refine p_pi E w t_v0 fl_RX11_188 (fp_11_14 _) dX11_isHouse_45 (fun h12 H locs eh w => ?_)
    have hf := sq_e eh hf
    clear eh
    refine lv_aload_n E.1 E.2.1 dX11_isHouse_48 rfl (lv_at hl 0 rfl) ?_
    refine lv_aload_n E.1 E.2.1 dX11_isHouse_49 rfl (lv_at hl 0 rfl) ?_
    refine q_gs E w 1 t_v0 fl_RX11_7 dX11_isHouse_50 ?_
    refine lv_aload_n E.1 E.2.1 dX11_isHouse_53 rfl (lv_at hl 0 rfl) ?_
    refine q_gi E w t_v0 fl_RX11_182 dX11_isHouse_54 ?_
    refine lv_iconst (v := 2) E.1 E.2.1 dX11_isHouse_57 rfl ?_
    refine lv_iadd E.1 E.2.1 dX11_isHouse_58 ?_
    obtain ⟨b13, hf⟩ := q_if hf
    refine q_iald E w ((lay_11_0 t_v0).1) ((lay_11_0 t_v0).2) b13 dX11_isHouse_59 ?_
    refine p_pi E w t_v0 fl_RX11_191 (fp_11_15 _) dX11_isHouse_60 (fun h14 H locs eh w => ?_)
    have hf := sq_e eh hf
    clear eh
    refine lv_iconst (v := 1) E.1 E.2.1 dX11_isHouse_63 rfl ?_
    have hf := Option.some.inj hf
    subst hf
    exact q_zret E w hr hlk dX11_isHouse_64
  · have hf := q_pos c4 hf
    refine lv_iconst (v := 0) E.1 E.2.1 dX11_isHouse_9 rfl ?_
    have hf := Option.some.inj hf
    subst hf
    exact q_zret E w hr hlk dX11_isHouse_10

def X11_isFloor (N : Nat) (h : HS) (v0 : Nat) (v1 : Int32) : Option Int32 := bd1 (X11_isIn N h v1 0 ((h.1 v0 13) - 1)) fun r2 => some (nz r2)
set_option maxRecDepth 4000 in
set_option maxHeartbeats 2000000 in
theorem X11_isFloor_c {l : Launch} {G : GT} {N : Nat} {h : HS} {v0 : Nat} {v1 : Int32} {z : Int32} (t_v0 : sh v0 = 11) (hf : X11_isFloor N h v0 v1 = some z) : CT l G yX11_isFloor cX11_isFloor 2 (some .boolean) 1 22 [.ref (ad G v0), .int v1] h (some (.int z)) h := by
  unfold X11_isFloor at hf
  refine CT.of (by decide) (Nat.le_of_ble_eq_true rfl) ?_
  intro p e s m below meth c ls E hr hlk w hl
  have hl : lv_has ls 2 [(0, .ref (ad G v0)), (1, .int v1)] := hl
  refine lv_iload_n E.1 E.2.1 dX11_isFloor_0 rfl (lv_at hl 1 rfl) ?_
  refine lv_iconst (v := 0) E.1 E.2.1 dX11_isFloor_1 rfl ?_
  refine lv_aload_n E.1 E.2.1 dX11_isFloor_2 rfl (lv_at hl 0 rfl) ?_
  refine q_gi E w t_v0 fl_RX11_185 dX11_isFloor_3 ?_
  refine lv_iconst (v := 1) E.1 E.2.1 dX11_isFloor_6 rfl ?_
  refine lv_isub E.1 E.2.1 dX11_isFloor_7 ?_
  obtain ⟨r2, hc1, hf⟩ := bd1_e hf
  refine k_Si (As := [.int v1, .int 0, .int ((h.1 v0 13) - 1)]) (rest := []) E w (X11_isIn_c  hc1) ms_RX11_123 rfl rfl hl.1 ⟨Nat.le_of_ble_eq_true rfl, Nat.le_of_ble_eq_true rfl⟩ (Nat.le_of_ble_eq_true rfl) ⟨Nat.le_refl _, Nat.le_refl _⟩ dX11_isFloor_8 (fun H locs w => ?_)
  have hf := Option.some.inj hf
  subst hf
  exact q_zret E w hr hlk dX11_isFloor_11

def X11_isBar (N : Nat) (h : HS) (v0 : Nat) (v1 : Int32) : Option Int32 := bd1 (X11_isIn N h v1 0 ((h.1 v0 14) - 1)) fun r2 => some (nz r2)
set_option maxRecDepth 4000 in
set_option maxHeartbeats 2000000 in
theorem X11_isBar_c {l : Launch} {G : GT} {N : Nat} {h : HS} {v0 : Nat} {v1 : Int32} {z : Int32} (t_v0 : sh v0 = 11) (hf : X11_isBar N h v0 v1 = some z) : CT l G yX11_isBar cX11_isBar 2 (some .boolean) 1 22 [.ref (ad G v0), .int v1] h (some (.int z)) h := by
  unfold X11_isBar at hf
  refine CT.of (by decide) (Nat.le_of_ble_eq_true rfl) ?_
  intro p e s m below meth c ls E hr hlk w hl
  have hl : lv_has ls 2 [(0, .ref (ad G v0)), (1, .int v1)] := hl
  refine lv_iload_n E.1 E.2.1 dX11_isBar_0 rfl (lv_at hl 1 rfl) ?_
  refine lv_iconst (v := 0) E.1 E.2.1 dX11_isBar_1 rfl ?_
  refine lv_aload_n E.1 E.2.1 dX11_isBar_2 rfl (lv_at hl 0 rfl) ?_
  refine q_gi E w t_v0 fl_RX11_188 dX11_isBar_3 ?_
  refine lv_iconst (v := 1) E.1 E.2.1 dX11_isBar_6 rfl ?_
  refine lv_isub E.1 E.2.1 dX11_isBar_7 ?_
  obtain ⟨r2, hc1, hf⟩ := bd1_e hf
  refine k_Si (As := [.int v1, .int 0, .int ((h.1 v0 14) - 1)]) (rest := []) E w (X11_isIn_c  hc1) ms_RX11_123 rfl rfl hl.1 ⟨Nat.le_of_ble_eq_true rfl, Nat.le_of_ble_eq_true rfl⟩ (Nat.le_of_ble_eq_true rfl) ⟨Nat.le_refl _, Nat.le_refl _⟩ dX11_isBar_8 (fun H locs w => ?_)
  have hf := Option.some.inj hf
  subst hf
  exact q_zret E w hr hlk dX11_isBar_11

def X11_isSinger (N : Nat) (h : HS) (v0 : Nat) (v1 : Int32) : Option Int32 := bd1 (X11_isIn N h v1 0 ((h.1 v0 15) - 1)) fun r2 => some (nz r2)
set_option maxRecDepth 4000 in
set_option maxHeartbeats 2000000 in
theorem X11_isSinger_c {l : Launch} {G : GT} {N : Nat} {h : HS} {v0 : Nat} {v1 : Int32} {z : Int32} (t_v0 : sh v0 = 11) (hf : X11_isSinger N h v0 v1 = some z) : CT l G yX11_isSinger cX11_isSinger 2 (some .boolean) 1 22 [.ref (ad G v0), .int v1] h (some (.int z)) h := by
  unfold X11_isSinger at hf
  refine CT.of (by decide) (Nat.le_of_ble_eq_true rfl) ?_
  intro p e s m below meth c ls E hr hlk w hl
  have hl : lv_has ls 2 [(0, .ref (ad G v0)), (1, .int v1)] := hl
  refine lv_iload_n E.1 E.2.1 dX11_isSinger_0 rfl (lv_at hl 1 rfl) ?_
  refine lv_iconst (v := 0) E.1 E.2.1 dX11_isSinger_1 rfl ?_
  refine lv_aload_n E.1 E.2.1 dX11_isSinger_2 rfl (lv_at hl 0 rfl) ?_
  refine q_gi E w t_v0 fl_RX11_191 dX11_isSinger_3 ?_
  refine lv_iconst (v := 1) E.1 E.2.1 dX11_isSinger_6 rfl ?_
  refine lv_isub E.1 E.2.1 dX11_isSinger_7 ?_
  obtain ⟨r2, hc1, hf⟩ := bd1_e hf
  refine k_Si (As := [.int v1, .int 0, .int ((h.1 v0 15) - 1)]) (rest := []) E w (X11_isIn_c  hc1) ms_RX11_123 rfl rfl hl.1 ⟨Nat.le_of_ble_eq_true rfl, Nat.le_of_ble_eq_true rfl⟩ (Nat.le_of_ble_eq_true rfl) ⟨Nat.le_refl _, Nat.le_refl _⟩ dX11_isSinger_8 (fun H locs w => ?_)
  have hf := Option.some.inj hf
  subst hf
  exact q_zret E w hr hlk dX11_isSinger_11

def X11_rentOf (N : Nat) (h : HS) (v0 : Nat) (v1 : Int32) : Option Int32 := (if (((h.1 v0 12) + 5) + (2 * v1)) < 0 ∨ 3736 ≤ (((h.1 v0 12) + 5) + (2 * v1)).toNatClampNeg then none else some (h.1 (v0 + 1) (((h.1 v0 12) + 5) + (2 * v1)).toNatClampNeg))
set_option maxRecDepth 4000 in
set_option maxHeartbeats 2000000 in
theorem X11_rentOf_c {l : Launch} {G : GT} {N : Nat} {h : HS} {v0 : Nat} {v1 : Int32} {z : Int32} (t_v0 : sh v0 = 11) (hf : X11_rentOf N h v0 v1 = some z) : CT l G yX11_rentOf cX11_rentOf 2 (some .int) 0 0 [.ref (ad G v0), .int v1] h (some (.int z)) h := by
  unfold X11_rentOf at hf
  refine CT.of (by decide) (Nat.le_of_ble_eq_true rfl) ?_
  intro p e s m below meth c ls E hr hlk w hl
  have hl : lv_has ls 2 [(0, .ref (ad G v0)), (1, .int v1)] := hl
  refine lv_aload_n E.1 E.2.1 dX11_rentOf_0 rfl (lv_at hl 0 rfl) ?_
  refine q_gs E w 1 t_v0 fl_RX11_7 dX11_rentOf_1 ?_
  refine lv_aload_n E.1 E.2.1 dX11_rentOf_4 rfl (lv_at hl 0 rfl) ?_
  refine q_gi E w t_v0 fl_RX11_182 dX11_rentOf_5 ?_
  refine lv_iconst (v := 5) E.1 E.2.1 dX11_rentOf_8 rfl ?_
  refine lv_iadd E.1 E.2.1 dX11_rentOf_9 ?_
  refine lv_iconst (v := 2) E.1 E.2.1 dX11_rentOf_10 rfl ?_
  refine lv_iload_n E.1 E.2.1 dX11_rentOf_11 rfl (lv_at hl 1 rfl) ?_
  refine lv_imul E.1 E.2.1 dX11_rentOf_12 ?_
  refine lv_iadd E.1 E.2.1 dX11_rentOf_13 ?_
  obtain ⟨b1, hf⟩ := q_if hf
  refine q_iald E w ((lay_11_0 t_v0).1) ((lay_11_0 t_v0).2) b1 dX11_rentOf_14 ?_
  have hf := Option.some.inj hf
  subst hf
  exact q_iret E w hr hlk dX11_rentOf_15

def X11_peopleOf (N : Nat) (h : HS) (v0 : Nat) (v1 : Int32) : Option Int32 := (if ((((h.1 v0 12) + 5) + 1) + (2 * v1)) < 0 ∨ 3736 ≤ ((((h.1 v0 12) + 5) + 1) + (2 * v1)).toNatClampNeg then none else some (h.1 (v0 + 1) ((((h.1 v0 12) + 5) + 1) + (2 * v1)).toNatClampNeg))
set_option maxRecDepth 4000 in
set_option maxHeartbeats 2000000 in
theorem X11_peopleOf_c {l : Launch} {G : GT} {N : Nat} {h : HS} {v0 : Nat} {v1 : Int32} {z : Int32} (t_v0 : sh v0 = 11) (hf : X11_peopleOf N h v0 v1 = some z) : CT l G yX11_peopleOf cX11_peopleOf 2 (some .int) 0 0 [.ref (ad G v0), .int v1] h (some (.int z)) h := by
  unfold X11_peopleOf at hf
  refine CT.of (by decide) (Nat.le_of_ble_eq_true rfl) ?_
  intro p e s m below meth c ls E hr hlk w hl
  have hl : lv_has ls 2 [(0, .ref (ad G v0)), (1, .int v1)] := hl
  refine lv_aload_n E.1 E.2.1 dX11_peopleOf_0 rfl (lv_at hl 0 rfl) ?_
  refine q_gs E w 1 t_v0 fl_RX11_7 dX11_peopleOf_1 ?_
  refine lv_aload_n E.1 E.2.1 dX11_peopleOf_4 rfl (lv_at hl 0 rfl) ?_
  refine q_gi E w t_v0 fl_RX11_182 dX11_peopleOf_5 ?_
  refine lv_iconst (v := 5) E.1 E.2.1 dX11_peopleOf_8 rfl ?_
  refine lv_iadd E.1 E.2.1 dX11_peopleOf_9 ?_
  refine lv_iconst (v := 1) E.1 E.2.1 dX11_peopleOf_10 rfl ?_
  refine lv_iadd E.1 E.2.1 dX11_peopleOf_11 ?_
  refine lv_iconst (v := 2) E.1 E.2.1 dX11_peopleOf_12 rfl ?_
  refine lv_iload_n E.1 E.2.1 dX11_peopleOf_13 rfl (lv_at hl 1 rfl) ?_
  refine lv_imul E.1 E.2.1 dX11_peopleOf_14 ?_
  refine lv_iadd E.1 E.2.1 dX11_peopleOf_15 ?_
  obtain ⟨b1, hf⟩ := q_if hf
  refine q_iald E w ((lay_11_0 t_v0).1) ((lay_11_0 t_v0).2) b1 dX11_peopleOf_16 ?_
  have hf := Option.some.inj hf
  subst hf
  exact q_iret E w hr hlk dX11_peopleOf_17

def X11_noteOf (N : Nat) (h : HS) (v0 : Nat) (v1 : Int32) : Option Int32 := (if (((h.1 v0 12) + 17) + (4 * v1)) < 0 ∨ 3736 ≤ (((h.1 v0 12) + 17) + (4 * v1)).toNatClampNeg then none else some (h.1 (v0 + 1) (((h.1 v0 12) + 17) + (4 * v1)).toNatClampNeg))
set_option maxRecDepth 4000 in
set_option maxHeartbeats 2000000 in
theorem X11_noteOf_c {l : Launch} {G : GT} {N : Nat} {h : HS} {v0 : Nat} {v1 : Int32} {z : Int32} (t_v0 : sh v0 = 11) (hf : X11_noteOf N h v0 v1 = some z) : CT l G yX11_noteOf cX11_noteOf 2 (some .int) 0 0 [.ref (ad G v0), .int v1] h (some (.int z)) h := by
  unfold X11_noteOf at hf
  refine CT.of (by decide) (Nat.le_of_ble_eq_true rfl) ?_
  intro p e s m below meth c ls E hr hlk w hl
  have hl : lv_has ls 2 [(0, .ref (ad G v0)), (1, .int v1)] := hl
  refine lv_aload_n E.1 E.2.1 dX11_noteOf_0 rfl (lv_at hl 0 rfl) ?_
  refine q_gs E w 1 t_v0 fl_RX11_7 dX11_noteOf_1 ?_
  refine lv_aload_n E.1 E.2.1 dX11_noteOf_4 rfl (lv_at hl 0 rfl) ?_
  refine q_gi E w t_v0 fl_RX11_182 dX11_noteOf_5 ?_
  refine lv_bipush (v := 17) E.1 E.2.1 dX11_noteOf_8 rfl ?_
  refine lv_iadd E.1 E.2.1 dX11_noteOf_10 ?_
  refine lv_iconst (v := 4) E.1 E.2.1 dX11_noteOf_11 rfl ?_
  refine lv_iload_n E.1 E.2.1 dX11_noteOf_12 rfl (lv_at hl 1 rfl) ?_
  refine lv_imul E.1 E.2.1 dX11_noteOf_13 ?_
  refine lv_iadd E.1 E.2.1 dX11_noteOf_14 ?_
  obtain ⟨b1, hf⟩ := q_if hf
  refine q_iald E w ((lay_11_0 t_v0).1) ((lay_11_0 t_v0).2) b1 dX11_noteOf_15 ?_
  have hf := Option.some.inj hf
  subst hf
  exact q_iret E w hr hlk dX11_noteOf_16
