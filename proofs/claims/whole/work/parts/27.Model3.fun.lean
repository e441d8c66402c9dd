def X11_areNights (N : Nat) (h : HS) (v0 : Nat) (v1 : Int32) : Option (Int32 × HS) := bd1 (X11_isOf N h v0 1 v1) fun r2 => (if r2 = 0 then some (nz 0, h) else bd1 (X11_placeOf N h 1 v1) fun r6 => sq (wi h v0 32 r6) fun h8 => some (nz 1, h8))
set_option maxRecDepth 4000 in
set_option maxHeartbeats 2000000 in
theorem X11_areNights_c {l : Launch} {G : GT} {N : Nat} {h : HS} {v0 : Nat} {v1 : Int32} {z : (Int32 × HS)} (t_v0 : sh v0 = 11) (hf : X11_areNights N h v0 v1 = some z) : CT l G yX11_areNights cX11_areNights 2 (some .boolean) 2 44 [.ref (ad G v0), .int v1] h (some (.int z.1)) z.2 := by
  unfold X11_areNights at hf
  refine CT.of (by decide) (Nat.le_of_ble_eq_true rfl) ?_
  intro p e s m below meth c ls E hr hlk w hl
  have hl : lv_has ls 2 [(0, .ref (ad G v0)), (1, .int v1)] := hl
  refine lv_aload_n E.1 E.2.1 dX11_areNights_0 rfl (lv_at hl 0 rfl) ?_
  refine lv_iconst (v := 1) E.1 E.2.1 dX11_areNights_1 rfl ?_
  refine lv_iload_n E.1 E.2.1 dX11_areNights_2 rfl (lv_at hl 1 rfl) ?_
  obtain ⟨r2, hc1, hf⟩ := bd1_e hf
  refine k_Vi (As := [.int 1, .int v1]) (rest := []) E w t_v0 ⟨by decide, rfl⟩ (X11_isOf_c t_v0 hc1) mv_RX11_163 rfl rfl hl.1 ⟨Nat.le_of_ble_eq_true rfl, Nat.le_of_ble_eq_true rfl⟩ (Nat.le_of_ble_eq_true rfl) ⟨Nat.le_refl _, Nat.le_refl _⟩ dX11_areNights_3 (fun H locs w => ?_)
  refine lv_if_ne (tgt := 11) E.1 E.2.1 dX11_areNights_6 (by decide) (fun c4 => ?_) (fun c4 => ?_)
  · have hf := q_neg c4 hf
    refine lv_aload_n E.1 E.2.1 dX11_areNights_11 rfl (lv_at hl 0 rfl) ?_
    refine lv_iconst (v := 1) E.1 E.2.1 dX11_areNights_12 rfl ?_
    refine lv_iload_n E.1 E.2.1 dX11_areNights_13 rfl (lv_at hl 1 rfl) ?_
    obtain ⟨r6, hc5, hf⟩ := bd1_e hf
    refine k_Si (As := [.int 1, .int v1]) (rest := [.ref (ad G v0)]) E w (X11_placeOf_c  hc5) ms_RX11_179 rfl rfl hl.1 ⟨Nat.le_of_ble_eq_true rfl, Nat.le_of_ble_eq_true rfl⟩ (Nat.le_of_ble_eq_true rfl) ⟨Nat.le_refl _, Nat.le_refl _⟩ dX11_areNights_14 (fun H locs w => ?_)
    refine p_pi E w t_v0 fl_RX11_381 (fp_11_32 _) dX11_areNights_17 (fun h8 H locs eh w => ?_)
    have hf := sq_e eh hf
    clear eh
    refine lv_iconst (v := 1) E.1 E.2.1 dX11_areNights_20 rfl ?_
    have hf := Option.some.inj hf
    subst hf
    exact q_zret E w hr hlk dX11_areNights_21
  · have hf := q_pos c4 hf
    refine lv_iconst (v := 0) E.1 E.2.1 dX11_areNights_9 rfl ?_
    have hf := Option.some.inj hf
    subst hf
    exact q_zret E w hr hlk dX11_areNights_10

def X11_deed (N : Nat) (h : HS) (v0 : Nat) (v1 : Int32) (v2 : Int32) (v3 : Int32) : Option (Int32 × HS) := bd2 (X11_areNights N h v0 v1) fun r2 h3 => (if r2 = 0 then some ((-2), h3) else (if v2 = ((-1) : Int32) then (if v3 = 0 then (if (h3.1 v0 32) < 0 ∨ 3736 ≤ (h3.1 v0 32).toNatClampNeg then none else some (h3.1 (v0 + 1) (h3.1 v0 32).toNatClampNeg, h3)) else some ((-2), h3)) else (if (h3.1 v0 32) < 0 ∨ 3736 ≤ (h3.1 v0 32).toNatClampNeg then none else bd1 (X11_isIn N h3 v2 0 ((h3.1 (v0 + 1) (h3.1 v0 32).toNatClampNeg) - 1)) fun r8 => (if r8 = 0 then some ((-2), h3) else bd1 (X11_isIn N h3 v3 0 1) fun r12 => (if r12 = 0 then some ((-2), h3) else (if ((((h3.1 v0 32) + 1) + (2 * v2)) + v3) < 0 ∨ 3736 ≤ ((((h3.1 v0 32) + 1) + (2 * v2)) + v3).toNatClampNeg then none else some (h3.1 (v0 + 1) ((((h3.1 v0 32) + 1) + (2 * v2)) + v3).toNatClampNeg, h3)))))))
set_option maxRecDepth 4000 in
set_option maxHeartbeats 2000000 in
theorem X11_deed_c {l : Launch} {G : GT} {N : Nat} {h : HS} {v0 : Nat} {v1 : Int32} {v2 : Int32} {v3 : Int32} {z : (Int32 × HS)} (t_v0 : sh v0 = 11) (hf : X11_deed N h v0 v1 v2 v3 = some z) : CT l G yX11_deed cX11_deed 4 (some .int) 3 65 [.ref (ad G v0), .int v1, .int v2, .int v3] h (some (.int z.1)) z.2 := by
  unfold X11_deed at hf
  refine CT.of (by decide) (Nat.le_of_ble_eq_true rfl) ?_
  intro p e s m below meth c ls E hr hlk w hl
  have hl : lv_has ls 4 [(0, .ref (ad G v0)), (1, .int v1), (2, .int v2), (3, .int v3)] := hl
  refine lv_aload_n E.1 E.2.1 dX11_deed_0 rfl (lv_at hl 0 rfl) ?_
  refine lv_iload_n E.1 E.2.1 dX11_deed_1 rfl (lv_at hl 1 rfl) ?_
  obtain ⟨r2, h3, hc1, hf⟩ := bd2_e hf
  refine k_Vi (As := [.int v1]) (rest := []) E w t_v0 ⟨by decide, rfl⟩ (X11_areNights_c t_v0 hc1) mv_RX11_384 rfl rfl hl.1 ⟨Nat.le_of_ble_eq_true rfl, Nat.le_of_ble_eq_true rfl⟩ (Nat.le_of_ble_eq_true rfl) ⟨Nat.le_refl _, Nat.le_refl _⟩ dX11_deed_2 (fun H locs w => ?_)
  refine lv_if_ne (tgt := 11) E.1 E.2.1 dX11_deed_5 (by decide) (fun c4 => ?_) (fun c4 => ?_)
  · have hf := q_neg c4 hf
    refine lv_iload_n E.1 E.2.1 dX11_deed_11 rfl (lv_at hl 2 rfl) ?_
    refine lv_iconst (v := (-1)) E.1 E.2.1 dX11_deed_12 rfl ?_
    refine lv_icmp_ne (tgt := 35) E.1 E.2.1 dX11_deed_13 (by decide) (fun c5 => ?_) (fun c5 => ?_)
    · have hf := q_neg c5 hf
      refine lv_iload_n E.1 E.2.1 dX11_deed_35 rfl (lv_at hl 2 rfl) ?_
      refine lv_iconst (v := 0) E.1 E.2.1 dX11_deed_36 rfl ?_
      refine lv_aload_n E.1 E.2.1 dX11_deed_37 rfl (lv_at hl 0 rfl) ?_
      refine q_gs E w 1 t_v0 fl_RX11_7 dX11_deed_38 ?_
      refine lv_aload_n E.1 E.2.1 dX11_deed_41 rfl (lv_at hl 0 rfl) ?_
      refine q_gi E w t_v0 fl_RX11_381 dX11_deed_42 ?_
      obtain ⟨b6, hf⟩ := q_if hf
      refine q_iald E w ((lay_11_0 t_v0).1) ((lay_11_0 t_v0).2) b6 dX11_deed_45 ?_
      refine lv_iconst (v := 1) E.1 E.2.1 dX11_deed_46 rfl ?_
      refine lv_isub E.1 E.2.1 dX11_deed_47 ?_
      obtain ⟨r8, hc7, hf⟩ := bd1_e hf
      refine k_Si (As := [.int v2, .int 0, .int ((h3.1 (v0 + 1) (h3.1 v0 32).toNatClampNeg) - 1)]) (rest := []) E w (X11_isIn_c  hc7) ms_RX11_123 rfl rfl hl.1 ⟨Nat.le_of_ble_eq_true rfl, Nat.le_of_ble_eq_true rfl⟩ (Nat.le_of_ble_eq_true rfl) ⟨Nat.le_refl _, Nat.le_refl _⟩ dX11_deed_48 (fun H locs w => ?_)
      refine lv_if_eq (tgt := 83) E.1 E.2.1 dX11_deed_51 (by decide) (fun c10 => ?_) (fun c10 => ?_)
      · have hf := q_pos c10 hf
        refine lv_bipush (v := (-2)) E.1 E.2.1 dX11_deed_83 rfl ?_
        have hf := Option.some.inj hf
        subst hf
        exact q_iret E w hr hlk dX11_deed_85
      · have hf := q_neg c10 hf
        refine lv_iload_n E.1 E.2.1 dX11_deed_54 rfl (lv_at hl 3 rfl) ?_
        refine lv_iconst (v := 0) E.1 E.2.1 dX11_deed_55 rfl ?_
        refine lv_iconst (v := 1) E.1 E.2.1 dX11_deed_56 rfl ?_
        obtain ⟨r12, hc11, hf⟩ := bd1_e hf
        refine k_Si (As := [.int v3, .int 0, .int 1]) (rest := []) E w (X11_isIn_c  hc11) ms_RX11_123 rfl rfl hl.1 ⟨Nat.le_of_ble_eq_true rfl, Nat.le_of_ble_eq_true rfl⟩ (Nat.le_of_ble_eq_true rfl) ⟨Nat.le_refl _, Nat.le_refl _⟩ dX11_deed_57 (fun H locs w => ?_)
        refine lv_if_eq (tgt := 83) E.1 E.2.1 dX11_deed_60 (by decide) (fun c14 => ?_) (fun c14 => ?_)
        · have hf := q_pos c14 hf
          refine lv_bipush (v := (-2)) E.1 E.2.1 dX11_deed_83 rfl ?_
          have hf := Option.some.inj hf
          subst hf
          exact q_iret E w hr hlk dX11_deed_85
        · have hf := q_neg c14 hf
          refine lv_aload_n E.1 E.2.1 dX11_deed_63 rfl (lv_at hl 0 rfl) ?_
          refine q_gs E w 1 t_v0 fl_RX11_7 dX11_deed_64 ?_
          refine lv_aload_n E.1 E.2.1 dX11_deed_67 rfl (lv_at hl 0 rfl) ?_
          refine q_gi E w t_v0 fl_RX11_381 dX11_deed_68 ?_
          refine lv_iconst (v := 1) E.1 E.2.1 dX11_deed_71 rfl ?_
          refine lv_iadd E.1 E.2.1 dX11_deed_72 ?_
          refine lv_iconst (v := 2) E.1 E.2.1 dX11_deed_73 rfl ?_
          refine lv_iload_n E.1 E.2.1 dX11_deed_74 rfl (lv_at hl 2 rfl) ?_
          refine lv_imul E.1 E.2.1 dX11_deed_75 ?_
          refine lv_iadd E.1 E.2.1 dX11_deed_76 ?_
          refine lv_iload_n E.1 E.2.1 dX11_deed_77 rfl (lv_at hl 3 rfl) ?_
          refine lv_iadd E.1 E.2.1 dX11_deed_78 ?_
          obtain ⟨b15, hf⟩ := q_if hf
          refine q_iald E w ((lay_11_0 t_v0).1) ((lay_11_0 t_v0).2) b15 dX11_deed_79 ?_
          refine lv_goto (tgt := 85) E.1 E.2.1 dX11_deed_80 (by decide) ?_
          have hf := Option.some.inj hf
          subst hf
          exact q_iret E w hr hlk dX11_deed_85
    · have hf := q_pos c5 hf
      refine lv_iload_n E.1 E.2.1 dX11_deed_16 rfl (lv_at hl 3 rfl) ?_
      refine lv_if_ne (tgt := 32) E.1 E.2.1 dX11_deed_17 (by decide) (fun c16 => ?_) (fun c16 => ?_)
      · have hf := q_neg c16 hf
        refine lv_bipush (v := (-2)) E.1 E.2.1 dX11_deed_32 rfl ?_
        have hf := Option.some.inj hf
        subst hf
        exact q_iret E w hr hlk dX11_deed_34
      · have hf := q_pos c16 hf
        refine lv_aload_n E.1 E.2.1 dX11_deed_20 rfl (lv_at hl 0 rfl) ?_
        refine q_gs E w 1 t_v0 fl_RX11_7 dX11_deed_21 ?_
        refine lv_aload_n E.1 E.2.1 dX11_deed_24 rfl (lv_at hl 0 rfl) ?_
        refine q_gi E w t_v0 fl_RX11_381 dX11_deed_25 ?_
        obtain ⟨b17, hf⟩ := q_if hf
        refine q_iald E w ((lay_11_0 t_v0).1) ((lay_11_0 t_v0).2) b17 dX11_deed_28 ?_
        refine lv_goto (tgt := 34) E.1 E.2.1 dX11_deed_29 (by decide) ?_
        have hf := Option.some.inj hf
        subst hf
        exact q_iret E w hr hlk dX11_deed_34
  · have hf := q_pos c4 hf
    refine lv_bipush (v := (-2)) E.1 E.2.1 dX11_deed_8 rfl ?_
    have hf := Option.some.inj hf
    subst hf
    exact q_iret E w hr hlk dX11_deed_10

def X11_falls_l44 (N : Nat) : Nat → HS → Nat → Int32 → Option HS
  | 0, _, _, _ => none
  | n + 1, h, v0, v1 => (if (8 : Int32) ≤ v1 then some h else (if v1 < 0 ∨ 8 ≤ v1.toNatClampNeg then none else sq (wi h (v0 + 18) v1.toNatClampNeg (-1)) fun h7 => X11_falls_l44 N n h7 v0 (v1 + 1)))
set_option maxRecDepth 4000 in
set_option maxHeartbeats 2000000 in
theorem X11_falls_l44_w {p : Program} {l : Launch} {e : Env} {s : State} {m : MethodId} {args : Array Value} {below : List Frame} {meth : Method} {c : Code} {G : GT} {N : Nat} {z : HS} (E : CallFix p m c cX11_falls 2 s args UW RX11) (hr : meth.sig.returnType = none) (hlk : meth.locks = false) : ∀ (n : Nat) (h : HS) (H : Heap) (locs : List Loc) (ls : Array Slot) (v0 : Nat) (v1 : Int32), X11_falls_l44 N n h v0 v1 = some z → WD G s h H locs → sh v0 = 11 → lv_has ls 2 [(0, .ref (ad G v0)), (1, .int v1)] → W p l e ({ frames := 1, cells := 0, slots := 0, locals := 21 } : Room) s m args below meth c H locs 0 0 (MQ below (QC G none z) args s 0 0 (AD G)) (F0 m 44 ls []) := by
  intro n
  induction n with
  | zero =>
    intro h H locs ls v0 v1 hf
    cases hf
  | succ n ih =>
    intro h H locs ls v0 v1 hf w t_v0 hl
    unfold X11_falls_l44 at hf
    refine lv_iload_n E.1 E.2.1 dX11_falls_44 rfl (lv_at hl 1 rfl) ?_
    refine lv_bipush (v := 8) E.1 E.2.1 dX11_falls_45 rfl ?_
    refine lv_icmp_ge (tgt := 63) E.1 E.2.1 dX11_falls_47 (by decide) (fun c5 => ?_) (fun c5 => ?_)
    · have hf := q_pos c5 hf
      have hf := Option.some.inj hf
      subst hf
      exact q_vret E w hr hlk dX11_falls_63
    · have hf := q_neg c5 hf
      refine lv_aload_n E.1 E.2.1 dX11_falls_50 rfl (lv_at hl 0 rfl) ?_
      refine q_gs E w 18 t_v0 fl_RX11_62 dX11_falls_51 ?_
      refine lv_iload_n E.1 E.2.1 dX11_falls_54 rfl (lv_at hl 1 rfl) ?_
      refine lv_iconst (v := (-1)) E.1 E.2.1 dX11_falls_55 rfl ?_
      obtain ⟨b6, hf⟩ := q_if hf
      refine p_iast E w ((lay_11_47 t_v0).1) ((lay_11_47 t_v0).2) b6 dX11_falls_56 (fun h7 H locs eh w => ?_)
      have hf := sq_e eh hf
      clear eh
      refine lv_iinc (v := v1 + 1) (lv' := [(1, .int (v1 + 1)), (0, .ref (ad G v0))]) E.1 E.2.1 dX11_falls_57 hl (k := 1) rfl rfl (by decide) rfl (fun ls hl => ?_)
      refine lv_goto (tgt := 44) E.1 E.2.1 dX11_falls_60 (by decide) ?_
      exact ih _ _ _ _ _ _ hf w t_v0 (lv_sub hl [1, 0] rfl)

def X11_falls_l17 (N : Nat) : Nat → HS → Nat → Int32 → Option HS
  | 0, _, _, _ => none
  | n + 1, h, v0, v1 => (if (h.1 v0 15) ≤ v1 then X11_falls_l44 N N h v0 0 else bd1 (X11_breathOf N h v0 v1) fun r9 => (if v1 < 0 ∨ 5 ≤ v1.toNatClampNeg then none else sq (wi h (v0 + 16) v1.toNatClampNeg r9) fun h12 => X11_falls_l17 N n h12 v0 (v1 + 1)))
set_option maxRecDepth 4000 in
set_option maxHeartbeats 2000000 in
theorem X11_falls_l17_w {p : Program} {l : Launch} {e : Env} {s : State} {m : MethodId} {args : Array Value} {below : List Frame} {meth : Method} {c : Code} {G : GT} {N : Nat} {z : HS} (E : CallFix p m c cX11_falls 2 s args UW RX11) (hr : meth.sig.returnType = none) (hlk : meth.locks = false) : ∀ (n : Nat) (h : HS) (H : Heap) (locs : List Loc) (ls : Array Slot) (v0 : Nat) (v1 : Int32), X11_falls_l17 N n h v0 v1 = some z → WD G s h H locs → sh v0 = 11 → lv_has ls 2 [(0, .ref (ad G v0)), (1, .int v1)] → W p l e ({ frames := 1, cells := 0, slots := 0, locals := 21 } : Room) s m args below meth c H locs 0 0 (MQ below (QC G none z) args s 0 0 (AD G)) (F0 m 17 ls []) := by
  intro n
  induction n with
  | zero =>
    intro h H locs ls v0 v1 hf
    cases hf
  | succ n ih =>
    intro h H locs ls v0 v1 hf w t_v0 hl
    unfold X11_falls_l17 at hf
    refine lv_iload_n E.1 E.2.1 dX11_falls_17 rfl (lv_at hl 1 rfl) ?_
    refine lv_aload_n E.1 E.2.1 dX11_falls_18 rfl (lv_at hl 0 rfl) ?_
    refine q_gi E w t_v0 fl_RX11_191 dX11_falls_19 ?_
    refine lv_icmp_ge (tgt := 42) E.1 E.2.1 dX11_falls_22 (by decide) (fun c4 => ?_) (fun c4 => ?_)
    · have hf := q_pos c4 hf
      refine lv_iconst (v := 0) E.1 E.2.1 dX11_falls_42 rfl ?_
      refine lv_istore_n (lv' := [(1, .int 0), (0, .ref (ad G v0))]) E.1 E.2.1 dX11_falls_43 rfl hl (by decide) rfl (fun ls hl => ?_)
      exact X11_falls_l44_w E hr hlk N _ _ _ _ _ _ hf w t_v0 (lv_sub hl [1, 0] rfl)
    · have hf := q_neg c4 hf
      refine lv_aload_n E.1 E.2.1 dX11_falls_25 rfl (lv_at hl 0 rfl) ?_
      refine q_gs E w 16 t_v0 fl_RX11_56 dX11_falls_26 ?_
      refine lv_iload_n E.1 E.2.1 dX11_falls_29 rfl (lv_at hl 1 rfl) ?_
      refine lv_aload_n E.1 E.2.1 dX11_falls_30 rfl (lv_at hl 0 rfl) ?_
      refine lv_iload_n E.1 E.2.1 dX11_falls_31 rfl (lv_at hl 1 rfl) ?_
      obtain ⟨r9, hc8, hf⟩ := bd1_e hf
      refine k_Vi (As := [.int v1]) (rest := [.int v1, .ref (ad G (v0 + 16))]) E w t_v0 ⟨by decide, rfl⟩ (X11_breathOf_c t_v0 hc8) mv_RX11_218 rfl rfl hl.1 ⟨Nat.le_of_ble_eq_true rfl, Nat.le_of_ble_eq_true rfl⟩ (Nat.le_of_ble_eq_true rfl) ⟨Nat.le_refl _, Nat.le_refl _⟩ dX11_falls_32 (fun H locs w => ?_)
      obtain ⟨b11, hf⟩ := q_if hf
      refine p_iast E w ((lay_11_45 t_v0).1) ((lay_11_45 t_v0).2) b11 dX11_falls_35 (fun h12 H locs eh w => ?_)
      have hf := sq_e eh hf
      clear eh
      refine lv_iinc (v := v1 + 1) (lv' := [(1, .int (v1 + 1)), (0, .ref (ad G v0))]) E.1 E.2.1 dX11_falls_36 hl (k := 1) rfl rfl (by decide) rfl (fun ls hl => ?_)
      refine lv_goto (tgt := 17) E.1 E.2.1 dX11_falls_39 (by decide) ?_
      exact ih _ _ _ _ _ _ hf w t_v0 (lv_sub hl [1, 0] rfl)

def X11_falls (N : Nat) (h : HS) (v0 : Nat) : Option HS := sq (wi h v0 34 0) fun h1 => sq (wi h1 v0 35 0) fun h2 => sq (wi h2 v0 40 0) fun h3 => X11_falls_l17 N N h3 v0 0
set_option maxRecDepth 4000 in
set_option maxHeartbeats 2000000 in
theorem X11_falls_c {l : Launch} {G : GT} {N : Nat} {h : HS} {v0 : Nat} {z : HS} (t_v0 : sh v0 = 11) (hf : X11_falls N h v0 = some z) : CT l G yX11_falls cX11_falls 2 none 1 21 [.ref (ad G v0)] h none z := by
  unfold X11_falls at hf
  refine CT.of (by decide) (Nat.le_of_ble_eq_true rfl) ?_
  intro p e s m below meth c ls E hr hlk w hl
  have hl : lv_has ls 2 [(0, .ref (ad G v0))] := hl
  refine lv_aload_n E.1 E.2.1 dX11_falls_0 rfl (lv_at hl 0 rfl) ?_
  refine lv_iconst (v := 0) E.1 E.2.1 dX11_falls_1 rfl ?_
  refine p_pi E w t_v0 fl_RX11_387 (fp_11_34 _) dX11_falls_2 (fun h1 H locs eh w => ?_)
  have hf := sq_e eh hf
  clear eh
  refine lv_aload_n E.1 E.2.1 dX11_falls_5 rfl (lv_at hl 0 rfl) ?_
  refine lv_iconst (v := 0) E.1 E.2.1 dX11_falls_6 rfl ?_
  refine p_pi E w t_v0 fl_RX11_390 (fp_11_35 _) dX11_falls_7 (fun h2 H locs eh w => ?_)
  have hf := sq_e eh hf
  clear eh
  refine lv_aload_n E.1 E.2.1 dX11_falls_10 rfl (lv_at hl 0 rfl) ?_
  refine lv_iconst (v := 0) E.1 E.2.1 dX11_falls_11 rfl ?_
  refine p_pi E w t_v0 fl_RX11_393 (fp_11_40 _) dX11_falls_12 (fun h3 H locs eh w => ?_)
  have hf := sq_e eh hf
  clear eh
  refine lv_iconst (v := 0) E.1 E.2.1 dX11_falls_15 rfl ?_
  refine lv_istore_n (lv' := [(1, .int 0), (0, .ref (ad G v0))]) E.1 E.2.1 dX11_falls_16 rfl hl (by decide) rfl (fun ls hl => ?_)
  exact X11_falls_l17_w E hr hlk N _ _ _ _ _ _ hf w t_v0 (lv_sub hl [1, 0] rfl)

def X11_begins_l47 (N : Nat) : Nat → HS → Nat → Int32 → Option HS
  | 0, _, _, _ => none
  | n + 1, h, v0, v1 => (if (5 : Int32) ≤ v1 then bd1 (X11_falls N h v0) fun h13 => some h13 else (if v1 < 0 ∨ 5 ≤ v1.toNatClampNeg then none else sq (wi h (v0 + 17) v1.toNatClampNeg 0) fun h15 => X11_begins_l47 N n h15 v0 (v1 + 1)))
set_option maxRecDepth 4000 in
set_option maxHeartbeats 2000000 in
theorem X11_begins_l47_w {p : Program} {l : Launch} {e : Env} {s : State} {m : MethodId} {args : Array Value} {below : List Frame} {meth : Method} {c : Code} {G : GT} {N : Nat} {z : HS} (E : CallFix p m c cX11_begins 2 s args UW RX11) (hr : meth.sig.returnType = none) (hlk : meth.locks = false) : ∀ (n : Nat) (h : HS) (H : Heap) (locs : List Loc) (ls : Array Slot) (v0 : Nat) (v1 : Int32), X11_begins_l47 N n h v0 v1 = some z → WD G s h H locs → sh v0 = 11 → lv_has ls 2 [(0, .ref (ad G v0)), (1, .int v1)] → W p l e ({ frames := 2, cells := 0, slots := 0, locals := 42 } : Room) s m args below meth c H locs 0 0 (MQ below (QC G none z) args s 0 0 (AD G)) (F0 m 47 ls []) := by
  intro n
  induction n with
  | zero =>
    intro h H locs ls v0 v1 hf
    cases hf
  | succ n ih =>
    intro h H locs ls v0 v1 hf w t_v0 hl
    unfold X11_begins_l47 at hf
    refine lv_iload_n E.1 E.2.1 dX11_begins_47 rfl (lv_at hl 1 rfl) ?_
    refine lv_iconst (v := 5) E.1 E.2.1 dX11_begins_48 rfl ?_
    refine lv_icmp_ge (tgt := 65) E.1 E.2.1 dX11_begins_49 (by decide) (fun c10 => ?_) (fun c10 => ?_)
    · have hf := q_pos c10 hf
      refine lv_aload_n E.1 E.2.1 dX11_begins_65 rfl (lv_at hl 0 rfl) ?_
      obtain ⟨h13, hc11, hf⟩ := bd1_e hf
      refine k_Vv (As := []) (rest := []) E w t_v0 ⟨by decide, rfl⟩ (X11_falls_c t_v0 hc11) mv_RX11_423 rfl rfl hl.1 ⟨Nat.le_of_ble_eq_true rfl, Nat.le_of_ble_eq_true rfl⟩ (Nat.le_of_ble_eq_true rfl) ⟨Nat.le_refl _, Nat.le_refl _⟩ dX11_begins_66 (fun H locs w => ?_)
      have hf := Option.some.inj hf
      subst hf
      exact q_vret E w hr hlk dX11_begins_69
    · have hf := q_neg c10 hf
      refine lv_aload_n E.1 E.2.1 dX11_begins_52 rfl (lv_at hl 0 rfl) ?_
      refine q_gs E w 17 t_v0 fl_RX11_59 dX11_begins_53 ?_
      refine lv_iload_n E.1 E.2.1 dX11_begins_56 rfl (lv_at hl 1 rfl) ?_
      refine lv_iconst (v := 0) E.1 E.2.1 dX11_begins_57 rfl ?_
      obtain ⟨b14, hf⟩ := q_if hf
      refine p_iast E w ((lay_11_46 t_v0).1) ((lay_11_46 t_v0).2) b14 dX11_begins_58 (fun h15 H locs eh w => ?_)
      have hf := sq_e eh hf
      clear eh
      refine lv_iinc (v := v1 + 1) (lv' := [(1, .int (v1 + 1)), (0, .ref (ad G v0))]) E.1 E.2.1 dX11_begins_59 hl (k := 1) rfl rfl (by decide) rfl (fun ls hl => ?_)
      refine lv_goto (tgt := 47) E.1 E.2.1 dX11_begins_62 (by decide) ?_
      exact ih _ _ _ _ _ _ hf w t_v0 (lv_sub hl [1, 0] rfl)

def X11_begins (N : Nat) (h : HS) (v0 : Nat) : Option HS := sq (wi h v0 33 0) fun h1 => sq (wi h1 v0 36 0) fun h2 => sq (wi h2 v0 37 0) fun h3 => sq (wi h3 v0 38 0) fun h4 => sq (wi h4 v0 39 0) fun h5 => sq (wi h5 v0 41 0) fun h6 => sq (wi h6 v0 42 (-1)) fun h7 => sq (wi h7 v0 43 (-1)) fun h8 => sq (wi h8 v0 44 0) fun h9 => X11_begins_l47 N N h9 v0 0
set_option maxRecDepth 4000 in
set_option maxHeartbeats 2000000 in
theorem X11_begins_c {l : Launch} {G : GT} {N : Nat} {h : HS} {v0 : Nat} {z : HS} (t_v0 : sh v0 = 11) (hf : X11_begins N h v0 = some z) : CT l G yX11_begins cX11_begins 2 none 2 42 [.ref (ad G v0)] h none z := by
  unfold X11_begins at hf
  refine CT.of (by decide) (Nat.le_of_ble_eq_true rfl) ?_
  intro p e s m below meth c ls E hr hlk w hl
  have hl : lv_has ls 2 [(0, .ref (ad G v0))] := hl
  refine lv_aload_n E.1 E.2.1 dX11_begins_0 rfl (lv_at hl 0 rfl) ?_
  refine lv_iconst (v := 0) E.1 E.2.1 dX11_begins_1 rfl ?_
  refine p_pi E w t_v0 fl_RX11_396 (fp_11_33 _) dX11_begins_2 (fun h1 H locs eh w => ?_)
  have hf := sq_e eh hf
  clear eh
  refine lv_aload_n E.1 E.2.1 dX11_begins_5 rfl (lv_at hl 0 rfl) ?_
  refine lv_iconst (v := 0) E.1 E.2.1 dX11_begins_6 rfl ?_
  refine p_pi E w t_v0 fl_RX11_399 (fp_11_36 _) dX11_begins_7 (fun h2 H locs eh w => ?_)
  have hf := sq_e eh hf
  clear eh
  refine lv_aload_n E.1 E.2.1 dX11_begins_10 rfl (lv_at hl 0 rfl) ?_
  refine lv_iconst (v := 0) E.1 E.2.1 dX11_begins_11 rfl ?_
  refine p_pi E w t_v0 fl_RX11_402 (fp_11_37 _) dX11_begins_12 (fun h3 H locs eh w => ?_)
  have hf := sq_e eh hf
  clear eh
  refine lv_aload_n E.1 E.2.1 dX11_begins_15 rfl (lv_at hl 0 rfl) ?_
  refine lv_iconst (v := 0) E.1 E.2.1 dX11_begins_16 rfl ?_
  refine p_pi E w t_v0 fl_RX11_405 (fp_11_38 _) dX11_begins_17 (fun h4 H locs eh w => ?_)
  have hf := sq_e eh hf
  clear eh
  refine lv_aload_n E.1 E.2.1 dX11_begins_20 rfl (lv_at hl 0 rfl) ?_
  refine lv_iconst (v := 0) E.1 E.2.1 dX11_begins_21 rfl ?_
  refine p_pi E w t_v0 fl_RX11_408 (fp_11_39 _) dX11_begins_22 (fun h5 H locs eh w => ?_)
  have hf := sq_e eh hf
  clear eh
  refine lv_aload_n E.1 E.2.1 dX11_begins_25 rfl (lv_at hl 0 rfl) ?_
  refine lv_iconst (v := 0) E.1 E.2.1 dX11_begins_26 rfl ?_
  refine p_pi E w t_v0 fl_RX11_411 (fp_11_41 _) dX11_begins_27 (fun h6 H locs eh w => ?_)
  have hf := sq_e eh hf
  clear eh
  refine lv_aload_n E.1 E.2.1 dX11_begins_30 rfl (lv_at hl 0 rfl) ?_
  refine lv_iconst (v := (-1)) E.1 E.2.1 dX11_begins_31 rfl ?_
  refine p_pi E w t_v0 fl_RX11_414 (fp_11_42 _) dX11_begins_32 (fun h7 H locs eh w => ?_)
  have hf := sq_e eh hf
  clear eh
  refine lv_aload_n E.1 E.2.1 dX11_begins_35 rfl (lv_at hl 0 rfl) ?_
  refine lv_iconst (v := (-1)) E.1 E.2.1 dX11_begins_36 rfl ?_
  refine p_pi E w t_v0 fl_RX11_417 (fp_11_43 _) dX11_begins_37 (fun h8 H locs eh w => ?_)
  have hf := sq_e eh hf
  clear eh
  refine lv_aload_n E.1 E.2.1 dX11_begins_40 rfl (lv_at hl 0 rfl) ?_
  refine lv_iconst (v := 0) E.1 E.2.1 dX11_begins_41 rfl ?_
  refine p_pi E w t_v0 fl_RX11_420 (fp_11_44 _) dX11_begins_42 (fun h9 H locs eh w => ?_)
  have hf := sq_e eh hf
  clear eh
  refine lv_iconst (v := 0) E.1 E.2.1 dX11_begins_45 rfl ?_
  refine lv_istore_n (lv' := [(1, .int 0), (0, .ref (ad G v0))]) E.1 E.2.1 dX11_begins_46 rfl hl (by decide) rfl (fun ls hl => ?_)
  exact X11_begins_l47_w E hr hlk N _ _ _ _ _ _ hf w t_v0 (lv_sub hl [1, 0] rfl)

def X11_nextBar_l5 (N : Nat) (h : HS) : Nat → Nat → Int32 → Option Int32
  | 0, _, _ => none
  | n + 1, v0, v1 => (if (h.1 v0 14) ≤ v1 then (if (h.1 v0 14) ≤ v1 then some (-1) else some v1) else bd1 (X11_noteOf N h v0 v1) fun r4 => (if r4 = 0 then X11_nextBar_l5 N h n v0 (v1 + 1) else (if (h.1 v0 14) ≤ v1 then some (-1) else some v1)))
set_option maxRecDepth 4000 in
set_option maxHeartbeats 2000000 in
theorem X11_nextBar_l5_w {p : Program} {l : Launch} {e : Env} {s : State} {m : MethodId} {args : Array Value} {below : List Frame} {meth : Method} {c : Code} {G : GT} {N : Nat} {h : HS} {z : Int32} (E : CallFix p m c cX11_nextBar 2 s args UW RX11) (hr : meth.sig.returnType = (some .int)) (hlk : meth.locks = false) : ∀ (n : Nat) (H : Heap) (locs : List Loc) (ls : Array Slot) (v0 : Nat) (v1 : Int32), X11_nextBar_l5 N h n v0 v1 = some z → WD G s h H locs → sh v0 = 11 → lv_has ls 2 [(0, .ref (ad G v0)), (1, .int v1)] → W p l e ({ frames := 1, cells := 0, slots := 0, locals := 21 } : Room) s m args below meth c H locs 0 0 (MQ below (QC G (some (.int z)) h) args s 0 0 (AD G)) (F0 m 5 ls []) := by
  intro n
  induction n with
  | zero =>
    intro H locs ls v0 v1 hf
    cases hf
  | succ n ih =>
    intro H locs ls v0 v1 hf w t_v0 hl
    unfold X11_nextBar_l5 at hf
    refine lv_iload_n E.1 E.2.1 dX11_nextBar_5 rfl (lv_at hl 1 rfl) ?_
    refine lv_aload_n E.1 E.2.1 dX11_nextBar_6 rfl (lv_at hl 0 rfl) ?_
    refine q_gi E w t_v0 fl_RX11_188 dX11_nextBar_7 ?_
    refine lv_icmp_ge (tgt := 27) E.1 E.2.1 dX11_nextBar_10 (by decide) (fun c1 => ?_) (fun c1 => ?_)
    · have hf := q_pos c1 hf
      refine lv_iload_n E.1 E.2.1 dX11_nextBar_27 rfl (lv_at hl 1 rfl) ?_
      refine lv_aload_n E.1 E.2.1 dX11_nextBar_28 rfl (lv_at hl 0 rfl) ?_
      refine q_gi E w t_v0 fl_RX11_188 dX11_nextBar_29 ?_
      refine lv_icmp_ge (tgt := 39) E.1 E.2.1 dX11_nextBar_32 (by decide) (fun c2 => ?_) (fun c2 => ?_)
      · have hf := q_pos c2 hf
        refine lv_iconst (v := (-1)) E.1 E.2.1 dX11_nextBar_39 rfl ?_
        have hf := Option.some.inj hf
        subst hf
        exact q_iret E w hr hlk dX11_nextBar_40
      · have hf := q_neg c2 hf
        refine lv_iload_n E.1 E.2.1 dX11_nextBar_35 rfl (lv_at hl 1 rfl) ?_
        refine lv_goto (tgt := 40) E.1 E.2.1 dX11_nextBar_36 (by decide) ?_
        have hf := Option.some.inj hf
        subst hf
        exact q_iret E w hr hlk dX11_nextBar_40
    · have hf := q_neg c1 hf
      refine lv_aload_n E.1 E.2.1 dX11_nextBar_13 rfl (lv_at hl 0 rfl) ?_
      refine lv_iload_n E.1 E.2.1 dX11_nextBar_14 rfl (lv_at hl 1 rfl) ?_
      obtain ⟨r4, hc3, hf⟩ := bd1_e hf
      refine k_Vi (As := [.int v1]) (rest := []) E w t_v0 ⟨by decide, rfl⟩ (X11_noteOf_c t_v0 hc3) mv_RX11_194 rfl rfl hl.1 ⟨Nat.le_of_ble_eq_true rfl, Nat.le_of_ble_eq_true rfl⟩ (Nat.le_of_ble_eq_true rfl) ⟨Nat.le_refl _, Nat.le_refl _⟩ dX11_nextBar_15 (fun H locs w => ?_)
      refine lv_if_ne (tgt := 27) E.1 E.2.1 dX11_nextBar_18 (by decide) (fun c6 => ?_) (fun c6 => ?_)
      · have hf := q_neg c6 hf
        refine lv_iload_n E.1 E.2.1 dX11_nextBar_27 rfl (lv_at hl 1 rfl) ?_
        refine lv_aload_n E.1 E.2.1 dX11_nextBar_28 rfl (lv_at hl 0 rfl) ?_
        refine q_gi E w t_v0 fl_RX11_188 dX11_nextBar_29 ?_
        refine lv_icmp_ge (tgt := 39) E.1 E.2.1 dX11_nextBar_32 (by decide) (fun c7 => ?_) (fun c7 => ?_)
        · have hf := q_pos c7 hf
          refine lv_iconst (v := (-1)) E.1 E.2.1 dX11_nextBar_39 rfl ?_
          have hf := Option.some.inj hf
          subst hf
          exact q_iret E w hr hlk dX11_nextBar_40
        · have hf := q_neg c7 hf
          refine lv_iload_n E.1 E.2.1 dX11_nextBar_35 rfl (lv_at hl 1 rfl) ?_
          refine lv_goto (tgt := 40) E.1 E.2.1 dX11_nextBar_36 (by decide) ?_
          have hf := Option.some.inj hf
          subst hf
          exact q_iret E w hr hlk dX11_nextBar_40
      · have hf := q_pos c6 hf
        refine lv_iinc (v := v1 + 1) (lv' := [(1, .int (v1 + 1)), (0, .ref (ad G v0))]) E.1 E.2.1 dX11_nextBar_21 hl (k := 1) rfl rfl (by decide) rfl (fun ls hl => ?_)
        refine lv_goto (tgt := 5) E.1 E.2.1 dX11_nextBar_24 (by decide) ?_
        exact ih _ _ _ _ _ hf w t_v0 (lv_sub hl [1, 0] rfl)

def X11_nextBar (N : Nat) (h : HS) (v0 : Nat) : Option Int32 := X11_nextBar_l5 N h N v0 (h.1 v0 34)
set_option maxRecDepth 4000 in
set_option maxHeartbeats 2000000 in
theorem X11_nextBar_c {l : Launch} {G : GT} {N : Nat} {h : HS} {v0 : Nat} {z : Int32} (t_v0 : sh v0 = 11) (hf : X11_nextBar N h v0 = some z) : CT l G yX11_nextBar cX11_nextBar 2 (some .int) 1 21 [.ref (ad G v0)] h (some (.int z)) h := by
  unfold X11_nextBar at hf
  refine CT.of (by decide) (Nat.le_of_ble_eq_true rfl) ?_
  intro p e s m below meth c ls E hr hlk w hl
  have hl : lv_has ls 2 [(0, .ref (ad G v0))] := hl
  refine lv_aload_n E.1 E.2.1 dX11_nextBar_0 rfl (lv_at hl 0 rfl) ?_
  refine q_gi E w t_v0 fl_RX11_387 dX11_nextBar_1 ?_
  refine lv_istore_n (lv' := [(1, .int (h.1 v0 34)), (0, .ref (ad G v0))]) E.1 E.2.1 dX11_nextBar_4 rfl hl (by decide) rfl (fun ls hl => ?_)
  exact X11_nextBar_l5_w E hr hlk N _ _ _ _ _ hf w t_v0 (lv_sub hl [1, 0] rfl)

def X11_lastSinger (N : Nat) (h : HS) (v0 : Nat) : Option Int32 := bd1 (X11_nextBar N h v0) fun r2 => (if r2 ≤ 0 then some (-1) else (if (r2 - 1) < 0 ∨ 8 ≤ (r2 - 1).toNatClampNeg then none else some (h.1 (v0 + 18) (r2 - 1).toNatClampNeg)))
set_option maxRecDepth 4000 in
set_option maxHeartbeats 2000000 in
theorem X11_lastSinger_c {l : Launch} {G : GT} {N : Nat} {h : HS} {v0 : Nat} {z : Int32} (t_v0 : sh v0 = 11) (hf : X11_lastSinger N h v0 = some z) : CT l G yX11_lastSinger cX11_lastSinger 2 (some .int) 2 42 [.ref (ad G v0)] h (some (.int z)) h := by
  unfold X11_lastSinger at hf
  refine CT.of (by decide) (Nat.le_of_ble_eq_true rfl) ?_
  intro p e s m below meth c ls E hr hlk w hl
  have hl : lv_has ls 2 [(0, .ref (ad G v0))] := hl
  refine lv_aload_n E.1 E.2.1 dX11_lastSinger_0 rfl (lv_at hl 0 rfl) ?_
  obtain ⟨r2, hc1, hf⟩ := bd1_e hf
  refine k_Vi (As := []) (rest := []) E w t_v0 ⟨by decide, rfl⟩ (X11_nextBar_c t_v0 hc1) mv_RX11_426 rfl rfl hl.1 ⟨Nat.le_of_ble_eq_true rfl, Nat.le_of_ble_eq_true rfl⟩ (Nat.le_of_ble_eq_true rfl) ⟨Nat.le_refl _, Nat.le_refl _⟩ dX11_lastSinger_1 (fun H locs w => ?_)
  refine lv_istore_n (lv' := [(1, .int r2), (0, .ref (ad G v0))]) E.1 E.2.1 dX11_lastSinger_4 rfl hl (by decide) rfl (fun ls hl => ?_)
  refine lv_iload_n E.1 E.2.1 dX11_lastSinger_5 rfl (lv_at hl 0 rfl) ?_
  refine lv_if_le (tgt := 20) E.1 E.2.1 dX11_lastSinger_6 (by decide) (fun c4 => ?_) (fun c4 => ?_)
  · have hf := q_pos c4 hf
    refine lv_iconst (v := (-1)) E.1 E.2.1 dX11_lastSinger_20 rfl ?_
    have hf := Option.some.inj hf
    subst hf
    exact q_iret E w hr hlk dX11_lastSinger_21
  · have hf := q_neg c4 hf
    refine lv_aload_n E.1 E.2.1 dX11_lastSinger_9 rfl (lv_at hl 1 rfl) ?_
    refine q_gs E w 18 t_v0 fl_RX11_62 dX11_lastSinger_10 ?_
    refine lv_iload_n E.1 E.2.1 dX11_lastSinger_13 rfl (lv_at hl 0 rfl) ?_
    refine lv_iconst (v := 1) E.1 E.2.1 dX11_lastSinger_14 rfl ?_
    refine lv_isub E.1 E.2.1 dX11_lastSinger_15 ?_
    obtain ⟨b5, hf⟩ := q_if hf
    refine q_iald E w ((lay_11_47 t_v0).1) ((lay_11_47 t_v0).2) b5 dX11_lastSinger_16 ?_
    refine lv_goto (tgt := 21) E.1 E.2.1 dX11_lastSinger_17 (by decide) ?_
    have hf := Option.some.inj hf
    subst hf
    exact q_iret E w hr hlk dX11_lastSinger_21

def X11_sings (N : Nat) (h : HS) (v0 : Nat) (v1 : Int32) : Option (Int32 × HS) := bd1 (X11_nextBar N h v0) fun r2 => bd1 (X11_isSinger N h v0 v1) fun r5 => (if r5 = 0 then some (nz 0, h) else (if r2 = ((-1) : Int32) then some (nz 0, h) else bd1 (X11_lastSinger N h v0) fun r10 => (if r10 = v1 then some (nz 0, h) else (if v1 < 0 ∨ 5 ≤ v1.toNatClampNeg then none else bd1 (X11_longOf N h v0 r2) fun r15 => (if r15 ≤ (h.1 (v0 + 16) v1.toNatClampNeg) then (if v1 < 0 ∨ 5 ≤ v1.toNatClampNeg then none else bd1 (X11_longOf N h v0 r2) fun r20 => (if v1 < 0 ∨ 5 ≤ v1.toNatClampNeg then none else sq (wi h (v0 + 16) v1.toNatClampNeg ((h.1 (v0 + 16) v1.toNatClampNeg) - r20)) fun h23 => (if v1 < 0 ∨ 5 ≤ v1.toNatClampNeg then none else (if v1 < 0 ∨ 5 ≤ v1.toNatClampNeg then none else sq (wi h23 (v0 + 17) v1.toNatClampNeg ((h23.1 (v0 + 17) v1.toNatClampNeg) + 1)) fun h26 => bd1 (X11_noteOf N h26 v0 r2) fun r28 => bd1 (X11_reaches N h26 v0 v1 r28 ((((h26.1 v0 39) >>> (v1 &&& 31)) &&& 1) * 2)) fun r31 => (if r31 = 0 then sq (wi h26 v0 38 ((h26.1 v0 38) + 1)) fun h37 => bd1 (X11_floorOf N h37 v0 r2) fun r39 => sq (wi h37 v0 40 ((h37.1 v0 40) ||| ((1 : Int32) <<< (r39 &&& 31)))) fun h41 => (if r2 < 0 ∨ 8 ≤ r2.toNatClampNeg then none else sq (wi h41 (v0 + 18) r2.toNatClampNeg v1) fun h43 => sq (wi h43 v0 34 (r2 + 1)) fun h44 => some (nz 1, h44)) else (if r2 < 0 ∨ 8 ≤ r2.toNatClampNeg then none else sq (wi h26 (v0 + 18) r2.toNatClampNeg v1) fun h35 => sq (wi h35 v0 34 (r2 + 1)) fun h36 => some (nz 1, h36))))))) else some (nz 0, h))))))
set_option maxRecDepth 4000 in
set_option maxHeartbeats 2000000 in
theorem X11_sings_c {l : Launch} {G : GT} {N : Nat} {h : HS} {v0 : Nat} {v1 : Int32} {z : (Int32 × HS)} (t_v0 : sh v0 = 11) (hf : X11_sings N h v0 v1 = some z) : CT l G yX11_sings cX11_sings 3 (some .boolean) 3 63 [.ref (ad G v0), .int v1] h (some (.int z.1)) z.2 := by
  unfold X11_sings at hf
  refine CT.of (by decide) (Nat.le_of_ble_eq_true rfl) ?_
  intro p e s m below meth c ls E hr hlk w hl
  have hl : lv_has ls 3 [(0, .ref (ad G v0)), (1, .int v1)] := hl
  refine lv_aload_n E.1 E.2.1 dX11_sings_0 rfl (lv_at hl 0 rfl) ?_
  obtain ⟨r2, hc1, hf⟩ := bd1_e hf
  refine k_Vi (As := []) (rest := []) E w t_v0 ⟨by decide, rfl⟩ (X11_nextBar_c t_v0 hc1) mv_RX11_426 rfl rfl hl.1 ⟨Nat.le_of_ble_eq_true rfl, Nat.le_of_ble_eq_true rfl⟩ (Nat.le_of_ble_eq_true rfl) ⟨Nat.le_refl _, Nat.le_refl _⟩ dX11_sings_1 (fun H locs w => ?_)
  refine lv_istore_n (lv' := [(2, .int r2), (0, .ref (ad G v0)), (1, .int v1)]) E.1 E.2.1 dX11_sings_4 rfl hl (by decide) rfl (fun ls hl => ?_)
  refine lv_aload_n E.1 E.2.1 dX11_sings_5 rfl (lv_at hl 1 rfl) ?_
  refine lv_iload_n E.1 E.2.1 dX11_sings_6 rfl (lv_at hl 2 rfl) ?_
  obtain ⟨r5, hc4, hf⟩ := bd1_e hf
  refine k_Vi (As := [.int v1]) (rest := []) E w t_v0 ⟨by decide, rfl⟩ (X11_isSinger_c t_v0 hc4) mv_RX11_212 rfl rfl hl.1 ⟨Nat.le_of_ble_eq_true rfl, Nat.le_of_ble_eq_true rfl⟩ (Nat.le_of_ble_eq_true rfl) ⟨Nat.le_refl _, Nat.le_refl _⟩ dX11_sings_7 (fun H locs w => ?_)
  refine lv_if_eq (tgt := 40) E.1 E.2.1 dX11_sings_10 (by decide) (fun c7 => ?_) (fun c7 => ?_)
  · have hf := q_pos c7 hf
    refine lv_iconst (v := 0) E.1 E.2.1 dX11_sings_40 rfl ?_
    have hf := Option.some.inj hf
    subst hf
    exact q_zret E w hr hlk dX11_sings_41
  · have hf := q_neg c7 hf
    refine lv_iload_n E.1 E.2.1 dX11_sings_13 rfl (lv_at hl 0 rfl) ?_
    refine lv_iconst (v := (-1)) E.1 E.2.1 dX11_sings_14 rfl ?_
    refine lv_icmp_eq (tgt := 40) E.1 E.2.1 dX11_sings_15 (by decide) (fun c8 => ?_) (fun c8 => ?_)
    · have hf := q_pos c8 hf
      refine lv_iconst (v := 0) E.1 E.2.1 dX11_sings_40 rfl ?_
      have hf := Option.some.inj hf
      subst hf
      exact q_zret E w hr hlk dX11_sings_41
    · have hf := q_neg c8 hf
      refine lv_aload_n E.1 E.2.1 dX11_sings_18 rfl (lv_at hl 1 rfl) ?_
      obtain ⟨r10, hc9, hf⟩ := bd1_e hf
      refine k_Vi (As := []) (rest := []) E w t_v0 ⟨by decide, rfl⟩ (X11_lastSinger_c t_v0 hc9) mv_RX11_429 rfl rfl hl.1 ⟨Nat.le_of_ble_eq_true rfl, Nat.le_of_ble_eq_true rfl⟩ (Nat.le_of_ble_eq_true rfl) ⟨Nat.le_refl _, Nat.le_refl _⟩ dX11_sings_19 (fun H locs w => ?_)
      refine lv_iload_n E.1 E.2.1 dX11_sings_22 rfl (lv_at hl 2 rfl) ?_
      refine lv_icmp_eq (tgt := 40) E.1 E.2.1 dX11_sings_23 (by decide) (fun c12 => ?_) (fun c12 => ?_)
      · have hf := q_pos c12 hf
        refine lv_iconst (v := 0) E.1 E.2.1 dX11_sings_40 rfl ?_
        have hf := Option.some.inj hf
        subst hf
        exact q_zret E w hr hlk dX11_sings_41
      · have hf := q_neg c12 hf
        refine lv_aload_n E.1 E.2.1 dX11_sings_26 rfl (lv_at hl 1 rfl) ?_
        refine q_gs E w 16 t_v0 fl_RX11_56 dX11_sings_27 ?_
        refine lv_iload_n E.1 E.2.1 dX11_sings_30 rfl (lv_at hl 2 rfl) ?_
        obtain ⟨b13, hf⟩ := q_if hf
        refine q_iald E w ((lay_11_45 t_v0).1) ((lay_11_45 t_v0).2) b13 dX11_sings_31 ?_
        refine lv_aload_n E.1 E.2.1 dX11_sings_32 rfl (lv_at hl 1 rfl) ?_
        refine lv_iload_n E.1 E.2.1 dX11_sings_33 rfl (lv_at hl 0 rfl) ?_
        obtain ⟨r15, hc14, hf⟩ := bd1_e hf
        refine k_Vi (As := [.int r2]) (rest := [.int (h.1 (v0 + 16) v1.toNatClampNeg)]) E w t_v0 ⟨by decide, rfl⟩ (X11_longOf_c t_v0 hc14) mv_RX11_231 rfl rfl hl.1 ⟨Nat.le_of_ble_eq_true rfl, Nat.le_of_ble_eq_true rfl⟩ (Nat.le_of_ble_eq_true rfl) ⟨Nat.le_refl _, Nat.le_refl _⟩ dX11_sings_34 (fun H locs w => ?_)
        refine lv_icmp_ge (tgt := 42) E.1 E.2.1 dX11_sings_37 (by decide) (fun c17 => ?_) (fun c17 => ?_)
        · have hf := q_pos c17 hf
          refine lv_aload_n E.1 E.2.1 dX11_sings_42 rfl (lv_at hl 1 rfl) ?_
          refine q_gs E w 16 t_v0 fl_RX11_56 dX11_sings_43 ?_
          refine lv_iload_n E.1 E.2.1 dX11_sings_46 rfl (lv_at hl 2 rfl) ?_
          refine lv_dup2_11 E.1 E.2.1 dX11_sings_47 rfl rfl ?_
          obtain ⟨b18, hf⟩ := q_if hf
          refine q_iald E w ((lay_11_45 t_v0).1) ((lay_11_45 t_v0).2) b18 dX11_sings_48 ?_
          refine lv_aload_n E.1 E.2.1 dX11_sings_49 rfl (lv_at hl 1 rfl) ?_
          refine lv_iload_n E.1 E.2.1 dX11_sings_50 rfl (lv_at hl 0 rfl) ?_
          obtain ⟨r20, hc19, hf⟩ := bd1_e hf
          refine k_Vi (As := [.int r2]) (rest := [.int (h.1 (v0 + 16) v1.toNatClampNeg), .int v1, .ref (ad G (v0 + 16))]) E w t_v0 ⟨by decide, rfl⟩ (X11_longOf_c t_v0 hc19) mv_RX11_231 rfl rfl hl.1 ⟨Nat.le_of_ble_eq_true rfl, Nat.le_of_ble_eq_true rfl⟩ (Nat.le_of_ble_eq_true rfl) ⟨Nat.le_refl _, Nat.le_refl _⟩ dX11_sings_51 (fun H locs w => ?_)
          refine lv_isub E.1 E.2.1 dX11_sings_54 ?_
          obtain ⟨b22, hf⟩ := q_if hf
          refine p_iast E w ((lay_11_45 t_v0).1) ((lay_11_45 t_v0).2) b22 dX11_sings_55 (fun h23 H locs eh w => ?_)
          have hf := sq_e eh hf
          clear eh
          refine lv_aload_n E.1 E.2.1 dX11_sings_56 rfl (lv_at hl 1 rfl) ?_
          refine q_gs E w 17 t_v0 fl_RX11_59 dX11_sings_57 ?_
          refine lv_iload_n E.1 E.2.1 dX11_sings_60 rfl (lv_at hl 2 rfl) ?_
          refine lv_dup2_11 E.1 E.2.1 dX11_sings_61 rfl rfl ?_
          obtain ⟨b24, hf⟩ := q_if hf
          refine q_iald E w ((lay_11_46 t_v0).1) ((lay_11_46 t_v0).2) b24 dX11_sings_62 ?_
          refine lv_iconst (v := 1) E.1 E.2.1 dX11_sings_63 rfl ?_
          refine lv_iadd E.1 E.2.1 dX11_sings_64 ?_
          obtain ⟨b25, hf⟩ := q_if hf
          refine p_iast E w ((lay_11_46 t_v0).1) ((lay_11_46 t_v0).2) b25 dX11_sings_65 (fun h26 H locs eh w => ?_)
          have hf := sq_e eh hf
          clear eh
          refine lv_aload_n E.1 E.2.1 dX11_sings_66 rfl (lv_at hl 1 rfl) ?_
          refine lv_iload_n E.1 E.2.1 dX11_sings_67 rfl (lv_at hl 2 rfl) ?_
          refine lv_aload_n E.1 E.2.1 dX11_sings_68 rfl (lv_at hl 1 rfl) ?_
          refine lv_iload_n E.1 E.2.1 dX11_sings_69 rfl (lv_at hl 0 rfl) ?_
          obtain ⟨r28, hc27, hf⟩ := bd1_e hf
          refine k_Vi (As := [.int r2]) (rest := [.int v1, .ref (ad G v0)]) E w t_v0 ⟨by decide, rfl⟩ (X11_noteOf_c t_v0 hc27) mv_RX11_194 rfl rfl hl.1 ⟨Nat.le_of_ble_eq_true rfl, Nat.le_of_ble_eq_true rfl⟩ (Nat.le_of_ble_eq_true rfl) ⟨Nat.le_refl _, Nat.le_refl _⟩ dX11_sings_70 (fun H locs w => ?_)
          refine lv_aload_n E.1 E.2.1 dX11_sings_73 rfl (lv_at hl 1 rfl) ?_
          refine q_gi E w t_v0 fl_RX11_408 dX11_sings_74 ?_
          refine lv_iload_n E.1 E.2.1 dX11_sings_77 rfl (lv_at hl 2 rfl) ?_
          refine lv_ishr E.1 E.2.1 dX11_sings_78 ?_
          refine lv_iconst (v := 1) E.1 E.2.1 dX11_sings_79 rfl ?_
          refine lv_iand E.1 E.2.1 dX11_sings_80 ?_
          refine lv_iconst (v := 2) E.1 E.2.1 dX11_sings_81 rfl ?_
          refine lv_imul E.1 E.2.1 dX11_sings_82 ?_
          obtain ⟨r31, hc30, hf⟩ := bd1_e hf
          refine k_Vi (As := [.int v1, .int r28, .int ((((h26.1 v0 39) >>> (v1 &&& 31)) &&& 1) * 2)]) (rest := []) E w t_v0 ⟨by decide, rfl⟩ (X11_reaches_c t_v0 hc30) mv_RX11_228 rfl rfl hl.1 ⟨Nat.le_of_ble_eq_true rfl, Nat.le_of_ble_eq_true rfl⟩ (Nat.le_of_ble_eq_true rfl) ⟨Nat.le_refl _, Nat.le_refl _⟩ dX11_sings_83 (fun H locs w => ?_)
          refine lv_if_ne (tgt := 115) E.1 E.2.1 dX11_sings_86 (by decide) (fun c33 => ?_) (fun c33 => ?_)
          · have hf := q_neg c33 hf
            refine lv_aload_n E.1 E.2.1 dX11_sings_115 rfl (lv_at hl 1 rfl) ?_
            refine q_gs E w 18 t_v0 fl_RX11_62 dX11_sings_116 ?_
            refine lv_iload_n E.1 E.2.1 dX11_sings_119 rfl (lv_at hl 0 rfl) ?_
            refine lv_iload_n E.1 E.2.1 dX11_sings_120 rfl (lv_at hl 2 rfl) ?_
            obtain ⟨b34, hf⟩ := q_if hf
            refine p_iast E w ((lay_11_47 t_v0).1) ((lay_11_47 t_v0).2) b34 dX11_sings_121 (fun h35 H locs eh w => ?_)
            have hf := sq_e eh hf
            clear eh
            refine lv_aload_n E.1 E.2.1 dX11_sings_122 rfl (lv_at hl 1 rfl) ?_
            refine lv_iload_n E.1 E.2.1 dX11_sings_123 rfl (lv_at hl 0 rfl) ?_
            refine lv_iconst (v := 1) E.1 E.2.1 dX11_sings_124 rfl ?_
            refine lv_iadd E.1 E.2.1 dX11_sings_125 ?_
            refine p_pi E w t_v0 fl_RX11_387 (fp_11_34 _) dX11_sings_126 (fun h36 H locs eh w => ?_)
            have hf := sq_e eh hf
            clear eh
            refine lv_iconst (v := 1) E.1 E.2.1 dX11_sings_129 rfl ?_
            have hf := Option.some.inj hf
            subst hf
            exact q_zret E w hr hlk dX11_sings_130
          · have hf := q_pos c33 hf
            refine lv_aload_n E.1 E.2.1 dX11_sings_89 rfl (lv_at hl 1 rfl) ?_
            refine lv_dup E.1 E.2.1 dX11_sings_90 rfl ?_
            refine q_gi E w t_v0 fl_RX11_405 dX11_sings_91 ?_
            refine lv_iconst (v := 1) E.1 E.2.1 dX11_sings_94 rfl ?_
            refine lv_iadd E.1 E.2.1 dX11_sings_95 ?_
            refine p_pi E w t_v0 fl_RX11_405 (fp_11_38 _) dX11_sings_96 (fun h37 H locs eh w => ?_)
            have hf := sq_e eh hf
            clear eh
            refine lv_aload_n E.1 E.2.1 dX11_sings_99 rfl (lv_at hl 1 rfl) ?_
            refine lv_dup E.1 E.2.1 dX11_sings_100 rfl ?_
            refine q_gi E w t_v0 fl_RX11_393 dX11_sings_101 ?_
            refine lv_iconst (v := 1) E.1 E.2.1 dX11_sings_104 rfl ?_
            refine lv_aload_n E.1 E.2.1 dX11_sings_105 rfl (lv_at hl 1 rfl) ?_
            refine lv_iload_n E.1 E.2.1 dX11_sings_106 rfl (lv_at hl 0 rfl) ?_
            obtain ⟨r39, hc38, hf⟩ := bd1_e hf
            refine k_Vi (As := [.int r2]) (rest := [.int 1, .int (h37.1 v0 40), .ref (ad G v0)]) E w t_v0 ⟨by decide, rfl⟩ (X11_floorOf_c t_v0 hc38) mv_RX11_265 rfl rfl hl.1 ⟨Nat.le_of_ble_eq_true rfl, Nat.le_of_ble_eq_true rfl⟩ (Nat.le_of_ble_eq_true rfl) ⟨Nat.le_refl _, Nat.le_refl _⟩ dX11_sings_107 (fun H locs w => ?_)
            refine lv_ishl E.1 E.2.1 dX11_sings_110 ?_
            refine lv_ior E.1 E.2.1 dX11_sings_111 ?_
            refine p_pi E w t_v0 fl_RX11_393 (fp_11_40 _) dX11_sings_112 (fun h41 H locs eh w => ?_)
            have hf := sq_e eh hf
            clear eh
            refine lv_aload_n E.1 E.2.1 dX11_sings_115 rfl (lv_at hl 1 rfl) ?_
            refine q_gs E w 18 t_v0 fl_RX11_62 dX11_sings_116 ?_
            refine lv_iload_n E.1 E.2.1 dX11_sings_119 rfl (lv_at hl 0 rfl) ?_
            refine lv_iload_n E.1 E.2.1 dX11_sings_120 rfl (lv_at hl 2 rfl) ?_
            obtain ⟨b42, hf⟩ := q_if hf
            refine p_iast E w ((lay_11_47 t_v0).1) ((lay_11_47 t_v0).2) b42 dX11_sings_121 (fun h43 H locs eh w => ?_)
            have hf := sq_e eh hf
            clear eh
            refine lv_aload_n E.1 E.2.1 dX11_sings_122 rfl (lv_at hl 1 rfl) ?_
            refine lv_iload_n E.1 E.2.1 dX11_sings_123 rfl (lv_at hl 0 rfl) ?_
            refine lv_iconst (v := 1) E.1 E.2.1 dX11_sings_124 rfl ?_
            refine lv_iadd E.1 E.2.1 dX11_sings_125 ?_
            refine p_pi E w t_v0 fl_RX11_387 (fp_11_34 _) dX11_sings_126 (fun h44 H locs eh w => ?_)
            have hf := sq_e eh hf
            clear eh
            refine lv_iconst (v := 1) E.1 E.2.1 dX11_sings_129 rfl ?_
            have hf := Option.some.inj hf
            subst hf
            exact q_zret E w hr hlk dX11_sings_130
        · have hf := q_neg c17 hf
          refine lv_iconst (v := 0) E.1 E.2.1 dX11_sings_40 rfl ?_
          have hf := Option.some.inj hf
          subst hf
          exact q_zret E w hr hlk dX11_sings_41

def X11_wakesFrom (N : Nat) (h : HS) (v0 : Nat) (v1 : Int32) : Option HS := sq (wi h v0 35 ((h.1 v0 35) ||| (((1 : Int32) <<< ((h.1 v0 13) &&& 31)) - ((1 : Int32) <<< (v1 &&& 31))))) fun h1 => some h1
set_option maxRecDepth 4000 in
set_option maxHeartbeats 2000000 in
theorem X11_wakesFrom_c {l : Launch} {G : GT} {N : Nat} {h : HS} {v0 : Nat} {v1 : Int32} {z : HS} (t_v0 : sh v0 = 11) (hf : X11_wakesFrom N h v0 v1 = some z) : CT l G yX11_wakesFrom cX11_wakesFrom 2 none 0 0 [.ref (ad G v0), .int v1] h none z := by
  unfold X11_wakesFrom at hf
  refine CT.of (by decide) (Nat.le_of_ble_eq_true rfl) ?_
  intro p e s m below meth c ls E hr hlk w hl
  have hl : lv_has ls 2 [(0, .ref (ad G v0)), (1, .int v1)] := hl
  refine lv_aload_n E.1 E.2.1 dX11_wakesFrom_0 rfl (lv_at hl 0 rfl) ?_
  refine lv_dup E.1 E.2.1 dX11_wakesFrom_1 rfl ?_
  refine q_gi E w t_v0 fl_RX11_390 dX11_wakesFrom_2 ?_
  refine lv_iconst (v := 1) E.1 E.2.1 dX11_wakesFrom_5 rfl ?_
  refine lv_aload_n E.1 E.2.1 dX11_wakesFrom_6 rfl (lv_at hl 0 rfl) ?_
  refine q_gi E w t_v0 fl_RX11_185 dX11_wakesFrom_7 ?_
  refine lv_ishl E.1 E.2.1 dX11_wakesFrom_10 ?_
  refine lv_iconst (v := 1) E.1 E.2.1 dX11_wakesFrom_11 rfl ?_
  refine lv_iload_n E.1 E.2.1 dX11_wakesFrom_12 rfl (lv_at hl 1 rfl) ?_
  refine lv_ishl E.1 E.2.1 dX11_wakesFrom_13 ?_
  refine lv_isub E.1 E.2.1 dX11_wakesFrom_14 ?_
  refine lv_ior E.1 E.2.1 dX11_wakesFrom_15 ?_
  refine p_pi E w t_v0 fl_RX11_390 (fp_11_35 _) dX11_wakesFrom_16 (fun h1 H locs eh w => ?_)
  have hf := sq_e eh hf
  clear eh
  have hf := Option.some.inj hf
  subst hf
  exact q_vret E w hr hlk dX11_wakesFrom_19

def X11_skips (N : Nat) (h : HS) (v0 : Nat) : Option (Int32 × HS) := bd1 (X11_nextBar N h v0) fun r2 => (if r2 = ((-1) : Int32) then some (nz 0, h) else bd1 (X11_floorOf N h v0 r2) fun r6 => bd1 (X11_wakesFrom N h v0 r6) fun h10 => sq (wi h10 v0 34 (r2 + 1)) fun h11 => some (nz 1, h11))
set_option maxRecDepth 4000 in
set_option maxHeartbeats 2000000 in
theorem X11_skips_c {l : Launch} {G : GT} {N : Nat} {h : HS} {v0 : Nat} {z : (Int32 × HS)} (t_v0 : sh v0 = 11) (hf : X11_skips N h v0 = some z) : CT l G yX11_skips cX11_skips 2 (some .boolean) 2 42 [.ref (ad G v0)] h (some (.int z.1)) z.2 := by
  unfold X11_skips at hf
  refine CT.of (by decide) (Nat.le_of_ble_eq_true rfl) ?_
  intro p e s m below meth c ls E hr hlk w hl
  have hl : lv_has ls 2 [(0, .ref (ad G v0))] := hl
  refine lv_aload_n E.1 E.2.1 dX11_skips_0 rfl (lv_at hl 0 rfl) ?_
  obtain ⟨r2, hc1, hf⟩ := bd1_e hf
  refine k_Vi (As := []) (rest := []) E w t_v0 ⟨by decide, rfl⟩ (X11_nextBar_c t_v0 hc1) mv_RX11_426 rfl rfl hl.1 ⟨Nat.le_of_ble_eq_true rfl, Nat.le_of_ble_eq_true rfl⟩ (Nat.le_of_ble_eq_true rfl) ⟨Nat.le_refl _, Nat.le_refl _⟩ dX11_skips_1 (fun H locs w => ?_)
  refine lv_istore_n (lv' := [(1, .int r2), (0, .ref (ad G v0))]) E.1 E.2.1 dX11_skips_4 rfl hl (by decide) rfl (fun ls hl => ?_)
  refine lv_iload_n E.1 E.2.1 dX11_skips_5 rfl (lv_at hl 0 rfl) ?_
  refine lv_iconst (v := (-1)) E.1 E.2.1 dX11_skips_6 rfl ?_
  refine lv_icmp_ne (tgt := 12) E.1 E.2.1 dX11_skips_7 (by decide) (fun c4 => ?_) (fun c4 => ?_)
  · have hf := q_neg c4 hf
    refine lv_aload_n E.1 E.2.1 dX11_skips_12 rfl (lv_at hl 1 rfl) ?_
    refine lv_aload_n E.1 E.2.1 dX11_skips_13 rfl (lv_at hl 1 rfl) ?_
    refine lv_iload_n E.1 E.2.1 dX11_skips_14 rfl (lv_at hl 0 rfl) ?_
    obtain ⟨r6, hc5, hf⟩ := bd1_e hf
    refine k_Vi (As := [.int r2]) (rest := [.ref (ad G v0)]) E w t_v0 ⟨by decide, rfl⟩ (X11_floorOf_c t_v0 hc5) mv_RX11_265 rfl rfl hl.1 ⟨Nat.le_of_ble_eq_true rfl, Nat.le_of_ble_eq_true rfl⟩ (Nat.le_of_ble_eq_true rfl) ⟨Nat.le_refl _, Nat.le_refl _⟩ dX11_skips_15 (fun H locs w => ?_)
    obtain ⟨h10, hc8, hf⟩ := bd1_e hf
    refine k_Vv (As := [.int r6]) (rest := []) E w t_v0 ⟨by decide, rfl⟩ (X11_wakesFrom_c t_v0 hc8) mv_RX11_432 rfl rfl hl.1 ⟨Nat.le_of_ble_eq_true rfl, Nat.le_of_ble_eq_true rfl⟩ (Nat.le_of_ble_eq_true rfl) ⟨Nat.le_refl _, Nat.le_refl _⟩ dX11_skips_18 (fun H locs w => ?_)
    refine lv_aload_n E.1 E.2.1 dX11_skips_21 rfl (lv_at hl 1 rfl) ?_
    refine lv_iload_n E.1 E.2.1 dX11_skips_22 rfl (lv_at hl 0 rfl) ?_
    refine lv_iconst (v := 1) E.1 E.2.1 dX11_skips_23 rfl ?_
    refine lv_iadd E.1 E.2.1 dX11_skips_24 ?_
    refine p_pi E w t_v0 fl_RX11_387 (fp_11_34 _) dX11_skips_25 (fun h11 H locs eh w => ?_)
    have hf := sq_e eh hf
    clear eh
    refine lv_iconst (v := 1) E.1 E.2.1 dX11_skips_28 rfl ?_
    have hf := Option.some.inj hf
    subst hf
    exact q_zret E w hr hlk dX11_skips_29
  · have hf := q_pos c4 hf
    refine lv_iconst (v := 0) E.1 E.2.1 dX11_skips_10 rfl ?_
    have hf := Option.some.inj hf
    subst hf
    exact q_zret E w hr hlk dX11_skips_11

def X11_nightGoes_l129 (N : Nat) : Nat → HS → Nat → Int32 → Option (Int32 × HS)
  | 0, _, _, _ => none
  | n + 1, h, v0, v2 => (if (h.1 v0 13) ≤ v2 then sq (wi h v0 33 ((h.1 v0 33) + 1)) fun h14 => bd1 (X11_falls N h14 v0) fun h17 => some (nz 1, h17) else (if (((h.1 v0 35) >>> (v2 &&& 31)) &&& 1) = 0 then bd1 (X11_rentOf N h v0 v2) fun r21 => sq (wi h v0 37 ((h.1 v0 37) + r21)) fun h23 => X11_nightGoes_l129 N n h23 v0 (v2 + 1) else sq (wi h v0 37 ((h.1 v0 37) + 0)) fun h19 => X11_nightGoes_l129 N n h19 v0 (v2 + 1)))
set_option maxRecDepth 4000 in
set_option maxHeartbeats 2000000 in
theorem X11_nightGoes_l129_w {p : Program} {l : Launch} {e : Env} {s : State} {m : MethodId} {args : Array Value} {below : List Frame} {meth : Method} {c : Code} {G : GT} {N : Nat} {z : (Int32 × HS)} (E : CallFix p m c cX11_nightGoes 3 s args UW RX11) (hr : meth.sig.returnType = (some .boolean)) (hlk : meth.locks = false) : ∀ (n : Nat) (h : HS) (H : Heap) (locs : List Loc) (ls : Array Slot) (v0 : Nat) (v2 : Int32), X11_nightGoes_l129 N n h v0 v2 = some z → WD G s h H locs → sh v0 = 11 → lv_has ls 3 [(0, .ref (ad G v0)), (2, .int v2)] → W p l e ({ frames := 2, cells := 0, slots := 0, locals := 44 } : Room) s m args below meth c H locs 0 0 (MQ below (QC G (some (.int z.1)) z.2) args s 0 0 (AD G)) (F0 m 129 ls []) := by
  intro n
  induction n with
  | zero =>
    intro h H locs ls v0 v2 hf
    cases hf
  | succ n ih =>
    intro h H locs ls v0 v2 hf w t_v0 hl
    unfold X11_nightGoes_l129 at hf
    refine lv_iload_n E.1 E.2.1 dX11_nightGoes_129 rfl (lv_at hl 1 rfl) ?_
    refine lv_aload_n E.1 E.2.1 dX11_nightGoes_130 rfl (lv_at hl 0 rfl) ?_
    refine q_gi E w t_v0 fl_RX11_185 dX11_nightGoes_131 ?_
    refine lv_icmp_ge (tgt := 172) E.1 E.2.1 dX11_nightGoes_134 (by decide) (fun c13 => ?_) (fun c13 => ?_)
    · have hf := q_pos c13 hf
      refine lv_aload_n E.1 E.2.1 dX11_nightGoes_172 rfl (lv_at hl 0 rfl) ?_
      refine lv_dup E.1 E.2.1 dX11_nightGoes_173 rfl ?_
      refine q_gi E w t_v0 fl_RX11_396 dX11_nightGoes_174 ?_
      refine lv_iconst (v := 1) E.1 E.2.1 dX11_nightGoes_177 rfl ?_
      refine lv_iadd E.1 E.2.1 dX11_nightGoes_178 ?_
      refine p_pi E w t_v0 fl_RX11_396 (fp_11_33 _) dX11_nightGoes_179 (fun h14 H locs eh w => ?_)
      have hf := sq_e eh hf
      clear eh
      refine lv_aload_n E.1 E.2.1 dX11_nightGoes_182 rfl (lv_at hl 0 rfl) ?_
      obtain ⟨h17, hc15, hf⟩ := bd1_e hf
      refine k_Vv (As := []) (rest := []) E w t_v0 ⟨by decide, rfl⟩ (X11_falls_c t_v0 hc15) mv_RX11_423 rfl rfl hl.1 ⟨Nat.le_of_ble_eq_true rfl, Nat.le_of_ble_eq_true rfl⟩ (Nat.le_of_ble_eq_true rfl) ⟨Nat.le_refl _, Nat.le_refl _⟩ dX11_nightGoes_183 (fun H locs w => ?_)
      refine lv_iconst (v := 1) E.1 E.2.1 dX11_nightGoes_186 rfl ?_
      have hf := Option.some.inj hf
      subst hf
      exact q_zret E w hr hlk dX11_nightGoes_187
    · have hf := q_neg c13 hf
      refine lv_aload_n E.1 E.2.1 dX11_nightGoes_137 rfl (lv_at hl 0 rfl) ?_
      refine lv_dup E.1 E.2.1 dX11_nightGoes_138 rfl ?_
      refine q_gi E w t_v0 fl_RX11_402 dX11_nightGoes_139 ?_
      refine lv_aload_n E.1 E.2.1 dX11_nightGoes_142 rfl (lv_at hl 0 rfl) ?_
      refine q_gi E w t_v0 fl_RX11_390 dX11_nightGoes_143 ?_
      refine lv_iload_n E.1 E.2.1 dX11_nightGoes_146 rfl (lv_at hl 1 rfl) ?_
      refine lv_ishr E.1 E.2.1 dX11_nightGoes_147 ?_
      refine lv_iconst (v := 1) E.1 E.2.1 dX11_nightGoes_148 rfl ?_
      refine lv_iand E.1 E.2.1 dX11_nightGoes_149 ?_
      refine lv_if_ne (tgt := 161) E.1 E.2.1 dX11_nightGoes_150 (by decide) (fun c18 => ?_) (fun c18 => ?_)
      · have hf := q_neg c18 hf
        refine lv_iconst (v := 0) E.1 E.2.1 dX11_nightGoes_161 rfl ?_
        refine lv_iadd E.1 E.2.1 dX11_nightGoes_162 ?_
        refine p_pi E w t_v0 fl_RX11_402 (fp_11_37 _) dX11_nightGoes_163 (fun h19 H locs eh w => ?_)
        have hf := sq_e eh hf
        clear eh
        refine lv_iinc (v := v2 + 1) (lv' := [(2, .int (v2 + 1)), (0, .ref (ad G v0))]) E.1 E.2.1 dX11_nightGoes_166 hl (k := 1) rfl rfl (by decide) rfl (fun ls hl => ?_)
        refine lv_goto (tgt := 129) E.1 E.2.1 dX11_nightGoes_169 (by decide) ?_
        exact ih _ _ _ _ _ _ hf w t_v0 (lv_sub hl [1, 0] rfl)
      · have hf := q_pos c18 hf
        refine lv_aload_n E.1 E.2.1 dX11_nightGoes_153 rfl (lv_at hl 0 rfl) ?_
        refine lv_iload_n E.1 E.2.1 dX11_nightGoes_154 rfl (lv_at hl 1 rfl) ?_
        obtain ⟨r21, hc20, hf⟩ := bd1_e hf
        refine k_Vi (As := [.int v2]) (rest := [.int (h.1 v0 37), .ref (ad G v0)]) E w t_v0 ⟨by decide, rfl⟩ (X11_rentOf_c t_v0 hc20) mv_RX11_203 rfl rfl hl.1 ⟨Nat.le_of_ble_eq_true rfl, Nat.le_of_ble_eq_true rfl⟩ (Nat.le_of_ble_eq_true rfl) ⟨Nat.le_refl _, Nat.le_refl _⟩ dX11_nightGoes_155 (fun H locs w => ?_)
        refine lv_goto (tgt := 162) E.1 E.2.1 dX11_nightGoes_158 (by decide) ?_
        refine lv_iadd E.1 E.2.1 dX11_nightGoes_162 ?_
        refine p_pi E w t_v0 fl_RX11_402 (fp_11_37 _) dX11_nightGoes_163 (fun h23 H locs eh w => ?_)
        have hf := sq_e eh hf
        clear eh
        refine lv_iinc (v := v2 + 1) (lv' := [(2, .int (v2 + 1)), (0, .ref (ad G v0))]) E.1 E.2.1 dX11_nightGoes_166 hl (k := 1) rfl rfl (by decide) rfl (fun ls hl => ?_)
        refine lv_goto (tgt := 129) E.1 E.2.1 dX11_nightGoes_169 (by decide) ?_
        exact ih _ _ _ _ _ _ hf w t_v0 (lv_sub hl [1, 0] rfl)

def X11_nightGoes_b80 (N : Nat) (h : HS) (v0 : Nat) (v1 : Int32) (u0 : Int32) (u1 : Int32) (u2 : Nat) : Option (Int32 × HS) := sq (wi h u2 44 (u1 + u0)) fun h8 => (if v1 ≤ (h8.1 v0 43) then sq (wi h8 v0 42 (h8.1 v0 42)) fun h10 => (if v1 ≤ (h10.1 v0 43) then sq (wi h10 v0 43 (h10.1 v0 43)) fun h12 => X11_nightGoes_l129 N N h12 v0 0 else sq (wi h10 v0 43 v1) fun h24 => X11_nightGoes_l129 N N h24 v0 0) else sq (wi h8 v0 42 (h8.1 v0 33)) fun h25 => (if v1 ≤ (h25.1 v0 43) then sq (wi h25 v0 43 (h25.1 v0 43)) fun h27 => X11_nightGoes_l129 N N h27 v0 0 else sq (wi h25 v0 43 v1) fun h28 => X11_nightGoes_l129 N N h28 v0 0))
set_option maxRecDepth 4000 in
set_option maxHeartbeats 2000000 in
theorem X11_nightGoes_b80_w {p : Program} {l : Launch} {e : Env} {s : State} {m : MethodId} {args : Array Value} {below : List Frame} {meth : Method} {c : Code} {G : GT} {N : Nat} {z : (Int32 × HS)} {h : HS} (E : CallFix p m c cX11_nightGoes 3 s args UW RX11) (hr : meth.sig.returnType = (some .boolean)) (hlk : meth.locks = false) {H : Heap} {locs : List Loc} {ls : Array Slot} {v0 : Nat} {v1 : Int32} {u0 : Int32} {u1 : Int32} {u2 : Nat} (hf : X11_nightGoes_b80 N h v0 v1 u0 u1 u2 = some z) (w : WD G s h H locs) (t_v0 : sh v0 = 11) (t_u2 : sh u2 = 11) (hl : lv_has ls 3 [(0, .ref (ad G v0)), (1, .int v1)]) : W p l e ({ frames := 2, cells := 0, slots := 0, locals := 44 } : Room) s m args below meth c H locs 0 0 (MQ below (QC G (some (.int z.1)) z.2) args s 0 0 (AD G)) (F0 m 80 ls [.int u0, .int u1, .ref (ad G u2)]) := by
  unfold X11_nightGoes_b80 at hf
  refine lv_iadd E.1 E.2.1 dX11_nightGoes_80 ?_
  refine p_pi E w t_u2 fl_RX11_420 (fp_11_44 _) dX11_nightGoes_81 (fun h8 H locs eh w => ?_)
  have hf := sq_e eh hf
  clear eh
  refine lv_aload_n E.1 E.2.1 dX11_nightGoes_84 rfl (lv_at hl 0 rfl) ?_
  refine lv_iload_n E.1 E.2.1 dX11_nightGoes_85 rfl (lv_at hl 1 rfl) ?_
  refine lv_aload_n E.1 E.2.1 dX11_nightGoes_86 rfl (lv_at hl 0 rfl) ?_
  refine q_gi E w t_v0 fl_RX11_417 dX11_nightGoes_87 ?_
  refine lv_icmp_le (tgt := 100) E.1 E.2.1 dX11_nightGoes_90 (by decide) (fun c9 => ?_) (fun c9 => ?_)
  · have hf := q_pos c9 hf
    refine lv_aload_n E.1 E.2.1 dX11_nightGoes_100 rfl (lv_at hl 0 rfl) ?_
    refine q_gi E w t_v0 fl_RX11_414 dX11_nightGoes_101 ?_
    refine p_pi E w t_v0 fl_RX11_414 (fp_11_42 _) dX11_nightGoes_104 (fun h10 H locs eh w => ?_)
    have hf := sq_e eh hf
    clear eh
    refine lv_aload_n E.1 E.2.1 dX11_nightGoes_107 rfl (lv_at hl 0 rfl) ?_
    refine lv_iload_n E.1 E.2.1 dX11_nightGoes_108 rfl (lv_at hl 1 rfl) ?_
    refine lv_aload_n E.1 E.2.1 dX11_nightGoes_109 rfl (lv_at hl 0 rfl) ?_
    refine q_gi E w t_v0 fl_RX11_417 dX11_nightGoes_110 ?_
    refine lv_icmp_le (tgt := 120) E.1 E.2.1 dX11_nightGoes_113 (by decide) (fun c11 => ?_) (fun c11 => ?_)
    · have hf := q_pos c11 hf
      refine lv_aload_n E.1 E.2.1 dX11_nightGoes_120 rfl (lv_at hl 0 rfl) ?_
      refine q_gi E w t_v0 fl_RX11_417 dX11_nightGoes_121 ?_
      refine p_pi E w t_v0 fl_RX11_417 (fp_11_43 _) dX11_nightGoes_124 (fun h12 H locs eh w => ?_)
      have hf := sq_e eh hf
      clear eh
      refine lv_iconst (v := 0) E.1 E.2.1 dX11_nightGoes_127 rfl ?_
      refine lv_istore_n (lv' := [(2, .int 0), (0, .ref (ad G v0)), (1, .int v1)]) E.1 E.2.1 dX11_nightGoes_128 rfl hl (by decide) rfl (fun ls hl => ?_)
      exact X11_nightGoes_l129_w E hr hlk N _ _ _ _ _ _ hf w t_v0 (lv_sub hl [1, 0] rfl)
    · have hf := q_neg c11 hf
      refine lv_iload_n E.1 E.2.1 dX11_nightGoes_116 rfl (lv_at hl 1 rfl) ?_
      refine lv_goto (tgt := 124) E.1 E.2.1 dX11_nightGoes_117 (by decide) ?_
      refine p_pi E w t_v0 fl_RX11_417 (fp_11_43 _) dX11_nightGoes_124 (fun h24 H locs eh w => ?_)
      have hf := sq_e eh hf
      clear eh
      refine lv_iconst (v := 0) E.1 E.2.1 dX11_nightGoes_127 rfl ?_
      refine lv_istore_n (lv' := [(2, .int 0), (0, .ref (ad G v0)), (1, .int v1)]) E.1 E.2.1 dX11_nightGoes_128 rfl hl (by decide) rfl (fun ls hl => ?_)
      exact X11_nightGoes_l129_w E hr hlk N _ _ _ _ _ _ hf w t_v0 (lv_sub hl [1, 0] rfl)
  · have hf := q_neg c9 hf
    refine lv_aload_n E.1 E.2.1 dX11_nightGoes_93 rfl (lv_at hl 0 rfl) ?_
    refine q_gi E w t_v0 fl_RX11_396 dX11_nightGoes_94 ?_
    refine lv_goto (tgt := 104) E.1 E.2.1 dX11_nightGoes_97 (by decide) ?_
    refine p_pi E w t_v0 fl_RX11_414 (fp_11_42 _) dX11_nightGoes_104 (fun h25 H locs eh w => ?_)
    have hf := sq_e eh hf
    clear eh
    refine lv_aload_n E.1 E.2.1 dX11_nightGoes_107 rfl (lv_at hl 0 rfl) ?_
    refine lv_iload_n E.1 E.2.1 dX11_nightGoes_108 rfl (lv_at hl 1 rfl) ?_
    refine lv_aload_n E.1 E.2.1 dX11_nightGoes_109 rfl (lv_at hl 0 rfl) ?_
    refine q_gi E w t_v0 fl_RX11_417 dX11_nightGoes_110 ?_
    refine lv_icmp_le (tgt := 120) E.1 E.2.1 dX11_nightGoes_113 (by decide) (fun c26 => ?_) (fun c26 => ?_)
    · have hf := q_pos c26 hf
      refine lv_aload_n E.1 E.2.1 dX11_nightGoes_120 rfl (lv_at hl 0 rfl) ?_
      refine q_gi E w t_v0 fl_RX11_417 dX11_nightGoes_121 ?_
      refine p_pi E w t_v0 fl_RX11_417 (fp_11_43 _) dX11_nightGoes_124 (fun h27 H locs eh w => ?_)
      have hf := sq_e eh hf
      clear eh
      refine lv_iconst (v := 0) E.1 E.2.1 dX11_nightGoes_127 rfl ?_
      refine lv_istore_n (lv' := [(2, .int 0), (0, .ref (ad G v0)), (1, .int v1)]) E.1 E.2.1 dX11_nightGoes_128 rfl hl (by decide) rfl (fun ls hl => ?_)
      exact X11_nightGoes_l129_w E hr hlk N _ _ _ _ _ _ hf w t_v0 (lv_sub hl [1, 0] rfl)
    · have hf := q_neg c26 hf
      refine lv_iload_n E.1 E.2.1 dX11_nightGoes_116 rfl (lv_at hl 1 rfl) ?_
      refine lv_goto (tgt := 124) E.1 E.2.1 dX11_nightGoes_117 (by decide) ?_
      refine p_pi E w t_v0 fl_RX11_417 (fp_11_43 _) dX11_nightGoes_124 (fun h28 H locs eh w => ?_)
      have hf := sq_e eh hf
      clear eh
      refine lv_iconst (v := 0) E.1 E.2.1 dX11_nightGoes_127 rfl ?_
      refine lv_istore_n (lv' := [(2, .int 0), (0, .ref (ad G v0)), (1, .int v1)]) E.1 E.2.1 dX11_nightGoes_128 rfl hl (by decide) rfl (fun ls hl => ?_)
      exact X11_nightGoes_l129_w E hr hlk N _ _ _ _ _ _ hf w t_v0 (lv_sub hl [1, 0] rfl)

def X11_nightGoes_l16 (N : Nat) : Nat → HS → Nat → Int32 → Option (Int32 × HS)
  | 0, _, _, _ => none
  | n + 1, h, v0, v1 => (if (h.1 v0 14) ≤ v1 then bd1 (X11_peopleIn N h v0 (h.1 v0 35)) fun r4 => sq (wi h v0 36 ((h.1 v0 36) + r4)) fun h6 => (if r4 = 0 then X11_nightGoes_b80 N h6 v0 r4 1 (h6.1 v0 44) v0 else X11_nightGoes_b80 N h6 v0 r4 0 (h6.1 v0 44) v0) else bd1 (X11_noteOf N h v0 v1) fun r30 => (if r30 ≤ 0 then X11_nightGoes_l16 N n h v0 (v1 + 1) else bd1 (X11_floorOf N h v0 v1) fun r34 => bd1 (X11_wakesFrom N h v0 r34) fun h38 => X11_nightGoes_l16 N n h38 v0 (v1 + 1)))
set_option maxRecDepth 4000 in
set_option maxHeartbeats 2000000 in
theorem X11_nightGoes_l16_w {p : Program} {l : Launch} {e : Env} {s : State} {m : MethodId} {args : Array Value} {below : List Frame} {meth : Method} {c : Code} {G : GT} {N : Nat} {z : (Int32 × HS)} (E : CallFix p m c cX11_nightGoes 3 s args UW RX11) (hr : meth.sig.returnType = (some .boolean)) (hlk : meth.locks = false) : ∀ (n : Nat) (h : HS) (H : Heap) (locs : List Loc) (ls : Array Slot) (v0 : Nat) (v1 : Int32), X11_nightGoes_l16 N n h v0 v1 = some z → WD G s h H locs → sh v0 = 11 → lv_has ls 3 [(0, .ref (ad G v0)), (1, .int v1)] → W p l e ({ frames := 2, cells := 0, slots := 0, locals := 44 } : Room) s m args below meth c H locs 0 0 (MQ below (QC G (some (.int z.1)) z.2) args s 0 0 (AD G)) (F0 m 16 ls []) := by
  intro n
  induction n with
  | zero =>
    intro h H locs ls v0 v1 hf
    cases hf
  | succ n ih =>
    intro h H locs ls v0 v1 hf w t_v0 hl
    unfold X11_nightGoes_l16 at hf
    refine lv_iload_n E.1 E.2.1 dX11_nightGoes_16 rfl (lv_at hl 1 rfl) ?_
    refine lv_aload_n E.1 E.2.1 dX11_nightGoes_17 rfl (lv_at hl 0 rfl) ?_
    refine q_gi E w t_v0 fl_RX11_188 dX11_nightGoes_18 ?_
    refine lv_icmp_ge (tgt := 47) E.1 E.2.1 dX11_nightGoes_21 (by decide) (fun c2 => ?_) (fun c2 => ?_)
    · have hf := q_pos c2 hf
      refine lv_aload_n E.1 E.2.1 dX11_nightGoes_47 rfl (lv_at hl 0 rfl) ?_
      refine lv_aload_n E.1 E.2.1 dX11_nightGoes_48 rfl (lv_at hl 0 rfl) ?_
      refine q_gi E w t_v0 fl_RX11_390 dX11_nightGoes_49 ?_
      obtain ⟨r4, hc3, hf⟩ := bd1_e hf
      refine k_Vi (As := [.int (h.1 v0 35)]) (rest := []) E w t_v0 ⟨by decide, rfl⟩ (X11_peopleIn_c t_v0 hc3) mv_RX11_271 rfl rfl hl.1 ⟨Nat.le_of_ble_eq_true rfl, Nat.le_of_ble_eq_true rfl⟩ (Nat.le_of_ble_eq_true rfl) ⟨Nat.le_refl _, Nat.le_refl _⟩ dX11_nightGoes_52 (fun H locs w => ?_)
      refine lv_istore_n (lv' := [(1, .int r4), (0, .ref (ad G v0))]) E.1 E.2.1 dX11_nightGoes_55 rfl hl (by decide) rfl (fun ls hl => ?_)
      refine lv_aload_n E.1 E.2.1 dX11_nightGoes_56 rfl (lv_at hl 1 rfl) ?_
      refine lv_dup E.1 E.2.1 dX11_nightGoes_57 rfl ?_
      refine q_gi E w t_v0 fl_RX11_399 dX11_nightGoes_58 ?_
      refine lv_iload_n E.1 E.2.1 dX11_nightGoes_61 rfl (lv_at hl 0 rfl) ?_
      refine lv_iadd E.1 E.2.1 dX11_nightGoes_62 ?_
      refine p_pi E w t_v0 fl_RX11_399 (fp_11_36 _) dX11_nightGoes_63 (fun h6 H locs eh w => ?_)
      have hf := sq_e eh hf
      clear eh
      refine lv_aload_n E.1 E.2.1 dX11_nightGoes_66 rfl (lv_at hl 1 rfl) ?_
      refine lv_dup E.1 E.2.1 dX11_nightGoes_67 rfl ?_
      refine q_gi E w t_v0 fl_RX11_420 dX11_nightGoes_68 ?_
      refine lv_iload_n E.1 E.2.1 dX11_nightGoes_71 rfl (lv_at hl 0 rfl) ?_
      refine lv_if_ne (tgt := 79) E.1 E.2.1 dX11_nightGoes_72 (by decide) (fun c7 => ?_) (fun c7 => ?_)
      · have hf := q_neg c7 hf
        refine lv_iconst (v := 0) E.1 E.2.1 dX11_nightGoes_79 rfl ?_
        exact X11_nightGoes_b80_w E hr hlk hf w t_v0 t_v0 (lv_sub hl [1, 0] rfl)
      · have hf := q_pos c7 hf
        refine lv_iconst (v := 1) E.1 E.2.1 dX11_nightGoes_75 rfl ?_
        refine lv_goto (tgt := 80) E.1 E.2.1 dX11_nightGoes_76 (by decide) ?_
        exact X11_nightGoes_b80_w E hr hlk hf w t_v0 t_v0 (lv_sub hl [1, 0] rfl)
    · have hf := q_neg c2 hf
      refine lv_aload_n E.1 E.2.1 dX11_nightGoes_24 rfl (lv_at hl 0 rfl) ?_
      refine lv_iload_n E.1 E.2.1 dX11_nightGoes_25 rfl (lv_at hl 1 rfl) ?_
      obtain ⟨r30, hc29, hf⟩ := bd1_e hf
      refine k_Vi (As := [.int v1]) (rest := []) E w t_v0 ⟨by decide, rfl⟩ (X11_noteOf_c t_v0 hc29) mv_RX11_194 rfl rfl hl.1 ⟨Nat.le_of_ble_eq_true rfl, Nat.le_of_ble_eq_true rfl⟩ (Nat.le_of_ble_eq_true rfl) ⟨Nat.le_refl _, Nat.le_refl _⟩ dX11_nightGoes_26 (fun H locs w => ?_)
      refine lv_if_le (tgt := 41) E.1 E.2.1 dX11_nightGoes_29 (by decide) (fun c32 => ?_) (fun c32 => ?_)
      · have hf := q_pos c32 hf
        refine lv_iinc (v := v1 + 1) (lv' := [(1, .int (v1 + 1)), (0, .ref (ad G v0))]) E.1 E.2.1 dX11_nightGoes_41 hl (k := 1) rfl rfl (by decide) rfl (fun ls hl => ?_)
        refine lv_goto (tgt := 16) E.1 E.2.1 dX11_nightGoes_44 (by decide) ?_
        exact ih _ _ _ _ _ _ hf w t_v0 (lv_sub hl [1, 0] rfl)
      · have hf := q_neg c32 hf
        refine lv_aload_n E.1 E.2.1 dX11_nightGoes_32 rfl (lv_at hl 0 rfl) ?_
        refine lv_aload_n E.1 E.2.1 dX11_nightGoes_33 rfl (lv_at hl 0 rfl) ?_
        refine lv_iload_n E.1 E.2.1 dX11_nightGoes_34 rfl (lv_at hl 1 rfl) ?_
        obtain ⟨r34, hc33, hf⟩ := bd1_e hf
        refine k_Vi (As := [.int v1]) (rest := [.ref (ad G v0)]) E w t_v0 ⟨by decide, rfl⟩ (X11_floorOf_c t_v0 hc33) mv_RX11_265 rfl rfl hl.1 ⟨Nat.le_of_ble_eq_true rfl, Nat.le_of_ble_eq_true rfl⟩ (Nat.le_of_ble_eq_true rfl) ⟨Nat.le_refl _, Nat.le_refl _⟩ dX11_nightGoes_35 (fun H locs w => ?_)
        obtain ⟨h38, hc36, hf⟩ := bd1_e hf
        refine k_Vv (As := [.int r34]) (rest := []) E w t_v0 ⟨by decide, rfl⟩ (X11_wakesFrom_c t_v0 hc36) mv_RX11_432 rfl rfl hl.1 ⟨Nat.le_of_ble_eq_true rfl, Nat.le_of_ble_eq_true rfl⟩ (Nat.le_of_ble_eq_true rfl) ⟨Nat.le_refl _, Nat.le_refl _⟩ dX11_nightGoes_38 (fun H locs w => ?_)
        refine lv_iinc (v := v1 + 1) (lv' := [(1, .int (v1 + 1)), (0, .ref (ad G v0))]) E.1 E.2.1 dX11_nightGoes_41 hl (k := 1) rfl rfl (by decide) rfl (fun ls hl => ?_)
        refine lv_goto (tgt := 16) E.1 E.2.1 dX11_nightGoes_44 (by decide) ?_
        exact ih _ _ _ _ _ _ hf w t_v0 (lv_sub hl [1, 0] rfl)

def X11_nightGoes (N : Nat) (h : HS) (v0 : Nat) : Option (Int32 × HS) := (if (h.1 v0 33) = (99 : Int32) then some (nz 0, h) else X11_nightGoes_l16 N N h v0 (h.1 v0 34))
set_option maxRecDepth 4000 in
set_option maxHeartbeats 2000000 in
theorem X11_nightGoes_c {l : Launch} {G : GT} {N : Nat} {h : HS} {v0 : Nat} {z : (Int32 × HS)} (t_v0 : sh v0 = 11) (hf : X11_nightGoes N h v0 = some z) : CT l G yX11_nightGoes cX11_nightGoes 3 (some .boolean) 2 44 [.ref (ad G v0)] h (some (.int z.1)) z.2 := by
  unfold X11_nightGoes at hf
  refine CT.of (by decide) (Nat.le_of_ble_eq_true rfl) ?_
  intro p e s m below meth c ls E hr hlk w hl
  have hl : lv_has ls 3 [(0, .ref (ad G v0))] := hl
  refine lv_aload_n E.1 E.2.1 dX11_nightGoes_0 rfl (lv_at hl 0 rfl) ?_
  refine q_gi E w t_v0 fl_RX11_396 dX11_nightGoes_1 ?_
  refine lv_bipush (v := 99) E.1 E.2.1 dX11_nightGoes_4 rfl ?_
  refine lv_icmp_ne (tgt := 11) E.1 E.2.1 dX11_nightGoes_6 (by decide) (fun c1 => ?_) (fun c1 => ?_)
  · have hf := q_neg c1 hf
    refine lv_aload_n E.1 E.2.1 dX11_nightGoes_11 rfl (lv_at hl 0 rfl) ?_
    refine q_gi E w t_v0 fl_RX11_387 dX11_nightGoes_12 ?_
    refine lv_istore_n (lv' := [(1, .int (h.1 v0 34)), (0, .ref (ad G v0))]) E.1 E.2.1 dX11_nightGoes_15 rfl hl (by decide) rfl (fun ls hl => ?_)
    exact X11_nightGoes_l16_w E hr hlk N _ _ _ _ _ _ hf w t_v0 (lv_sub hl [1, 0] rfl)
  · have hf := q_pos c1 hf
    refine lv_iconst (v := 0) E.1 E.2.1 dX11_nightGoes_9 rfl ?_
    have hf := Option.some.inj hf
    subst hf
    exact q_zret E w hr hlk dX11_nightGoes_10

def X11_does (N : Nat) (h : HS) (v0 : Nat) (v1 : Int32) (v2 : Int32) : Option (Int32 × HS) := (if v1 = 0 then bd2 (X11_sings N h v0 v2) fun r3 h4 => some (nz r3, h4) else (if v1 = 1 then bd1 (X11_isSinger N h v0 v2) fun r7 => (if r7 = 0 then some (nz 0, h) else (if v1 = (1 : Int32) then sq (wi h v0 39 ((h.1 v0 39) ||| ((1 : Int32) <<< (v2 &&& 31)))) fun h12 => some (nz 1, h12) else sq (wi h v0 39 ((h.1 v0 39) &&& (((1 : Int32) <<< (v2 &&& 31)) ^^^ (-1)))) fun h11 => some (nz 1, h11))) else (if v1 = 2 then bd1 (X11_isSinger N h v0 v2) fun r15 => (if r15 = 0 then some (nz 0, h) else (if v1 = (1 : Int32) then sq (wi h v0 39 ((h.1 v0 39) ||| ((1 : Int32) <<< (v2 &&& 31)))) fun h20 => some (nz 1, h20) else sq (wi h v0 39 ((h.1 v0 39) &&& (((1 : Int32) <<< (v2 &&& 31)) ^^^ (-1)))) fun h19 => some (nz 1, h19))) else (if v1 = 3 then bd2 (X11_skips N h v0) fun r23 h24 => some (nz r23, h24) else bd2 (X11_nightGoes N h v0) fun r26 h27 => some (nz r26, h27)))))
set_option maxRecDepth 4000 in
set_option maxHeartbeats 2000000 in
theorem X11_does_c {l : Launch} {G : GT} {N : Nat} {h : HS} {v0 : Nat} {v1 : Int32} {v2 : Int32} {z : (Int32 × HS)} (t_v0 : sh v0 = 11) (hf : X11_does N h v0 v1 v2 = some z) : CT l G yX11_does cX11_does 3 (some .boolean) 4 85 [.ref (ad G v0), .int v1, .int v2] h (some (.int z.1)) z.2 := by
  unfold X11_does at hf
  refine CT.of (by decide) (Nat.le_of_ble_eq_true rfl) ?_
  intro p e s m below meth c ls E hr hlk w hl
  have hl : lv_has ls 3 [(0, .ref (ad G v0)), (1, .int v1), (2, .int v2)] := hl
  refine lv_iload_n E.1 E.2.1 dX11_does_0 rfl (lv_at hl 1 rfl) ?_
  by_cases c1 : v1 = 0
  · have hf := q_pos c1 hf
    refine lv_tableIn (off := 31) (tgt := 32) E.1 E.2.1 dX11_does_1 (by rw [c1]; decide) (by rw [c1]; decide) (by rw [c1]; rfl) (by decide) ?_
    refine lv_aload_n E.1 E.2.1 dX11_does_32 rfl (lv_at hl 0 rfl) ?_
    refine lv_iload_n E.1 E.2.1 dX11_does_33 rfl (lv_at hl 2 rfl) ?_
    obtain ⟨r3, h4, hc2, hf⟩ := bd2_e hf
    refine k_Vi (As := [.int v2]) (rest := []) E w t_v0 ⟨by decide, rfl⟩ (X11_sings_c t_v0 hc2) mv_RX11_435 rfl rfl hl.1 ⟨Nat.le_of_ble_eq_true rfl, Nat.le_of_ble_eq_true rfl⟩ (Nat.le_of_ble_eq_true rfl) ⟨Nat.le_refl _, Nat.le_refl _⟩ dX11_does_34 (fun H locs w => ?_)
    have hf := Option.some.inj hf
    subst hf
    exact q_zret E w hr hlk dX11_does_37
  have hf := q_neg c1 hf
  by_cases c5 : v1 = 1
  · have hf := q_pos c5 hf
    refine lv_tableIn (off := 37) (tgt := 38) E.1 E.2.1 dX11_does_1 (by rw [c5]; decide) (by rw [c5]; decide) (by rw [c5]; rfl) (by decide) ?_
    refine lv_aload_n E.1 E.2.1 dX11_does_38 rfl (lv_at hl 0 rfl) ?_
    refine lv_iload_n E.1 E.2.1 dX11_does_39 rfl (lv_at hl 2 rfl) ?_
    obtain ⟨r7, hc6, hf⟩ := bd1_e hf
    refine k_Vi (As := [.int v2]) (rest := []) E w t_v0 ⟨by decide, rfl⟩ (X11_isSinger_c t_v0 hc6) mv_RX11_212 rfl rfl hl.1 ⟨Nat.le_of_ble_eq_true rfl, Nat.le_of_ble_eq_true rfl⟩ (Nat.le_of_ble_eq_true rfl) ⟨Nat.le_refl _, Nat.le_refl _⟩ dX11_does_40 (fun H locs w => ?_)
    refine lv_if_ne (tgt := 48) E.1 E.2.1 dX11_does_43 (by decide) (fun c9 => ?_) (fun c9 => ?_)
    · have hf := q_neg c9 hf
      refine lv_aload_n E.1 E.2.1 dX11_does_48 rfl (lv_at hl 0 rfl) ?_
      refine lv_iload_n E.1 E.2.1 dX11_does_49 rfl (lv_at hl 1 rfl) ?_
      refine lv_iconst (v := 1) E.1 E.2.1 dX11_does_50 rfl ?_
      refine lv_icmp_ne (tgt := 65) E.1 E.2.1 dX11_does_51 (by decide) (fun c10 => ?_) (fun c10 => ?_)
      · have hf := q_neg c10 hf
        refine lv_aload_n E.1 E.2.1 dX11_does_65 rfl (lv_at hl 0 rfl) ?_
        refine q_gi E w t_v0 fl_RX11_408 dX11_does_66 ?_
        refine lv_iconst (v := 1) E.1 E.2.1 dX11_does_69 rfl ?_
        refine lv_iload_n E.1 E.2.1 dX11_does_70 rfl (lv_at hl 2 rfl) ?_
        refine lv_ishl E.1 E.2.1 dX11_does_71 ?_
        refine lv_iconst (v := (-1)) E.1 E.2.1 dX11_does_72 rfl ?_
        refine lv_ixor E.1 E.2.1 dX11_does_73 ?_
        refine lv_iand E.1 E.2.1 dX11_does_74 ?_
        refine p_pi E w t_v0 fl_RX11_408 (fp_11_39 _) dX11_does_75 (fun h11 H locs eh w => ?_)
        have hf := sq_e eh hf
        clear eh
        refine lv_iconst (v := 1) E.1 E.2.1 dX11_does_78 rfl ?_
        have hf := Option.some.inj hf
        subst hf
        exact q_zret E w hr hlk dX11_does_79
      · have hf := q_pos c10 hf
        refine lv_aload_n E.1 E.2.1 dX11_does_54 rfl (lv_at hl 0 rfl) ?_
        refine q_gi E w t_v0 fl_RX11_408 dX11_does_55 ?_
        refine lv_iconst (v := 1) E.1 E.2.1 dX11_does_58 rfl ?_
        refine lv_iload_n E.1 E.2.1 dX11_does_59 rfl (lv_at hl 2 rfl) ?_
        refine lv_ishl E.1 E.2.1 dX11_does_60 ?_
        refine lv_ior E.1 E.2.1 dX11_does_61 ?_
        refine lv_goto (tgt := 75) E.1 E.2.1 dX11_does_62 (by decide) ?_
        refine p_pi E w t_v0 fl_RX11_408 (fp_11_39 _) dX11_does_75 (fun h12 H locs eh w => ?_)
        have hf := sq_e eh hf
        clear eh
        refine lv_iconst (v := 1) E.1 E.2.1 dX11_does_78 rfl ?_
        have hf := Option.some.inj hf
        subst hf
        exact q_zret E w hr hlk dX11_does_79
    · have hf := q_pos c9 hf
      refine lv_iconst (v := 0) E.1 E.2.1 dX11_does_46 rfl ?_
      have hf := Option.some.inj hf
      subst hf
      exact q_zret E w hr hlk dX11_does_47
  have hf := q_neg c5 hf
  by_cases c13 : v1 = 2
  · have hf := q_pos c13 hf
    refine lv_tableIn (off := 37) (tgt := 38) E.1 E.2.1 dX11_does_1 (by rw [c13]; decide) (by rw [c13]; decide) (by rw [c13]; rfl) (by decide) ?_
    refine lv_aload_n E.1 E.2.1 dX11_does_38 rfl (lv_at hl 0 rfl) ?_
    refine lv_iload_n E.1 E.2.1 dX11_does_39 rfl (lv_at hl 2 rfl) ?_
    obtain ⟨r15, hc14, hf⟩ := bd1_e hf
    refine k_Vi (As := [.int v2]) (rest := []) E w t_v0 ⟨by decide, rfl⟩ (X11_isSinger_c t_v0 hc14) mv_RX11_212 rfl rfl hl.1 ⟨Nat.le_of_ble_eq_true rfl, Nat.le_of_ble_eq_true rfl⟩ (Nat.le_of_ble_eq_true rfl) ⟨Nat.le_refl _, Nat.le_refl _⟩ dX11_does_40 (fun H locs w => ?_)
    refine lv_if_ne (tgt := 48) E.1 E.2.1 dX11_does_43 (by decide) (fun c17 => ?_) (fun c17 => ?_)
    · have hf := q_neg c17 hf
      refine lv_aload_n E.1 E.2.1 dX11_does_48 rfl (lv_at hl 0 rfl) ?_
      refine lv_iload_n E.1 E.2.1 dX11_does_49 rfl (lv_at hl 1 rfl) ?_
      refine lv_iconst (v := 1) E.1 E.2.1 dX11_does_50 rfl ?_
      refine lv_icmp_ne (tgt := 65) E.1 E.2.1 dX11_does_51 (by decide) (fun c18 => ?_) (fun c18 => ?_)
      · have hf := q_neg c18 hf
        refine lv_aload_n E.1 E.2.1 dX11_does_65 rfl (lv_at hl 0 rfl) ?_
        refine q_gi E w t_v0 fl_RX11_408 dX11_does_66 ?_
        refine lv_iconst (v := 1) E.1 E.2.1 dX11_does_69 rfl ?_
        refine lv_iload_n E.1 E.2.1 dX11_does_70 rfl (lv_at hl 2 rfl) ?_
        refine lv_ishl E.1 E.2.1 dX11_does_71 ?_
        refine lv_iconst (v := (-1)) E.1 E.2.1 dX11_does_72 rfl ?_
        refine lv_ixor E.1 E.2.1 dX11_does_73 ?_
        refine lv_iand E.1 E.2.1 dX11_does_74 ?_
        refine p_pi E w t_v0 fl_RX11_408 (fp_11_39 _) dX11_does_75 (fun h19 H locs eh w => ?_)
        have hf := sq_e eh hf
        clear eh
        refine lv_iconst (v := 1) E.1 E.2.1 dX11_does_78 rfl ?_
        have hf := Option.some.inj hf
        subst hf
        exact q_zret E w hr hlk dX11_does_79
      · have hf := q_pos c18 hf
        refine lv_aload_n E.1 E.2.1 dX11_does_54 rfl (lv_at hl 0 rfl) ?_
        refine q_gi E w t_v0 fl_RX11_408 dX11_does_55 ?_
        refine lv_iconst (v := 1) E.1 E.2.1 dX11_does_58 rfl ?_
        refine lv_iload_n E.1 E.2.1 dX11_does_59 rfl (lv_at hl 2 rfl) ?_
        refine lv_ishl E.1 E.2.1 dX11_does_60 ?_
        refine lv_ior E.1 E.2.1 dX11_does_61 ?_
        refine lv_goto (tgt := 75) E.1 E.2.1 dX11_does_62 (by decide) ?_
        refine p_pi E w t_v0 fl_RX11_408 (fp_11_39 _) dX11_does_75 (fun h20 H locs eh w => ?_)
        have hf := sq_e eh hf
        clear eh
        refine lv_iconst (v := 1) E.1 E.2.1 dX11_does_78 rfl ?_
        have hf := Option.some.inj hf
        subst hf
        exact q_zret E w hr hlk dX11_does_79
    · have hf := q_pos c17 hf
      refine lv_iconst (v := 0) E.1 E.2.1 dX11_does_46 rfl ?_
      have hf := Option.some.inj hf
      subst hf
      exact q_zret E w hr hlk dX11_does_47
  have hf := q_neg c13 hf
  by_cases c21 : v1 = 3
  · have hf := q_pos c21 hf
    refine lv_tableIn (off := 79) (tgt := 80) E.1 E.2.1 dX11_does_1 (by rw [c21]; decide) (by rw [c21]; decide) (by rw [c21]; rfl) (by decide) ?_
    refine lv_aload_n E.1 E.2.1 dX11_does_80 rfl (lv_at hl 0 rfl) ?_
    obtain ⟨r23, h24, hc22, hf⟩ := bd2_e hf
    refine k_Vi (As := []) (rest := []) E w t_v0 ⟨by decide, rfl⟩ (X11_skips_c t_v0 hc22) mv_RX11_438 rfl rfl hl.1 ⟨Nat.le_of_ble_eq_true rfl, Nat.le_of_ble_eq_true rfl⟩ (Nat.le_of_ble_eq_true rfl) ⟨Nat.le_refl _, Nat.le_refl _⟩ dX11_does_81 (fun H locs w => ?_)
    have hf := Option.some.inj hf
    subst hf
    exact q_zret E w hr hlk dX11_does_84
  have hf := q_neg c21 hf
  refine lv_tableOut (tgt := 85) E.1 E.2.1 dX11_does_1 (by have := ne_i c1 (z := 0) (by decide); have := ne_i c5 (z := 1) (by decide); have := ne_i c13 (z := 2) (by decide); have := ne_i c21 (z := 3) (by decide); omega) (by decide) ?_
  refine lv_aload_n E.1 E.2.1 dX11_does_85 rfl (lv_at hl 0 rfl) ?_
  obtain ⟨r26, h27, hc25, hf⟩ := bd2_e hf
  refine k_Vi (As := []) (rest := []) E w t_v0 ⟨by decide, rfl⟩ (X11_nightGoes_c t_v0 hc25) mv_RX11_441 rfl rfl hl.1 ⟨Nat.le_of_ble_eq_true rfl, Nat.le_of_ble_eq_true rfl⟩ (Nat.le_of_ble_eq_true rfl) ⟨Nat.le_refl _, Nat.le_refl _⟩ dX11_does_86 (fun H locs w => ?_)
  have hf := Option.some.inj hf
  subst hf
  exact q_zret E w hr hlk dX11_does_89

def X11_doesTold (N : Nat) (h : HS) (v0 : Nat) (v1 : Int32) : Option (Int32 × HS) := (if (((h.1 v0 32) + 1) + (2 * v1)) < 0 ∨ 3736 ≤ (((h.1 v0 32) + 1) + (2 * v1)).toNatClampNeg then none else (if (((h.1 v0 32) + 2) + (2 * v1)) < 0 ∨ 3736 ≤ (((h.1 v0 32) + 2) + (2 * v1)).toNatClampNeg then none else bd2 (X11_does N h v0 (h.1 (v0 + 1) (((h.1 v0 32) + 1) + (2 * v1)).toNatClampNeg) (h.1 (v0 + 1) (((h.1 v0 32) + 2) + (2 * v1)).toNatClampNeg)) fun r4 h5 => some (nz r4, h5)))
set_option maxRecDepth 4000 in
set_option maxHeartbeats 2000000 in
theorem X11_doesTold_c {l : Launch} {G : GT} {N : Nat} {h : HS} {v0 : Nat} {v1 : Int32} {z : (Int32 × HS)} (t_v0 : sh v0 = 11) (hf : X11_doesTold N h v0 v1 = some z) : CT l G yX11_doesTold cX11_doesTold 2 (some .boolean) 5 107 [.ref (ad G v0), .int v1] h (some (.int z.1)) z.2 := by
  unfold X11_doesTold at hf
  refine CT.of (by decide) (Nat.le_of_ble_eq_true rfl) ?_
  intro p e s m below meth c ls E hr hlk w hl
  have hl : lv_has ls 2 [(0, .ref (ad G v0)), (1, .int v1)] := hl
  refine lv_aload_n E.1 E.2.1 dX11_doesTold_0 rfl (lv_at hl 0 rfl) ?_
  refine lv_aload_n E.1 E.2.1 dX11_doesTold_1 rfl (lv_at hl 0 rfl) ?_
  refine q_gs E w 1 t_v0 fl_RX11_7 dX11_doesTold_2 ?_
  refine lv_aload_n E.1 E.2.1 dX11_doesTold_5 rfl (lv_at hl 0 rfl) ?_
  refine q_gi E w t_v0 fl_RX11_381 dX11_doesTold_6 ?_
  refine lv_iconst (v := 1) E.1 E.2.1 dX11_doesTold_9 rfl ?_
  refine lv_iadd E.1 E.2.1 dX11_doesTold_10 ?_
  refine lv_iconst (v := 2) E.1 E.2.1 dX11_doesTold_11 rfl ?_
  refine lv_iload_n E.1 E.2.1 dX11_doesTold_12 rfl (lv_at hl 1 rfl) ?_
  refine lv_imul E.1 E.2.1 dX11_doesTold_13 ?_
  refine lv_iadd E.1 E.2.1 dX11_doesTold_14 ?_
  obtain ⟨b1, hf⟩ := q_if hf
  refine q_iald E w ((lay_11_0 t_v0).1) ((lay_11_0 t_v0).2) b1 dX11_doesTold_15 ?_
  refine lv_aload_n E.1 E.2.1 dX11_doesTold_16 rfl (lv_at hl 0 rfl) ?_
  refine q_gs E w 1 t_v0 fl_RX11_7 dX11_doesTold_17 ?_
  refine lv_aload_n E.1 E.2.1 dX11_doesTold_20 rfl (lv_at hl 0 rfl) ?_
  refine q_gi E w t_v0 fl_RX11_381 dX11_doesTold_21 ?_
  refine lv_iconst (v := 2) E.1 E.2.1 dX11_doesTold_24 rfl ?_
  refine lv_iadd E.1 E.2.1 dX11_doesTold_25 ?_
  refine lv_iconst (v := 2) E.1 E.2.1 dX11_doesTold_26 rfl ?_
  refine lv_iload_n E.1 E.2.1 dX11_doesTold_27 rfl (lv_at hl 1 rfl) ?_
  refine lv_imul E.1 E.2.1 dX11_doesTold_28 ?_
  refine lv_iadd E.1 E.2.1 dX11_doesTold_29 ?_
  obtain ⟨b2, hf⟩ := q_if hf
  refine q_iald E w ((lay_11_0 t_v0).1) ((lay_11_0 t_v0).2) b2 dX11_doesTold_30 ?_
  obtain ⟨r4, h5, hc3, hf⟩ := bd2_e hf
  refine k_Vi (As := [.int (h.1 (v0 + 1) (((h.1 v0 32) + 1) + (2 * v1)).toNatClampNeg), .int (h.1 (v0 + 1) (((h.1 v0 32) + 2) + (2 * v1)).toNatClampNeg)]) (rest := []) E w t_v0 ⟨by decide, rfl⟩ (X11_does_c t_v0 hc3) mv_RX11_444 rfl rfl hl.1 ⟨Nat.le_of_ble_eq_true rfl, Nat.le_of_ble_eq_true rfl⟩ (Nat.le_of_ble_eq_true rfl) ⟨Nat.le_refl _, Nat.le_refl _⟩ dX11_doesTold_31 (fun H locs w => ?_)
  have hf := Option.some.inj hf
  subst hf
  exact q_zret E w hr hlk dX11_doesTold_34

def X11_runs_l4 (N : Nat) : Nat → HS → Nat → Int32 → Option HS
  | 0, _, _, _ => none
  | n + 1, h, v0, v1 => (if v1 ≤ (h.1 v0 41) then some h else (if (h.1 v0 32) < 0 ∨ 3736 ≤ (h.1 v0 32).toNatClampNeg then none else (if (h.1 (v0 + 1) (h.1 v0 32).toNatClampNeg) ≤ (h.1 v0 41) then some h else bd2 (X11_doesTold N h v0 (h.1 v0 41)) fun r8 h9 => (if r8 = 0 then some h9 else sq (wi h9 v0 41 ((h9.1 v0 41) + 1)) fun h11 => X11_runs_l4 N n h11 v0 v1))))
set_option maxRecDepth 4000 in
set_option maxHeartbeats 2000000 in
theorem X11_runs_l4_w {p : Program} {l : Launch} {e : Env} {s : State} {m : MethodId} {args : Array Value} {below : List Frame} {meth : Method} {c : Code} {G : GT} {N : Nat} {z : HS} (E : CallFix p m c cX11_runs 2 s args UW RX11) (hr : meth.sig.returnType = none) (hlk : meth.locks = false) : ∀ (n : Nat) (h : HS) (H : Heap) (locs : List Loc) (ls : Array Slot) (v0 : Nat) (v1 : Int32), X11_runs_l4 N n h v0 v1 = some z → WD G s h H locs → sh v0 = 11 → lv_has ls 2 [(0, .ref (ad G v0)), (1, .int v1)] → W p l e ({ frames := 6, cells := 0, slots := 0, locals := 128 } : Room) s m args below meth c H locs 0 0 (MQ below (QC G none z) args s 0 0 (AD G)) (F0 m 4 ls []) := by
  intro n
  induction n with
  | zero =>
    intro h H locs ls v0 v1 hf
    cases hf
  | succ n ih =>
    intro h H locs ls v0 v1 hf w t_v0 hl
    unfold X11_runs_l4 at hf
    refine lv_aload_n E.1 E.2.1 dX11_runs_4 rfl (lv_at hl 0 rfl) ?_
    refine q_gi E w t_v0 fl_RX11_411 dX11_runs_5 ?_
    refine lv_iload_n E.1 E.2.1 dX11_runs_8 rfl (lv_at hl 1 rfl) ?_
    refine lv_icmp_ge (tgt := 52) E.1 E.2.1 dX11_runs_9 (by decide) (fun c4 => ?_) (fun c4 => ?_)
    · have hf := q_pos c4 hf
      have hf := Option.some.inj hf
      subst hf
      exact q_vret E w hr hlk dX11_runs_52
    · have hf := q_neg c4 hf
      refine lv_aload_n E.1 E.2.1 dX11_runs_12 rfl (lv_at hl 0 rfl) ?_
      refine q_gi E w t_v0 fl_RX11_411 dX11_runs_13 ?_
      refine lv_aload_n E.1 E.2.1 dX11_runs_16 rfl (lv_at hl 0 rfl) ?_
      refine q_gs E w 1 t_v0 fl_RX11_7 dX11_runs_17 ?_
      refine lv_aload_n E.1 E.2.1 dX11_runs_20 rfl (lv_at hl 0 rfl) ?_
      refine q_gi E w t_v0 fl_RX11_381 dX11_runs_21 ?_
      obtain ⟨b5, hf⟩ := q_if hf
      refine q_iald E w ((lay_11_0 t_v0).1) ((lay_11_0 t_v0).2) b5 dX11_runs_24 ?_
      refine lv_icmp_ge (tgt := 52) E.1 E.2.1 dX11_runs_25 (by decide) (fun c6 => ?_) (fun c6 => ?_)
      · have hf := q_pos c6 hf
        have hf := Option.some.inj hf
        subst hf
        exact q_vret E w hr hlk dX11_runs_52
      · have hf := q_neg c6 hf
        refine lv_aload_n E.1 E.2.1 dX11_runs_28 rfl (lv_at hl 0 rfl) ?_
        refine lv_aload_n E.1 E.2.1 dX11_runs_29 rfl (lv_at hl 0 rfl) ?_
        refine q_gi E w t_v0 fl_RX11_411 dX11_runs_30 ?_
        obtain ⟨r8, h9, hc7, hf⟩ := bd2_e hf
        refine k_Vi (As := [.int (h.1 v0 41)]) (rest := []) E w t_v0 ⟨by decide, rfl⟩ (X11_doesTold_c t_v0 hc7) mv_RX11_450 rfl rfl hl.1 ⟨Nat.le_of_ble_eq_true rfl, Nat.le_of_ble_eq_true rfl⟩ (Nat.le_of_ble_eq_true rfl) ⟨Nat.le_refl _, Nat.le_refl _⟩ dX11_runs_33 (fun H locs w => ?_)
        refine lv_if_eq (tgt := 52) E.1 E.2.1 dX11_runs_36 (by decide) (fun c10 => ?_) (fun c10 => ?_)
        · have hf := q_pos c10 hf
          have hf := Option.some.inj hf
          subst hf
          exact q_vret E w hr hlk dX11_runs_52
        · have hf := q_neg c10 hf
          refine lv_aload_n E.1 E.2.1 dX11_runs_39 rfl (lv_at hl 0 rfl) ?_
          refine lv_dup E.1 E.2.1 dX11_runs_40 rfl ?_
          refine q_gi E w t_v0 fl_RX11_411 dX11_runs_41 ?_
          refine lv_iconst (v := 1) E.1 E.2.1 dX11_runs_44 rfl ?_
          refine lv_iadd E.1 E.2.1 dX11_runs_45 ?_
          refine p_pi E w t_v0 fl_RX11_411 (fp_11_41 _) dX11_runs_46 (fun h11 H locs eh w => ?_)
          have hf := sq_e eh hf
          clear eh
          refine lv_goto (tgt := 4) E.1 E.2.1 dX11_runs_49 (by decide) ?_
          exact ih _ _ _ _ _ _ hf w t_v0 (lv_sub hl [0, 1] rfl)

def X11_runs (N : Nat) (h : HS) (v0 : Nat) (v1 : Int32) : Option HS := bd1 (X11_begins N h v0) fun h3 => X11_runs_l4 N N h3 v0 v1
set_option maxRecDepth 4000 in
set_option maxHeartbeats 2000000 in
theorem X11_runs_c {l : Launch} {G : GT} {N : Nat} {h : HS} {v0 : Nat} {v1 : Int32} {z : HS} (t_v0 : sh v0 = 11) (hf : X11_runs N h v0 v1 = some z) : CT l G yX11_runs cX11_runs 2 none 6 128 [.ref (ad G v0), .int v1] h none z := by
  unfold X11_runs at hf
  refine CT.of (by decide) (Nat.le_of_ble_eq_true rfl) ?_
  intro p e s m below meth c ls E hr hlk w hl
  have hl : lv_has ls 2 [(0, .ref (ad G v0)), (1, .int v1)] := hl
  refine lv_aload_n E.1 E.2.1 dX11_runs_0 rfl (lv_at hl 0 rfl) ?_
  obtain ⟨h3, hc1, hf⟩ := bd1_e hf
  refine k_Vv (As := []) (rest := []) E w t_v0 ⟨by decide, rfl⟩ (X11_begins_c t_v0 hc1) mv_RX11_447 rfl rfl hl.1 ⟨Nat.le_of_ble_eq_true rfl, Nat.le_of_ble_eq_true rfl⟩ (Nat.le_of_ble_eq_true rfl) ⟨Nat.le_refl _, Nat.le_refl _⟩ dX11_runs_1 (fun H locs w => ?_)
  exact X11_runs_l4_w E hr hlk N _ _ _ _ _ _ hf w t_v0 (lv_sub hl [0, 1] rfl)

def X11_stop (N : Nat) (h : HS) (v0 : Nat) (v1 : Int32) (v2 : Int32) : Option (Int32 × HS) := bd2 (X11_isHouse N h v0 v1) fun r2 h3 => (if r2 = 0 then some ((-1), h3) else bd2 (X11_areNights N h3 v0 v2) fun r6 h7 => (if r6 = 0 then some ((-1), h7) else bd1 (X11_runs N h7 v0 40) fun h11 => some (h11.1 v0 41, h11)))
set_option maxRecDepth 4000 in
set_option maxHeartbeats 2000000 in
theorem X11_stop_c {l : Launch} {G : GT} {N : Nat} {h : HS} {v0 : Nat} {v1 : Int32} {v2 : Int32} {z : (Int32 × HS)} (t_v0 : sh v0 = 11) (hf : X11_stop N h v0 v1 v2 = some z) : CT l G yX11_stop cX11_stop 3 (some .int) 7 149 [.ref (ad G v0), .int v1, .int v2] h (some (.int z.1)) z.2 := by
  unfold X11_stop at hf
  refine CT.of (by decide) (Nat.le_of_ble_eq_true rfl) ?_
  intro p e s m below meth c ls E hr hlk w hl
  have hl : lv_has ls 3 [(0, .ref (ad G v0)), (1, .int v1), (2, .int v2)] := hl
  refine lv_aload_n E.1 E.2.1 dX11_stop_0 rfl (lv_at hl 0 rfl) ?_
  refine lv_iload_n E.1 E.2.1 dX11_stop_1 rfl (lv_at hl 1 rfl) ?_
  obtain ⟨r2, h3, hc1, hf⟩ := bd2_e hf
  refine k_Vi (As := [.int v1]) (rest := []) E w t_v0 ⟨by decide, rfl⟩ (X11_isHouse_c t_v0 hc1) mv_RX11_197 rfl rfl hl.1 ⟨Nat.le_of_ble_eq_true rfl, Nat.le_of_ble_eq_true rfl⟩ (Nat.le_of_ble_eq_true rfl) ⟨Nat.le_refl _, Nat.le_refl _⟩ dX11_stop_2 (fun H locs w => ?_)
  refine lv_if_eq (tgt := 16) E.1 E.2.1 dX11_stop_5 (by decide) (fun c4 => ?_) (fun c4 => ?_)
  · have hf := q_pos c4 hf
    refine lv_iconst (v := (-1)) E.1 E.2.1 dX11_stop_16 rfl ?_
    have hf := Option.some.inj hf
    subst hf
    exact q_iret E w hr hlk dX11_stop_17
  · have hf := q_neg c4 hf
    refine lv_aload_n E.1 E.2.1 dX11_stop_8 rfl (lv_at hl 0 rfl) ?_
    refine lv_iload_n E.1 E.2.1 dX11_stop_9 rfl (lv_at hl 2 rfl) ?_
    obtain ⟨r6, h7, hc5, hf⟩ := bd2_e hf
    refine k_Vi (As := [.int v2]) (rest := []) E w t_v0 ⟨by decide, rfl⟩ (X11_areNights_c t_v0 hc5) mv_RX11_384 rfl rfl hl.1 ⟨Nat.le_of_ble_eq_true rfl, Nat.le_of_ble_eq_true rfl⟩ (Nat.le_of_ble_eq_true rfl) ⟨Nat.le_refl _, Nat.le_refl _⟩ dX11_stop_10 (fun H locs w => ?_)
    refine lv_if_ne (tgt := 18) E.1 E.2.1 dX11_stop_13 (by decide) (fun c8 => ?_) (fun c8 => ?_)
    · have hf := q_neg c8 hf
      refine lv_aload_n E.1 E.2.1 dX11_stop_18 rfl (lv_at hl 0 rfl) ?_
      refine lv_bipush (v := 40) E.1 E.2.1 dX11_stop_19 rfl ?_
      obtain ⟨h11, hc9, hf⟩ := bd1_e hf
      refine k_Vv (As := [.int 40]) (rest := []) E w t_v0 ⟨by decide, rfl⟩ (X11_runs_c t_v0 hc9) mv_RX11_453 rfl rfl hl.1 ⟨Nat.le_of_ble_eq_true rfl, Nat.le_of_ble_eq_true rfl⟩ (Nat.le_of_ble_eq_true rfl) ⟨Nat.le_refl _, Nat.le_refl _⟩ dX11_stop_21 (fun H locs w => ?_)
      refine lv_aload_n E.1 E.2.1 dX11_stop_24 rfl (lv_at hl 0 rfl) ?_
      refine q_gi E w t_v0 fl_RX11_411 dX11_stop_25 ?_
      have hf := Option.some.inj hf
      subst hf
      exact q_iret E w hr hlk dX11_stop_28
    · have hf := q_pos c8 hf
      refine lv_iconst (v := (-1)) E.1 E.2.1 dX11_stop_16 rfl ?_
      have hf := Option.some.inj hf
      subst hf
      exact q_iret E w hr hlk dX11_stop_17

def X11_nowOf (N : Nat) (h : HS) (v0 : Nat) (v1 : Int32) : Option Int32 := (if v1 = 0 then some (h.1 v0 33) else (if v1 = 1 then bd1 (X11_nextBar N h v0) fun r4 => some r4 else (if v1 = 2 then some (h.1 v0 35) else (if v1 = 3 then some (h.1 v0 36) else (if v1 = 4 then some (h.1 v0 37) else (if v1 = 5 then some (h.1 v0 38) else (if v1 = 6 then some (h.1 v0 39) else (if v1 = 7 then bd1 (X11_lastSinger N h v0) fun r13 => some r13 else (if v1 = 8 then some (h.1 v0 40) else bd1 (X11_isSinger N h v0 (v1 - 10)) fun r17 => (if r17 = 0 then some (-2) else (if (v1 - 10) < 0 ∨ 5 ≤ (v1 - 10).toNatClampNeg then none else some (h.1 (v0 + 16) (v1 - 10).toNatClampNeg))))))))))))
set_option maxRecDepth 4000 in
set_option maxHeartbeats 2000000 in
theorem X11_nowOf_c {l : Launch} {G : GT} {N : Nat} {h : HS} {v0 : Nat} {v1 : Int32} {z : Int32} (t_v0 : sh v0 = 11) (hf : X11_nowOf N h v0 v1 = some z) : CT l G yX11_nowOf cX11_nowOf 2 (some .int) 3 63 [.ref (ad G v0), .int v1] h (some (.int z)) h := by
  unfold X11_nowOf at hf
  refine CT.of (by decide) (Nat.le_of_ble_eq_true rfl) ?_
  intro p e s m below meth c ls E hr hlk w hl
  have hl : lv_has ls 2 [(0, .ref (ad G v0)), (1, .int v1)] := hl
  refine lv_iload_n E.1 E.2.1 dX11_nowOf_0 rfl (lv_at hl 1 rfl) ?_
  by_cases c1 : v1 = 0
  · have hf := q_pos c1 hf
    refine lv_tableIn (off := 51) (tgt := 52) E.1 E.2.1 dX11_nowOf_1 (by rw [c1]; decide) (by rw [c1]; decide) (by rw [c1]; rfl) (by decide) ?_
    refine lv_aload_n E.1 E.2.1 dX11_nowOf_52 rfl (lv_at hl 0 rfl) ?_
    refine q_gi E w t_v0 fl_RX11_396 dX11_nowOf_53 ?_
    have hf := Option.some.inj hf
    subst hf
    exact q_iret E w hr hlk dX11_nowOf_56
  have hf := q_neg c1 hf
  by_cases c2 : v1 = 1
  · have hf := q_pos c2 hf
    refine lv_tableIn (off := 56) (tgt := 57) E.1 E.2.1 dX11_nowOf_1 (by rw [c2]; decide) (by rw [c2]; decide) (by rw [c2]; rfl) (by decide) ?_
    refine lv_aload_n E.1 E.2.1 dX11_nowOf_57 rfl (lv_at hl 0 rfl) ?_
    obtain ⟨r4, hc3, hf⟩ := bd1_e hf
    refine k_Vi (As := []) (rest := []) E w t_v0 ⟨by decide, rfl⟩ (X11_nextBar_c t_v0 hc3) mv_RX11_426 rfl rfl hl.1 ⟨Nat.le_of_ble_eq_true rfl, Nat.le_of_ble_eq_true rfl⟩ (Nat.le_of_ble_eq_true rfl) ⟨Nat.le_refl _, Nat.le_refl _⟩ dX11_nowOf_58 (fun H locs w => ?_)
    have hf := Option.some.inj hf
    subst hf
    exact q_iret E w hr hlk dX11_nowOf_61
  have hf := q_neg c2 hf
  by_cases c6 : v1 = 2
  · have hf := q_pos c6 hf
    refine lv_tableIn (off := 61) (tgt := 62) E.1 E.2.1 dX11_nowOf_1 (by rw [c6]; decide) (by rw [c6]; decide) (by rw [c6]; rfl) (by decide) ?_
    refine lv_aload_n E.1 E.2.1 dX11_nowOf_62 rfl (lv_at hl 0 rfl) ?_
    refine q_gi E w t_v0 fl_RX11_390 dX11_nowOf_63 ?_
    have hf := Option.some.inj hf
    subst hf
    exact q_iret E w hr hlk dX11_nowOf_66
  have hf := q_neg c6 hf
  by_cases c7 : v1 = 3
  · have hf := q_pos c7 hf
    refine lv_tableIn (off := 66) (tgt := 67) E.1 E.2.1 dX11_nowOf_1 (by rw [c7]; decide) (by rw [c7]; decide) (by rw [c7]; rfl) (by decide) ?_
    refine lv_aload_n E.1 E.2.1 dX11_nowOf_67 rfl (lv_at hl 0 rfl) ?_
    refine q_gi E w t_v0 fl_RX11_399 dX11_nowOf_68 ?_
    have hf := Option.some.inj hf
    subst hf
    exact q_iret E w hr hlk dX11_nowOf_71
  have hf := q_neg c7 hf
  by_cases c8 : v1 = 4
  · have hf := q_pos c8 hf
    refine lv_tableIn (off := 71) (tgt := 72) E.1 E.2.1 dX11_nowOf_1 (by rw [c8]; decide) (by rw [c8]; decide) (by rw [c8]; rfl) (by decide) ?_
    refine lv_aload_n E.1 E.2.1 dX11_nowOf_72 rfl (lv_at hl 0 rfl) ?_
    refine q_gi E w t_v0 fl_RX11_402 dX11_nowOf_73 ?_
    have hf := Option.some.inj hf
    subst hf
    exact q_iret E w hr hlk dX11_nowOf_76
  have hf := q_neg c8 hf
  by_cases c9 : v1 = 5
  · have hf := q_pos c9 hf
    refine lv_tableIn (off := 76) (tgt := 77) E.1 E.2.1 dX11_nowOf_1 (by rw [c9]; decide) (by rw [c9]; decide) (by rw [c9]; rfl) (by decide) ?_
    refine lv_aload_n E.1 E.2.1 dX11_nowOf_77 rfl (lv_at hl 0 rfl) ?_
    refine q_gi E w t_v0 fl_RX11_405 dX11_nowOf_78 ?_
    have hf := Option.some.inj hf
    subst hf
    exact q_iret E w hr hlk dX11_nowOf_81
  have hf := q_neg c9 hf
  by_cases c10 : v1 = 6
  · have hf := q_pos c10 hf
    refine lv_tableIn (off := 81) (tgt := 82) E.1 E.2.1 dX11_nowOf_1 (by rw [c10]; decide) (by rw [c10]; decide) (by rw [c10]; rfl) (by decide) ?_
    refine lv_aload_n E.1 E.2.1 dX11_nowOf_82 rfl (lv_at hl 0 rfl) ?_
    refine q_gi E w t_v0 fl_RX11_408 dX11_nowOf_83 ?_
    have hf := Option.some.inj hf
    subst hf
    exact q_iret E w hr hlk dX11_nowOf_86
  have hf := q_neg c10 hf
  by_cases c11 : v1 = 7
  · have hf := q_pos c11 hf
    refine lv_tableIn (off := 86) (tgt := 87) E.1 E.2.1 dX11_nowOf_1 (by rw [c11]; decide) (by rw [c11]; decide) (by rw [c11]; rfl) (by decide) ?_
    refine lv_aload_n E.1 E.2.1 dX11_nowOf_87 rfl (lv_at hl 0 rfl) ?_
    obtain ⟨r13, hc12, hf⟩ := bd1_e hf
    refine k_Vi (As := []) (rest := []) E w t_v0 ⟨by decide, rfl⟩ (X11_lastSinger_c t_v0 hc12) mv_RX11_429 rfl rfl hl.1 ⟨Nat.le_of_ble_eq_true rfl, Nat.le_of_ble_eq_true rfl⟩ (Nat.le_of_ble_eq_true rfl) ⟨Nat.le_refl _, Nat.le_refl _⟩ dX11_nowOf_88 (fun H locs w => ?_)
    have hf := Option.some.inj hf
    subst hf
    exact q_iret E w hr hlk dX11_nowOf_91
  have hf := q_neg c11 hf
  by_cases c15 : v1 = 8
  · have hf := q_pos c15 hf
    refine lv_tableIn (off := 91) (tgt := 92) E.1 E.2.1 dX11_nowOf_1 (by rw [c15]; decide) (by rw [c15]; decide) (by rw [c15]; rfl) (by decide) ?_
    refine lv_aload_n E.1 E.2.1 dX11_nowOf_92 rfl (lv_at hl 0 rfl) ?_
    refine q_gi E w t_v0 fl_RX11_393 dX11_nowOf_93 ?_
    have hf := Option.some.inj hf
    subst hf
    exact q_iret E w hr hlk dX11_nowOf_96
  have hf := q_neg c15 hf
  refine lv_tableOut (tgt := 97) E.1 E.2.1 dX11_nowOf_1 (by have := ne_i c1 (z := 0) (by decide); have := ne_i c2 (z := 1) (by decide); have := ne_i c6 (z := 2) (by decide); have := ne_i c7 (z := 3) (by decide); have := ne_i c8 (z := 4) (by decide); have := ne_i c9 (z := 5) (by decide); have := ne_i c10 (z := 6) (by decide); have := ne_i c11 (z := 7) (by decide); have := ne_i c15 (z := 8) (by decide); omega) (by decide) ?_
  refine lv_aload_n E.1 E.2.1 dX11_nowOf_97 rfl (lv_at hl 0 rfl) ?_
  refine lv_iload_n E.1 E.2.1 dX11_nowOf_98 rfl (lv_at hl 1 rfl) ?_
  refine lv_bipush (v := 10) E.1 E.2.1 dX11_nowOf_99 rfl ?_
  refine lv_isub E.1 E.2.1 dX11_nowOf_101 ?_
  obtain ⟨r17, hc16, hf⟩ := bd1_e hf
  refine k_Vi (As := [.int (v1 - 10)]) (rest := []) E w t_v0 ⟨by decide, rfl⟩ (X11_isSinger_c t_v0 hc16) mv_RX11_212 rfl rfl hl.1 ⟨Nat.le_of_ble_eq_true rfl, Nat.le_of_ble_eq_true rfl⟩ (Nat.le_of_ble_eq_true rfl) ⟨Nat.le_refl _, Nat.le_refl _⟩ dX11_nowOf_102 (fun H locs w => ?_)
  refine lv_if_eq (tgt := 120) E.1 E.2.1 dX11_nowOf_105 (by decide) (fun c19 => ?_) (fun c19 => ?_)
  · have hf := q_pos c19 hf
    refine lv_bipush (v := (-2)) E.1 E.2.1 dX11_nowOf_120 rfl ?_
    have hf := Option.some.inj hf
    subst hf
    exact q_iret E w hr hlk dX11_nowOf_122
  · have hf := q_neg c19 hf
    refine lv_aload_n E.1 E.2.1 dX11_nowOf_108 rfl (lv_at hl 0 rfl) ?_
    refine q_gs E w 16 t_v0 fl_RX11_56 dX11_nowOf_109 ?_
    refine lv_iload_n E.1 E.2.1 dX11_nowOf_112 rfl (lv_at hl 1 rfl) ?_
    refine lv_bipush (v := 10) E.1 E.2.1 dX11_nowOf_113 rfl ?_
    refine lv_isub E.1 E.2.1 dX11_nowOf_115 ?_
    obtain ⟨b20, hf⟩ := q_if hf
    refine q_iald E w ((lay_11_45 t_v0).1) ((lay_11_45 t_v0).2) b20 dX11_nowOf_116 ?_
    refine lv_goto (tgt := 122) E.1 E.2.1 dX11_nowOf_117 (by decide) ?_
    have hf := Option.some.inj hf
    subst hf
    exact q_iret E w hr hlk dX11_nowOf_122

def X11_state (N : Nat) (h : HS) (v0 : Nat) (v1 : Int32) (v2 : Int32) (v3 : Int32) (v4 : Int32) : Option (Int32 × HS) := bd2 (X11_isHouse N h v0 v1) fun r2 h3 => (if r2 = 0 then some ((-2), h3) else bd2 (X11_areNights N h3 v0 v2) fun r6 h7 => (if r6 = 0 then some ((-2), h7) else (if 0 ≤ v3 then bd1 (X11_runs N h7 v0 v3) fun h12 => (if (h12.1 v0 41) = v3 then bd1 (X11_nowOf N h12 v0 v4) fun r15 => some (r15, h12) else some ((-2), h12)) else some ((-2), h7))))
set_option maxRecDepth 4000 in
set_option maxHeartbeats 2000000 in
theorem X11_state_c {l : Launch} {G : GT} {N : Nat} {h : HS} {v0 : Nat} {v1 : Int32} {v2 : Int32} {v3 : Int32} {v4 : Int32} {z : (Int32 × HS)} (t_v0 : sh v0 = 11) (hf : X11_state N h v0 v1 v2 v3 v4 = some z) : CT l G yX11_state cX11_state 5 (some .int) 7 149 [.ref (ad G v0), .int v1, .int v2, .int v3, .int v4] h (some (.int z.1)) z.2 := by
  unfold X11_state at hf
  refine CT.of (by decide) (Nat.le_of_ble_eq_true rfl) ?_
  intro p e s m below meth c ls E hr hlk w hl
  have hl : lv_has ls 5 [(0, .ref (ad G v0)), (1, .int v1), (2, .int v2), (3, .int v3), (4, .int v4)] := hl
  refine lv_aload_n E.1 E.2.1 dX11_state_0 rfl (lv_at hl 0 rfl) ?_
  refine lv_iload_n E.1 E.2.1 dX11_state_1 rfl (lv_at hl 1 rfl) ?_
  obtain ⟨r2, h3, hc1, hf⟩ := bd2_e hf
  refine k_Vi (As := [.int v1]) (rest := []) E w t_v0 ⟨by decide, rfl⟩ (X11_isHouse_c t_v0 hc1) mv_RX11_197 rfl rfl hl.1 ⟨Nat.le_of_ble_eq_true rfl, Nat.le_of_ble_eq_true rfl⟩ (Nat.le_of_ble_eq_true rfl) ⟨Nat.le_refl _, Nat.le_refl _⟩ dX11_state_2 (fun H locs w => ?_)
  refine lv_if_eq (tgt := 20) E.1 E.2.1 dX11_state_5 (by decide) (fun c4 => ?_) (fun c4 => ?_)
  · have hf := q_pos c4 hf
    refine lv_bipush (v := (-2)) E.1 E.2.1 dX11_state_20 rfl ?_
    have hf := Option.some.inj hf
    subst hf
    exact q_iret E w hr hlk dX11_state_22
  · have hf := q_neg c4 hf
    refine lv_aload_n E.1 E.2.1 dX11_state_8 rfl (lv_at hl 0 rfl) ?_
    refine lv_iload_n E.1 E.2.1 dX11_state_9 rfl (lv_at hl 2 rfl) ?_
    obtain ⟨r6, h7, hc5, hf⟩ := bd2_e hf
    refine k_Vi (As := [.int v2]) (rest := []) E w t_v0 ⟨by decide, rfl⟩ (X11_areNights_c t_v0 hc5) mv_RX11_384 rfl rfl hl.1 ⟨Nat.le_of_ble_eq_true rfl, Nat.le_of_ble_eq_true rfl⟩ (Nat.le_of_ble_eq_true rfl) ⟨Nat.le_refl _, Nat.le_refl _⟩ dX11_state_10 (fun H locs w => ?_)
    refine lv_if_eq (tgt := 20) E.1 E.2.1 dX11_state_13 (by decide) (fun c8 => ?_) (fun c8 => ?_)
    · have hf := q_pos c8 hf
      refine lv_bipush (v := (-2)) E.1 E.2.1 dX11_state_20 rfl ?_
      have hf := Option.some.inj hf
      subst hf
      exact q_iret E w hr hlk dX11_state_22
    · have hf := q_neg c8 hf
      refine lv_iload_n E.1 E.2.1 dX11_state_16 rfl (lv_at hl 3 rfl) ?_
      refine lv_if_ge (tgt := 23) E.1 E.2.1 dX11_state_17 (by decide) (fun c9 => ?_) (fun c9 => ?_)
      · have hf := q_pos c9 hf
        refine lv_aload_n E.1 E.2.1 dX11_state_23 rfl (lv_at hl 0 rfl) ?_
        refine lv_iload_n E.1 E.2.1 dX11_state_24 rfl (lv_at hl 3 rfl) ?_
        obtain ⟨h12, hc10, hf⟩ := bd1_e hf
        refine k_Vv (As := [.int v3]) (rest := []) E w t_v0 ⟨by decide, rfl⟩ (X11_runs_c t_v0 hc10) mv_RX11_453 rfl rfl hl.1 ⟨Nat.le_of_ble_eq_true rfl, Nat.le_of_ble_eq_true rfl⟩ (Nat.le_of_ble_eq_true rfl) ⟨Nat.le_refl _, Nat.le_refl _⟩ dX11_state_25 (fun H locs w => ?_)
        refine lv_aload_n E.1 E.2.1 dX11_state_28 rfl (lv_at hl 0 rfl) ?_
        refine q_gi E w t_v0 fl_RX11_411 dX11_state_29 ?_
        refine lv_iload_n E.1 E.2.1 dX11_state_32 rfl (lv_at hl 3 rfl) ?_
        refine lv_icmp_ne (tgt := 45) E.1 E.2.1 dX11_state_33 (by decide) (fun c13 => ?_) (fun c13 => ?_)
        · have hf := q_neg c13 hf
          refine lv_bipush (v := (-2)) E.1 E.2.1 dX11_state_45 rfl ?_
          have hf := Option.some.inj hf
          subst hf
          exact q_iret E w hr hlk dX11_state_47
        · have hf := q_pos c13 hf
          refine lv_aload_n E.1 E.2.1 dX11_state_36 rfl (lv_at hl 0 rfl) ?_
          refine lv_iload E.1 E.2.1 dX11_state_37 (lv_at hl 4 rfl) ?_
          obtain ⟨r15, hc14, hf⟩ := bd1_e hf
          refine k_Vi (As := [.int v4]) (rest := []) E w t_v0 ⟨by decide, rfl⟩ (X11_nowOf_c t_v0 hc14) mv_RX11_456 rfl rfl hl.1 ⟨Nat.le_of_ble_eq_true rfl, Nat.le_of_ble_eq_true rfl⟩ (Nat.le_of_ble_eq_true rfl) ⟨Nat.le_refl _, Nat.le_refl _⟩ dX11_state_39 (fun H locs w => ?_)
          refine lv_goto (tgt := 47) E.1 E.2.1 dX11_state_42 (by decide) ?_
          have hf := Option.some.inj hf
          subst hf
          exact q_iret E w hr hlk dX11_state_47
      · have hf := q_neg c9 hf
        refine lv_bipush (v := (-2)) E.1 E.2.1 dX11_state_20 rfl ?_
        have hf := Option.some.inj hf
        subst hf
        exact q_iret E w hr hlk dX11_state_22

def X11_after_l90 (N : Nat) : Nat → HS → Nat → Int32 → Int32 → Int32 → Int32 → Option (Int32 × HS)
  | 0, _, _, _, _, _, _ => none
  | n + 1, h, v0, v3, v4, v5, v6 => (if (5 : Int32) ≤ v6 then (if v3 = 0 then some (v4, h) else (if v3 = (1 : Int32) then (if v5 < 0 ∨ 5 ≤ v5.toNatClampNeg then none else (if (h.1 (v0 + 17) v5.toNatClampNeg) = 0 then some ((-1), h) else some (v5, h))) else (if v3 = (2 : Int32) then some (h.1 v0 42, h) else some (h.1 v0 44, h)))) else (if v6 < 0 ∨ 5 ≤ v6.toNatClampNeg then none else (if v5 < 0 ∨ 5 ≤ v5.toNatClampNeg then none else (if (h.1 (v0 + 17) v6.toNatClampNeg) ≤ (h.1 (v0 + 17) v5.toNatClampNeg) then X11_after_l90 N n h v0 v3 v4 v5 (v6 + 1) else X11_after_l90 N n h v0 v3 v4 v6 (v6 + 1)))))
set_option maxRecDepth 4000 in
set_option maxHeartbeats 2000000 in
theorem X11_after_l90_w {p : Program} {l : Launch} {e : Env} {s : State} {m : MethodId} {args : Array Value} {below : List Frame} {meth : Method} {c : Code} {G : GT} {N : Nat} {z : (Int32 × HS)} (E : CallFix p m c cX11_after 7 s args UW RX11) (hr : meth.sig.returnType = (some .int)) (hlk : meth.locks = false) : ∀ (n : Nat) (h : HS) (H : Heap) (locs : List Loc) (ls : Array Slot) (v0 : Nat) (v3 : Int32) (v4 : Int32) (v5 : Int32) (v6 : Int32), X11_after_l90 N n h v0 v3 v4 v5 v6 = some z → WD G s h H locs → sh v0 = 11 → lv_has ls 7 [(0, .ref (ad G v0)), (3, .int v3), (4, .int v4), (5, .int v5), (6, .int v6)] → W p l e ({ frames := 6, cells := 0, slots := 0, locals := 128 } : Room) s m args below meth c H locs 0 0 (MQ below (QC G (some (.int z.1)) z.2) args s 0 0 (AD G)) (F0 m 90 ls []) := by
  intro n
  induction n with
  | zero =>
    intro h H locs ls v0 v3 v4 v5 v6 hf
    cases hf
  | succ n ih =>
    intro h H locs ls v0 v3 v4 v5 v6 hf w t_v0 hl
    unfold X11_after_l90 at hf
    refine lv_iload E.1 E.2.1 dX11_after_90 (lv_at hl 4 rfl) ?_
    refine lv_iconst (v := 5) E.1 E.2.1 dX11_after_92 rfl ?_
    refine lv_icmp_ge (tgt := 128) E.1 E.2.1 dX11_after_93 (by decide) (fun c18 => ?_) (fun c18 => ?_)
    · have hf := q_pos c18 hf
      refine lv_iload_n E.1 E.2.1 dX11_after_128 rfl (lv_at hl 1 rfl) ?_
      refine lv_if_ne (tgt := 137) E.1 E.2.1 dX11_after_129 (by decide) (fun c19 => ?_) (fun c19 => ?_)
      · have hf := q_neg c19 hf
        refine lv_iload_n E.1 E.2.1 dX11_after_137 rfl (lv_at hl 1 rfl) ?_
        refine lv_iconst (v := 1) E.1 E.2.1 dX11_after_138 rfl ?_
        refine lv_icmp_ne (tgt := 161) E.1 E.2.1 dX11_after_139 (by decide) (fun c20 => ?_) (fun c20 => ?_)
        · have hf := q_neg c20 hf
          refine lv_iload_n E.1 E.2.1 dX11_after_161 rfl (lv_at hl 1 rfl) ?_
          refine lv_iconst (v := 2) E.1 E.2.1 dX11_after_162 rfl ?_
          refine lv_icmp_ne (tgt := 173) E.1 E.2.1 dX11_after_163 (by decide) (fun c21 => ?_) (fun c21 => ?_)
          · have hf := q_neg c21 hf
            refine lv_aload_n E.1 E.2.1 dX11_after_173 rfl (lv_at hl 0 rfl) ?_
            refine q_gi E w t_v0 fl_RX11_420 dX11_after_174 ?_
            have hf := Option.some.inj hf
            subst hf
            exact q_iret E w hr hlk dX11_after_177
          · have hf := q_pos c21 hf
            refine lv_aload_n E.1 E.2.1 dX11_after_166 rfl (lv_at hl 0 rfl) ?_
            refine q_gi E w t_v0 fl_RX11_414 dX11_after_167 ?_
            refine lv_goto (tgt := 177) E.1 E.2.1 dX11_after_170 (by decide) ?_
            have hf := Option.some.inj hf
            subst hf
            exact q_iret E w hr hlk dX11_after_177
        · have hf := q_pos c20 hf
          refine lv_aload_n E.1 E.2.1 dX11_after_142 rfl (lv_at hl 0 rfl) ?_
          refine q_gs E w 17 t_v0 fl_RX11_59 dX11_after_143 ?_
          refine lv_iload E.1 E.2.1 dX11_after_146 (lv_at hl 3 rfl) ?_
          obtain ⟨b22, hf⟩ := q_if hf
          refine q_iald E w ((lay_11_46 t_v0).1) ((lay_11_46 t_v0).2) b22 dX11_after_148 ?_
          refine lv_if_ne (tgt := 156) E.1 E.2.1 dX11_after_149 (by decide) (fun c23 => ?_) (fun c23 => ?_)
          · have hf := q_neg c23 hf
            refine lv_iload E.1 E.2.1 dX11_after_156 (lv_at hl 3 rfl) ?_
            refine lv_goto (tgt := 177) E.1 E.2.1 dX11_after_158 (by decide) ?_
            have hf := Option.some.inj hf
            subst hf
            exact q_iret E w hr hlk dX11_after_177
          · have hf := q_pos c23 hf
            refine lv_iconst (v := (-1)) E.1 E.2.1 dX11_after_152 rfl ?_
            refine lv_goto (tgt := 177) E.1 E.2.1 dX11_after_153 (by decide) ?_
            have hf := Option.some.inj hf
            subst hf
            exact q_iret E w hr hlk dX11_after_177
      · have hf := q_pos c19 hf
        refine lv_iload E.1 E.2.1 dX11_after_132 (lv_at hl 2 rfl) ?_
        refine lv_goto (tgt := 177) E.1 E.2.1 dX11_after_134 (by decide) ?_
        have hf := Option.some.inj hf
        subst hf
        exact q_iret E w hr hlk dX11_after_177
    · have hf := q_neg c18 hf
      refine lv_aload_n E.1 E.2.1 dX11_after_96 rfl (lv_at hl 0 rfl) ?_
      refine q_gs E w 17 t_v0 fl_RX11_59 dX11_after_97 ?_
      refine lv_iload E.1 E.2.1 dX11_after_100 (lv_at hl 4 rfl) ?_
      obtain ⟨b24, hf⟩ := q_if hf
      refine q_iald E w ((lay_11_46 t_v0).1) ((lay_11_46 t_v0).2) b24 dX11_after_102 ?_
      refine lv_aload_n E.1 E.2.1 dX11_after_103 rfl (lv_at hl 0 rfl) ?_
      refine q_gs E w 17 t_v0 fl_RX11_59 dX11_after_104 ?_
      refine lv_iload E.1 E.2.1 dX11_after_107 (lv_at hl 3 rfl) ?_
      obtain ⟨b25, hf⟩ := q_if hf
      refine q_iald E w ((lay_11_46 t_v0).1) ((lay_11_46 t_v0).2) b25 dX11_after_109 ?_
      refine lv_icmp_le (tgt := 118) E.1 E.2.1 dX11_after_110 (by decide) (fun c26 => ?_) (fun c26 => ?_)
      · have hf := q_pos c26 hf
        refine lv_iload E.1 E.2.1 dX11_after_118 (lv_at hl 3 rfl) ?_
        refine lv_istore (lv' := [(5, .int v5), (0, .ref (ad G v0)), (3, .int v3), (4, .int v4), (6, .int v6)]) E.1 E.2.1 dX11_after_120 hl (by decide) rfl (fun ls hl => ?_)
        refine lv_iinc (v := v6 + 1) (lv' := [(6, .int (v6 + 1)), (5, .int v5), (0, .ref (ad G v0)), (3, .int v3), (4, .int v4)]) E.1 E.2.1 dX11_after_122 hl (k := 4) rfl rfl (by decide) rfl (fun ls hl => ?_)
        refine lv_goto (tgt := 90) E.1 E.2.1 dX11_after_125 (by decide) ?_
        exact ih _ _ _ _ _ _ _ _ _ hf w t_v0 (lv_sub hl [2, 3, 4, 1, 0] rfl)
      · have hf := q_neg c26 hf
        refine lv_iload E.1 E.2.1 dX11_after_113 (lv_at hl 4 rfl) ?_
        refine lv_goto (tgt := 120) E.1 E.2.1 dX11_after_115 (by decide) ?_
        refine lv_istore (lv' := [(5, .int v6), (0, .ref (ad G v0)), (3, .int v3), (4, .int v4), (6, .int v6)]) E.1 E.2.1 dX11_after_120 hl (by decide) rfl (fun ls hl => ?_)
        refine lv_iinc (v := v6 + 1) (lv' := [(6, .int (v6 + 1)), (5, .int v6), (0, .ref (ad G v0)), (3, .int v3), (4, .int v4)]) E.1 E.2.1 dX11_after_122 hl (k := 4) rfl rfl (by decide) rfl (fun ls hl => ?_)
        refine lv_goto (tgt := 90) E.1 E.2.1 dX11_after_125 (by decide) ?_
        exact ih _ _ _ _ _ _ _ _ _ hf w t_v0 (lv_sub hl [2, 3, 4, 1, 0] rfl)

def X11_after_l38 (N : Nat) : Nat → HS → Nat → Int32 → Int32 → Int32 → Option (Int32 × HS)
  | 0, _, _, _, _, _ => none
  | n + 1, h, v0, v3, v4, v5 => (if (h.1 v0 32) < 0 ∨ 3736 ≤ (h.1 v0 32).toNatClampNeg then none else (if (h.1 (v0 + 1) (h.1 v0 32).toNatClampNeg) ≤ v5 then X11_after_l90 N N h v0 v3 v4 0 1 else bd2 (X11_doesTold N h v0 v5) fun r28 h29 => (if r28 = 0 then X11_after_l90 N N h29 v0 v3 v4 0 1 else (if v4 = ((-1) : Int32) then (if (h29.1 v0 38) ≤ 0 then X11_after_l38 N n h29 v0 v3 v4 (v5 + 1) else X11_after_l38 N n h29 v0 v3 v5 (v5 + 1)) else X11_after_l38 N n h29 v0 v3 v4 (v5 + 1)))))
set_option maxRecDepth 4000 in
set_option maxHeartbeats 2000000 in
theorem X11_after_l38_w {p : Program} {l : Launch} {e : Env} {s : State} {m : MethodId} {args : Array Value} {below : List Frame} {meth : Method} {c : Code} {G : GT} {N : Nat} {z : (Int32 × HS)} (E : CallFix p m c cX11_after 7 s args UW RX11) (hr : meth.sig.returnType = (some .int)) (hlk : meth.locks = false) : ∀ (n : Nat) (h : HS) (H : Heap) (locs : List Loc) (ls : Array Slot) (v0 : Nat) (v3 : Int32) (v4 : Int32) (v5 : Int32), X11_after_l38 N n h v0 v3 v4 v5 = some z → WD G s h H locs → sh v0 = 11 → lv_has ls 7 [(0, .ref (ad G v0)), (3, .int v3), (4, .int v4), (5, .int v5)] → W p l e ({ frames := 6, cells := 0, slots := 0, locals := 128 } : Room) s m args below meth c H locs 0 0 (MQ below (QC G (some (.int z.1)) z.2) args s 0 0 (AD G)) (F0 m 38 ls []) := by
  intro n
  induction n with
  | zero =>
    intro h H locs ls v0 v3 v4 v5 hf
    cases hf
  | succ n ih =>
    intro h H locs ls v0 v3 v4 v5 hf w t_v0 hl
    unfold X11_after_l38 at hf
    refine lv_iload E.1 E.2.1 dX11_after_38 (lv_at hl 3 rfl) ?_
    refine lv_aload_n E.1 E.2.1 dX11_after_40 rfl (lv_at hl 0 rfl) ?_
    refine q_gs E w 1 t_v0 fl_RX11_7 dX11_after_41 ?_
    refine lv_aload_n E.1 E.2.1 dX11_after_44 rfl (lv_at hl 0 rfl) ?_
    refine q_gi E w t_v0 fl_RX11_381 dX11_after_45 ?_
    obtain ⟨b16, hf⟩ := q_if hf
    refine q_iald E w ((lay_11_0 t_v0).1) ((lay_11_0 t_v0).2) b16 dX11_after_48 ?_
    refine lv_icmp_ge (tgt := 84) E.1 E.2.1 dX11_after_49 (by decide) (fun c17 => ?_) (fun c17 => ?_)
    · have hf := q_pos c17 hf
      refine lv_iconst (v := 0) E.1 E.2.1 dX11_after_84 rfl ?_
      refine lv_istore (lv' := [(5, .int 0), (0, .ref (ad G v0)), (3, .int v3), (4, .int v4)]) E.1 E.2.1 dX11_after_85 hl (by decide) rfl (fun ls hl => ?_)
      refine lv_iconst (v := 1) E.1 E.2.1 dX11_after_87 rfl ?_
      refine lv_istore (lv' := [(6, .int 1), (5, .int 0), (0, .ref (ad G v0)), (3, .int v3), (4, .int v4)]) E.1 E.2.1 dX11_after_88 hl (by decide) rfl (fun ls hl => ?_)
      exact X11_after_l90_w E hr hlk N _ _ _ _ _ _ _ _ _ hf w t_v0 (lv_sub hl [2, 3, 4, 1, 0] rfl)
    · have hf := q_neg c17 hf
      refine lv_aload_n E.1 E.2.1 dX11_after_52 rfl (lv_at hl 0 rfl) ?_
      refine lv_iload E.1 E.2.1 dX11_after_53 (lv_at hl 3 rfl) ?_
      obtain ⟨r28, h29, hc27, hf⟩ := bd2_e hf
      refine k_Vi (As := [.int v5]) (rest := []) E w t_v0 ⟨by decide, rfl⟩ (X11_doesTold_c t_v0 hc27) mv_RX11_450 rfl rfl hl.1 ⟨Nat.le_of_ble_eq_true rfl, Nat.le_of_ble_eq_true rfl⟩ (Nat.le_of_ble_eq_true rfl) ⟨Nat.le_refl _, Nat.le_refl _⟩ dX11_after_55 (fun H locs w => ?_)
      refine lv_if_eq (tgt := 84) E.1 E.2.1 dX11_after_58 (by decide) (fun c30 => ?_) (fun c30 => ?_)
      · have hf := q_pos c30 hf
        refine lv_iconst (v := 0) E.1 E.2.1 dX11_after_84 rfl ?_
        refine lv_istore (lv' := [(5, .int 0), (0, .ref (ad G v0)), (3, .int v3), (4, .int v4)]) E.1 E.2.1 dX11_after_85 hl (by decide) rfl (fun ls hl => ?_)
        refine lv_iconst (v := 1) E.1 E.2.1 dX11_after_87 rfl ?_
        refine lv_istore (lv' := [(6, .int 1), (5, .int 0), (0, .ref (ad G v0)), (3, .int v3), (4, .int v4)]) E.1 E.2.1 dX11_after_88 hl (by decide) rfl (fun ls hl => ?_)
        exact X11_after_l90_w E hr hlk N _ _ _ _ _ _ _ _ _ hf w t_v0 (lv_sub hl [2, 3, 4, 1, 0] rfl)
      · have hf := q_neg c30 hf
        refine lv_iload E.1 E.2.1 dX11_after_61 (lv_at hl 2 rfl) ?_
        refine lv_iconst (v := (-1)) E.1 E.2.1 dX11_after_63 rfl ?_
        refine lv_icmp_ne (tgt := 78) E.1 E.2.1 dX11_after_64 (by decide) (fun c31 => ?_) (fun c31 => ?_)
        · have hf := q_neg c31 hf
          refine lv_iinc (v := v5 + 1) (lv' := [(5, .int (v5 + 1)), (0, .ref (ad G v0)), (3, .int v3), (4, .int v4)]) E.1 E.2.1 dX11_after_78 hl (k := 3) rfl rfl (by decide) rfl (fun ls hl => ?_)
          refine lv_goto (tgt := 38) E.1 E.2.1 dX11_after_81 (by decide) ?_
          exact ih _ _ _ _ _ _ _ _ hf w t_v0 (lv_sub hl [1, 2, 3, 0] rfl)
        · have hf := q_pos c31 hf
          refine lv_aload_n E.1 E.2.1 dX11_after_67 rfl (lv_at hl 0 rfl) ?_
          refine q_gi E w t_v0 fl_RX11_405 dX11_after_68 ?_
          refine lv_if_le (tgt := 78) E.1 E.2.1 dX11_after_71 (by decide) (fun c32 => ?_) (fun c32 => ?_)
          · have hf := q_pos c32 hf
            refine lv_iinc (v := v5 + 1) (lv' := [(5, .int (v5 + 1)), (0, .ref (ad G v0)), (3, .int v3), (4, .int v4)]) E.1 E.2.1 dX11_after_78 hl (k := 3) rfl rfl (by decide) rfl (fun ls hl => ?_)
            refine lv_goto (tgt := 38) E.1 E.2.1 dX11_after_81 (by decide) ?_
            exact ih _ _ _ _ _ _ _ _ hf w t_v0 (lv_sub hl [1, 2, 3, 0] rfl)
          · have hf := q_neg c32 hf
            refine lv_iload E.1 E.2.1 dX11_after_74 (lv_at hl 3 rfl) ?_
            refine lv_istore (lv' := [(4, .int v5), (0, .ref (ad G v0)), (3, .int v3), (5, .int v5)]) E.1 E.2.1 dX11_after_76 hl (by decide) rfl (fun ls hl => ?_)
            refine lv_iinc (v := v5 + 1) (lv' := [(5, .int (v5 + 1)), (4, .int v5), (0, .ref (ad G v0)), (3, .int v3)]) E.1 E.2.1 dX11_after_78 hl (k := 3) rfl rfl (by decide) rfl (fun ls hl => ?_)
            refine lv_goto (tgt := 38) E.1 E.2.1 dX11_after_81 (by decide) ?_
            exact ih _ _ _ _ _ _ _ _ hf w t_v0 (lv_sub hl [2, 3, 1, 0] rfl)

def X11_after (N : Nat) (h : HS) (v0 : Nat) (v1 : Int32) (v2 : Int32) (v3 : Int32) : Option (Int32 × HS) := bd2 (X11_isHouse N h v0 v1) fun r2 h3 => (if r2 = 0 then some ((-2), h3) else bd2 (X11_areNights N h3 v0 v2) fun r6 h7 => (if r6 = 0 then some ((-2), h7) else bd1 (X11_isIn N h7 v3 0 3) fun r10 => (if r10 = 0 then some ((-2), h7) else bd1 (X11_begins N h7 v0) fun h15 => X11_after_l38 N N h15 v0 v3 (-1) 0)))
set_option maxRecDepth 4000 in
set_option maxHeartbeats 2000000 in
theorem X11_after_c {l : Launch} {G : GT} {N : Nat} {h : HS} {v0 : Nat} {v1 : Int32} {v2 : Int32} {v3 : Int32} {z : (Int32 × HS)} (t_v0 : sh v0 = 11) (hf : X11_after N h v0 v1 v2 v3 = some z) : CT l G yX11_after cX11_after 7 (some .int) 6 128 [.ref (ad G v0), .int v1, .int v2, .int v3] h (some (.int z.1)) z.2 := by
  unfold X11_after at hf
  refine CT.of (by decide) (Nat.le_of_ble_eq_true rfl) ?_
  intro p e s m below meth c ls E hr hlk w hl
  have hl : lv_has ls 7 [(0, .ref (ad G v0)), (1, .int v1), (2, .int v2), (3, .int v3)] := hl
  refine lv_aload_n E.1 E.2.1 dX11_after_0 rfl (lv_at hl 0 rfl) ?_
  refine lv_iload_n E.1 E.2.1 dX11_after_1 rfl (lv_at hl 1 rfl) ?_
  obtain ⟨r2, h3, hc1, hf⟩ := bd2_e hf
  refine k_Vi (As := [.int v1]) (rest := []) E w t_v0 ⟨by decide, rfl⟩ (X11_isHouse_c t_v0 hc1) mv_RX11_197 rfl rfl hl.1 ⟨Nat.le_of_ble_eq_true rfl, Nat.le_of_ble_eq_true rfl⟩ (Nat.le_of_ble_eq_true rfl) ⟨Nat.le_refl _, Nat.le_refl _⟩ dX11_after_2 (fun H locs w => ?_)
  refine lv_if_eq (tgt := 25) E.1 E.2.1 dX11_after_5 (by decide) (fun c4 => ?_) (fun c4 => ?_)
  · have hf := q_pos c4 hf
    refine lv_bipush (v := (-2)) E.1 E.2.1 dX11_after_25 rfl ?_
    have hf := Option.some.inj hf
    subst hf
    exact q_iret E w hr hlk dX11_after_27
  · have hf := q_neg c4 hf
    refine lv_aload_n E.1 E.2.1 dX11_after_8 rfl (lv_at hl 0 rfl) ?_
    refine lv_iload_n E.1 E.2.1 dX11_after_9 rfl (lv_at hl 2 rfl) ?_
    obtain ⟨r6, h7, hc5, hf⟩ := bd2_e hf
    refine k_Vi (As := [.int v2]) (rest := []) E w t_v0 ⟨by decide, rfl⟩ (X11_areNights_c t_v0 hc5) mv_RX11_384 rfl rfl hl.1 ⟨Nat.le_of_ble_eq_true rfl, Nat.le_of_ble_eq_true rfl⟩ (Nat.le_of_ble_eq_true rfl) ⟨Nat.le_refl _, Nat.le_refl _⟩ dX11_after_10 (fun H locs w => ?_)
    refine lv_if_eq (tgt := 25) E.1 E.2.1 dX11_after_13 (by decide) (fun c8 => ?_) (fun c8 => ?_)
    · have hf := q_pos c8 hf
      refine lv_bipush (v := (-2)) E.1 E.2.1 dX11_after_25 rfl ?_
      have hf := Option.some.inj hf
      subst hf
      exact q_iret E w hr hlk dX11_after_27
    · have hf := q_neg c8 hf
      refine lv_iload_n E.1 E.2.1 dX11_after_16 rfl (lv_at hl 3 rfl) ?_
      refine lv_iconst (v := 0) E.1 E.2.1 dX11_after_17 rfl ?_
      refine lv_iconst (v := 3) E.1 E.2.1 dX11_after_18 rfl ?_
      obtain ⟨r10, hc9, hf⟩ := bd1_e hf
      refine k_Si (As := [.int v3, .int 0, .int 3]) (rest := []) E w (X11_isIn_c  hc9) ms_RX11_123 rfl rfl hl.1 ⟨Nat.le_of_ble_eq_true rfl, Nat.le_of_ble_eq_true rfl⟩ (Nat.le_of_ble_eq_true rfl) ⟨Nat.le_refl _, Nat.le_refl _⟩ dX11_after_19 (fun H locs w => ?_)
      refine lv_if_ne (tgt := 28) E.1 E.2.1 dX11_after_22 (by decide) (fun c12 => ?_) (fun c12 => ?_)
      · have hf := q_neg c12 hf
        refine lv_aload_n E.1 E.2.1 dX11_after_28 rfl (lv_at hl 0 rfl) ?_
        obtain ⟨h15, hc13, hf⟩ := bd1_e hf
        refine k_Vv (As := []) (rest := []) E w t_v0 ⟨by decide, rfl⟩ (X11_begins_c t_v0 hc13) mv_RX11_447 rfl rfl hl.1 ⟨Nat.le_of_ble_eq_true rfl, Nat.le_of_ble_eq_true rfl⟩ (Nat.le_of_ble_eq_true rfl) ⟨Nat.le_refl _, Nat.le_refl _⟩ dX11_after_29 (fun H locs w => ?_)
        refine lv_iconst (v := (-1)) E.1 E.2.1 dX11_after_32 rfl ?_
        refine lv_istore (lv' := [(4, .int (-1)), (0, .ref (ad G v0)), (1, .int v1), (2, .int v2), (3, .int v3)]) E.1 E.2.1 dX11_after_33 hl (by decide) rfl (fun ls hl => ?_)
        refine lv_iconst (v := 0) E.1 E.2.1 dX11_after_35 rfl ?_
        refine lv_istore (lv' := [(5, .int 0), (4, .int (-1)), (0, .ref (ad G v0)), (1, .int v1), (2, .int v2), (3, .int v3)]) E.1 E.2.1 dX11_after_36 hl (by decide) rfl (fun ls hl => ?_)
        exact X11_after_l38_w E hr hlk N _ _ _ _ _ _ _ _ hf w t_v0 (lv_sub hl [2, 5, 1, 0] rfl)
      · have hf := q_pos c12 hf
        refine lv_bipush (v := (-2)) E.1 E.2.1 dX11_after_25 rfl ?_
        have hf := Option.some.inj hf
        subst hf
        exact q_iret E w hr hlk dX11_after_27

def X11_areMornings (N : Nat) (h : HS) (v0 : Nat) (v1 : Int32) : Option (Int32 × HS) := bd1 (X11_isOf N h v0 2 v1) fun r2 => (if r2 = 0 then some (nz 0, h) else bd1 (X11_placeOf N h 2 v1) fun r6 => sq (wi h v0 48 r6) fun h8 => some (nz 1, h8))
set_option maxRecDepth 4000 in
set_option maxHeartbeats 2000000 in
theorem X11_areMornings_c {l : Launch} {G : GT} {N : Nat} {h : HS} {v0 : Nat} {v1 : Int32} {z : (Int32 × HS)} (t_v0 : sh v0 = 11) (hf : X11_areMornings N h v0 v1 = some z) : CT l G yX11_areMornings cX11_areMornings 2 (some .boolean) 2 44 [.ref (ad G v0), .int v1] h (some (.int z.1)) z.2 := by
  unfold X11_areMornings at hf
  refine CT.of (by decide) (Nat.le_of_ble_eq_true rfl) ?_
  intro p e s m below meth c ls E hr hlk w hl
  have hl : lv_has ls 2 [(0, .ref (ad G v0)), (1, .int v1)] := hl
  refine lv_aload_n E.1 E.2.1 dX11_areMornings_0 rfl (lv_at hl 0 rfl) ?_
  refine lv_iconst (v := 2) E.1 E.2.1 dX11_areMornings_1 rfl ?_
  refine lv_iload_n E.1 E.2.1 dX11_areMornings_2 rfl (lv_at hl 1 rfl) ?_
  obtain ⟨r2, hc1, hf⟩ := bd1_e hf
  refine k_Vi (As := [.int 2, .int v1]) (rest := []) E w t_v0 ⟨by decide, rfl⟩ (X11_isOf_c t_v0 hc1) mv_RX11_163 rfl rfl hl.1 ⟨Nat.le_of_ble_eq_true rfl, Nat.le_of_ble_eq_true rfl⟩ (Nat.le_of_ble_eq_true rfl) ⟨Nat.le_refl _, Nat.le_refl _⟩ dX11_areMornings_3 (fun H locs w => ?_)
  refine lv_if_ne (tgt := 11) E.1 E.2.1 dX11_areMornings_6 (by decide) (fun c4 => ?_) (fun c4 => ?_)
  · have hf := q_neg c4 hf
    refine lv_aload_n E.1 E.2.1 dX11_areMornings_11 rfl (lv_at hl 0 rfl) ?_
    refine lv_iconst (v := 2) E.1 E.2.1 dX11_areMornings_12 rfl ?_
    refine lv_iload_n E.1 E.2.1 dX11_areMornings_13 rfl (lv_at hl 1 rfl) ?_
    obtain ⟨r6, hc5, hf⟩ := bd1_e hf
    refine k_Si (As := [.int 2, .int v1]) (rest := [.ref (ad G v0)]) E w (X11_placeOf_c  hc5) ms_RX11_179 rfl rfl hl.1 ⟨Nat.le_of_ble_eq_true rfl, Nat.le_of_ble_eq_true rfl⟩ (Nat.le_of_ble_eq_true rfl) ⟨Nat.le_refl _, Nat.le_refl _⟩ dX11_areMornings_14 (fun H locs w => ?_)
    refine p_pi E w t_v0 fl_RX11_459 (fp_11_48 _) dX11_areMornings_17 (fun h8 H locs eh w => ?_)
    have hf := sq_e eh hf
    clear eh
    refine lv_iconst (v := 1) E.1 E.2.1 dX11_areMornings_20 rfl ?_
    have hf := Option.some.inj hf
    subst hf
    exact q_zret E w hr hlk dX11_areMornings_21
  · have hf := q_pos c4 hf
    refine lv_iconst (v := 0) E.1 E.2.1 dX11_areMornings_9 rfl ?_
    have hf := Option.some.inj hf
    subst hf
    exact q_zret E w hr hlk dX11_areMornings_10

def X11_fact (N : Nat) (h : HS) (v0 : Nat) (v1 : Int32) (v2 : Int32) (v3 : Int32) : Option (Int32 × HS) := bd2 (X11_areMornings N h v0 v1) fun r2 h3 => (if r2 = 0 then some ((-2), h3) else (if v2 = ((-1) : Int32) then (if v3 = 0 then (if (h3.1 v0 48) < 0 ∨ 3736 ≤ (h3.1 v0 48).toNatClampNeg then none else some (h3.1 (v0 + 1) (h3.1 v0 48).toNatClampNeg, h3)) else some ((-2), h3)) else (if (h3.1 v0 48) < 0 ∨ 3736 ≤ (h3.1 v0 48).toNatClampNeg then none else bd1 (X11_isIn N h3 v2 0 ((h3.1 (v0 + 1) (h3.1 v0 48).toNatClampNeg) - 1)) fun r8 => (if r8 = 0 then some ((-2), h3) else bd1 (X11_isIn N h3 v3 0 1) fun r12 => (if r12 = 0 then some ((-2), h3) else (if ((((h3.1 v0 48) + 1) + (2 * v2)) + v3) < 0 ∨ 3736 ≤ ((((h3.1 v0 48) + 1) + (2 * v2)) + v3).toNatClampNeg then none else some (h3.1 (v0 + 1) ((((h3.1 v0 48) + 1) + (2 * v2)) + v3).toNatClampNeg, h3)))))))
set_option maxRecDepth 4000 in
set_option maxHeartbeats 2000000 in
theorem X11_fact_c {l : Launch} {G : GT} {N : Nat} {h : HS} {v0 : Nat} {v1 : Int32} {v2 : Int32} {v3 : Int32} {z : (Int32 × HS)} (t_v0 : sh v0 = 11) (hf : X11_fact N h v0 v1 v2 v3 = some z) : CT l G yX11_fact cX11_fact 4 (some .int) 3 65 [.ref (ad G v0), .int v1, .int v2, .int v3] h (some (.int z.1)) z.2 := by
  unfold X11_fact at hf
  refine CT.of (by decide) (Nat.le_of_ble_eq_true rfl) ?_
  intro p e s m below meth c ls E hr hlk w hl
  have hl : lv_has ls 4 [(0, .ref (ad G v0)), (1, .int v1), (2, .int v2), (3, .int v3)] := hl
  refine lv_aload_n E.1 E.2.1 dX11_fact_0 rfl (lv_at hl 0 rfl) ?_
  refine lv_iload_n E.1 E.2.1 dX11_fact_1 rfl (lv_at hl 1 rfl) ?_
  obtain ⟨r2, h3, hc1, hf⟩ := bd2_e hf
  refine k_Vi (As := [.int v1]) (rest := []) E w t_v0 ⟨by decide, rfl⟩ (X11_areMornings_c t_v0 hc1) mv_RX11_462 rfl rfl hl.1 ⟨Nat.le_of_ble_eq_true rfl, Nat.le_of_ble_eq_true rfl⟩ (Nat.le_of_ble_eq_true rfl) ⟨Nat.le_refl _, Nat.le_refl _⟩ dX11_fact_2 (fun H locs w => ?_)
  refine lv_if_ne (tgt := 11) E.1 E.2.1 dX11_fact_5 (by decide) (fun c4 => ?_) (fun c4 => ?_)
  · have hf := q_neg c4 hf
    refine lv_iload_n E.1 E.2.1 dX11_fact_11 rfl (lv_at hl 2 rfl) ?_
    refine lv_iconst (v := (-1)) E.1 E.2.1 dX11_fact_12 rfl ?_
    refine lv_icmp_ne (tgt := 35) E.1 E.2.1 dX11_fact_13 (by decide) (fun c5 => ?_) (fun c5 => ?_)
    · have hf := q_neg c5 hf
      refine lv_iload_n E.1 E.2.1 dX11_fact_35 rfl (lv_at hl 2 rfl) ?_
      refine lv_iconst (v := 0) E.1 E.2.1 dX11_fact_36 rfl ?_
      refine lv_aload_n E.1 E.2.1 dX11_fact_37 rfl (lv_at hl 0 rfl) ?_
      refine q_gs E w 1 t_v0 fl_RX11_7 dX11_fact_38 ?_
      refine lv_aload_n E.1 E.2.1 dX11_fact_41 rfl (lv_at hl 0 rfl) ?_
      refine q_gi E w t_v0 fl_RX11_459 dX11_fact_42 ?_
      obtain ⟨b6, hf⟩ := q_if hf
      refine q_iald E w ((lay_11_0 t_v0).1) ((lay_11_0 t_v0).2) b6 dX11_fact_45 ?_
      refine lv_iconst (v := 1) E.1 E.2.1 dX11_fact_46 rfl ?_
      refine lv_isub E.1 E.2.1 dX11_fact_47 ?_
      obtain ⟨r8, hc7, hf⟩ := bd1_e hf
      refine k_Si (As := [.int v2, .int 0, .int ((h3.1 (v0 + 1) (h3.1 v0 48).toNatClampNeg) - 1)]) (rest := []) E w (X11_isIn_c  hc7) ms_RX11_123 rfl rfl hl.1 ⟨Nat.le_of_ble_eq_true rfl, Nat.le_of_ble_eq_true rfl⟩ (Nat.le_of_ble_eq_true rfl) ⟨Nat.le_refl _, Nat.le_refl _⟩ dX11_fact_48 (fun H locs w => ?_)
      refine lv_if_eq (tgt := 83) E.1 E.2.1 dX11_fact_51 (by decide) (fun c10 => ?_) (fun c10 => ?_)
      · have hf := q_pos c10 hf
        refine lv_bipush (v := (-2)) E.1 E.2.1 dX11_fact_83 rfl ?_
        have hf := Option.some.inj hf
        subst hf
        exact q_iret E w hr hlk dX11_fact_85
      · have hf := q_neg c10 hf
        refine lv_iload_n E.1 E.2.1 dX11_fact_54 rfl (lv_at hl 3 rfl) ?_
        refine lv_iconst (v := 0) E.1 E.2.1 dX11_fact_55 rfl ?_
        refine lv_iconst (v := 1) E.1 E.2.1 dX11_fact_56 rfl ?_
        obtain ⟨r12, hc11, hf⟩ := bd1_e hf
        refine k_Si (As := [.int v3, .int 0, .int 1]) (rest := []) E w (X11_isIn_c  hc11) ms_RX11_123 rfl rfl hl.1 ⟨Nat.le_of_ble_eq_true rfl, Nat.le_of_ble_eq_true rfl⟩ (Nat.le_of_ble_eq_true rfl) ⟨Nat.le_refl _, Nat.le_refl _⟩ dX11_fact_57 (fun H locs w => ?_)
        refine lv_if_eq (tgt := 83) E.1 E.2.1 dX11_fact_60 (by decide) (fun c14 => ?_) (fun c14 => ?_)
        · have hf := q_pos c14 hf
          refine lv_bipush (v := (-2)) E.1 E.2.1 dX11_fact_83 rfl ?_
          have hf := Option.some.inj hf
          subst hf
          exact q_iret E w hr hlk dX11_fact_85
        · have hf := q_neg c14 hf
          refine lv_aload_n E.1 E.2.1 dX11_fact_63 rfl (lv_at hl 0 rfl) ?_
          refine q_gs E w 1 t_v0 fl_RX11_7 dX11_fact_64 ?_
          refine lv_aload_n E.1 E.2.1 dX11_fact_67 rfl (lv_at hl 0 rfl) ?_
          refine q_gi E w t_v0 fl_RX11_459 dX11_fact_68 ?_
          refine lv_iconst (v := 1) E.1 E.2.1 dX11_fact_71 rfl ?_
          refine lv_iadd E.1 E.2.1 dX11_fact_72 ?_
          refine lv_iconst (v := 2) E.1 E.2.1 dX11_fact_73 rfl ?_
          refine lv_iload_n E.1 E.2.1 dX11_fact_74 rfl (lv_at hl 2 rfl) ?_
          refine lv_imul E.1 E.2.1 dX11_fact_75 ?_
          refine lv_iadd E.1 E.2.1 dX11_fact_76 ?_
          refine lv_iload_n E.1 E.2.1 dX11_fact_77 rfl (lv_at hl 3 rfl) ?_
          refine lv_iadd E.1 E.2.1 dX11_fact_78 ?_
          obtain ⟨b15, hf⟩ := q_if hf
          refine q_iald E w ((lay_11_0 t_v0).1) ((lay_11_0 t_v0).2) b15 dX11_fact_79 ?_
          refine lv_goto (tgt := 85) E.1 E.2.1 dX11_fact_80 (by decide) ?_
          have hf := Option.some.inj hf
          subst hf
          exact q_iret E w hr hlk dX11_fact_85
    · have hf := q_pos c5 hf
      refine lv_iload_n E.1 E.2.1 dX11_fact_16 rfl (lv_at hl 3 rfl) ?_
      refine lv_if_ne (tgt := 32) E.1 E.2.1 dX11_fact_17 (by decide) (fun c16 => ?_) (fun c16 => ?_)
      · have hf := q_neg c16 hf
        refine lv_bipush (v := (-2)) E.1 E.2.1 dX11_fact_32 rfl ?_
        have hf := Option.some.inj hf
        subst hf
        exact q_iret E w hr hlk dX11_fact_34
      · have hf := q_pos c16 hf
        refine lv_aload_n E.1 E.2.1 dX11_fact_20 rfl (lv_at hl 0 rfl) ?_
        refine q_gs E w 1 t_v0 fl_RX11_7 dX11_fact_21 ?_
        refine lv_aload_n E.1 E.2.1 dX11_fact_24 rfl (lv_at hl 0 rfl) ?_
        refine q_gi E w t_v0 fl_RX11_459 dX11_fact_25 ?_
        obtain ⟨b17, hf⟩ := q_if hf
        refine q_iald E w ((lay_11_0 t_v0).1) ((lay_11_0 t_v0).2) b17 dX11_fact_28 ?_
        refine lv_goto (tgt := 34) E.1 E.2.1 dX11_fact_29 (by decide) ?_
        have hf := Option.some.inj hf
        subst hf
        exact q_iret E w hr hlk dX11_fact_34
  · have hf := q_pos c4 hf
    refine lv_bipush (v := (-2)) E.1 E.2.1 dX11_fact_8 rfl ?_
    have hf := Option.some.inj hf
    subst hf
    exact q_iret E w hr hlk dX11_fact_10

def X11_areDreams_l69 (N : Nat) : Nat → HS → Nat → Int32 → Int32 → Option (Int32 × HS)
  | 0, _, _, _, _ => none
  | n + 1, h, v0, v1, v2 => (if (6 : Int32) ≤ v2 then some (nz v1, h) else (if v1 = 0 then some (nz v1, h) else (if (h.1 v0 15) ≤ v2 then (if v2 < 0 ∨ 6 ≤ v2.toNatClampNeg then none else sq (wi h (v0 + 19) v2.toNatClampNeg 0) fun h13 => X11_areDreams_l69 N n h13 v0 v1 (v2 + 1)) else bd2 (X11_dreamsBy N h v0 v2) fun r15 h16 => (if v2 < 0 ∨ 6 ≤ v2.toNatClampNeg then none else sq (wi h16 (v0 + 19) v2.toNatClampNeg r15) fun h18 => X11_areDreams_l69 N n h18 v0 v1 (v2 + 1)))))
set_option maxRecDepth 4000 in
set_option maxHeartbeats 2000000 in
theorem X11_areDreams_l69_w {p : Program} {l : Launch} {e : Env} {s : State} {m : MethodId} {args : Array Value} {below : List Frame} {meth : Method} {c : Code} {G : GT} {N : Nat} {z : (Int32 × HS)} (E : CallFix p m c cX11_areDreams 3 s args UW RX11) (hr : meth.sig.returnType = (some .boolean)) (hlk : meth.locks = false) : ∀ (n : Nat) (h : HS) (H : Heap) (locs : List Loc) (ls : Array Slot) (v0 : Nat) (v1 : Int32) (v2 : Int32), X11_areDreams_l69 N n h v0 v1 v2 = some z → WD G s h H locs → sh v0 = 11 → lv_has ls 3 [(0, .ref (ad G v0)), (1, .int v1), (2, .int v2)] → W p l e ({ frames := 6, cells := 0, slots := 0, locals := 134 } : Room) s m args below meth c H locs 0 0 (MQ below (QC G (some (.int z.1)) z.2) args s 0 0 (AD G)) (F0 m 69 ls []) := by
  intro n
  induction n with
  | zero =>
    intro h H locs ls v0 v1 v2 hf
    cases hf
  | succ n ih =>
    intro h H locs ls v0 v1 v2 hf w t_v0 hl
    unfold X11_areDreams_l69 at hf
    refine lv_iload_n E.1 E.2.1 dX11_areDreams_69 rfl (lv_at hl 2 rfl) ?_
    refine lv_bipush (v := 6) E.1 E.2.1 dX11_areDreams_70 rfl ?_
    refine lv_icmp_ge (tgt := 108) E.1 E.2.1 dX11_areDreams_72 (by decide) (fun c9 => ?_) (fun c9 => ?_)
    · have hf := q_pos c9 hf
      refine lv_iload_n E.1 E.2.1 dX11_areDreams_108 rfl (lv_at hl 1 rfl) ?_
      have hf := Option.some.inj hf
      subst hf
      exact q_zret E w hr hlk dX11_areDreams_109
    · have hf := q_neg c9 hf
      refine lv_iload_n E.1 E.2.1 dX11_areDreams_75 rfl (lv_at hl 1 rfl) ?_
      refine lv_if_eq (tgt := 108) E.1 E.2.1 dX11_areDreams_76 (by decide) (fun c10 => ?_) (fun c10 => ?_)
      · have hf := q_pos c10 hf
        refine lv_iload_n E.1 E.2.1 dX11_areDreams_108 rfl (lv_at hl 1 rfl) ?_
        have hf := Option.some.inj hf
        subst hf
        exact q_zret E w hr hlk dX11_areDreams_109
      · have hf := q_neg c10 hf
        refine lv_aload_n E.1 E.2.1 dX11_areDreams_79 rfl (lv_at hl 0 rfl) ?_
        refine q_gs E w 19 t_v0 fl_RX11_65 dX11_areDreams_80 ?_
        refine lv_iload_n E.1 E.2.1 dX11_areDreams_83 rfl (lv_at hl 2 rfl) ?_
        refine lv_iload_n E.1 E.2.1 dX11_areDreams_84 rfl (lv_at hl 2 rfl) ?_
        refine lv_aload_n E.1 E.2.1 dX11_areDreams_85 rfl (lv_at hl 0 rfl) ?_
        refine q_gi E w t_v0 fl_RX11_191 dX11_areDreams_86 ?_
        refine lv_icmp_ge (tgt := 100) E.1 E.2.1 dX11_areDreams_89 (by decide) (fun c11 => ?_) (fun c11 => ?_)
        · have hf := q_pos c11 hf
          refine lv_iconst (v := 0) E.1 E.2.1 dX11_areDreams_100 rfl ?_
          obtain ⟨b12, hf⟩ := q_if hf
          refine p_iast E w ((lay_11_49 t_v0).1) ((lay_11_49 t_v0).2) b12 dX11_areDreams_101 (fun h13 H locs eh w => ?_)
          have hf := sq_e eh hf
          clear eh
          refine lv_iinc (v := v2 + 1) (lv' := [(2, .int (v2 + 1)), (0, .ref (ad G v0)), (1, .int v1)]) E.1 E.2.1 dX11_areDreams_102 hl (k := 2) rfl rfl (by decide) rfl (fun ls hl => ?_)
          refine lv_goto (tgt := 69) E.1 E.2.1 dX11_areDreams_105 (by decide) ?_
          exact ih _ _ _ _ _ _ _ hf w t_v0 (lv_sub hl [1, 2, 0] rfl)
        · have hf := q_neg c11 hf
          refine lv_aload_n E.1 E.2.1 dX11_areDreams_92 rfl (lv_at hl 0 rfl) ?_
          refine lv_iload_n E.1 E.2.1 dX11_areDreams_93 rfl (lv_at hl 2 rfl) ?_
          obtain ⟨r15, h16, hc14, hf⟩ := bd2_e hf
          refine k_Vi (As := [.int v2]) (rest := [.int v2, .ref (ad G (v0 + 19))]) E w t_v0 ⟨by decide, rfl⟩ (X11_dreamsBy_c t_v0 hc14) mv_RX11_268 rfl rfl hl.1 ⟨Nat.le_of_ble_eq_true rfl, Nat.le_of_ble_eq_true rfl⟩ (Nat.le_of_ble_eq_true rfl) ⟨Nat.le_refl _, Nat.le_refl _⟩ dX11_areDreams_94 (fun H locs w => ?_)
          refine lv_goto (tgt := 101) E.1 E.2.1 dX11_areDreams_97 (by decide) ?_
          obtain ⟨b17, hf⟩ := q_if hf
          refine p_iast E w ((lay_11_49 t_v0).1) ((lay_11_49 t_v0).2) b17 dX11_areDreams_101 (fun h18 H locs eh w => ?_)
          have hf := sq_e eh hf
          clear eh
          refine lv_iinc (v := v2 + 1) (lv' := [(2, .int (v2 + 1)), (0, .ref (ad G v0)), (1, .int v1)]) E.1 E.2.1 dX11_areDreams_102 hl (k := 2) rfl rfl (by decide) rfl (fun ls hl => ?_)
          refine lv_goto (tgt := 69) E.1 E.2.1 dX11_areDreams_105 (by decide) ?_
          exact ih _ _ _ _ _ _ _ hf w t_v0 (lv_sub hl [1, 2, 0] rfl)

def X11_areDreams_l16 (N : Nat) : Nat → HS → Nat → Int32 → Int32 → Option (Int32 × HS)
  | 0, _, _, _, _ => none
  | n + 1, h, v0, v1, v2 => (if (h.1 v0 48) < 0 ∨ 3736 ≤ (h.1 v0 48).toNatClampNeg then none else (if (h.1 (v0 + 1) (h.1 v0 48).toNatClampNeg) ≤ v2 then X11_areDreams_l69 N N h v0 v1 0 else (if v1 = 0 then X11_areDreams_l16 N n h v0 0 (v2 + 1) else (if (((h.1 v0 48) + 2) + (2 * v2)) < 0 ∨ 3736 ≤ (((h.1 v0 48) + 2) + (2 * v2)).toNatClampNeg then none else (if (h.1 v0 13) ≤ (h.1 (v0 + 1) (((h.1 v0 48) + 2) + (2 * v2)).toNatClampNeg) then X11_areDreams_l16 N n h v0 0 (v2 + 1) else X11_areDreams_l16 N n h v0 1 (v2 + 1))))))
set_option maxRecDepth 4000 in
set_option maxHeartbeats 2000000 in
theorem X11_areDreams_l16_w {p : Program} {l : Launch} {e : Env} {s : State} {m : MethodId} {args : Array Value} {below : List Frame} {meth : Method} {c : Code} {G : GT} {N : Nat} {z : (Int32 × HS)} (E : CallFix p m c cX11_areDreams 3 s args UW RX11) (hr : meth.sig.returnType = (some .boolean)) (hlk : meth.locks = false) : ∀ (n : Nat) (h : HS) (H : Heap) (locs : List Loc) (ls : Array Slot) (v0 : Nat) (v1 : Int32) (v2 : Int32), X11_areDreams_l16 N n h v0 v1 v2 = some z → WD G s h H locs → sh v0 = 11 → lv_has ls 3 [(0, .ref (ad G v0)), (1, .int v1), (2, .int v2)] → W p l e ({ frames := 6, cells := 0, slots := 0, locals := 134 } : Room) s m args below meth c H locs 0 0 (MQ below (QC G (some (.int z.1)) z.2) args s 0 0 (AD G)) (F0 m 16 ls []) := by
  intro n
  induction n with
  | zero =>
    intro h H locs ls v0 v1 v2 hf
    cases hf
  | succ n ih =>
    intro h H locs ls v0 v1 v2 hf w t_v0 hl
    unfold X11_areDreams_l16 at hf
    refine lv_iload_n E.1 E.2.1 dX11_areDreams_16 rfl (lv_at hl 2 rfl) ?_
    refine lv_aload_n E.1 E.2.1 dX11_areDreams_17 rfl (lv_at hl 0 rfl) ?_
    refine q_gs E w 1 t_v0 fl_RX11_7 dX11_areDreams_18 ?_
    refine lv_aload_n E.1 E.2.1 dX11_areDreams_21 rfl (lv_at hl 0 rfl) ?_
    refine q_gi E w t_v0 fl_RX11_459 dX11_areDreams_22 ?_
    obtain ⟨b7, hf⟩ := q_if hf
    refine q_iald E w ((lay_11_0 t_v0).1) ((lay_11_0 t_v0).2) b7 dX11_areDreams_25 ?_
    refine lv_icmp_ge (tgt := 67) E.1 E.2.1 dX11_areDreams_26 (by decide) (fun c8 => ?_) (fun c8 => ?_)
    · have hf := q_pos c8 hf
      refine lv_iconst (v := 0) E.1 E.2.1 dX11_areDreams_67 rfl ?_
      refine lv_istore_n (lv' := [(2, .int 0), (0, .ref (ad G v0)), (1, .int v1)]) E.1 E.2.1 dX11_areDreams_68 rfl hl (by decide) rfl (fun ls hl => ?_)
      exact X11_areDreams_l69_w E hr hlk N _ _ _ _ _ _ _ hf w t_v0 (lv_sub hl [1, 2, 0] rfl)
    · have hf := q_neg c8 hf
      refine lv_iload_n E.1 E.2.1 dX11_areDreams_29 rfl (lv_at hl 1 rfl) ?_
      refine lv_if_eq (tgt := 59) E.1 E.2.1 dX11_areDreams_30 (by decide) (fun c19 => ?_) (fun c19 => ?_)
      · have hf := q_pos c19 hf
        refine lv_iconst (v := 0) E.1 E.2.1 dX11_areDreams_59 rfl ?_
        refine lv_istore_n (lv' := [(1, .int 0), (0, .ref (ad G v0)), (2, .int v2)]) E.1 E.2.1 dX11_areDreams_60 rfl hl (by decide) rfl (fun ls hl => ?_)
        refine lv_iinc (v := v2 + 1) (lv' := [(2, .int (v2 + 1)), (1, .int 0), (0, .ref (ad G v0))]) E.1 E.2.1 dX11_areDreams_61 hl (k := 2) rfl rfl (by decide) rfl (fun ls hl => ?_)
        refine lv_goto (tgt := 16) E.1 E.2.1 dX11_areDreams_64 (by decide) ?_
        exact ih _ _ _ _ _ _ _ hf w t_v0 (lv_sub hl [2, 1, 0] rfl)
      · have hf := q_neg c19 hf
        refine lv_aload_n E.1 E.2.1 dX11_areDreams_33 rfl (lv_at hl 0 rfl) ?_
        refine q_gs E w 1 t_v0 fl_RX11_7 dX11_areDreams_34 ?_
        refine lv_aload_n E.1 E.2.1 dX11_areDreams_37 rfl (lv_at hl 0 rfl) ?_
        refine q_gi E w t_v0 fl_RX11_459 dX11_areDreams_38 ?_
        refine lv_iconst (v := 2) E.1 E.2.1 dX11_areDreams_41 rfl ?_
        refine lv_iadd E.1 E.2.1 dX11_areDreams_42 ?_
        refine lv_iconst (v := 2) E.1 E.2.1 dX11_areDreams_43 rfl ?_
        refine lv_iload_n E.1 E.2.1 dX11_areDreams_44 rfl (lv_at hl 2 rfl) ?_
        refine lv_imul E.1 E.2.1 dX11_areDreams_45 ?_
        refine lv_iadd E.1 E.2.1 dX11_areDreams_46 ?_
        obtain ⟨b20, hf⟩ := q_if hf
        refine q_iald E w ((lay_11_0 t_v0).1) ((lay_11_0 t_v0).2) b20 dX11_areDreams_47 ?_
        refine lv_aload_n E.1 E.2.1 dX11_areDreams_48 rfl (lv_at hl 0 rfl) ?_
        refine q_gi E w t_v0 fl_RX11_185 dX11_areDreams_49 ?_
        refine lv_icmp_ge (tgt := 59) E.1 E.2.1 dX11_areDreams_52 (by decide) (fun c21 => ?_) (fun c21 => ?_)
        · have hf := q_pos c21 hf
          refine lv_iconst (v := 0) E.1 E.2.1 dX11_areDreams_59 rfl ?_
          refine lv_istore_n (lv' := [(1, .int 0), (0, .ref (ad G v0)), (2, .int v2)]) E.1 E.2.1 dX11_areDreams_60 rfl hl (by decide) rfl (fun ls hl => ?_)
          refine lv_iinc (v := v2 + 1) (lv' := [(2, .int (v2 + 1)), (1, .int 0), (0, .ref (ad G v0))]) E.1 E.2.1 dX11_areDreams_61 hl (k := 2) rfl rfl (by decide) rfl (fun ls hl => ?_)
          refine lv_goto (tgt := 16) E.1 E.2.1 dX11_areDreams_64 (by decide) ?_
          exact ih _ _ _ _ _ _ _ hf w t_v0 (lv_sub hl [2, 1, 0] rfl)
        · have hf := q_neg c21 hf
          refine lv_iconst (v := 1) E.1 E.2.1 dX11_areDreams_55 rfl ?_
          refine lv_goto (tgt := 60) E.1 E.2.1 dX11_areDreams_56 (by decide) ?_
          refine lv_istore_n (lv' := [(1, .int 1), (0, .ref (ad G v0)), (2, .int v2)]) E.1 E.2.1 dX11_areDreams_60 rfl hl (by decide) rfl (fun ls hl => ?_)
          refine lv_iinc (v := v2 + 1) (lv' := [(2, .int (v2 + 1)), (1, .int 1), (0, .ref (ad G v0))]) E.1 E.2.1 dX11_areDreams_61 hl (k := 2) rfl rfl (by decide) rfl (fun ls hl => ?_)
          refine lv_goto (tgt := 16) E.1 E.2.1 dX11_areDreams_64 (by decide) ?_
          exact ih _ _ _ _ _ _ _ hf w t_v0 (lv_sub hl [2, 1, 0] rfl)

def X11_areDreams (N : Nat) (h : HS) (v0 : Nat) : Option (Int32 × HS) := bd1 (X11_everybody N h v0) fun r2 => bd2 (X11_isRota N h v0 (h.1 v0 14) r2 0) fun r5 h6 => X11_areDreams_l16 N N h6 v0 r5 0
set_option maxRecDepth 4000 in
set_option maxHeartbeats 2000000 in
theorem X11_areDreams_c {l : Launch} {G : GT} {N : Nat} {h : HS} {v0 : Nat} {z : (Int32 × HS)} (t_v0 : sh v0 = 11) (hf : X11_areDreams N h v0 = some z) : CT l G yX11_areDreams cX11_areDreams 3 (some .boolean) 6 134 [.ref (ad G v0)] h (some (.int z.1)) z.2 := by
  unfold X11_areDreams at hf
  refine CT.of (by decide) (Nat.le_of_ble_eq_true rfl) ?_
  intro p e s m below meth c ls E hr hlk w hl
  have hl : lv_has ls 3 [(0, .ref (ad G v0))] := hl
  refine lv_aload_n E.1 E.2.1 dX11_areDreams_0 rfl (lv_at hl 0 rfl) ?_
  refine lv_aload_n E.1 E.2.1 dX11_areDreams_1 rfl (lv_at hl 0 rfl) ?_
  refine q_gi E w t_v0 fl_RX11_188 dX11_areDreams_2 ?_
  refine lv_aload_n E.1 E.2.1 dX11_areDreams_5 rfl (lv_at hl 0 rfl) ?_
  obtain ⟨r2, hc1, hf⟩ := bd1_e hf
  refine k_Vi (As := []) (rest := [.int (h.1 v0 14), .ref (ad G v0)]) E w t_v0 ⟨by decide, rfl⟩ (X11_everybody_c t_v0 hc1) mv_RX11_245 rfl rfl hl.1 ⟨Nat.le_of_ble_eq_true rfl, Nat.le_of_ble_eq_true rfl⟩ (Nat.le_of_ble_eq_true rfl) ⟨Nat.le_refl _, Nat.le_refl _⟩ dX11_areDreams_6 (fun H locs w => ?_)
  refine lv_iconst (v := 0) E.1 E.2.1 dX11_areDreams_9 rfl ?_
  obtain ⟨r5, h6, hc4, hf⟩ := bd2_e hf
  refine k_Vi (As := [.int (h.1 v0 14), .int r2, .int 0]) (rest := []) E w t_v0 ⟨by decide, rfl⟩ (X11_isRota_c t_v0 hc4) mv_RX11_249 rfl rfl hl.1 ⟨Nat.le_of_ble_eq_true rfl, Nat.le_of_ble_eq_true rfl⟩ (Nat.le_of_ble_eq_true rfl) ⟨Nat.le_refl _, Nat.le_refl _⟩ dX11_areDreams_10 (fun H locs w => ?_)
  refine lv_istore_n (lv' := [(1, .int r5), (0, .ref (ad G v0))]) E.1 E.2.1 dX11_areDreams_13 rfl hl (by decide) rfl (fun ls hl => ?_)
  refine lv_iconst (v := 0) E.1 E.2.1 dX11_areDreams_14 rfl ?_
  refine lv_istore_n (lv' := [(2, .int 0), (1, .int r5), (0, .ref (ad G v0))]) E.1 E.2.1 dX11_areDreams_15 rfl hl (by decide) rfl (fun ls hl => ?_)
  exact X11_areDreams_l16_w E hr hlk N _ _ _ _ _ _ _ hf w t_v0 (lv_sub hl [2, 1, 0] rfl)

def X11_isSo_l21 (N : Nat) (h : HS) : Nat → Nat → Int32 → Int32 → Int32 → Option Int32
  | 0, _, _, _, _ => none
  | n + 1, v0, v1, v2, v3 => (if (h.1 v0 48) < 0 ∨ 3736 ≤ (h.1 v0 48).toNatClampNeg then none else (if (h.1 (v0 + 1) (h.1 v0 48).toNatClampNeg) ≤ v3 then some (nz v2) else (if v2 = 0 then X11_isSo_l21 N h n v0 v1 0 (v3 + 1) else (if v1 < 0 ∨ 6 ≤ v1.toNatClampNeg then none else (if (((h.1 v0 48) + 2) + (2 * v3)) < 0 ∨ 3736 ≤ (((h.1 v0 48) + 2) + (2 * v3)).toNatClampNeg then none else (if (((h.1 v0 48) + 1) + (2 * v3)) < 0 ∨ 3736 ≤ (((h.1 v0 48) + 1) + (2 * v3)).toNatClampNeg then none else (if (((h.1 (v0 + 19) v1.toNatClampNeg) >>> ((h.1 (v0 + 1) (((h.1 v0 48) + 2) + (2 * v3)).toNatClampNeg) &&& 31)) &&& 1) = (1 - (h.1 (v0 + 1) (((h.1 v0 48) + 1) + (2 * v3)).toNatClampNeg)) then X11_isSo_l21 N h n v0 v1 1 (v3 + 1) else X11_isSo_l21 N h n v0 v1 0 (v3 + 1))))))))
set_option maxRecDepth 4000 in
set_option maxHeartbeats 2000000 in
theorem X11_isSo_l21_w {p : Program} {l : Launch} {e : Env} {s : State} {m : MethodId} {args : Array Value} {below : List Frame} {meth : Method} {c : Code} {G : GT} {N : Nat} {h : HS} {z : Int32} (E : CallFix p m c cX11_isSo 4 s args UW RX11) (hr : meth.sig.returnType = (some .boolean)) (hlk : meth.locks = false) : ∀ (n : Nat) (H : Heap) (locs : List Loc) (ls : Array Slot) (v0 : Nat) (v1 : Int32) (v2 : Int32) (v3 : Int32), X11_isSo_l21 N h n v0 v1 v2 v3 = some z → WD G s h H locs → sh v0 = 11 → lv_has ls 4 [(0, .ref (ad G v0)), (1, .int v1), (2, .int v2), (3, .int v3)] → W p l e ({ frames := 0, cells := 0, slots := 0, locals := 0 } : Room) s m args below meth c H locs 0 0 (MQ below (QC G (some (.int z)) h) args s 0 0 (AD G)) (F0 m 21 ls []) := by
  intro n
  induction n with
  | zero =>
    intro H locs ls v0 v1 v2 v3 hf
    cases hf
  | succ n ih =>
    intro H locs ls v0 v1 v2 v3 hf w t_v0 hl
    unfold X11_isSo_l21 at hf
    refine lv_iload_n E.1 E.2.1 dX11_isSo_21 rfl (lv_at hl 3 rfl) ?_
    refine lv_aload_n E.1 E.2.1 dX11_isSo_22 rfl (lv_at hl 0 rfl) ?_
    refine q_gs E w 1 t_v0 fl_RX11_7 dX11_isSo_23 ?_
    refine lv_aload_n E.1 E.2.1 dX11_isSo_26 rfl (lv_at hl 0 rfl) ?_
    refine q_gi E w t_v0 fl_RX11_459 dX11_isSo_27 ?_
    obtain ⟨b2, hf⟩ := q_if hf
    refine q_iald E w ((lay_11_0 t_v0).1) ((lay_11_0 t_v0).2) b2 dX11_isSo_30 ?_
    refine lv_icmp_ge (tgt := 94) E.1 E.2.1 dX11_isSo_31 (by decide) (fun c3 => ?_) (fun c3 => ?_)
    · have hf := q_pos c3 hf
      refine lv_iload_n E.1 E.2.1 dX11_isSo_94 rfl (lv_at hl 2 rfl) ?_
      have hf := Option.some.inj hf
      subst hf
      exact q_zret E w hr hlk dX11_isSo_95
    · have hf := q_neg c3 hf
      refine lv_iload_n E.1 E.2.1 dX11_isSo_34 rfl (lv_at hl 2 rfl) ?_
      refine lv_if_eq (tgt := 86) E.1 E.2.1 dX11_isSo_35 (by decide) (fun c4 => ?_) (fun c4 => ?_)
      · have hf := q_pos c4 hf
        refine lv_iconst (v := 0) E.1 E.2.1 dX11_isSo_86 rfl ?_
        refine lv_istore_n (lv' := [(2, .int 0), (0, .ref (ad G v0)), (1, .int v1), (3, .int v3)]) E.1 E.2.1 dX11_isSo_87 rfl hl (by decide) rfl (fun ls hl => ?_)
        refine lv_iinc (v := v3 + 1) (lv' := [(3, .int (v3 + 1)), (2, .int 0), (0, .ref (ad G v0)), (1, .int v1)]) E.1 E.2.1 dX11_isSo_88 hl (k := 3) rfl rfl (by decide) rfl (fun ls hl => ?_)
        refine lv_goto (tgt := 21) E.1 E.2.1 dX11_isSo_91 (by decide) ?_
        exact ih _ _ _ _ _ _ _ hf w t_v0 (lv_sub hl [2, 3, 1, 0] rfl)
      · have hf := q_neg c4 hf
        refine lv_aload_n E.1 E.2.1 dX11_isSo_38 rfl (lv_at hl 0 rfl) ?_
        refine q_gs E w 19 t_v0 fl_RX11_65 dX11_isSo_39 ?_
        refine lv_iload_n E.1 E.2.1 dX11_isSo_42 rfl (lv_at hl 1 rfl) ?_
        obtain ⟨b5, hf⟩ := q_if hf
        refine q_iald E w ((lay_11_49 t_v0).1) ((lay_11_49 t_v0).2) b5 dX11_isSo_43 ?_
        refine lv_aload_n E.1 E.2.1 dX11_isSo_44 rfl (lv_at hl 0 rfl) ?_
        refine q_gs E w 1 t_v0 fl_RX11_7 dX11_isSo_45 ?_
        refine lv_aload_n E.1 E.2.1 dX11_isSo_48 rfl (lv_at hl 0 rfl) ?_
        refine q_gi E w t_v0 fl_RX11_459 dX11_isSo_49 ?_
        refine lv_iconst (v := 2) E.1 E.2.1 dX11_isSo_52 rfl ?_
        refine lv_iadd E.1 E.2.1 dX11_isSo_53 ?_
        refine lv_iconst (v := 2) E.1 E.2.1 dX11_isSo_54 rfl ?_
        refine lv_iload_n E.1 E.2.1 dX11_isSo_55 rfl (lv_at hl 3 rfl) ?_
        refine lv_imul E.1 E.2.1 dX11_isSo_56 ?_
        refine lv_iadd E.1 E.2.1 dX11_isSo_57 ?_
        obtain ⟨b6, hf⟩ := q_if hf
        refine q_iald E w ((lay_11_0 t_v0).1) ((lay_11_0 t_v0).2) b6 dX11_isSo_58 ?_
        refine lv_ishr E.1 E.2.1 dX11_isSo_59 ?_
        refine lv_iconst (v := 1) E.1 E.2.1 dX11_isSo_60 rfl ?_
        refine lv_iand E.1 E.2.1 dX11_isSo_61 ?_
        refine lv_iconst (v := 1) E.1 E.2.1 dX11_isSo_62 rfl ?_
        refine lv_aload_n E.1 E.2.1 dX11_isSo_63 rfl (lv_at hl 0 rfl) ?_
        refine q_gs E w 1 t_v0 fl_RX11_7 dX11_isSo_64 ?_
        refine lv_aload_n E.1 E.2.1 dX11_isSo_67 rfl (lv_at hl 0 rfl) ?_
        refine q_gi E w t_v0 fl_RX11_459 dX11_isSo_68 ?_
        refine lv_iconst (v := 1) E.1 E.2.1 dX11_isSo_71 rfl ?_
        refine lv_iadd E.1 E.2.1 dX11_isSo_72 ?_
        refine lv_iconst (v := 2) E.1 E.2.1 dX11_isSo_73 rfl ?_
        refine lv_iload_n E.1 E.2.1 dX11_isSo_74 rfl (lv_at hl 3 rfl) ?_
        refine lv_imul E.1 E.2.1 dX11_isSo_75 ?_
        refine lv_iadd E.1 E.2.1 dX11_isSo_76 ?_
        obtain ⟨b7, hf⟩ := q_if hf
        refine q_iald E w ((lay_11_0 t_v0).1) ((lay_11_0 t_v0).2) b7 dX11_isSo_77 ?_
        refine lv_isub E.1 E.2.1 dX11_isSo_78 ?_
        refine lv_icmp_ne (tgt := 86) E.1 E.2.1 dX11_isSo_79 (by decide) (fun c8 => ?_) (fun c8 => ?_)
        · have hf := q_neg c8 hf
          refine lv_iconst (v := 0) E.1 E.2.1 dX11_isSo_86 rfl ?_
          refine lv_istore_n (lv' := [(2, .int 0), (0, .ref (ad G v0)), (1, .int v1), (3, .int v3)]) E.1 E.2.1 dX11_isSo_87 rfl hl (by decide) rfl (fun ls hl => ?_)
          refine lv_iinc (v := v3 + 1) (lv' := [(3, .int (v3 + 1)), (2, .int 0), (0, .ref (ad G v0)), (1, .int v1)]) E.1 E.2.1 dX11_isSo_88 hl (k := 3) rfl rfl (by decide) rfl (fun ls hl => ?_)
          refine lv_goto (tgt := 21) E.1 E.2.1 dX11_isSo_91 (by decide) ?_
          exact ih _ _ _ _ _ _ _ hf w t_v0 (lv_sub hl [2, 3, 1, 0] rfl)
        · have hf := q_pos c8 hf
          refine lv_iconst (v := 1) E.1 E.2.1 dX11_isSo_82 rfl ?_
          refine lv_goto (tgt := 87) E.1 E.2.1 dX11_isSo_83 (by decide) ?_
          refine lv_istore_n (lv' := [(2, .int 1), (0, .ref (ad G v0)), (1, .int v1), (3, .int v3)]) E.1 E.2.1 dX11_isSo_87 rfl hl (by decide) rfl (fun ls hl => ?_)
          refine lv_iinc (v := v3 + 1) (lv' := [(3, .int (v3 + 1)), (2, .int 1), (0, .ref (ad G v0)), (1, .int v1)]) E.1 E.2.1 dX11_isSo_88 hl (k := 3) rfl rfl (by decide) rfl (fun ls hl => ?_)
          refine lv_goto (tgt := 21) E.1 E.2.1 dX11_isSo_91 (by decide) ?_
          exact ih _ _ _ _ _ _ _ hf w t_v0 (lv_sub hl [2, 3, 1, 0] rfl)

def X11_isSo (N : Nat) (h : HS) (v0 : Nat) (v1 : Int32) : Option Int32 := (if v1 = (5 : Int32) then X11_isSo_l21 N h N v0 v1 1 0 else (if (h.1 v0 15) ≤ v1 then X11_isSo_l21 N h N v0 v1 0 0 else X11_isSo_l21 N h N v0 v1 1 0))
set_option maxRecDepth 4000 in
set_option maxHeartbeats 2000000 in
theorem X11_isSo_c {l : Launch} {G : GT} {N : Nat} {h : HS} {v0 : Nat} {v1 : Int32} {z : Int32} (t_v0 : sh v0 = 11) (hf : X11_isSo N h v0 v1 = some z) : CT l G yX11_isSo cX11_isSo 4 (some .boolean) 0 0 [.ref (ad G v0), .int v1] h (some (.int z)) h := by
  unfold X11_isSo at hf
  refine CT.of (by decide) (Nat.le_of_ble_eq_true rfl) ?_
  intro p e s m below meth c ls E hr hlk w hl
  have hl : lv_has ls 4 [(0, .ref (ad G v0)), (1, .int v1)] := hl
  refine lv_iload_n E.1 E.2.1 dX11_isSo_0 rfl (lv_at hl 1 rfl) ?_
  refine lv_iconst (v := 5) E.1 E.2.1 dX11_isSo_1 rfl ?_
  refine lv_icmp_eq (tgt := 13) E.1 E.2.1 dX11_isSo_2 (by decide) (fun c1 => ?_) (fun c1 => ?_)
  · have hf := q_pos c1 hf
    refine lv_iconst (v := 1) E.1 E.2.1 dX11_isSo_13 rfl ?_
    refine lv_goto (tgt := 18) E.1 E.2.1 dX11_isSo_14 (by decide) ?_
    refine lv_istore_n (lv' := [(2, .int 1), (0, .ref (ad G v0)), (1, .int v1)]) E.1 E.2.1 dX11_isSo_18 rfl hl (by decide) rfl (fun ls hl => ?_)
    refine lv_iconst (v := 0) E.1 E.2.1 dX11_isSo_19 rfl ?_
    refine lv_istore_n (lv' := [(3, .int 0), (2, .int 1), (0, .ref (ad G v0)), (1, .int v1)]) E.1 E.2.1 dX11_isSo_20 rfl hl (by decide) rfl (fun ls hl => ?_)
    exact X11_isSo_l21_w E hr hlk N _ _ _ _ _ _ _ hf w t_v0 (lv_sub hl [2, 3, 1, 0] rfl)
  · have hf := q_neg c1 hf
    refine lv_iload_n E.1 E.2.1 dX11_isSo_5 rfl (lv_at hl 1 rfl) ?_
    refine lv_aload_n E.1 E.2.1 dX11_isSo_6 rfl (lv_at hl 0 rfl) ?_
    refine q_gi E w t_v0 fl_RX11_191 dX11_isSo_7 ?_
    refine lv_icmp_ge (tgt := 17) E.1 E.2.1 dX11_isSo_10 (by decide) (fun c9 => ?_) (fun c9 => ?_)
    · have hf := q_pos c9 hf
      refine lv_iconst (v := 0) E.1 E.2.1 dX11_isSo_17 rfl ?_
      refine lv_istore_n (lv' := [(2, .int 0), (0, .ref (ad G v0)), (1, .int v1)]) E.1 E.2.1 dX11_isSo_18 rfl hl (by decide) rfl (fun ls hl => ?_)
      refine lv_iconst (v := 0) E.1 E.2.1 dX11_isSo_19 rfl ?_
      refine lv_istore_n (lv' := [(3, .int 0), (2, .int 0), (0, .ref (ad G v0)), (1, .int v1)]) E.1 E.2.1 dX11_isSo_20 rfl hl (by decide) rfl (fun ls hl => ?_)
      exact X11_isSo_l21_w E hr hlk N _ _ _ _ _ _ _ hf w t_v0 (lv_sub hl [2, 3, 1, 0] rfl)
    · have hf := q_neg c9 hf
      refine lv_iconst (v := 1) E.1 E.2.1 dX11_isSo_13 rfl ?_
      refine lv_goto (tgt := 18) E.1 E.2.1 dX11_isSo_14 (by decide) ?_
      refine lv_istore_n (lv' := [(2, .int 1), (0, .ref (ad G v0)), (1, .int v1)]) E.1 E.2.1 dX11_isSo_18 rfl hl (by decide) rfl (fun ls hl => ?_)
      refine lv_iconst (v := 0) E.1 E.2.1 dX11_isSo_19 rfl ?_
      refine lv_istore_n (lv' := [(3, .int 0), (2, .int 1), (0, .ref (ad G v0)), (1, .int v1)]) E.1 E.2.1 dX11_isSo_20 rfl hl (by decide) rfl (fun ls hl => ?_)
      exact X11_isSo_l21_w E hr hlk N _ _ _ _ _ _ _ hf w t_v0 (lv_sub hl [2, 3, 1, 0] rfl)

def X11_manyFit_l4 (N : Nat) (h : HS) : Nat → Nat → Int32 → Int32 → Option Int32
  | 0, _, _, _ => none
  | n + 1, v0, v1, v2 => (if (6 : Int32) ≤ v2 then some v1 else bd1 (X11_isSo N h v0 v2) fun r3 => (if r3 = 0 then X11_manyFit_l4 N h n v0 (v1 + 0) (v2 + 1) else X11_manyFit_l4 N h n v0 (v1 + 1) (v2 + 1)))
set_option maxRecDepth 4000 in
set_option maxHeartbeats 2000000 in
theorem X11_manyFit_l4_w {p : Program} {l : Launch} {e : Env} {s : State} {m : MethodId} {args : Array Value} {below : List Frame} {meth : Method} {c : Code} {G : GT} {N : Nat} {h : HS} {z : Int32} (E : CallFix p m c cX11_manyFit 3 s args UW RX11) (hr : meth.sig.returnType = (some .int)) (hlk : meth.locks = false) : ∀ (n : Nat) (H : Heap) (locs : List Loc) (ls : Array Slot) (v0 : Nat) (v1 : Int32) (v2 : Int32), X11_manyFit_l4 N h n v0 v1 v2 = some z → WD G s h H locs → sh v0 = 11 → lv_has ls 3 [(0, .ref (ad G v0)), (1, .int v1), (2, .int v2)] → W p l e ({ frames := 1, cells := 0, slots := 0, locals := 23 } : Room) s m args below meth c H locs 0 0 (MQ below (QC G (some (.int z)) h) args s 0 0 (AD G)) (F0 m 4 ls []) := by
  intro n
  induction n with
  | zero =>
    intro H locs ls v0 v1 v2 hf
    cases hf
  | succ n ih =>
    intro H locs ls v0 v1 v2 hf w t_v0 hl
    unfold X11_manyFit_l4 at hf
    refine lv_iload_n E.1 E.2.1 dX11_manyFit_4 rfl (lv_at hl 2 rfl) ?_
    refine lv_bipush (v := 6) E.1 E.2.1 dX11_manyFit_5 rfl ?_
    refine lv_icmp_ge (tgt := 32) E.1 E.2.1 dX11_manyFit_7 (by decide) (fun c1 => ?_) (fun c1 => ?_)
    · have hf := q_pos c1 hf
      refine lv_iload_n E.1 E.2.1 dX11_manyFit_32 rfl (lv_at hl 1 rfl) ?_
      have hf := Option.some.inj hf
      subst hf
      exact q_iret E w hr hlk dX11_manyFit_33
    · have hf := q_neg c1 hf
      refine lv_iload_n E.1 E.2.1 dX11_manyFit_10 rfl (lv_at hl 1 rfl) ?_
      refine lv_aload_n E.1 E.2.1 dX11_manyFit_11 rfl (lv_at hl 0 rfl) ?_
      refine lv_iload_n E.1 E.2.1 dX11_manyFit_12 rfl (lv_at hl 2 rfl) ?_
      obtain ⟨r3, hc2, hf⟩ := bd1_e hf
      refine k_Vi (As := [.int v2]) (rest := [.int v1]) E w t_v0 ⟨by decide, rfl⟩ (X11_isSo_c t_v0 hc2) mv_RX11_465 rfl rfl hl.1 ⟨Nat.le_of_ble_eq_true rfl, Nat.le_of_ble_eq_true rfl⟩ (Nat.le_of_ble_eq_true rfl) ⟨Nat.le_refl _, Nat.le_refl _⟩ dX11_manyFit_13 (fun H locs w => ?_)
      refine lv_if_eq (tgt := 23) E.1 E.2.1 dX11_manyFit_16 (by decide) (fun c5 => ?_) (fun c5 => ?_)
      · have hf := q_pos c5 hf
        refine lv_iconst (v := 0) E.1 E.2.1 dX11_manyFit_23 rfl ?_
        refine lv_iadd E.1 E.2.1 dX11_manyFit_24 ?_
        refine lv_istore_n (lv' := [(1, .int (v1 + 0)), (0, .ref (ad G v0)), (2, .int v2)]) E.1 E.2.1 dX11_manyFit_25 rfl hl (by decide) rfl (fun ls hl => ?_)
        refine lv_iinc (v := v2 + 1) (lv' := [(2, .int (v2 + 1)), (1, .int (v1 + 0)), (0, .ref (ad G v0))]) E.1 E.2.1 dX11_manyFit_26 hl (k := 2) rfl rfl (by decide) rfl (fun ls hl => ?_)
        refine lv_goto (tgt := 4) E.1 E.2.1 dX11_manyFit_29 (by decide) ?_
        exact ih _ _ _ _ _ _ hf w t_v0 (lv_sub hl [2, 1, 0] rfl)
      · have hf := q_neg c5 hf
        refine lv_iconst (v := 1) E.1 E.2.1 dX11_manyFit_19 rfl ?_
        refine lv_goto (tgt := 24) E.1 E.2.1 dX11_manyFit_20 (by decide) ?_
        refine lv_iadd E.1 E.2.1 dX11_manyFit_24 ?_
        refine lv_istore_n (lv' := [(1, .int (v1 + 1)), (0, .ref (ad G v0)), (2, .int v2)]) E.1 E.2.1 dX11_manyFit_25 rfl hl (by decide) rfl (fun ls hl => ?_)
        refine lv_iinc (v := v2 + 1) (lv' := [(2, .int (v2 + 1)), (1, .int (v1 + 1)), (0, .ref (ad G v0))]) E.1 E.2.1 dX11_manyFit_26 hl (k := 2) rfl rfl (by decide) rfl (fun ls hl => ?_)
        refine lv_goto (tgt := 4) E.1 E.2.1 dX11_manyFit_29 (by decide) ?_
        exact ih _ _ _ _ _ _ hf w t_v0 (lv_sub hl [2, 1, 0] rfl)

def X11_manyFit (N : Nat) (h : HS) (v0 : Nat) : Option Int32 := X11_manyFit_l4 N h N v0 0 0
set_option maxRecDepth 4000 in
set_option maxHeartbeats 2000000 in
theorem X11_manyFit_c {l : Launch} {G : GT} {N : Nat} {h : HS} {v0 : Nat} {z : Int32} (t_v0 : sh v0 = 11) (hf : X11_manyFit N h v0 = some z) : CT l G yX11_manyFit cX11_manyFit 3 (some .int) 1 23 [.ref (ad G v0)] h (some (.int z)) h := by
  unfold X11_manyFit at hf
  refine CT.of (by decide) (Nat.le_of_ble_eq_true rfl) ?_
  intro p e s m below meth c ls E hr hlk w hl
  have hl : lv_has ls 3 [(0, .ref (ad G v0))] := hl
  refine lv_iconst (v := 0) E.1 E.2.1 dX11_manyFit_0 rfl ?_
  refine lv_istore_n (lv' := [(1, .int 0), (0, .ref (ad G v0))]) E.1 E.2.1 dX11_manyFit_1 rfl hl (by decide) rfl (fun ls hl => ?_)
  refine lv_iconst (v := 0) E.1 E.2.1 dX11_manyFit_2 rfl ?_
  refine lv_istore_n (lv' := [(2, .int 0), (1, .int 0), (0, .ref (ad G v0))]) E.1 E.2.1 dX11_manyFit_3 rfl hl (by decide) rfl (fun ls hl => ?_)
  exact X11_manyFit_l4_w E hr hlk N _ _ _ _ _ _ hf w t_v0 (lv_sub hl [2, 1, 0] rfl)

def X11_askOf_l27 (N : Nat) (h : HS) (K8 : Nat → Int32 → Int32 → Int32 → Int32 → Option Int32) : Nat → Nat → Int32 → Int32 → Int32 → Int32 → Int32 → Int32 → Option Int32
  | 0, _, _, _, _, _, _, _ => none
  | n + 1, v0, v1, v2, v3, v4, v5, v6 => (if (6 : Int32) ≤ v6 then (if v5 ≤ (v1 - v5) then (if (v1 - v5) < v3 then K8 v0 v1 v4 (v1 - v5) (v4 + 1) else K8 v0 v1 v2 v3 (v4 + 1)) else (if v5 < v3 then K8 v0 v1 v4 v5 (v4 + 1) else K8 v0 v1 v2 v3 (v4 + 1))) else bd1 (X11_isSo N h v0 v6) fun r8 => (if r8 = 0 then X11_askOf_l27 N h K8 n v0 v1 v2 v3 v4 (v5 + 0) (v6 + 1) else (if v6 < 0 ∨ 6 ≤ v6.toNatClampNeg then none else X11_askOf_l27 N h K8 n v0 v1 v2 v3 v4 (v5 + (((h.1 (v0 + 19) v6.toNatClampNeg) >>> (v4 &&& 31)) &&& 1)) (v6 + 1))))
set_option maxRecDepth 4000 in
set_option maxHeartbeats 2000000 in
theorem X11_askOf_l27_w {p : Program} {l : Launch} {e : Env} {s : State} {m : MethodId} {args : Array Value} {below : List Frame} {meth : Method} {c : Code} {G : GT} {N : Nat} {h : HS} {z : Int32} (E : CallFix p m c cX11_askOf 7 s args UW RX11) (hr : meth.sig.returnType = (some .int)) (hlk : meth.locks = false) {K8 : Nat → Int32 → Int32 → Int32 → Int32 → Option Int32} (hK8 : ∀ (H : Heap) (locs : List Loc) (ls : Array Slot) (v0 : Nat) (v1 : Int32) (v2 : Int32) (v3 : Int32) (v4 : Int32), K8 v0 v1 v2 v3 v4 = some z → WD G s h H locs → sh v0 = 11 → lv_has ls 7 [(0, .ref (ad G v0)), (1, .int v1), (2, .int v2), (3, .int v3), (4, .int v4)] → W p l e ({ frames := 1, cells := 0, slots := 0, locals := 23 } : Room) s m args below meth c H locs 0 0 (MQ below (QC G (some (.int z)) h) args s 0 0 (AD G)) (F0 m 8 ls [])) : ∀ (n : Nat) (H : Heap) (locs : List Loc) (ls : Array Slot) (v0 : Nat) (v1 : Int32) (v2 : Int32) (v3 : Int32) (v4 : Int32) (v5 : Int32) (v6 : Int32), X11_askOf_l27 N h K8 n v0 v1 v2 v3 v4 v5 v6 = some z → WD G s h H locs → sh v0 = 11 → lv_has ls 7 [(0, .ref (ad G v0)), (1, .int v1), (2, .int v2), (3, .int v3), (4, .int v4), (5, .int v5), (6, .int v6)] → W p l e ({ frames := 1, cells := 0, slots := 0, locals := 23 } : Room) s m args below meth c H locs 0 0 (MQ below (QC G (some (.int z)) h) args s 0 0 (AD G)) (F0 m 27 ls []) := by
  intro n
  induction n with
  | zero =>
    intro H locs ls v0 v1 v2 v3 v4 v5 v6 hf
    cases hf
  | succ n ih =>
    intro H locs ls v0 v1 v2 v3 v4 v5 v6 hf w t_v0 hl
    unfold X11_askOf_l27 at hf
    refine lv_iload E.1 E.2.1 dX11_askOf_27 (lv_at hl 6 rfl) ?_
    refine lv_bipush (v := 6) E.1 E.2.1 dX11_askOf_29 rfl ?_
    refine lv_icmp_ge (tgt := 70) E.1 E.2.1 dX11_askOf_31 (by decide) (fun c3 => ?_) (fun c3 => ?_)
    · have hf := q_pos c3 hf
      refine lv_iload E.1 E.2.1 dX11_askOf_70 (lv_at hl 5 rfl) ?_
      refine lv_iload_n E.1 E.2.1 dX11_askOf_72 rfl (lv_at hl 1 rfl) ?_
      refine lv_iload E.1 E.2.1 dX11_askOf_73 (lv_at hl 5 rfl) ?_
      refine lv_isub E.1 E.2.1 dX11_askOf_75 ?_
      refine lv_icmp_le (tgt := 84) E.1 E.2.1 dX11_askOf_76 (by decide) (fun c4 => ?_) (fun c4 => ?_)
      · have hf := q_pos c4 hf
        refine lv_iload_n E.1 E.2.1 dX11_askOf_84 rfl (lv_at hl 1 rfl) ?_
        refine lv_iload E.1 E.2.1 dX11_askOf_85 (lv_at hl 5 rfl) ?_
        refine lv_isub E.1 E.2.1 dX11_askOf_87 ?_
        refine lv_istore (lv' := [(6, .int (v1 - v5)), (0, .ref (ad G v0)), (1, .int v1), (2, .int v2), (3, .int v3), (4, .int v4), (5, .int v5)]) E.1 E.2.1 dX11_askOf_88 hl (by decide) rfl (fun ls hl => ?_)
        refine lv_iload E.1 E.2.1 dX11_askOf_90 (lv_at hl 0 rfl) ?_
        refine lv_iload_n E.1 E.2.1 dX11_askOf_92 rfl (lv_at hl 4 rfl) ?_
        refine lv_icmp_lt (tgt := 99) E.1 E.2.1 dX11_askOf_93 (by decide) (fun c5 => ?_) (fun c5 => ?_)
        · have hf := q_pos c5 hf
          refine lv_iload E.1 E.2.1 dX11_askOf_99 (lv_at hl 5 rfl) ?_
          refine lv_istore_n (lv' := [(2, .int v4), (6, .int (v1 - v5)), (0, .ref (ad G v0)), (1, .int v1), (3, .int v3), (4, .int v4), (5, .int v5)]) E.1 E.2.1 dX11_askOf_101 rfl hl (by decide) rfl (fun ls hl => ?_)
          refine lv_iload E.1 E.2.1 dX11_askOf_102 (lv_at hl 1 rfl) ?_
          refine lv_istore_n (lv' := [(3, .int (v1 - v5)), (2, .int v4), (6, .int (v1 - v5)), (0, .ref (ad G v0)), (1, .int v1), (4, .int v4), (5, .int v5)]) E.1 E.2.1 dX11_askOf_104 rfl hl (by decide) rfl (fun ls hl => ?_)
          refine lv_iinc (v := v4 + 1) (lv' := [(4, .int (v4 + 1)), (3, .int (v1 - v5)), (2, .int v4), (6, .int (v1 - v5)), (0, .ref (ad G v0)), (1, .int v1), (5, .int v5)]) E.1 E.2.1 dX11_askOf_105 hl (k := 5) rfl rfl (by decide) rfl (fun ls hl => ?_)
          refine lv_goto (tgt := 8) E.1 E.2.1 dX11_askOf_108 (by decide) ?_
          exact hK8 _ _ _ _ _ _ _ _ hf w t_v0 (lv_sub hl [4, 5, 2, 1, 0] rfl)
        · have hf := q_neg c5 hf
          refine lv_goto (tgt := 105) E.1 E.2.1 dX11_askOf_96 (by decide) ?_
          refine lv_iinc (v := v4 + 1) (lv' := [(4, .int (v4 + 1)), (6, .int (v1 - v5)), (0, .ref (ad G v0)), (1, .int v1), (2, .int v2), (3, .int v3), (5, .int v5)]) E.1 E.2.1 dX11_askOf_105 hl (k := 5) rfl rfl (by decide) rfl (fun ls hl => ?_)
          refine lv_goto (tgt := 8) E.1 E.2.1 dX11_askOf_108 (by decide) ?_
          exact hK8 _ _ _ _ _ _ _ _ hf w t_v0 (lv_sub hl [2, 3, 4, 5, 0] rfl)
      · have hf := q_neg c4 hf
        refine lv_iload E.1 E.2.1 dX11_askOf_79 (lv_at hl 5 rfl) ?_
        refine lv_goto (tgt := 88) E.1 E.2.1 dX11_askOf_81 (by decide) ?_
        refine lv_istore (lv' := [(6, .int v5), (0, .ref (ad G v0)), (1, .int v1), (2, .int v2), (3, .int v3), (4, .int v4), (5, .int v5)]) E.1 E.2.1 dX11_askOf_88 hl (by decide) rfl (fun ls hl => ?_)
        refine lv_iload E.1 E.2.1 dX11_askOf_90 (lv_at hl 0 rfl) ?_
        refine lv_iload_n E.1 E.2.1 dX11_askOf_92 rfl (lv_at hl 4 rfl) ?_
        refine lv_icmp_lt (tgt := 99) E.1 E.2.1 dX11_askOf_93 (by decide) (fun c6 => ?_) (fun c6 => ?_)
        · have hf := q_pos c6 hf
          refine lv_iload E.1 E.2.1 dX11_askOf_99 (lv_at hl 5 rfl) ?_
          refine lv_istore_n (lv' := [(2, .int v4), (6, .int v5), (0, .ref (ad G v0)), (1, .int v1), (3, .int v3), (4, .int v4), (5, .int v5)]) E.1 E.2.1 dX11_askOf_101 rfl hl (by decide) rfl (fun ls hl => ?_)
          refine lv_iload E.1 E.2.1 dX11_askOf_102 (lv_at hl 1 rfl) ?_
          refine lv_istore_n (lv' := [(3, .int v5), (2, .int v4), (6, .int v5), (0, .ref (ad G v0)), (1, .int v1), (4, .int v4), (5, .int v5)]) E.1 E.2.1 dX11_askOf_104 rfl hl (by decide) rfl (fun ls hl => ?_)
          refine lv_iinc (v := v4 + 1) (lv' := [(4, .int (v4 + 1)), (3, .int v5), (2, .int v4), (6, .int v5), (0, .ref (ad G v0)), (1, .int v1), (5, .int v5)]) E.1 E.2.1 dX11_askOf_105 hl (k := 5) rfl rfl (by decide) rfl (fun ls hl => ?_)
          refine lv_goto (tgt := 8) E.1 E.2.1 dX11_askOf_108 (by decide) ?_
          exact hK8 _ _ _ _ _ _ _ _ hf w t_v0 (lv_sub hl [4, 5, 2, 1, 0] rfl)
        · have hf := q_neg c6 hf
          refine lv_goto (tgt := 105) E.1 E.2.1 dX11_askOf_96 (by decide) ?_
          refine lv_iinc (v := v4 + 1) (lv' := [(4, .int (v4 + 1)), (6, .int v5), (0, .ref (ad G v0)), (1, .int v1), (2, .int v2), (3, .int v3), (5, .int v5)]) E.1 E.2.1 dX11_askOf_105 hl (k := 5) rfl rfl (by decide) rfl (fun ls hl => ?_)
          refine lv_goto (tgt := 8) E.1 E.2.1 dX11_askOf_108 (by decide) ?_
          exact hK8 _ _ _ _ _ _ _ _ hf w t_v0 (lv_sub hl [2, 3, 4, 5, 0] rfl)
    · have hf := q_neg c3 hf
      refine lv_iload E.1 E.2.1 dX11_askOf_34 (lv_at hl 5 rfl) ?_
      refine lv_aload_n E.1 E.2.1 dX11_askOf_36 rfl (lv_at hl 0 rfl) ?_
      refine lv_iload E.1 E.2.1 dX11_askOf_37 (lv_at hl 6 rfl) ?_
      obtain ⟨r8, hc7, hf⟩ := bd1_e hf
      refine k_Vi (As := [.int v6]) (rest := [.int v5]) E w t_v0 ⟨by decide, rfl⟩ (X11_isSo_c t_v0 hc7) mv_RX11_465 rfl rfl hl.1 ⟨Nat.le_of_ble_eq_true rfl, Nat.le_of_ble_eq_true rfl⟩ (Nat.le_of_ble_eq_true rfl) ⟨Nat.le_refl _, Nat.le_refl _⟩ dX11_askOf_39 (fun H locs w => ?_)
      refine lv_if_eq (tgt := 60) E.1 E.2.1 dX11_askOf_42 (by decide) (fun c10 => ?_) (fun c10 => ?_)
      · have hf := q_pos c10 hf
        refine lv_iconst (v := 0) E.1 E.2.1 dX11_askOf_60 rfl ?_
        refine lv_iadd E.1 E.2.1 dX11_askOf_61 ?_
        refine lv_istore (lv' := [(5, .int (v5 + 0)), (0, .ref (ad G v0)), (1, .int v1), (2, .int v2), (3, .int v3), (4, .int v4), (6, .int v6)]) E.1 E.2.1 dX11_askOf_62 hl (by decide) rfl (fun ls hl => ?_)
        refine lv_iinc (v := v6 + 1) (lv' := [(6, .int (v6 + 1)), (5, .int (v5 + 0)), (0, .ref (ad G v0)), (1, .int v1), (2, .int v2), (3, .int v3), (4, .int v4)]) E.1 E.2.1 dX11_askOf_64 hl (k := 6) rfl rfl (by decide) rfl (fun ls hl => ?_)
        refine lv_goto (tgt := 27) E.1 E.2.1 dX11_askOf_67 (by decide) ?_
        exact ih _ _ _ _ _ _ _ _ _ _ hf w t_v0 (lv_sub hl [2, 3, 4, 5, 6, 1, 0] rfl)
      · have hf := q_neg c10 hf
        refine lv_aload_n E.1 E.2.1 dX11_askOf_45 rfl (lv_at hl 0 rfl) ?_
        refine q_gs E w 19 t_v0 fl_RX11_65 dX11_askOf_46 ?_
        refine lv_iload E.1 E.2.1 dX11_askOf_49 (lv_at hl 6 rfl) ?_
        obtain ⟨b11, hf⟩ := q_if hf
        refine q_iald E w ((lay_11_49 t_v0).1) ((lay_11_49 t_v0).2) b11 dX11_askOf_51 ?_
        refine lv_iload E.1 E.2.1 dX11_askOf_52 (lv_at hl 4 rfl) ?_
        refine lv_ishr E.1 E.2.1 dX11_askOf_54 ?_
        refine lv_iconst (v := 1) E.1 E.2.1 dX11_askOf_55 rfl ?_
        refine lv_iand E.1 E.2.1 dX11_askOf_56 ?_
        refine lv_goto (tgt := 61) E.1 E.2.1 dX11_askOf_57 (by decide) ?_
        refine lv_iadd E.1 E.2.1 dX11_askOf_61 ?_
        refine lv_istore (lv' := [(5, .int (v5 + (((h.1 (v0 + 19) v6.toNatClampNeg) >>> (v4 &&& 31)) &&& 1))), (0, .ref (ad G v0)), (1, .int v1), (2, .int v2), (3, .int v3), (4, .int v4), (6, .int v6)]) E.1 E.2.1 dX11_askOf_62 hl (by decide) rfl (fun ls hl => ?_)
        refine lv_iinc (v := v6 + 1) (lv' := [(6, .int (v6 + 1)), (5, .int (v5 + (((h.1 (v0 + 19) v6.toNatClampNeg) >>> (v4 &&& 31)) &&& 1))), (0, .ref (ad G v0)), (1, .int v1), (2, .int v2), (3, .int v3), (4, .int v4)]) E.1 E.2.1 dX11_askOf_64 hl (k := 6) rfl rfl (by decide) rfl (fun ls hl => ?_)
        refine lv_goto (tgt := 27) E.1 E.2.1 dX11_askOf_67 (by decide) ?_
        exact ih _ _ _ _ _ _ _ _ _ _ hf w t_v0 (lv_sub hl [2, 3, 4, 5, 6, 1, 0] rfl)

def X11_askOf_l8 (N : Nat) (h : HS) : Nat → Nat → Int32 → Int32 → Int32 → Int32 → Option Int32
  | 0, _, _, _, _, _ => none
  | n + 1, v0, v1, v2, v3, v4 => (if (h.1 v0 13) ≤ v4 then some v2 else (if v1 ≤ 0 then some v2 else X11_askOf_l27 N h (X11_askOf_l8 N h n) N v0 v1 v2 v3 v4 0 0))
set_option maxRecDepth 4000 in
set_option maxHeartbeats 2000000 in
theorem X11_askOf_l8_w {p : Program} {l : Launch} {e : Env} {s : State} {m : MethodId} {args : Array Value} {below : List Frame} {meth : Method} {c : Code} {G : GT} {N : Nat} {h : HS} {z : Int32} (E : CallFix p m c cX11_askOf 7 s args UW RX11) (hr : meth.sig.returnType = (some .int)) (hlk : meth.locks = false) : ∀ (n : Nat) (H : Heap) (locs : List Loc) (ls : Array Slot) (v0 : Nat) (v1 : Int32) (v2 : Int32) (v3 : Int32) (v4 : Int32), X11_askOf_l8 N h n v0 v1 v2 v3 v4 = some z → WD G s h H locs → sh v0 = 11 → lv_has ls 7 [(0, .ref (ad G v0)), (1, .int v1), (2, .int v2), (3, .int v3), (4, .int v4)] → W p l e ({ frames := 1, cells := 0, slots := 0, locals := 23 } : Room) s m args below meth c H locs 0 0 (MQ below (QC G (some (.int z)) h) args s 0 0 (AD G)) (F0 m 8 ls []) := by
  intro n
  induction n with
  | zero =>
    intro H locs ls v0 v1 v2 v3 v4 hf
    cases hf
  | succ n ih =>
    intro H locs ls v0 v1 v2 v3 v4 hf w t_v0 hl
    unfold X11_askOf_l8 at hf
    refine lv_iload E.1 E.2.1 dX11_askOf_8 (lv_at hl 4 rfl) ?_
    refine lv_aload_n E.1 E.2.1 dX11_askOf_10 rfl (lv_at hl 0 rfl) ?_
    refine q_gi E w t_v0 fl_RX11_185 dX11_askOf_11 ?_
    refine lv_icmp_ge (tgt := 111) E.1 E.2.1 dX11_askOf_14 (by decide) (fun c1 => ?_) (fun c1 => ?_)
    · have hf := q_pos c1 hf
      refine lv_iload_n E.1 E.2.1 dX11_askOf_111 rfl (lv_at hl 2 rfl) ?_
      have hf := Option.some.inj hf
      subst hf
      exact q_iret E w hr hlk dX11_askOf_112
    · have hf := q_neg c1 hf
      refine lv_iload_n E.1 E.2.1 dX11_askOf_17 rfl (lv_at hl 1 rfl) ?_
      refine lv_if_le (tgt := 111) E.1 E.2.1 dX11_askOf_18 (by decide) (fun c2 => ?_) (fun c2 => ?_)
      · have hf := q_pos c2 hf
        refine lv_iload_n E.1 E.2.1 dX11_askOf_111 rfl (lv_at hl 2 rfl) ?_
        have hf := Option.some.inj hf
        subst hf
        exact q_iret E w hr hlk dX11_askOf_112
      · have hf := q_neg c2 hf
        refine lv_iconst (v := 0) E.1 E.2.1 dX11_askOf_21 rfl ?_
        refine lv_istore (lv' := [(5, .int 0), (0, .ref (ad G v0)), (1, .int v1), (2, .int v2), (3, .int v3), (4, .int v4)]) E.1 E.2.1 dX11_askOf_22 hl (by decide) rfl (fun ls hl => ?_)
        refine lv_iconst (v := 0) E.1 E.2.1 dX11_askOf_24 rfl ?_
        refine lv_istore (lv' := [(6, .int 0), (5, .int 0), (0, .ref (ad G v0)), (1, .int v1), (2, .int v2), (3, .int v3), (4, .int v4)]) E.1 E.2.1 dX11_askOf_25 hl (by decide) rfl (fun ls hl => ?_)
        exact X11_askOf_l27_w E hr hlk ih N _ _ _ _ _ _ _ _ _ _ hf w t_v0 (lv_sub hl [2, 3, 4, 5, 6, 1, 0] rfl)

def X11_askOf (N : Nat) (h : HS) (v0 : Nat) (v1 : Int32) : Option Int32 := X11_askOf_l8 N h N v0 v1 (-1) 99999999 0
set_option maxRecDepth 4000 in
set_option maxHeartbeats 2000000 in
theorem X11_askOf_c {l : Launch} {G : GT} {N : Nat} {h : HS} {v0 : Nat} {v1 : Int32} {z : Int32} (t_v0 : sh v0 = 11) (hf : X11_askOf N h v0 v1 = some z) : CT l G yX11_askOf cX11_askOf 7 (some .int) 1 23 [.ref (ad G v0), .int v1] h (some (.int z)) h := by
  unfold X11_askOf at hf
  refine CT.of (by decide) (Nat.le_of_ble_eq_true rfl) ?_
  intro p e s m below meth c ls E hr hlk w hl
  have hl : lv_has ls 7 [(0, .ref (ad G v0)), (1, .int v1)] := hl
  refine lv_iconst (v := (-1)) E.1 E.2.1 dX11_askOf_0 rfl ?_
  refine lv_istore_n (lv' := [(2, .int (-1)), (0, .ref (ad G v0)), (1, .int v1)]) E.1 E.2.1 dX11_askOf_1 rfl hl (by decide) rfl (fun ls hl => ?_)
  refine lv_ldc (v := 99999999) E.1 E.2.1 E.2.2.2.1 (E.2.2.2.2 _ ct_RX11_221) dX11_askOf_2 ?_
  refine lv_istore_n (lv' := [(3, .int 99999999), (2, .int (-1)), (0, .ref (ad G v0)), (1, .int v1)]) E.1 E.2.1 dX11_askOf_4 rfl hl (by decide) rfl (fun ls hl => ?_)
  refine lv_iconst (v := 0) E.1 E.2.1 dX11_askOf_5 rfl ?_
  refine lv_istore (lv' := [(4, .int 0), (3, .int 99999999), (2, .int (-1)), (0, .ref (ad G v0)), (1, .int v1)]) E.1 E.2.1 dX11_askOf_6 hl (by decide) rfl (fun ls hl => ?_)
  exact X11_askOf_l8_w E hr hlk N _ _ _ _ _ _ _ _ hf w t_v0 (lv_sub hl [3, 4, 2, 1, 0] rfl)

def X11_fits_l129 (N : Nat) : Nat → HS → Nat → Int32 → Int32 → Int32 → Option (Int32 × HS)
  | 0, _, _, _, _, _ => none
  | n + 1, h, v0, v3, v6, v7 => (if (6 : Int32) ≤ v7 then some ((-2), h) else bd1 (X11_isSo N h v0 v7) fun r31 => (if r31 = 0 then X11_fits_l129 N n h v0 v3 v6 (v7 + 1) else (if v6 = (v3 - 10) then some (v7, h) else X11_fits_l129 N n h v0 v3 (v6 + 1) (v7 + 1))))
set_option maxRecDepth 4000 in
set_option maxHeartbeats 2000000 in
theorem X11_fits_l129_w {p : Program} {l : Launch} {e : Env} {s : State} {m : MethodId} {args : Array Value} {below : List Frame} {meth : Method} {c : Code} {G : GT} {N : Nat} {z : (Int32 × HS)} (E : CallFix p m c cX11_fits 8 s args UW RX11) (hr : meth.sig.returnType = (some .int)) (hlk : meth.locks = false) : ∀ (n : Nat) (h : HS) (H : Heap) (locs : List Loc) (ls : Array Slot) (v0 : Nat) (v3 : Int32) (v6 : Int32) (v7 : Int32), X11_fits_l129 N n h v0 v3 v6 v7 = some z → WD G s h H locs → sh v0 = 11 → lv_has ls 8 [(0, .ref (ad G v0)), (3, .int v3), (6, .int v6), (7, .int v7)] → W p l e ({ frames := 7, cells := 0, slots := 0, locals := 156 } : Room) s m args below meth c H locs 0 0 (MQ below (QC G (some (.int z.1)) z.2) args s 0 0 (AD G)) (F0 m 129 ls []) := by
  intro n
  induction n with
  | zero =>
    intro h H locs ls v0 v3 v6 v7 hf
    cases hf
  | succ n ih =>
    intro h H locs ls v0 v3 v6 v7 hf w t_v0 hl
    unfold X11_fits_l129 at hf
    refine lv_iload E.1 E.2.1 dX11_fits_129 (lv_at hl 3 rfl) ?_
    refine lv_bipush (v := 6) E.1 E.2.1 dX11_fits_131 rfl ?_
    refine lv_icmp_ge (tgt := 169) E.1 E.2.1 dX11_fits_133 (by decide) (fun c29 => ?_) (fun c29 => ?_)
    · have hf := q_pos c29 hf
      refine lv_bipush (v := (-2)) E.1 E.2.1 dX11_fits_169 rfl ?_
      have hf := Option.some.inj hf
      subst hf
      exact q_iret E w hr hlk dX11_fits_171
    · have hf := q_neg c29 hf
      refine lv_aload_n E.1 E.2.1 dX11_fits_136 rfl (lv_at hl 0 rfl) ?_
      refine lv_iload E.1 E.2.1 dX11_fits_137 (lv_at hl 3 rfl) ?_
      obtain ⟨r31, hc30, hf⟩ := bd1_e hf
      refine k_Vi (As := [.int v7]) (rest := []) E w t_v0 ⟨by decide, rfl⟩ (X11_isSo_c t_v0 hc30) mv_RX11_465 rfl rfl hl.1 ⟨Nat.le_of_ble_eq_true rfl, Nat.le_of_ble_eq_true rfl⟩ (Nat.le_of_ble_eq_true rfl) ⟨Nat.le_refl _, Nat.le_refl _⟩ dX11_fits_139 (fun H locs w => ?_)
      refine lv_if_ne (tgt := 148) E.1 E.2.1 dX11_fits_142 (by decide) (fun c33 => ?_) (fun c33 => ?_)
      · have hf := q_neg c33 hf
        refine lv_iload E.1 E.2.1 dX11_fits_148 (lv_at hl 2 rfl) ?_
        refine lv_iload_n E.1 E.2.1 dX11_fits_150 rfl (lv_at hl 1 rfl) ?_
        refine lv_bipush (v := 10) E.1 E.2.1 dX11_fits_151 rfl ?_
        refine lv_isub E.1 E.2.1 dX11_fits_153 ?_
        refine lv_icmp_ne (tgt := 160) E.1 E.2.1 dX11_fits_154 (by decide) (fun c34 => ?_) (fun c34 => ?_)
        · have hf := q_neg c34 hf
          refine lv_iinc (v := v6 + 1) (lv' := [(6, .int (v6 + 1)), (0, .ref (ad G v0)), (3, .int v3), (7, .int v7)]) E.1 E.2.1 dX11_fits_160 hl (k := 2) rfl rfl (by decide) rfl (fun ls hl => ?_)
          refine lv_iinc (v := v7 + 1) (lv' := [(7, .int (v7 + 1)), (6, .int (v6 + 1)), (0, .ref (ad G v0)), (3, .int v3)]) E.1 E.2.1 dX11_fits_163 hl (k := 3) rfl rfl (by decide) rfl (fun ls hl => ?_)
          refine lv_goto (tgt := 129) E.1 E.2.1 dX11_fits_166 (by decide) ?_
          exact ih _ _ _ _ _ _ _ _ hf w t_v0 (lv_sub hl [2, 3, 1, 0] rfl)
        · have hf := q_pos c34 hf
          refine lv_iload E.1 E.2.1 dX11_fits_157 (lv_at hl 3 rfl) ?_
          have hf := Option.some.inj hf
          subst hf
          exact q_iret E w hr hlk dX11_fits_159
      · have hf := q_pos c33 hf
        refine lv_goto (tgt := 163) E.1 E.2.1 dX11_fits_145 (by decide) ?_
        refine lv_iinc (v := v7 + 1) (lv' := [(7, .int (v7 + 1)), (0, .ref (ad G v0)), (3, .int v3), (6, .int v6)]) E.1 E.2.1 dX11_fits_163 hl (k := 3) rfl rfl (by decide) rfl (fun ls hl => ?_)
        refine lv_goto (tgt := 129) E.1 E.2.1 dX11_fits_166 (by decide) ?_
        exact ih _ _ _ _ _ _ _ _ hf w t_v0 (lv_sub hl [1, 2, 3, 0] rfl)

def X11_fits_b71 (N : Nat) (h : HS) (v0 : Nat) (v3 : Int32) (v4 : Int32) (v5 : Int32) : Option (Int32 × HS) := (if v3 = 0 then some (v4, h) else (if v3 = 1 then (if v4 = (1 : Int32) then some (v5, h) else some ((-1), h)) else (if v3 = 2 then bd1 (X11_askOf N h v0 v4) fun r27 => some (r27, h) else X11_fits_l129 N N h v0 v3 0 0)))
set_option maxRecDepth 4000 in
set_option maxHeartbeats 2000000 in
theorem X11_fits_b71_w {p : Program} {l : Launch} {e : Env} {s : State} {m : MethodId} {args : Array Value} {below : List Frame} {meth : Method} {c : Code} {G : GT} {N : Nat} {z : (Int32 × HS)} {h : HS} (E : CallFix p m c cX11_fits 8 s args UW RX11) (hr : meth.sig.returnType = (some .int)) (hlk : meth.locks = false) {H : Heap} {locs : List Loc} {ls : Array Slot} {v0 : Nat} {v3 : Int32} {v4 : Int32} {v5 : Int32} (hf : X11_fits_b71 N h v0 v3 v4 v5 = some z) (w : WD G s h H locs) (t_v0 : sh v0 = 11) (hl : lv_has ls 8 [(0, .ref (ad G v0)), (3, .int v3), (4, .int v4), (5, .int v5)]) : W p l e ({ frames := 7, cells := 0, slots := 0, locals := 156 } : Room) s m args below meth c H locs 0 0 (MQ below (QC G (some (.int z.1)) z.2) args s 0 0 (AD G)) (F0 m 71 ls []) := by
  unfold X11_fits_b71 at hf
  refine lv_iload_n E.1 E.2.1 dX11_fits_71 rfl (lv_at hl 1 rfl) ?_
  by_cases c22 : v3 = 0
  · have hf := q_pos c22 hf
    refine lv_tableIn (off := 28) (tgt := 100) E.1 E.2.1 dX11_fits_72 (by rw [c22]; decide) (by rw [c22]; decide) (by rw [c22]; rfl) (by decide) ?_
    refine lv_iload E.1 E.2.1 dX11_fits_100 (lv_at hl 2 rfl) ?_
    have hf := Option.some.inj hf
    subst hf
    exact q_iret E w hr hlk dX11_fits_102
  have hf := q_neg c22 hf
  by_cases c23 : v3 = 1
  · have hf := q_pos c23 hf
    refine lv_tableIn (off := 31) (tgt := 103) E.1 E.2.1 dX11_fits_72 (by rw [c23]; decide) (by rw [c23]; decide) (by rw [c23]; rfl) (by decide) ?_
    refine lv_iload E.1 E.2.1 dX11_fits_103 (lv_at hl 2 rfl) ?_
    refine lv_iconst (v := 1) E.1 E.2.1 dX11_fits_105 rfl ?_
    refine lv_icmp_ne (tgt := 114) E.1 E.2.1 dX11_fits_106 (by decide) (fun c24 => ?_) (fun c24 => ?_)
    · have hf := q_neg c24 hf
      refine lv_iconst (v := (-1)) E.1 E.2.1 dX11_fits_114 rfl ?_
      have hf := Option.some.inj hf
      subst hf
      exact q_iret E w hr hlk dX11_fits_115
    · have hf := q_pos c24 hf
      refine lv_iload E.1 E.2.1 dX11_fits_109 (lv_at hl 3 rfl) ?_
      refine lv_goto (tgt := 115) E.1 E.2.1 dX11_fits_111 (by decide) ?_
      have hf := Option.some.inj hf
      subst hf
      exact q_iret E w hr hlk dX11_fits_115
  have hf := q_neg c23 hf
  by_cases c25 : v3 = 2
  · have hf := q_pos c25 hf
    refine lv_tableIn (off := 44) (tgt := 116) E.1 E.2.1 dX11_fits_72 (by rw [c25]; decide) (by rw [c25]; decide) (by rw [c25]; rfl) (by decide) ?_
    refine lv_aload_n E.1 E.2.1 dX11_fits_116 rfl (lv_at hl 0 rfl) ?_
    refine lv_iload E.1 E.2.1 dX11_fits_117 (lv_at hl 2 rfl) ?_
    obtain ⟨r27, hc26, hf⟩ := bd1_e hf
    refine k_Vi (As := [.int v4]) (rest := []) E w t_v0 ⟨by decide, rfl⟩ (X11_askOf_c t_v0 hc26) mv_RX11_474 rfl rfl hl.1 ⟨Nat.le_of_ble_eq_true rfl, Nat.le_of_ble_eq_true rfl⟩ (Nat.le_of_ble_eq_true rfl) ⟨Nat.le_refl _, Nat.le_refl _⟩ dX11_fits_119 (fun H locs w => ?_)
    have hf := Option.some.inj hf
    subst hf
    exact q_iret E w hr hlk dX11_fits_122
  have hf := q_neg c25 hf
  refine lv_tableOut (tgt := 123) E.1 E.2.1 dX11_fits_72 (by have := ne_i c22 (z := 0) (by decide); have := ne_i c23 (z := 1) (by decide); have := ne_i c25 (z := 2) (by decide); omega) (by decide) ?_
  refine lv_iconst (v := 0) E.1 E.2.1 dX11_fits_123 rfl ?_
  refine lv_istore (lv' := [(6, .int 0), (0, .ref (ad G v0)), (3, .int v3), (4, .int v4), (5, .int v5)]) E.1 E.2.1 dX11_fits_124 hl (by decide) rfl (fun ls hl => ?_)
  refine lv_iconst (v := 0) E.1 E.2.1 dX11_fits_126 rfl ?_
  refine lv_istore (lv' := [(7, .int 0), (6, .int 0), (0, .ref (ad G v0)), (3, .int v3), (4, .int v4), (5, .int v5)]) E.1 E.2.1 dX11_fits_127 hl (by decide) rfl (fun ls hl => ?_)
  exact X11_fits_l129_w E hr hlk N _ _ _ _ _ _ _ _ hf w t_v0 (lv_sub hl [2, 3, 1, 0] rfl)

def X11_fits_l49 (N : Nat) : Nat → HS → Nat → Int32 → Int32 → Int32 → Option (Int32 × HS)
  | 0, _, _, _, _, _ => none
  | n + 1, h, v0, v3, v4, v5 => (if (6 : Int32) ≤ v5 then X11_fits_b71 N h v0 v3 v4 v5 else bd1 (X11_isSo N h v0 v5) fun r36 => (if r36 = 0 then X11_fits_l49 N n h v0 v3 v4 (v5 + 1) else X11_fits_b71 N h v0 v3 v4 v5))
set_option maxRecDepth 4000 in
set_option maxHeartbeats 2000000 in
theorem X11_fits_l49_w {p : Program} {l : Launch} {e : Env} {s : State} {m : MethodId} {args : Array Value} {below : List Frame} {meth : Method} {c : Code} {G : GT} {N : Nat} {z : (Int32 × HS)} (E : CallFix p m c cX11_fits 8 s args UW RX11) (hr : meth.sig.returnType = (some .int)) (hlk : meth.locks = false) : ∀ (n : Nat) (h : HS) (H : Heap) (locs : List Loc) (ls : Array Slot) (v0 : Nat) (v3 : Int32) (v4 : Int32) (v5 : Int32), X11_fits_l49 N n h v0 v3 v4 v5 = some z → WD G s h H locs → sh v0 = 11 → lv_has ls 8 [(0, .ref (ad G v0)), (3, .int v3), (4, .int v4), (5, .int v5)] → W p l e ({ frames := 7, cells := 0, slots := 0, locals := 156 } : Room) s m args below meth c H locs 0 0 (MQ below (QC G (some (.int z.1)) z.2) args s 0 0 (AD G)) (F0 m 49 ls []) := by
  intro n
  induction n with
  | zero =>
    intro h H locs ls v0 v3 v4 v5 hf
    cases hf
  | succ n ih =>
    intro h H locs ls v0 v3 v4 v5 hf w t_v0 hl
    unfold X11_fits_l49 at hf
    refine lv_iload E.1 E.2.1 dX11_fits_49 (lv_at hl 3 rfl) ?_
    refine lv_bipush (v := 6) E.1 E.2.1 dX11_fits_51 rfl ?_
    refine lv_icmp_ge (tgt := 71) E.1 E.2.1 dX11_fits_53 (by decide) (fun c21 => ?_) (fun c21 => ?_)
    · have hf := q_pos c21 hf
      exact X11_fits_b71_w E hr hlk hf w t_v0 (lv_sub hl [0, 1, 2, 3] rfl)
    · have hf := q_neg c21 hf
      refine lv_aload_n E.1 E.2.1 dX11_fits_56 rfl (lv_at hl 0 rfl) ?_
      refine lv_iload E.1 E.2.1 dX11_fits_57 (lv_at hl 3 rfl) ?_
      obtain ⟨r36, hc35, hf⟩ := bd1_e hf
      refine k_Vi (As := [.int v5]) (rest := []) E w t_v0 ⟨by decide, rfl⟩ (X11_isSo_c t_v0 hc35) mv_RX11_465 rfl rfl hl.1 ⟨Nat.le_of_ble_eq_true rfl, Nat.le_of_ble_eq_true rfl⟩ (Nat.le_of_ble_eq_true rfl) ⟨Nat.le_refl _, Nat.le_refl _⟩ dX11_fits_59 (fun H locs w => ?_)
      refine lv_if_ne (tgt := 71) E.1 E.2.1 dX11_fits_62 (by decide) (fun c38 => ?_) (fun c38 => ?_)
      · have hf := q_neg c38 hf
        exact X11_fits_b71_w E hr hlk hf w t_v0 (lv_sub hl [0, 1, 2, 3] rfl)
      · have hf := q_pos c38 hf
        refine lv_iinc (v := v5 + 1) (lv' := [(5, .int (v5 + 1)), (0, .ref (ad G v0)), (3, .int v3), (4, .int v4)]) E.1 E.2.1 dX11_fits_65 hl (k := 3) rfl rfl (by decide) rfl (fun ls hl => ?_)
        refine lv_goto (tgt := 49) E.1 E.2.1 dX11_fits_68 (by decide) ?_
        exact ih _ _ _ _ _ _ _ _ hf w t_v0 (lv_sub hl [1, 2, 3, 0] rfl)

def X11_fits (N : Nat) (h : HS) (v0 : Nat) (v1 : Int32) (v2 : Int32) (v3 : Int32) : Option (Int32 × HS) := bd2 (X11_isHouse N h v0 v1) fun r2 h3 => (if r2 = 0 then some ((-2), h3) else bd2 (X11_areMornings N h3 v0 v2) fun r6 h7 => (if r6 = 0 then some ((-2), h7) else bd2 (X11_areDreams N h7 v0) fun r10 h11 => (if r10 = 0 then some ((-2), h11) else (if v3 < 0 then some ((-2), h11) else bd1 (X11_isIn N h11 v3 3 9) fun r15 => (if r15 = 0 then bd1 (X11_manyFit N h11 v0) fun r19 => X11_fits_l49 N N h11 v0 v3 r19 0 else some ((-2), h11))))))
set_option maxRecDepth 4000 in
set_option maxHeartbeats 2000000 in
theorem X11_fits_c {l : Launch} {G : GT} {N : Nat} {h : HS} {v0 : Nat} {v1 : Int32} {v2 : Int32} {v3 : Int32} {z : (Int32 × HS)} (t_v0 : sh v0 = 11) (hf : X11_fits N h v0 v1 v2 v3 = some z) : CT l G yX11_fits cX11_fits 8 (some .int) 7 156 [.ref (ad G v0), .int v1, .int v2, .int v3] h (some (.int z.1)) z.2 := by
  unfold X11_fits at hf
  refine CT.of (by decide) (Nat.le_of_ble_eq_true rfl) ?_
  intro p e s m below meth c ls E hr hlk w hl
  have hl : lv_has ls 8 [(0, .ref (ad G v0)), (1, .int v1), (2, .int v2), (3, .int v3)] := hl
  refine lv_aload_n E.1 E.2.1 dX11_fits_0 rfl (lv_at hl 0 rfl) ?_
  refine lv_iload_n E.1 E.2.1 dX11_fits_1 rfl (lv_at hl 1 rfl) ?_
  obtain ⟨r2, h3, hc1, hf⟩ := bd2_e hf
  refine k_Vi (As := [.int v1]) (rest := []) E w t_v0 ⟨by decide, rfl⟩ (X11_isHouse_c t_v0 hc1) mv_RX11_197 rfl rfl hl.1 ⟨Nat.le_of_ble_eq_true rfl, Nat.le_of_ble_eq_true rfl⟩ (Nat.le_of_ble_eq_true rfl) ⟨Nat.le_refl _, Nat.le_refl _⟩ dX11_fits_2 (fun H locs w => ?_)
  refine lv_if_eq (tgt := 37) E.1 E.2.1 dX11_fits_5 (by decide) (fun c4 => ?_) (fun c4 => ?_)
  · have hf := q_pos c4 hf
    refine lv_bipush (v := (-2)) E.1 E.2.1 dX11_fits_37 rfl ?_
    have hf := Option.some.inj hf
    subst hf
    exact q_iret E w hr hlk dX11_fits_39
  · have hf := q_neg c4 hf
    refine lv_aload_n E.1 E.2.1 dX11_fits_8 rfl (lv_at hl 0 rfl) ?_
    refine lv_iload_n E.1 E.2.1 dX11_fits_9 rfl (lv_at hl 2 rfl) ?_
    obtain ⟨r6, h7, hc5, hf⟩ := bd2_e hf
    refine k_Vi (As := [.int v2]) (rest := []) E w t_v0 ⟨by decide, rfl⟩ (X11_areMornings_c t_v0 hc5) mv_RX11_462 rfl rfl hl.1 ⟨Nat.le_of_ble_eq_true rfl, Nat.le_of_ble_eq_true rfl⟩ (Nat.le_of_ble_eq_true rfl) ⟨Nat.le_refl _, Nat.le_refl _⟩ dX11_fits_10 (fun H locs w => ?_)
    refine lv_if_eq (tgt := 37) E.1 E.2.1 dX11_fits_13 (by decide) (fun c8 => ?_) (fun c8 => ?_)
    · have hf := q_pos c8 hf
      refine lv_bipush (v := (-2)) E.1 E.2.1 dX11_fits_37 rfl ?_
      have hf := Option.some.inj hf
      subst hf
      exact q_iret E w hr hlk dX11_fits_39
    · have hf := q_neg c8 hf
      refine lv_aload_n E.1 E.2.1 dX11_fits_16 rfl (lv_at hl 0 rfl) ?_
      obtain ⟨r10, h11, hc9, hf⟩ := bd2_e hf
      refine k_Vi (As := []) (rest := []) E w t_v0 ⟨by decide, rfl⟩ (X11_areDreams_c t_v0 hc9) mv_RX11_468 rfl rfl hl.1 ⟨Nat.le_of_ble_eq_true rfl, Nat.le_of_ble_eq_true rfl⟩ (Nat.le_of_ble_eq_true rfl) ⟨Nat.le_refl _, Nat.le_refl _⟩ dX11_fits_17 (fun H locs w => ?_)
      refine lv_if_eq (tgt := 37) E.1 E.2.1 dX11_fits_20 (by decide) (fun c12 => ?_) (fun c12 => ?_)
      · have hf := q_pos c12 hf
        refine lv_bipush (v := (-2)) E.1 E.2.1 dX11_fits_37 rfl ?_
        have hf := Option.some.inj hf
        subst hf
        exact q_iret E w hr hlk dX11_fits_39
      · have hf := q_neg c12 hf
        refine lv_iload_n E.1 E.2.1 dX11_fits_23 rfl (lv_at hl 3 rfl) ?_
        refine lv_if_lt (tgt := 37) E.1 E.2.1 dX11_fits_24 (by decide) (fun c13 => ?_) (fun c13 => ?_)
        · have hf := q_pos c13 hf
          refine lv_bipush (v := (-2)) E.1 E.2.1 dX11_fits_37 rfl ?_
          have hf := Option.some.inj hf
          subst hf
          exact q_iret E w hr hlk dX11_fits_39
        · have hf := q_neg c13 hf
          refine lv_iload_n E.1 E.2.1 dX11_fits_27 rfl (lv_at hl 3 rfl) ?_
          refine lv_iconst (v := 3) E.1 E.2.1 dX11_fits_28 rfl ?_
          refine lv_bipush (v := 9) E.1 E.2.1 dX11_fits_29 rfl ?_
          obtain ⟨r15, hc14, hf⟩ := bd1_e hf
          refine k_Si (As := [.int v3, .int 3, .int 9]) (rest := []) E w (X11_isIn_c  hc14) ms_RX11_123 rfl rfl hl.1 ⟨Nat.le_of_ble_eq_true rfl, Nat.le_of_ble_eq_true rfl⟩ (Nat.le_of_ble_eq_true rfl) ⟨Nat.le_refl _, Nat.le_refl _⟩ dX11_fits_31 (fun H locs w => ?_)
          refine lv_if_eq (tgt := 40) E.1 E.2.1 dX11_fits_34 (by decide) (fun c17 => ?_) (fun c17 => ?_)
          · have hf := q_pos c17 hf
            refine lv_aload_n E.1 E.2.1 dX11_fits_40 rfl (lv_at hl 0 rfl) ?_
            obtain ⟨r19, hc18, hf⟩ := bd1_e hf
            refine k_Vi (As := []) (rest := []) E w t_v0 ⟨by decide, rfl⟩ (X11_manyFit_c t_v0 hc18) mv_RX11_471 rfl rfl hl.1 ⟨Nat.le_of_ble_eq_true rfl, Nat.le_of_ble_eq_true rfl⟩ (Nat.le_of_ble_eq_true rfl) ⟨Nat.le_refl _, Nat.le_refl _⟩ dX11_fits_41 (fun H locs w => ?_)
            refine lv_istore (lv' := [(4, .int r19), (0, .ref (ad G v0)), (1, .int v1), (2, .int v2), (3, .int v3)]) E.1 E.2.1 dX11_fits_44 hl (by decide) rfl (fun ls hl => ?_)
            refine lv_iconst (v := 0) E.1 E.2.1 dX11_fits_46 rfl ?_
            refine lv_istore (lv' := [(5, .int 0), (4, .int r19), (0, .ref (ad G v0)), (1, .int v1), (2, .int v2), (3, .int v3)]) E.1 E.2.1 dX11_fits_47 hl (by decide) rfl (fun ls hl => ?_)
            exact X11_fits_l49_w E hr hlk N _ _ _ _ _ _ _ _ hf w t_v0 (lv_sub hl [2, 5, 1, 0] rfl)
          · have hf := q_neg c17 hf
            refine lv_bipush (v := (-2)) E.1 E.2.1 dX11_fits_37 rfl ?_
            have hf := Option.some.inj hf
            subst hf
            exact q_iret E w hr hlk dX11_fits_39

def X11_odds_b47 (N : Nat) (h : HS) (v0 : Nat) (v3 : Int32) (v4 : Int32) : Option (Int64 × HS) := bd1 (X11_isSo N h v0 v3) fun r19 => (if r19 = 0 then (if v4 = 0 then bd1 (X11_isSo N h v0 v3) fun r24 => (if r24 = 0 then some (0, h) else some (1, h)) else some (1, h)) else bd1 (X11_manyFit N h v0) fun r28 => (if v4 = 0 then bd1 (X11_isSo N h v0 v3) fun r32 => (if r32 = 0 then some (0, h) else some (1, h)) else some (r28.toInt64, h)))
set_option maxRecDepth 4000 in
set_option maxHeartbeats 2000000 in
theorem X11_odds_b47_w {p : Program} {l : Launch} {e : Env} {s : State} {m : MethodId} {args : Array Value} {below : List Frame} {meth : Method} {c : Code} {G : GT} {N : Nat} {z : (Int64 × HS)} {h : HS} (E : CallFix p m c cX11_odds 7 s args UW RX11) (hr : meth.sig.returnType = (some .long)) (hlk : meth.locks = false) {H : Heap} {locs : List Loc} {ls : Array Slot} {v0 : Nat} {v3 : Int32} {v4 : Int32} (hf : X11_odds_b47 N h v0 v3 v4 = some z) (w : WD G s h H locs) (t_v0 : sh v0 = 11) (hl : lv_has ls 7 [(0, .ref (ad G v0)), (3, .int v3), (4, .int v4)]) : W p l e ({ frames := 7, cells := 0, slots := 0, locals := 156 } : Room) s m args below meth c H locs 0 0 (MQ below (QC G (some (.long z.1)) z.2) args s 0 0 (AD G)) (F0 m 47 ls []) := by
  unfold X11_odds_b47 at hf
  refine lv_aload_n E.1 E.2.1 dX11_odds_47 rfl (lv_at hl 0 rfl) ?_
  refine lv_iload_n E.1 E.2.1 dX11_odds_48 rfl (lv_at hl 1 rfl) ?_
  obtain ⟨r19, hc18, hf⟩ := bd1_e hf
  refine k_Vi (As := [.int v3]) (rest := []) E w t_v0 ⟨by decide, rfl⟩ (X11_isSo_c t_v0 hc18) mv_RX11_465 rfl rfl hl.1 ⟨Nat.le_of_ble_eq_true rfl, Nat.le_of_ble_eq_true rfl⟩ (Nat.le_of_ble_eq_true rfl) ⟨Nat.le_refl _, Nat.le_refl _⟩ dX11_odds_49 (fun H locs w => ?_)
  refine lv_if_eq (tgt := 63) E.1 E.2.1 dX11_odds_52 (by decide) (fun c21 => ?_) (fun c21 => ?_)
  · have hf := q_pos c21 hf
    refine lv_lconst (v := 1) E.1 E.2.1 dX11_odds_63 rfl ?_
    refine lv_lstore (lv' := [(5, .long 1), (0, .ref (ad G v0)), (3, .int v3), (4, .int v4)]) E.1 E.2.1 dX11_odds_64 hl (by decide) rfl (fun ls hl => ?_)
    refine lv_iload E.1 E.2.1 dX11_odds_66 (lv_at hl 3 rfl) ?_
    refine lv_if_eq (tgt := 76) E.1 E.2.1 dX11_odds_68 (by decide) (fun c22 => ?_) (fun c22 => ?_)
    · have hf := q_pos c22 hf
      refine lv_aload_n E.1 E.2.1 dX11_odds_76 rfl (lv_at hl 1 rfl) ?_
      refine lv_iload_n E.1 E.2.1 dX11_odds_77 rfl (lv_at hl 2 rfl) ?_
      obtain ⟨r24, hc23, hf⟩ := bd1_e hf
      refine k_Vi (As := [.int v3]) (rest := []) E w t_v0 ⟨by decide, rfl⟩ (X11_isSo_c t_v0 hc23) mv_RX11_465 rfl rfl hl.1 ⟨Nat.le_of_ble_eq_true rfl, Nat.le_of_ble_eq_true rfl⟩ (Nat.le_of_ble_eq_true rfl) ⟨Nat.le_refl _, Nat.le_refl _⟩ dX11_odds_78 (fun H locs w => ?_)
      refine lv_if_eq (tgt := 88) E.1 E.2.1 dX11_odds_81 (by decide) (fun c26 => ?_) (fun c26 => ?_)
      · have hf := q_pos c26 hf
        refine lv_lconst (v := 0) E.1 E.2.1 dX11_odds_88 rfl ?_
        have hf := Option.some.inj hf
        subst hf
        exact q_lret E w hr hlk dX11_odds_89
      · have hf := q_neg c26 hf
        refine lv_lconst (v := 1) E.1 E.2.1 dX11_odds_84 rfl ?_
        refine lv_goto (tgt := 89) E.1 E.2.1 dX11_odds_85 (by decide) ?_
        have hf := Option.some.inj hf
        subst hf
        exact q_lret E w hr hlk dX11_odds_89
    · have hf := q_neg c22 hf
      refine lv_lload E.1 E.2.1 dX11_odds_71 (lv_at hl 0 rfl) ?_
      refine lv_goto (tgt := 89) E.1 E.2.1 dX11_odds_73 (by decide) ?_
      have hf := Option.some.inj hf
      subst hf
      exact q_lret E w hr hlk dX11_odds_89
  · have hf := q_neg c21 hf
    refine lv_aload_n E.1 E.2.1 dX11_odds_55 rfl (lv_at hl 0 rfl) ?_
    obtain ⟨r28, hc27, hf⟩ := bd1_e hf
    refine k_Vi (As := []) (rest := []) E w t_v0 ⟨by decide, rfl⟩ (X11_manyFit_c t_v0 hc27) mv_RX11_471 rfl rfl hl.1 ⟨Nat.le_of_ble_eq_true rfl, Nat.le_of_ble_eq_true rfl⟩ (Nat.le_of_ble_eq_true rfl) ⟨Nat.le_refl _, Nat.le_refl _⟩ dX11_odds_56 (fun H locs w => ?_)
    refine lv_i2l (v := r28.toInt64) E.1 E.2.1 dX11_odds_59 rfl ?_
    refine lv_goto (tgt := 64) E.1 E.2.1 dX11_odds_60 (by decide) ?_
    refine lv_lstore (lv' := [(5, .long r28.toInt64), (0, .ref (ad G v0)), (3, .int v3), (4, .int v4)]) E.1 E.2.1 dX11_odds_64 hl (by decide) rfl (fun ls hl => ?_)
    refine lv_iload E.1 E.2.1 dX11_odds_66 (lv_at hl 3 rfl) ?_
    refine lv_if_eq (tgt := 76) E.1 E.2.1 dX11_odds_68 (by decide) (fun c30 => ?_) (fun c30 => ?_)
    · have hf := q_pos c30 hf
      refine lv_aload_n E.1 E.2.1 dX11_odds_76 rfl (lv_at hl 1 rfl) ?_
      refine lv_iload_n E.1 E.2.1 dX11_odds_77 rfl (lv_at hl 2 rfl) ?_
      obtain ⟨r32, hc31, hf⟩ := bd1_e hf
      refine k_Vi (As := [.int v3]) (rest := []) E w t_v0 ⟨by decide, rfl⟩ (X11_isSo_c t_v0 hc31) mv_RX11_465 rfl rfl hl.1 ⟨Nat.le_of_ble_eq_true rfl, Nat.le_of_ble_eq_true rfl⟩ (Nat.le_of_ble_eq_true rfl) ⟨Nat.le_refl _, Nat.le_refl _⟩ dX11_odds_78 (fun H locs w => ?_)
      refine lv_if_eq (tgt := 88) E.1 E.2.1 dX11_odds_81 (by decide) (fun c34 => ?_) (fun c34 => ?_)
      · have hf := q_pos c34 hf
        refine lv_lconst (v := 0) E.1 E.2.1 dX11_odds_88 rfl ?_
        have hf := Option.some.inj hf
        subst hf
        exact q_lret E w hr hlk dX11_odds_89
      · have hf := q_neg c34 hf
        refine lv_lconst (v := 1) E.1 E.2.1 dX11_odds_84 rfl ?_
        refine lv_goto (tgt := 89) E.1 E.2.1 dX11_odds_85 (by decide) ?_
        have hf := Option.some.inj hf
        subst hf
        exact q_lret E w hr hlk dX11_odds_89
    · have hf := q_neg c30 hf
      refine lv_lload E.1 E.2.1 dX11_odds_71 (lv_at hl 0 rfl) ?_
      refine lv_goto (tgt := 89) E.1 E.2.1 dX11_odds_73 (by decide) ?_
      have hf := Option.some.inj hf
      subst hf
      exact q_lret E w hr hlk dX11_odds_89

def X11_odds (N : Nat) (h : HS) (v0 : Nat) (v1 : Int32) (v2 : Int32) (v3 : Int32) (v4 : Int32) : Option (Int64 × HS) := bd2 (X11_isHouse N h v0 v1) fun r2 h3 => (if r2 = 0 then some ((-1), h3) else bd2 (X11_areMornings N h3 v0 v2) fun r6 h7 => (if r6 = 0 then some ((-1), h7) else bd2 (X11_areDreams N h7 v0) fun r10 h11 => (if r10 = 0 then some ((-1), h11) else bd1 (X11_manyFit N h11 v0) fun r14 => (if r14 = 0 then some ((-1), h11) else (if v3 = (5 : Int32) then X11_odds_b47 N h11 v0 v3 v4 else bd1 (X11_isSinger N h11 v0 v3) fun r36 => (if r36 = 0 then some ((-1), h11) else X11_odds_b47 N h11 v0 v3 v4))))))
set_option maxRecDepth 4000 in
set_option maxHeartbeats 2000000 in
theorem X11_odds_c {l : Launch} {G : GT} {N : Nat} {h : HS} {v0 : Nat} {v1 : Int32} {v2 : Int32} {v3 : Int32} {v4 : Int32} {z : (Int64 × HS)} (t_v0 : sh v0 = 11) (hf : X11_odds N h v0 v1 v2 v3 v4 = some z) : CT l G yX11_odds cX11_odds 7 (some .long) 7 156 [.ref (ad G v0), .int v1, .int v2, .int v3, .int v4] h (some (.long z.1)) z.2 := by
  unfold X11_odds at hf
  refine CT.of (by decide) (Nat.le_of_ble_eq_true rfl) ?_
  intro p e s m below meth c ls E hr hlk w hl
  have hl : lv_has ls 7 [(0, .ref (ad G v0)), (1, .int v1), (2, .int v2), (3, .int v3), (4, .int v4)] := hl
  refine lv_aload_n E.1 E.2.1 dX11_odds_0 rfl (lv_at hl 0 rfl) ?_
  refine lv_iload_n E.1 E.2.1 dX11_odds_1 rfl (lv_at hl 1 rfl) ?_
  obtain ⟨r2, h3, hc1, hf⟩ := bd2_e hf
  refine k_Vi (As := [.int v1]) (rest := []) E w t_v0 ⟨by decide, rfl⟩ (X11_isHouse_c t_v0 hc1) mv_RX11_197 rfl rfl hl.1 ⟨Nat.le_of_ble_eq_true rfl, Nat.le_of_ble_eq_true rfl⟩ (Nat.le_of_ble_eq_true rfl) ⟨Nat.le_refl _, Nat.le_refl _⟩ dX11_odds_2 (fun H locs w => ?_)
  refine lv_if_eq (tgt := 43) E.1 E.2.1 dX11_odds_5 (by decide) (fun c4 => ?_) (fun c4 => ?_)
  · have hf := q_pos c4 hf
    refine lv_ldc2 (v := (-1)) E.1 E.2.1 E.2.2.2.1 (E.2.2.2.2 _ ct_RX11_301) dX11_odds_43 ?_
    have hf := Option.some.inj hf
    subst hf
    exact q_lret E w hr hlk dX11_odds_46
  · have hf := q_neg c4 hf
    refine lv_aload_n E.1 E.2.1 dX11_odds_8 rfl (lv_at hl 0 rfl) ?_
    refine lv_iload_n E.1 E.2.1 dX11_odds_9 rfl (lv_at hl 2 rfl) ?_
    obtain ⟨r6, h7, hc5, hf⟩ := bd2_e hf
    refine k_Vi (As := [.int v2]) (rest := []) E w t_v0 ⟨by decide, rfl⟩ (X11_areMornings_c t_v0 hc5) mv_RX11_462 rfl rfl hl.1 ⟨Nat.le_of_ble_eq_true rfl, Nat.le_of_ble_eq_true rfl⟩ (Nat.le_of_ble_eq_true rfl) ⟨Nat.le_refl _, Nat.le_refl _⟩ dX11_odds_10 (fun H locs w => ?_)
    refine lv_if_eq (tgt := 43) E.1 E.2.1 dX11_odds_13 (by decide) (fun c8 => ?_) (fun c8 => ?_)
    · have hf := q_pos c8 hf
      refine lv_ldc2 (v := (-1)) E.1 E.2.1 E.2.2.2.1 (E.2.2.2.2 _ ct_RX11_301) dX11_odds_43 ?_
      have hf := Option.some.inj hf
      subst hf
      exact q_lret E w hr hlk dX11_odds_46
    · have hf := q_neg c8 hf
      refine lv_aload_n E.1 E.2.1 dX11_odds_16 rfl (lv_at hl 0 rfl) ?_
      obtain ⟨r10, h11, hc9, hf⟩ := bd2_e hf
      refine k_Vi (As := []) (rest := []) E w t_v0 ⟨by decide, rfl⟩ (X11_areDreams_c t_v0 hc9) mv_RX11_468 rfl rfl hl.1 ⟨Nat.le_of_ble_eq_true rfl, Nat.le_of_ble_eq_true rfl⟩ (Nat.le_of_ble_eq_true rfl) ⟨Nat.le_refl _, Nat.le_refl _⟩ dX11_odds_17 (fun H locs w => ?_)
      refine lv_if_eq (tgt := 43) E.1 E.2.1 dX11_odds_20 (by decide) (fun c12 => ?_) (fun c12 => ?_)
      · have hf := q_pos c12 hf
        refine lv_ldc2 (v := (-1)) E.1 E.2.1 E.2.2.2.1 (E.2.2.2.2 _ ct_RX11_301) dX11_odds_43 ?_
        have hf := Option.some.inj hf
        subst hf
        exact q_lret E w hr hlk dX11_odds_46
      · have hf := q_neg c12 hf
        refine lv_aload_n E.1 E.2.1 dX11_odds_23 rfl (lv_at hl 0 rfl) ?_
        obtain ⟨r14, hc13, hf⟩ := bd1_e hf
        refine k_Vi (As := []) (rest := []) E w t_v0 ⟨by decide, rfl⟩ (X11_manyFit_c t_v0 hc13) mv_RX11_471 rfl rfl hl.1 ⟨Nat.le_of_ble_eq_true rfl, Nat.le_of_ble_eq_true rfl⟩ (Nat.le_of_ble_eq_true rfl) ⟨Nat.le_refl _, Nat.le_refl _⟩ dX11_odds_24 (fun H locs w => ?_)
        refine lv_if_eq (tgt := 43) E.1 E.2.1 dX11_odds_27 (by decide) (fun c16 => ?_) (fun c16 => ?_)
        · have hf := q_pos c16 hf
          refine lv_ldc2 (v := (-1)) E.1 E.2.1 E.2.2.2.1 (E.2.2.2.2 _ ct_RX11_301) dX11_odds_43 ?_
          have hf := Option.some.inj hf
          subst hf
          exact q_lret E w hr hlk dX11_odds_46
        · have hf := q_neg c16 hf
          refine lv_iload_n E.1 E.2.1 dX11_odds_30 rfl (lv_at hl 3 rfl) ?_
          refine lv_iconst (v := 5) E.1 E.2.1 dX11_odds_31 rfl ?_
          refine lv_icmp_eq (tgt := 47) E.1 E.2.1 dX11_odds_32 (by decide) (fun c17 => ?_) (fun c17 => ?_)
          · have hf := q_pos c17 hf
            exact X11_odds_b47_w E hr hlk hf w t_v0 (lv_sub hl [0, 3, 4] rfl)
          · have hf := q_neg c17 hf
            refine lv_aload_n E.1 E.2.1 dX11_odds_35 rfl (lv_at hl 0 rfl) ?_
            refine lv_iload_n E.1 E.2.1 dX11_odds_36 rfl (lv_at hl 3 rfl) ?_
            obtain ⟨r36, hc35, hf⟩ := bd1_e hf
            refine k_Vi (As := [.int v3]) (rest := []) E w t_v0 ⟨by decide, rfl⟩ (X11_isSinger_c t_v0 hc35) mv_RX11_212 rfl rfl hl.1 ⟨Nat.le_of_ble_eq_true rfl, Nat.le_of_ble_eq_true rfl⟩ (Nat.le_of_ble_eq_true rfl) ⟨Nat.le_refl _, Nat.le_refl _⟩ dX11_odds_37 (fun H locs w => ?_)
            refine lv_if_ne (tgt := 47) E.1 E.2.1 dX11_odds_40 (by decide) (fun c38 => ?_) (fun c38 => ?_)
            · have hf := q_neg c38 hf
              exact X11_odds_b47_w E hr hlk hf w t_v0 (lv_sub hl [0, 3, 4] rfl)
            · have hf := q_pos c38 hf
              refine lv_ldc2 (v := (-1)) E.1 E.2.1 E.2.2.2.1 (E.2.2.2.2 _ ct_RX11_301) dX11_odds_43 ?_
              have hf := Option.some.inj hf
              subst hf
              exact q_lret E w hr hlk dX11_odds_46

def X11_below (N : Nat) (h : HS) (v0 : Nat) (v1 : Int32) : Option (Int32 × HS) := sq (wi h v0 50 (((h.1 v0 50) * 1103515245) + 12345)) fun h1 => (if v1 = 0 then none else some ((ush (h1.1 v0 50) 16) - (ush (h1.1 v0 50) 16) / v1 * v1, h1))
set_option maxRecDepth 4000 in
set_option maxHeartbeats 2000000 in
theorem X11_below_c {l : Launch} {G : GT} {N : Nat} {h : HS} {v0 : Nat} {v1 : Int32} {z : (Int32 × HS)} (t_v0 : sh v0 = 11) (hf : X11_below N h v0 v1 = some z) : CT l G yX11_below cX11_below 2 (some .int) 0 0 [.ref (ad G v0), .int v1] h (some (.int z.1)) z.2 := by
  unfold X11_below at hf
  refine CT.of (by decide) (Nat.le_of_ble_eq_true rfl) ?_
  intro p e s m below meth c ls E hr hlk w hl
  have hl : lv_has ls 2 [(0, .ref (ad G v0)), (1, .int v1)] := hl
  refine lv_aload_n E.1 E.2.1 dX11_below_0 rfl (lv_at hl 0 rfl) ?_
  refine lv_aload_n E.1 E.2.1 dX11_below_1 rfl (lv_at hl 0 rfl) ?_
  refine q_gi E w t_v0 fl_RX11_477 dX11_below_2 ?_
  refine lv_ldcw (v := 1103515245) E.1 E.2.1 E.2.2.2.1 (E.2.2.2.2 _ ct_RX11_480) dX11_below_5 ?_
  refine lv_imul E.1 E.2.1 dX11_below_8 ?_
  refine lv_sipush (v := 12345) E.1 E.2.1 dX11_below_9 rfl ?_
  refine lv_iadd E.1 E.2.1 dX11_below_12 ?_
  refine p_pi E w t_v0 fl_RX11_477 (fp_11_50 _) dX11_below_13 (fun h1 H locs eh w => ?_)
  have hf := sq_e eh hf
  clear eh
  refine lv_aload_n E.1 E.2.1 dX11_below_16 rfl (lv_at hl 0 rfl) ?_
  refine q_gi E w t_v0 fl_RX11_477 dX11_below_17 ?_
  refine lv_bipush (v := 16) E.1 E.2.1 dX11_below_20 rfl ?_
  refine lv_iushr (v := ush (h1.1 v0 50) 16) E.1 E.2.1 dX11_below_22 rfl ?_
  refine lv_iload_n E.1 E.2.1 dX11_below_23 rfl (lv_at hl 1 rfl) ?_
  obtain ⟨z2, hf⟩ := q_if hf
  refine lv_irem E.1 E.2.1 dX11_below_24 z2 ?_
  have hf := Option.some.inj hf
  subst hf
  exact q_iret E w hr hlk dX11_below_25

def X11_draws (N : Nat) (h : HS) (v0 : Nat) : Option HS := bd2 (X11_below N h v0 8) fun r2 h3 => (if r2 ≤ (5 : Int32) then (if (h3.1 v0 15) = 0 then some h3 else (if r2 = (5 : Int32) then bd2 (X11_below N h3 v0 2) fun r14 h15 => bd2 (X11_below N h15 v0 (h15.1 v0 15)) fun r17 h18 => bd2 (X11_does N h18 v0 (1 + r14) r17) fun r20 h21 => some h21 else bd2 (X11_below N h3 v0 (h3.1 v0 15)) fun r8 h9 => bd2 (X11_does N h9 v0 0 r8) fun r11 h12 => some h12)) else bd2 (X11_does N h3 v0 (r2 - 3) (-1)) fun r23 h24 => some h24)
set_option maxRecDepth 4000 in
set_option maxHeartbeats 2000000 in
theorem X11_draws_c {l : Launch} {G : GT} {N : Nat} {h : HS} {v0 : Nat} {z : HS} (t_v0 : sh v0 = 11) (hf : X11_draws N h v0 = some z) : CT l G yX11_draws cX11_draws 3 none 5 107 [.ref (ad G v0)] h none z := by
  unfold X11_draws at hf
  refine CT.of (by decide) (Nat.le_of_ble_eq_true rfl) ?_
  intro p e s m below meth c ls E hr hlk w hl
  have hl : lv_has ls 3 [(0, .ref (ad G v0))] := hl
  refine lv_aload_n E.1 E.2.1 dX11_draws_0 rfl (lv_at hl 0 rfl) ?_
  refine lv_bipush (v := 8) E.1 E.2.1 dX11_draws_1 rfl ?_
  obtain ⟨r2, h3, hc1, hf⟩ := bd2_e hf
  refine k_Vi (As := [.int 8]) (rest := []) E w t_v0 ⟨by decide, rfl⟩ (X11_below_c t_v0 hc1) mv_RX11_481 rfl rfl hl.1 ⟨Nat.le_of_ble_eq_true rfl, Nat.le_of_ble_eq_true rfl⟩ (Nat.le_of_ble_eq_true rfl) ⟨Nat.le_refl _, Nat.le_refl _⟩ dX11_draws_3 (fun H locs w => ?_)
  refine lv_istore_n (lv' := [(1, .int r2), (0, .ref (ad G v0))]) E.1 E.2.1 dX11_draws_6 rfl hl (by decide) rfl (fun ls hl => ?_)
  refine lv_iload_n E.1 E.2.1 dX11_draws_7 rfl (lv_at hl 0 rfl) ?_
  refine lv_iconst (v := 5) E.1 E.2.1 dX11_draws_8 rfl ?_
  refine lv_icmp_le (tgt := 22) E.1 E.2.1 dX11_draws_9 (by decide) (fun c4 => ?_) (fun c4 => ?_)
  · have hf := q_pos c4 hf
    refine lv_aload_n E.1 E.2.1 dX11_draws_22 rfl (lv_at hl 1 rfl) ?_
    refine q_gi E w t_v0 fl_RX11_191 dX11_draws_23 ?_
    refine lv_if_ne (tgt := 30) E.1 E.2.1 dX11_draws_26 (by decide) (fun c5 => ?_) (fun c5 => ?_)
    · have hf := q_neg c5 hf
      refine lv_iload_n E.1 E.2.1 dX11_draws_30 rfl (lv_at hl 0 rfl) ?_
      refine lv_iconst (v := 5) E.1 E.2.1 dX11_draws_31 rfl ?_
      refine lv_icmp_ne (tgt := 45) E.1 E.2.1 dX11_draws_32 (by decide) (fun c6 => ?_) (fun c6 => ?_)
      · have hf := q_neg c6 hf
        refine lv_iconst (v := 0) E.1 E.2.1 dX11_draws_45 rfl ?_
        refine lv_istore_n (lv' := [(2, .int 0), (1, .int r2), (0, .ref (ad G v0))]) E.1 E.2.1 dX11_draws_46 rfl hl (by decide) rfl (fun ls hl => ?_)
        refine lv_aload_n E.1 E.2.1 dX11_draws_47 rfl (lv_at hl 2 rfl) ?_
        refine lv_iload_n E.1 E.2.1 dX11_draws_48 rfl (lv_at hl 0 rfl) ?_
        refine lv_aload_n E.1 E.2.1 dX11_draws_49 rfl (lv_at hl 2 rfl) ?_
        refine lv_aload_n E.1 E.2.1 dX11_draws_50 rfl (lv_at hl 2 rfl) ?_
        refine q_gi E w t_v0 fl_RX11_191 dX11_draws_51 ?_
        obtain ⟨r8, h9, hc7, hf⟩ := bd2_e hf
        refine k_Vi (As := [.int (h3.1 v0 15)]) (rest := [.int 0, .ref (ad G v0)]) E w t_v0 ⟨by decide, rfl⟩ (X11_below_c t_v0 hc7) mv_RX11_481 rfl rfl hl.1 ⟨Nat.le_of_ble_eq_true rfl, Nat.le_of_ble_eq_true rfl⟩ (Nat.le_of_ble_eq_true rfl) ⟨Nat.le_refl _, Nat.le_refl _⟩ dX11_draws_54 (fun H locs w => ?_)
        obtain ⟨r11, h12, hc10, hf⟩ := bd2_e hf
        refine k_Vi (As := [.int 0, .int r8]) (rest := []) E w t_v0 ⟨by decide, rfl⟩ (X11_does_c t_v0 hc10) mv_RX11_444 rfl rfl hl.1 ⟨Nat.le_of_ble_eq_true rfl, Nat.le_of_ble_eq_true rfl⟩ (Nat.le_of_ble_eq_true rfl) ⟨Nat.le_refl _, Nat.le_refl _⟩ dX11_draws_57 (fun H locs w => ?_)
        refine lv_pop E.1 E.2.1 dX11_draws_60 rfl ?_
        have hf := Option.some.inj hf
        subst hf
        exact q_vret E w hr hlk dX11_draws_61
      · have hf := q_pos c6 hf
        refine lv_iconst (v := 1) E.1 E.2.1 dX11_draws_35 rfl ?_
        refine lv_aload_n E.1 E.2.1 dX11_draws_36 rfl (lv_at hl 1 rfl) ?_
        refine lv_iconst (v := 2) E.1 E.2.1 dX11_draws_37 rfl ?_
        obtain ⟨r14, h15, hc13, hf⟩ := bd2_e hf
        refine k_Vi (As := [.int 2]) (rest := [.int 1]) E w t_v0 ⟨by decide, rfl⟩ (X11_below_c t_v0 hc13) mv_RX11_481 rfl rfl hl.1 ⟨Nat.le_of_ble_eq_true rfl, Nat.le_of_ble_eq_true rfl⟩ (Nat.le_of_ble_eq_true rfl) ⟨Nat.le_refl _, Nat.le_refl _⟩ dX11_draws_38 (fun H locs w => ?_)
        refine lv_iadd E.1 E.2.1 dX11_draws_41 ?_
        refine lv_goto (tgt := 46) E.1 E.2.1 dX11_draws_42 (by decide) ?_
        refine lv_istore_n (lv' := [(2, .int (1 + r14)), (1, .int r2), (0, .ref (ad G v0))]) E.1 E.2.1 dX11_draws_46 rfl hl (by decide) rfl (fun ls hl => ?_)
        refine lv_aload_n E.1 E.2.1 dX11_draws_47 rfl (lv_at hl 2 rfl) ?_
        refine lv_iload_n E.1 E.2.1 dX11_draws_48 rfl (lv_at hl 0 rfl) ?_
        refine lv_aload_n E.1 E.2.1 dX11_draws_49 rfl (lv_at hl 2 rfl) ?_
        refine lv_aload_n E.1 E.2.1 dX11_draws_50 rfl (lv_at hl 2 rfl) ?_
        refine q_gi E w t_v0 fl_RX11_191 dX11_draws_51 ?_
        obtain ⟨r17, h18, hc16, hf⟩ := bd2_e hf
        refine k_Vi (As := [.int (h15.1 v0 15)]) (rest := [.int (1 + r14), .ref (ad G v0)]) E w t_v0 ⟨by decide, rfl⟩ (X11_below_c t_v0 hc16) mv_RX11_481 rfl rfl hl.1 ⟨Nat.le_of_ble_eq_true rfl, Nat.le_of_ble_eq_true rfl⟩ (Nat.le_of_ble_eq_true rfl) ⟨Nat.le_refl _, Nat.le_refl _⟩ dX11_draws_54 (fun H locs w => ?_)
        obtain ⟨r20, h21, hc19, hf⟩ := bd2_e hf
        refine k_Vi (As := [.int (1 + r14), .int r17]) (rest := []) E w t_v0 ⟨by decide, rfl⟩ (X11_does_c t_v0 hc19) mv_RX11_444 rfl rfl hl.1 ⟨Nat.le_of_ble_eq_true rfl, Nat.le_of_ble_eq_true rfl⟩ (Nat.le_of_ble_eq_true rfl) ⟨Nat.le_refl _, Nat.le_refl _⟩ dX11_draws_57 (fun H locs w => ?_)
        refine lv_pop E.1 E.2.1 dX11_draws_60 rfl ?_
        have hf := Option.some.inj hf
        subst hf
        exact q_vret E w hr hlk dX11_draws_61
    · have hf := q_pos c5 hf
      have hf := Option.some.inj hf
      subst hf
      exact q_vret E w hr hlk dX11_draws_29
  · have hf := q_neg c4 hf
    refine lv_aload_n E.1 E.2.1 dX11_draws_12 rfl (lv_at hl 1 rfl) ?_
    refine lv_iload_n E.1 E.2.1 dX11_draws_13 rfl (lv_at hl 0 rfl) ?_
    refine lv_iconst (v := 3) E.1 E.2.1 dX11_draws_14 rfl ?_
    refine lv_isub E.1 E.2.1 dX11_draws_15 ?_
    refine lv_iconst (v := (-1)) E.1 E.2.1 dX11_draws_16 rfl ?_
    obtain ⟨r23, h24, hc22, hf⟩ := bd2_e hf
    refine k_Vi (As := [.int (r2 - 3), .int (-1)]) (rest := []) E w t_v0 ⟨by decide, rfl⟩ (X11_does_c t_v0 hc22) mv_RX11_444 rfl rfl hl.1 ⟨Nat.le_of_ble_eq_true rfl, Nat.le_of_ble_eq_true rfl⟩ (Nat.le_of_ble_eq_true rfl) ⟨Nat.le_refl _, Nat.le_refl _⟩ dX11_draws_17 (fun H locs w => ?_)
    refine lv_pop E.1 E.2.1 dX11_draws_20 rfl ?_
    have hf := Option.some.inj hf
    subst hf
    exact q_vret E w hr hlk dX11_draws_21

def X11_drawn_l33 (N : Nat) : Nat → HS → Nat → Int32 → Int32 → Int32 → Option (Int32 × HS)
  | 0, _, _, _, _, _ => none
  | n + 1, h, v0, v3, v4, v5 => (if v3 ≤ v5 then bd1 (X11_nowOf N h v0 v4) fun r15 => some (r15, h) else bd1 (X11_draws N h v0) fun h19 => X11_drawn_l33 N n h19 v0 v3 v4 (v5 + 1))
set_option maxRecDepth 4000 in
set_option maxHeartbeats 2000000 in
theorem X11_drawn_l33_w {p : Program} {l : Launch} {e : Env} {s : State} {m : MethodId} {args : Array Value} {below : List Frame} {meth : Method} {c : Code} {G : GT} {N : Nat} {z : (Int32 × HS)} (E : CallFix p m c cX11_drawn 6 s args UW RX11) (hr : meth.sig.returnType = (some .int)) (hlk : meth.locks = false) : ∀ (n : Nat) (h : HS) (H : Heap) (locs : List Loc) (ls : Array Slot) (v0 : Nat) (v3 : Int32) (v4 : Int32) (v5 : Int32), X11_drawn_l33 N n h v0 v3 v4 v5 = some z → WD G s h H locs → sh v0 = 11 → lv_has ls 6 [(0, .ref (ad G v0)), (3, .int v3), (4, .int v4), (5, .int v5)] → W p l e ({ frames := 6, cells := 0, slots := 0, locals := 129 } : Room) s m args below meth c H locs 0 0 (MQ below (QC G (some (.int z.1)) z.2) args s 0 0 (AD G)) (F0 m 33 ls []) := by
  intro n
  induction n with
  | zero =>
    intro h H locs ls v0 v3 v4 v5 hf
    cases hf
  | succ n ih =>
    intro h H locs ls v0 v3 v4 v5 hf w t_v0 hl
    unfold X11_drawn_l33 at hf
    refine lv_iload E.1 E.2.1 dX11_drawn_33 (lv_at hl 3 rfl) ?_
    refine lv_iload_n E.1 E.2.1 dX11_drawn_35 rfl (lv_at hl 1 rfl) ?_
    refine lv_icmp_ge (tgt := 49) E.1 E.2.1 dX11_drawn_36 (by decide) (fun c13 => ?_) (fun c13 => ?_)
    · have hf := q_pos c13 hf
      refine lv_aload_n E.1 E.2.1 dX11_drawn_49 rfl (lv_at hl 0 rfl) ?_
      refine lv_iload E.1 E.2.1 dX11_drawn_50 (lv_at hl 2 rfl) ?_
      obtain ⟨r15, hc14, hf⟩ := bd1_e hf
      refine k_Vi (As := [.int v4]) (rest := []) E w t_v0 ⟨by decide, rfl⟩ (X11_nowOf_c t_v0 hc14) mv_RX11_456 rfl rfl hl.1 ⟨Nat.le_of_ble_eq_true rfl, Nat.le_of_ble_eq_true rfl⟩ (Nat.le_of_ble_eq_true rfl) ⟨Nat.le_refl _, Nat.le_refl _⟩ dX11_drawn_52 (fun H locs w => ?_)
      have hf := Option.some.inj hf
      subst hf
      exact q_iret E w hr hlk dX11_drawn_55
    · have hf := q_neg c13 hf
      refine lv_aload_n E.1 E.2.1 dX11_drawn_39 rfl (lv_at hl 0 rfl) ?_
      obtain ⟨h19, hc17, hf⟩ := bd1_e hf
      refine k_Vv (As := []) (rest := []) E w t_v0 ⟨by decide, rfl⟩ (X11_draws_c t_v0 hc17) mv_RX11_484 rfl rfl hl.1 ⟨Nat.le_of_ble_eq_true rfl, Nat.le_of_ble_eq_true rfl⟩ (Nat.le_of_ble_eq_true rfl) ⟨Nat.le_refl _, Nat.le_refl _⟩ dX11_drawn_40 (fun H locs w => ?_)
      refine lv_iinc (v := v5 + 1) (lv' := [(5, .int (v5 + 1)), (0, .ref (ad G v0)), (3, .int v3), (4, .int v4)]) E.1 E.2.1 dX11_drawn_43 hl (k := 3) rfl rfl (by decide) rfl (fun ls hl => ?_)
      refine lv_goto (tgt := 33) E.1 E.2.1 dX11_drawn_46 (by decide) ?_
      exact ih _ _ _ _ _ _ _ _ hf w t_v0 (lv_sub hl [1, 2, 3, 0] rfl)

def X11_drawn (N : Nat) (h : HS) (v0 : Nat) (v1 : Int32) (v2 : Int32) (v3 : Int32) (v4 : Int32) : Option (Int32 × HS) := bd2 (X11_isHouse N h v0 v1) fun r2 h3 => (if r2 = 0 then some ((-2), h3) else bd1 (X11_isIn N h3 v3 0 60) fun r6 => (if r6 = 0 then some ((-2), h3) else sq (wi h3 v0 50 v2) fun h9 => bd1 (X11_begins N h9 v0) fun h12 => X11_drawn_l33 N N h12 v0 v3 v4 0))
set_option maxRecDepth 4000 in
set_option maxHeartbeats 2000000 in
theorem X11_drawn_c {l : Launch} {G : GT} {N : Nat} {h : HS} {v0 : Nat} {v1 : Int32} {v2 : Int32} {v3 : Int32} {v4 : Int32} {z : (Int32 × HS)} (t_v0 : sh v0 = 11) (hf : X11_drawn N h v0 v1 v2 v3 v4 = some z) : CT l G yX11_drawn cX11_drawn 6 (some .int) 6 129 [.ref (ad G v0), .int v1, .int v2, .int v3, .int v4] h (some (.int z.1)) z.2 := by
  unfold X11_drawn at hf
  refine CT.of (by decide) (Nat.le_of_ble_eq_true rfl) ?_
  intro p e s m below meth c ls E hr hlk w hl
  have hl : lv_has ls 6 [(0, .ref (ad G v0)), (1, .int v1), (2, .int v2), (3, .int v3), (4, .int v4)] := hl
  refine lv_aload_n E.1 E.2.1 dX11_drawn_0 rfl (lv_at hl 0 rfl) ?_
  refine lv_iload_n E.1 E.2.1 dX11_drawn_1 rfl (lv_at hl 1 rfl) ?_
  obtain ⟨r2, h3, hc1, hf⟩ := bd2_e hf
  refine k_Vi (As := [.int v1]) (rest := []) E w t_v0 ⟨by decide, rfl⟩ (X11_isHouse_c t_v0 hc1) mv_RX11_197 rfl rfl hl.1 ⟨Nat.le_of_ble_eq_true rfl, Nat.le_of_ble_eq_true rfl⟩ (Nat.le_of_ble_eq_true rfl) ⟨Nat.le_refl _, Nat.le_refl _⟩ dX11_drawn_2 (fun H locs w => ?_)
  refine lv_if_eq (tgt := 18) E.1 E.2.1 dX11_drawn_5 (by decide) (fun c4 => ?_) (fun c4 => ?_)
  · have hf := q_pos c4 hf
    refine lv_bipush (v := (-2)) E.1 E.2.1 dX11_drawn_18 rfl ?_
    have hf := Option.some.inj hf
    subst hf
    exact q_iret E w hr hlk dX11_drawn_20
  · have hf := q_neg c4 hf
    refine lv_iload_n E.1 E.2.1 dX11_drawn_8 rfl (lv_at hl 3 rfl) ?_
    refine lv_iconst (v := 0) E.1 E.2.1 dX11_drawn_9 rfl ?_
    refine lv_bipush (v := 60) E.1 E.2.1 dX11_drawn_10 rfl ?_
    obtain ⟨r6, hc5, hf⟩ := bd1_e hf
    refine k_Si (As := [.int v3, .int 0, .int 60]) (rest := []) E w (X11_isIn_c  hc5) ms_RX11_123 rfl rfl hl.1 ⟨Nat.le_of_ble_eq_true rfl, Nat.le_of_ble_eq_true rfl⟩ (Nat.le_of_ble_eq_true rfl) ⟨Nat.le_refl _, Nat.le_refl _⟩ dX11_drawn_12 (fun H locs w => ?_)
    refine lv_if_ne (tgt := 21) E.1 E.2.1 dX11_drawn_15 (by decide) (fun c8 => ?_) (fun c8 => ?_)
    · have hf := q_neg c8 hf
      refine lv_aload_n E.1 E.2.1 dX11_drawn_21 rfl (lv_at hl 0 rfl) ?_
      refine lv_iload_n E.1 E.2.1 dX11_drawn_22 rfl (lv_at hl 2 rfl) ?_
      refine p_pi E w t_v0 fl_RX11_477 (fp_11_50 _) dX11_drawn_23 (fun h9 H locs eh w => ?_)
      have hf := sq_e eh hf
      clear eh
      refine lv_aload_n E.1 E.2.1 dX11_drawn_26 rfl (lv_at hl 0 rfl) ?_
      obtain ⟨h12, hc10, hf⟩ := bd1_e hf
      refine k_Vv (As := []) (rest := []) E w t_v0 ⟨by decide, rfl⟩ (X11_begins_c t_v0 hc10) mv_RX11_447 rfl rfl hl.1 ⟨Nat.le_of_ble_eq_true rfl, Nat.le_of_ble_eq_true rfl⟩ (Nat.le_of_ble_eq_true rfl) ⟨Nat.le_refl _, Nat.le_refl _⟩ dX11_drawn_27 (fun H locs w => ?_)
      refine lv_iconst (v := 0) E.1 E.2.1 dX11_drawn_30 rfl ?_
      refine lv_istore (lv' := [(5, .int 0), (0, .ref (ad G v0)), (1, .int v1), (2, .int v2), (3, .int v3), (4, .int v4)]) E.1 E.2.1 dX11_drawn_31 hl (by decide) rfl (fun ls hl => ?_)
      exact X11_drawn_l33_w E hr hlk N _ _ _ _ _ _ _ _ hf w t_v0 (lv_sub hl [1, 4, 5, 0] rfl)
    · have hf := q_pos c8 hf
      refine lv_bipush (v := (-2)) E.1 E.2.1 dX11_drawn_18 rfl ?_
      have hf := Option.some.inj hf
      subst hf
      exact q_iret E w hr hlk dX11_drawn_20

def X11_count (N : Nat) (h : HS) (v0 : Nat) (v1 : Int32) : Option Int32 := bd1 (X11_isIn N h v1 0 2) fun r2 => (if r2 = 0 then some (-2) else (if v1 < 0 ∨ 3736 ≤ v1.toNatClampNeg then none else some (h.1 (v0 + 1) v1.toNatClampNeg)))
set_option maxRecDepth 4000 in
set_option maxHeartbeats 2000000 in
theorem X11_count_c {l : Launch} {G : GT} {N : Nat} {h : HS} {v0 : Nat} {v1 : Int32} {z : Int32} (t_v0 : sh v0 = 11) (hf : X11_count N h v0 v1 = some z) : CT l G yX11_count cX11_count 2 (some .int) 1 22 [.ref (ad G v0), .int v1] h (some (.int z)) h := by
  unfold X11_count at hf
  refine CT.of (by decide) (Nat.le_of_ble_eq_true rfl) ?_
  intro p e s m below meth c ls E hr hlk w hl
  have hl : lv_has ls 2 [(0, .ref (ad G v0)), (1, .int v1)] := hl
  refine lv_iload_n E.1 E.2.1 dX11_count_0 rfl (lv_at hl 1 rfl) ?_
  refine lv_iconst (v := 0) E.1 E.2.1 dX11_count_1 rfl ?_
  refine lv_iconst (v := 2) E.1 E.2.1 dX11_count_2 rfl ?_
  obtain ⟨r2, hc1, hf⟩ := bd1_e hf
  refine k_Si (As := [.int v1, .int 0, .int 2]) (rest := []) E w (X11_isIn_c  hc1) ms_RX11_123 rfl rfl hl.1 ⟨Nat.le_of_ble_eq_true rfl, Nat.le_of_ble_eq_true rfl⟩ (Nat.le_of_ble_eq_true rfl) ⟨Nat.le_refl _, Nat.le_refl _⟩ dX11_count_3 (fun H locs w => ?_)
  refine lv_if_eq (tgt := 18) E.1 E.2.1 dX11_count_6 (by decide) (fun c4 => ?_) (fun c4 => ?_)
  · have hf := q_pos c4 hf
    refine lv_bipush (v := (-2)) E.1 E.2.1 dX11_count_18 rfl ?_
    have hf := Option.some.inj hf
    subst hf
    exact q_iret E w hr hlk dX11_count_20
  · have hf := q_neg c4 hf
    refine lv_aload_n E.1 E.2.1 dX11_count_9 rfl (lv_at hl 0 rfl) ?_
    refine q_gs E w 1 t_v0 fl_RX11_7 dX11_count_10 ?_
    refine lv_iload_n E.1 E.2.1 dX11_count_13 rfl (lv_at hl 1 rfl) ?_
    obtain ⟨b5, hf⟩ := q_if hf
    refine q_iald E w ((lay_11_0 t_v0).1) ((lay_11_0 t_v0).2) b5 dX11_count_14 ?_
    refine lv_goto (tgt := 20) E.1 E.2.1 dX11_count_15 (by decide) ?_
    have hf := Option.some.inj hf
    subst hf
    exact q_iret E w hr hlk dX11_count_20

def X11_image_l20 (N : Nat) : Nat → HS → Nat → Int32 → Int32 → Option (Int32 × HS)
  | 0, _, _, _, _ => none
  | n + 1, h, v0, v1, v2 => (if (934 : Int32) ≤ v2 then some (nz 1, h) else (if v2 < 0 ∨ 3736 ≤ v2.toNatClampNeg then none else (if ((934 * (v1 + 1)) + v2) < 0 ∨ 3736 ≤ ((934 * (v1 + 1)) + v2).toNatClampNeg then none else sq (wi h (v0 + 1) ((934 * (v1 + 1)) + v2).toNatClampNeg (h.1 (v0 + 1) v2.toNatClampNeg)) fun h10 => X11_image_l20 N n h10 v0 v1 (v2 + 1))))
set_option maxRecDepth 4000 in
set_option maxHeartbeats 2000000 in
theorem X11_image_l20_w {p : Program} {l : Launch} {e : Env} {s : State} {m : MethodId} {args : Array Value} {below : List Frame} {meth : Method} {c : Code} {G : GT} {N : Nat} {z : (Int32 × HS)} (E : CallFix p m c cX11_image 3 s args UW RX11) (hr : meth.sig.returnType = (some .boolean)) (hlk : meth.locks = false) : ∀ (n : Nat) (h : HS) (H : Heap) (locs : List Loc) (ls : Array Slot) (v0 : Nat) (v1 : Int32) (v2 : Int32), X11_image_l20 N n h v0 v1 v2 = some z → WD G s h H locs → sh v0 = 11 → lv_has ls 3 [(0, .ref (ad G v0)), (1, .int v1), (2, .int v2)] → W p l e ({ frames := 1, cells := 0, slots := 0, locals := 22 } : Room) s m args below meth c H locs 0 0 (MQ below (QC G (some (.int z.1)) z.2) args s 0 0 (AD G)) (F0 m 20 ls []) := by
  intro n
  induction n with
  | zero =>
    intro h H locs ls v0 v1 v2 hf
    cases hf
  | succ n ih =>
    intro h H locs ls v0 v1 v2 hf w t_v0 hl
    unfold X11_image_l20 at hf
    refine lv_iload_n E.1 E.2.1 dX11_image_20 rfl (lv_at hl 2 rfl) ?_
    refine lv_sipush (v := 934) E.1 E.2.1 dX11_image_21 rfl ?_
    refine lv_icmp_ge (tgt := 53) E.1 E.2.1 dX11_image_24 (by decide) (fun c7 => ?_) (fun c7 => ?_)
    · have hf := q_pos c7 hf
      refine lv_iconst (v := 1) E.1 E.2.1 dX11_image_53 rfl ?_
      have hf := Option.some.inj hf
      subst hf
      exact q_zret E w hr hlk dX11_image_54
    · have hf := q_neg c7 hf
      refine lv_aload_n E.1 E.2.1 dX11_image_27 rfl (lv_at hl 0 rfl) ?_
      refine q_gs E w 1 t_v0 fl_RX11_7 dX11_image_28 ?_
      refine lv_sipush (v := 934) E.1 E.2.1 dX11_image_31 rfl ?_
      refine lv_iload_n E.1 E.2.1 dX11_image_34 rfl (lv_at hl 1 rfl) ?_
      refine lv_iconst (v := 1) E.1 E.2.1 dX11_image_35 rfl ?_
      refine lv_iadd E.1 E.2.1 dX11_image_36 ?_
      refine lv_imul E.1 E.2.1 dX11_image_37 ?_
      refine lv_iload_n E.1 E.2.1 dX11_image_38 rfl (lv_at hl 2 rfl) ?_
      refine lv_iadd E.1 E.2.1 dX11_image_39 ?_
      refine lv_aload_n E.1 E.2.1 dX11_image_40 rfl (lv_at hl 0 rfl) ?_
      refine q_gs E w 1 t_v0 fl_RX11_7 dX11_image_41 ?_
      refine lv_iload_n E.1 E.2.1 dX11_image_44 rfl (lv_at hl 2 rfl) ?_
      obtain ⟨b8, hf⟩ := q_if hf
      refine q_iald E w ((lay_11_0 t_v0).1) ((lay_11_0 t_v0).2) b8 dX11_image_45 ?_
      obtain ⟨b9, hf⟩ := q_if hf
      refine p_iast E w ((lay_11_0 t_v0).1) ((lay_11_0 t_v0).2) b9 dX11_image_46 (fun h10 H locs eh w => ?_)
      have hf := sq_e eh hf
      clear eh
      refine lv_iinc (v := v2 + 1) (lv' := [(2, .int (v2 + 1)), (0, .ref (ad G v0)), (1, .int v1)]) E.1 E.2.1 dX11_image_47 hl (k := 2) rfl rfl (by decide) rfl (fun ls hl => ?_)
      refine lv_goto (tgt := 20) E.1 E.2.1 dX11_image_50 (by decide) ?_
      exact ih _ _ _ _ _ _ _ hf w t_v0 (lv_sub hl [1, 2, 0] rfl)

def X11_image (N : Nat) (h : HS) (v0 : Nat) (v1 : Int32) : Option (Int32 × HS) := bd1 (X11_isIn N h v1 0 2) fun r2 => (if r2 = 0 then some (nz 0, h) else (if v1 < 0 ∨ 3 ≤ v1.toNatClampNeg then none else sq (wi h (v0 + 2) v1.toNatClampNeg (vp_nar .boolean 1)) fun h6 => X11_image_l20 N N h6 v0 v1 0))
set_option maxRecDepth 4000 in
set_option maxHeartbeats 2000000 in
theorem X11_image_c {l : Launch} {G : GT} {N : Nat} {h : HS} {v0 : Nat} {v1 : Int32} {z : (Int32 × HS)} (t_v0 : sh v0 = 11) (hf : X11_image N h v0 v1 = some z) : CT l G yX11_image cX11_image 3 (some .boolean) 1 22 [.ref (ad G v0), .int v1] h (some (.int z.1)) z.2 := by
  unfold X11_image at hf
  refine CT.of (by decide) (Nat.le_of_ble_eq_true rfl) ?_
  intro p e s m below meth c ls E hr hlk w hl
  have hl : lv_has ls 3 [(0, .ref (ad G v0)), (1, .int v1)] := hl
  refine lv_iload_n E.1 E.2.1 dX11_image_0 rfl (lv_at hl 1 rfl) ?_
  refine lv_iconst (v := 0) E.1 E.2.1 dX11_image_1 rfl ?_
  refine lv_iconst (v := 2) E.1 E.2.1 dX11_image_2 rfl ?_
  obtain ⟨r2, hc1, hf⟩ := bd1_e hf
  refine k_Si (As := [.int v1, .int 0, .int 2]) (rest := []) E w (X11_isIn_c  hc1) ms_RX11_123 rfl rfl hl.1 ⟨Nat.le_of_ble_eq_true rfl, Nat.le_of_ble_eq_true rfl⟩ (Nat.le_of_ble_eq_true rfl) ⟨Nat.le_refl _, Nat.le_refl _⟩ dX11_image_3 (fun H locs w => ?_)
  refine lv_if_ne (tgt := 11) E.1 E.2.1 dX11_image_6 (by decide) (fun c4 => ?_) (fun c4 => ?_)
  · have hf := q_neg c4 hf
    refine lv_aload_n E.1 E.2.1 dX11_image_11 rfl (lv_at hl 0 rfl) ?_
    refine q_gs E w 2 t_v0 fl_RX11_13 dX11_image_12 ?_
    refine lv_iload_n E.1 E.2.1 dX11_image_15 rfl (lv_at hl 1 rfl) ?_
    refine lv_iconst (v := 1) E.1 E.2.1 dX11_image_16 rfl ?_
    obtain ⟨b5, hf⟩ := q_if hf
    refine p_zast E w ((lay_11_1 t_v0).1) ((lay_11_1 t_v0).2) b5 dX11_image_17 (fun h6 H locs eh w => ?_)
    have hf := sq_e eh hf
    clear eh
    refine lv_iconst (v := 0) E.1 E.2.1 dX11_image_18 rfl ?_
    refine lv_istore_n (lv' := [(2, .int 0), (0, .ref (ad G v0)), (1, .int v1)]) E.1 E.2.1 dX11_image_19 rfl hl (by decide) rfl (fun ls hl => ?_)
    exact X11_image_l20_w E hr hlk N _ _ _ _ _ _ _ hf w t_v0 (lv_sub hl [1, 2, 0] rfl)
  · have hf := q_pos c4 hf
    refine lv_iconst (v := 0) E.1 E.2.1 dX11_image_9 rfl ?_
    have hf := Option.some.inj hf
    subst hf
    exact q_zret E w hr hlk dX11_image_10

def X11_again_l22 (N : Nat) : Nat → HS → Nat → Int32 → Int32 → Option (Int32 × HS)
  | 0, _, _, _, _ => none
  | n + 1, h, v0, v1, v2 => (if (934 : Int32) ≤ v2 then some (nz 1, h) else (if ((934 * (v1 + 1)) + v2) < 0 ∨ 3736 ≤ ((934 * (v1 + 1)) + v2).toNatClampNeg then none else (if v2 < 0 ∨ 3736 ≤ v2.toNatClampNeg then none else sq (wi h (v0 + 1) v2.toNatClampNeg (h.1 (v0 + 1) ((934 * (v1 + 1)) + v2).toNatClampNeg)) fun h10 => X11_again_l22 N n h10 v0 v1 (v2 + 1))))
set_option maxRecDepth 4000 in
set_option maxHeartbeats 2000000 in
theorem X11_again_l22_w {p : Program} {l : Launch} {e : Env} {s : State} {m : MethodId} {args : Array Value} {below : List Frame} {meth : Method} {c : Code} {G : GT} {N : Nat} {z : (Int32 × HS)} (E : CallFix p m c cX11_again 3 s args UW RX11) (hr : meth.sig.returnType = (some .boolean)) (hlk : meth.locks = false) : ∀ (n : Nat) (h : HS) (H : Heap) (locs : List Loc) (ls : Array Slot) (v0 : Nat) (v1 : Int32) (v2 : Int32), X11_again_l22 N n h v0 v1 v2 = some z → WD G s h H locs → sh v0 = 11 → lv_has ls 3 [(0, .ref (ad G v0)), (1, .int v1), (2, .int v2)] → W p l e ({ frames := 1, cells := 0, slots := 0, locals := 22 } : Room) s m args below meth c H locs 0 0 (MQ below (QC G (some (.int z.1)) z.2) args s 0 0 (AD G)) (F0 m 22 ls []) := by
  intro n
  induction n with
  | zero =>
    intro h H locs ls v0 v1 v2 hf
    cases hf
  | succ n ih =>
    intro h H locs ls v0 v1 v2 hf w t_v0 hl
    unfold X11_again_l22 at hf
    refine lv_iload_n E.1 E.2.1 dX11_again_22 rfl (lv_at hl 2 rfl) ?_
    refine lv_sipush (v := 934) E.1 E.2.1 dX11_again_23 rfl ?_
    refine lv_icmp_ge (tgt := 55) E.1 E.2.1 dX11_again_26 (by decide) (fun c7 => ?_) (fun c7 => ?_)
    · have hf := q_pos c7 hf
      refine lv_iconst (v := 1) E.1 E.2.1 dX11_again_55 rfl ?_
      have hf := Option.some.inj hf
      subst hf
      exact q_zret E w hr hlk dX11_again_56
    · have hf := q_neg c7 hf
      refine lv_aload_n E.1 E.2.1 dX11_again_29 rfl (lv_at hl 0 rfl) ?_
      refine q_gs E w 1 t_v0 fl_RX11_7 dX11_again_30 ?_
      refine lv_iload_n E.1 E.2.1 dX11_again_33 rfl (lv_at hl 2 rfl) ?_
      refine lv_aload_n E.1 E.2.1 dX11_again_34 rfl (lv_at hl 0 rfl) ?_
      refine q_gs E w 1 t_v0 fl_RX11_7 dX11_again_35 ?_
      refine lv_sipush (v := 934) E.1 E.2.1 dX11_again_38 rfl ?_
      refine lv_iload_n E.1 E.2.1 dX11_again_41 rfl (lv_at hl 1 rfl) ?_
      refine lv_iconst (v := 1) E.1 E.2.1 dX11_again_42 rfl ?_
      refine lv_iadd E.1 E.2.1 dX11_again_43 ?_
      refine lv_imul E.1 E.2.1 dX11_again_44 ?_
      refine lv_iload_n E.1 E.2.1 dX11_again_45 rfl (lv_at hl 2 rfl) ?_
      refine lv_iadd E.1 E.2.1 dX11_again_46 ?_
      obtain ⟨b8, hf⟩ := q_if hf
      refine q_iald E w ((lay_11_0 t_v0).1) ((lay_11_0 t_v0).2) b8 dX11_again_47 ?_
      obtain ⟨b9, hf⟩ := q_if hf
      refine p_iast E w ((lay_11_0 t_v0).1) ((lay_11_0 t_v0).2) b9 dX11_again_48 (fun h10 H locs eh w => ?_)
      have hf := sq_e eh hf
      clear eh
      refine lv_iinc (v := v2 + 1) (lv' := [(2, .int (v2 + 1)), (0, .ref (ad G v0)), (1, .int v1)]) E.1 E.2.1 dX11_again_49 hl (k := 2) rfl rfl (by decide) rfl (fun ls hl => ?_)
      refine lv_goto (tgt := 22) E.1 E.2.1 dX11_again_52 (by decide) ?_
      exact ih _ _ _ _ _ _ _ hf w t_v0 (lv_sub hl [1, 2, 0] rfl)

def X11_again (N : Nat) (h : HS) (v0 : Nat) (v1 : Int32) : Option (Int32 × HS) := bd1 (X11_isIn N h v1 0 2) fun r2 => (if r2 = 0 then some (nz 0, h) else (if v1 < 0 ∨ 3 ≤ v1.toNatClampNeg then none else (if (h.1 (v0 + 2) v1.toNatClampNeg) = 0 then some (nz 0, h) else X11_again_l22 N N h v0 v1 0)))
set_option maxRecDepth 4000 in
set_option maxHeartbeats 2000000 in
theorem X11_again_c {l : Launch} {G : GT} {N : Nat} {h : HS} {v0 : Nat} {v1 : Int32} {z : (Int32 × HS)} (t_v0 : sh v0 = 11) (hf : X11_again N h v0 v1 = some z) : CT l G yX11_again cX11_again 3 (some .boolean) 1 22 [.ref (ad G v0), .int v1] h (some (.int z.1)) z.2 := by
  unfold X11_again at hf
  refine CT.of (by decide) (Nat.le_of_ble_eq_true rfl) ?_
  intro p e s m below meth c ls E hr hlk w hl
  have hl : lv_has ls 3 [(0, .ref (ad G v0)), (1, .int v1)] := hl
  refine lv_iload_n E.1 E.2.1 dX11_again_0 rfl (lv_at hl 1 rfl) ?_
  refine lv_iconst (v := 0) E.1 E.2.1 dX11_again_1 rfl ?_
  refine lv_iconst (v := 2) E.1 E.2.1 dX11_again_2 rfl ?_
  obtain ⟨r2, hc1, hf⟩ := bd1_e hf
  refine k_Si (As := [.int v1, .int 0, .int 2]) (rest := []) E w (X11_isIn_c  hc1) ms_RX11_123 rfl rfl hl.1 ⟨Nat.le_of_ble_eq_true rfl, Nat.le_of_ble_eq_true rfl⟩ (Nat.le_of_ble_eq_true rfl) ⟨Nat.le_refl _, Nat.le_refl _⟩ dX11_again_3 (fun H locs w => ?_)
  refine lv_if_eq (tgt := 18) E.1 E.2.1 dX11_again_6 (by decide) (fun c4 => ?_) (fun c4 => ?_)
  · have hf := q_pos c4 hf
    refine lv_iconst (v := 0) E.1 E.2.1 dX11_again_18 rfl ?_
    have hf := Option.some.inj hf
    subst hf
    exact q_zret E w hr hlk dX11_again_19
  · have hf := q_neg c4 hf
    refine lv_aload_n E.1 E.2.1 dX11_again_9 rfl (lv_at hl 0 rfl) ?_
    refine q_gs E w 2 t_v0 fl_RX11_13 dX11_again_10 ?_
    refine lv_iload_n E.1 E.2.1 dX11_again_13 rfl (lv_at hl 1 rfl) ?_
    obtain ⟨b5, hf⟩ := q_if hf
    refine q_zald E w ((lay_11_1 t_v0).1) ((lay_11_1 t_v0).2) b5 dX11_again_14 ?_
    refine lv_if_ne (tgt := 20) E.1 E.2.1 dX11_again_15 (by decide) (fun c6 => ?_) (fun c6 => ?_)
    · have hf := q_neg c6 hf
      refine lv_iconst (v := 0) E.1 E.2.1 dX11_again_20 rfl ?_
      refine lv_istore_n (lv' := [(2, .int 0), (0, .ref (ad G v0)), (1, .int v1)]) E.1 E.2.1 dX11_again_21 rfl hl (by decide) rfl (fun ls hl => ?_)
      exact X11_again_l22_w E hr hlk N _ _ _ _ _ _ _ hf w t_v0 (lv_sub hl [1, 2, 0] rfl)
    · have hf := q_pos c6 hf
      refine lv_iconst (v := 0) E.1 E.2.1 dX11_again_18 rfl ?_
      have hf := Option.some.inj hf
      subst hf
      exact q_zret E w hr hlk dX11_again_19
