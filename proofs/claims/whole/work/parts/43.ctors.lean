set_option maxRecDepth 8000 in
set_option maxHeartbeats 4000000 in
theorem X0_init_n {l : Launch} {G : GT} {b k : Nat} {F : Nat → va_E} (hs : sh k = 0) (hF : F k = .inr (0, [.null, .null])) : CN l G yX0_init cX0_init 1 2 40 11 81 [.ref (ad G k)] b k F (k + 11) (FN G k F) := by
  have hk0 : 0 < k := sh_pos (by omega)
  have hkn : k + 11 < NN := by have := (by decide +kernel : ∀ k, k < 257 → sh k = 0 → k + 11 < 257) k (sh_lt (by omega)) hs; exact this
  have hNN : NN = 257 := rfl
  have s1 : sh (k + 1) = 1 := (by decide +kernel : ∀ k, k < 257 → sh k = 0 → sh (k + 1) = 1) k (sh_lt (by omega)) hs
  have s11 : sh (k + 11) = 13 := (by decide +kernel : ∀ k, k < 257 → sh k = 0 → sh (k + 11) = 13) k (sh_lt (by omega)) hs
  have l11 : ln (k + 11) = 8 := (by decide +kernel : ∀ k, k < 257 → sh k = 0 → ln (k + 11) = 8) k (sh_lt (by omega)) hs
  refine CN.of (by decide) (Nat.le_of_ble_eq_true rfl) ?_
  intro p e s m below meth c ls E hr hlk hin w hl
  have hl : lv_has ls 1 [(0, .ref (ad G k))] := hl
  have w := r_start w hF
  refine lv_aload_n E.1 E.2.1 dX0_init_0 rfl (lv_at hl 0 rfl) ?_
  refine c_objInit E oi_RX0 hl.1 ⟨Nat.le_of_ble_eq_true rfl, Nat.le_of_ble_eq_true rfl⟩ dX0_init_1 ?_
  refine lv_aload_n E.1 E.2.1 dX0_init_4 rfl (lv_at hl 0 rfl) ?_
  refine c_new (ci := 1) E w [.int 0, .int 0, .int 0, .int 0, .int 0, .null, .null, .null, .null, .null, .null, .null, .null, .null] (by show k + 1 < NN; omega) rfl uwX1 tyX1_ok nw_RX0_9 (by decide) (Nat.le_of_ble_eq_true rfl) (Nat.le_of_ble_eq_true rfl) dX0_init_5 (fun H w => ?_)
  refine lv_dup E.1 E.2.1 dX0_init_8 rfl ?_
  refine c_call (k := k + 1) (As := []) (rest := [.ref (ad G (k + 1)), .ref (ad G (k))]) E w (X1_init_n s1 (by simp [va_up])) mi_RX0_11 rfl rfl hl.1 ⟨Nat.le_of_ble_eq_true rfl, Nat.le_of_ble_eq_true rfl⟩ (Nat.le_of_ble_eq_true rfl) ⟨Nat.le_of_ble_eq_true rfl, Nat.le_of_ble_eq_true rfl⟩ dX0_init_9 (fun H locs w => ?_)
  have w := r_sub (fun i hi => RT_gt G F _ (by omega)) w
  have w : CW G b s (k + 10) (RT G k 0 F [.null, .null]) H locs := w
  refine c_put (v := .ref (ad G (k + 1))) (k := 0) (ci := 0) (ty0 := tyX0) E w ⟨by omega, by omega⟩ (RT_k G k 0 F _) rfl uwX0 tyX0_ok nmX0 (by decide) fc_RX0_12 (Or.inl rfl) rfl rfl (Nat.le_of_ble_eq_true rfl) dX0_init_12 (fun H locs w => ?_)
  have w : CW G b s (k + 10) (RT G k 0 F [.ref (ad G (k + 1)), .null]) H locs := r_put w
  refine lv_aload_n E.1 E.2.1 dX0_init_15 rfl (lv_at hl 0 rfl) ?_
  refine lv_bipush (v := 8) E.1 E.2.1 dX0_init_16 rfl ?_
  refine c_arr (atype := .int) (ty := .int) (kd := 13) (t0 := 1) E w rfl rfl (fun z => z) rfl (by show k + 11 < NN; omega) ac_int (x := 8) (L := 8) (by decide) (by decide) (by decide) (Nat.le_of_ble_eq_true rfl) (Nat.le_of_ble_eq_true rfl) dX0_init_18 (fun H w => ?_)
  have w := r_cell (by omega) w (cell_arr G s11 (by decide) (by intro z; have z2 : k = 227 := (by omega); subst z2; exact absurd hs (by decide)) l11)
  refine c_put (v := .ref (ad G (k + 11))) (k := 1) (ci := 0) (ty0 := tyX0) E w ⟨by omega, by omega⟩ (RT_k G k 0 F _) rfl uwX0 tyX0_ok nmX0 (by decide) fc_RX0_18 (Or.inr ⟨rfl, hin, rfl⟩) rfl rfl (Nat.le_of_ble_eq_true rfl) dX0_init_20 (fun H locs w => ?_)
  have w : CW G b s (k + 11) (RT G k 0 F [.ref (ad G (k + 1)), .ref (ad G (k + 11))]) H locs := r_put w
  have h238 : ¬ k = 238 := fun z => by subst z; exact absurd hs (by decide)
  have w := r_end w hs (by decide) (by
    have e : fsO G hI k 0 = [.ref (ad G (k + 1)), .ref (ad G (k + 11))] := by
      simp [fsO, fk, fkL, fv, hI, hs, iniL, rfv, h238]
    exact e)
  exact c_vret E w hr hlk dX0_init_23
set_option maxRecDepth 8000 in
set_option maxHeartbeats 4000000 in
theorem X2_init_n {l : Launch} {G : GT} {b k : Nat} {F : Nat → va_E} (hs : sh k = 2) (hF : F k = .inr (2, [.null, .int 0])) : CN l G yX2_init cX2_init 1 1 20 1 6 [.ref (ad G k)] b k F (k + 1) (FN G k F) := by
  have hk0 : 0 < k := sh_pos (by omega)
  have hkn : k + 1 < NN := by have := (by decide +kernel : ∀ k, k < 257 → sh k = 2 → k + 1 < 257) k (sh_lt (by omega)) hs; exact this
  have hNN : NN = 257 := rfl
  have s1 : sh (k + 1) = 13 := (by decide +kernel : ∀ k, k < 257 → sh k = 2 → sh (k + 1) = 13) k (sh_lt (by omega)) hs
  have l1 : ln (k + 1) = 6 := (by decide +kernel : ∀ k, k < 257 → sh k = 2 → ln (k + 1) = 6) k (sh_lt (by omega)) hs
  refine CN.of (by decide) (Nat.le_of_ble_eq_true rfl) ?_
  intro p e s m below meth c ls E hr hlk hin w hl
  have hl : lv_has ls 1 [(0, .ref (ad G k))] := hl
  have w := r_start w hF
  refine lv_aload_n E.1 E.2.1 dX2_init_0 rfl (lv_at hl 0 rfl) ?_
  refine c_objInit E oi_RX2 hl.1 ⟨Nat.le_of_ble_eq_true rfl, Nat.le_of_ble_eq_true rfl⟩ dX2_init_1 ?_
  refine lv_aload_n E.1 E.2.1 dX2_init_4 rfl (lv_at hl 0 rfl) ?_
  refine lv_bipush (v := 6) E.1 E.2.1 dX2_init_5 rfl ?_
  refine c_arr (atype := .int) (ty := .int) (kd := 13) (t0 := 1) E w rfl rfl (fun z => z) rfl (by show k + 1 < NN; omega) ac_int (x := 6) (L := 6) (by decide) (by decide) (by decide) (Nat.le_of_ble_eq_true rfl) (Nat.le_of_ble_eq_true rfl) dX2_init_7 (fun H w => ?_)
  have w := r_cell (by omega) w (cell_arr G s1 (by decide) (by intro z; have z2 : k = 237 := (by omega); subst z2; exact absurd hs (by decide)) l1)
  refine c_put (v := .ref (ad G (k + 1))) (k := 0) (ci := 2) (ty0 := tyX2) E w ⟨by omega, by omega⟩ (RT_k G k 2 F _) rfl uwX2 tyX2_ok nmX2 (by decide) fc_RX2_9 (Or.inr ⟨rfl, hin, rfl⟩) rfl rfl (Nat.le_of_ble_eq_true rfl) dX2_init_9 (fun H locs w => ?_)
  have w : CW G b s (k + 1) (RT G k 2 F [.ref (ad G (k + 1)), .int 0]) H locs := r_put w
  refine lv_aload_n E.1 E.2.1 dX2_init_12 rfl (lv_at hl 0 rfl) ?_
  refine lv_iconst (v := 0) E.1 E.2.1 dX2_init_13 rfl ?_
  refine c_put (v := .int 0) (k := 1) (ci := 2) (ty0 := tyX2) E w ⟨by omega, by omega⟩ (RT_k G k 2 F _) rfl uwX2 tyX2_ok nmX2 (by decide) fc_RX2_15 (Or.inl rfl) rfl rfl (Nat.le_of_ble_eq_true rfl) dX2_init_14 (fun H locs w => ?_)
  have w : CW G b s (k + 1) (RT G k 2 F [.ref (ad G (k + 1)), .int 0]) H locs := r_put w
  have h238 : ¬ k = 238 := fun z => by subst z; exact absurd hs (by decide)
  have w := r_end w hs (by decide) (by
    have e : fsO G hI k 2 = [.ref (ad G (k + 1)), .int 0] := by
      simp [fsO, fk, fkL, fv, hI, hs, iniL, rfv, h238]
    exact e)
  exact c_vret E w hr hlk dX2_init_17
set_option maxRecDepth 8000 in
set_option maxHeartbeats 4000000 in
theorem X3_init_n {l : Launch} {G : GT} {b k : Nat} {F : Nat → va_E} (hs : sh k = 3) (hF : F k = .inr (3, [.null, .int 0, .int 0, .int 0, .int 0, .int 0, .int 0, .int 0, .int 0, .int 0, .int 0, .null, .null, .int 0, .int 0, .int 0, .int 0, .int 0, .int 0])) : CN l G yX3_init cX3_init 1 2 40 12 83 [.ref (ad G k)] b k F (k + 12) (FN G k F) := by
  have hk0 : 0 < k := sh_pos (by omega)
  have hkn : k + 12 < NN := by have := (by decide +kernel : ∀ k, k < 257 → sh k = 3 → k + 12 < 257) k (sh_lt (by omega)) hs; exact this
  have hNN : NN = 257 := rfl
  have s1 : sh (k + 1) = 1 := (by decide +kernel : ∀ k, k < 257 → sh k = 3 → sh (k + 1) = 1) k (sh_lt (by omega)) hs
  have s11 : sh (k + 11) = 13 := (by decide +kernel : ∀ k, k < 257 → sh k = 3 → sh (k + 11) = 13) k (sh_lt (by omega)) hs
  have l11 : ln (k + 11) = 5 := (by decide +kernel : ∀ k, k < 257 → sh k = 3 → ln (k + 11) = 5) k (sh_lt (by omega)) hs
  have s12 : sh (k + 12) = 13 := (by decide +kernel : ∀ k, k < 257 → sh k = 3 → sh (k + 12) = 13) k (sh_lt (by omega)) hs
  have l12 : ln (k + 12) = 5 := (by decide +kernel : ∀ k, k < 257 → sh k = 3 → ln (k + 12) = 5) k (sh_lt (by omega)) hs
  refine CN.of (by decide) (Nat.le_of_ble_eq_true rfl) ?_
  intro p e s m below meth c ls E hr hlk hin w hl
  have hl : lv_has ls 1 [(0, .ref (ad G k))] := hl
  have w := r_start w hF
  refine lv_aload_n E.1 E.2.1 dX3_init_0 rfl (lv_at hl 0 rfl) ?_
  refine c_objInit E oi_RX3 hl.1 ⟨Nat.le_of_ble_eq_true rfl, Nat.le_of_ble_eq_true rfl⟩ dX3_init_1 ?_
  refine lv_aload_n E.1 E.2.1 dX3_init_4 rfl (lv_at hl 0 rfl) ?_
  refine c_new (ci := 1) E w [.int 0, .int 0, .int 0, .int 0, .int 0, .null, .null, .null, .null, .null, .null, .null, .null, .null] (by show k + 1 < NN; omega) rfl uwX1 tyX1_ok nw_RX3_9 (by decide) (Nat.le_of_ble_eq_true rfl) (Nat.le_of_ble_eq_true rfl) dX3_init_5 (fun H w => ?_)
  refine lv_dup E.1 E.2.1 dX3_init_8 rfl ?_
  refine c_call (k := k + 1) (As := []) (rest := [.ref (ad G (k + 1)), .ref (ad G (k))]) E w (X1_init_n s1 (by simp [va_up])) mi_RX3_11 rfl rfl hl.1 ⟨Nat.le_of_ble_eq_true rfl, Nat.le_of_ble_eq_true rfl⟩ (Nat.le_of_ble_eq_true rfl) ⟨Nat.le_of_ble_eq_true rfl, Nat.le_of_ble_eq_true rfl⟩ dX3_init_9 (fun H locs w => ?_)
  have w := r_sub (fun i hi => RT_gt G F _ (by omega)) w
  have w : CW G b s (k + 10) (RT G k 3 F [.null, .int 0, .int 0, .int 0, .int 0, .int 0, .int 0, .int 0, .int 0, .int 0, .int 0, .null, .null, .int 0, .int 0, .int 0, .int 0, .int 0, .int 0]) H locs := w
  refine c_put (v := .ref (ad G (k + 1))) (k := 0) (ci := 3) (ty0 := tyX3) E w ⟨by omega, by omega⟩ (RT_k G k 3 F _) rfl uwX3 tyX3_ok nmX3 (by decide) fc_RX3_12 (Or.inl rfl) rfl rfl (Nat.le_of_ble_eq_true rfl) dX3_init_12 (fun H locs w => ?_)
  have w : CW G b s (k + 10) (RT G k 3 F [.ref (ad G (k + 1)), .int 0, .int 0, .int 0, .int 0, .int 0, .int 0, .int 0, .int 0, .int 0, .int 0, .null, .null, .int 0, .int 0, .int 0, .int 0, .int 0, .int 0]) H locs := r_put w
  refine lv_aload_n E.1 E.2.1 dX3_init_15 rfl (lv_at hl 0 rfl) ?_
  refine lv_iconst (v := 0) E.1 E.2.1 dX3_init_16 rfl ?_
  refine c_put (v := .int 0) (k := 1) (ci := 3) (ty0 := tyX3) E w ⟨by omega, by omega⟩ (RT_k G k 3 F _) rfl uwX3 tyX3_ok nmX3 (by decide) fc_RX3_18 (Or.inl rfl) rfl rfl (Nat.le_of_ble_eq_true rfl) dX3_init_17 (fun H locs w => ?_)
  have w : CW G b s (k + 10) (RT G k 3 F [.ref (ad G (k + 1)), .int 0, .int 0, .int 0, .int 0, .int 0, .int 0, .int 0, .int 0, .int 0, .int 0, .null, .null, .int 0, .int 0, .int 0, .int 0, .int 0, .int 0]) H locs := r_put w
  refine lv_aload_n E.1 E.2.1 dX3_init_20 rfl (lv_at hl 0 rfl) ?_
  refine lv_iconst (v := (-1)) E.1 E.2.1 dX3_init_21 rfl ?_
  refine c_put (v := .int (-1)) (k := 2) (ci := 3) (ty0 := tyX3) E w ⟨by omega, by omega⟩ (RT_k G k 3 F _) rfl uwX3 tyX3_ok nmX3 (by decide) fc_RX3_22 (Or.inl rfl) rfl rfl (Nat.le_of_ble_eq_true rfl) dX3_init_22 (fun H locs w => ?_)
  have w : CW G b s (k + 10) (RT G k 3 F [.ref (ad G (k + 1)), .int 0, .int (-1), .int 0, .int 0, .int 0, .int 0, .int 0, .int 0, .int 0, .int 0, .null, .null, .int 0, .int 0, .int 0, .int 0, .int 0, .int 0]) H locs := r_put w
  refine lv_aload_n E.1 E.2.1 dX3_init_25 rfl (lv_at hl 0 rfl) ?_
  refine lv_iconst (v := 0) E.1 E.2.1 dX3_init_26 rfl ?_
  refine c_put (v := .int 0) (k := 3) (ci := 3) (ty0 := tyX3) E w ⟨by omega, by omega⟩ (RT_k G k 3 F _) rfl uwX3 tyX3_ok nmX3 (by decide) fc_RX3_25 (Or.inl rfl) rfl rfl (Nat.le_of_ble_eq_true rfl) dX3_init_27 (fun H locs w => ?_)
  have w : CW G b s (k + 10) (RT G k 3 F [.ref (ad G (k + 1)), .int 0, .int (-1), .int 0, .int 0, .int 0, .int 0, .int 0, .int 0, .int 0, .int 0, .null, .null, .int 0, .int 0, .int 0, .int 0, .int 0, .int 0]) H locs := r_put w
  refine lv_aload_n E.1 E.2.1 dX3_init_30 rfl (lv_at hl 0 rfl) ?_
  refine lv_iconst (v := 0) E.1 E.2.1 dX3_init_31 rfl ?_
  refine c_put (v := .int 0) (k := 4) (ci := 3) (ty0 := tyX3) E w ⟨by omega, by omega⟩ (RT_k G k 3 F _) rfl uwX3 tyX3_ok nmX3 (by decide) fc_RX3_28 (Or.inl rfl) rfl rfl (Nat.le_of_ble_eq_true rfl) dX3_init_32 (fun H locs w => ?_)
  have w : CW G b s (k + 10) (RT G k 3 F [.ref (ad G (k + 1)), .int 0, .int (-1), .int 0, .int 0, .int 0, .int 0, .int 0, .int 0, .int 0, .int 0, .null, .null, .int 0, .int 0, .int 0, .int 0, .int 0, .int 0]) H locs := r_put w
  refine lv_aload_n E.1 E.2.1 dX3_init_35 rfl (lv_at hl 0 rfl) ?_
  refine lv_iconst (v := 0) E.1 E.2.1 dX3_init_36 rfl ?_
  refine c_put (v := .int 0) (k := 5) (ci := 3) (ty0 := tyX3) E w ⟨by omega, by omega⟩ (RT_k G k 3 F _) rfl uwX3 tyX3_ok nmX3 (by decide) fc_RX3_31 (Or.inl rfl) rfl rfl (Nat.le_of_ble_eq_true rfl) dX3_init_37 (fun H locs w => ?_)
  have w : CW G b s (k + 10) (RT G k 3 F [.ref (ad G (k + 1)), .int 0, .int (-1), .int 0, .int 0, .int 0, .int 0, .int 0, .int 0, .int 0, .int 0, .null, .null, .int 0, .int 0, .int 0, .int 0, .int 0, .int 0]) H locs := r_put w
  refine lv_aload_n E.1 E.2.1 dX3_init_40 rfl (lv_at hl 0 rfl) ?_
  refine lv_iconst (v := 0) E.1 E.2.1 dX3_init_41 rfl ?_
  refine c_put (v := .int 0) (k := 6) (ci := 3) (ty0 := tyX3) E w ⟨by omega, by omega⟩ (RT_k G k 3 F _) rfl uwX3 tyX3_ok nmX3 (by decide) fc_RX3_34 (Or.inl rfl) rfl rfl (Nat.le_of_ble_eq_true rfl) dX3_init_42 (fun H locs w => ?_)
  have w : CW G b s (k + 10) (RT G k 3 F [.ref (ad G (k + 1)), .int 0, .int (-1), .int 0, .int 0, .int 0, .int 0, .int 0, .int 0, .int 0, .int 0, .null, .null, .int 0, .int 0, .int 0, .int 0, .int 0, .int 0]) H locs := r_put w
  refine lv_aload_n E.1 E.2.1 dX3_init_45 rfl (lv_at hl 0 rfl) ?_
  refine lv_iconst (v := 0) E.1 E.2.1 dX3_init_46 rfl ?_
  refine c_put (v := .int 0) (k := 7) (ci := 3) (ty0 := tyX3) E w ⟨by omega, by omega⟩ (RT_k G k 3 F _) rfl uwX3 tyX3_ok nmX3 (by decide) fc_RX3_37 (Or.inl rfl) rfl rfl (Nat.le_of_ble_eq_true rfl) dX3_init_47 (fun H locs w => ?_)
  have w : CW G b s (k + 10) (RT G k 3 F [.ref (ad G (k + 1)), .int 0, .int (-1), .int 0, .int 0, .int 0, .int 0, .int 0, .int 0, .int 0, .int 0, .null, .null, .int 0, .int 0, .int 0, .int 0, .int 0, .int 0]) H locs := r_put w
  refine lv_aload_n E.1 E.2.1 dX3_init_50 rfl (lv_at hl 0 rfl) ?_
  refine lv_iconst (v := 0) E.1 E.2.1 dX3_init_51 rfl ?_
  refine c_put (v := .int 0) (k := 8) (ci := 3) (ty0 := tyX3) E w ⟨by omega, by omega⟩ (RT_k G k 3 F _) rfl uwX3 tyX3_ok nmX3 (by decide) fc_RX3_40 (Or.inl rfl) rfl rfl (Nat.le_of_ble_eq_true rfl) dX3_init_52 (fun H locs w => ?_)
  have w : CW G b s (k + 10) (RT G k 3 F [.ref (ad G (k + 1)), .int 0, .int (-1), .int 0, .int 0, .int 0, .int 0, .int 0, .int 0, .int 0, .int 0, .null, .null, .int 0, .int 0, .int 0, .int 0, .int 0, .int 0]) H locs := r_put w
  refine lv_aload_n E.1 E.2.1 dX3_init_55 rfl (lv_at hl 0 rfl) ?_
  refine lv_iconst (v := (-1)) E.1 E.2.1 dX3_init_56 rfl ?_
  refine c_put (v := .int (-1)) (k := 9) (ci := 3) (ty0 := tyX3) E w ⟨by omega, by omega⟩ (RT_k G k 3 F _) rfl uwX3 tyX3_ok nmX3 (by decide) fc_RX3_43 (Or.inl rfl) rfl rfl (Nat.le_of_ble_eq_true rfl) dX3_init_57 (fun H locs w => ?_)
  have w : CW G b s (k + 10) (RT G k 3 F [.ref (ad G (k + 1)), .int 0, .int (-1), .int 0, .int 0, .int 0, .int 0, .int 0, .int 0, .int (-1), .int 0, .null, .null, .int 0, .int 0, .int 0, .int 0, .int 0, .int 0]) H locs := r_put w
  refine lv_aload_n E.1 E.2.1 dX3_init_60 rfl (lv_at hl 0 rfl) ?_
  refine lv_iconst (v := (-1)) E.1 E.2.1 dX3_init_61 rfl ?_
  refine c_put (v := .int (-1)) (k := 10) (ci := 3) (ty0 := tyX3) E w ⟨by omega, by omega⟩ (RT_k G k 3 F _) rfl uwX3 tyX3_ok nmX3 (by decide) fc_RX3_46 (Or.inl rfl) rfl rfl (Nat.le_of_ble_eq_true rfl) dX3_init_62 (fun H locs w => ?_)
  have w : CW G b s (k + 10) (RT G k 3 F [.ref (ad G (k + 1)), .int 0, .int (-1), .int 0, .int 0, .int 0, .int 0, .int 0, .int 0, .int (-1), .int (-1), .null, .null, .int 0, .int 0, .int 0, .int 0, .int 0, .int 0]) H locs := r_put w
  refine lv_aload_n E.1 E.2.1 dX3_init_65 rfl (lv_at hl 0 rfl) ?_
  refine lv_iconst (v := 5) E.1 E.2.1 dX3_init_66 rfl ?_
  refine c_arr (atype := .int) (ty := .int) (kd := 13) (t0 := 1) E w rfl rfl (fun z => z) rfl (by show k + 11 < NN; omega) ac_int (x := 5) (L := 5) (by decide) (by decide) (by decide) (Nat.le_of_ble_eq_true rfl) (Nat.le_of_ble_eq_true rfl) dX3_init_67 (fun H w => ?_)
  have w := r_cell (by omega) w (cell_arr G s11 (by decide) (by intro z; have z2 : k = 227 := (by omega); subst z2; exact absurd hs (by decide)) l11)
  refine c_put (v := .ref (ad G (k + 11))) (k := 11) (ci := 3) (ty0 := tyX3) E w ⟨by omega, by omega⟩ (RT_k G k 3 F _) rfl uwX3 tyX3_ok nmX3 (by decide) fc_RX3_49 (Or.inr ⟨rfl, hin, rfl⟩) rfl rfl (Nat.le_of_ble_eq_true rfl) dX3_init_69 (fun H locs w => ?_)
  have w : CW G b s (k + 11) (RT G k 3 F [.ref (ad G (k + 1)), .int 0, .int (-1), .int 0, .int 0, .int 0, .int 0, .int 0, .int 0, .int (-1), .int (-1), .ref (ad G (k + 11)), .null, .int 0, .int 0, .int 0, .int 0, .int 0, .int 0]) H locs := r_put w
  refine lv_aload_n E.1 E.2.1 dX3_init_72 rfl (lv_at hl 0 rfl) ?_
  refine lv_iconst (v := 5) E.1 E.2.1 dX3_init_73 rfl ?_
  refine c_arr (atype := .int) (ty := .int) (kd := 13) (t0 := 1) E w rfl rfl (fun z => z) rfl (by show k + 12 < NN; omega) ac_int (x := 5) (L := 5) (by decide) (by decide) (by decide) (Nat.le_of_ble_eq_true rfl) (Nat.le_of_ble_eq_true rfl) dX3_init_74 (fun H w => ?_)
  have w := r_cell (by omega) w (cell_arr G s12 (by decide) (by intro z; have z2 : k = 226 := (by omega); subst z2; exact absurd hs (by decide)) l12)
  refine c_put (v := .ref (ad G (k + 12))) (k := 12) (ci := 3) (ty0 := tyX3) E w ⟨by omega, by omega⟩ (RT_k G k 3 F _) rfl uwX3 tyX3_ok nmX3 (by decide) fc_RX3_53 (Or.inr ⟨rfl, hin, rfl⟩) rfl rfl (Nat.le_of_ble_eq_true rfl) dX3_init_76 (fun H locs w => ?_)
  have w : CW G b s (k + 12) (RT G k 3 F [.ref (ad G (k + 1)), .int 0, .int (-1), .int 0, .int 0, .int 0, .int 0, .int 0, .int 0, .int (-1), .int (-1), .ref (ad G (k + 11)), .ref (ad G (k + 12)), .int 0, .int 0, .int 0, .int 0, .int 0, .int 0]) H locs := r_put w
  refine lv_aload_n E.1 E.2.1 dX3_init_79 rfl (lv_at hl 0 rfl) ?_
  refine lv_iconst (v := 0) E.1 E.2.1 dX3_init_80 rfl ?_
  refine c_put (v := .int 0) (k := 13) (ci := 3) (ty0 := tyX3) E w ⟨by omega, by omega⟩ (RT_k G k 3 F _) rfl uwX3 tyX3_ok nmX3 (by decide) fc_RX3_56 (Or.inl rfl) rfl rfl (Nat.le_of_ble_eq_true rfl) dX3_init_81 (fun H locs w => ?_)
  have w : CW G b s (k + 12) (RT G k 3 F [.ref (ad G (k + 1)), .int 0, .int (-1), .int 0, .int 0, .int 0, .int 0, .int 0, .int 0, .int (-1), .int (-1), .ref (ad G (k + 11)), .ref (ad G (k + 12)), .int 0, .int 0, .int 0, .int 0, .int 0, .int 0]) H locs := r_put w
  refine lv_aload_n E.1 E.2.1 dX3_init_84 rfl (lv_at hl 0 rfl) ?_
  refine lv_iconst (v := 0) E.1 E.2.1 dX3_init_85 rfl ?_
  refine c_put (v := .int 0) (k := 14) (ci := 3) (ty0 := tyX3) E w ⟨by omega, by omega⟩ (RT_k G k 3 F _) rfl uwX3 tyX3_ok nmX3 (by decide) fc_RX3_59 (Or.inl rfl) rfl rfl (Nat.le_of_ble_eq_true rfl) dX3_init_86 (fun H locs w => ?_)
  have w : CW G b s (k + 12) (RT G k 3 F [.ref (ad G (k + 1)), .int 0, .int (-1), .int 0, .int 0, .int 0, .int 0, .int 0, .int 0, .int (-1), .int (-1), .ref (ad G (k + 11)), .ref (ad G (k + 12)), .int 0, .int 0, .int 0, .int 0, .int 0, .int 0]) H locs := r_put w
  refine lv_aload_n E.1 E.2.1 dX3_init_89 rfl (lv_at hl 0 rfl) ?_
  refine lv_iconst (v := 0) E.1 E.2.1 dX3_init_90 rfl ?_
  refine c_put (v := .int 0) (k := 15) (ci := 3) (ty0 := tyX3) E w ⟨by omega, by omega⟩ (RT_k G k 3 F _) rfl uwX3 tyX3_ok nmX3 (by decide) fc_RX3_62 (Or.inl rfl) rfl rfl (Nat.le_of_ble_eq_true rfl) dX3_init_91 (fun H locs w => ?_)
  have w : CW G b s (k + 12) (RT G k 3 F [.ref (ad G (k + 1)), .int 0, .int (-1), .int 0, .int 0, .int 0, .int 0, .int 0, .int 0, .int (-1), .int (-1), .ref (ad G (k + 11)), .ref (ad G (k + 12)), .int 0, .int 0, .int 0, .int 0, .int 0, .int 0]) H locs := r_put w
  refine lv_aload_n E.1 E.2.1 dX3_init_94 rfl (lv_at hl 0 rfl) ?_
  refine lv_iconst (v := (-1)) E.1 E.2.1 dX3_init_95 rfl ?_
  refine c_put (v := .int (-1)) (k := 16) (ci := 3) (ty0 := tyX3) E w ⟨by omega, by omega⟩ (RT_k G k 3 F _) rfl uwX3 tyX3_ok nmX3 (by decide) fc_RX3_65 (Or.inl rfl) rfl rfl (Nat.le_of_ble_eq_true rfl) dX3_init_96 (fun H locs w => ?_)
  have w : CW G b s (k + 12) (RT G k 3 F [.ref (ad G (k + 1)), .int 0, .int (-1), .int 0, .int 0, .int 0, .int 0, .int 0, .int 0, .int (-1), .int (-1), .ref (ad G (k + 11)), .ref (ad G (k + 12)), .int 0, .int 0, .int 0, .int (-1), .int 0, .int 0]) H locs := r_put w
  refine lv_aload_n E.1 E.2.1 dX3_init_99 rfl (lv_at hl 0 rfl) ?_
  refine lv_iconst (v := (-1)) E.1 E.2.1 dX3_init_100 rfl ?_
  refine c_put (v := .int (-1)) (k := 17) (ci := 3) (ty0 := tyX3) E w ⟨by omega, by omega⟩ (RT_k G k 3 F _) rfl uwX3 tyX3_ok nmX3 (by decide) fc_RX3_68 (Or.inl rfl) rfl rfl (Nat.le_of_ble_eq_true rfl) dX3_init_101 (fun H locs w => ?_)
  have w : CW G b s (k + 12) (RT G k 3 F [.ref (ad G (k + 1)), .int 0, .int (-1), .int 0, .int 0, .int 0, .int 0, .int 0, .int 0, .int (-1), .int (-1), .ref (ad G (k + 11)), .ref (ad G (k + 12)), .int 0, .int 0, .int 0, .int (-1), .int (-1), .int 0]) H locs := r_put w
  refine lv_aload_n E.1 E.2.1 dX3_init_104 rfl (lv_at hl 0 rfl) ?_
  refine lv_iconst (v := 0) E.1 E.2.1 dX3_init_105 rfl ?_
  refine c_put (v := .int 0) (k := 18) (ci := 3) (ty0 := tyX3) E w ⟨by omega, by omega⟩ (RT_k G k 3 F _) rfl uwX3 tyX3_ok nmX3 (by decide) fc_RX3_71 (Or.inl rfl) rfl rfl (Nat.le_of_ble_eq_true rfl) dX3_init_106 (fun H locs w => ?_)
  have w : CW G b s (k + 12) (RT G k 3 F [.ref (ad G (k + 1)), .int 0, .int (-1), .int 0, .int 0, .int 0, .int 0, .int 0, .int 0, .int (-1), .int (-1), .ref (ad G (k + 11)), .ref (ad G (k + 12)), .int 0, .int 0, .int 0, .int (-1), .int (-1), .int 0]) H locs := r_put w
  have h238 : ¬ k = 238 := fun z => by subst z; exact absurd hs (by decide)
  have w := r_end w hs (by decide) (by
    have e : fsO G hI k 3 = [.ref (ad G (k + 1)), .int 0, .int (-1), .int 0, .int 0, .int 0, .int 0, .int 0, .int 0, .int (-1), .int (-1), .ref (ad G (k + 11)), .ref (ad G (k + 12)), .int 0, .int 0, .int 0, .int (-1), .int (-1), .int 0] := by
      simp [fsO, fk, fkL, fv, hI, hs, iniL, rfv, h238]
    exact e)
  exact c_vret E w hr hlk dX3_init_109
set_option maxRecDepth 8000 in
set_option maxHeartbeats 4000000 in
theorem X4_init_n {l : Launch} {G : GT} {b k : Nat} {F : Nat → va_E} (hs : sh k = 4) (hF : F k = .inr (4, [.null, .null, .int 0, .int 0, .null, .int 0, .int 0, .int 0, .int 0, .int 0, .null])) : CN l G yX4_init cX4_init 1 2 45 14 161 [.ref (ad G k)] b k F (k + 14) (FN G k F) := by
  have hk0 : 0 < k := sh_pos (by omega)
  have hkn : k + 14 < NN := by have := (by decide +kernel : ∀ k, k < 257 → sh k = 4 → k + 14 < 257) k (sh_lt (by omega)) hs; exact this
  have hNN : NN = 257 := rfl
  have s1 : sh (k + 1) = 1 := (by decide +kernel : ∀ k, k < 257 → sh k = 4 → sh (k + 1) = 1) k (sh_lt (by omega)) hs
  have s11 : sh (k + 11) = 6 := (by decide +kernel : ∀ k, k < 257 → sh k = 4 → sh (k + 11) = 6) k (sh_lt (by omega)) hs
  have l12 : ln (k + 12) = 40 := (by decide +kernel : ∀ k, k < 257 → sh k = 4 → ln (k + 12) = 40) k (sh_lt (by omega)) hs
  have l13 : ln (k + 13) = 40 := (by decide +kernel : ∀ k, k < 257 → sh k = 4 → ln (k + 13) = 40) k (sh_lt (by omega)) hs
  have s14 : sh (k + 14) = 13 := (by decide +kernel : ∀ k, k < 257 → sh k = 4 → sh (k + 14) = 13) k (sh_lt (by omega)) hs
  have l14 : ln (k + 14) = 4 := (by decide +kernel : ∀ k, k < 257 → sh k = 4 → ln (k + 14) = 4) k (sh_lt (by omega)) hs
  refine CN.of (by decide) (Nat.le_of_ble_eq_true rfl) ?_
  intro p e s m below meth c ls E hr hlk hin w hl
  have hl : lv_has ls 1 [(0, .ref (ad G k))] := hl
  have w := r_start w hF
  refine lv_aload_n E.1 E.2.1 dX4_init_0 rfl (lv_at hl 0 rfl) ?_
  refine c_objInit E oi_RX4 hl.1 ⟨Nat.le_of_ble_eq_true rfl, Nat.le_of_ble_eq_true rfl⟩ dX4_init_1 ?_
  refine lv_aload_n E.1 E.2.1 dX4_init_4 rfl (lv_at hl 0 rfl) ?_
  refine c_new (ci := 1) E w [.int 0, .int 0, .int 0, .int 0, .int 0, .null, .null, .null, .null, .null, .null, .null, .null, .null] (by show k + 1 < NN; omega) rfl uwX1 tyX1_ok nw_RX4_9 (by decide) (Nat.le_of_ble_eq_true rfl) (Nat.le_of_ble_eq_true rfl) dX4_init_5 (fun H w => ?_)
  refine lv_dup E.1 E.2.1 dX4_init_8 rfl ?_
  refine c_call (k := k + 1) (As := []) (rest := [.ref (ad G (k + 1)), .ref (ad G (k))]) E w (X1_init_n s1 (by simp [va_up])) mi_RX4_11 rfl rfl hl.1 ⟨Nat.le_of_ble_eq_true rfl, Nat.le_of_ble_eq_true rfl⟩ (Nat.le_of_ble_eq_true rfl) ⟨Nat.le_of_ble_eq_true rfl, Nat.le_of_ble_eq_true rfl⟩ dX4_init_9 (fun H locs w => ?_)
  have w := r_sub (fun i hi => RT_gt G F _ (by omega)) w
  have w : CW G b s (k + 10) (RT G k 4 F [.null, .null, .int 0, .int 0, .null, .int 0, .int 0, .int 0, .int 0, .int 0, .null]) H locs := w
  refine c_put (v := .ref (ad G (k + 1))) (k := 0) (ci := 4) (ty0 := tyX4) E w ⟨by omega, by omega⟩ (RT_k G k 4 F _) rfl uwX4 tyX4_ok nmX4 (by decide) fc_RX4_12 (Or.inr ⟨rfl, hin, rfl⟩) rfl rfl (Nat.le_of_ble_eq_true rfl) dX4_init_12 (fun H locs w => ?_)
  have w : CW G b s (k + 10) (RT G k 4 F [.ref (ad G (k + 1)), .null, .int 0, .int 0, .null, .int 0, .int 0, .int 0, .int 0, .int 0, .null]) H locs := r_put w
  refine lv_aload_n E.1 E.2.1 dX4_init_15 rfl (lv_at hl 0 rfl) ?_
  refine c_new (ci := 6) E w [.int 0, .null, .null, .int 0] (by show k + 11 < NN; omega) rfl uwX6 tyX6_ok nw_RX4_18 (by decide) (Nat.le_of_ble_eq_true rfl) (Nat.le_of_ble_eq_true rfl) dX4_init_16 (fun H w => ?_)
  refine lv_dup E.1 E.2.1 dX4_init_19 rfl ?_
  refine lv_bipush (v := 40) E.1 E.2.1 dX4_init_20 rfl ?_
  refine c_call (k := k + 11) (As := [.int 40]) (rest := [.ref (ad G (k + 11)), .ref (ad G (k))]) E w (X6_init_40_n s11 ⟨l12, l13⟩ (by simp [va_up])) mi_RX4_20 rfl rfl hl.1 ⟨Nat.le_of_ble_eq_true rfl, Nat.le_of_ble_eq_true rfl⟩ (Nat.le_of_ble_eq_true rfl) ⟨Nat.le_of_ble_eq_true rfl, Nat.le_of_ble_eq_true rfl⟩ dX4_init_22 (fun H locs w => ?_)
  have w := r_sub (fun i hi => RT_gt G F _ (by omega)) w
  have w : CW G b s (k + 13) (RT G k 4 F [.ref (ad G (k + 1)), .null, .int 0, .int 0, .null, .int 0, .int 0, .int 0, .int 0, .int 0, .null]) H locs := w
  refine c_put (v := .ref (ad G (k + 11))) (k := 1) (ci := 4) (ty0 := tyX4) E w ⟨by omega, by omega⟩ (RT_k G k 4 F _) rfl uwX4 tyX4_ok nmX4 (by decide) fc_RX4_23 (Or.inr ⟨rfl, hin, rfl⟩) rfl rfl (Nat.le_of_ble_eq_true rfl) dX4_init_25 (fun H locs w => ?_)
  have w : CW G b s (k + 13) (RT G k 4 F [.ref (ad G (k + 1)), .ref (ad G (k + 11)), .int 0, .int 0, .null, .int 0, .int 0, .int 0, .int 0, .int 0, .null]) H locs := r_put w
  refine lv_aload_n E.1 E.2.1 dX4_init_28 rfl (lv_at hl 0 rfl) ?_
  refine lv_iconst (v := 0) E.1 E.2.1 dX4_init_29 rfl ?_
  refine c_put (v := .int 0) (k := 2) (ci := 4) (ty0 := tyX4) E w ⟨by omega, by omega⟩ (RT_k G k 4 F _) rfl uwX4 tyX4_ok nmX4 (by decide) fc_RX4_27 (Or.inl rfl) rfl rfl (Nat.le_of_ble_eq_true rfl) dX4_init_30 (fun H locs w => ?_)
  have w : CW G b s (k + 13) (RT G k 4 F [.ref (ad G (k + 1)), .ref (ad G (k + 11)), .int 0, .int 0, .null, .int 0, .int 0, .int 0, .int 0, .int 0, .null]) H locs := r_put w
  refine lv_aload_n E.1 E.2.1 dX4_init_33 rfl (lv_at hl 0 rfl) ?_
  refine lv_iconst (v := (-1)) E.1 E.2.1 dX4_init_34 rfl ?_
  refine c_put (v := .int (-1)) (k := 3) (ci := 4) (ty0 := tyX4) E w ⟨by omega, by omega⟩ (RT_k G k 4 F _) rfl uwX4 tyX4_ok nmX4 (by decide) fc_RX4_31 (Or.inl rfl) rfl rfl (Nat.le_of_ble_eq_true rfl) dX4_init_35 (fun H locs w => ?_)
  have w : CW G b s (k + 13) (RT G k 4 F [.ref (ad G (k + 1)), .ref (ad G (k + 11)), .int 0, .int (-1), .null, .int 0, .int 0, .int 0, .int 0, .int 0, .null]) H locs := r_put w
  refine lv_aload_n E.1 E.2.1 dX4_init_38 rfl (lv_at hl 0 rfl) ?_
  refine lv_null E.1 E.2.1 dX4_init_39 ?_
  refine c_put (v := .null) (k := 4) (ci := 4) (ty0 := tyX4) E w ⟨by omega, by omega⟩ (RT_k G k 4 F _) rfl uwX4 tyX4_ok nmX4 (by decide) fc_RX4_34 (Or.inl rfl) rfl rfl (Nat.le_of_ble_eq_true rfl) dX4_init_40 (fun H locs w => ?_)
  have w : CW G b s (k + 13) (RT G k 4 F [.ref (ad G (k + 1)), .ref (ad G (k + 11)), .int 0, .int (-1), .null, .int 0, .int 0, .int 0, .int 0, .int 0, .null]) H locs := r_put w
  refine lv_aload_n E.1 E.2.1 dX4_init_43 rfl (lv_at hl 0 rfl) ?_
  refine lv_iconst (v := 0) E.1 E.2.1 dX4_init_44 rfl ?_
  refine c_put (v := .int 0) (k := 5) (ci := 4) (ty0 := tyX4) E w ⟨by omega, by omega⟩ (RT_k G k 4 F _) rfl uwX4 tyX4_ok nmX4 (by decide) fc_RX4_38 (Or.inl rfl) rfl rfl (Nat.le_of_ble_eq_true rfl) dX4_init_45 (fun H locs w => ?_)
  have w : CW G b s (k + 13) (RT G k 4 F [.ref (ad G (k + 1)), .ref (ad G (k + 11)), .int 0, .int (-1), .null, .int 0, .int 0, .int 0, .int 0, .int 0, .null]) H locs := r_put w
  refine lv_aload_n E.1 E.2.1 dX4_init_48 rfl (lv_at hl 0 rfl) ?_
  refine lv_iconst (v := 0) E.1 E.2.1 dX4_init_49 rfl ?_
  refine c_put (v := .int 0) (k := 6) (ci := 4) (ty0 := tyX4) E w ⟨by omega, by omega⟩ (RT_k G k 4 F _) rfl uwX4 tyX4_ok nmX4 (by decide) fc_RX4_41 (Or.inl rfl) rfl rfl (Nat.le_of_ble_eq_true rfl) dX4_init_50 (fun H locs w => ?_)
  have w : CW G b s (k + 13) (RT G k 4 F [.ref (ad G (k + 1)), .ref (ad G (k + 11)), .int 0, .int (-1), .null, .int 0, .int 0, .int 0, .int 0, .int 0, .null]) H locs := r_put w
  refine lv_aload_n E.1 E.2.1 dX4_init_53 rfl (lv_at hl 0 rfl) ?_
  refine lv_iconst (v := 0) E.1 E.2.1 dX4_init_54 rfl ?_
  refine c_put (v := .int 0) (k := 7) (ci := 4) (ty0 := tyX4) E w ⟨by omega, by omega⟩ (RT_k G k 4 F _) rfl uwX4 tyX4_ok nmX4 (by decide) fc_RX4_44 (Or.inl rfl) rfl rfl (Nat.le_of_ble_eq_true rfl) dX4_init_55 (fun H locs w => ?_)
  have w : CW G b s (k + 13) (RT G k 4 F [.ref (ad G (k + 1)), .ref (ad G (k + 11)), .int 0, .int (-1), .null, .int 0, .int 0, .int 0, .int 0, .int 0, .null]) H locs := r_put w
  refine lv_aload_n E.1 E.2.1 dX4_init_58 rfl (lv_at hl 0 rfl) ?_
  refine lv_iconst (v := 0) E.1 E.2.1 dX4_init_59 rfl ?_
  refine c_put (v := .int 0) (k := 8) (ci := 4) (ty0 := tyX4) E w ⟨by omega, by omega⟩ (RT_k G k 4 F _) rfl uwX4 tyX4_ok nmX4 (by decide) fc_RX4_47 (Or.inl rfl) rfl rfl (Nat.le_of_ble_eq_true rfl) dX4_init_60 (fun H locs w => ?_)
  have w : CW G b s (k + 13) (RT G k 4 F [.ref (ad G (k + 1)), .ref (ad G (k + 11)), .int 0, .int (-1), .null, .int 0, .int 0, .int 0, .int 0, .int 0, .null]) H locs := r_put w
  refine lv_aload_n E.1 E.2.1 dX4_init_63 rfl (lv_at hl 0 rfl) ?_
  refine lv_iconst (v := 0) E.1 E.2.1 dX4_init_64 rfl ?_
  refine c_put (v := .int 0) (k := 9) (ci := 4) (ty0 := tyX4) E w ⟨by omega, by omega⟩ (RT_k G k 4 F _) rfl uwX4 tyX4_ok nmX4 (by decide) fc_RX4_50 (Or.inl rfl) rfl rfl (Nat.le_of_ble_eq_true rfl) dX4_init_65 (fun H locs w => ?_)
  have w : CW G b s (k + 13) (RT G k 4 F [.ref (ad G (k + 1)), .ref (ad G (k + 11)), .int 0, .int (-1), .null, .int 0, .int 0, .int 0, .int 0, .int 0, .null]) H locs := r_put w
  refine lv_aload_n E.1 E.2.1 dX4_init_68 rfl (lv_at hl 0 rfl) ?_
  refine lv_iconst (v := 4) E.1 E.2.1 dX4_init_69 rfl ?_
  refine c_arr (atype := .int) (ty := .int) (kd := 13) (t0 := 1) E w rfl rfl (fun z => z) rfl (by show k + 14 < NN; omega) ac_int (x := 4) (L := 4) (by decide) (by decide) (by decide) (Nat.le_of_ble_eq_true rfl) (Nat.le_of_ble_eq_true rfl) dX4_init_70 (fun H w => ?_)
  have w := r_cell (by omega) w (cell_arr G s14 (by decide) (by intro z; have z2 : k = 224 := (by omega); subst z2; exact absurd hs (by decide)) l14)
  refine c_put (v := .ref (ad G (k + 14))) (k := 10) (ci := 4) (ty0 := tyX4) E w ⟨by omega, by omega⟩ (RT_k G k 4 F _) rfl uwX4 tyX4_ok nmX4 (by decide) fc_RX4_53 (Or.inr ⟨rfl, hin, rfl⟩) rfl rfl (Nat.le_of_ble_eq_true rfl) dX4_init_72 (fun H locs w => ?_)
  have w : CW G b s (k + 14) (RT G k 4 F [.ref (ad G (k + 1)), .ref (ad G (k + 11)), .int 0, .int (-1), .null, .int 0, .int 0, .int 0, .int 0, .int 0, .ref (ad G (k + 14))]) H locs := r_put w
  have h238 : ¬ k = 238 := fun z => by subst z; exact absurd hs (by decide)
  have w := r_end w hs (by decide) (by
    have e : fsO G hI k 4 = [.ref (ad G (k + 1)), .ref (ad G (k + 11)), .int 0, .int (-1), .null, .int 0, .int 0, .int 0, .int 0, .int 0, .ref (ad G (k + 14))] := by
      simp [fsO, fk, fkL, fv, hI, hs, iniL, rfv, h238]
    exact e)
  exact c_vret E w hr hlk dX4_init_75
set_option maxRecDepth 8000 in
set_option maxHeartbeats 4000000 in
theorem X5_init_n {l : Launch} {G : GT} {b k : Nat} {F : Nat → va_E} (hs : sh k = 5) (hF : F k = .inr (5, [.null, .int 0, .int 0, .null, .null, .null])) : CN l G yX5_init cX5_init 1 2 40 13 96 [.ref (ad G k)] b k F (k + 13) (FN G k F) := by
  have hk0 : 0 < k := sh_pos (by omega)
  have hkn : k + 13 < NN := by have := (by decide +kernel : ∀ k, k < 257 → sh k = 5 → k + 13 < 257) k (sh_lt (by omega)) hs; exact this
  have hNN : NN = 257 := rfl
  have s1 : sh (k + 1) = 1 := (by decide +kernel : ∀ k, k < 257 → sh k = 5 → sh (k + 1) = 1) k (sh_lt (by omega)) hs
  have s11 : sh (k + 11) = 13 := (by decide +kernel : ∀ k, k < 257 → sh k = 5 → sh (k + 11) = 13) k (sh_lt (by omega)) hs
  have l11 : ln (k + 11) = 6 := (by decide +kernel : ∀ k, k < 257 → sh k = 5 → ln (k + 11) = 6) k (sh_lt (by omega)) hs
  have s12 : sh (k + 12) = 13 := (by decide +kernel : ∀ k, k < 257 → sh k = 5 → sh (k + 12) = 13) k (sh_lt (by omega)) hs
  have l12 : ln (k + 12) = 8 := (by decide +kernel : ∀ k, k < 257 → sh k = 5 → ln (k + 12) = 8) k (sh_lt (by omega)) hs
  have s13 : sh (k + 13) = 13 := (by decide +kernel : ∀ k, k < 257 → sh k = 5 → sh (k + 13) = 13) k (sh_lt (by omega)) hs
  have l13 : ln (k + 13) = 9 := (by decide +kernel : ∀ k, k < 257 → sh k = 5 → ln (k + 13) = 9) k (sh_lt (by omega)) hs
  refine CN.of (by decide) (Nat.le_of_ble_eq_true rfl) ?_
  intro p e s m below meth c ls E hr hlk hin w hl
  have hl : lv_has ls 1 [(0, .ref (ad G k))] := hl
  have w := r_start w hF
  refine lv_aload_n E.1 E.2.1 dX5_init_0 rfl (lv_at hl 0 rfl) ?_
  refine c_objInit E oi_RX5 hl.1 ⟨Nat.le_of_ble_eq_true rfl, Nat.le_of_ble_eq_true rfl⟩ dX5_init_1 ?_
  refine lv_aload_n E.1 E.2.1 dX5_init_4 rfl (lv_at hl 0 rfl) ?_
  refine c_new (ci := 1) E w [.int 0, .int 0, .int 0, .int 0, .int 0, .null, .null, .null, .null, .null, .null, .null, .null, .null] (by show k + 1 < NN; omega) rfl uwX1 tyX1_ok nw_RX5_9 (by decide) (Nat.le_of_ble_eq_true rfl) (Nat.le_of_ble_eq_true rfl) dX5_init_5 (fun H w => ?_)
  refine lv_dup E.1 E.2.1 dX5_init_8 rfl ?_
  refine c_call (k := k + 1) (As := []) (rest := [.ref (ad G (k + 1)), .ref (ad G (k))]) E w (X1_init_n s1 (by simp [va_up])) mi_RX5_11 rfl rfl hl.1 ⟨Nat.le_of_ble_eq_true rfl, Nat.le_of_ble_eq_true rfl⟩ (Nat.le_of_ble_eq_true rfl) ⟨Nat.le_of_ble_eq_true rfl, Nat.le_of_ble_eq_true rfl⟩ dX5_init_9 (fun H locs w => ?_)
  have w := r_sub (fun i hi => RT_gt G F _ (by omega)) w
  have w : CW G b s (k + 10) (RT G k 5 F [.null, .int 0, .int 0, .null, .null, .null]) H locs := w
  refine c_put (v := .ref (ad G (k + 1))) (k := 0) (ci := 5) (ty0 := tyX5) E w ⟨by omega, by omega⟩ (RT_k G k 5 F _) rfl uwX5 tyX5_ok nmX5 (by decide) fc_RX5_12 (Or.inl rfl) rfl rfl (Nat.le_of_ble_eq_true rfl) dX5_init_12 (fun H locs w => ?_)
  have w : CW G b s (k + 10) (RT G k 5 F [.ref (ad G (k + 1)), .int 0, .int 0, .null, .null, .null]) H locs := r_put w
  refine lv_aload_n E.1 E.2.1 dX5_init_15 rfl (lv_at hl 0 rfl) ?_
  refine lv_iconst (v := 0) E.1 E.2.1 dX5_init_16 rfl ?_
  refine c_put (v := .int 0) (k := 1) (ci := 5) (ty0 := tyX5) E w ⟨by omega, by omega⟩ (RT_k G k 5 F _) rfl uwX5 tyX5_ok nmX5 (by decide) fc_RX5_18 (Or.inl rfl) rfl rfl (Nat.le_of_ble_eq_true rfl) dX5_init_17 (fun H locs w => ?_)
  have w : CW G b s (k + 10) (RT G k 5 F [.ref (ad G (k + 1)), .int 0, .int 0, .null, .null, .null]) H locs := r_put w
  refine lv_aload_n E.1 E.2.1 dX5_init_20 rfl (lv_at hl 0 rfl) ?_
  refine lv_iconst (v := 0) E.1 E.2.1 dX5_init_21 rfl ?_
  refine c_put (v := .int 0) (k := 2) (ci := 5) (ty0 := tyX5) E w ⟨by omega, by omega⟩ (RT_k G k 5 F _) rfl uwX5 tyX5_ok nmX5 (by decide) fc_RX5_22 (Or.inl rfl) rfl rfl (Nat.le_of_ble_eq_true rfl) dX5_init_22 (fun H locs w => ?_)
  have w : CW G b s (k + 10) (RT G k 5 F [.ref (ad G (k + 1)), .int 0, .int 0, .null, .null, .null]) H locs := r_put w
  refine lv_aload_n E.1 E.2.1 dX5_init_25 rfl (lv_at hl 0 rfl) ?_
  refine lv_bipush (v := 6) E.1 E.2.1 dX5_init_26 rfl ?_
  refine c_arr (atype := .int) (ty := .int) (kd := 13) (t0 := 1) E w rfl rfl (fun z => z) rfl (by show k + 11 < NN; omega) ac_int (x := 6) (L := 6) (by decide) (by decide) (by decide) (Nat.le_of_ble_eq_true rfl) (Nat.le_of_ble_eq_true rfl) dX5_init_28 (fun H w => ?_)
  have w := r_cell (by omega) w (cell_arr G s11 (by decide) (by intro z; have z2 : k = 227 := (by omega); subst z2; exact absurd hs (by decide)) l11)
  refine c_put (v := .ref (ad G (k + 11))) (k := 3) (ci := 5) (ty0 := tyX5) E w ⟨by omega, by omega⟩ (RT_k G k 5 F _) rfl uwX5 tyX5_ok nmX5 (by decide) fc_RX5_25 (Or.inr ⟨rfl, hin, rfl⟩) rfl rfl (Nat.le_of_ble_eq_true rfl) dX5_init_30 (fun H locs w => ?_)
  have w : CW G b s (k + 11) (RT G k 5 F [.ref (ad G (k + 1)), .int 0, .int 0, .ref (ad G (k + 11)), .null, .null]) H locs := r_put w
  refine lv_aload_n E.1 E.2.1 dX5_init_33 rfl (lv_at hl 0 rfl) ?_
  refine lv_bipush (v := 8) E.1 E.2.1 dX5_init_34 rfl ?_
  refine c_arr (atype := .int) (ty := .int) (kd := 13) (t0 := 1) E w rfl rfl (fun z => z) rfl (by show k + 12 < NN; omega) ac_int (x := 8) (L := 8) (by decide) (by decide) (by decide) (Nat.le_of_ble_eq_true rfl) (Nat.le_of_ble_eq_true rfl) dX5_init_36 (fun H w => ?_)
  have w := r_cell (by omega) w (cell_arr G s12 (by decide) (by intro z; have z2 : k = 226 := (by omega); subst z2; exact absurd hs (by decide)) l12)
  refine c_put (v := .ref (ad G (k + 12))) (k := 4) (ci := 5) (ty0 := tyX5) E w ⟨by omega, by omega⟩ (RT_k G k 5 F _) rfl uwX5 tyX5_ok nmX5 (by decide) fc_RX5_29 (Or.inr ⟨rfl, hin, rfl⟩) rfl rfl (Nat.le_of_ble_eq_true rfl) dX5_init_38 (fun H locs w => ?_)
  have w : CW G b s (k + 12) (RT G k 5 F [.ref (ad G (k + 1)), .int 0, .int 0, .ref (ad G (k + 11)), .ref (ad G (k + 12)), .null]) H locs := r_put w
  refine lv_aload_n E.1 E.2.1 dX5_init_41 rfl (lv_at hl 0 rfl) ?_
  refine lv_bipush (v := 9) E.1 E.2.1 dX5_init_42 rfl ?_
  refine c_arr (atype := .int) (ty := .int) (kd := 13) (t0 := 1) E w rfl rfl (fun z => z) rfl (by show k + 13 < NN; omega) ac_int (x := 9) (L := 9) (by decide) (by decide) (by decide) (Nat.le_of_ble_eq_true rfl) (Nat.le_of_ble_eq_true rfl) dX5_init_44 (fun H w => ?_)
  have w := r_cell (by omega) w (cell_arr G s13 (by decide) (by intro z; have z2 : k = 225 := (by omega); subst z2; exact absurd hs (by decide)) l13)
  refine c_put (v := .ref (ad G (k + 13))) (k := 5) (ci := 5) (ty0 := tyX5) E w ⟨by omega, by omega⟩ (RT_k G k 5 F _) rfl uwX5 tyX5_ok nmX5 (by decide) fc_RX5_32 (Or.inr ⟨rfl, hin, rfl⟩) rfl rfl (Nat.le_of_ble_eq_true rfl) dX5_init_46 (fun H locs w => ?_)
  have w : CW G b s (k + 13) (RT G k 5 F [.ref (ad G (k + 1)), .int 0, .int 0, .ref (ad G (k + 11)), .ref (ad G (k + 12)), .ref (ad G (k + 13))]) H locs := r_put w
  have h238 : ¬ k = 238 := fun z => by subst z; exact absurd hs (by decide)
  have w := r_end w hs (by decide) (by
    have e : fsO G hI k 5 = [.ref (ad G (k + 1)), .int 0, .int 0, .ref (ad G (k + 11)), .ref (ad G (k + 12)), .ref (ad G (k + 13))] := by
      simp [fsO, fk, fkL, fv, hI, hs, iniL, rfv, h238]
    exact e)
  exact c_vret E w hr hlk dX5_init_49
set_option maxRecDepth 8000 in
set_option maxHeartbeats 4000000 in
theorem X8_init_n {l : Launch} {G : GT} {b k : Nat} {F : Nat → va_E} (hs : sh k = 8) (hF : F k = .inr (8, [.null, .null, .null, .null])) : CN l G yX8_init cX8_init 1 2 40 13 101 [.ref (ad G k)] b k F (k + 13) (FN G k F) := by
  have hk0 : 0 < k := sh_pos (by omega)
  have hkn : k + 13 < NN := by have := (by decide +kernel : ∀ k, k < 257 → sh k = 8 → k + 13 < 257) k (sh_lt (by omega)) hs; exact this
  have hNN : NN = 257 := rfl
  have s1 : sh (k + 1) = 1 := (by decide +kernel : ∀ k, k < 257 → sh k = 8 → sh (k + 1) = 1) k (sh_lt (by omega)) hs
  have s11 : sh (k + 11) = 13 := (by decide +kernel : ∀ k, k < 257 → sh k = 8 → sh (k + 11) = 13) k (sh_lt (by omega)) hs
  have l11 : ln (k + 11) = 8 := (by decide +kernel : ∀ k, k < 257 → sh k = 8 → ln (k + 11) = 8) k (sh_lt (by omega)) hs
  have s12 : sh (k + 12) = 13 := (by decide +kernel : ∀ k, k < 257 → sh k = 8 → sh (k + 12) = 13) k (sh_lt (by omega)) hs
  have l12 : ln (k + 12) = 10 := (by decide +kernel : ∀ k, k < 257 → sh k = 8 → ln (k + 12) = 10) k (sh_lt (by omega)) hs
  have s13 : sh (k + 13) = 13 := (by decide +kernel : ∀ k, k < 257 → sh k = 8 → sh (k + 13) = 13) k (sh_lt (by omega)) hs
  have l13 : ln (k + 13) = 10 := (by decide +kernel : ∀ k, k < 257 → sh k = 8 → ln (k + 13) = 10) k (sh_lt (by omega)) hs
  refine CN.of (by decide) (Nat.le_of_ble_eq_true rfl) ?_
  intro p e s m below meth c ls E hr hlk hin w hl
  have hl : lv_has ls 1 [(0, .ref (ad G k))] := hl
  have w := r_start w hF
  refine lv_aload_n E.1 E.2.1 dX8_init_0 rfl (lv_at hl 0 rfl) ?_
  refine c_objInit E oi_RX8 hl.1 ⟨Nat.le_of_ble_eq_true rfl, Nat.le_of_ble_eq_true rfl⟩ dX8_init_1 ?_
  refine lv_aload_n E.1 E.2.1 dX8_init_4 rfl (lv_at hl 0 rfl) ?_
  refine c_new (ci := 1) E w [.int 0, .int 0, .int 0, .int 0, .int 0, .null, .null, .null, .null, .null, .null, .null, .null, .null] (by show k + 1 < NN; omega) rfl uwX1 tyX1_ok nw_RX8_9 (by decide) (Nat.le_of_ble_eq_true rfl) (Nat.le_of_ble_eq_true rfl) dX8_init_5 (fun H w => ?_)
  refine lv_dup E.1 E.2.1 dX8_init_8 rfl ?_
  refine c_call (k := k + 1) (As := []) (rest := [.ref (ad G (k + 1)), .ref (ad G (k))]) E w (X1_init_n s1 (by simp [va_up])) mi_RX8_11 rfl rfl hl.1 ⟨Nat.le_of_ble_eq_true rfl, Nat.le_of_ble_eq_true rfl⟩ (Nat.le_of_ble_eq_true rfl) ⟨Nat.le_of_ble_eq_true rfl, Nat.le_of_ble_eq_true rfl⟩ dX8_init_9 (fun H locs w => ?_)
  have w := r_sub (fun i hi => RT_gt G F _ (by omega)) w
  have w : CW G b s (k + 10) (RT G k 8 F [.null, .null, .null, .null]) H locs := w
  refine c_put (v := .ref (ad G (k + 1))) (k := 0) (ci := 8) (ty0 := tyX8) E w ⟨by omega, by omega⟩ (RT_k G k 8 F _) rfl uwX8 tyX8_ok nmX8 (by decide) fc_RX8_12 (Or.inl rfl) rfl rfl (Nat.le_of_ble_eq_true rfl) dX8_init_12 (fun H locs w => ?_)
  have w : CW G b s (k + 10) (RT G k 8 F [.ref (ad G (k + 1)), .null, .null, .null]) H locs := r_put w
  refine lv_aload_n E.1 E.2.1 dX8_init_15 rfl (lv_at hl 0 rfl) ?_
  refine lv_bipush (v := 8) E.1 E.2.1 dX8_init_16 rfl ?_
  refine c_arr (atype := .int) (ty := .int) (kd := 13) (t0 := 1) E w rfl rfl (fun z => z) rfl (by show k + 11 < NN; omega) ac_int (x := 8) (L := 8) (by decide) (by decide) (by decide) (Nat.le_of_ble_eq_true rfl) (Nat.le_of_ble_eq_true rfl) dX8_init_18 (fun H w => ?_)
  have w := r_cell (by omega) w (cell_arr G s11 (by decide) (by intro z; have z2 : k = 227 := (by omega); subst z2; exact absurd hs (by decide)) l11)
  refine c_put (v := .ref (ad G (k + 11))) (k := 1) (ci := 8) (ty0 := tyX8) E w ⟨by omega, by omega⟩ (RT_k G k 8 F _) rfl uwX8 tyX8_ok nmX8 (by decide) fc_RX8_18 (Or.inr ⟨rfl, hin, rfl⟩) rfl rfl (Nat.le_of_ble_eq_true rfl) dX8_init_20 (fun H locs w => ?_)
  have w : CW G b s (k + 11) (RT G k 8 F [.ref (ad G (k + 1)), .ref (ad G (k + 11)), .null, .null]) H locs := r_put w
  refine lv_aload_n E.1 E.2.1 dX8_init_23 rfl (lv_at hl 0 rfl) ?_
  refine lv_bipush (v := 10) E.1 E.2.1 dX8_init_24 rfl ?_
  refine c_arr (atype := .int) (ty := .int) (kd := 13) (t0 := 1) E w rfl rfl (fun z => z) rfl (by show k + 12 < NN; omega) ac_int (x := 10) (L := 10) (by decide) (by decide) (by decide) (Nat.le_of_ble_eq_true rfl) (Nat.le_of_ble_eq_true rfl) dX8_init_26 (fun H w => ?_)
  have w := r_cell (by omega) w (cell_arr G s12 (by decide) (by intro z; have z2 : k = 226 := (by omega); subst z2; exact absurd hs (by decide)) l12)
  refine c_put (v := .ref (ad G (k + 12))) (k := 2) (ci := 8) (ty0 := tyX8) E w ⟨by omega, by omega⟩ (RT_k G k 8 F _) rfl uwX8 tyX8_ok nmX8 (by decide) fc_RX8_22 (Or.inr ⟨rfl, hin, rfl⟩) rfl rfl (Nat.le_of_ble_eq_true rfl) dX8_init_28 (fun H locs w => ?_)
  have w : CW G b s (k + 12) (RT G k 8 F [.ref (ad G (k + 1)), .ref (ad G (k + 11)), .ref (ad G (k + 12)), .null]) H locs := r_put w
  refine lv_aload_n E.1 E.2.1 dX8_init_31 rfl (lv_at hl 0 rfl) ?_
  refine lv_bipush (v := 10) E.1 E.2.1 dX8_init_32 rfl ?_
  refine c_arr (atype := .int) (ty := .int) (kd := 13) (t0 := 1) E w rfl rfl (fun z => z) rfl (by show k + 13 < NN; omega) ac_int (x := 10) (L := 10) (by decide) (by decide) (by decide) (Nat.le_of_ble_eq_true rfl) (Nat.le_of_ble_eq_true rfl) dX8_init_34 (fun H w => ?_)
  have w := r_cell (by omega) w (cell_arr G s13 (by decide) (by intro z; have z2 : k = 225 := (by omega); subst z2; exact absurd hs (by decide)) l13)
  refine c_put (v := .ref (ad G (k + 13))) (k := 3) (ci := 8) (ty0 := tyX8) E w ⟨by omega, by omega⟩ (RT_k G k 8 F _) rfl uwX8 tyX8_ok nmX8 (by decide) fc_RX8_25 (Or.inr ⟨rfl, hin, rfl⟩) rfl rfl (Nat.le_of_ble_eq_true rfl) dX8_init_36 (fun H locs w => ?_)
  have w : CW G b s (k + 13) (RT G k 8 F [.ref (ad G (k + 1)), .ref (ad G (k + 11)), .ref (ad G (k + 12)), .ref (ad G (k + 13))]) H locs := r_put w
  have h238 : ¬ k = 238 := fun z => by subst z; exact absurd hs (by decide)
  have w := r_end w hs (by decide) (by
    have e : fsO G hI k 8 = [.ref (ad G (k + 1)), .ref (ad G (k + 11)), .ref (ad G (k + 12)), .ref (ad G (k + 13))] := by
      simp [fsO, fk, fkL, fv, hI, hs, iniL, rfv, h238]
    exact e)
  exact c_vret E w hr hlk dX8_init_39
set_option maxRecDepth 8000 in
set_option maxHeartbeats 4000000 in
theorem X9_init_n {l : Launch} {G : GT} {b k : Nat} {F : Nat → va_E} (hs : sh k = 9) (hF : F k = .inr (9, [.null, .int 0, .int 0, .int 0, .int 0, .int 0])) : CN l G yX9_init cX9_init 1 2 40 10 73 [.ref (ad G k)] b k F (k + 10) (FN G k F) := by
  have hk0 : 0 < k := sh_pos (by omega)
  have hkn : k + 10 < NN := by have := (by decide +kernel : ∀ k, k < 257 → sh k = 9 → k + 10 < 257) k (sh_lt (by omega)) hs; exact this
  have hNN : NN = 257 := rfl
  have s1 : sh (k + 1) = 1 := (by decide +kernel : ∀ k, k < 257 → sh k = 9 → sh (k + 1) = 1) k (sh_lt (by omega)) hs
  refine CN.of (by decide) (Nat.le_of_ble_eq_true rfl) ?_
  intro p e s m below meth c ls E hr hlk hin w hl
  have hl : lv_has ls 1 [(0, .ref (ad G k))] := hl
  have w := r_start w hF
  refine lv_aload_n E.1 E.2.1 dX9_init_0 rfl (lv_at hl 0 rfl) ?_
  refine c_objInit E oi_RX9 hl.1 ⟨Nat.le_of_ble_eq_true rfl, Nat.le_of_ble_eq_true rfl⟩ dX9_init_1 ?_
  refine lv_aload_n E.1 E.2.1 dX9_init_4 rfl (lv_at hl 0 rfl) ?_
  refine c_new (ci := 1) E w [.int 0, .int 0, .int 0, .int 0, .int 0, .null, .null, .null, .null, .null, .null, .null, .null, .null] (by show k + 1 < NN; omega) rfl uwX1 tyX1_ok nw_RX9_9 (by decide) (Nat.le_of_ble_eq_true rfl) (Nat.le_of_ble_eq_true rfl) dX9_init_5 (fun H w => ?_)
  refine lv_dup E.1 E.2.1 dX9_init_8 rfl ?_
  refine c_call (k := k + 1) (As := []) (rest := [.ref (ad G (k + 1)), .ref (ad G (k))]) E w (X1_init_n s1 (by simp [va_up])) mi_RX9_11 rfl rfl hl.1 ⟨Nat.le_of_ble_eq_true rfl, Nat.le_of_ble_eq_true rfl⟩ (Nat.le_of_ble_eq_true rfl) ⟨Nat.le_of_ble_eq_true rfl, Nat.le_of_ble_eq_true rfl⟩ dX9_init_9 (fun H locs w => ?_)
  have w := r_sub (fun i hi => RT_gt G F _ (by omega)) w
  have w : CW G b s (k + 10) (RT G k 9 F [.null, .int 0, .int 0, .int 0, .int 0, .int 0]) H locs := w
  refine c_put (v := .ref (ad G (k + 1))) (k := 0) (ci := 9) (ty0 := tyX9) E w ⟨by omega, by omega⟩ (RT_k G k 9 F _) rfl uwX9 tyX9_ok nmX9 (by decide) fc_RX9_12 (Or.inl rfl) rfl rfl (Nat.le_of_ble_eq_true rfl) dX9_init_12 (fun H locs w => ?_)
  have w : CW G b s (k + 10) (RT G k 9 F [.ref (ad G (k + 1)), .int 0, .int 0, .int 0, .int 0, .int 0]) H locs := r_put w
  refine lv_aload_n E.1 E.2.1 dX9_init_15 rfl (lv_at hl 0 rfl) ?_
  refine lv_iconst (v := 0) E.1 E.2.1 dX9_init_16 rfl ?_
  refine c_put (v := .int 0) (k := 1) (ci := 9) (ty0 := tyX9) E w ⟨by omega, by omega⟩ (RT_k G k 9 F _) rfl uwX9 tyX9_ok nmX9 (by decide) fc_RX9_18 (Or.inl rfl) rfl rfl (Nat.le_of_ble_eq_true rfl) dX9_init_17 (fun H locs w => ?_)
  have w : CW G b s (k + 10) (RT G k 9 F [.ref (ad G (k + 1)), .int 0, .int 0, .int 0, .int 0, .int 0]) H locs := r_put w
  refine lv_aload_n E.1 E.2.1 dX9_init_20 rfl (lv_at hl 0 rfl) ?_
  refine lv_iconst (v := 0) E.1 E.2.1 dX9_init_21 rfl ?_
  refine c_put (v := .int 0) (k := 2) (ci := 9) (ty0 := tyX9) E w ⟨by omega, by omega⟩ (RT_k G k 9 F _) rfl uwX9 tyX9_ok nmX9 (by decide) fc_RX9_22 (Or.inl rfl) rfl rfl (Nat.le_of_ble_eq_true rfl) dX9_init_22 (fun H locs w => ?_)
  have w : CW G b s (k + 10) (RT G k 9 F [.ref (ad G (k + 1)), .int 0, .int 0, .int 0, .int 0, .int 0]) H locs := r_put w
  refine lv_aload_n E.1 E.2.1 dX9_init_25 rfl (lv_at hl 0 rfl) ?_
  refine lv_iconst (v := 0) E.1 E.2.1 dX9_init_26 rfl ?_
  refine c_put (v := .int 0) (k := 3) (ci := 9) (ty0 := tyX9) E w ⟨by omega, by omega⟩ (RT_k G k 9 F _) rfl uwX9 tyX9_ok nmX9 (by decide) fc_RX9_25 (Or.inl rfl) rfl rfl (Nat.le_of_ble_eq_true rfl) dX9_init_27 (fun H locs w => ?_)
  have w : CW G b s (k + 10) (RT G k 9 F [.ref (ad G (k + 1)), .int 0, .int 0, .int 0, .int 0, .int 0]) H locs := r_put w
  refine lv_aload_n E.1 E.2.1 dX9_init_30 rfl (lv_at hl 0 rfl) ?_
  refine lv_iconst (v := 0) E.1 E.2.1 dX9_init_31 rfl ?_
  refine c_put (v := .int 0) (k := 4) (ci := 9) (ty0 := tyX9) E w ⟨by omega, by omega⟩ (RT_k G k 9 F _) rfl uwX9 tyX9_ok nmX9 (by decide) fc_RX9_28 (Or.inl rfl) rfl rfl (Nat.le_of_ble_eq_true rfl) dX9_init_32 (fun H locs w => ?_)
  have w : CW G b s (k + 10) (RT G k 9 F [.ref (ad G (k + 1)), .int 0, .int 0, .int 0, .int 0, .int 0]) H locs := r_put w
  refine lv_aload_n E.1 E.2.1 dX9_init_35 rfl (lv_at hl 0 rfl) ?_
  refine lv_iconst (v := (-1)) E.1 E.2.1 dX9_init_36 rfl ?_
  refine c_put (v := .int (-1)) (k := 5) (ci := 9) (ty0 := tyX9) E w ⟨by omega, by omega⟩ (RT_k G k 9 F _) rfl uwX9 tyX9_ok nmX9 (by decide) fc_RX9_31 (Or.inl rfl) rfl rfl (Nat.le_of_ble_eq_true rfl) dX9_init_37 (fun H locs w => ?_)
  have w : CW G b s (k + 10) (RT G k 9 F [.ref (ad G (k + 1)), .int 0, .int 0, .int 0, .int 0, .int (-1)]) H locs := r_put w
  have h238 : ¬ k = 238 := fun z => by subst z; exact absurd hs (by decide)
  have w := r_end w hs (by decide) (by
    have e : fsO G hI k 9 = [.ref (ad G (k + 1)), .int 0, .int 0, .int 0, .int 0, .int (-1)] := by
      simp [fsO, fk, fkL, fv, hI, hs, iniL, rfv, h238]
    exact e)
  exact c_vret E w hr hlk dX9_init_40
