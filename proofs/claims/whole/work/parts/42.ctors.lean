set_option maxRecDepth 8000 in
set_option maxHeartbeats 4000000 in
theorem X1_init_n {l : Launch} {G : GT} {b k : Nat} {F : Nat → va_E} (hs : sh k = 1) (hF : F k = .inr (1, [.int 0, .int 0, .int 0, .int 0, .int 0, .null, .null, .null, .null, .null, .null, .null, .null, .null])) : CN l G yX1_init cX1_init 1 1 20 9 59 [.ref (ad G k)] b k F (k + 9) (FN G k F) := by
  have hk0 : 0 < k := sh_pos (by omega)
  have hkn : k + 9 < NN := by have := (by decide +kernel : ∀ k, k < 257 → sh k = 1 → k + 9 < 257) k (sh_lt (by omega)) hs; exact this
  have hNN : NN = 257 := rfl
  have s1 : sh (k + 1) = 13 := (by decide +kernel : ∀ k, k < 257 → sh k = 1 → sh (k + 1) = 13) k (sh_lt (by omega)) hs
  have l1 : ln (k + 1) = 6 := (by decide +kernel : ∀ k, k < 257 → sh k = 1 → ln (k + 1) = 6) k (sh_lt (by omega)) hs
  have s2 : sh (k + 2) = 13 := (by decide +kernel : ∀ k, k < 257 → sh k = 1 → sh (k + 2) = 13) k (sh_lt (by omega)) hs
  have l2 : ln (k + 2) = 6 := (by decide +kernel : ∀ k, k < 257 → sh k = 1 → ln (k + 2) = 6) k (sh_lt (by omega)) hs
  have s3 : sh (k + 3) = 13 := (by decide +kernel : ∀ k, k < 257 → sh k = 1 → sh (k + 3) = 13) k (sh_lt (by omega)) hs
  have l3 : ln (k + 3) = 8 := (by decide +kernel : ∀ k, k < 257 → sh k = 1 → ln (k + 3) = 8) k (sh_lt (by omega)) hs
  have s4 : sh (k + 4) = 13 := (by decide +kernel : ∀ k, k < 257 → sh k = 1 → sh (k + 4) = 13) k (sh_lt (by omega)) hs
  have l4 : ln (k + 4) = 8 := (by decide +kernel : ∀ k, k < 257 → sh k = 1 → ln (k + 4) = 8) k (sh_lt (by omega)) hs
  have s5 : sh (k + 5) = 13 := (by decide +kernel : ∀ k, k < 257 → sh k = 1 → sh (k + 5) = 13) k (sh_lt (by omega)) hs
  have l5 : ln (k + 5) = 8 := (by decide +kernel : ∀ k, k < 257 → sh k = 1 → ln (k + 5) = 8) k (sh_lt (by omega)) hs
  have s6 : sh (k + 6) = 13 := (by decide +kernel : ∀ k, k < 257 → sh k = 1 → sh (k + 6) = 13) k (sh_lt (by omega)) hs
  have l6 : ln (k + 6) = 8 := (by decide +kernel : ∀ k, k < 257 → sh k = 1 → ln (k + 6) = 8) k (sh_lt (by omega)) hs
  have s7 : sh (k + 7) = 13 := (by decide +kernel : ∀ k, k < 257 → sh k = 1 → sh (k + 7) = 13) k (sh_lt (by omega)) hs
  have l7 : ln (k + 7) = 5 := (by decide +kernel : ∀ k, k < 257 → sh k = 1 → ln (k + 7) = 5) k (sh_lt (by omega)) hs
  have s8 : sh (k + 8) = 13 := (by decide +kernel : ∀ k, k < 257 → sh k = 1 → sh (k + 8) = 13) k (sh_lt (by omega)) hs
  have l8 : ln (k + 8) = 5 := (by decide +kernel : ∀ k, k < 257 → sh k = 1 → ln (k + 8) = 5) k (sh_lt (by omega)) hs
  have s9 : sh (k + 9) = 13 := (by decide +kernel : ∀ k, k < 257 → sh k = 1 → sh (k + 9) = 13) k (sh_lt (by omega)) hs
  have l9 : ln (k + 9) = 5 := (by decide +kernel : ∀ k, k < 257 → sh k = 1 → ln (k + 9) = 5) k (sh_lt (by omega)) hs
  refine CN.of (by decide) (Nat.le_of_ble_eq_true rfl) ?_
  intro p e s m below meth c ls E hr hlk hin w hl
  have hl : lv_has ls 1 [(0, .ref (ad G k))] := hl
  have w := r_start w hF
  refine lv_aload_n E.1 E.2.1 dX1_init_0 rfl (lv_at hl 0 rfl) ?_
  refine c_objInit E oi_RX1 hl.1 ⟨Nat.le_of_ble_eq_true rfl, Nat.le_of_ble_eq_true rfl⟩ dX1_init_1 ?_
  refine lv_aload_n E.1 E.2.1 dX1_init_4 rfl (lv_at hl 0 rfl) ?_
  refine lv_iconst (v := 0) E.1 E.2.1 dX1_init_5 rfl ?_
  refine c_put (v := .int 0) (k := 0) (ci := 1) (ty0 := tyX1) E w ⟨by omega, by omega⟩ (RT_k G k 1 F _) rfl uwX1 tyX1_ok nmX1 (by decide) fc_RX1_9 (Or.inl rfl) rfl rfl (Nat.le_of_ble_eq_true rfl) dX1_init_6 (fun H locs w => ?_)
  have w : CW G b s (k) (RT G k 1 F [.int 0, .int 0, .int 0, .int 0, .int 0, .null, .null, .null, .null, .null, .null, .null, .null, .null]) H locs := r_put w
  refine lv_aload_n E.1 E.2.1 dX1_init_9 rfl (lv_at hl 0 rfl) ?_
  refine lv_iconst (v := 0) E.1 E.2.1 dX1_init_10 rfl ?_
  refine c_put (v := .int 0) (k := 1) (ci := 1) (ty0 := tyX1) E w ⟨by omega, by omega⟩ (RT_k G k 1 F _) rfl uwX1 tyX1_ok nmX1 (by decide) fc_RX1_15 (Or.inl rfl) rfl rfl (Nat.le_of_ble_eq_true rfl) dX1_init_11 (fun H locs w => ?_)
  have w : CW G b s (k) (RT G k 1 F [.int 0, .int 0, .int 0, .int 0, .int 0, .null, .null, .null, .null, .null, .null, .null, .null, .null]) H locs := r_put w
  refine lv_aload_n E.1 E.2.1 dX1_init_14 rfl (lv_at hl 0 rfl) ?_
  refine lv_iconst (v := 0) E.1 E.2.1 dX1_init_15 rfl ?_
  refine c_put (v := .int 0) (k := 2) (ci := 1) (ty0 := tyX1) E w ⟨by omega, by omega⟩ (RT_k G k 1 F _) rfl uwX1 tyX1_ok nmX1 (by decide) fc_RX1_18 (Or.inl rfl) rfl rfl (Nat.le_of_ble_eq_true rfl) dX1_init_16 (fun H locs w => ?_)
  have w : CW G b s (k) (RT G k 1 F [.int 0, .int 0, .int 0, .int 0, .int 0, .null, .null, .null, .null, .null, .null, .null, .null, .null]) H locs := r_put w
  refine lv_aload_n E.1 E.2.1 dX1_init_19 rfl (lv_at hl 0 rfl) ?_
  refine lv_bipush (v := 9) E.1 E.2.1 dX1_init_20 rfl ?_
  refine c_put (v := .int 9) (k := 3) (ci := 1) (ty0 := tyX1) E w ⟨by omega, by omega⟩ (RT_k G k 1 F _) rfl uwX1 tyX1_ok nmX1 (by decide) fc_RX1_21 (Or.inl rfl) rfl rfl (Nat.le_of_ble_eq_true rfl) dX1_init_22 (fun H locs w => ?_)
  have w : CW G b s (k) (RT G k 1 F [.int 0, .int 0, .int 0, .int 9, .int 0, .null, .null, .null, .null, .null, .null, .null, .null, .null]) H locs := r_put w
  refine lv_aload_n E.1 E.2.1 dX1_init_25 rfl (lv_at hl 0 rfl) ?_
  refine lv_iconst (v := 0) E.1 E.2.1 dX1_init_26 rfl ?_
  refine c_put (v := .int 0) (k := 4) (ci := 1) (ty0 := tyX1) E w ⟨by omega, by omega⟩ (RT_k G k 1 F _) rfl uwX1 tyX1_ok nmX1 (by decide) fc_RX1_24 (Or.inl rfl) rfl rfl (Nat.le_of_ble_eq_true rfl) dX1_init_27 (fun H locs w => ?_)
  have w : CW G b s (k) (RT G k 1 F [.int 0, .int 0, .int 0, .int 9, .int 0, .null, .null, .null, .null, .null, .null, .null, .null, .null]) H locs := r_put w
  refine lv_aload_n E.1 E.2.1 dX1_init_30 rfl (lv_at hl 0 rfl) ?_
  refine lv_bipush (v := 6) E.1 E.2.1 dX1_init_31 rfl ?_
  refine c_arr (atype := .int) (ty := .int) (kd := 13) (t0 := 1) E w rfl rfl (fun z => z) rfl (by show k + 1 < NN; omega) ac_int (x := 6) (L := 6) (by decide) (by decide) (by decide) (Nat.le_of_ble_eq_true rfl) (Nat.le_of_ble_eq_true rfl) dX1_init_33 (fun H w => ?_)
  have w := r_cell (by omega) w (cell_arr G s1 (by decide) (by intro z; have z2 : k = 237 := (by omega); subst z2; exact absurd hs (by decide)) l1)
  refine c_put (v := .ref (ad G (k + 1))) (k := 5) (ci := 1) (ty0 := tyX1) E w ⟨by omega, by omega⟩ (RT_k G k 1 F _) rfl uwX1 tyX1_ok nmX1 (by decide) fc_RX1_27 (Or.inr ⟨rfl, hin, rfl⟩) rfl rfl (Nat.le_of_ble_eq_true rfl) dX1_init_35 (fun H locs w => ?_)
  have w : CW G b s (k + 1) (RT G k 1 F [.int 0, .int 0, .int 0, .int 9, .int 0, .ref (ad G (k + 1)), .null, .null, .null, .null, .null, .null, .null, .null]) H locs := r_put w
  refine lv_aload_n E.1 E.2.1 dX1_init_38 rfl (lv_at hl 0 rfl) ?_
  refine lv_bipush (v := 6) E.1 E.2.1 dX1_init_39 rfl ?_
  refine c_arr (atype := .int) (ty := .int) (kd := 13) (t0 := 1) E w rfl rfl (fun z => z) rfl (by show k + 2 < NN; omega) ac_int (x := 6) (L := 6) (by decide) (by decide) (by decide) (Nat.le_of_ble_eq_true rfl) (Nat.le_of_ble_eq_true rfl) dX1_init_41 (fun H w => ?_)
  have w := r_cell (by omega) w (cell_arr G s2 (by decide) (by intro z; have z2 : k = 236 := (by omega); subst z2; exact absurd hs (by decide)) l2)
  refine c_put (v := .ref (ad G (k + 2))) (k := 6) (ci := 1) (ty0 := tyX1) E w ⟨by omega, by omega⟩ (RT_k G k 1 F _) rfl uwX1 tyX1_ok nmX1 (by decide) fc_RX1_31 (Or.inr ⟨rfl, hin, rfl⟩) rfl rfl (Nat.le_of_ble_eq_true rfl) dX1_init_43 (fun H locs w => ?_)
  have w : CW G b s (k + 2) (RT G k 1 F [.int 0, .int 0, .int 0, .int 9, .int 0, .ref (ad G (k + 1)), .ref (ad G (k + 2)), .null, .null, .null, .null, .null, .null, .null]) H locs := r_put w
  refine lv_aload_n E.1 E.2.1 dX1_init_46 rfl (lv_at hl 0 rfl) ?_
  refine lv_bipush (v := 8) E.1 E.2.1 dX1_init_47 rfl ?_
  refine c_arr (atype := .int) (ty := .int) (kd := 13) (t0 := 1) E w rfl rfl (fun z => z) rfl (by show k + 3 < NN; omega) ac_int (x := 8) (L := 8) (by decide) (by decide) (by decide) (Nat.le_of_ble_eq_true rfl) (Nat.le_of_ble_eq_true rfl) dX1_init_49 (fun H w => ?_)
  have w := r_cell (by omega) w (cell_arr G s3 (by decide) (by intro z; have z2 : k = 235 := (by omega); subst z2; exact absurd hs (by decide)) l3)
  refine c_put (v := .ref (ad G (k + 3))) (k := 7) (ci := 1) (ty0 := tyX1) E w ⟨by omega, by omega⟩ (RT_k G k 1 F _) rfl uwX1 tyX1_ok nmX1 (by decide) fc_RX1_34 (Or.inr ⟨rfl, hin, rfl⟩) rfl rfl (Nat.le_of_ble_eq_true rfl) dX1_init_51 (fun H locs w => ?_)
  have w : CW G b s (k + 3) (RT G k 1 F [.int 0, .int 0, .int 0, .int 9, .int 0, .ref (ad G (k + 1)), .ref (ad G (k + 2)), .ref (ad G (k + 3)), .null, .null, .null, .null, .null, .null]) H locs := r_put w
  refine lv_aload_n E.1 E.2.1 dX1_init_54 rfl (lv_at hl 0 rfl) ?_
  refine lv_bipush (v := 8) E.1 E.2.1 dX1_init_55 rfl ?_
  refine c_arr (atype := .int) (ty := .int) (kd := 13) (t0 := 1) E w rfl rfl (fun z => z) rfl (by show k + 4 < NN; omega) ac_int (x := 8) (L := 8) (by decide) (by decide) (by decide) (Nat.le_of_ble_eq_true rfl) (Nat.le_of_ble_eq_true rfl) dX1_init_57 (fun H w => ?_)
  have w := r_cell (by omega) w (cell_arr G s4 (by decide) (by intro z; have z2 : k = 234 := (by omega); subst z2; exact absurd hs (by decide)) l4)
  refine c_put (v := .ref (ad G (k + 4))) (k := 8) (ci := 1) (ty0 := tyX1) E w ⟨by omega, by omega⟩ (RT_k G k 1 F _) rfl uwX1 tyX1_ok nmX1 (by decide) fc_RX1_37 (Or.inr ⟨rfl, hin, rfl⟩) rfl rfl (Nat.le_of_ble_eq_true rfl) dX1_init_59 (fun H locs w => ?_)
  have w : CW G b s (k + 4) (RT G k 1 F [.int 0, .int 0, .int 0, .int 9, .int 0, .ref (ad G (k + 1)), .ref (ad G (k + 2)), .ref (ad G (k + 3)), .ref (ad G (k + 4)), .null, .null, .null, .null, .null]) H locs := r_put w
  refine lv_aload_n E.1 E.2.1 dX1_init_62 rfl (lv_at hl 0 rfl) ?_
  refine lv_bipush (v := 8) E.1 E.2.1 dX1_init_63 rfl ?_
  refine c_arr (atype := .int) (ty := .int) (kd := 13) (t0 := 1) E w rfl rfl (fun z => z) rfl (by show k + 5 < NN; omega) ac_int (x := 8) (L := 8) (by decide) (by decide) (by decide) (Nat.le_of_ble_eq_true rfl) (Nat.le_of_ble_eq_true rfl) dX1_init_65 (fun H w => ?_)
  have w := r_cell (by omega) w (cell_arr G s5 (by decide) (by intro z; have z2 : k = 233 := (by omega); subst z2; exact absurd hs (by decide)) l5)
  refine c_put (v := .ref (ad G (k + 5))) (k := 9) (ci := 1) (ty0 := tyX1) E w ⟨by omega, by omega⟩ (RT_k G k 1 F _) rfl uwX1 tyX1_ok nmX1 (by decide) fc_RX1_40 (Or.inr ⟨rfl, hin, rfl⟩) rfl rfl (Nat.le_of_ble_eq_true rfl) dX1_init_67 (fun H locs w => ?_)
  have w : CW G b s (k + 5) (RT G k 1 F [.int 0, .int 0, .int 0, .int 9, .int 0, .ref (ad G (k + 1)), .ref (ad G (k + 2)), .ref (ad G (k + 3)), .ref (ad G (k + 4)), .ref (ad G (k + 5)), .null, .null, .null, .null]) H locs := r_put w
  refine lv_aload_n E.1 E.2.1 dX1_init_70 rfl (lv_at hl 0 rfl) ?_
  refine lv_bipush (v := 8) E.1 E.2.1 dX1_init_71 rfl ?_
  refine c_arr (atype := .int) (ty := .int) (kd := 13) (t0 := 1) E w rfl rfl (fun z => z) rfl (by show k + 6 < NN; omega) ac_int (x := 8) (L := 8) (by decide) (by decide) (by decide) (Nat.le_of_ble_eq_true rfl) (Nat.le_of_ble_eq_true rfl) dX1_init_73 (fun H w => ?_)
  have w := r_cell (by omega) w (cell_arr G s6 (by decide) (by intro z; have z2 : k = 232 := (by omega); subst z2; exact absurd hs (by decide)) l6)
  refine c_put (v := .ref (ad G (k + 6))) (k := 10) (ci := 1) (ty0 := tyX1) E w ⟨by omega, by omega⟩ (RT_k G k 1 F _) rfl uwX1 tyX1_ok nmX1 (by decide) fc_RX1_43 (Or.inr ⟨rfl, hin, rfl⟩) rfl rfl (Nat.le_of_ble_eq_true rfl) dX1_init_75 (fun H locs w => ?_)
  have w : CW G b s (k + 6) (RT G k 1 F [.int 0, .int 0, .int 0, .int 9, .int 0, .ref (ad G (k + 1)), .ref (ad G (k + 2)), .ref (ad G (k + 3)), .ref (ad G (k + 4)), .ref (ad G (k + 5)), .ref (ad G (k + 6)), .null, .null, .null]) H locs := r_put w
  refine lv_aload_n E.1 E.2.1 dX1_init_78 rfl (lv_at hl 0 rfl) ?_
  refine lv_iconst (v := 5) E.1 E.2.1 dX1_init_79 rfl ?_
  refine c_arr (atype := .int) (ty := .int) (kd := 13) (t0 := 1) E w rfl rfl (fun z => z) rfl (by show k + 7 < NN; omega) ac_int (x := 5) (L := 5) (by decide) (by decide) (by decide) (Nat.le_of_ble_eq_true rfl) (Nat.le_of_ble_eq_true rfl) dX1_init_80 (fun H w => ?_)
  have w := r_cell (by omega) w (cell_arr G s7 (by decide) (by intro z; have z2 : k = 231 := (by omega); subst z2; exact absurd hs (by decide)) l7)
  refine c_put (v := .ref (ad G (k + 7))) (k := 11) (ci := 1) (ty0 := tyX1) E w ⟨by omega, by omega⟩ (RT_k G k 1 F _) rfl uwX1 tyX1_ok nmX1 (by decide) fc_RX1_46 (Or.inr ⟨rfl, hin, rfl⟩) rfl rfl (Nat.le_of_ble_eq_true rfl) dX1_init_82 (fun H locs w => ?_)
  have w : CW G b s (k + 7) (RT G k 1 F [.int 0, .int 0, .int 0, .int 9, .int 0, .ref (ad G (k + 1)), .ref (ad G (k + 2)), .ref (ad G (k + 3)), .ref (ad G (k + 4)), .ref (ad G (k + 5)), .ref (ad G (k + 6)), .ref (ad G (k + 7)), .null, .null]) H locs := r_put w
  refine lv_aload_n E.1 E.2.1 dX1_init_85 rfl (lv_at hl 0 rfl) ?_
  refine lv_iconst (v := 5) E.1 E.2.1 dX1_init_86 rfl ?_
  refine c_arr (atype := .int) (ty := .int) (kd := 13) (t0 := 1) E w rfl rfl (fun z => z) rfl (by show k + 8 < NN; omega) ac_int (x := 5) (L := 5) (by decide) (by decide) (by decide) (Nat.le_of_ble_eq_true rfl) (Nat.le_of_ble_eq_true rfl) dX1_init_87 (fun H w => ?_)
  have w := r_cell (by omega) w (cell_arr G s8 (by decide) (by intro z; have z2 : k = 230 := (by omega); subst z2; exact absurd hs (by decide)) l8)
  refine c_put (v := .ref (ad G (k + 8))) (k := 12) (ci := 1) (ty0 := tyX1) E w ⟨by omega, by omega⟩ (RT_k G k 1 F _) rfl uwX1 tyX1_ok nmX1 (by decide) fc_RX1_49 (Or.inr ⟨rfl, hin, rfl⟩) rfl rfl (Nat.le_of_ble_eq_true rfl) dX1_init_89 (fun H locs w => ?_)
  have w : CW G b s (k + 8) (RT G k 1 F [.int 0, .int 0, .int 0, .int 9, .int 0, .ref (ad G (k + 1)), .ref (ad G (k + 2)), .ref (ad G (k + 3)), .ref (ad G (k + 4)), .ref (ad G (k + 5)), .ref (ad G (k + 6)), .ref (ad G (k + 7)), .ref (ad G (k + 8)), .null]) H locs := r_put w
  refine lv_aload_n E.1 E.2.1 dX1_init_92 rfl (lv_at hl 0 rfl) ?_
  refine lv_iconst (v := 5) E.1 E.2.1 dX1_init_93 rfl ?_
  refine c_arr (atype := .int) (ty := .int) (kd := 13) (t0 := 1) E w rfl rfl (fun z => z) rfl (by show k + 9 < NN; omega) ac_int (x := 5) (L := 5) (by decide) (by decide) (by decide) (Nat.le_of_ble_eq_true rfl) (Nat.le_of_ble_eq_true rfl) dX1_init_94 (fun H w => ?_)
  have w := r_cell (by omega) w (cell_arr G s9 (by decide) (by intro z; have z2 : k = 229 := (by omega); subst z2; exact absurd hs (by decide)) l9)
  refine c_put (v := .ref (ad G (k + 9))) (k := 13) (ci := 1) (ty0 := tyX1) E w ⟨by omega, by omega⟩ (RT_k G k 1 F _) rfl uwX1 tyX1_ok nmX1 (by decide) fc_RX1_52 (Or.inr ⟨rfl, hin, rfl⟩) rfl rfl (Nat.le_of_ble_eq_true rfl) dX1_init_96 (fun H locs w => ?_)
  have w : CW G b s (k + 9) (RT G k 1 F [.int 0, .int 0, .int 0, .int 9, .int 0, .ref (ad G (k + 1)), .ref (ad G (k + 2)), .ref (ad G (k + 3)), .ref (ad G (k + 4)), .ref (ad G (k + 5)), .ref (ad G (k + 6)), .ref (ad G (k + 7)), .ref (ad G (k + 8)), .ref (ad G (k + 9))]) H locs := r_put w
  have h238 : ¬ k = 238 := fun z => by subst z; exact absurd hs (by decide)
  have w := r_end w hs (by decide) (by
    have e : fsO G hI k 1 = [.int 0, .int 0, .int 0, .int 9, .int 0, .ref (ad G (k + 1)), .ref (ad G (k + 2)), .ref (ad G (k + 3)), .ref (ad G (k + 4)), .ref (ad G (k + 5)), .ref (ad G (k + 6)), .ref (ad G (k + 7)), .ref (ad G (k + 8)), .ref (ad G (k + 9))] := by
      simp [fsO, fk, fkL, fv, hI, hs, iniL, rfv, h238]
    exact e)
  exact c_vret E w hr hlk dX1_init_99
set_option maxRecDepth 8000 in
set_option maxHeartbeats 4000000 in
theorem X6_init_40_n {l : Launch} {G : GT} {b k : Nat} {F : Nat → va_E} (hs : sh k = 6) (hL : ln (k + 1) = 40 ∧ ln (k + 2) = 40) (hF : F k = .inr (6, [.int 0, .null, .null, .int 0])) : CN l G yX6_init cX6_init 2 1 24 2 80 [.ref (ad G k), .int 40] b k F (k + 2) (FN G k F) := by
  have hk0 : 0 < k := sh_pos (by omega)
  have hkn : k + 2 < NN := by have := (by decide +kernel : ∀ k, k < 257 → sh k = 6 → k + 2 < 257) k (sh_lt (by omega)) hs; exact this
  have hNN : NN = 257 := rfl
  have s1 : sh (k + 1) = 13 := (by decide +kernel : ∀ k, k < 257 → sh k = 6 → sh (k + 1) = 13) k (sh_lt (by omega)) hs
  have s2 : sh (k + 2) = 13 := (by decide +kernel : ∀ k, k < 257 → sh k = 6 → sh (k + 2) = 13) k (sh_lt (by omega)) hs
  obtain ⟨l1, l2⟩ := hL
  refine CN.of (by decide) (Nat.le_of_ble_eq_true rfl) ?_
  intro p e s m below meth c ls E hr hlk hin w hl
  have hl : lv_has ls 2 [(0, .ref (ad G k)), (1, .int 40)] := hl
  have w := r_start w hF
  refine lv_aload_n E.1 E.2.1 dX6_init_0 rfl (lv_at hl 0 rfl) ?_
  refine c_objInit E oi_RX6 hl.1 ⟨Nat.le_of_ble_eq_true rfl, Nat.le_of_ble_eq_true rfl⟩ dX6_init_1 ?_
  refine lv_aload_n E.1 E.2.1 dX6_init_4 rfl (lv_at hl 0 rfl) ?_
  refine lv_iconst (v := 0) E.1 E.2.1 dX6_init_5 rfl ?_
  refine c_put (v := .int 0) (k := 3) (ci := 6) (ty0 := tyX6) E w ⟨by omega, by omega⟩ (RT_k G k 6 F _) rfl uwX6 tyX6_ok nmX6 (by decide) fc_RX6_7 (Or.inl rfl) rfl rfl (Nat.le_of_ble_eq_true rfl) dX6_init_6 (fun H locs w => ?_)
  have w : CW G b s (k) (RT G k 6 F [.int 0, .null, .null, .int 0]) H locs := r_put w
  refine lv_aload_n E.1 E.2.1 dX6_init_9 rfl (lv_at hl 0 rfl) ?_
  refine lv_iconst (v := 0) E.1 E.2.1 dX6_init_10 rfl ?_
  refine lv_iload_n E.1 E.2.1 dX6_init_11 rfl (lv_at hl 1 rfl) ?_
  refine q_max E mm_RX6_13 hl.1 ⟨Nat.le_of_ble_eq_true rfl, Nat.le_of_ble_eq_true rfl⟩ ⟨Nat.le_of_ble_eq_true rfl, Nat.le_of_ble_eq_true rfl⟩ dX6_init_12 ?_
  rw [show (if (0 : Int32) < 40 then (40 : Int32) else 0) = 40 from rfl]
  refine c_put (v := .int 40) (k := 0) (ci := 6) (ty0 := tyX6) E w ⟨by omega, by omega⟩ (RT_k G k 6 F _) rfl uwX6 tyX6_ok nmX6 (by decide) fc_RX6_19 (Or.inr ⟨rfl, hin, rfl⟩) rfl rfl (Nat.le_of_ble_eq_true rfl) dX6_init_15 (fun H locs w => ?_)
  have w : CW G b s (k) (RT G k 6 F [.int 40, .null, .null, .int 0]) H locs := r_put w
  refine lv_aload_n E.1 E.2.1 dX6_init_18 rfl (lv_at hl 0 rfl) ?_
  refine lv_aload_n E.1 E.2.1 dX6_init_19 rfl (lv_at hl 0 rfl) ?_
  refine c_get (v := .int 40) (k := 0) (ci := 6) E w ⟨by omega, by omega⟩ (RT_k G k 6 F _) rfl uwX6 (by decide) fc_RX6_19 rfl dX6_init_20 ?_
  refine c_arr (atype := .int) (ty := .int) (kd := 13) (t0 := 1) E w rfl rfl (fun z => z) rfl (by show k + 1 < NN; omega) ac_int (x := 40) (L := 40) (by decide) (by decide) (by decide) (Nat.le_of_ble_eq_true rfl) (Nat.le_of_ble_eq_true rfl) dX6_init_23 (fun H w => ?_)
  have w := r_cell (by omega) w (cell_arr G s1 (by decide) (by intro z; have z2 : k = 237 := (by omega); subst z2; exact absurd hs (by decide)) l1)
  refine c_put (v := .ref (ad G (k + 1))) (k := 1) (ci := 6) (ty0 := tyX6) E w ⟨by omega, by omega⟩ (RT_k G k 6 F _) rfl uwX6 tyX6_ok nmX6 (by decide) fc_RX6_22 (Or.inr ⟨rfl, hin, rfl⟩) rfl rfl (Nat.le_of_ble_eq_true rfl) dX6_init_25 (fun H locs w => ?_)
  have w : CW G b s (k + 1) (RT G k 6 F [.int 40, .ref (ad G (k + 1)), .null, .int 0]) H locs := r_put w
  refine lv_aload_n E.1 E.2.1 dX6_init_28 rfl (lv_at hl 0 rfl) ?_
  refine lv_aload_n E.1 E.2.1 dX6_init_29 rfl (lv_at hl 0 rfl) ?_
  refine c_get (v := .int 40) (k := 0) (ci := 6) E w ⟨by omega, by omega⟩ (RT_k G k 6 F _) rfl uwX6 (by decide) fc_RX6_19 rfl dX6_init_30 ?_
  refine c_arr (atype := .int) (ty := .int) (kd := 13) (t0 := 1) E w rfl rfl (fun z => z) rfl (by show k + 2 < NN; omega) ac_int (x := 40) (L := 40) (by decide) (by decide) (by decide) (Nat.le_of_ble_eq_true rfl) (Nat.le_of_ble_eq_true rfl) dX6_init_33 (fun H w => ?_)
  have w := r_cell (by omega) w (cell_arr G s2 (by decide) (by intro z; have z2 : k = 236 := (by omega); subst z2; exact absurd hs (by decide)) l2)
  refine c_put (v := .ref (ad G (k + 2))) (k := 2) (ci := 6) (ty0 := tyX6) E w ⟨by omega, by omega⟩ (RT_k G k 6 F _) rfl uwX6 tyX6_ok nmX6 (by decide) fc_RX6_26 (Or.inr ⟨rfl, hin, rfl⟩) rfl rfl (Nat.le_of_ble_eq_true rfl) dX6_init_35 (fun H locs w => ?_)
  have w : CW G b s (k + 2) (RT G k 6 F [.int 40, .ref (ad G (k + 1)), .ref (ad G (k + 2)), .int 0]) H locs := r_put w
  have h238 : ¬ k = 238 := fun z => by subst z; exact absurd hs (by decide)
  have w := r_end w hs (by decide) (by
    have e : fsO G hI k 6 = [.int 40, .ref (ad G (k + 1)), .ref (ad G (k + 2)), .int 0] := by
      simp [fsO, fk, fkL, fv, hI, hs, l1, iniL, rfv]
      rfl
    exact e)
  exact c_vret E w hr hlk dX6_init_38
set_option maxRecDepth 8000 in
set_option maxHeartbeats 4000000 in
theorem X6_init_8_n {l : Launch} {G : GT} {b k : Nat} {F : Nat → va_E} (hs : sh k = 6) (hL : ln (k + 1) = 8 ∧ ln (k + 2) = 8) (hF : F k = .inr (6, [.int 0, .null, .null, .int 0])) : CN l G yX6_init cX6_init 2 1 24 2 16 [.ref (ad G k), .int 8] b k F (k + 2) (FN G k F) := by
  have hk0 : 0 < k := sh_pos (by omega)
  have hkn : k + 2 < NN := by have := (by decide +kernel : ∀ k, k < 257 → sh k = 6 → k + 2 < 257) k (sh_lt (by omega)) hs; exact this
  have hNN : NN = 257 := rfl
  have s1 : sh (k + 1) = 13 := (by decide +kernel : ∀ k, k < 257 → sh k = 6 → sh (k + 1) = 13) k (sh_lt (by omega)) hs
  have s2 : sh (k + 2) = 13 := (by decide +kernel : ∀ k, k < 257 → sh k = 6 → sh (k + 2) = 13) k (sh_lt (by omega)) hs
  obtain ⟨l1, l2⟩ := hL
  refine CN.of (by decide) (Nat.le_of_ble_eq_true rfl) ?_
  intro p e s m below meth c ls E hr hlk hin w hl
  have hl : lv_has ls 2 [(0, .ref (ad G k)), (1, .int 8)] := hl
  have w := r_start w hF
  refine lv_aload_n E.1 E.2.1 dX6_init_0 rfl (lv_at hl 0 rfl) ?_
  refine c_objInit E oi_RX6 hl.1 ⟨Nat.le_of_ble_eq_true rfl, Nat.le_of_ble_eq_true rfl⟩ dX6_init_1 ?_
  refine lv_aload_n E.1 E.2.1 dX6_init_4 rfl (lv_at hl 0 rfl) ?_
  refine lv_iconst (v := 0) E.1 E.2.1 dX6_init_5 rfl ?_
  refine c_put (v := .int 0) (k := 3) (ci := 6) (ty0 := tyX6) E w ⟨by omega, by omega⟩ (RT_k G k 6 F _) rfl uwX6 tyX6_ok nmX6 (by decide) fc_RX6_7 (Or.inl rfl) rfl rfl (Nat.le_of_ble_eq_true rfl) dX6_init_6 (fun H locs w => ?_)
  have w : CW G b s (k) (RT G k 6 F [.int 0, .null, .null, .int 0]) H locs := r_put w
  refine lv_aload_n E.1 E.2.1 dX6_init_9 rfl (lv_at hl 0 rfl) ?_
  refine lv_iconst (v := 0) E.1 E.2.1 dX6_init_10 rfl ?_
  refine lv_iload_n E.1 E.2.1 dX6_init_11 rfl (lv_at hl 1 rfl) ?_
  refine q_max E mm_RX6_13 hl.1 ⟨Nat.le_of_ble_eq_true rfl, Nat.le_of_ble_eq_true rfl⟩ ⟨Nat.le_of_ble_eq_true rfl, Nat.le_of_ble_eq_true rfl⟩ dX6_init_12 ?_
  rw [show (if (0 : Int32) < 8 then (8 : Int32) else 0) = 8 from rfl]
  refine c_put (v := .int 8) (k := 0) (ci := 6) (ty0 := tyX6) E w ⟨by omega, by omega⟩ (RT_k G k 6 F _) rfl uwX6 tyX6_ok nmX6 (by decide) fc_RX6_19 (Or.inr ⟨rfl, hin, rfl⟩) rfl rfl (Nat.le_of_ble_eq_true rfl) dX6_init_15 (fun H locs w => ?_)
  have w : CW G b s (k) (RT G k 6 F [.int 8, .null, .null, .int 0]) H locs := r_put w
  refine lv_aload_n E.1 E.2.1 dX6_init_18 rfl (lv_at hl 0 rfl) ?_
  refine lv_aload_n E.1 E.2.1 dX6_init_19 rfl (lv_at hl 0 rfl) ?_
  refine c_get (v := .int 8) (k := 0) (ci := 6) E w ⟨by omega, by omega⟩ (RT_k G k 6 F _) rfl uwX6 (by decide) fc_RX6_19 rfl dX6_init_20 ?_
  refine c_arr (atype := .int) (ty := .int) (kd := 13) (t0 := 1) E w rfl rfl (fun z => z) rfl (by show k + 1 < NN; omega) ac_int (x := 8) (L := 8) (by decide) (by decide) (by decide) (Nat.le_of_ble_eq_true rfl) (Nat.le_of_ble_eq_true rfl) dX6_init_23 (fun H w => ?_)
  have w := r_cell (by omega) w (cell_arr G s1 (by decide) (by intro z; have z2 : k = 237 := (by omega); subst z2; exact absurd hs (by decide)) l1)
  refine c_put (v := .ref (ad G (k + 1))) (k := 1) (ci := 6) (ty0 := tyX6) E w ⟨by omega, by omega⟩ (RT_k G k 6 F _) rfl uwX6 tyX6_ok nmX6 (by decide) fc_RX6_22 (Or.inr ⟨rfl, hin, rfl⟩) rfl rfl (Nat.le_of_ble_eq_true rfl) dX6_init_25 (fun H locs w => ?_)
  have w : CW G b s (k + 1) (RT G k 6 F [.int 8, .ref (ad G (k + 1)), .null, .int 0]) H locs := r_put w
  refine lv_aload_n E.1 E.2.1 dX6_init_28 rfl (lv_at hl 0 rfl) ?_
  refine lv_aload_n E.1 E.2.1 dX6_init_29 rfl (lv_at hl 0 rfl) ?_
  refine c_get (v := .int 8) (k := 0) (ci := 6) E w ⟨by omega, by omega⟩ (RT_k G k 6 F _) rfl uwX6 (by decide) fc_RX6_19 rfl dX6_init_30 ?_
  refine c_arr (atype := .int) (ty := .int) (kd := 13) (t0 := 1) E w rfl rfl (fun z => z) rfl (by show k + 2 < NN; omega) ac_int (x := 8) (L := 8) (by decide) (by decide) (by decide) (Nat.le_of_ble_eq_true rfl) (Nat.le_of_ble_eq_true rfl) dX6_init_33 (fun H w => ?_)
  have w := r_cell (by omega) w (cell_arr G s2 (by decide) (by intro z; have z2 : k = 236 := (by omega); subst z2; exact absurd hs (by decide)) l2)
  refine c_put (v := .ref (ad G (k + 2))) (k := 2) (ci := 6) (ty0 := tyX6) E w ⟨by omega, by omega⟩ (RT_k G k 6 F _) rfl uwX6 tyX6_ok nmX6 (by decide) fc_RX6_26 (Or.inr ⟨rfl, hin, rfl⟩) rfl rfl (Nat.le_of_ble_eq_true rfl) dX6_init_35 (fun H locs w => ?_)
  have w : CW G b s (k + 2) (RT G k 6 F [.int 8, .ref (ad G (k + 1)), .ref (ad G (k + 2)), .int 0]) H locs := r_put w
  have h238 : ¬ k = 238 := fun z => by subst z; exact absurd hs (by decide)
  have w := r_end w hs (by decide) (by
    have e : fsO G hI k 6 = [.int 8, .ref (ad G (k + 1)), .ref (ad G (k + 2)), .int 0] := by
      simp [fsO, fk, fkL, fv, hI, hs, l1, iniL, rfv]
      rfl
    exact e)
  exact c_vret E w hr hlk dX6_init_38
set_option maxRecDepth 8000 in
set_option maxHeartbeats 4000000 in
theorem X7_init_n {l : Launch} {G : GT} {b k : Nat} {F : Nat → va_E} (hs : sh k = 7) (hF : F k = .inr (7, [.null, .int 0, .int 0, .int 0, .null, .null, .null, .null])) : CN l G yX7_init cX7_init 1 2 45 37 963 [.ref (ad G k)] b k F (k + 37) (FN G k F) := by
  have hk0 : 0 < k := sh_pos (by omega)
  have hkn : k + 37 < NN := by have := (by decide +kernel : ∀ k, k < 257 → sh k = 7 → k + 37 < 257) k (sh_lt (by omega)) hs; exact this
  have hNN : NN = 257 := rfl
  have s1 : sh (k + 1) = 12 := (by decide +kernel : ∀ k, k < 257 → sh k = 7 → sh (k + 1) = 12) k (sh_lt (by omega)) hs
  have l1 : ln (k + 1) = 600 := (by decide +kernel : ∀ k, k < 257 → sh k = 7 → ln (k + 1) = 600) k (sh_lt (by omega)) hs
  have s2 : sh (k + 2) = 13 := (by decide +kernel : ∀ k, k < 257 → sh k = 7 → sh (k + 2) = 13) k (sh_lt (by omega)) hs
  have l2 : ln (k + 2) = 3 := (by decide +kernel : ∀ k, k < 257 → sh k = 7 → ln (k + 2) = 3) k (sh_lt (by omega)) hs
  have s3 : sh (k + 3) = 15 := (by decide +kernel : ∀ k, k < 257 → sh k = 7 → sh (k + 3) = 15) k (sh_lt (by omega)) hs
  have l3 : ln (k + 3) = 2 := (by decide +kernel : ∀ k, k < 257 → sh k = 7 → ln (k + 3) = 2) k (sh_lt (by omega)) hs
  have s4 : sh (k + 4) = 1 := (by decide +kernel : ∀ k, k < 257 → sh k = 7 → sh (k + 4) = 1) k (sh_lt (by omega)) hs
  have s14 : sh (k + 14) = 1 := (by decide +kernel : ∀ k, k < 257 → sh k = 7 → sh (k + 14) = 1) k (sh_lt (by omega)) hs
  have s24 : sh (k + 24) = 16 := (by decide +kernel : ∀ k, k < 257 → sh k = 7 → sh (k + 24) = 16) k (sh_lt (by omega)) hs
  have l24 : ln (k + 24) = 2 := (by decide +kernel : ∀ k, k < 257 → sh k = 7 → ln (k + 24) = 2) k (sh_lt (by omega)) hs
  have s25 : sh (k + 25) = 6 := (by decide +kernel : ∀ k, k < 257 → sh k = 7 → sh (k + 25) = 6) k (sh_lt (by omega)) hs
  have l26 : ln (k + 26) = 40 := (by decide +kernel : ∀ k, k < 257 → sh k = 7 → ln (k + 26) = 40) k (sh_lt (by omega)) hs
  have l27 : ln (k + 27) = 40 := (by decide +kernel : ∀ k, k < 257 → sh k = 7 → ln (k + 27) = 40) k (sh_lt (by omega)) hs
  have s28 : sh (k + 28) = 6 := (by decide +kernel : ∀ k, k < 257 → sh k = 7 → sh (k + 28) = 6) k (sh_lt (by omega)) hs
  have l29 : ln (k + 29) = 40 := (by decide +kernel : ∀ k, k < 257 → sh k = 7 → ln (k + 29) = 40) k (sh_lt (by omega)) hs
  have l30 : ln (k + 30) = 40 := (by decide +kernel : ∀ k, k < 257 → sh k = 7 → ln (k + 30) = 40) k (sh_lt (by omega)) hs
  have s31 : sh (k + 31) = 16 := (by decide +kernel : ∀ k, k < 257 → sh k = 7 → sh (k + 31) = 16) k (sh_lt (by omega)) hs
  have l31 : ln (k + 31) = 2 := (by decide +kernel : ∀ k, k < 257 → sh k = 7 → ln (k + 31) = 2) k (sh_lt (by omega)) hs
  have s32 : sh (k + 32) = 6 := (by decide +kernel : ∀ k, k < 257 → sh k = 7 → sh (k + 32) = 6) k (sh_lt (by omega)) hs
  have l33 : ln (k + 33) = 8 := (by decide +kernel : ∀ k, k < 257 → sh k = 7 → ln (k + 33) = 8) k (sh_lt (by omega)) hs
  have l34 : ln (k + 34) = 8 := (by decide +kernel : ∀ k, k < 257 → sh k = 7 → ln (k + 34) = 8) k (sh_lt (by omega)) hs
  have s35 : sh (k + 35) = 6 := (by decide +kernel : ∀ k, k < 257 → sh k = 7 → sh (k + 35) = 6) k (sh_lt (by omega)) hs
  have l36 : ln (k + 36) = 8 := (by decide +kernel : ∀ k, k < 257 → sh k = 7 → ln (k + 36) = 8) k (sh_lt (by omega)) hs
  have l37 : ln (k + 37) = 8 := (by decide +kernel : ∀ k, k < 257 → sh k = 7 → ln (k + 37) = 8) k (sh_lt (by omega)) hs
  refine CN.of (by decide) (Nat.le_of_ble_eq_true rfl) ?_
  intro p e s m below meth c ls E hr hlk hin w hl
  have hl : lv_has ls 1 [(0, .ref (ad G k))] := hl
  have w := r_start w hF
  refine lv_aload_n E.1 E.2.1 dX7_init_0 rfl (lv_at hl 0 rfl) ?_
  refine c_objInit E oi_RX7 hl.1 ⟨Nat.le_of_ble_eq_true rfl, Nat.le_of_ble_eq_true rfl⟩ dX7_init_1 ?_
  refine lv_aload_n E.1 E.2.1 dX7_init_4 rfl (lv_at hl 0 rfl) ?_
  refine lv_sipush (v := 600) E.1 E.2.1 dX7_init_5 rfl ?_
  refine c_arr (atype := .byte) (ty := .byte) (kd := 12) (t0 := 0) E w rfl rfl (fun z => z) rfl (by show k + 1 < NN; omega) ac_byte (x := 600) (L := 600) (by decide) (by decide) (by decide) (Nat.le_of_ble_eq_true rfl) (Nat.le_of_ble_eq_true rfl) dX7_init_8 (fun H w => ?_)
  have w := r_cell (by omega) w (cell_arr G s1 (by decide) (by intro z; have z2 : k = 237 := (by omega); subst z2; exact absurd hs (by decide)) l1)
  refine c_put (v := .ref (ad G (k + 1))) (k := 0) (ci := 7) (ty0 := tyX7) E w ⟨by omega, by omega⟩ (RT_k G k 7 F _) rfl uwX7 tyX7_ok nmX7 (by decide) fc_RX7_9 (Or.inr ⟨rfl, hin, rfl⟩) rfl rfl (Nat.le_of_ble_eq_true rfl) dX7_init_10 (fun H locs w => ?_)
  have w : CW G b s (k + 1) (RT G k 7 F [.ref (ad G (k + 1)), .int 0, .int 0, .int 0, .null, .null, .null, .null]) H locs := r_put w
  refine lv_aload_n E.1 E.2.1 dX7_init_13 rfl (lv_at hl 0 rfl) ?_
  refine lv_iconst (v := 0) E.1 E.2.1 dX7_init_14 rfl ?_
  refine c_put (v := .int 0) (k := 1) (ci := 7) (ty0 := tyX7) E w ⟨by omega, by omega⟩ (RT_k G k 7 F _) rfl uwX7 tyX7_ok nmX7 (by decide) fc_RX7_15 (Or.inl rfl) rfl rfl (Nat.le_of_ble_eq_true rfl) dX7_init_15 (fun H locs w => ?_)
  have w : CW G b s (k + 1) (RT G k 7 F [.ref (ad G (k + 1)), .int 0, .int 0, .int 0, .null, .null, .null, .null]) H locs := r_put w
  refine lv_aload_n E.1 E.2.1 dX7_init_18 rfl (lv_at hl 0 rfl) ?_
  refine lv_iconst (v := 0) E.1 E.2.1 dX7_init_19 rfl ?_
  refine c_put (v := .int 0) (k := 2) (ci := 7) (ty0 := tyX7) E w ⟨by omega, by omega⟩ (RT_k G k 7 F _) rfl uwX7 tyX7_ok nmX7 (by decide) fc_RX7_19 (Or.inl rfl) rfl rfl (Nat.le_of_ble_eq_true rfl) dX7_init_20 (fun H locs w => ?_)
  have w : CW G b s (k + 1) (RT G k 7 F [.ref (ad G (k + 1)), .int 0, .int 0, .int 0, .null, .null, .null, .null]) H locs := r_put w
  refine lv_aload_n E.1 E.2.1 dX7_init_23 rfl (lv_at hl 0 rfl) ?_
  refine lv_iconst (v := (-1)) E.1 E.2.1 dX7_init_24 rfl ?_
  refine c_put (v := .int (-1)) (k := 3) (ci := 7) (ty0 := tyX7) E w ⟨by omega, by omega⟩ (RT_k G k 7 F _) rfl uwX7 tyX7_ok nmX7 (by decide) fc_RX7_22 (Or.inl rfl) rfl rfl (Nat.le_of_ble_eq_true rfl) dX7_init_25 (fun H locs w => ?_)
  have w : CW G b s (k + 1) (RT G k 7 F [.ref (ad G (k + 1)), .int 0, .int 0, .int (-1), .null, .null, .null, .null]) H locs := r_put w
  refine lv_aload_n E.1 E.2.1 dX7_init_28 rfl (lv_at hl 0 rfl) ?_
  refine lv_iconst (v := 3) E.1 E.2.1 dX7_init_29 rfl ?_
  refine c_arr (atype := .int) (ty := .int) (kd := 13) (t0 := 1) E w rfl rfl (fun z => z) rfl (by show k + 2 < NN; omega) ac_int (x := 3) (L := 3) (by decide) (by decide) (by decide) (Nat.le_of_ble_eq_true rfl) (Nat.le_of_ble_eq_true rfl) dX7_init_30 (fun H w => ?_)
  have w := r_cell (by omega) w (cell_arr G s2 (by decide) (by intro z; have z2 : k = 236 := (by omega); subst z2; exact absurd hs (by decide)) l2)
  refine c_put (v := .ref (ad G (k + 2))) (k := 4) (ci := 7) (ty0 := tyX7) E w ⟨by omega, by omega⟩ (RT_k G k 7 F _) rfl uwX7 tyX7_ok nmX7 (by decide) fc_RX7_25 (Or.inr ⟨rfl, hin, rfl⟩) rfl rfl (Nat.le_of_ble_eq_true rfl) dX7_init_32 (fun H locs w => ?_)
  have w : CW G b s (k + 2) (RT G k 7 F [.ref (ad G (k + 1)), .int 0, .int 0, .int (-1), .ref (ad G (k + 2)), .null, .null, .null]) H locs := r_put w
  refine lv_aload_n E.1 E.2.1 dX7_init_35 rfl (lv_at hl 0 rfl) ?_
  refine lv_iconst (v := 2) E.1 E.2.1 dX7_init_36 rfl ?_
  refine c_anew (kd := 15) (t0 := 3) E w rfl w.2.2.2.2.2.1.2.1 (by show k + 3 < NN; omega) na_RX7_29 (x := 2) (L := 2) (by decide) (by decide) (by decide) (Nat.le_of_ble_eq_true rfl) (Nat.le_of_ble_eq_true rfl) dX7_init_37 (fun H w => ?_)
  refine lv_dup E.1 E.2.1 dX7_init_40 rfl ?_
  refine lv_iconst (v := 0) E.1 E.2.1 dX7_init_41 rfl ?_
  refine c_new (ci := 1) E w [.int 0, .int 0, .int 0, .int 0, .int 0, .null, .null, .null, .null, .null, .null, .null, .null, .null] (by show k + 4 < NN; omega) rfl uwX1 tyX1_ok nw_RX7_29 (by decide) (Nat.le_of_ble_eq_true rfl) (Nat.le_of_ble_eq_true rfl) dX7_init_42 (fun H w => ?_)
  refine lv_dup E.1 E.2.1 dX7_init_45 rfl ?_
  refine c_call (k := k + 4) (As := []) (rest := [.ref (ad G (k + 4)), .int 0, .ref (ad G (k + 3)), .ref (ad G (k + 3)), .ref (ad G (k))]) E w (X1_init_n s4 (by simp [va_up])) mi_RX7_31 rfl rfl hl.1 ⟨Nat.le_of_ble_eq_true rfl, Nat.le_of_ble_eq_true rfl⟩ (Nat.le_of_ble_eq_true rfl) ⟨Nat.le_of_ble_eq_true rfl, Nat.le_of_ble_eq_true rfl⟩ dX7_init_46 (fun H locs w => ?_)
  have w := r_sub (fun i hi => by unfold va_up; rw [if_neg (by omega)]; exact RT_gt G F _ (by omega)) w
  have w : CW G b s (k + 13) (va_up (RT G k 7 F [.ref (ad G (k + 1)), .int 0, .int 0, .int (-1), .ref (ad G (k + 2)), .null, .null, .null]) (k + 3) (.inl (G.2.2.1 15, 2, .inr (.inr (.inr (.inr (fun _ => none))))))) H locs := w
  refine c_aast (L := 2) (f := fun _ => none) (kd := 15) (ka := k + 3) (kv := k + 4) (ci := 1) (t0 := 3) E w ⟨by omega, by omega⟩ ⟨by omega, by omega⟩ (by simp [va_up]) rfl (by unfold va_up; rw [if_neg (by omega), RT_gt G F _ (by omega), cell_o G hI s4 (by decide)]) rfl (by decide) dX7_init_49 (fun H locs w => ?_)
  have w : CW G b s (k + 13) (va_up (RT G k 7 F [.ref (ad G (k + 1)), .int 0, .int 0, .int (-1), .ref (ad G (k + 2)), .null, .null, .null]) (k + 3) (.inl (G.2.2.1 15, 2, .inr (.inr (.inr (.inr (va_up (fun _ => none) 0 (some (ad G (k + 4)))))))))) H locs := CW_congr w (fun i h1 h2 => by unfold va_up; by_cases z : i = k + 3 <;> simp [z])
  refine lv_dup E.1 E.2.1 dX7_init_50 rfl ?_
  refine lv_iconst (v := 1) E.1 E.2.1 dX7_init_51 rfl ?_
  refine c_new (ci := 1) E w [.int 0, .int 0, .int 0, .int 0, .int 0, .null, .null, .null, .null, .null, .null, .null, .null, .null] (by show k + 14 < NN; omega) rfl uwX1 tyX1_ok nw_RX7_29 (by decide) (Nat.le_of_ble_eq_true rfl) (Nat.le_of_ble_eq_true rfl) dX7_init_52 (fun H w => ?_)
  refine lv_dup E.1 E.2.1 dX7_init_55 rfl ?_
  refine c_call (k := k + 14) (As := []) (rest := [.ref (ad G (k + 14)), .int 1, .ref (ad G (k + 3)), .ref (ad G (k + 3)), .ref (ad G (k))]) E w (X1_init_n s14 (by simp [va_up])) mi_RX7_31 rfl rfl hl.1 ⟨Nat.le_of_ble_eq_true rfl, Nat.le_of_ble_eq_true rfl⟩ (Nat.le_of_ble_eq_true rfl) ⟨Nat.le_of_ble_eq_true rfl, Nat.le_of_ble_eq_true rfl⟩ dX7_init_56 (fun H locs w => ?_)
  have w := r_sub (fun i hi => by unfold va_up; rw [if_neg (by omega)]; exact RT_gt G F _ (by omega)) w
  have w : CW G b s (k + 23) (va_up (RT G k 7 F [.ref (ad G (k + 1)), .int 0, .int 0, .int (-1), .ref (ad G (k + 2)), .null, .null, .null]) (k + 3) (.inl (G.2.2.1 15, 2, .inr (.inr (.inr (.inr (va_up (fun _ => none) 0 (some (ad G (k + 4)))))))))) H locs := w
  refine c_aast (L := 2) (f := va_up (fun _ => none) 0 (some (ad G (k + 4)))) (kd := 15) (ka := k + 3) (kv := k + 14) (ci := 1) (t0 := 3) E w ⟨by omega, by omega⟩ ⟨by omega, by omega⟩ (by simp [va_up]) rfl (by unfold va_up; rw [if_neg (by omega), RT_gt G F _ (by omega), cell_o G hI s14 (by decide)]) rfl (by decide) dX7_init_59 (fun H locs w => ?_)
  have w : CW G b s (k + 23) (va_up (RT G k 7 F [.ref (ad G (k + 1)), .int 0, .int 0, .int (-1), .ref (ad G (k + 2)), .null, .null, .null]) (k + 3) (.inl (G.2.2.1 15, 2, .inr (.inr (.inr (.inr (va_up (va_up (fun _ => none) 0 (some (ad G (k + 4)))) 1 (some (ad G (k + 14)))))))))) H locs := CW_congr w (fun i h1 h2 => by unfold va_up; by_cases z : i = k + 3 <;> simp [z])
  have w := r_refs ⟨by omega, by omega⟩ w s3 (by decide) l3 (RT_gt G F _ (by omega)) (by
    intro j hj
    have hr := (by decide +kernel : ∀ k, k < 257 → sh k = 7 → ra (k + 3) 0 = k + 4 ∧ ra (k + 3) 1 = k + 14) k (sh_lt (by omega)) hs
    obtain ⟨h0, h1⟩ := hr
    rcases (show j = 0 ∨ j = 1 by omega) with rfl | rfl
    · rw [h0]; rfl
    · rw [h1]; rfl
    )
  refine c_put (v := .ref (ad G (k + 3))) (k := 5) (ci := 7) (ty0 := tyX7) E w ⟨by omega, by omega⟩ (RT_k G k 7 F _) rfl uwX7 tyX7_ok nmX7 (by decide) fc_RX7_32 (Or.inr ⟨rfl, hin, rfl⟩) rfl rfl (Nat.le_of_ble_eq_true rfl) dX7_init_60 (fun H locs w => ?_)
  have w : CW G b s (k + 23) (RT G k 7 F [.ref (ad G (k + 1)), .int 0, .int 0, .int (-1), .ref (ad G (k + 2)), .ref (ad G (k + 3)), .null, .null]) H locs := r_put w
  refine lv_aload_n E.1 E.2.1 dX7_init_63 rfl (lv_at hl 0 rfl) ?_
  refine lv_iconst (v := 2) E.1 E.2.1 dX7_init_64 rfl ?_
  refine c_anew (kd := 16) (t0 := 4) E w rfl w.2.2.2.2.2.1.2.2.1 (by show k + 24 < NN; omega) na_RX7_36 (x := 2) (L := 2) (by decide) (by decide) (by decide) (Nat.le_of_ble_eq_true rfl) (Nat.le_of_ble_eq_true rfl) dX7_init_65 (fun H w => ?_)
  refine lv_dup E.1 E.2.1 dX7_init_68 rfl ?_
  refine lv_iconst (v := 0) E.1 E.2.1 dX7_init_69 rfl ?_
  refine c_new (ci := 6) E w [.int 0, .null, .null, .int 0] (by show k + 25 < NN; omega) rfl uwX6 tyX6_ok nw_RX7_36 (by decide) (Nat.le_of_ble_eq_true rfl) (Nat.le_of_ble_eq_true rfl) dX7_init_70 (fun H w => ?_)
  refine lv_dup E.1 E.2.1 dX7_init_73 rfl ?_
  refine lv_bipush (v := 40) E.1 E.2.1 dX7_init_74 rfl ?_
  refine c_call (k := k + 25) (As := [.int 40]) (rest := [.ref (ad G (k + 25)), .int 0, .ref (ad G (k + 24)), .ref (ad G (k + 24)), .ref (ad G (k))]) E w (X6_init_40_n s25 ⟨l26, l27⟩ (by simp [va_up])) mi_RX7_38 rfl rfl hl.1 ⟨Nat.le_of_ble_eq_true rfl, Nat.le_of_ble_eq_true rfl⟩ (Nat.le_of_ble_eq_true rfl) ⟨Nat.le_of_ble_eq_true rfl, Nat.le_of_ble_eq_true rfl⟩ dX7_init_76 (fun H locs w => ?_)
  have w := r_sub (fun i hi => by unfold va_up; rw [if_neg (by omega)]; exact RT_gt G F _ (by omega)) w
  have w : CW G b s (k + 27) (va_up (RT G k 7 F [.ref (ad G (k + 1)), .int 0, .int 0, .int (-1), .ref (ad G (k + 2)), .ref (ad G (k + 3)), .null, .null]) (k + 24) (.inl (G.2.2.1 16, 2, .inr (.inr (.inr (.inr (fun _ => none))))))) H locs := w
  refine c_aast (L := 2) (f := fun _ => none) (kd := 16) (ka := k + 24) (kv := k + 25) (ci := 6) (t0 := 4) E w ⟨by omega, by omega⟩ ⟨by omega, by omega⟩ (by simp [va_up]) rfl (by unfold va_up; rw [if_neg (by omega), RT_gt G F _ (by omega), cell_o G hI s25 (by decide)]) rfl (by decide) dX7_init_79 (fun H locs w => ?_)
  have w : CW G b s (k + 27) (va_up (RT G k 7 F [.ref (ad G (k + 1)), .int 0, .int 0, .int (-1), .ref (ad G (k + 2)), .ref (ad G (k + 3)), .null, .null]) (k + 24) (.inl (G.2.2.1 16, 2, .inr (.inr (.inr (.inr (va_up (fun _ => none) 0 (some (ad G (k + 25)))))))))) H locs := CW_congr w (fun i h1 h2 => by unfold va_up; by_cases z : i = k + 24 <;> simp [z])
  refine lv_dup E.1 E.2.1 dX7_init_80 rfl ?_
  refine lv_iconst (v := 1) E.1 E.2.1 dX7_init_81 rfl ?_
  refine c_new (ci := 6) E w [.int 0, .null, .null, .int 0] (by show k + 28 < NN; omega) rfl uwX6 tyX6_ok nw_RX7_36 (by decide) (Nat.le_of_ble_eq_true rfl) (Nat.le_of_ble_eq_true rfl) dX7_init_82 (fun H w => ?_)
  refine lv_dup E.1 E.2.1 dX7_init_85 rfl ?_
  refine lv_bipush (v := 40) E.1 E.2.1 dX7_init_86 rfl ?_
  refine c_call (k := k + 28) (As := [.int 40]) (rest := [.ref (ad G (k + 28)), .int 1, .ref (ad G (k + 24)), .ref (ad G (k + 24)), .ref (ad G (k))]) E w (X6_init_40_n s28 ⟨l29, l30⟩ (by simp [va_up])) mi_RX7_38 rfl rfl hl.1 ⟨Nat.le_of_ble_eq_true rfl, Nat.le_of_ble_eq_true rfl⟩ (Nat.le_of_ble_eq_true rfl) ⟨Nat.le_of_ble_eq_true rfl, Nat.le_of_ble_eq_true rfl⟩ dX7_init_88 (fun H locs w => ?_)
  have w := r_sub (fun i hi => by unfold va_up; rw [if_neg (by omega)]; exact RT_gt G F _ (by omega)) w
  have w : CW G b s (k + 30) (va_up (RT G k 7 F [.ref (ad G (k + 1)), .int 0, .int 0, .int (-1), .ref (ad G (k + 2)), .ref (ad G (k + 3)), .null, .null]) (k + 24) (.inl (G.2.2.1 16, 2, .inr (.inr (.inr (.inr (va_up (fun _ => none) 0 (some (ad G (k + 25)))))))))) H locs := w
  refine c_aast (L := 2) (f := va_up (fun _ => none) 0 (some (ad G (k + 25)))) (kd := 16) (ka := k + 24) (kv := k + 28) (ci := 6) (t0 := 4) E w ⟨by omega, by omega⟩ ⟨by omega, by omega⟩ (by simp [va_up]) rfl (by unfold va_up; rw [if_neg (by omega), RT_gt G F _ (by omega), cell_o G hI s28 (by decide)]) rfl (by decide) dX7_init_91 (fun H locs w => ?_)
  have w : CW G b s (k + 30) (va_up (RT G k 7 F [.ref (ad G (k + 1)), .int 0, .int 0, .int (-1), .ref (ad G (k + 2)), .ref (ad G (k + 3)), .null, .null]) (k + 24) (.inl (G.2.2.1 16, 2, .inr (.inr (.inr (.inr (va_up (va_up (fun _ => none) 0 (some (ad G (k + 25)))) 1 (some (ad G (k + 28)))))))))) H locs := CW_congr w (fun i h1 h2 => by unfold va_up; by_cases z : i = k + 24 <;> simp [z])
  have w := r_refs ⟨by omega, by omega⟩ w s24 (by decide) l24 (RT_gt G F _ (by omega)) (by
    intro j hj
    have hr := (by decide +kernel : ∀ k, k < 257 → sh k = 7 → ra (k + 24) 0 = k + 25 ∧ ra (k + 24) 1 = k + 28) k (sh_lt (by omega)) hs
    obtain ⟨h0, h1⟩ := hr
    rcases (show j = 0 ∨ j = 1 by omega) with rfl | rfl
    · rw [h0]; rfl
    · rw [h1]; rfl
    )
  refine c_put (v := .ref (ad G (k + 24))) (k := 6) (ci := 7) (ty0 := tyX7) E w ⟨by omega, by omega⟩ (RT_k G k 7 F _) rfl uwX7 tyX7_ok nmX7 (by decide) fc_RX7_41 (Or.inr ⟨rfl, hin, rfl⟩) rfl rfl (Nat.le_of_ble_eq_true rfl) dX7_init_92 (fun H locs w => ?_)
  have w : CW G b s (k + 30) (RT G k 7 F [.ref (ad G (k + 1)), .int 0, .int 0, .int (-1), .ref (ad G (k + 2)), .ref (ad G (k + 3)), .ref (ad G (k + 24)), .null]) H locs := r_put w
  refine lv_aload_n E.1 E.2.1 dX7_init_95 rfl (lv_at hl 0 rfl) ?_
  refine lv_iconst (v := 2) E.1 E.2.1 dX7_init_96 rfl ?_
  refine c_anew (kd := 16) (t0 := 4) E w rfl w.2.2.2.2.2.1.2.2.1 (by show k + 31 < NN; omega) na_RX7_36 (x := 2) (L := 2) (by decide) (by decide) (by decide) (Nat.le_of_ble_eq_true rfl) (Nat.le_of_ble_eq_true rfl) dX7_init_97 (fun H w => ?_)
  refine lv_dup E.1 E.2.1 dX7_init_100 rfl ?_
  refine lv_iconst (v := 0) E.1 E.2.1 dX7_init_101 rfl ?_
  refine c_new (ci := 6) E w [.int 0, .null, .null, .int 0] (by show k + 32 < NN; omega) rfl uwX6 tyX6_ok nw_RX7_36 (by decide) (Nat.le_of_ble_eq_true rfl) (Nat.le_of_ble_eq_true rfl) dX7_init_102 (fun H w => ?_)
  refine lv_dup E.1 E.2.1 dX7_init_105 rfl ?_
  refine lv_bipush (v := 8) E.1 E.2.1 dX7_init_106 rfl ?_
  refine c_call (k := k + 32) (As := [.int 8]) (rest := [.ref (ad G (k + 32)), .int 0, .ref (ad G (k + 31)), .ref (ad G (k + 31)), .ref (ad G (k))]) E w (X6_init_8_n s32 ⟨l33, l34⟩ (by simp [va_up])) mi_RX7_38 rfl rfl hl.1 ⟨Nat.le_of_ble_eq_true rfl, Nat.le_of_ble_eq_true rfl⟩ (Nat.le_of_ble_eq_true rfl) ⟨Nat.le_of_ble_eq_true rfl, Nat.le_of_ble_eq_true rfl⟩ dX7_init_108 (fun H locs w => ?_)
  have w := r_sub (fun i hi => by unfold va_up; rw [if_neg (by omega)]; exact RT_gt G F _ (by omega)) w
  have w : CW G b s (k + 34) (va_up (RT G k 7 F [.ref (ad G (k + 1)), .int 0, .int 0, .int (-1), .ref (ad G (k + 2)), .ref (ad G (k + 3)), .ref (ad G (k + 24)), .null]) (k + 31) (.inl (G.2.2.1 16, 2, .inr (.inr (.inr (.inr (fun _ => none))))))) H locs := w
  refine c_aast (L := 2) (f := fun _ => none) (kd := 16) (ka := k + 31) (kv := k + 32) (ci := 6) (t0 := 4) E w ⟨by omega, by omega⟩ ⟨by omega, by omega⟩ (by simp [va_up]) rfl (by unfold va_up; rw [if_neg (by omega), RT_gt G F _ (by omega), cell_o G hI s32 (by decide)]) rfl (by decide) dX7_init_111 (fun H locs w => ?_)
  have w : CW G b s (k + 34) (va_up (RT G k 7 F [.ref (ad G (k + 1)), .int 0, .int 0, .int (-1), .ref (ad G (k + 2)), .ref (ad G (k + 3)), .ref (ad G (k + 24)), .null]) (k + 31) (.inl (G.2.2.1 16, 2, .inr (.inr (.inr (.inr (va_up (fun _ => none) 0 (some (ad G (k + 32)))))))))) H locs := CW_congr w (fun i h1 h2 => by unfold va_up; by_cases z : i = k + 31 <;> simp [z])
  refine lv_dup E.1 E.2.1 dX7_init_112 rfl ?_
  refine lv_iconst (v := 1) E.1 E.2.1 dX7_init_113 rfl ?_
  refine c_new (ci := 6) E w [.int 0, .null, .null, .int 0] (by show k + 35 < NN; omega) rfl uwX6 tyX6_ok nw_RX7_36 (by decide) (Nat.le_of_ble_eq_true rfl) (Nat.le_of_ble_eq_true rfl) dX7_init_114 (fun H w => ?_)
  refine lv_dup E.1 E.2.1 dX7_init_117 rfl ?_
  refine lv_bipush (v := 8) E.1 E.2.1 dX7_init_118 rfl ?_
  refine c_call (k := k + 35) (As := [.int 8]) (rest := [.ref (ad G (k + 35)), .int 1, .ref (ad G (k + 31)), .ref (ad G (k + 31)), .ref (ad G (k))]) E w (X6_init_8_n s35 ⟨l36, l37⟩ (by simp [va_up])) mi_RX7_38 rfl rfl hl.1 ⟨Nat.le_of_ble_eq_true rfl, Nat.le_of_ble_eq_true rfl⟩ (Nat.le_of_ble_eq_true rfl) ⟨Nat.le_of_ble_eq_true rfl, Nat.le_of_ble_eq_true rfl⟩ dX7_init_120 (fun H locs w => ?_)
  have w := r_sub (fun i hi => by unfold va_up; rw [if_neg (by omega)]; exact RT_gt G F _ (by omega)) w
  have w : CW G b s (k + 37) (va_up (RT G k 7 F [.ref (ad G (k + 1)), .int 0, .int 0, .int (-1), .ref (ad G (k + 2)), .ref (ad G (k + 3)), .ref (ad G (k + 24)), .null]) (k + 31) (.inl (G.2.2.1 16, 2, .inr (.inr (.inr (.inr (va_up (fun _ => none) 0 (some (ad G (k + 32)))))))))) H locs := w
  refine c_aast (L := 2) (f := va_up (fun _ => none) 0 (some (ad G (k + 32)))) (kd := 16) (ka := k + 31) (kv := k + 35) (ci := 6) (t0 := 4) E w ⟨by omega, by omega⟩ ⟨by omega, by omega⟩ (by simp [va_up]) rfl (by unfold va_up; rw [if_neg (by omega), RT_gt G F _ (by omega), cell_o G hI s35 (by decide)]) rfl (by decide) dX7_init_123 (fun H locs w => ?_)
  have w : CW G b s (k + 37) (va_up (RT G k 7 F [.ref (ad G (k + 1)), .int 0, .int 0, .int (-1), .ref (ad G (k + 2)), .ref (ad G (k + 3)), .ref (ad G (k + 24)), .null]) (k + 31) (.inl (G.2.2.1 16, 2, .inr (.inr (.inr (.inr (va_up (va_up (fun _ => none) 0 (some (ad G (k + 32)))) 1 (some (ad G (k + 35)))))))))) H locs := CW_congr w (fun i h1 h2 => by unfold va_up; by_cases z : i = k + 31 <;> simp [z])
  have w := r_refs ⟨by omega, by omega⟩ w s31 (by decide) l31 (RT_gt G F _ (by omega)) (by
    intro j hj
    have hr := (by decide +kernel : ∀ k, k < 257 → sh k = 7 → ra (k + 31) 0 = k + 32 ∧ ra (k + 31) 1 = k + 35) k (sh_lt (by omega)) hs
    obtain ⟨h0, h1⟩ := hr
    rcases (show j = 0 ∨ j = 1 by omega) with rfl | rfl
    · rw [h0]; rfl
    · rw [h1]; rfl
    )
  refine c_put (v := .ref (ad G (k + 31))) (k := 7) (ci := 7) (ty0 := tyX7) E w ⟨by omega, by omega⟩ (RT_k G k 7 F _) rfl uwX7 tyX7_ok nmX7 (by decide) fc_RX7_45 (Or.inr ⟨rfl, hin, rfl⟩) rfl rfl (Nat.le_of_ble_eq_true rfl) dX7_init_124 (fun H locs w => ?_)
  have w : CW G b s (k + 37) (RT G k 7 F [.ref (ad G (k + 1)), .int 0, .int 0, .int (-1), .ref (ad G (k + 2)), .ref (ad G (k + 3)), .ref (ad G (k + 24)), .ref (ad G (k + 31))]) H locs := r_put w
  have h238 : ¬ k = 238 := fun z => by subst z; exact absurd hs (by decide)
  have w := r_end w hs (by decide) (by
    have e : fsO G hI k 7 = [.ref (ad G (k + 1)), .int 0, .int 0, .int (-1), .ref (ad G (k + 2)), .ref (ad G (k + 3)), .ref (ad G (k + 24)), .ref (ad G (k + 31))] := by
      simp [fsO, fk, fkL, fv, hI, hs, iniL, rfv, h238]
    exact e)
  exact c_vret E w hr hlk dX7_init_127
