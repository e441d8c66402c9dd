set_option maxRecDepth 8000 in
set_option maxHeartbeats 4000000 in
theorem X10_init_n {l : Launch} {G : GT} {b k : Nat} {F : Nat → va_E} (hs : sh k = 10) (hF : F k = .inr (10, [.null, .null, .null, .null, .null, .null, .null, .null, .null, .null])) : CN l G yX10_init cX10_init 1 3 65 235 4541 [.ref (ad G k)] b k F (k + 235) (FN G k F) := by
  have hk0 : 0 < k := sh_pos (by omega)
  have hkn : k + 235 < NN := by have := (by decide +kernel : ∀ k, k < 257 → sh k = 10 → k + 235 < 257) k (sh_lt (by omega)) hs; exact this
  have hNN : NN = 257 := rfl
  have s1 : sh (k + 1) = 7 := (by decide +kernel : ∀ k, k < 257 → sh k = 10 → sh (k + 1) = 7) k (sh_lt (by omega)) hs
  have s39 : sh (k + 39) = 17 := (by decide +kernel : ∀ k, k < 257 → sh k = 10 → sh (k + 39) = 17) k (sh_lt (by omega)) hs
  have l39 : ln (k + 39) = 3 := (by decide +kernel : ∀ k, k < 257 → sh k = 10 → ln (k + 39) = 3) k (sh_lt (by omega)) hs
  have s40 : sh (k + 40) = 7 := (by decide +kernel : ∀ k, k < 257 → sh k = 10 → sh (k + 40) = 7) k (sh_lt (by omega)) hs
  have s78 : sh (k + 78) = 7 := (by decide +kernel : ∀ k, k < 257 → sh k = 10 → sh (k + 78) = 7) k (sh_lt (by omega)) hs
  have s116 : sh (k + 116) = 7 := (by decide +kernel : ∀ k, k < 257 → sh k = 10 → sh (k + 116) = 7) k (sh_lt (by omega)) hs
  have s154 : sh (k + 154) = 14 := (by decide +kernel : ∀ k, k < 257 → sh k = 10 → sh (k + 154) = 14) k (sh_lt (by omega)) hs
  have l154 : ln (k + 154) = 3 := (by decide +kernel : ∀ k, k < 257 → sh k = 10 → ln (k + 154) = 3) k (sh_lt (by omega)) hs
  have s155 : sh (k + 155) = 4 := (by decide +kernel : ∀ k, k < 257 → sh k = 10 → sh (k + 155) = 4) k (sh_lt (by omega)) hs
  have s170 : sh (k + 170) = 5 := (by decide +kernel : ∀ k, k < 257 → sh k = 10 → sh (k + 170) = 5) k (sh_lt (by omega)) hs
  have s184 : sh (k + 184) = 3 := (by decide +kernel : ∀ k, k < 257 → sh k = 10 → sh (k + 184) = 3) k (sh_lt (by omega)) hs
  have s197 : sh (k + 197) = 0 := (by decide +kernel : ∀ k, k < 257 → sh k = 10 → sh (k + 197) = 0) k (sh_lt (by omega)) hs
  have s209 : sh (k + 209) = 9 := (by decide +kernel : ∀ k, k < 257 → sh k = 10 → sh (k + 209) = 9) k (sh_lt (by omega)) hs
  have s220 : sh (k + 220) = 8 := (by decide +kernel : ∀ k, k < 257 → sh k = 10 → sh (k + 220) = 8) k (sh_lt (by omega)) hs
  have s234 : sh (k + 234) = 2 := (by decide +kernel : ∀ k, k < 257 → sh k = 10 → sh (k + 234) = 2) k (sh_lt (by omega)) hs
  refine CN.of (by decide) (Nat.le_of_ble_eq_true rfl) ?_
  intro p e s m below meth c ls E hr hlk hin w hl
  have hl : lv_has ls 1 [(0, .ref (ad G k))] := hl
  have w := r_start w hF
  refine lv_aload_n E.1 E.2.1 dX10_init_0 rfl (lv_at hl 0 rfl) ?_
  refine c_objInit E oi_RX10 hl.1 ⟨Nat.le_of_ble_eq_true rfl, Nat.le_of_ble_eq_true rfl⟩ dX10_init_1 ?_
  refine lv_aload_n E.1 E.2.1 dX10_init_4 rfl (lv_at hl 0 rfl) ?_
  refine c_new (ci := 7) E w [.null, .int 0, .int 0, .int 0, .null, .null, .null, .null] (by show k + 1 < NN; omega) rfl uwX7 tyX7_ok nw_RX10_7 (by decide) (Nat.le_of_ble_eq_true rfl) (Nat.le_of_ble_eq_true rfl) dX10_init_5 (fun H w => ?_)
  refine lv_dup E.1 E.2.1 dX10_init_8 rfl ?_
  refine c_call (k := k + 1) (As := []) (rest := [.ref (ad G (k + 1)), .ref (ad G (k))]) E w (X7_init_n s1 (by simp [va_up])) mi_RX10_9 rfl rfl hl.1 ⟨Nat.le_of_ble_eq_true rfl, Nat.le_of_ble_eq_true rfl⟩ (Nat.le_of_ble_eq_true rfl) ⟨Nat.le_of_ble_eq_true rfl, Nat.le_of_ble_eq_true rfl⟩ dX10_init_9 (fun H locs w => ?_)
  have w := r_sub (fun i hi => RT_gt G F _ (by omega)) w
  have w : CW G b s (k + 38) (RT G k 10 F [.null, .null, .null, .null, .null, .null, .null, .null, .null, .null]) H locs := w
  refine c_put (v := .ref (ad G (k + 1))) (k := 0) (ci := 10) (ty0 := tyX10) E w ⟨by omega, by omega⟩ (RT_k G k 10 F _) rfl uwX10 tyX10_ok nmX10 (by decide) fc_RX10_10 (Or.inr ⟨rfl, hin, rfl⟩) rfl rfl (Nat.le_of_ble_eq_true rfl) dX10_init_12 (fun H locs w => ?_)
  have w : CW G b s (k + 38) (RT G k 10 F [.ref (ad G (k + 1)), .null, .null, .null, .null, .null, .null, .null, .null, .null]) H locs := r_put w
  refine lv_aload_n E.1 E.2.1 dX10_init_15 rfl (lv_at hl 0 rfl) ?_
  refine lv_iconst (v := 3) E.1 E.2.1 dX10_init_16 rfl ?_
  refine c_anew (kd := 17) (t0 := 5) E w rfl w.2.2.2.2.2.1.2.2.2 (by show k + 39 < NN; omega) na_RX10_7 (x := 3) (L := 3) (by decide) (by decide) (by decide) (Nat.le_of_ble_eq_true rfl) (Nat.le_of_ble_eq_true rfl) dX10_init_17 (fun H w => ?_)
  refine lv_dup E.1 E.2.1 dX10_init_20 rfl ?_
  refine lv_iconst (v := 0) E.1 E.2.1 dX10_init_21 rfl ?_
  refine c_new (ci := 7) E w [.null, .int 0, .int 0, .int 0, .null, .null, .null, .null] (by show k + 40 < NN; omega) rfl uwX7 tyX7_ok nw_RX10_7 (by decide) (Nat.le_of_ble_eq_true rfl) (Nat.le_of_ble_eq_true rfl) dX10_init_22 (fun H w => ?_)
  refine lv_dup E.1 E.2.1 dX10_init_25 rfl ?_
  refine c_call (k := k + 40) (As := []) (rest := [.ref (ad G (k + 40)), .int 0, .ref (ad G (k + 39)), .ref (ad G (k + 39)), .ref (ad G (k))]) E w (X7_init_n s40 (by simp [va_up])) mi_RX10_9 rfl rfl hl.1 ⟨Nat.le_of_ble_eq_true rfl, Nat.le_of_ble_eq_true rfl⟩ (Nat.le_of_ble_eq_true rfl) ⟨Nat.le_of_ble_eq_true rfl, Nat.le_of_ble_eq_true rfl⟩ dX10_init_26 (fun H locs w => ?_)
  have w := r_sub (fun i hi => by unfold va_up; rw [if_neg (by omega)]; exact RT_gt G F _ (by omega)) w
  have w : CW G b s (k + 77) (va_up (RT G k 10 F [.ref (ad G (k + 1)), .null, .null, .null, .null, .null, .null, .null, .null, .null]) (k + 39) (.inl (G.2.2.1 17, 3, .inr (.inr (.inr (.inr (fun _ => none))))))) H locs := w
  refine c_aast (L := 3) (f := fun _ => none) (kd := 17) (ka := k + 39) (kv := k + 40) (ci := 7) (t0 := 5) E w ⟨by omega, by omega⟩ ⟨by omega, by omega⟩ (by simp [va_up]) rfl (by unfold va_up; rw [if_neg (by omega), RT_gt G F _ (by omega), cell_o G hI s40 (by decide)]) rfl (by decide) dX10_init_29 (fun H locs w => ?_)
  have w : CW G b s (k + 77) (va_up (RT G k 10 F [.ref (ad G (k + 1)), .null, .null, .null, .null, .null, .null, .null, .null, .null]) (k + 39) (.inl (G.2.2.1 17, 3, .inr (.inr (.inr (.inr (va_up (fun _ => none) 0 (some (ad G (k + 40)))))))))) H locs := CW_congr w (fun i h1 h2 => by unfold va_up; by_cases z : i = k + 39 <;> simp [z])
  refine lv_dup E.1 E.2.1 dX10_init_30 rfl ?_
  refine lv_iconst (v := 1) E.1 E.2.1 dX10_init_31 rfl ?_
  refine c_new (ci := 7) E w [.null, .int 0, .int 0, .int 0, .null, .null, .null, .null] (by show k + 78 < NN; omega) rfl uwX7 tyX7_ok nw_RX10_7 (by decide) (Nat.le_of_ble_eq_true rfl) (Nat.le_of_ble_eq_true rfl) dX10_init_32 (fun H w => ?_)
  refine lv_dup E.1 E.2.1 dX10_init_35 rfl ?_
  refine c_call (k := k + 78) (As := []) (rest := [.ref (ad G (k + 78)), .int 1, .ref (ad G (k + 39)), .ref (ad G (k + 39)), .ref (ad G (k))]) E w (X7_init_n s78 (by simp [va_up])) mi_RX10_9 rfl rfl hl.1 ⟨Nat.le_of_ble_eq_true rfl, Nat.le_of_ble_eq_true rfl⟩ (Nat.le_of_ble_eq_true rfl) ⟨Nat.le_of_ble_eq_true rfl, Nat.le_of_ble_eq_true rfl⟩ dX10_init_36 (fun H locs w => ?_)
  have w := r_sub (fun i hi => by unfold va_up; rw [if_neg (by omega)]; exact RT_gt G F _ (by omega)) w
  have w : CW G b s (k + 115) (va_up (RT G k 10 F [.ref (ad G (k + 1)), .null, .null, .null, .null, .null, .null, .null, .null, .null]) (k + 39) (.inl (G.2.2.1 17, 3, .inr (.inr (.inr (.inr (va_up (fun _ => none) 0 (some (ad G (k + 40)))))))))) H locs := w
  refine c_aast (L := 3) (f := va_up (fun _ => none) 0 (some (ad G (k + 40)))) (kd := 17) (ka := k + 39) (kv := k + 78) (ci := 7) (t0 := 5) E w ⟨by omega, by omega⟩ ⟨by omega, by omega⟩ (by simp [va_up]) rfl (by unfold va_up; rw [if_neg (by omega), RT_gt G F _ (by omega), cell_o G hI s78 (by decide)]) rfl (by decide) dX10_init_39 (fun H locs w => ?_)
  have w : CW G b s (k + 115) (va_up (RT G k 10 F [.ref (ad G (k + 1)), .null, .null, .null, .null, .null, .null, .null, .null, .null]) (k + 39) (.inl (G.2.2.1 17, 3, .inr (.inr (.inr (.inr (va_up (va_up (fun _ => none) 0 (some (ad G (k + 40)))) 1 (some (ad G (k + 78)))))))))) H locs := CW_congr w (fun i h1 h2 => by unfold va_up; by_cases z : i = k + 39 <;> simp [z])
  refine lv_dup E.1 E.2.1 dX10_init_40 rfl ?_
  refine lv_iconst (v := 2) E.1 E.2.1 dX10_init_41 rfl ?_
  refine c_new (ci := 7) E w [.null, .int 0, .int 0, .int 0, .null, .null, .null, .null] (by show k + 116 < NN; omega) rfl uwX7 tyX7_ok nw_RX10_7 (by decide) (Nat.le_of_ble_eq_true rfl) (Nat.le_of_ble_eq_true rfl) dX10_init_42 (fun H w => ?_)
  refine lv_dup E.1 E.2.1 dX10_init_45 rfl ?_
  refine c_call (k := k + 116) (As := []) (rest := [.ref (ad G (k + 116)), .int 2, .ref (ad G (k + 39)), .ref (ad G (k + 39)), .ref (ad G (k))]) E w (X7_init_n s116 (by simp [va_up])) mi_RX10_9 rfl rfl hl.1 ⟨Nat.le_of_ble_eq_true rfl, Nat.le_of_ble_eq_true rfl⟩ (Nat.le_of_ble_eq_true rfl) ⟨Nat.le_of_ble_eq_true rfl, Nat.le_of_ble_eq_true rfl⟩ dX10_init_46 (fun H locs w => ?_)
  have w := r_sub (fun i hi => by unfold va_up; rw [if_neg (by omega)]; exact RT_gt G F _ (by omega)) w
  have w : CW G b s (k + 153) (va_up (RT G k 10 F [.ref (ad G (k + 1)), .null, .null, .null, .null, .null, .null, .null, .null, .null]) (k + 39) (.inl (G.2.2.1 17, 3, .inr (.inr (.inr (.inr (va_up (va_up (fun _ => none) 0 (some (ad G (k + 40)))) 1 (some (ad G (k + 78)))))))))) H locs := w
  refine c_aast (L := 3) (f := va_up (va_up (fun _ => none) 0 (some (ad G (k + 40)))) 1 (some (ad G (k + 78)))) (kd := 17) (ka := k + 39) (kv := k + 116) (ci := 7) (t0 := 5) E w ⟨by omega, by omega⟩ ⟨by omega, by omega⟩ (by simp [va_up]) rfl (by unfold va_up; rw [if_neg (by omega), RT_gt G F _ (by omega), cell_o G hI s116 (by decide)]) rfl (by decide) dX10_init_49 (fun H locs w => ?_)
  have w : CW G b s (k + 153) (va_up (RT G k 10 F [.ref (ad G (k + 1)), .null, .null, .null, .null, .null, .null, .null, .null, .null]) (k + 39) (.inl (G.2.2.1 17, 3, .inr (.inr (.inr (.inr (va_up (va_up (va_up (fun _ => none) 0 (some (ad G (k + 40)))) 1 (some (ad G (k + 78)))) 2 (some (ad G (k + 116)))))))))) H locs := CW_congr w (fun i h1 h2 => by unfold va_up; by_cases z : i = k + 39 <;> simp [z])
  have w := r_refs ⟨by omega, by omega⟩ w s39 (by decide) l39 (RT_gt G F _ (by omega)) (by
    intro j hj
    have hr := (by decide +kernel : ∀ k, k < 257 → sh k = 10 → ra (k + 39) 0 = k + 40 ∧ ra (k + 39) 1 = k + 78 ∧ ra (k + 39) 2 = k + 116) k (sh_lt (by omega)) hs
    obtain ⟨h0, h1, h2⟩ := hr
    rcases (show j = 0 ∨ j = 1 ∨ j = 2 by omega) with rfl | rfl | rfl
    · rw [h0]; rfl
    · rw [h1]; rfl
    · rw [h2]; rfl
    )
  refine c_put (v := .ref (ad G (k + 39))) (k := 1) (ci := 10) (ty0 := tyX10) E w ⟨by omega, by omega⟩ (RT_k G k 10 F _) rfl uwX10 tyX10_ok nmX10 (by decide) fc_RX10_16 (Or.inr ⟨rfl, hin, rfl⟩) rfl rfl (Nat.le_of_ble_eq_true rfl) dX10_init_50 (fun H locs w => ?_)
  have w : CW G b s (k + 153) (RT G k 10 F [.ref (ad G (k + 1)), .ref (ad G (k + 39)), .null, .null, .null, .null, .null, .null, .null, .null]) H locs := r_put w
  refine lv_aload_n E.1 E.2.1 dX10_init_53 rfl (lv_at hl 0 rfl) ?_
  refine lv_iconst (v := 3) E.1 E.2.1 dX10_init_54 rfl ?_
  refine c_arr (atype := .boolean) (ty := .boolean) (kd := 14) (t0 := 2) E w rfl rfl (fun z => z) rfl (by show k + 154 < NN; omega) ac_boolean (x := 3) (L := 3) (by decide) (by decide) (by decide) (Nat.le_of_ble_eq_true rfl) (Nat.le_of_ble_eq_true rfl) dX10_init_55 (fun H w => ?_)
  have w := r_cell (by omega) w (cell_arr G s154 (by decide) (by intro z; have z2 : k = 84 := (by omega); subst z2; exact absurd hs (by decide)) l154)
  refine c_put (v := .ref (ad G (k + 154))) (k := 2) (ci := 10) (ty0 := tyX10) E w ⟨by omega, by omega⟩ (RT_k G k 10 F _) rfl uwX10 tyX10_ok nmX10 (by decide) fc_RX10_20 (Or.inr ⟨rfl, hin, rfl⟩) rfl rfl (Nat.le_of_ble_eq_true rfl) dX10_init_57 (fun H locs w => ?_)
  have w : CW G b s (k + 154) (RT G k 10 F [.ref (ad G (k + 1)), .ref (ad G (k + 39)), .ref (ad G (k + 154)), .null, .null, .null, .null, .null, .null, .null]) H locs := r_put w
  refine lv_aload_n E.1 E.2.1 dX10_init_60 rfl (lv_at hl 0 rfl) ?_
  refine c_new (ci := 4) E w [.null, .null, .int 0, .int 0, .null, .int 0, .int 0, .int 0, .int 0, .int 0, .null] (by show k + 155 < NN; omega) rfl uwX4 tyX4_ok nw_RX10_24 (by decide) (Nat.le_of_ble_eq_true rfl) (Nat.le_of_ble_eq_true rfl) dX10_init_61 (fun H w => ?_)
  refine lv_dup E.1 E.2.1 dX10_init_64 rfl ?_
  refine c_call (k := k + 155) (As := []) (rest := [.ref (ad G (k + 155)), .ref (ad G (k))]) E w (X4_init_n s155 (by simp [va_up])) mi_RX10_26 rfl rfl hl.1 ⟨Nat.le_of_ble_eq_true rfl, Nat.le_of_ble_eq_true rfl⟩ (Nat.le_of_ble_eq_true rfl) ⟨Nat.le_of_ble_eq_true rfl, Nat.le_of_ble_eq_true rfl⟩ dX10_init_65 (fun H locs w => ?_)
  have w := r_sub (fun i hi => RT_gt G F _ (by omega)) w
  have w : CW G b s (k + 169) (RT G k 10 F [.ref (ad G (k + 1)), .ref (ad G (k + 39)), .ref (ad G (k + 154)), .null, .null, .null, .null, .null, .null, .null]) H locs := w
  refine c_put (v := .ref (ad G (k + 155))) (k := 3) (ci := 10) (ty0 := tyX10) E w ⟨by omega, by omega⟩ (RT_k G k 10 F _) rfl uwX10 tyX10_ok nmX10 (by decide) fc_RX10_27 (Or.inr ⟨rfl, hin, rfl⟩) rfl rfl (Nat.le_of_ble_eq_true rfl) dX10_init_68 (fun H locs w => ?_)
  have w : CW G b s (k + 169) (RT G k 10 F [.ref (ad G (k + 1)), .ref (ad G (k + 39)), .ref (ad G (k + 154)), .ref (ad G (k + 155)), .null, .null, .null, .null, .null, .null]) H locs := r_put w
  refine lv_aload_n E.1 E.2.1 dX10_init_71 rfl (lv_at hl 0 rfl) ?_
  refine c_new (ci := 5) E w [.null, .int 0, .int 0, .null, .null, .null] (by show k + 170 < NN; omega) rfl uwX5 tyX5_ok nw_RX10_31 (by decide) (Nat.le_of_ble_eq_true rfl) (Nat.le_of_ble_eq_true rfl) dX10_init_72 (fun H w => ?_)
  refine lv_dup E.1 E.2.1 dX10_init_75 rfl ?_
  refine c_call (k := k + 170) (As := []) (rest := [.ref (ad G (k + 170)), .ref (ad G (k))]) E w (X5_init_n s170 (by simp [va_up])) mi_RX10_33 rfl rfl hl.1 ⟨Nat.le_of_ble_eq_true rfl, Nat.le_of_ble_eq_true rfl⟩ (Nat.le_of_ble_eq_true rfl) ⟨Nat.le_of_ble_eq_true rfl, Nat.le_of_ble_eq_true rfl⟩ dX10_init_76 (fun H locs w => ?_)
  have w := r_sub (fun i hi => RT_gt G F _ (by omega)) w
  have w : CW G b s (k + 183) (RT G k 10 F [.ref (ad G (k + 1)), .ref (ad G (k + 39)), .ref (ad G (k + 154)), .ref (ad G (k + 155)), .null, .null, .null, .null, .null, .null]) H locs := w
  refine c_put (v := .ref (ad G (k + 170))) (k := 4) (ci := 10) (ty0 := tyX10) E w ⟨by omega, by omega⟩ (RT_k G k 10 F _) rfl uwX10 tyX10_ok nmX10 (by decide) fc_RX10_34 (Or.inr ⟨rfl, hin, rfl⟩) rfl rfl (Nat.le_of_ble_eq_true rfl) dX10_init_79 (fun H locs w => ?_)
  have w : CW G b s (k + 183) (RT G k 10 F [.ref (ad G (k + 1)), .ref (ad G (k + 39)), .ref (ad G (k + 154)), .ref (ad G (k + 155)), .ref (ad G (k + 170)), .null, .null, .null, .null, .null]) H locs := r_put w
  refine lv_aload_n E.1 E.2.1 dX10_init_82 rfl (lv_at hl 0 rfl) ?_
  refine c_new (ci := 3) E w [.null, .int 0, .int 0, .int 0, .int 0, .int 0, .int 0, .int 0, .int 0, .int 0, .int 0, .null, .null, .int 0, .int 0, .int 0, .int 0, .int 0, .int 0] (by show k + 184 < NN; omega) rfl uwX3 tyX3_ok nw_RX10_38 (by decide) (Nat.le_of_ble_eq_true rfl) (Nat.le_of_ble_eq_true rfl) dX10_init_83 (fun H w => ?_)
  refine lv_dup E.1 E.2.1 dX10_init_86 rfl ?_
  refine c_call (k := k + 184) (As := []) (rest := [.ref (ad G (k + 184)), .ref (ad G (k))]) E w (X3_init_n s184 (by simp [va_up])) mi_RX10_40 rfl rfl hl.1 ⟨Nat.le_of_ble_eq_true rfl, Nat.le_of_ble_eq_true rfl⟩ (Nat.le_of_ble_eq_true rfl) ⟨Nat.le_of_ble_eq_true rfl, Nat.le_of_ble_eq_true rfl⟩ dX10_init_87 (fun H locs w => ?_)
  have w := r_sub (fun i hi => RT_gt G F _ (by omega)) w
  have w : CW G b s (k + 196) (RT G k 10 F [.ref (ad G (k + 1)), .ref (ad G (k + 39)), .ref (ad G (k + 154)), .ref (ad G (k + 155)), .ref (ad G (k + 170)), .null, .null, .null, .null, .null]) H locs := w
  refine c_put (v := .ref (ad G (k + 184))) (k := 5) (ci := 10) (ty0 := tyX10) E w ⟨by omega, by omega⟩ (RT_k G k 10 F _) rfl uwX10 tyX10_ok nmX10 (by decide) fc_RX10_41 (Or.inr ⟨rfl, hin, rfl⟩) rfl rfl (Nat.le_of_ble_eq_true rfl) dX10_init_90 (fun H locs w => ?_)
  have w : CW G b s (k + 196) (RT G k 10 F [.ref (ad G (k + 1)), .ref (ad G (k + 39)), .ref (ad G (k + 154)), .ref (ad G (k + 155)), .ref (ad G (k + 170)), .ref (ad G (k + 184)), .null, .null, .null, .null]) H locs := r_put w
  refine lv_aload_n E.1 E.2.1 dX10_init_93 rfl (lv_at hl 0 rfl) ?_
  refine c_new (ci := 0) E w [.null, .null] (by show k + 197 < NN; omega) rfl uwX0 tyX0_ok nw_RX10_45 (by decide) (Nat.le_of_ble_eq_true rfl) (Nat.le_of_ble_eq_true rfl) dX10_init_94 (fun H w => ?_)
  refine lv_dup E.1 E.2.1 dX10_init_97 rfl ?_
  refine c_call (k := k + 197) (As := []) (rest := [.ref (ad G (k + 197)), .ref (ad G (k))]) E w (X0_init_n s197 (by simp [va_up])) mi_RX10_47 rfl rfl hl.1 ⟨Nat.le_of_ble_eq_true rfl, Nat.le_of_ble_eq_true rfl⟩ (Nat.le_of_ble_eq_true rfl) ⟨Nat.le_of_ble_eq_true rfl, Nat.le_of_ble_eq_true rfl⟩ dX10_init_98 (fun H locs w => ?_)
  have w := r_sub (fun i hi => RT_gt G F _ (by omega)) w
  have w : CW G b s (k + 208) (RT G k 10 F [.ref (ad G (k + 1)), .ref (ad G (k + 39)), .ref (ad G (k + 154)), .ref (ad G (k + 155)), .ref (ad G (k + 170)), .ref (ad G (k + 184)), .null, .null, .null, .null]) H locs := w
  refine c_put (v := .ref (ad G (k + 197))) (k := 6) (ci := 10) (ty0 := tyX10) E w ⟨by omega, by omega⟩ (RT_k G k 10 F _) rfl uwX10 tyX10_ok nmX10 (by decide) fc_RX10_48 (Or.inr ⟨rfl, hin, rfl⟩) rfl rfl (Nat.le_of_ble_eq_true rfl) dX10_init_101 (fun H locs w => ?_)
  have w : CW G b s (k + 208) (RT G k 10 F [.ref (ad G (k + 1)), .ref (ad G (k + 39)), .ref (ad G (k + 154)), .ref (ad G (k + 155)), .ref (ad G (k + 170)), .ref (ad G (k + 184)), .ref (ad G (k + 197)), .null, .null, .null]) H locs := r_put w
  refine lv_aload_n E.1 E.2.1 dX10_init_104 rfl (lv_at hl 0 rfl) ?_
  refine c_new (ci := 9) E w [.null, .int 0, .int 0, .int 0, .int 0, .int 0] (by show k + 209 < NN; omega) rfl uwX9 tyX9_ok nw_RX10_52 (by decide) (Nat.le_of_ble_eq_true rfl) (Nat.le_of_ble_eq_true rfl) dX10_init_105 (fun H w => ?_)
  refine lv_dup E.1 E.2.1 dX10_init_108 rfl ?_
  refine c_call (k := k + 209) (As := []) (rest := [.ref (ad G (k + 209)), .ref (ad G (k))]) E w (X9_init_n s209 (by simp [va_up])) mi_RX10_54 rfl rfl hl.1 ⟨Nat.le_of_ble_eq_true rfl, Nat.le_of_ble_eq_true rfl⟩ (Nat.le_of_ble_eq_true rfl) ⟨Nat.le_of_ble_eq_true rfl, Nat.le_of_ble_eq_true rfl⟩ dX10_init_109 (fun H locs w => ?_)
  have w := r_sub (fun i hi => RT_gt G F _ (by omega)) w
  have w : CW G b s (k + 219) (RT G k 10 F [.ref (ad G (k + 1)), .ref (ad G (k + 39)), .ref (ad G (k + 154)), .ref (ad G (k + 155)), .ref (ad G (k + 170)), .ref (ad G (k + 184)), .ref (ad G (k + 197)), .null, .null, .null]) H locs := w
  refine c_put (v := .ref (ad G (k + 209))) (k := 7) (ci := 10) (ty0 := tyX10) E w ⟨by omega, by omega⟩ (RT_k G k 10 F _) rfl uwX10 tyX10_ok nmX10 (by decide) fc_RX10_55 (Or.inr ⟨rfl, hin, rfl⟩) rfl rfl (Nat.le_of_ble_eq_true rfl) dX10_init_112 (fun H locs w => ?_)
  have w : CW G b s (k + 219) (RT G k 10 F [.ref (ad G (k + 1)), .ref (ad G (k + 39)), .ref (ad G (k + 154)), .ref (ad G (k + 155)), .ref (ad G (k + 170)), .ref (ad G (k + 184)), .ref (ad G (k + 197)), .ref (ad G (k + 209)), .null, .null]) H locs := r_put w
  refine lv_aload_n E.1 E.2.1 dX10_init_115 rfl (lv_at hl 0 rfl) ?_
  refine c_new (ci := 8) E w [.null, .null, .null, .null] (by show k + 220 < NN; omega) rfl uwX8 tyX8_ok nw_RX10_59 (by decide) (Nat.le_of_ble_eq_true rfl) (Nat.le_of_ble_eq_true rfl) dX10_init_116 (fun H w => ?_)
  refine lv_dup E.1 E.2.1 dX10_init_119 rfl ?_
  refine c_call (k := k + 220) (As := []) (rest := [.ref (ad G (k + 220)), .ref (ad G (k))]) E w (X8_init_n s220 (by simp [va_up])) mi_RX10_61 rfl rfl hl.1 ⟨Nat.le_of_ble_eq_true rfl, Nat.le_of_ble_eq_true rfl⟩ (Nat.le_of_ble_eq_true rfl) ⟨Nat.le_of_ble_eq_true rfl, Nat.le_of_ble_eq_true rfl⟩ dX10_init_120 (fun H locs w => ?_)
  have w := r_sub (fun i hi => RT_gt G F _ (by omega)) w
  have w : CW G b s (k + 233) (RT G k 10 F [.ref (ad G (k + 1)), .ref (ad G (k + 39)), .ref (ad G (k + 154)), .ref (ad G (k + 155)), .ref (ad G (k + 170)), .ref (ad G (k + 184)), .ref (ad G (k + 197)), .ref (ad G (k + 209)), .null, .null]) H locs := w
  refine c_put (v := .ref (ad G (k + 220))) (k := 8) (ci := 10) (ty0 := tyX10) E w ⟨by omega, by omega⟩ (RT_k G k 10 F _) rfl uwX10 tyX10_ok nmX10 (by decide) fc_RX10_62 (Or.inr ⟨rfl, hin, rfl⟩) rfl rfl (Nat.le_of_ble_eq_true rfl) dX10_init_123 (fun H locs w => ?_)
  have w : CW G b s (k + 233) (RT G k 10 F [.ref (ad G (k + 1)), .ref (ad G (k + 39)), .ref (ad G (k + 154)), .ref (ad G (k + 155)), .ref (ad G (k + 170)), .ref (ad G (k + 184)), .ref (ad G (k + 197)), .ref (ad G (k + 209)), .ref (ad G (k + 220)), .null]) H locs := r_put w
  refine lv_aload_n E.1 E.2.1 dX10_init_126 rfl (lv_at hl 0 rfl) ?_
  refine c_new (ci := 2) E w [.null, .int 0] (by show k + 234 < NN; omega) rfl uwX2 tyX2_ok nw_RX10_66 (by decide) (Nat.le_of_ble_eq_true rfl) (Nat.le_of_ble_eq_true rfl) dX10_init_127 (fun H w => ?_)
  refine lv_dup E.1 E.2.1 dX10_init_130 rfl ?_
  refine c_call (k := k + 234) (As := []) (rest := [.ref (ad G (k + 234)), .ref (ad G (k))]) E w (X2_init_n s234 (by simp [va_up])) mi_RX10_68 rfl rfl hl.1 ⟨Nat.le_of_ble_eq_true rfl, Nat.le_of_ble_eq_true rfl⟩ (Nat.le_of_ble_eq_true rfl) ⟨Nat.le_of_ble_eq_true rfl, Nat.le_of_ble_eq_true rfl⟩ dX10_init_131 (fun H locs w => ?_)
  have w := r_sub (fun i hi => RT_gt G F _ (by omega)) w
  have w : CW G b s (k + 235) (RT G k 10 F [.ref (ad G (k + 1)), .ref (ad G (k + 39)), .ref (ad G (k + 154)), .ref (ad G (k + 155)), .ref (ad G (k + 170)), .ref (ad G (k + 184)), .ref (ad G (k + 197)), .ref (ad G (k + 209)), .ref (ad G (k + 220)), .null]) H locs := w
  refine c_put (v := .ref (ad G (k + 234))) (k := 9) (ci := 10) (ty0 := tyX10) E w ⟨by omega, by omega⟩ (RT_k G k 10 F _) rfl uwX10 tyX10_ok nmX10 (by decide) fc_RX10_69 (Or.inr ⟨rfl, hin, rfl⟩) rfl rfl (Nat.le_of_ble_eq_true rfl) dX10_init_134 (fun H locs w => ?_)
  have w : CW G b s (k + 235) (RT G k 10 F [.ref (ad G (k + 1)), .ref (ad G (k + 39)), .ref (ad G (k + 154)), .ref (ad G (k + 155)), .ref (ad G (k + 170)), .ref (ad G (k + 184)), .ref (ad G (k + 197)), .ref (ad G (k + 209)), .ref (ad G (k + 220)), .ref (ad G (k + 234))]) H locs := r_put w
  have h238 : ¬ k = 238 := fun z => by subst z; exact absurd hs (by decide)
  have w := r_end w hs (by decide) (by
    have e : fsO G hI k 10 = [.ref (ad G (k + 1)), .ref (ad G (k + 39)), .ref (ad G (k + 154)), .ref (ad G (k + 155)), .ref (ad G (k + 170)), .ref (ad G (k + 184)), .ref (ad G (k + 197)), .ref (ad G (k + 209)), .ref (ad G (k + 220)), .ref (ad G (k + 234))] := by
      simp [fsO, fk, fkL, fv, hI, hs, iniL, rfv, h238]
    exact e)
  exact c_vret E w hr hlk dX10_init_137
set_option maxRecDepth 8000 in
set_option maxHeartbeats 4000000 in
theorem X11_init_n {l : Launch} {G : GT} {b k : Nat} {F : Nat → va_E} (hs : sh k = 11) (hF : F k = .inr (11, [.null, .null, .int 0, .int 0, .int 0, .int 0, .int 0, .int 0, .int 0, .int 0, .int 0, .null, .int 0, .int 0, .int 0, .int 0, .null, .null, .null, .null, .int 0, .int 0, .int 0, .null, .null, .null, .null, .null, .null, .int 0, .null, .null, .int 0, .int 0, .int 0, .int 0, .int 0, .int 0, .int 0, .int 0, .int 0, .int 0, .int 0, .int 0, .int 0, .null, .null, .null, .int 0, .null, .int 0])) : CN l G yX11_init cX11_init 1 1 20 19 4072 [.ref (ad G k)] b k F (k + 19) (FN G k F) := by
  have hk0 : 0 < k := sh_pos (by omega)
  have hkn : k + 19 < NN := by have := (by decide +kernel : ∀ k, k < 257 → sh k = 11 → k + 19 < 257) k (sh_lt (by omega)) hs; exact this
  have hNN : NN = 257 := rfl
  have s2 : sh (k + 2) = 14 := (by decide +kernel : ∀ k, k < 257 → sh k = 11 → sh (k + 2) = 14) k (sh_lt (by omega)) hs
  have l2 : ln (k + 2) = 3 := (by decide +kernel : ∀ k, k < 257 → sh k = 11 → ln (k + 2) = 3) k (sh_lt (by omega)) hs
  have s3 : sh (k + 3) = 13 := (by decide +kernel : ∀ k, k < 257 → sh k = 11 → sh (k + 3) = 13) k (sh_lt (by omega)) hs
  have l3 : ln (k + 3) = 81 := (by decide +kernel : ∀ k, k < 257 → sh k = 11 → ln (k + 3) = 81) k (sh_lt (by omega)) hs
  have s4 : sh (k + 4) = 13 := (by decide +kernel : ∀ k, k < 257 → sh k = 11 → sh (k + 4) = 13) k (sh_lt (by omega)) hs
  have l4 : ln (k + 4) = 8 := (by decide +kernel : ∀ k, k < 257 → sh k = 11 → ln (k + 4) = 8) k (sh_lt (by omega)) hs
  have s5 : sh (k + 5) = 13 := (by decide +kernel : ∀ k, k < 257 → sh k = 11 → sh (k + 5) = 13) k (sh_lt (by omega)) hs
  have l5 : ln (k + 5) = 8 := (by decide +kernel : ∀ k, k < 257 → sh k = 11 → ln (k + 5) = 8) k (sh_lt (by omega)) hs
  have s6 : sh (k + 6) = 13 := (by decide +kernel : ∀ k, k < 257 → sh k = 11 → sh (k + 6) = 13) k (sh_lt (by omega)) hs
  have l6 : ln (k + 6) = 6 := (by decide +kernel : ∀ k, k < 257 → sh k = 11 → ln (k + 6) = 6) k (sh_lt (by omega)) hs
  have s7 : sh (k + 7) = 13 := (by decide +kernel : ∀ k, k < 257 → sh k = 11 → sh (k + 7) = 13) k (sh_lt (by omega)) hs
  have l7 : ln (k + 7) = 6 := (by decide +kernel : ∀ k, k < 257 → sh k = 11 → ln (k + 7) = 6) k (sh_lt (by omega)) hs
  have s8 : sh (k + 8) = 13 := (by decide +kernel : ∀ k, k < 257 → sh k = 11 → sh (k + 8) = 13) k (sh_lt (by omega)) hs
  have l8 : ln (k + 8) = 8 := (by decide +kernel : ∀ k, k < 257 → sh k = 11 → ln (k + 8) = 8) k (sh_lt (by omega)) hs
  have s9 : sh (k + 9) = 13 := (by decide +kernel : ∀ k, k < 257 → sh k = 11 → sh (k + 9) = 13) k (sh_lt (by omega)) hs
  have l9 : ln (k + 9) = 8 := (by decide +kernel : ∀ k, k < 257 → sh k = 11 → ln (k + 9) = 8) k (sh_lt (by omega)) hs
  have s10 : sh (k + 10) = 13 := (by decide +kernel : ∀ k, k < 257 → sh k = 11 → sh (k + 10) = 13) k (sh_lt (by omega)) hs
  have l10 : ln (k + 10) = 6 := (by decide +kernel : ∀ k, k < 257 → sh k = 11 → ln (k + 10) = 6) k (sh_lt (by omega)) hs
  have s11 : sh (k + 11) = 13 := (by decide +kernel : ∀ k, k < 257 → sh k = 11 → sh (k + 11) = 13) k (sh_lt (by omega)) hs
  have l11 : ln (k + 11) = 6 := (by decide +kernel : ∀ k, k < 257 → sh k = 11 → ln (k + 11) = 6) k (sh_lt (by omega)) hs
  have s12 : sh (k + 12) = 13 := (by decide +kernel : ∀ k, k < 257 → sh k = 11 → sh (k + 12) = 13) k (sh_lt (by omega)) hs
  have l12 : ln (k + 12) = 6 := (by decide +kernel : ∀ k, k < 257 → sh k = 11 → ln (k + 12) = 6) k (sh_lt (by omega)) hs
  have s13 : sh (k + 13) = 13 := (by decide +kernel : ∀ k, k < 257 → sh k = 11 → sh (k + 13) = 13) k (sh_lt (by omega)) hs
  have l13 : ln (k + 13) = 6 := (by decide +kernel : ∀ k, k < 257 → sh k = 11 → ln (k + 13) = 6) k (sh_lt (by omega)) hs
  have s14 : sh (k + 14) = 13 := (by decide +kernel : ∀ k, k < 257 → sh k = 11 → sh (k + 14) = 13) k (sh_lt (by omega)) hs
  have l14 : ln (k + 14) = 80 := (by decide +kernel : ∀ k, k < 257 → sh k = 11 → ln (k + 14) = 80) k (sh_lt (by omega)) hs
  have s15 : sh (k + 15) = 14 := (by decide +kernel : ∀ k, k < 257 → sh k = 11 → sh (k + 15) = 14) k (sh_lt (by omega)) hs
  have l15 : ln (k + 15) = 80 := (by decide +kernel : ∀ k, k < 257 → sh k = 11 → ln (k + 15) = 80) k (sh_lt (by omega)) hs
  have s16 : sh (k + 16) = 13 := (by decide +kernel : ∀ k, k < 257 → sh k = 11 → sh (k + 16) = 13) k (sh_lt (by omega)) hs
  have l16 : ln (k + 16) = 5 := (by decide +kernel : ∀ k, k < 257 → sh k = 11 → ln (k + 16) = 5) k (sh_lt (by omega)) hs
  have s17 : sh (k + 17) = 13 := (by decide +kernel : ∀ k, k < 257 → sh k = 11 → sh (k + 17) = 13) k (sh_lt (by omega)) hs
  have l17 : ln (k + 17) = 5 := (by decide +kernel : ∀ k, k < 257 → sh k = 11 → ln (k + 17) = 5) k (sh_lt (by omega)) hs
  have s18 : sh (k + 18) = 13 := (by decide +kernel : ∀ k, k < 257 → sh k = 11 → sh (k + 18) = 13) k (sh_lt (by omega)) hs
  have l18 : ln (k + 18) = 8 := (by decide +kernel : ∀ k, k < 257 → sh k = 11 → ln (k + 18) = 8) k (sh_lt (by omega)) hs
  have s19 : sh (k + 19) = 13 := (by decide +kernel : ∀ k, k < 257 → sh k = 11 → sh (k + 19) = 13) k (sh_lt (by omega)) hs
  have l19 : ln (k + 19) = 6 := (by decide +kernel : ∀ k, k < 257 → sh k = 11 → ln (k + 19) = 6) k (sh_lt (by omega)) hs
  refine CN.of (by decide) (Nat.le_of_ble_eq_true rfl) ?_
  intro p e s m below meth c ls E hr hlk hin w hl
  have hl : lv_has ls 1 [(0, .ref (ad G k))] := hl
  have w := r_start w hF
  refine lv_aload_n E.1 E.2.1 dX11_init_0 rfl (lv_at hl 0 rfl) ?_
  refine c_objInit E oi_RX11 hl.1 ⟨Nat.le_of_ble_eq_true rfl, Nat.le_of_ble_eq_true rfl⟩ dX11_init_1 ?_
  refine lv_aload_n E.1 E.2.1 dX11_init_4 rfl (lv_at hl 0 rfl) ?_
  refine lv_sipush (v := 3736) E.1 E.2.1 dX11_init_5 rfl ?_
  refine c_arr (atype := .int) (ty := .int) (kd := 13) (t0 := 1) E w rfl rfl (fun z => z) rfl (by show k + 1 < NN; omega) ac_int (x := 3736) (L := 3736) (by decide) (by decide) (by decide) (Nat.le_of_ble_eq_true rfl) (Nat.le_of_ble_eq_true rfl) dX11_init_8 (fun H w => ?_)
  refine c_put (v := .ref (ad G (k + 1))) (k := 0) (ci := 11) (ty0 := tyX11) E w ⟨by omega, by omega⟩ (by unfold va_up; rw [if_neg (by omega)]; exact RT_k G k 11 F _) rfl uwX11 tyX11_ok nmX11 (by decide) fc_RX11_7 (Or.inr ⟨rfl, hin, rfl⟩) rfl rfl (Nat.le_of_ble_eq_true rfl) dX11_init_10 (fun H locs w => ?_)
  have w : CW G b s (k + 1) (va_up (RT G k 11 F [.ref (ad G (k + 1)), .null, .int 0, .int 0, .int 0, .int 0, .int 0, .int 0, .int 0, .int 0, .int 0, .null, .int 0, .int 0, .int 0, .int 0, .null, .null, .null, .null, .int 0, .int 0, .int 0, .null, .null, .null, .null, .null, .null, .int 0, .null, .null, .int 0, .int 0, .int 0, .int 0, .int 0, .int 0, .int 0, .int 0, .int 0, .int 0, .int 0, .int 0, .int 0, .null, .null, .null, .int 0, .null, .int 0]) (k + 1) (.inl (G.2.2.1 13, 3736, .inl (fun _ => 0)))) H locs := r_putO (by omega) w
  refine lv_aload_n E.1 E.2.1 dX11_init_13 rfl (lv_at hl 0 rfl) ?_
  refine lv_iconst (v := 3) E.1 E.2.1 dX11_init_14 rfl ?_
  refine c_arr (atype := .boolean) (ty := .boolean) (kd := 14) (t0 := 2) E w rfl rfl (fun z => z) rfl (by show k + 2 < NN; omega) ac_boolean (x := 3) (L := 3) (by decide) (by decide) (by decide) (Nat.le_of_ble_eq_true rfl) (Nat.le_of_ble_eq_true rfl) dX11_init_15 (fun H w => ?_)
  have w := r_cellO (by omega) (by omega) w (cell_arr G s2 (by decide) (by intro z; have z2 : k = 236 := (by omega); subst z2; exact absurd hs (by decide)) l2)
  refine c_put (v := .ref (ad G (k + 2))) (k := 1) (ci := 11) (ty0 := tyX11) E w ⟨by omega, by omega⟩ (by unfold va_up; rw [if_neg (by omega)]; exact RT_k G k 11 F _) rfl uwX11 tyX11_ok nmX11 (by decide) fc_RX11_13 (Or.inr ⟨rfl, hin, rfl⟩) rfl rfl (Nat.le_of_ble_eq_true rfl) dX11_init_17 (fun H locs w => ?_)
  have w : CW G b s (k + 2) (va_up (RT G k 11 F [.ref (ad G (k + 1)), .ref (ad G (k + 2)), .int 0, .int 0, .int 0, .int 0, .int 0, .int 0, .int 0, .int 0, .int 0, .null, .int 0, .int 0, .int 0, .int 0, .null, .null, .null, .null, .int 0, .int 0, .int 0, .null, .null, .null, .null, .null, .null, .int 0, .null, .null, .int 0, .int 0, .int 0, .int 0, .int 0, .int 0, .int 0, .int 0, .int 0, .int 0, .int 0, .int 0, .int 0, .null, .null, .null, .int 0, .null, .int 0]) (k + 1) (.inl (G.2.2.1 13, 3736, .inl (fun _ => 0)))) H locs := r_putO (by omega) w
  refine lv_aload_n E.1 E.2.1 dX11_init_20 rfl (lv_at hl 0 rfl) ?_
  refine lv_bipush (v := 81) E.1 E.2.1 dX11_init_21 rfl ?_
  refine c_arr (atype := .int) (ty := .int) (kd := 13) (t0 := 1) E w rfl rfl (fun z => z) rfl (by show k + 3 < NN; omega) ac_int (x := 81) (L := 81) (by decide) (by decide) (by decide) (Nat.le_of_ble_eq_true rfl) (Nat.le_of_ble_eq_true rfl) dX11_init_23 (fun H w => ?_)
  have w := r_cellO (by omega) (by omega) w (cell_arr G s3 (by decide) (by intro z; have z2 : k = 235 := (by omega); subst z2; exact absurd hs (by decide)) l3)
  refine c_put (v := .ref (ad G (k + 3))) (k := 11) (ci := 11) (ty0 := tyX11) E w ⟨by omega, by omega⟩ (by unfold va_up; rw [if_neg (by omega)]; exact RT_k G k 11 F _) rfl uwX11 tyX11_ok nmX11 (by decide) fc_RX11_17 (Or.inr ⟨rfl, hin, rfl⟩) rfl rfl (Nat.le_of_ble_eq_true rfl) dX11_init_25 (fun H locs w => ?_)
  have w : CW G b s (k + 3) (va_up (RT G k 11 F [.ref (ad G (k + 1)), .ref (ad G (k + 2)), .int 0, .int 0, .int 0, .int 0, .int 0, .int 0, .int 0, .int 0, .int 0, .ref (ad G (k + 3)), .int 0, .int 0, .int 0, .int 0, .null, .null, .null, .null, .int 0, .int 0, .int 0, .null, .null, .null, .null, .null, .null, .int 0, .null, .null, .int 0, .int 0, .int 0, .int 0, .int 0, .int 0, .int 0, .int 0, .int 0, .int 0, .int 0, .int 0, .int 0, .null, .null, .null, .int 0, .null, .int 0]) (k + 1) (.inl (G.2.2.1 13, 3736, .inl (fun _ => 0)))) H locs := r_putO (by omega) w
  refine lv_aload_n E.1 E.2.1 dX11_init_28 rfl (lv_at hl 0 rfl) ?_
  refine lv_bipush (v := 8) E.1 E.2.1 dX11_init_29 rfl ?_
  refine c_arr (atype := .int) (ty := .int) (kd := 13) (t0 := 1) E w rfl rfl (fun z => z) rfl (by show k + 4 < NN; omega) ac_int (x := 8) (L := 8) (by decide) (by decide) (by decide) (Nat.le_of_ble_eq_true rfl) (Nat.le_of_ble_eq_true rfl) dX11_init_31 (fun H w => ?_)
  have w := r_cellO (by omega) (by omega) w (cell_arr G s4 (by decide) (by intro z; have z2 : k = 234 := (by omega); subst z2; exact absurd hs (by decide)) l4)
  refine c_put (v := .ref (ad G (k + 4))) (k := 16) (ci := 11) (ty0 := tyX11) E w ⟨by omega, by omega⟩ (by unfold va_up; rw [if_neg (by omega)]; exact RT_k G k 11 F _) rfl uwX11 tyX11_ok nmX11 (by decide) fc_RX11_20 (Or.inr ⟨rfl, hin, rfl⟩) rfl rfl (Nat.le_of_ble_eq_true rfl) dX11_init_33 (fun H locs w => ?_)
  have w : CW G b s (k + 4) (va_up (RT G k 11 F [.ref (ad G (k + 1)), .ref (ad G (k + 2)), .int 0, .int 0, .int 0, .int 0, .int 0, .int 0, .int 0, .int 0, .int 0, .ref (ad G (k + 3)), .int 0, .int 0, .int 0, .int 0, .ref (ad G (k + 4)), .null, .null, .null, .int 0, .int 0, .int 0, .null, .null, .null, .null, .null, .null, .int 0, .null, .null, .int 0, .int 0, .int 0, .int 0, .int 0, .int 0, .int 0, .int 0, .int 0, .int 0, .int 0, .int 0, .int 0, .null, .null, .null, .int 0, .null, .int 0]) (k + 1) (.inl (G.2.2.1 13, 3736, .inl (fun _ => 0)))) H locs := r_putO (by omega) w
  refine lv_aload_n E.1 E.2.1 dX11_init_36 rfl (lv_at hl 0 rfl) ?_
  refine lv_bipush (v := 8) E.1 E.2.1 dX11_init_37 rfl ?_
  refine c_arr (atype := .int) (ty := .int) (kd := 13) (t0 := 1) E w rfl rfl (fun z => z) rfl (by show k + 5 < NN; omega) ac_int (x := 8) (L := 8) (by decide) (by decide) (by decide) (Nat.le_of_ble_eq_true rfl) (Nat.le_of_ble_eq_true rfl) dX11_init_39 (fun H w => ?_)
  have w := r_cellO (by omega) (by omega) w (cell_arr G s5 (by decide) (by intro z; have z2 : k = 233 := (by omega); subst z2; exact absurd hs (by decide)) l5)
  refine c_put (v := .ref (ad G (k + 5))) (k := 17) (ci := 11) (ty0 := tyX11) E w ⟨by omega, by omega⟩ (by unfold va_up; rw [if_neg (by omega)]; exact RT_k G k 11 F _) rfl uwX11 tyX11_ok nmX11 (by decide) fc_RX11_23 (Or.inr ⟨rfl, hin, rfl⟩) rfl rfl (Nat.le_of_ble_eq_true rfl) dX11_init_41 (fun H locs w => ?_)
  have w : CW G b s (k + 5) (va_up (RT G k 11 F [.ref (ad G (k + 1)), .ref (ad G (k + 2)), .int 0, .int 0, .int 0, .int 0, .int 0, .int 0, .int 0, .int 0, .int 0, .ref (ad G (k + 3)), .int 0, .int 0, .int 0, .int 0, .ref (ad G (k + 4)), .ref (ad G (k + 5)), .null, .null, .int 0, .int 0, .int 0, .null, .null, .null, .null, .null, .null, .int 0, .null, .null, .int 0, .int 0, .int 0, .int 0, .int 0, .int 0, .int 0, .int 0, .int 0, .int 0, .int 0, .int 0, .int 0, .null, .null, .null, .int 0, .null, .int 0]) (k + 1) (.inl (G.2.2.1 13, 3736, .inl (fun _ => 0)))) H locs := r_putO (by omega) w
  refine lv_aload_n E.1 E.2.1 dX11_init_44 rfl (lv_at hl 0 rfl) ?_
  refine lv_bipush (v := 6) E.1 E.2.1 dX11_init_45 rfl ?_
  refine c_arr (atype := .int) (ty := .int) (kd := 13) (t0 := 1) E w rfl rfl (fun z => z) rfl (by show k + 6 < NN; omega) ac_int (x := 6) (L := 6) (by decide) (by decide) (by decide) (Nat.le_of_ble_eq_true rfl) (Nat.le_of_ble_eq_true rfl) dX11_init_47 (fun H w => ?_)
  have w := r_cellO (by omega) (by omega) w (cell_arr G s6 (by decide) (by intro z; have z2 : k = 232 := (by omega); subst z2; exact absurd hs (by decide)) l6)
  refine c_put (v := .ref (ad G (k + 6))) (k := 18) (ci := 11) (ty0 := tyX11) E w ⟨by omega, by omega⟩ (by unfold va_up; rw [if_neg (by omega)]; exact RT_k G k 11 F _) rfl uwX11 tyX11_ok nmX11 (by decide) fc_RX11_26 (Or.inr ⟨rfl, hin, rfl⟩) rfl rfl (Nat.le_of_ble_eq_true rfl) dX11_init_49 (fun H locs w => ?_)
  have w : CW G b s (k + 6) (va_up (RT G k 11 F [.ref (ad G (k + 1)), .ref (ad G (k + 2)), .int 0, .int 0, .int 0, .int 0, .int 0, .int 0, .int 0, .int 0, .int 0, .ref (ad G (k + 3)), .int 0, .int 0, .int 0, .int 0, .ref (ad G (k + 4)), .ref (ad G (k + 5)), .ref (ad G (k + 6)), .null, .int 0, .int 0, .int 0, .null, .null, .null, .null, .null, .null, .int 0, .null, .null, .int 0, .int 0, .int 0, .int 0, .int 0, .int 0, .int 0, .int 0, .int 0, .int 0, .int 0, .int 0, .int 0, .null, .null, .null, .int 0, .null, .int 0]) (k + 1) (.inl (G.2.2.1 13, 3736, .inl (fun _ => 0)))) H locs := r_putO (by omega) w
  refine lv_aload_n E.1 E.2.1 dX11_init_52 rfl (lv_at hl 0 rfl) ?_
  refine lv_bipush (v := 6) E.1 E.2.1 dX11_init_53 rfl ?_
  refine c_arr (atype := .int) (ty := .int) (kd := 13) (t0 := 1) E w rfl rfl (fun z => z) rfl (by show k + 7 < NN; omega) ac_int (x := 6) (L := 6) (by decide) (by decide) (by decide) (Nat.le_of_ble_eq_true rfl) (Nat.le_of_ble_eq_true rfl) dX11_init_55 (fun H w => ?_)
  have w := r_cellO (by omega) (by omega) w (cell_arr G s7 (by decide) (by intro z; have z2 : k = 231 := (by omega); subst z2; exact absurd hs (by decide)) l7)
  refine c_put (v := .ref (ad G (k + 7))) (k := 19) (ci := 11) (ty0 := tyX11) E w ⟨by omega, by omega⟩ (by unfold va_up; rw [if_neg (by omega)]; exact RT_k G k 11 F _) rfl uwX11 tyX11_ok nmX11 (by decide) fc_RX11_29 (Or.inr ⟨rfl, hin, rfl⟩) rfl rfl (Nat.le_of_ble_eq_true rfl) dX11_init_57 (fun H locs w => ?_)
  have w : CW G b s (k + 7) (va_up (RT G k 11 F [.ref (ad G (k + 1)), .ref (ad G (k + 2)), .int 0, .int 0, .int 0, .int 0, .int 0, .int 0, .int 0, .int 0, .int 0, .ref (ad G (k + 3)), .int 0, .int 0, .int 0, .int 0, .ref (ad G (k + 4)), .ref (ad G (k + 5)), .ref (ad G (k + 6)), .ref (ad G (k + 7)), .int 0, .int 0, .int 0, .null, .null, .null, .null, .null, .null, .int 0, .null, .null, .int 0, .int 0, .int 0, .int 0, .int 0, .int 0, .int 0, .int 0, .int 0, .int 0, .int 0, .int 0, .int 0, .null, .null, .null, .int 0, .null, .int 0]) (k + 1) (.inl (G.2.2.1 13, 3736, .inl (fun _ => 0)))) H locs := r_putO (by omega) w
  refine lv_aload_n E.1 E.2.1 dX11_init_60 rfl (lv_at hl 0 rfl) ?_
  refine lv_bipush (v := 8) E.1 E.2.1 dX11_init_61 rfl ?_
  refine c_arr (atype := .int) (ty := .int) (kd := 13) (t0 := 1) E w rfl rfl (fun z => z) rfl (by show k + 8 < NN; omega) ac_int (x := 8) (L := 8) (by decide) (by decide) (by decide) (Nat.le_of_ble_eq_true rfl) (Nat.le_of_ble_eq_true rfl) dX11_init_63 (fun H w => ?_)
  have w := r_cellO (by omega) (by omega) w (cell_arr G s8 (by decide) (by intro z; have z2 : k = 230 := (by omega); subst z2; exact absurd hs (by decide)) l8)
  refine c_put (v := .ref (ad G (k + 8))) (k := 23) (ci := 11) (ty0 := tyX11) E w ⟨by omega, by omega⟩ (by unfold va_up; rw [if_neg (by omega)]; exact RT_k G k 11 F _) rfl uwX11 tyX11_ok nmX11 (by decide) fc_RX11_32 (Or.inr ⟨rfl, hin, rfl⟩) rfl rfl (Nat.le_of_ble_eq_true rfl) dX11_init_65 (fun H locs w => ?_)
  have w : CW G b s (k + 8) (va_up (RT G k 11 F [.ref (ad G (k + 1)), .ref (ad G (k + 2)), .int 0, .int 0, .int 0, .int 0, .int 0, .int 0, .int 0, .int 0, .int 0, .ref (ad G (k + 3)), .int 0, .int 0, .int 0, .int 0, .ref (ad G (k + 4)), .ref (ad G (k + 5)), .ref (ad G (k + 6)), .ref (ad G (k + 7)), .int 0, .int 0, .int 0, .ref (ad G (k + 8)), .null, .null, .null, .null, .null, .int 0, .null, .null, .int 0, .int 0, .int 0, .int 0, .int 0, .int 0, .int 0, .int 0, .int 0, .int 0, .int 0, .int 0, .int 0, .null, .null, .null, .int 0, .null, .int 0]) (k + 1) (.inl (G.2.2.1 13, 3736, .inl (fun _ => 0)))) H locs := r_putO (by omega) w
  refine lv_aload_n E.1 E.2.1 dX11_init_68 rfl (lv_at hl 0 rfl) ?_
  refine lv_bipush (v := 8) E.1 E.2.1 dX11_init_69 rfl ?_
  refine c_arr (atype := .int) (ty := .int) (kd := 13) (t0 := 1) E w rfl rfl (fun z => z) rfl (by show k + 9 < NN; omega) ac_int (x := 8) (L := 8) (by decide) (by decide) (by decide) (Nat.le_of_ble_eq_true rfl) (Nat.le_of_ble_eq_true rfl) dX11_init_71 (fun H w => ?_)
  have w := r_cellO (by omega) (by omega) w (cell_arr G s9 (by decide) (by intro z; have z2 : k = 229 := (by omega); subst z2; exact absurd hs (by decide)) l9)
  refine c_put (v := .ref (ad G (k + 9))) (k := 24) (ci := 11) (ty0 := tyX11) E w ⟨by omega, by omega⟩ (by unfold va_up; rw [if_neg (by omega)]; exact RT_k G k 11 F _) rfl uwX11 tyX11_ok nmX11 (by decide) fc_RX11_35 (Or.inr ⟨rfl, hin, rfl⟩) rfl rfl (Nat.le_of_ble_eq_true rfl) dX11_init_73 (fun H locs w => ?_)
  have w : CW G b s (k + 9) (va_up (RT G k 11 F [.ref (ad G (k + 1)), .ref (ad G (k + 2)), .int 0, .int 0, .int 0, .int 0, .int 0, .int 0, .int 0, .int 0, .int 0, .ref (ad G (k + 3)), .int 0, .int 0, .int 0, .int 0, .ref (ad G (k + 4)), .ref (ad G (k + 5)), .ref (ad G (k + 6)), .ref (ad G (k + 7)), .int 0, .int 0, .int 0, .ref (ad G (k + 8)), .ref (ad G (k + 9)), .null, .null, .null, .null, .int 0, .null, .null, .int 0, .int 0, .int 0, .int 0, .int 0, .int 0, .int 0, .int 0, .int 0, .int 0, .int 0, .int 0, .int 0, .null, .null, .null, .int 0, .null, .int 0]) (k + 1) (.inl (G.2.2.1 13, 3736, .inl (fun _ => 0)))) H locs := r_putO (by omega) w
  refine lv_aload_n E.1 E.2.1 dX11_init_76 rfl (lv_at hl 0 rfl) ?_
  refine lv_bipush (v := 6) E.1 E.2.1 dX11_init_77 rfl ?_
  refine c_arr (atype := .int) (ty := .int) (kd := 13) (t0 := 1) E w rfl rfl (fun z => z) rfl (by show k + 10 < NN; omega) ac_int (x := 6) (L := 6) (by decide) (by decide) (by decide) (Nat.le_of_ble_eq_true rfl) (Nat.le_of_ble_eq_true rfl) dX11_init_79 (fun H w => ?_)
  have w := r_cellO (by omega) (by omega) w (cell_arr G s10 (by decide) (by intro z; have z2 : k = 228 := (by omega); subst z2; exact absurd hs (by decide)) l10)
  refine c_put (v := .ref (ad G (k + 10))) (k := 25) (ci := 11) (ty0 := tyX11) E w ⟨by omega, by omega⟩ (by unfold va_up; rw [if_neg (by omega)]; exact RT_k G k 11 F _) rfl uwX11 tyX11_ok nmX11 (by decide) fc_RX11_38 (Or.inr ⟨rfl, hin, rfl⟩) rfl rfl (Nat.le_of_ble_eq_true rfl) dX11_init_81 (fun H locs w => ?_)
  have w : CW G b s (k + 10) (va_up (RT G k 11 F [.ref (ad G (k + 1)), .ref (ad G (k + 2)), .int 0, .int 0, .int 0, .int 0, .int 0, .int 0, .int 0, .int 0, .int 0, .ref (ad G (k + 3)), .int 0, .int 0, .int 0, .int 0, .ref (ad G (k + 4)), .ref (ad G (k + 5)), .ref (ad G (k + 6)), .ref (ad G (k + 7)), .int 0, .int 0, .int 0, .ref (ad G (k + 8)), .ref (ad G (k + 9)), .ref (ad G (k + 10)), .null, .null, .null, .int 0, .null, .null, .int 0, .int 0, .int 0, .int 0, .int 0, .int 0, .int 0, .int 0, .int 0, .int 0, .int 0, .int 0, .int 0, .null, .null, .null, .int 0, .null, .int 0]) (k + 1) (.inl (G.2.2.1 13, 3736, .inl (fun _ => 0)))) H locs := r_putO (by omega) w
  refine lv_aload_n E.1 E.2.1 dX11_init_84 rfl (lv_at hl 0 rfl) ?_
  refine lv_bipush (v := 6) E.1 E.2.1 dX11_init_85 rfl ?_
  refine c_arr (atype := .int) (ty := .int) (kd := 13) (t0 := 1) E w rfl rfl (fun z => z) rfl (by show k + 11 < NN; omega) ac_int (x := 6) (L := 6) (by decide) (by decide) (by decide) (Nat.le_of_ble_eq_true rfl) (Nat.le_of_ble_eq_true rfl) dX11_init_87 (fun H w => ?_)
  have w := r_cellO (by omega) (by omega) w (cell_arr G s11 (by decide) (by intro z; have z2 : k = 227 := (by omega); subst z2; exact absurd hs (by decide)) l11)
  refine c_put (v := .ref (ad G (k + 11))) (k := 26) (ci := 11) (ty0 := tyX11) E w ⟨by omega, by omega⟩ (by unfold va_up; rw [if_neg (by omega)]; exact RT_k G k 11 F _) rfl uwX11 tyX11_ok nmX11 (by decide) fc_RX11_41 (Or.inr ⟨rfl, hin, rfl⟩) rfl rfl (Nat.le_of_ble_eq_true rfl) dX11_init_89 (fun H locs w => ?_)
  have w : CW G b s (k + 11) (va_up (RT G k 11 F [.ref (ad G (k + 1)), .ref (ad G (k + 2)), .int 0, .int 0, .int 0, .int 0, .int 0, .int 0, .int 0, .int 0, .int 0, .ref (ad G (k + 3)), .int 0, .int 0, .int 0, .int 0, .ref (ad G (k + 4)), .ref (ad G (k + 5)), .ref (ad G (k + 6)), .ref (ad G (k + 7)), .int 0, .int 0, .int 0, .ref (ad G (k + 8)), .ref (ad G (k + 9)), .ref (ad G (k + 10)), .ref (ad G (k + 11)), .null, .null, .int 0, .null, .null, .int 0, .int 0, .int 0, .int 0, .int 0, .int 0, .int 0, .int 0, .int 0, .int 0, .int 0, .int 0, .int 0, .null, .null, .null, .int 0, .null, .int 0]) (k + 1) (.inl (G.2.2.1 13, 3736, .inl (fun _ => 0)))) H locs := r_putO (by omega) w
  refine lv_aload_n E.1 E.2.1 dX11_init_92 rfl (lv_at hl 0 rfl) ?_
  refine lv_bipush (v := 6) E.1 E.2.1 dX11_init_93 rfl ?_
  refine c_arr (atype := .int) (ty := .int) (kd := 13) (t0 := 1) E w rfl rfl (fun z => z) rfl (by show k + 12 < NN; omega) ac_int (x := 6) (L := 6) (by decide) (by decide) (by decide) (Nat.le_of_ble_eq_true rfl) (Nat.le_of_ble_eq_true rfl) dX11_init_95 (fun H w => ?_)
  have w := r_cellO (by omega) (by omega) w (cell_arr G s12 (by decide) (by intro z; have z2 : k = 226 := (by omega); subst z2; exact absurd hs (by decide)) l12)
  refine c_put (v := .ref (ad G (k + 12))) (k := 27) (ci := 11) (ty0 := tyX11) E w ⟨by omega, by omega⟩ (by unfold va_up; rw [if_neg (by omega)]; exact RT_k G k 11 F _) rfl uwX11 tyX11_ok nmX11 (by decide) fc_RX11_44 (Or.inr ⟨rfl, hin, rfl⟩) rfl rfl (Nat.le_of_ble_eq_true rfl) dX11_init_97 (fun H locs w => ?_)
  have w : CW G b s (k + 12) (va_up (RT G k 11 F [.ref (ad G (k + 1)), .ref (ad G (k + 2)), .int 0, .int 0, .int 0, .int 0, .int 0, .int 0, .int 0, .int 0, .int 0, .ref (ad G (k + 3)), .int 0, .int 0, .int 0, .int 0, .ref (ad G (k + 4)), .ref (ad G (k + 5)), .ref (ad G (k + 6)), .ref (ad G (k + 7)), .int 0, .int 0, .int 0, .ref (ad G (k + 8)), .ref (ad G (k + 9)), .ref (ad G (k + 10)), .ref (ad G (k + 11)), .ref (ad G (k + 12)), .null, .int 0, .null, .null, .int 0, .int 0, .int 0, .int 0, .int 0, .int 0, .int 0, .int 0, .int 0, .int 0, .int 0, .int 0, .int 0, .null, .null, .null, .int 0, .null, .int 0]) (k + 1) (.inl (G.2.2.1 13, 3736, .inl (fun _ => 0)))) H locs := r_putO (by omega) w
  refine lv_aload_n E.1 E.2.1 dX11_init_100 rfl (lv_at hl 0 rfl) ?_
  refine lv_bipush (v := 6) E.1 E.2.1 dX11_init_101 rfl ?_
  refine c_arr (atype := .int) (ty := .int) (kd := 13) (t0 := 1) E w rfl rfl (fun z => z) rfl (by show k + 13 < NN; omega) ac_int (x := 6) (L := 6) (by decide) (by decide) (by decide) (Nat.le_of_ble_eq_true rfl) (Nat.le_of_ble_eq_true rfl) dX11_init_103 (fun H w => ?_)
  have w := r_cellO (by omega) (by omega) w (cell_arr G s13 (by decide) (by intro z; have z2 : k = 225 := (by omega); subst z2; exact absurd hs (by decide)) l13)
  refine c_put (v := .ref (ad G (k + 13))) (k := 28) (ci := 11) (ty0 := tyX11) E w ⟨by omega, by omega⟩ (by unfold va_up; rw [if_neg (by omega)]; exact RT_k G k 11 F _) rfl uwX11 tyX11_ok nmX11 (by decide) fc_RX11_47 (Or.inr ⟨rfl, hin, rfl⟩) rfl rfl (Nat.le_of_ble_eq_true rfl) dX11_init_105 (fun H locs w => ?_)
  have w : CW G b s (k + 13) (va_up (RT G k 11 F [.ref (ad G (k + 1)), .ref (ad G (k + 2)), .int 0, .int 0, .int 0, .int 0, .int 0, .int 0, .int 0, .int 0, .int 0, .ref (ad G (k + 3)), .int 0, .int 0, .int 0, .int 0, .ref (ad G (k + 4)), .ref (ad G (k + 5)), .ref (ad G (k + 6)), .ref (ad G (k + 7)), .int 0, .int 0, .int 0, .ref (ad G (k + 8)), .ref (ad G (k + 9)), .ref (ad G (k + 10)), .ref (ad G (k + 11)), .ref (ad G (k + 12)), .ref (ad G (k + 13)), .int 0, .null, .null, .int 0, .int 0, .int 0, .int 0, .int 0, .int 0, .int 0, .int 0, .int 0, .int 0, .int 0, .int 0, .int 0, .null, .null, .null, .int 0, .null, .int 0]) (k + 1) (.inl (G.2.2.1 13, 3736, .inl (fun _ => 0)))) H locs := r_putO (by omega) w
  refine lv_aload_n E.1 E.2.1 dX11_init_108 rfl (lv_at hl 0 rfl) ?_
  refine lv_bipush (v := 80) E.1 E.2.1 dX11_init_109 rfl ?_
  refine c_arr (atype := .int) (ty := .int) (kd := 13) (t0 := 1) E w rfl rfl (fun z => z) rfl (by show k + 14 < NN; omega) ac_int (x := 80) (L := 80) (by decide) (by decide) (by decide) (Nat.le_of_ble_eq_true rfl) (Nat.le_of_ble_eq_true rfl) dX11_init_111 (fun H w => ?_)
  have w := r_cellO (by omega) (by omega) w (cell_arr G s14 (by decide) (by intro z; have z2 : k = 224 := (by omega); subst z2; exact absurd hs (by decide)) l14)
  refine c_put (v := .ref (ad G (k + 14))) (k := 30) (ci := 11) (ty0 := tyX11) E w ⟨by omega, by omega⟩ (by unfold va_up; rw [if_neg (by omega)]; exact RT_k G k 11 F _) rfl uwX11 tyX11_ok nmX11 (by decide) fc_RX11_50 (Or.inr ⟨rfl, hin, rfl⟩) rfl rfl (Nat.le_of_ble_eq_true rfl) dX11_init_113 (fun H locs w => ?_)
  have w : CW G b s (k + 14) (va_up (RT G k 11 F [.ref (ad G (k + 1)), .ref (ad G (k + 2)), .int 0, .int 0, .int 0, .int 0, .int 0, .int 0, .int 0, .int 0, .int 0, .ref (ad G (k + 3)), .int 0, .int 0, .int 0, .int 0, .ref (ad G (k + 4)), .ref (ad G (k + 5)), .ref (ad G (k + 6)), .ref (ad G (k + 7)), .int 0, .int 0, .int 0, .ref (ad G (k + 8)), .ref (ad G (k + 9)), .ref (ad G (k + 10)), .ref (ad G (k + 11)), .ref (ad G (k + 12)), .ref (ad G (k + 13)), .int 0, .ref (ad G (k + 14)), .null, .int 0, .int 0, .int 0, .int 0, .int 0, .int 0, .int 0, .int 0, .int 0, .int 0, .int 0, .int 0, .int 0, .null, .null, .null, .int 0, .null, .int 0]) (k + 1) (.inl (G.2.2.1 13, 3736, .inl (fun _ => 0)))) H locs := r_putO (by omega) w
  refine lv_aload_n E.1 E.2.1 dX11_init_116 rfl (lv_at hl 0 rfl) ?_
  refine lv_bipush (v := 80) E.1 E.2.1 dX11_init_117 rfl ?_
  refine c_arr (atype := .boolean) (ty := .boolean) (kd := 14) (t0 := 2) E w rfl rfl (fun z => z) rfl (by show k + 15 < NN; omega) ac_boolean (x := 80) (L := 80) (by decide) (by decide) (by decide) (Nat.le_of_ble_eq_true rfl) (Nat.le_of_ble_eq_true rfl) dX11_init_119 (fun H w => ?_)
  have w := r_cellO (by omega) (by omega) w (cell_arr G s15 (by decide) (by intro z; have z2 : k = 223 := (by omega); subst z2; exact absurd hs (by decide)) l15)
  refine c_put (v := .ref (ad G (k + 15))) (k := 31) (ci := 11) (ty0 := tyX11) E w ⟨by omega, by omega⟩ (by unfold va_up; rw [if_neg (by omega)]; exact RT_k G k 11 F _) rfl uwX11 tyX11_ok nmX11 (by decide) fc_RX11_53 (Or.inr ⟨rfl, hin, rfl⟩) rfl rfl (Nat.le_of_ble_eq_true rfl) dX11_init_121 (fun H locs w => ?_)
  have w : CW G b s (k + 15) (va_up (RT G k 11 F [.ref (ad G (k + 1)), .ref (ad G (k + 2)), .int 0, .int 0, .int 0, .int 0, .int 0, .int 0, .int 0, .int 0, .int 0, .ref (ad G (k + 3)), .int 0, .int 0, .int 0, .int 0, .ref (ad G (k + 4)), .ref (ad G (k + 5)), .ref (ad G (k + 6)), .ref (ad G (k + 7)), .int 0, .int 0, .int 0, .ref (ad G (k + 8)), .ref (ad G (k + 9)), .ref (ad G (k + 10)), .ref (ad G (k + 11)), .ref (ad G (k + 12)), .ref (ad G (k + 13)), .int 0, .ref (ad G (k + 14)), .ref (ad G (k + 15)), .int 0, .int 0, .int 0, .int 0, .int 0, .int 0, .int 0, .int 0, .int 0, .int 0, .int 0, .int 0, .int 0, .null, .null, .null, .int 0, .null, .int 0]) (k + 1) (.inl (G.2.2.1 13, 3736, .inl (fun _ => 0)))) H locs := r_putO (by omega) w
  refine lv_aload_n E.1 E.2.1 dX11_init_124 rfl (lv_at hl 0 rfl) ?_
  refine lv_iconst (v := 5) E.1 E.2.1 dX11_init_125 rfl ?_
  refine c_arr (atype := .int) (ty := .int) (kd := 13) (t0 := 1) E w rfl rfl (fun z => z) rfl (by show k + 16 < NN; omega) ac_int (x := 5) (L := 5) (by decide) (by decide) (by decide) (Nat.le_of_ble_eq_true rfl) (Nat.le_of_ble_eq_true rfl) dX11_init_126 (fun H w => ?_)
  have w := r_cellO (by omega) (by omega) w (cell_arr G s16 (by decide) (by intro z; have z2 : k = 222 := (by omega); subst z2; exact absurd hs (by decide)) l16)
  refine c_put (v := .ref (ad G (k + 16))) (k := 45) (ci := 11) (ty0 := tyX11) E w ⟨by omega, by omega⟩ (by unfold va_up; rw [if_neg (by omega)]; exact RT_k G k 11 F _) rfl uwX11 tyX11_ok nmX11 (by decide) fc_RX11_56 (Or.inr ⟨rfl, hin, rfl⟩) rfl rfl (Nat.le_of_ble_eq_true rfl) dX11_init_128 (fun H locs w => ?_)
  have w : CW G b s (k + 16) (va_up (RT G k 11 F [.ref (ad G (k + 1)), .ref (ad G (k + 2)), .int 0, .int 0, .int 0, .int 0, .int 0, .int 0, .int 0, .int 0, .int 0, .ref (ad G (k + 3)), .int 0, .int 0, .int 0, .int 0, .ref (ad G (k + 4)), .ref (ad G (k + 5)), .ref (ad G (k + 6)), .ref (ad G (k + 7)), .int 0, .int 0, .int 0, .ref (ad G (k + 8)), .ref (ad G (k + 9)), .ref (ad G (k + 10)), .ref (ad G (k + 11)), .ref (ad G (k + 12)), .ref (ad G (k + 13)), .int 0, .ref (ad G (k + 14)), .ref (ad G (k + 15)), .int 0, .int 0, .int 0, .int 0, .int 0, .int 0, .int 0, .int 0, .int 0, .int 0, .int 0, .int 0, .int 0, .ref (ad G (k + 16)), .null, .null, .int 0, .null, .int 0]) (k + 1) (.inl (G.2.2.1 13, 3736, .inl (fun _ => 0)))) H locs := r_putO (by omega) w
  refine lv_aload_n E.1 E.2.1 dX11_init_131 rfl (lv_at hl 0 rfl) ?_
  refine lv_iconst (v := 5) E.1 E.2.1 dX11_init_132 rfl ?_
  refine c_arr (atype := .int) (ty := .int) (kd := 13) (t0 := 1) E w rfl rfl (fun z => z) rfl (by show k + 17 < NN; omega) ac_int (x := 5) (L := 5) (by decide) (by decide) (by decide) (Nat.le_of_ble_eq_true rfl) (Nat.le_of_ble_eq_true rfl) dX11_init_133 (fun H w => ?_)
  have w := r_cellO (by omega) (by omega) w (cell_arr G s17 (by decide) (by intro z; have z2 : k = 221 := (by omega); subst z2; exact absurd hs (by decide)) l17)
  refine c_put (v := .ref (ad G (k + 17))) (k := 46) (ci := 11) (ty0 := tyX11) E w ⟨by omega, by omega⟩ (by unfold va_up; rw [if_neg (by omega)]; exact RT_k G k 11 F _) rfl uwX11 tyX11_ok nmX11 (by decide) fc_RX11_59 (Or.inr ⟨rfl, hin, rfl⟩) rfl rfl (Nat.le_of_ble_eq_true rfl) dX11_init_135 (fun H locs w => ?_)
  have w : CW G b s (k + 17) (va_up (RT G k 11 F [.ref (ad G (k + 1)), .ref (ad G (k + 2)), .int 0, .int 0, .int 0, .int 0, .int 0, .int 0, .int 0, .int 0, .int 0, .ref (ad G (k + 3)), .int 0, .int 0, .int 0, .int 0, .ref (ad G (k + 4)), .ref (ad G (k + 5)), .ref (ad G (k + 6)), .ref (ad G (k + 7)), .int 0, .int 0, .int 0, .ref (ad G (k + 8)), .ref (ad G (k + 9)), .ref (ad G (k + 10)), .ref (ad G (k + 11)), .ref (ad G (k + 12)), .ref (ad G (k + 13)), .int 0, .ref (ad G (k + 14)), .ref (ad G (k + 15)), .int 0, .int 0, .int 0, .int 0, .int 0, .int 0, .int 0, .int 0, .int 0, .int 0, .int 0, .int 0, .int 0, .ref (ad G (k + 16)), .ref (ad G (k + 17)), .null, .int 0, .null, .int 0]) (k + 1) (.inl (G.2.2.1 13, 3736, .inl (fun _ => 0)))) H locs := r_putO (by omega) w
  refine lv_aload_n E.1 E.2.1 dX11_init_138 rfl (lv_at hl 0 rfl) ?_
  refine lv_bipush (v := 8) E.1 E.2.1 dX11_init_139 rfl ?_
  refine c_arr (atype := .int) (ty := .int) (kd := 13) (t0 := 1) E w rfl rfl (fun z => z) rfl (by show k + 18 < NN; omega) ac_int (x := 8) (L := 8) (by decide) (by decide) (by decide) (Nat.le_of_ble_eq_true rfl) (Nat.le_of_ble_eq_true rfl) dX11_init_141 (fun H w => ?_)
  have w := r_cellO (by omega) (by omega) w (cell_arr G s18 (by decide) (by intro z; have z2 : k = 220 := (by omega); subst z2; exact absurd hs (by decide)) l18)
  refine c_put (v := .ref (ad G (k + 18))) (k := 47) (ci := 11) (ty0 := tyX11) E w ⟨by omega, by omega⟩ (by unfold va_up; rw [if_neg (by omega)]; exact RT_k G k 11 F _) rfl uwX11 tyX11_ok nmX11 (by decide) fc_RX11_62 (Or.inr ⟨rfl, hin, rfl⟩) rfl rfl (Nat.le_of_ble_eq_true rfl) dX11_init_143 (fun H locs w => ?_)
  have w : CW G b s (k + 18) (va_up (RT G k 11 F [.ref (ad G (k + 1)), .ref (ad G (k + 2)), .int 0, .int 0, .int 0, .int 0, .int 0, .int 0, .int 0, .int 0, .int 0, .ref (ad G (k + 3)), .int 0, .int 0, .int 0, .int 0, .ref (ad G (k + 4)), .ref (ad G (k + 5)), .ref (ad G (k + 6)), .ref (ad G (k + 7)), .int 0, .int 0, .int 0, .ref (ad G (k + 8)), .ref (ad G (k + 9)), .ref (ad G (k + 10)), .ref (ad G (k + 11)), .ref (ad G (k + 12)), .ref (ad G (k + 13)), .int 0, .ref (ad G (k + 14)), .ref (ad G (k + 15)), .int 0, .int 0, .int 0, .int 0, .int 0, .int 0, .int 0, .int 0, .int 0, .int 0, .int 0, .int 0, .int 0, .ref (ad G (k + 16)), .ref (ad G (k + 17)), .ref (ad G (k + 18)), .int 0, .null, .int 0]) (k + 1) (.inl (G.2.2.1 13, 3736, .inl (fun _ => 0)))) H locs := r_putO (by omega) w
  refine lv_aload_n E.1 E.2.1 dX11_init_146 rfl (lv_at hl 0 rfl) ?_
  refine lv_bipush (v := 6) E.1 E.2.1 dX11_init_147 rfl ?_
  refine c_arr (atype := .int) (ty := .int) (kd := 13) (t0 := 1) E w rfl rfl (fun z => z) rfl (by show k + 19 < NN; omega) ac_int (x := 6) (L := 6) (by decide) (by decide) (by decide) (Nat.le_of_ble_eq_true rfl) (Nat.le_of_ble_eq_true rfl) dX11_init_149 (fun H w => ?_)
  have w := r_cellO (by omega) (by omega) w (cell_arr G s19 (by decide) (by intro z; have z2 : k = 219 := (by omega); subst z2; exact absurd hs (by decide)) l19)
  refine c_put (v := .ref (ad G (k + 19))) (k := 49) (ci := 11) (ty0 := tyX11) E w ⟨by omega, by omega⟩ (by unfold va_up; rw [if_neg (by omega)]; exact RT_k G k 11 F _) rfl uwX11 tyX11_ok nmX11 (by decide) fc_RX11_65 (Or.inr ⟨rfl, hin, rfl⟩) rfl rfl (Nat.le_of_ble_eq_true rfl) dX11_init_151 (fun H locs w => ?_)
  have w : CW G b s (k + 19) (va_up (RT G k 11 F [.ref (ad G (k + 1)), .ref (ad G (k + 2)), .int 0, .int 0, .int 0, .int 0, .int 0, .int 0, .int 0, .int 0, .int 0, .ref (ad G (k + 3)), .int 0, .int 0, .int 0, .int 0, .ref (ad G (k + 4)), .ref (ad G (k + 5)), .ref (ad G (k + 6)), .ref (ad G (k + 7)), .int 0, .int 0, .int 0, .ref (ad G (k + 8)), .ref (ad G (k + 9)), .ref (ad G (k + 10)), .ref (ad G (k + 11)), .ref (ad G (k + 12)), .ref (ad G (k + 13)), .int 0, .ref (ad G (k + 14)), .ref (ad G (k + 15)), .int 0, .int 0, .int 0, .int 0, .int 0, .int 0, .int 0, .int 0, .int 0, .int 0, .int 0, .int 0, .int 0, .ref (ad G (k + 16)), .ref (ad G (k + 17)), .ref (ad G (k + 18)), .int 0, .ref (ad G (k + 19)), .int 0]) (k + 1) (.inl (G.2.2.1 13, 3736, .inl (fun _ => 0)))) H locs := r_putO (by omega) w
  refine lv_aload_n E.1 E.2.1 dX11_init_154 rfl (lv_at hl 0 rfl) ?_
  refine c_get (v := .ref (ad G (k + 1))) (k := 0) (ci := 11) E w ⟨by omega, by omega⟩ (by unfold va_up; rw [if_neg (by omega)]; exact RT_k G k 11 F _) rfl uwX11 (by decide) fc_RX11_7 rfl dX11_init_155 ?_
  refine lv_bipush (v := 6) E.1 E.2.1 dX11_init_158 rfl ?_
  refine lv_iconst (v := (-1)) E.1 E.2.1 dX11_init_160 rfl ?_
  refine c_iast (ka := k + 1) (L := 3736) (f := fun _ => 0) E w ⟨by omega, by omega⟩ (by simp [va_up]) (by decide) dX11_init_161 (fun H locs w => ?_)
  have hk237 : k = 237 := (by decide +kernel : ∀ k, k < 257 → sh k = 11 → k = 237) k (sh_lt (by omega)) hs
  have w := r_uu (by omega) w (by subst hk237; exact cell_238 G)
  have h238 : ¬ k = 238 := fun z => by subst z; exact absurd hs (by decide)
  have w := r_end w hs (by decide) (by
    have e : fsO G hI k 11 = [.ref (ad G (k + 1)), .ref (ad G (k + 2)), .int 0, .int 0, .int 0, .int 0, .int 0, .int 0, .int 0, .int 0, .int 0, .ref (ad G (k + 3)), .int 0, .int 0, .int 0, .int 0, .ref (ad G (k + 4)), .ref (ad G (k + 5)), .ref (ad G (k + 6)), .ref (ad G (k + 7)), .int 0, .int 0, .int 0, .ref (ad G (k + 8)), .ref (ad G (k + 9)), .ref (ad G (k + 10)), .ref (ad G (k + 11)), .ref (ad G (k + 12)), .ref (ad G (k + 13)), .int 0, .ref (ad G (k + 14)), .ref (ad G (k + 15)), .int 0, .int 0, .int 0, .int 0, .int 0, .int 0, .int 0, .int 0, .int 0, .int 0, .int 0, .int 0, .int 0, .ref (ad G (k + 16)), .ref (ad G (k + 17)), .ref (ad G (k + 18)), .int 0, .ref (ad G (k + 19)), .int 0] := by
      simp [fsO, fk, fkL, fv, hI, hs, iniL, rfv, h238]
    exact e)
  exact c_vret E w hr hlk dX11_init_162
