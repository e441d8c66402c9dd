def RJ0 : String := "java/lang/String"
def RJ1 : String := "java/lang/StringLatin1"
def RJ3 : String := "jdk/internal/util/Preconditions"
abbrev cJ0_coder_7d493 : ByteArray := prog_16_method_152_code
def yJ0_coder_7d493 : MethodName := ⟨RJ0, "coder", "()B"⟩
abbrev cJ0_length_8abf5 : ByteArray := prog_16_method_54_code
def yJ0_length_8abf5 : MethodName := ⟨RJ0, "length", "()I"⟩
abbrev cJ0_isLatin1_aae02 : ByteArray := prog_16_method_154_code
def yJ0_isLatin1_aae02 : MethodName := ⟨RJ0, "isLatin1", "()Z"⟩
abbrev cJ3_checkIndex_8e157 : ByteArray := prog_21_method_11_code
def yJ3_checkIndex_8e157 : MethodName := ⟨RJ3, "checkIndex", "(IILjava/util/function/BiFunction;)I"⟩
abbrev cJ0_checkIndex_df160 : ByteArray := prog_16_method_155_code
def yJ0_checkIndex_df160 : MethodName := ⟨RJ0, "checkIndex", "(II)V"⟩
abbrev cJ1_charAt_3b067 : ByteArray := prog_17_method_2_code
def yJ1_charAt_3b067 : MethodName := ⟨RJ1, "charAt", "([BI)C"⟩
abbrev cJ0_charAt_5068e : ByteArray := prog_16_method_56_code
def yJ0_charAt_5068e : MethodName := ⟨RJ0, "charAt", "(I)C"⟩
theorem dJ0_coder_7d493_0 : decode cJ0_coder_7d493 0 = .ok (.getstatic 38, 3) := by decide +kernel
theorem dJ0_coder_7d493_3 : decode cJ0_coder_7d493 3 = .ok (.ifCond .eq 10, 3) := by decide +kernel
theorem dJ0_coder_7d493_6 : decode cJ0_coder_7d493 6 = .ok (.aload_n 0, 1) := by decide +kernel
theorem dJ0_coder_7d493_7 : decode cJ0_coder_7d493 7 = .ok (.getfield 15, 3) := by decide +kernel
theorem dJ0_coder_7d493_10 : decode cJ0_coder_7d493 10 = .ok (.goto 4, 3) := by decide +kernel
theorem dJ0_coder_7d493_13 : decode cJ0_coder_7d493 13 = .ok (.iconst 1, 1) := by decide +kernel
theorem dJ0_coder_7d493_14 : decode cJ0_coder_7d493 14 = .ok (.ireturn, 1) := by decide +kernel
theorem dJ0_length_8abf5_0 : decode cJ0_length_8abf5 0 = .ok (.aload_n 0, 1) := by decide +kernel
theorem dJ0_length_8abf5_1 : decode cJ0_length_8abf5 1 = .ok (.getfield 9, 3) := by decide +kernel
theorem dJ0_length_8abf5_4 : decode cJ0_length_8abf5 4 = .ok (.arraylength, 1) := by decide +kernel
theorem dJ0_length_8abf5_5 : decode cJ0_length_8abf5 5 = .ok (.aload_n 0, 1) := by decide +kernel
theorem dJ0_length_8abf5_6 : decode cJ0_length_8abf5 6 = .ok (.invokevirtual 335, 3) := by decide +kernel
theorem dJ0_length_8abf5_9 : decode cJ0_length_8abf5 9 = .ok (.ishr, 1) := by decide +kernel
theorem dJ0_length_8abf5_10 : decode cJ0_length_8abf5 10 = .ok (.ireturn, 1) := by decide +kernel
theorem dJ0_isLatin1_aae02_0 : decode cJ0_isLatin1_aae02 0 = .ok (.getstatic 38, 3) := by decide +kernel
theorem dJ0_isLatin1_aae02_3 : decode cJ0_isLatin1_aae02 3 = .ok (.ifCond .eq 14, 3) := by decide +kernel
theorem dJ0_isLatin1_aae02_6 : decode cJ0_isLatin1_aae02 6 = .ok (.aload_n 0, 1) := by decide +kernel
theorem dJ0_isLatin1_aae02_7 : decode cJ0_isLatin1_aae02 7 = .ok (.getfield 15, 3) := by decide +kernel
theorem dJ0_isLatin1_aae02_10 : decode cJ0_isLatin1_aae02 10 = .ok (.ifCond .ne 7, 3) := by decide +kernel
theorem dJ0_isLatin1_aae02_13 : decode cJ0_isLatin1_aae02 13 = .ok (.iconst 1, 1) := by decide +kernel
theorem dJ0_isLatin1_aae02_14 : decode cJ0_isLatin1_aae02 14 = .ok (.goto 4, 3) := by decide +kernel
theorem dJ0_isLatin1_aae02_17 : decode cJ0_isLatin1_aae02 17 = .ok (.iconst 0, 1) := by decide +kernel
theorem dJ0_isLatin1_aae02_18 : decode cJ0_isLatin1_aae02 18 = .ok (.ireturn, 1) := by decide +kernel
theorem dJ3_checkIndex_8e157_0 : decode cJ3_checkIndex_8e157 0 = .ok (.iload_n 0, 1) := by decide +kernel
theorem dJ3_checkIndex_8e157_1 : decode cJ3_checkIndex_8e157 1 = .ok (.ifCond .lt 8, 3) := by decide +kernel
theorem dJ3_checkIndex_8e157_4 : decode cJ3_checkIndex_8e157 4 = .ok (.iload_n 0, 1) := by decide +kernel
theorem dJ3_checkIndex_8e157_5 : decode cJ3_checkIndex_8e157 5 = .ok (.iload_n 1, 1) := by decide +kernel
theorem dJ3_checkIndex_8e157_6 : decode cJ3_checkIndex_8e157 6 = .ok (.if_icmp .lt 10, 3) := by decide +kernel
theorem dJ3_checkIndex_8e157_9 : decode cJ3_checkIndex_8e157 9 = .ok (.aload_n 2, 1) := by decide +kernel
theorem dJ3_checkIndex_8e157_10 : decode cJ3_checkIndex_8e157 10 = .ok (.iload_n 0, 1) := by decide +kernel
theorem dJ3_checkIndex_8e157_11 : decode cJ3_checkIndex_8e157 11 = .ok (.iload_n 1, 1) := by decide +kernel
theorem dJ3_checkIndex_8e157_12 : decode cJ3_checkIndex_8e157 12 = .ok (.invokestatic 95, 3) := by decide +kernel
theorem dJ3_checkIndex_8e157_15 : decode cJ3_checkIndex_8e157 15 = .ok (.athrow, 1) := by decide +kernel
theorem dJ3_checkIndex_8e157_16 : decode cJ3_checkIndex_8e157 16 = .ok (.iload_n 0, 1) := by decide +kernel
theorem dJ3_checkIndex_8e157_17 : decode cJ3_checkIndex_8e157 17 = .ok (.ireturn, 1) := by decide +kernel
theorem dJ0_checkIndex_df160_0 : decode cJ0_checkIndex_df160 0 = .ok (.iload_n 0, 1) := by decide +kernel
theorem dJ0_checkIndex_df160_1 : decode cJ0_checkIndex_df160 1 = .ok (.iload_n 1, 1) := by decide +kernel
theorem dJ0_checkIndex_df160_2 : decode cJ0_checkIndex_df160 2 = .ok (.getstatic 1053, 3) := by decide +kernel
theorem dJ0_checkIndex_df160_5 : decode cJ0_checkIndex_df160 5 = .ok (.invokestatic 1059, 3) := by decide +kernel
theorem dJ0_checkIndex_df160_8 : decode cJ0_checkIndex_df160 8 = .ok (.pop, 1) := by decide +kernel
theorem dJ0_checkIndex_df160_9 : decode cJ0_checkIndex_df160 9 = .ok (.return_, 1) := by decide +kernel
theorem dJ1_charAt_3b067_0 : decode cJ1_charAt_3b067 0 = .ok (.iload_n 1, 1) := by decide +kernel
theorem dJ1_charAt_3b067_1 : decode cJ1_charAt_3b067 1 = .ok (.aload_n 0, 1) := by decide +kernel
theorem dJ1_charAt_3b067_2 : decode cJ1_charAt_3b067 2 = .ok (.arraylength, 1) := by decide +kernel
theorem dJ1_charAt_3b067_3 : decode cJ1_charAt_3b067 3 = .ok (.invokestatic 9, 3) := by decide +kernel
theorem dJ1_charAt_3b067_6 : decode cJ1_charAt_3b067 6 = .ok (.aload_n 0, 1) := by decide +kernel
theorem dJ1_charAt_3b067_7 : decode cJ1_charAt_3b067 7 = .ok (.iload_n 1, 1) := by decide +kernel
theorem dJ1_charAt_3b067_8 : decode cJ1_charAt_3b067 8 = .ok (.baload, 1) := by decide +kernel
theorem dJ1_charAt_3b067_9 : decode cJ1_charAt_3b067 9 = .ok (.sipush 255, 3) := by decide +kernel
theorem dJ1_charAt_3b067_12 : decode cJ1_charAt_3b067 12 = .ok (.iand, 1) := by decide +kernel
theorem dJ1_charAt_3b067_13 : decode cJ1_charAt_3b067 13 = .ok (.i2c, 1) := by decide +kernel
theorem dJ1_charAt_3b067_14 : decode cJ1_charAt_3b067 14 = .ok (.ireturn, 1) := by decide +kernel
theorem dJ0_charAt_5068e_0 : decode cJ0_charAt_5068e 0 = .ok (.aload_n 0, 1) := by decide +kernel
theorem dJ0_charAt_5068e_1 : decode cJ0_charAt_5068e 1 = .ok (.invokevirtual 492, 3) := by decide +kernel
theorem dJ0_charAt_5068e_4 : decode cJ0_charAt_5068e 4 = .ok (.ifCond .eq 12, 3) := by decide +kernel
theorem dJ0_charAt_5068e_7 : decode cJ0_charAt_5068e 7 = .ok (.aload_n 0, 1) := by decide +kernel
theorem dJ0_charAt_5068e_8 : decode cJ0_charAt_5068e 8 = .ok (.getfield 9, 3) := by decide +kernel
theorem dJ0_charAt_5068e_11 : decode cJ0_charAt_5068e 11 = .ok (.iload_n 1, 1) := by decide +kernel
theorem dJ0_charAt_5068e_12 : decode cJ0_charAt_5068e 12 = .ok (.invokestatic 495, 3) := by decide +kernel
theorem dJ0_charAt_5068e_15 : decode cJ0_charAt_5068e 15 = .ok (.ireturn, 1) := by decide +kernel
theorem dJ0_charAt_5068e_16 : decode cJ0_charAt_5068e 16 = .ok (.aload_n 0, 1) := by decide +kernel
theorem dJ0_charAt_5068e_17 : decode cJ0_charAt_5068e 17 = .ok (.getfield 9, 3) := by decide +kernel
theorem dJ0_charAt_5068e_20 : decode cJ0_charAt_5068e 20 = .ok (.iload_n 1, 1) := by decide +kernel
theorem dJ0_charAt_5068e_21 : decode cJ0_charAt_5068e 21 = .ok (.invokestatic 498, 3) := by decide +kernel
theorem dJ0_charAt_5068e_24 : decode cJ0_charAt_5068e 24 = .ok (.ireturn, 1) := by decide +kernel
theorem mv_s335 : MV RJ0 335 yJ0_coder_7d493 cJ0_coder_7d493 1 (some .byte) 0 := ⟨⟨(uw_t 518 (by decide +kernel) (by decide +kernel)), (uw_t 519 (by decide +kernel) (by decide +kernel)), (uw_t 520 (by decide +kernel) (by decide +kernel)), (uw_t 14 (by decide +kernel) (by decide +kernel)), (uw_t 521 (by decide +kernel) (by decide +kernel))⟩, by decide +kernel⟩
theorem mv_s492 : MV RJ0 492 yJ0_isLatin1_aae02 cJ0_isLatin1_aae02 1 (some .boolean) 0 := ⟨⟨(uw_t 528 (by decide +kernel) (by decide +kernel)), (uw_t 529 (by decide +kernel) (by decide +kernel)), (uw_t 530 (by decide +kernel) (by decide +kernel)), (uw_t 14 (by decide +kernel) (by decide +kernel)), (uw_t 531 (by decide +kernel) (by decide +kernel))⟩, by decide +kernel⟩
theorem ms_s495 : MS RJ0 495 yJ1_charAt_3b067 cJ1_charAt_3b067 2 (some .char) 2 := ⟨⟨(uw_t 532 (by decide +kernel) (by decide +kernel)), (uw_t 533 (by decide +kernel) (by decide +kernel)), (uw_t 15 (by decide +kernel) (by decide +kernel)), (uw_t 534 (by decide +kernel) (by decide +kernel))⟩, by decide +kernel⟩
theorem ms_s1059 : MS RJ0 1059 yJ3_checkIndex_8e157 cJ3_checkIndex_8e157 3 (some .int) 3 := ⟨⟨(uw_t 540 (by decide +kernel) (by decide +kernel)), (uw_t 541 (by decide +kernel) (by decide +kernel)), (uw_t 16 (by decide +kernel) (by decide +kernel)), (uw_t 542 (by decide +kernel) (by decide +kernel))⟩, by decide +kernel⟩
theorem ms_l9 : MS RJ1 9 yJ0_checkIndex_df160 cJ0_checkIndex_df160 2 none 2 := ⟨⟨(uw_t 535 (by decide +kernel) (by decide +kernel)), (uw_t 536 (by decide +kernel) (by decide +kernel)), (uw_t 14 (by decide +kernel) (by decide +kernel)), (uw_t 537 (by decide +kernel) (by decide +kernel))⟩, by decide +kernel⟩
theorem mv_r165 : MV RX4 165 yJ0_length_8abf5 cJ0_length_8abf5 1 (some .int) 0 := ⟨⟨(uw_t 514 (by decide +kernel) (by decide +kernel)), (uw_t 515 (by decide +kernel) (by decide +kernel)), (uw_t 516 (by decide +kernel) (by decide +kernel)), (uw_t 14 (by decide +kernel) (by decide +kernel)), (uw_t 517 (by decide +kernel) (by decide +kernel))⟩, by decide +kernel⟩
theorem mv_r174 : MV RX4 174 yJ0_charAt_5068e cJ0_charAt_5068e 2 (some .char) 1 := ⟨⟨(uw_t 524 (by decide +kernel) (by decide +kernel)), (uw_t 525 (by decide +kernel) (by decide +kernel)), (uw_t 526 (by decide +kernel) (by decide +kernel)), (uw_t 14 (by decide +kernel) (by decide +kernel)), (uw_t 527 (by decide +kernel) (by decide +kernel))⟩, by decide +kernel⟩
theorem fs_38 : Cond.fieldLink RJ0 38 "java/lang/String" "COMPACT_STRINGS" "Z" ∈ UW := (uw_t 522 (by decide +kernel) (by decide +kernel))
theorem fs_1053 : Cond.fieldLink RJ0 1053 "jdk/internal/util/Preconditions" "SIOOBE_FORMATTER" "Ljava/util/function/BiFunction;" ∈ UW := (uw_t 538 (by decide +kernel) (by decide +kernel))
theorem fs_9 : Cond.fieldLink RJ0 9 "java/lang/String" "value" "[B" ∈ UW := (uw_t 1868 (by decide +kernel) (by decide +kernel))
theorem fs_15 : Cond.fieldLink RJ0 15 "java/lang/String" "coder" "B" ∈ UW := (uw_t 1869 (by decide +kernel) (by decide +kernel))
theorem fr_0 : Cond.fieldLink RX4 86 RX4 "NUMBERS" "[I" ∈ UW := (uw_t 574 (by decide +kernel) (by decide +kernel))
theorem fr_1 : Cond.fieldLink RX4 99 RX4 "LEAST" "[I" ∈ UW := (uw_t 583 (by decide +kernel) (by decide +kernel))
theorem fr_2 : Cond.fieldLink RX4 102 RX4 "MOST" "[I" ∈ UW := (uw_t 585 (by decide +kernel) (by decide +kernel))
section SR
variable {p : Program} {l : Launch} {e : Env} {R : Room} {s : State} {m : MethodId} {args : Array Value} {below : List Frame} {meth : Method} {c : Code} {H : Heap} {locs : List Loc} {cells slots : Nat} {Q : State → Prop} {cc : ByteArray} {nL : Nat} {own : String} {pc : Nat} {ls : Array Slot} {rest st0 : List Value} {G : GT} {h h' : HS} {y : MethodName} {bytes : ByteArray} {maxL fr lo idx n : Nat} {ret : Option FieldType} {As : List Value}
theorem q_nret (E : CallFix p m c cc nL s args UW own) (w : WD G s h H locs) {v : Int32} {ty : FieldType} (hr : meth.sig.returnType = some ty) (hn : narrow ty (.int v) = .int v) (hlk : meth.locks = false) (d : decode cc pc = .ok (.ireturn, 1)) : W p l e R s m args below meth c H locs cells slots (MQ below (QC G (some (.int v)) h) args s cells slots (AD G)) (F0 m pc ls [.int v]) :=
  W.zret (hlocks := hlk) E.1 E.2.1 hr hn (fun t ht hW => ⟨rfl, WD_toH w ht hW, w.2.2.2.2.2.F ht⟩) w.2.2.2.2.2.2.2 d
/-- a static field's value -/
theorem q_gets (E : CallFix p m c cc nL s args UW own) (w : WD G s h H locs) {C nm ds : String} {v : Value} (hZ : va_Z C nm ds v (AD G) s s.heap) (hl : Cond.fieldLink own idx C nm ds ∈ UW) (d : decode cc pc = .ok (.getstatic idx, 3))
    (kk : W p l e R s m args below meth c H locs cells slots Q (F0 m (pc + 3) ls (v :: rest))) : W p l e R s m args below meth c H locs cells slots Q (F0 m pc ls rest) :=
  va_gets E.1 E.2.1 hZ w.2.2.2.2.2 E.2.2.2.1 (E.2.2.2.2 _ hl) (fun _ h9 => h9) d kk
theorem q_gst (E : CallFix p m c cc nL s args UW own) (w : WD G s h H locs) (q : Nat) (hq : q < 3) (hl : Cond.fieldLink own idx RX4 (stN.getD q "") "[I" ∈ UW) (d : decode cc pc = .ok (.getstatic idx, 3))
    (kk : W p l e R s m args below meth c H locs cells slots Q (F0 m (pc + 3) ls (.ref (ad G (300 + q)) :: rest))) : W p l e R s m args below meth c H locs cells slots Q (F0 m pc ls rest) :=
  q_gets E w (w.2.2.2.2.1.1.1 q hq).1 hl d kk
theorem q_callVS (E : CallFix p m c cc nL s args UW own) (w : WD G s h H locs) {i : Nat} (hi : i < 12) {rv : Option Value} (hM : CT l G y bytes maxL ret fr lo (.ref (ad G (310 + i)) :: As) h rv h') (hy : y.cls = "java/lang/String") (hw : MV own idx y bytes maxL ret n) (hn : As.length = n) (hst : st0 = As.reverse ++ .ref (ad G (310 + i)) :: rest) (hls : ls.size = nL)
    (hroom : fr + 1 ≤ R.frames ∧ 8 + (maxL + 11) + lo ≤ R.locals) (hrest : (rest.map fun v => v.category).sum ≤ 8) (hcs : cells ≤ R.cells ∧ slots ≤ R.slots) (d : decode cc pc = .ok (.invokevirtual idx, 3))
    (kk : ∀ (H1 : Heap) (locs1 : List Loc), WD G s h' H1 locs1 → W p l e R s m args below meth c H1 locs1 cells slots Q (F0 m (pc + 3) ls (rv.toList ++ rest))) : W p l e R s m args below meth c H locs cells slots Q (F0 m pc ls st0) := by
  subst hst
  obtain ⟨⟨w1, w2, w3, w4, w5⟩, w6⟩ := hw
  have hts := E.2.2.2.2
  refine q_run w (va_runV (rest := rest) (C := y.cls) E hM ⟨callB_of n hts (uw_cons w5) rfl rfl rfl (hts _ w4) (hts _ w1) w6 hroom, hts _ w2, hts _ w3⟩ ⟨WH.blind, ?_, fun U hU hW => ⟨rfl, WD_toH w hU hW⟩⟩ rfl hn hls rfl (lv_room hrest) d hcs) kk
  rw [hy]
  exact vk_recv (i := i) (adK := fun i => ad G (310 + i)) w.2.2.2.2.1.1.2.2.2 hi w.2.2.2.2.2
theorem k_VSi {r : Int32} (E : CallFix p m c cc nL s args UW own) (w : WD G s h H locs) {i : Nat} (hi : i < 12) (hM : CT l G y bytes maxL ret fr lo (.ref (ad G (310 + i)) :: As) h (some (.int r)) h') (hy : y.cls = "java/lang/String") (hw : MV own idx y bytes maxL ret n) (hn : As.length = n) (hst : st0 = As.reverse ++ .ref (ad G (310 + i)) :: rest) (hls : ls.size = nL)
    (hroom : fr + 1 ≤ R.frames ∧ 8 + (maxL + 11) + lo ≤ R.locals) (hrest : (rest.map fun v => v.category).sum ≤ 8) (hcs : cells ≤ R.cells ∧ slots ≤ R.slots) (d : decode cc pc = .ok (.invokevirtual idx, 3))
    (kk : ∀ (H1 : Heap) (locs1 : List Loc), WD G s h' H1 locs1 → W p l e R s m args below meth c H1 locs1 cells slots Q (F0 m (pc + 3) ls (.int r :: rest))) : W p l e R s m args below meth c H locs cells slots Q (F0 m pc ls st0) := q_callVS E w hi hM hy hw hn hst hls hroom hrest hcs d kk
end SR
def scc (i k : Nat) : Int32 := (sByt.getD i []).getD k 0 &&& 255
theorem sLen_ok : ∀ i, i < 12 → sLen.getD i 0 = (sByt.getD i []).length ∧ sLen.getD i 0 < 10 := by decide +kernel
theorem coder_c {l : Launch} {G : GT} {h : HS} {i : Nat} (hi : i < 12) : CT l G yJ0_coder_7d493 cJ0_coder_7d493 1 (some .byte) 0 0 [.ref (ad G (310 + i))] h (some (.int 0)) h := by
  refine CT.of (by decide) (Nat.le_of_ble_eq_true rfl) ?_
  intro p e s m below meth c ls E hr hlk w hl
  have hl : lv_has ls 1 [(0, .ref (ad G (310 + i)))] := hl
  refine q_gets E w w.2.2.2.2.1.1.2.1 fs_38 dJ0_coder_7d493_0 ?_
  refine lv_if_eq (tgt := 13) E.1 E.2.1 dJ0_coder_7d493_3 (by decide) (fun c0 => absurd c0 (by decide)) (fun _ => ?_)
  refine lv_aload_n E.1 E.2.1 dJ0_coder_7d493_6 rfl (lv_at hl 0 rfl) ?_
  refine vk_getf E.1 E.2.1 (w.2.2.2.2.1.1.2.2.2.1 i hi).2.1 w.2.2.2.2.2 E.2.2.2.1 (E.2.2.2.2 _ fs_15) (fun _ h9 => h9) dJ0_coder_7d493_7 ?_
  refine lv_goto (tgt := 14) E.1 E.2.1 dJ0_coder_7d493_10 (by decide) ?_
  exact q_nret E w hr rfl hlk dJ0_coder_7d493_14
theorem slen_c {l : Launch} {G : GT} {h : HS} {i : Nat} (hi : i < 12) : CT l G yJ0_length_8abf5 cJ0_length_8abf5 1 (some .int) 1 20 [.ref (ad G (310 + i))] h (some (.int (nI (sLen.getD i 0)))) h := by
  have e0 : nI (sLen.getD i 0) = Int32.ofNat (sLen.getD i 0) >>> ((0 : Int32) &&& 31) := by
    have := (by decide +kernel : ∀ i, i < 12 → nI (sLen.getD i 0) = Int32.ofNat (sLen.getD i 0) >>> ((0 : Int32) &&& 31)) i hi
    exact this
  rw [e0]
  refine CT.of (by decide) (Nat.le_of_ble_eq_true rfl) ?_
  intro p e s m below meth c ls E hr hlk w hl
  have hl : lv_has ls 1 [(0, .ref (ad G (310 + i)))] := hl
  refine lv_aload_n E.1 E.2.1 dJ0_length_8abf5_0 rfl (lv_at hl 0 rfl) ?_
  refine vk_getf E.1 E.2.1 (w.2.2.2.2.1.1.2.2.2.1 i hi).2.2.1 w.2.2.2.2.2 E.2.2.2.1 (E.2.2.2.2 _ fs_9) (fun _ h9 => h9) dJ0_length_8abf5_1 ?_
  refine va_tlen E.1 E.2.1 (w.2.2.2.2.1.1.2.2.2.1 i hi).2.2.2 w.2.2.2.2.2 rfl dJ0_length_8abf5_4 ?_
  refine lv_aload_n E.1 E.2.1 dJ0_length_8abf5_5 rfl (lv_at hl 0 rfl) ?_
  refine k_VSi (As := []) (rest := [.int (Int32.ofNat (sLen.getD i 0))]) E w hi (coder_c hi) rfl mv_s335 rfl rfl hl.1 ⟨Nat.le_of_ble_eq_true rfl, Nat.le_of_ble_eq_true rfl⟩ (Nat.le_of_ble_eq_true rfl) ⟨Nat.le_refl _, Nat.le_refl _⟩ dJ0_length_8abf5_6 (fun H locs w => ?_)
  refine lv_ishr E.1 E.2.1 dJ0_length_8abf5_9 ?_
  exact q_iret E w hr hlk dJ0_length_8abf5_10
theorem isLatin_c {l : Launch} {G : GT} {h : HS} {i : Nat} (hi : i < 12) : CT l G yJ0_isLatin1_aae02 cJ0_isLatin1_aae02 1 (some .boolean) 0 0 [.ref (ad G (310 + i))] h (some (.int 1)) h := by
  refine CT.of (by decide) (Nat.le_of_ble_eq_true rfl) ?_
  intro p e s m below meth c ls E hr hlk w hl
  have hl : lv_has ls 1 [(0, .ref (ad G (310 + i)))] := hl
  refine q_gets E w w.2.2.2.2.1.1.2.1 fs_38 dJ0_isLatin1_aae02_0 ?_
  refine lv_if_eq (tgt := 17) E.1 E.2.1 dJ0_isLatin1_aae02_3 (by decide) (fun c0 => absurd c0 (by decide)) (fun _ => ?_)
  refine lv_aload_n E.1 E.2.1 dJ0_isLatin1_aae02_6 rfl (lv_at hl 0 rfl) ?_
  refine vk_getf E.1 E.2.1 (w.2.2.2.2.1.1.2.2.2.1 i hi).2.1 w.2.2.2.2.2 E.2.2.2.1 (E.2.2.2.2 _ fs_15) (fun _ h9 => h9) dJ0_isLatin1_aae02_7 ?_
  refine lv_if_ne (tgt := 17) E.1 E.2.1 dJ0_isLatin1_aae02_10 (by decide) (fun c0 => absurd rfl c0) (fun _ => ?_)
  refine lv_iconst (v := 1) E.1 E.2.1 dJ0_isLatin1_aae02_13 rfl ?_
  refine lv_goto (tgt := 18) E.1 E.2.1 dJ0_isLatin1_aae02_14 (by decide) ?_
  exact q_nret E w hr rfl hlk dJ0_isLatin1_aae02_18
theorem chkP_c {l : Launch} {G : GT} {h : HS} {k n : Int32} {v : Value} (hv : v = .null ∨ ∃ a, v = .ref a) (h0 : ¬ k < 0) (h1 : k < n) : CT l G yJ3_checkIndex_8e157 cJ3_checkIndex_8e157 3 (some .int) 0 0 [.int k, .int n, v] h (some (.int k)) h := by
  refine CT.of (by decide) (by rcases hv with rfl | ⟨a, rfl⟩ <;> exact Nat.le_of_ble_eq_true rfl) ?_
  intro p e s m below meth c ls E hr hlk w hl
  have hl : lv_has ls 3 [(0, .int k), (1, .int n)] := lv_sub hl [0, 1] (by rcases hv with rfl | ⟨a, rfl⟩ <;> rfl)
  refine lv_iload_n E.1 E.2.1 dJ3_checkIndex_8e157_0 rfl (lv_at hl 0 rfl) ?_
  refine lv_if_lt (tgt := 9) E.1 E.2.1 dJ3_checkIndex_8e157_1 (by decide) (fun c0 => absurd c0 h0) (fun _ => ?_)
  refine lv_iload_n E.1 E.2.1 dJ3_checkIndex_8e157_4 rfl (lv_at hl 0 rfl) ?_
  refine lv_iload_n E.1 E.2.1 dJ3_checkIndex_8e157_5 rfl (lv_at hl 1 rfl) ?_
  refine lv_icmp_lt (tgt := 16) E.1 E.2.1 dJ3_checkIndex_8e157_6 (by decide) (fun _ => ?_) (fun c0 => absurd h1 c0)
  refine lv_iload_n E.1 E.2.1 dJ3_checkIndex_8e157_16 rfl (lv_at hl 0 rfl) ?_
  exact q_iret E w hr hlk dJ3_checkIndex_8e157_17
theorem chkS_c {l : Launch} {G : GT} {h : HS} {k n : Int32} (h0 : ¬ k < 0) (h1 : k < n) : CT l G yJ0_checkIndex_df160 cJ0_checkIndex_df160 2 none 1 22 [.int k, .int n] h none h := by
  refine CT.of (by decide) (Nat.le_of_ble_eq_true rfl) ?_
  intro p e s m below meth c ls E hr hlk w hl
  have hl : lv_has ls 2 [(0, .int k), (1, .int n)] := hl
  refine lv_iload_n E.1 E.2.1 dJ0_checkIndex_df160_0 rfl (lv_at hl 0 rfl) ?_
  refine lv_iload_n E.1 E.2.1 dJ0_checkIndex_df160_1 rfl (lv_at hl 1 rfl) ?_
  rcases w.2.2.2.2.1.1.2.2.1 with hz | ⟨t, hz⟩
  · refine q_gets E w hz fs_1053 dJ0_checkIndex_df160_2 ?_
    refine k_Si (As := [.int k, .int n, .null]) (rest := []) E w (chkP_c (Or.inl rfl) h0 h1) ms_s1059 rfl rfl hl.1 ⟨Nat.le_of_ble_eq_true rfl, Nat.le_of_ble_eq_true rfl⟩ (Nat.le_of_ble_eq_true rfl) ⟨Nat.le_refl _, Nat.le_refl _⟩ dJ0_checkIndex_df160_5 (fun H locs w => ?_)
    refine lv_pop E.1 E.2.1 dJ0_checkIndex_df160_8 rfl ?_
    exact q_vret E w hr hlk dJ0_checkIndex_df160_9
  · refine q_gets E w hz fs_1053 dJ0_checkIndex_df160_2 ?_
    refine k_Si (As := [.int k, .int n, .ref t]) (rest := []) E w (chkP_c (Or.inr ⟨t, rfl⟩) h0 h1) ms_s1059 rfl rfl hl.1 ⟨Nat.le_of_ble_eq_true rfl, Nat.le_of_ble_eq_true rfl⟩ (Nat.le_of_ble_eq_true rfl) ⟨Nat.le_refl _, Nat.le_refl _⟩ dJ0_checkIndex_df160_5 (fun H locs w => ?_)
    refine lv_pop E.1 E.2.1 dJ0_checkIndex_df160_8 rfl ?_
    exact q_vret E w hr hlk dJ0_checkIndex_df160_9
theorem i2c_scc (x : Int32) : ((x &&& 255).toUInt32 % 65536).toInt32 = x &&& 255 := by
  obtain ⟨j, hj, e⟩ := pk_andE x (m := 255) 8 (by decide)
  rw [e, pk_char, pk_tn (by omega), Nat.mod_eq_of_lt (by omega)]
theorem chL_c {l : Launch} {G : GT} {h : HS} {i : Nat} (hi : i < 12) {k : Int32} (h0 : ¬ k < 0) (h1 : k < nI (sLen.getD i 0)) : CT l G yJ1_charAt_3b067 cJ1_charAt_3b067 2 (some .char) 2 43 [.ref (ad G (330 + i)), .int k] h (some (.int (scc i k.toNatClampNeg))) h := by
  obtain ⟨l1, l2⟩ := sLen_ok i hi
  have hin : vp_in k (sLen.getD i 0) := by
    rw [vp_in_iff]
    have a1 : k.toInt < (sLen.getD i 0 : Int) := by
      have := (Int32.lt_iff_toInt_lt).mp h1
      rw [nI_toInt (by omega)] at this
      exact this
    have a2 : 0 ≤ k.toInt := by
      have h2 : ¬ k.toInt < 0 := fun z => h0 ((Int32.lt_iff_toInt_lt).mpr z)
      omega
    exact ⟨a2, a1⟩
  refine CT.of (by decide) (Nat.le_of_ble_eq_true rfl) ?_
  intro p e s m below meth c ls E hr hlk w hl
  have hl : lv_has ls 2 [(0, .ref (ad G (330 + i))), (1, .int k)] := hl
  refine lv_iload_n E.1 E.2.1 dJ1_charAt_3b067_0 rfl (lv_at hl 1 rfl) ?_
  refine lv_aload_n E.1 E.2.1 dJ1_charAt_3b067_1 rfl (lv_at hl 0 rfl) ?_
  refine va_tlen E.1 E.2.1 (w.2.2.2.2.1.1.2.2.2.1 i hi).2.2.2 w.2.2.2.2.2 (v := nI (sLen.getD i 0)) rfl dJ1_charAt_3b067_2 ?_
  refine k_Sv (As := [.int k, .int (nI (sLen.getD i 0))]) (rest := []) E w (chkS_c h0 h1) ms_l9 rfl rfl hl.1 ⟨Nat.le_of_ble_eq_true rfl, Nat.le_of_ble_eq_true rfl⟩ (Nat.le_of_ble_eq_true rfl) ⟨Nat.le_refl _, Nat.le_refl _⟩ dJ1_charAt_3b067_3 (fun H locs w => ?_)
  refine lv_aload_n E.1 E.2.1 dJ1_charAt_3b067_6 rfl (lv_at hl 0 rfl) ?_
  refine lv_iload_n E.1 E.2.1 dJ1_charAt_3b067_7 rfl (lv_at hl 1 rfl) ?_
  refine va_tb E.1 E.2.1 (w.2.2.2.2.1.1.2.2.2.1 i hi).2.2.2 w.2.2.2.2.2 hin rfl dJ1_charAt_3b067_8 ?_
  refine lv_sipush (v := 255) E.1 E.2.1 dJ1_charAt_3b067_9 rfl ?_
  refine lv_iand E.1 E.2.1 dJ1_charAt_3b067_12 ?_
  refine lv_i2c (v := scc i k.toNatClampNeg) E.1 E.2.1 dJ1_charAt_3b067_13 (i2c_scc _) ?_
  exact q_nret E w hr (by have := pk_nc ((sByt.getD i []).getD k.toNatClampNeg 0 &&& 255); rw [i2c_scc] at this; exact this) hlk dJ1_charAt_3b067_14
theorem schr_c {l : Launch} {G : GT} {h : HS} {i : Nat} (hi : i < 12) {k : Int32} (h0 : ¬ k < 0) (h1 : k < nI (sLen.getD i 0)) : CT l G yJ0_charAt_5068e cJ0_charAt_5068e 2 (some .char) 3 64 [.ref (ad G (310 + i)), .int k] h (some (.int (scc i k.toNatClampNeg))) h := by
  refine CT.of (by decide) (Nat.le_of_ble_eq_true rfl) ?_
  intro p e s m below meth c ls E hr hlk w hl
  have hl : lv_has ls 2 [(0, .ref (ad G (310 + i))), (1, .int k)] := hl
  refine lv_aload_n E.1 E.2.1 dJ0_charAt_5068e_0 rfl (lv_at hl 0 rfl) ?_
  refine k_VSi (As := []) (rest := []) E w hi (isLatin_c hi) rfl mv_s492 rfl rfl hl.1 ⟨Nat.le_of_ble_eq_true rfl, Nat.le_of_ble_eq_true rfl⟩ (Nat.le_of_ble_eq_true rfl) ⟨Nat.le_refl _, Nat.le_refl _⟩ dJ0_charAt_5068e_1 (fun H locs w => ?_)
  refine lv_if_eq (tgt := 16) E.1 E.2.1 dJ0_charAt_5068e_4 (by decide) (fun c0 => absurd c0 (by decide)) (fun _ => ?_)
  refine lv_aload_n E.1 E.2.1 dJ0_charAt_5068e_7 rfl (lv_at hl 0 rfl) ?_
  refine vk_getf E.1 E.2.1 (w.2.2.2.2.1.1.2.2.2.1 i hi).2.2.1 w.2.2.2.2.2 E.2.2.2.1 (E.2.2.2.2 _ fs_9) (fun _ h9 => h9) dJ0_charAt_5068e_8 ?_
  refine lv_iload_n E.1 E.2.1 dJ0_charAt_5068e_11 rfl (lv_at hl 1 rfl) ?_
  refine k_Si (As := [.ref (ad G (330 + i)), .int k]) (rest := []) E w (chL_c hi h0 h1) ms_s495 rfl rfl hl.1 ⟨Nat.le_of_ble_eq_true rfl, Nat.le_of_ble_eq_true rfl⟩ (Nat.le_of_ble_eq_true rfl) ⟨Nat.le_refl _, Nat.le_refl _⟩ dJ0_charAt_5068e_12 (fun H locs w => ?_)
  exact q_nret E w hr (by have := pk_nc ((sByt.getD i []).getD k.toNatClampNeg 0 &&& 255); rw [i2c_scc] at this; exact this) hlk dJ0_charAt_5068e_15
