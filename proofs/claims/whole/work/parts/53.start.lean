theorem mi_law_9 : MI R_law 9 yX10_init cX10_init 1 0 := ⟨⟨Or.inr (uw_t 23 (by decide +kernel) (by decide +kernel)), (uw_t 24 (by decide +kernel) (by decide +kernel)), (uw_t 1 (by decide +kernel) (by decide +kernel)), (uw_t 25 (by decide +kernel) (by decide +kernel))⟩, by decide +kernel⟩
theorem mi_law_12 : MI R_law 12 yX11_init cX11_init 1 0 := ⟨⟨Or.inr (uw_t 1181 (by decide +kernel) (by decide +kernel)), (uw_t 1182 (by decide +kernel) (by decide +kernel)), (uw_t 13 (by decide +kernel) (by decide +kernel)), (uw_t 1183 (by decide +kernel) (by decide +kernel))⟩, by decide +kernel⟩
theorem tb (i : Nat) {w : Cond} (h : tables_1[i]? = some w) : w ∈ lw_tbl := List.mem_append_right _ (List.mem_of_getElem? h)
theorem g_arr {args : Array Value} {s : State} {ty : FieldType} (h : (Cond.arrayClass ty).before args s = true) (hp : ∀ C, ty ≠ .object C) : ∃ c : ClassId, ArrOfT s c ty ∧ va_RA s c ty := by
  obtain ⟨c, k, comp, h1, h2, h3⟩ := Cond.arrayClass_spec h
  refine ⟨c, fun n z => ⟨fun k h => (by cases h), k, h2, comp, h3⟩, ?_⟩
  cases ty with
  | object C => exact absurd rfl (hp C)
  | _ => exact h1
theorem g_obj {args : Array Value} {s : State} {C : String} (h : (Cond.arrayOver (.object C)).before args s = true) : ∃ c : ClassId, ArrOfT s c (.object C) ∧ va_RA s c (.object C) := by
  obtain ⟨comp, c, k, h1, h2, h3, h4, h5⟩ := Cond.arrayOver_spec h
  exact ⟨c, fun n z => ⟨fun k h => (by cases h), k, h3, comp, h4⟩, k, comp, h3, h4, h1, h5⟩
def FL1 : List Cond := flatC (Jvm.Cond.and given_1 narrow_1)
def stm (q : Nat) : Term := .static RX4 (stN.getD q "") "[I"
def str (i : Nat) : Term := .string RX4 (sIx.getD i 0)
theorem m_arr : ∀ q, q < 3 → Cond.arrayOf (stm q) .int ∈ FL1 := by decide +kernel
theorem m_len : ∀ q, q < 3 → Cond.eq (.length (stm q)) (.int (Int32.ofNat (stL q))) ∈ FL1 := by decide +kernel
theorem m_el : ∀ q, q < 3 → ∀ j, j < stL q → Cond.eq (.elem (stm q) (.int (Int32.ofNat j))) (.int (stV q j)) ∈ FL1 := by decide +kernel
theorem m_lay : ∀ q, q < 3 → Cond.laysStatic RX4 (stN.getD q "") "[I" ∈ tables_1 := by decide +kernel
theorem m_sref : ∀ i, i < 12 → Cond.stringRef RX4 (sIx.getD i 0) (sTx.getD i "") ∈ tables_1 := by decide +kernel
theorem m_sex : ∀ i, i < 12 → Cond.exactly (str i) "java/lang/String" ∈ FL1 := by decide +kernel
theorem m_sco : ∀ i, i < 12 → Cond.eq (.field (str i) "java/lang/String" "coder" "B") (.int 0) ∈ FL1 := by decide +kernel
theorem m_sar : ∀ i, i < 12 → Cond.arrayOf (.field (str i) "java/lang/String" "value" "[B") .byte ∈ FL1 := by decide +kernel
theorem m_sle : ∀ i, i < 12 → Cond.eq (.length (.field (str i) "java/lang/String" "value" "[B")) (.int (Int32.ofNat (sLen.getD i 0))) ∈ FL1 := by decide +kernel
theorem m_sel : ∀ i, i < 12 → ∀ j, j < sLen.getD i 0 → Cond.eq (.elem (.field (str i) "java/lang/String" "value" "[B") (.int (Int32.ofNat j))) (.int ((sByt.getD i []).getD j 0)) ∈ FL1 := by decide +kernel
theorem m_sne : ∀ i, i < 12 → ∀ j, j < 12 → i ≠ j → (Cond.not (Cond.eq (str i) (str j)) ∈ FL1 ∨ Cond.not (Cond.eq (str j) (str i)) ∈ FL1) := by decide +kernel
theorem m_cs : Cond.eq (.static "java/lang/String" "COMPACT_STRINGS" "Z") (.int 1) ∈ FL1 := by decide +kernel
theorem m_si : Cond.isRef (.static "jdk/internal/util/Preconditions" "SIOOBE_FORMATTER" "Ljava/util/function/BiFunction;") ∈ FL1 := by decide +kernel
theorem m_nl : ∀ q ∈ NLq, Cond.methodLinkNest q.1 q.2.1 q.2.2.1 q.2.2.2 ∈ tables_1 := by decide +kernel
theorem in_t {w : Cond} (h : w ∈ tables_1) : w ∈ lw_tbl := List.mem_append_right _ h
/-- what the start says of statics, Strings, links -/
theorem l_stat {s : State} {args : Array Value} (hts : ∀ w ∈ lw_tbl, w.before args s = true) (hgv : (Jvm.Cond.and given_1 narrow_1).before args s = true) : ∃ (tq adK adV : Nat → Nat), (∀ q, q < 3 → va_Z RX4 (stN.getD q "") "[I" (.ref (tq q)) (fun a => s.heap.size ≤ a) s s.heap ∧ va_T .int (tq q) (stL q) (fun j => .int (stV q j)) (fun a => s.heap.size ≤ a) s s.heap) ∧ va_Z "java/lang/String" "COMPACT_STRINGS" "Z" (.int 1) (fun a => s.heap.size ≤ a) s s.heap ∧ va_Zq "jdk/internal/util/Preconditions" "SIOOBE_FORMATTER" "Ljava/util/function/BiFunction;" (fun a => s.heap.size ≤ a) s s.heap ∧ vk_S 12 sLen sByt adK adV (fun a => s.heap.size ≤ a) s s.heap ∧ (∀ i, i < 12 → vk_R RX4 (sIx.getD i 0) (sTx.getD i "") (adK i) s) ∧ NL s := by
  have hs : ∀ w ∈ FL1, w.before args s = true := flat_of_before _ hgv
  have hA : ∀ a : Nat, a < s.heap.size → ¬ s.heap.size ≤ a := fun a h => Nat.not_le.mpr h
  have hini : (Cond.initialized RX4).before args s = true := (hts _ (tb 6 (by decide +kernel)))
  have h0 : ∀ q : Nat, ∃ t : Nat, q < 3 → va_Z RX4 (stN.getD q "") "[I" (.ref t) (fun a => s.heap.size ≤ a) s s.heap ∧ va_T .int t (stL q) (fun j => .int (stV q j)) (fun a => s.heap.size ≤ a) s s.heap := by
    intro q
    by_cases hq : q < 3
    · have hL := stL_ok q hq
      obtain ⟨t, ht, hT⟩ := va_Tof (f := fun j => .int (stV q j)) (A := fun a => s.heap.size ≤ a) (N := stL q) (by omega) (hs _ (m_arr q hq)) (va_eqt (hs _ (m_len q hq))) (fun j hj => va_eqt (hs _ (m_el q hq j hj))) hA
      exact ⟨t, fun _ => ⟨va_Zref (hts _ (in_t (m_lay q hq))) hini ht hA, hT⟩⟩
    · exact ⟨0, fun h => absurd h hq⟩
  obtain ⟨tq, htq⟩ := Classical.axiomOfChoice h0
  obtain ⟨adK, adV, hS, hev⟩ := vk_Sof (tm := str) (len := sLen) (byt := sByt) (N := 12) (A := fun a => s.heap.size ≤ a) (fun i hi => by have := (sLen_ok i hi).2; omega) (fun i hi => hs _ (m_sex i hi)) (fun i hi => hs _ (m_sco i hi)) (fun i hi => hs _ (m_sar i hi)) (fun i hi => hs _ (m_sle i hi)) (fun i hi j hj => hs _ (m_sel i hi j hj)) (fun i j hi hj hij => (m_sne i hi j hj hij).imp (fun z => hs _ z) (fun z => hs _ z)) hA
  refine ⟨tq, adK, adV, htq, va_Zof (hts _ (tb 523 (by decide +kernel))) (hts _ (tb 14 (by decide +kernel))) (va_eqt (hs _ m_cs)) hA, va_Zqof (hts _ (tb 539 (by decide +kernel))) (hts _ (tb 16 (by decide +kernel))) (hs _ m_si) hA, hS, fun i hi => vk_R.of (hts _ (in_t (m_sref i hi))) (hev i hi), fun q hq => va_Nw.of rfl (hts _ (in_t (m_nl q hq)))⟩
theorem l_known {s : State} {args : Array Value} (hts : ∀ w ∈ lw_tbl, w.before args s = true) : ∃ (dC : Nat → ClassId) (dI : Nat → Nat → Nat), ∀ (k : Nat) (q : vw_C), vwCl[k]? = some q → u_Kn s q.1 q.2.1 q.2.2 (dC k) (dI k) := by
  have hu : ∀ w ∈ UW, w.before args s = true := fun w h => hts w (UW_sub w h)
  obtain ⟨c0, i0, h0⟩ := u_known (C := RX0) (T := TX0) (N := 2) (n := 2) hu uwX0 (hts _ (tb 333 (by decide +kernel)))
  obtain ⟨c1, i1, h1⟩ := u_known (C := RX1) (T := TX1) (N := 14) (n := 14) hu uwX1 (hts _ (tb 37 (by decide +kernel)))
  obtain ⟨c2, i2, h2⟩ := u_known (C := RX2) (T := TX2) (N := 2) (n := 2) hu uwX2 (hts _ (tb 398 (by decide +kernel)))
  obtain ⟨c3, i3, h3⟩ := u_known (C := RX3) (T := TX3) (N := 19) (n := 19) hu uwX3 (hts _ (tb 264 (by decide +kernel)))
  obtain ⟨c4, i4, h4⟩ := u_known (C := RX4) (T := TX4) (N := 11) (n := 11) hu uwX4 (hts _ (tb 188 (by decide +kernel)))
  obtain ⟨c5, i5, h5⟩ := u_known (C := RX5) (T := TX5) (N := 6) (n := 6) hu uwX5 (hts _ (tb 237 (by decide +kernel)))
  obtain ⟨c6, i6, h6⟩ := u_known (C := RX6) (T := TX6) (N := 4) (n := 4) hu uwX6 (hts _ (tb 125 (by decide +kernel)))
  obtain ⟨c7, i7, h7⟩ := u_known (C := RX7) (T := TX7) (N := 8) (n := 8) hu uwX7 (hts _ (tb 30 (by decide +kernel)))
  obtain ⟨c8, i8, h8⟩ := u_known (C := RX8) (T := TX8) (N := 4) (n := 4) hu uwX8 (hts _ (tb 377 (by decide +kernel)))
  obtain ⟨c9, i9, h9⟩ := u_known (C := RX9) (T := TX9) (N := 6) (n := 6) hu uwX9 (hts _ (tb 348 (by decide +kernel)))
  obtain ⟨c10, i10, h10⟩ := u_known (C := RX10) (T := TX10) (N := 10) (n := 10) hu uwX10 (hts _ (tb 22 (by decide +kernel)))
  obtain ⟨c11, i11, h11⟩ := u_known (C := RX11) (T := TX11) (N := 51) (n := 51) hu uwX11 (hts _ (tb 1180 (by decide +kernel)))
  refine ⟨fun k => if k = 0 then c0 else if k = 1 then c1 else if k = 2 then c2 else if k = 3 then c3 else if k = 4 then c4 else if k = 5 then c5 else if k = 6 then c6 else if k = 7 then c7 else if k = 8 then c8 else if k = 9 then c9 else if k = 10 then c10 else c11, fun k => if k = 0 then i0 else if k = 1 then i1 else if k = 2 then i2 else if k = 3 then i3 else if k = 4 then i4 else if k = 5 then i5 else if k = 6 then i6 else if k = 7 then i7 else if k = 8 then i8 else if k = 9 then i9 else if k = 10 then i10 else i11, ?_⟩
  intro k q hq
  match k, hq with
  | 0, hq => cases hq; exact h0
  | 1, hq => cases hq; exact h1
  | 2, hq => cases hq; exact h2
  | 3, hq => cases hq; exact h3
  | 4, hq => cases hq; exact h4
  | 5, hq => cases hq; exact h5
  | 6, hq => cases hq; exact h6
  | 7, hq => cases hq; exact h7
  | 8, hq => cases hq; exact h8
  | 9, hq => cases hq; exact h9
  | 10, hq => cases hq; exact h10
  | 11, hq => cases hq; exact h11
  | k + 12, hq => simp [vwCl] at hq
theorem WR_hI : WR hI := by
  intro k
  rcases Nat.lt_or_ge k 257 with hk | hk
  · have h1 := (by decide +kernel : ∀ k, k < 257 → (sh k = 0 ∨ sh k = 3 ∨ sh k = 5 ∨ sh k = 8 ∨ sh k = 9 → sh (hI.2 k) = 1) ∧ (sh k = 4 → hI.2 k = 0)) k hk
    refine ⟨h1.1, fun z => Or.inl (h1.2 z), fun z i => ?_⟩
    rw [hI_arr (Or.inl z) (fun e => by subst e; exact absurd z (by decide))]
    rfl
  · have e : sh k = 99 := by
      rcases Nat.decEq (sh k) 99 with z | z
      · exact absurd (sh_lt z) (by show ¬ k < 257; omega)
      · exact z
    refine ⟨fun z => by omega, fun z => by omega, fun z => by omega⟩
set_option maxRecDepth 20000 in
set_option maxHeartbeats 4000000 in
/-- THE LAW, from its entry, if its function says so -/
theorem whole_open (hmain : ∀ (L : Nat) (xs : Nat → Int32), L ≤ 384 → ∃ (N n : Nat) (z : HS), L_law_l18 xs L N n hI 0 = some z) {p : Program} {e : Env} {s : State} {m : MethodId} {below : List Frame} {meth : Method} {c : Code} (l : Launch) {b L : Nat} {xs : Nat → Int32} (hL : L ≤ 384) (C0 : lw_At p s m meth c b L xs) : W p l e room_1 s m #[Value.ref b] below meth c s.heap [] 0 0 (lw_Z below #[Value.ref b] s) (entryFrame m ([Value.ref b] : List Value).toArray 4) := by
  obtain ⟨hx, hb, hr, hml, hown, hts, hX, hbl, hlocks, hgv⟩ := C0
  obtain ⟨N, n, z, hz⟩ := hmain L xs hL
  obtain ⟨tq, adK, adV, hq, hcs, hsi, hS, hR, hN⟩ := l_stat hts hgv
  obtain ⟨dC, dI, hKc⟩ := l_known hts
  obtain ⟨a12, a12a, a12b⟩ := g_arr (ty := .byte) (hts _ (tb 121 (by decide +kernel))) (by intro C; exact fun z => by cases z)
  obtain ⟨a13, a13a, a13b⟩ := g_arr (ty := .int) (hts _ (tb 122 (by decide +kernel))) (by intro C; exact fun z => by cases z)
  obtain ⟨a14, a14a, a14b⟩ := g_arr (ty := .boolean) (hts _ (tb 235 (by decide +kernel))) (by intro C; exact fun z => by cases z)
  have o1 : (Cond.arrayOver (.object RX1)).before #[Value.ref b] s = true := (hts _ (tb 36 (by decide +kernel)))
  have o6 : (Cond.arrayOver (.object RX6)).before #[Value.ref b] s = true := (hts _ (tb 124 (by decide +kernel)))
  have o7 : (Cond.arrayOver (.object RX7)).before #[Value.ref b] s = true := (hts _ (tb 186 (by decide +kernel)))
  obtain ⟨a15, a15a, a15b⟩ := g_obj o1
  obtain ⟨a16, a16a, a16b⟩ := g_obj o6
  obtain ⟨a17, a17a, a17b⟩ := g_obj o7
  obtain ⟨G, eG⟩ : ∃ G : GT, G = ((dC, dI), (fun k => if k < 257 then s.heap.size + (k - 1) else if k < 310 then tq (k - 300) else if k < 330 then adK (k - 310) else adV (k - 330)), (fun k => if k = 12 then a12 else if k = 13 then a13 else if k = 14 then a14 else if k = 15 then a15 else if k = 16 then a16 else a17), ()) := ⟨_, rfl⟩
  have hB : GB G s.heap.size := fun k hk => by
    subst eG
    show (if k + 1 < 257 then s.heap.size + (k + 1 - 1) else _) = _
    rw [if_pos (show k + 1 < 257 from hk), Nat.add_sub_cancel]
  have hA : ∀ q, AD G q → s.heap.size ≤ q := by
    rintro q ⟨k, k0, k1, rfl⟩
    have := hB (k - 1) (by omega)
    rw [show k - 1 + 1 = k by omega] at this
    omega
  have hG : GI G := by
    intro i j i0 i1 j0 j1 e1
    have u := hB (i - 1) (by omega)
    have v := hB (j - 1) (by omega)
    rw [show i - 1 + 1 = i by omega] at u
    rw [show j - 1 + 1 = j by omega] at v
    omega
  have hK : va_K G.1 vwCl (tysO G) s := by
    subst eG
    refine ⟨hKc, fun k q hk => ?_⟩
    match k, hk with
    | 0, hk => cases hk; exact ⟨a12a, a12b⟩
    | 1, hk => cases hk; exact ⟨a13a, a13b⟩
    | 2, hk => cases hk; exact ⟨a14a, a14b⟩
    | 3, hk => cases hk; exact ⟨a15a, a15b⟩
    | 4, hk => cases hk; exact ⟨a16a, a16b⟩
    | 5, hk => cases hk; exact ⟨a17a, a17b⟩
    | k + 6, hk => simp [tysO] at hk
  have hSV : SV G s := by
    have d1 : ∀ q, q < 3 → ad G (300 + q) = tq q := fun q h => by
      subst eG
      show (if 300 + q < 257 then _ else if 300 + q < 310 then tq (300 + q - 300) else _) = _
      rw [if_neg (by omega), if_pos (by omega), Nat.add_sub_cancel_left]
    have d2 : ∀ i, i < 12 → ad G (310 + i) = adK i := fun i h => by
      subst eG
      show (if 310 + i < 257 then _ else if 310 + i < 310 then _ else if 310 + i < 330 then adK (310 + i - 310) else _) = _
      rw [if_neg (by omega), if_neg (by omega), if_pos (by omega), Nat.add_sub_cancel_left]
    have d3 : ∀ i, ad G (330 + i) = adV i := fun i => by
      subst eG
      show (if 330 + i < 257 then _ else if 330 + i < 310 then _ else if 330 + i < 330 then _ else adV (330 + i - 330)) = _
      rw [if_neg (by omega), if_neg (by omega), if_neg (by omega), Nat.add_sub_cancel_left]
    refine ⟨⟨fun q h => ?_, hcs.narrow hA, hsi.narrow hA, ?_⟩, hN, fun i hi => ?_⟩
    · rw [d1 q h]
      exact ⟨(hq q h).1.narrow hA, (hq q h).2.narrow hA⟩
    · have hS2 := hS.narrow hA
      refine ⟨fun i hi => ?_, fun i j hi hj e1 => hS2.2 i j hi hj ?_⟩
      · show va_O _ (ad G (310 + i)) _ _ _ ∧ va_OF _ _ _ _ (ad G (310 + i)) _ _ _ ∧ va_OF _ _ _ (.ref (ad G (330 + i))) (ad G (310 + i)) _ _ _ ∧ va_T _ (ad G (330 + i)) _ _ _ _ _
        rw [d2 i hi, d3 i]
        exact hS2.1 i hi
      · have e2 : ad G (310 + i) = ad G (310 + j) := e1
        rw [d2 i hi, d2 j hj] at e2
        exact e2
    · rw [d2 i hi]
      exact hR i hi
  have E : CallFix p m c code 4 s #[Value.ref b] UW R_law := ⟨hx, hb, hml, hown, fun w h => hts w (UW_sub w h)⟩
  have w : CW G s.heap.size s 0 (fun _ => .inr (0, [])) s.heap [] := ⟨by decide, rfl, fun k q h => by simp [wsP] at h, hK, hB, ⟨hN, va_AO.of o1, va_AO.of o6, va_AO.of o7⟩, va_S.rf⟩
  have hl := lv_entry ([.ref b]) (n := 4) (Nat.le_of_ble_eq_true rfl)
  rw [lg_entry_eq]
  generalize (lg_sl ([.ref b]) ++ List.replicate (4 - (lg_sl ([.ref b])).length) Slot.unset).toArray = ls at hl ⊢
  have hl : lv_has ls 4 [(0, .ref b)] := hl
  have g1 : sh 1 = 10 := by decide +kernel
  have g2 : sh 237 = 11 := by decide +kernel
  refine c_new (ci := 10) E w [.null, .null, .null, .null, .null, .null, .null, .null, .null, .null] (by decide) rfl uwX10 tyX10_ok ⟨(uw_t 21 (by decide +kernel) (by decide +kernel)), (uw_t 22 (by decide +kernel) (by decide +kernel)), (uw_t 1 (by decide +kernel) (by decide +kernel))⟩ (by decide) (Nat.le_of_ble_eq_true rfl) (Nat.le_of_ble_eq_true rfl) dL_law_0 (fun H w => ?_)
  refine lv_dup E.1 E.2.1 dL_law_3 rfl ?_
  refine c_call (k := 1) (As := []) (rest := [.ref (ad G 1)]) E w (X10_init_n g1 (by simp [va_up])) mi_law_9 rfl rfl hl.1 ⟨Nat.le_of_ble_eq_true rfl, Nat.le_of_ble_eq_true rfl⟩ (Nat.le_of_ble_eq_true rfl) ⟨Nat.le_of_ble_eq_true rfl, Nat.le_of_ble_eq_true rfl⟩ dL_law_4 (fun H locs w => ?_)
  refine lv_astore_n (lv' := [(1, .ref (ad G 1)), (0, .ref b)]) E.1 E.2.1 dL_law_7 rfl hl (by decide) rfl (fun ls hl => ?_)
  refine c_new (ci := 11) E w [.null, .null, .int 0, .int 0, .int 0, .int 0, .int 0, .int 0, .int 0, .int 0, .int 0, .null, .int 0, .int 0, .int 0, .int 0, .null, .null, .null, .null, .int 0, .int 0, .int 0, .null, .null, .null, .null, .null, .null, .int 0, .null, .null, .int 0, .int 0, .int 0, .int 0, .int 0, .int 0, .int 0, .int 0, .int 0, .int 0, .int 0, .int 0, .int 0, .null, .null, .null, .int 0, .null, .int 0] (by decide) rfl uwX11 tyX11_ok ⟨(uw_t 1179 (by decide +kernel) (by decide +kernel)), (uw_t 1180 (by decide +kernel) (by decide +kernel)), (uw_t 13 (by decide +kernel) (by decide +kernel))⟩ (by decide) (Nat.le_of_ble_eq_true rfl) (Nat.le_of_ble_eq_true rfl) dL_law_8 (fun H w => ?_)
  refine lv_dup E.1 E.2.1 dL_law_11 rfl ?_
  refine c_call (k := 237) (As := []) (rest := [.ref (ad G 237)]) E w (X11_init_n g2 (by simp [va_up])) mi_law_12 rfl rfl hl.1 ⟨Nat.le_of_ble_eq_true rfl, Nat.le_of_ble_eq_true rfl⟩ (Nat.le_of_ble_eq_true rfl) ⟨Nat.le_of_ble_eq_true rfl, Nat.le_of_ble_eq_true rfl⟩ dL_law_12 (fun H locs w => ?_)
  refine lv_astore_n (lv' := [(2, .ref (ad G 237)), (1, .ref (ad G 1)), (0, .ref b)]) E.1 E.2.1 dL_law_15 rfl hl (by decide) rfl (fun ls hl => ?_)
  refine lv_iconst (v := 0) E.1 E.2.1 dL_law_16 rfl ?_
  refine lv_istore_n (lv' := [(3, .int 0), (2, .ref (ad G 237)), (1, .ref (ad G 1)), (0, .ref b)]) E.1 E.2.1 dL_law_17 rfl hl (by decide) rfl (fun ls hl => ?_)
  refine va_forget (fun q hq => w.2.2.2.2.2.2.2.2 q hq) ?_
  have w2 : WD G s hI H [] := by
    obtain ⟨u0, uz, uP, uK, uB, uN, uS⟩ := w
    refine ⟨?_, hK, hG, WR_hI, hSV, uS.1, fun q h1 h2 => uS.2.1 q h1 (by omega), fun _ h => by cases h⟩
    have e1 : wsO G hI = wsP G 256 (cellO G hI) := rfl
    rw [e1]
    rw [wsP_congr G (F' := cellO G hI) (fun i i0 i1 => ?_)] at uP
    · exact uP
    · unfold FN va_up
      by_cases h2 : i < 237
      · rw [if_pos h2, if_neg (by omega)]
        show (if i < 1 then _ else cellO G hI i) = _
        rw [if_neg (by omega)]
      · rw [if_neg h2]
  exact L_law_l18_w E hr hlocks hX hbl hA n hI H [] ls 0 hz w2 (lv_sub hl [3, 2, 1, 0] rfl)
