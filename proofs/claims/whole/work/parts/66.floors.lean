/-! ===== level 2: sums over floors; roof, move, landing ===== -/
def up (D : Nat → Nat) (g : Nat) : Int32 := zl (fun f a => a + nI (D (6 + 2 * f))) (D 0 - g) g 0
def rents (D : Nat → Nat) : Int32 := zl (fun f a => a + nI (D (5 + 2 * f))) (D 0) 0 0
def frv (fl g : Nat) : Int32 := (((1 : Int32) <<< (nI fl &&& 31)) - 1) &&& (((-1) : Int32) <<< (nI g &&& 31))
theorem frv_bit : ∀ fl, fl < 7 → ∀ g, g < 7 → ∀ f, f < 6 → ((frv fl g >>> (nI f &&& 31)) &&& 1) = if g ≤ f ∧ f < fl then 1 else 0 := by decide +kernel
section FL2
variable {N : Nat} {h : HS} {p q : Nat} {D : Nat → Nat}
theorem c_from (c : KH h p D) (g : Nat) : X1_from N h p (nI g) = some (frv (D 0) g) := by
  unfold X1_from
  rw [ch0 c]
  rfl
theorem up_bits (k : HK D) {g : Nat} (hg : g ≤ D 0) (F : Nat → Nat) : zl (fun f a => a + ((frv (D 0) g >>> (nI f &&& 31)) &&& 1) * nI (F f)) (D 0) 0 0 = zl (fun f a => a + nI (F f)) (D 0 - g) g 0 := by
  have := hk0 k
  rw [show zl (fun f a => a + ((frv (D 0) g >>> (nI f &&& 31)) &&& 1) * nI (F f)) (D 0) 0 (0 : Int32) = zl (fun f a => a + ((frv (D 0) g >>> (nI f &&& 31)) &&& 1) * nI (F f)) (g + (D 0 - g)) 0 0 by rw [show g + (D 0 - g) = D 0 by omega]]
  rw [zl_add, zl_id g 0 0, Nat.zero_add]
  · apply zl_congr
    intro j h1 h2 a
    rw [frv_bit (D 0) (by omega) g (by omega) j (by omega), if_pos ⟨h1, by omega⟩, Int32.one_mul]
  · intro j h1 h2 a
    rw [frv_bit (D 0) (by omega) g (by omega) j (by omega), if_neg (by omega), Int32.zero_mul, Int32.add_zero]
theorem c_up (c : KH h p D) (hN : 100 ≤ N) {g : Nat} (hg : g ≤ D 0) : X1_peopleOf N h p (frv (D 0) g) = some (up D g) := by
  rw [c_peopleOf c hN, up_bits c.2.1 hg]
  rfl
theorem c_rents (c : KH h p D) (hN : 100 ≤ N) : X1_rentsOf N h p (frv (D 0) 0) = some (rents D) := by
  rw [c_rentsOf c hN, up_bits c.2.1 (Nat.zero_le _)]
  rfl
def roofV (D : Nat → Nat) (b : Nat) : Int32 := if D (17 + 4 * b) = 0 then 0 else up D (D (19 + 4 * b))
theorem c_roofOf (c : KH h p D) (hN : 100 ≤ N) {b : Nat} (hb : b < D 1) : X1_roofOf N h p (nI b) = some (roofV D b) := by
  have := hk0 c.2.1
  have hB := hkB c.2.1 hb
  have hP := c.1
  unfold X1_roofOf roofV
  rw [c_sounds c (by omega), bd1_some]
  simp only [nB_0]
  by_cases z : D (17 + 4 * b) = 0
  · rw [if_pos (fun w => w.2 z), if_pos z]
  · rw [if_neg (fun w => w ⟨hb, z⟩), if_neg z, at_in hP.2.2.2.2.1 (by decide) (by omega), bd1_some, chGr c hb, c_from c, bd1_some, c_up c hN (by omega), bd1_some]
theorem r_roofOf (c : RH h q D) (hN : 100 ≤ N) {b : Nat} (hb : b < D 1) : X11_roofOf N h 237 (nI b) = some (roofV D b) := by
  have := hk0 c.1
  have hB := hkB c.1 hb
  unfold X11_roofOf roofV
  rw [r_noteOf c (by omega), bd1_some]
  simp (disch := omega) only [zi_eq0]
  by_cases z : D (17 + 4 * b) = 0
  · rw [if_pos z, if_pos z]
  · rw [if_neg z, if_neg z, r_floorOf c (by omega), bd1_some, r_upFrom c hN (by omega), bd1_some]
    rfl
/-- none, or a number -/
def oI (o : Option Nat) : Int32 := match o with | none => -1 | some j => nI j
def quiS (D : Nat → Nat) (b : Nat) (o : Option Nat) : Option Nat := if zsn D b then (match o with | none => some b | some j => if roofV D j ≤ roofV D b then some j else some b) else o
theorem c_quietest (c : KH h p D) (hN : 100 ≤ N) : X1_quietest N h p = some (oI (zl (quiS D) (D 1) 0 none)) := by
  have := hk0 c.2.1
  have key : ∀ (r i n : Nat) (o : Option Nat), i + r = 8 → r < n → (∀ j, o = some j → j < D 1) → X1_quietest_l4 N h n p (oI o) (nI i) = some (oI (zl (quiS D) r i o)) := by
    intro r
    induction r with
    | zero =>
      intro i n o e hn ho
      obtain ⟨n, rfl, _⟩ := fuel hn
      rw [X1_quietest_l4]
      simp (disch := omega) only [zn2, zn3, zn4, zn5, zn6, zn7, zn8, zn9, zn10, zn11, zn12, zn13, zn14, zn15, zn16, zn17, zn18, zn19, zn20, zn21, zn24, zn29, zn30, zn32, zn40, zn48, zn49, zn54, zn57, zn59, zn60, zn63, zn64, zn81, zn97, zn99, zn122, zn127, zn600, zn610, zn738, zn900, zn934, zn999, zn3736, zn999999, zn99999999, nI_leI, nI_ltI, nI_eq, nI_clamp, zi_lt0, zi_le0, zi_0lt, zi_0le, zi_eq0, zi_e0, zi_eq1, zi_lt1, zi_1le, zi_m1, zi_1m, nI_1, false_or, or_false, if_pos, if_neg, nz_0, nz_1, nB_0, nB_n0, nB_1, nz_nB, bd1_some, bd2_some, sq_eq, ite_not, if_true, if_false, true_and, and_true, false_and, and_false, not_true_eq_false, not_false_eq_true, true_or, or_true, zl]
    | succ r ih =>
      intro i n o e hn ho
      obtain ⟨n, rfl, _⟩ := fuel hn
      rw [X1_quietest_l4, c_sounds c (by omega)]
      by_cases z : zsn D i
      · simp (disch := omega) only [zn2, zn3, zn4, zn5, zn6, zn7, zn8, zn9, zn10, zn11, zn12, zn13, zn14, zn15, zn16, zn17, zn18, zn19, zn20, zn21, zn24, zn29, zn30, zn32, zn40, zn48, zn49, zn54, zn57, zn59, zn60, zn63, zn64, zn81, zn97, zn99, zn122, zn127, zn600, zn610, zn738, zn900, zn934, zn999, zn3736, zn999999, zn99999999, nI_leI, nI_ltI, nI_eq, nI_clamp, zi_lt0, zi_le0, zi_0lt, zi_0le, zi_eq0, zi_e0, zi_eq1, zi_lt1, zi_1le, zi_m1, zi_1m, nI_1, false_or, or_false, if_pos, if_neg, nz_0, nz_1, nB_0, nB_n0, nB_1, nz_nB, bd1_some, bd2_some, sq_eq, ite_not, if_true, if_false, true_and, and_true, false_and, and_false, not_true_eq_false, not_false_eq_true, true_or, or_true, zl, if_pos z, quiS]
        cases o with
        | none =>
          simp only [oI, if_true]
          exact ih (i + 1) n (some i) (by omega) (by omega) (fun j e => by cases e; exact z.1)
        | some j =>
          have hj := ho j rfl
          rw [show oI (some j) = nI j from rfl, if_neg (nI_m1 (by omega)), c_roofOf c hN z.1, bd1_some, c_roofOf c hN hj, bd1_some]
          by_cases y : roofV D j ≤ roofV D i
          · simp only [if_pos y]
            exact ih (i + 1) n (some j) (by omega) (by omega) (fun k e => by cases e; exact hj)
          · simp only [if_neg y]
            exact ih (i + 1) n (some i) (by omega) (by omega) (fun k e => by cases e; exact z.1)
      · simp (disch := omega) only [zn2, zn3, zn4, zn5, zn6, zn7, zn8, zn9, zn10, zn11, zn12, zn13, zn14, zn15, zn16, zn17, zn18, zn19, zn20, zn21, zn24, zn29, zn30, zn32, zn40, zn48, zn49, zn54, zn57, zn59, zn60, zn63, zn64, zn81, zn97, zn99, zn122, zn127, zn600, zn610, zn738, zn900, zn934, zn999, zn3736, zn999999, zn99999999, nI_leI, nI_ltI, nI_eq, nI_clamp, zi_lt0, zi_le0, zi_0lt, zi_0le, zi_eq0, zi_e0, zi_eq1, zi_lt1, zi_1le, zi_m1, zi_1m, nI_1, false_or, or_false, if_pos, if_neg, nz_0, nz_1, nB_0, nB_n0, nB_1, nz_nB, bd1_some, bd2_some, sq_eq, ite_not, if_true, if_false, true_and, and_true, false_and, and_false, not_true_eq_false, not_false_eq_true, true_or, or_true, zl, if_neg z, quiS]
        exact ih (i + 1) n o (by omega) (by omega) ho
  unfold X1_quietest
  rw [show (-1 : Int32) = oI none from rfl, show (0 : Int32) = nI 0 from rfl, key 8 0 N none (by omega) (by omega) (fun j e => by cases e)]
  rw [zl_cut (r := D 1) (by omega) none (fun j h1 h2 a => by unfold quiS; rw [if_neg (fun z => by omega)])]
theorem r_quietest (c : RH h q D) (hN : 100 ≤ N) : X11_quietestOf N h 237 = some (oI (zl (quiS D) (D 1) 0 none)) := by
  have := hk0 c.1
  have key : ∀ (r i n : Nat) (o : Option Nat), i + r = D 1 → r < n → (∀ j, o = some j → j < D 1) → X11_quietestOf_l4 N h n 237 (oI o) (nI i) = some (oI (zl (quiS D) r i o)) := by
    intro r
    induction r with
    | zero =>
      intro i n o e hn ho
      obtain ⟨n, rfl, _⟩ := fuel hn
      rw [X11_quietestOf_l4, rh1 c]
      simp (disch := omega) only [zn2, zn3, zn4, zn5, zn6, zn7, zn8, zn9, zn10, zn11, zn12, zn13, zn14, zn15, zn16, zn17, zn18, zn19, zn20, zn21, zn24, zn29, zn30, zn32, zn40, zn48, zn49, zn54, zn57, zn59, zn60, zn63, zn64, zn81, zn97, zn99, zn122, zn127, zn600, zn610, zn738, zn900, zn934, zn999, zn3736, zn999999, zn99999999, nI_leI, nI_ltI, nI_eq, nI_clamp, zi_lt0, zi_le0, zi_0lt, zi_0le, zi_eq0, zi_e0, zi_eq1, zi_lt1, zi_1le, zi_m1, zi_1m, nI_1, false_or, or_false, if_pos, if_neg, nz_0, nz_1, nB_0, nB_n0, nB_1, nz_nB, bd1_some, bd2_some, sq_eq, ite_not, if_true, if_false, true_and, and_true, false_and, and_false, not_true_eq_false, not_false_eq_true, true_or, or_true, zl]
    | succ r ih =>
      intro i n o e hn ho
      obtain ⟨n, rfl, _⟩ := fuel hn
      have hB := hkB c.1 (show i < D 1 by omega)
      rw [X11_quietestOf_l4, rh1 c, r_noteOf c (by omega)]
      by_cases z : zsn D i
      · have z2 := z.2
        simp (disch := omega) only [zn2, zn3, zn4, zn5, zn6, zn7, zn8, zn9, zn10, zn11, zn12, zn13, zn14, zn15, zn16, zn17, zn18, zn19, zn20, zn21, zn24, zn29, zn30, zn32, zn40, zn48, zn49, zn54, zn57, zn59, zn60, zn63, zn64, zn81, zn97, zn99, zn122, zn127, zn600, zn610, zn738, zn900, zn934, zn999, zn3736, zn999999, zn99999999, nI_leI, nI_ltI, nI_eq, nI_clamp, zi_lt0, zi_le0, zi_0lt, zi_0le, zi_eq0, zi_e0, zi_eq1, zi_lt1, zi_1le, zi_m1, zi_1m, nI_1, false_or, or_false, if_pos, if_neg, nz_0, nz_1, nB_0, nB_n0, nB_1, nz_nB, bd1_some, bd2_some, sq_eq, ite_not, if_true, if_false, true_and, and_true, false_and, and_false, not_true_eq_false, not_false_eq_true, true_or, or_true, zl, if_pos z, quiS]
        cases o with
        | none =>
          simp only [oI, if_true]
          exact ih (i + 1) n (some i) (by omega) (by omega) (fun j e => by cases e; exact z.1)
        | some j =>
          have hj := ho j rfl
          rw [show oI (some j) = nI j from rfl, if_neg (nI_m1 (by omega)), r_roofOf c hN z.1, bd1_some, r_roofOf c hN hj, bd1_some]
          by_cases y : roofV D j ≤ roofV D i
          · simp only [if_pos y]
            exact ih (i + 1) n (some j) (by omega) (by omega) (fun k e => by cases e; exact hj)
          · simp only [if_neg y]
            exact ih (i + 1) n (some i) (by omega) (by omega) (fun k e => by cases e; exact z.1)
      · have z2 : D (17 + 4 * i) = 0 := by
          by_cases y : D (17 + 4 * i) = 0
          · exact y
          · exact absurd ⟨by omega, y⟩ z
        simp (disch := omega) only [zn2, zn3, zn4, zn5, zn6, zn7, zn8, zn9, zn10, zn11, zn12, zn13, zn14, zn15, zn16, zn17, zn18, zn19, zn20, zn21, zn24, zn29, zn30, zn32, zn40, zn48, zn49, zn54, zn57, zn59, zn60, zn63, zn64, zn81, zn97, zn99, zn122, zn127, zn600, zn610, zn738, zn900, zn934, zn999, zn3736, zn999999, zn99999999, nI_leI, nI_ltI, nI_eq, nI_clamp, zi_lt0, zi_le0, zi_0lt, zi_0le, zi_eq0, zi_e0, zi_eq1, zi_lt1, zi_1le, zi_m1, zi_1m, nI_1, false_or, or_false, if_pos, if_neg, nz_0, nz_1, nB_0, nB_n0, nB_1, nz_nB, bd1_some, bd2_some, sq_eq, ite_not, if_true, if_false, true_and, and_true, false_and, and_false, not_true_eq_false, not_false_eq_true, true_or, or_true, zl, if_neg z, quiS]
        exact ih (i + 1) n o (by omega) (by omega) ho
  unfold X11_quietestOf
  exact key (D 1) 0 N none (by omega) (by omega) (fun j e => by cases e)
def cntV (D : Nat → Nat) (v : Int32) : Int32 := zl (fun b a => if zsn D b ∧ nI (D (19 + 4 * b)) = v then a + 1 else a) (D 1) 0 0
theorem c_cnt (c : KH h p D) (hN : 100 ≤ N) (v : Int32) : X1_notesOn N h p v = some (cntV D v) := by
  have := hk0 c.2.1
  rw [c_notesOn c hN, zl_cut (r := D 1) (by omega) _ (fun j h1 h2 a => by rw [if_neg (fun z => by omega)])]
  rfl
theorem cnt_m1 (k : HK D) : cntV D (-1) = 0 := by
  have := hk0 k
  unfold cntV
  apply zl_id
  intro j h1 h2 a
  have := hkB k (show j < D 1 by omega)
  rw [if_neg (fun z => nI_m1 (by omega) z.2)]
def lanS (D : Nat → Nat) (f : Nat) (o : Option Nat) : Option Nat := match o with | none => some f | some j => if cntV D (nI f) ≤ cntV D (nI j) then some j else some f
theorem c_busiest (c : KH h p D) (hN : 100 ≤ N) : X1_busiest N h p = some (oI (zl (lanS D) (D 0) 0 none)) := by
  have := hk0 c.2.1
  have key : ∀ (r i n : Nat) (o : Option Nat), i + r = D 0 → r < n → (∀ j, o = some j → j < D 0) → X1_busiest_l4 N h n p (oI o) (nI i) = some (oI (zl (lanS D) r i o)) := by
    intro r
    induction r with
    | zero =>
      intro i n o e hn ho
      obtain ⟨n, rfl, _⟩ := fuel hn
      rw [X1_busiest_l4, ch0 c]
      simp (disch := omega) only [zn2, zn3, zn4, zn5, zn6, zn7, zn8, zn9, zn10, zn11, zn12, zn13, zn14, zn15, zn16, zn17, zn18, zn19, zn20, zn21, zn24, zn29, zn30, zn32, zn40, zn48, zn49, zn54, zn57, zn59, zn60, zn63, zn64, zn81, zn97, zn99, zn122, zn127, zn600, zn610, zn738, zn900, zn934, zn999, zn3736, zn999999, zn99999999, nI_leI, nI_ltI, nI_eq, nI_clamp, zi_lt0, zi_le0, zi_0lt, zi_0le, zi_eq0, zi_e0, zi_eq1, zi_lt1, zi_1le, zi_m1, zi_1m, nI_1, false_or, or_false, if_pos, if_neg, nz_0, nz_1, nB_0, nB_n0, nB_1, nz_nB, bd1_some, bd2_some, sq_eq, ite_not, if_true, if_false, true_and, and_true, false_and, and_false, not_true_eq_false, not_false_eq_true, true_or, or_true, zl]
    | succ r ih =>
      intro i n o e hn ho
      obtain ⟨n, rfl, _⟩ := fuel hn
      rw [X1_busiest_l4, ch0 c]
      simp (disch := omega) only [zn2, zn3, zn4, zn5, zn6, zn7, zn8, zn9, zn10, zn11, zn12, zn13, zn14, zn15, zn16, zn17, zn18, zn19, zn20, zn21, zn24, zn29, zn30, zn32, zn40, zn48, zn49, zn54, zn57, zn59, zn60, zn63, zn64, zn81, zn97, zn99, zn122, zn127, zn600, zn610, zn738, zn900, zn934, zn999, zn3736, zn999999, zn99999999, nI_leI, nI_ltI, nI_eq, nI_clamp, zi_lt0, zi_le0, zi_0lt, zi_0le, zi_eq0, zi_e0, zi_eq1, zi_lt1, zi_1le, zi_m1, zi_1m, nI_1, false_or, or_false, if_pos, if_neg, nz_0, nz_1, nB_0, nB_n0, nB_1, nz_nB, bd1_some, bd2_some, sq_eq, ite_not, if_true, if_false, true_and, and_true, false_and, and_false, not_true_eq_false, not_false_eq_true, true_or, or_true, zl, lanS]
      cases o with
      | none =>
        simp only [oI, if_true]
        exact ih (i + 1) n (some i) (by omega) (by omega) (fun j e => by cases e; omega)
      | some j =>
        have hj := ho j rfl
        rw [show oI (some j) = nI j from rfl, if_neg (nI_m1 (by omega)), c_cnt c hN, bd1_some, c_cnt c hN, bd1_some]
        by_cases y : cntV D (nI i) ≤ cntV D (nI j)
        · simp only [if_pos y]
          exact ih (i + 1) n (some j) (by omega) (by omega) (fun k e => by cases e; exact hj)
        · simp only [if_neg y]
          exact ih (i + 1) n (some i) (by omega) (by omega) (fun k e => by cases e; omega)
  unfold X1_busiest
  exact key (D 0) 0 N none (by omega) (by omega) (fun j e => by cases e)
theorem r_cnt (c : RH h q D) (hN : 100 ≤ N) (v : Int32) : X11_barsOn N h 237 v = some (cntV D v) := r_barsOn c hN v
theorem r_landing (c : RH h q D) (hN : 100 ≤ N) (v2 : Int32) : ∀ (r i n : Nat) (o : Option Nat), i + r = D 0 → r < n → (∃ j, o = some j ∧ j < D 0) → X11_landing_l27 N n h 237 v2 (oI o) (nI i) = some (if v2 = 0 then oI (zl (lanS D) r i o) else cntV D (oI (zl (lanS D) r i o)), h) := by
  have := hk0 c.1
  intro r
  induction r with
  | zero =>
    intro i n o e hn ho
    obtain ⟨n, rfl, _⟩ := fuel hn
    obtain ⟨j, rfl, hj⟩ := ho
    rw [X11_landing_l27, rh0 c]
    simp (disch := omega) only [zn2, zn3, zn4, zn5, zn6, zn7, zn8, zn9, zn10, zn11, zn12, zn13, zn14, zn15, zn16, zn17, zn18, zn19, zn20, zn21, zn24, zn29, zn30, zn32, zn40, zn48, zn49, zn54, zn57, zn59, zn60, zn63, zn64, zn81, zn97, zn99, zn122, zn127, zn600, zn610, zn738, zn900, zn934, zn999, zn3736, zn999999, zn99999999, nI_leI, nI_ltI, nI_eq, nI_clamp, zi_lt0, zi_le0, zi_0lt, zi_0le, zi_eq0, zi_e0, zi_eq1, zi_lt1, zi_1le, zi_m1, zi_1m, nI_1, false_or, or_false, if_pos, if_neg, nz_0, nz_1, nB_0, nB_n0, nB_1, nz_nB, bd1_some, bd2_some, sq_eq, ite_not, if_true, if_false, true_and, and_true, false_and, and_false, not_true_eq_false, not_false_eq_true, true_or, or_true, zl, oI, r_cnt c hN]
    by_cases z : v2 = 0
    · rw [if_pos z, if_pos z]
    · rw [if_neg z, if_neg z]
  | succ r ih =>
    intro i n o e hn ho
    obtain ⟨n, rfl, _⟩ := fuel hn
    obtain ⟨j, rfl, hj⟩ := ho
    rw [X11_landing_l27, rh0 c]
    simp (disch := omega) only [zn2, zn3, zn4, zn5, zn6, zn7, zn8, zn9, zn10, zn11, zn12, zn13, zn14, zn15, zn16, zn17, zn18, zn19, zn20, zn21, zn24, zn29, zn30, zn32, zn40, zn48, zn49, zn54, zn57, zn59, zn60, zn63, zn64, zn81, zn97, zn99, zn122, zn127, zn600, zn610, zn738, zn900, zn934, zn999, zn3736, zn999999, zn99999999, nI_leI, nI_ltI, nI_eq, nI_clamp, zi_lt0, zi_le0, zi_0lt, zi_0le, zi_eq0, zi_e0, zi_eq1, zi_lt1, zi_1le, zi_m1, zi_1m, nI_1, false_or, or_false, if_pos, if_neg, nz_0, nz_1, nB_0, nB_n0, nB_1, nz_nB, bd1_some, bd2_some, sq_eq, ite_not, if_true, if_false, true_and, and_true, false_and, and_false, not_true_eq_false, not_false_eq_true, true_or, or_true, zl, r_cnt c hN, lanS, show oI (some j) = nI j from rfl]
    by_cases y : cntV D (nI i) ≤ cntV D (nI j)
    · simp only [if_pos y]
      exact ih (i + 1) n (some j) (by omega) (by omega) ⟨j, rfl, hj⟩
    · simp only [if_neg y]
      exact ih (i + 1) n (some i) (by omega) (by omega) ⟨i, rfl, by omega⟩
end FL2
theorem q_landing {N : Nat} {h : HS} (I : INV h) (hN : 100 ≤ N) (a b : Int32) : ∃ r h2, X10_landing N h 1 a b = some r ∧ X11_landing N h 237 a b = some (r, h2) ∧ Same h h2 := by
  unfold X10_landing X11_landing
  rcases opn (N := N) I a with ⟨e1, e2⟩ | ⟨p, q, D, e1, hp, c, e2⟩
  · exact ⟨-2, h, by rw [e1]; rfl, by rw [e2 h (Same.refl h)]; rfl, Same.refl h⟩
  · obtain ⟨h2, e3, rh, sm, _⟩ := e2 h (Same.refl h)
    have := hk0 rh.1
    rw [e1, e3, bd1_some, bd2_some, if_neg hp, if_neg (by decide), c_busiest c hN, bd1_some, c_cnt c hN, bd1_some, rh0 rh]
    refine ⟨if b = 0 then oI (zl (lanS D) (D 0) 0 none) else cntV D (oI (zl (lanS D) (D 0) 0 none)), h2, ?_, ?_, sm⟩
    · by_cases z : b = 0
      · rw [if_pos z, if_pos z]
      · rw [if_neg z, if_neg z]
    · by_cases z : D 0 = 0
      · obtain ⟨n, rfl, _⟩ := fuel (show 0 < N by omega)
        rw [if_pos (by rw [z]; rfl), z, X11_landing_l27, rh0 rh, z, if_pos (by decide)]
        simp only [zl, oI, cnt_m1 rh.1]
        by_cases y : b = 0
        · rw [if_pos y, if_pos y]
        · rw [if_neg y, if_neg y, if_true]
      · have e0 : zl (lanS D) (D 0) 0 none = zl (lanS D) (D 0 - 1) 1 (some 0) := by
          rw [show D 0 = (D 0 - 1) + 1 by omega]
          rfl
        rw [if_neg (nI_ne0 (by omega) (by omega)), e0]
        exact r_landing rh hN b (D 0 - 1) 1 N (some 0) (by omega) (by omega) ⟨0, rfl, by omega⟩
theorem mul_cnt (P : Nat → Prop) [DecidablePred P] (x : Int32) : ∀ (r i : Nat) (k : Int32), zl (fun b a => if P b then a + x else a) r i (k * x) = (zl (fun b a => if P b then a + 1 else a) r i k) * x := by
  intro r
  induction r with
  | zero => intro i k; rfl
  | succ r ih =>
    intro i k
    simp only [zl]
    by_cases z : P i
    · rw [if_pos z, if_pos z, ← ih, Int32.add_mul, Int32.one_mul]
    · rw [if_neg z, if_neg z, ih]
theorem q_move {N : Nat} {h : HS} (I : INV h) (hN : 100 ≤ N) (a b d : Int32) : ∃ r h2, X10_move N h 1 a b d = some r ∧ X11_move N h 237 a b d = some (r, h2) ∧ Same h h2 := by
  unfold X10_move X11_move
  rcases opn (N := N) I a with ⟨e1, e2⟩ | ⟨p, q, D, e1, hp, c, e2⟩
  · exact ⟨-999, h, by rw [e1]; rfl, by rw [e2 h (Same.refl h)]; rfl, Same.refl h⟩
  · obtain ⟨h2, e3, rh, sm, _⟩ := e2 h (Same.refl h)
    have := hk0 rh.1
    rw [e1, e3, bd1_some, bd2_some, if_neg hp, if_neg (by decide)]
    rcases i_cases b with z | ⟨f, hf, rfl⟩
    · rw [(c_neg z).1, (r_neg rh z).1]
      exact ⟨-999, h2, rfl, rfl, sm⟩
    rw [c_hasFloor c hf, r_isFloor rh hf, bd1_some, bd1_some]
    by_cases z : f < D 0
    · rw [nB_t z, if_neg (by decide), if_neg (by decide)]
      rcases i_cases d with y | ⟨g, hg, rfl⟩
      · rw [(c_neg y).1, (r_neg rh y).1]
        exact ⟨-999, h2, rfl, rfl, sm⟩
      rw [c_hasFloor c hg, r_isFloor rh hg, bd1_some, bd1_some]
      by_cases y : g < D 0
      · rw [nB_t y, if_neg (by decide), if_neg (by decide), c_from c, bd1_some, c_up c hN (by omega), bd1_some, c_from c, bd1_some, c_up c hN (by omega), bd1_some, c_cnt c hN, bd1_some]
        refine ⟨_, h2, rfl, ?_, sm⟩
        have key : ∀ (r i n : Nat) (x : Int32), i + r = D 1 → r < n → X11_move_l34 N n h2 237 (nI f) (nI g) x (nI i) = some (zl (fun b a => if zsn D b ∧ nI (D (19 + 4 * b)) = nI f then a + (up D g - up D f) else a) r i x, h2) := by
          intro r
          induction r with
          | zero =>
            intro i n x e hn
            obtain ⟨n, rfl, _⟩ := fuel hn
            rw [X11_move_l34, rh1 rh]
            simp (disch := omega) only [zn2, zn3, zn4, zn5, zn6, zn7, zn8, zn9, zn10, zn11, zn12, zn13, zn14, zn15, zn16, zn17, zn18, zn19, zn20, zn21, zn24, zn29, zn30, zn32, zn40, zn48, zn49, zn54, zn57, zn59, zn60, zn63, zn64, zn81, zn97, zn99, zn122, zn127, zn600, zn610, zn738, zn900, zn934, zn999, zn3736, zn999999, zn99999999, nI_leI, nI_ltI, nI_eq, nI_clamp, zi_lt0, zi_le0, zi_0lt, zi_0le, zi_eq0, zi_e0, zi_eq1, zi_lt1, zi_1le, zi_m1, zi_1m, nI_1, false_or, or_false, if_pos, if_neg, nz_0, nz_1, nB_0, nB_n0, nB_1, nz_nB, bd1_some, bd2_some, sq_eq, ite_not, if_true, if_false, true_and, and_true, false_and, and_false, not_true_eq_false, not_false_eq_true, true_or, or_true, zl]
          | succ r ih =>
            intro i n x e hn
            obtain ⟨n, rfl, _⟩ := fuel hn
            have hB := hkB rh.1 (show i < D 1 by omega)
            rw [X11_move_l34, rh1 rh, r_noteOf rh (by omega), r_floorOf rh (by omega), r_upFrom rh hN (show g ≤ D 0 by omega), r_upFrom rh hN (show f ≤ D 0 by omega)]
            by_cases w : D (17 + 4 * i) = 0
            · simp (disch := omega) only [zn2, zn3, zn4, zn5, zn6, zn7, zn8, zn9, zn10, zn11, zn12, zn13, zn14, zn15, zn16, zn17, zn18, zn19, zn20, zn21, zn24, zn29, zn30, zn32, zn40, zn48, zn49, zn54, zn57, zn59, zn60, zn63, zn64, zn81, zn97, zn99, zn122, zn127, zn600, zn610, zn738, zn900, zn934, zn999, zn3736, zn999999, zn99999999, nI_leI, nI_ltI, nI_eq, nI_clamp, zi_lt0, zi_le0, zi_0lt, zi_0le, zi_eq0, zi_e0, zi_eq1, zi_lt1, zi_1le, zi_m1, zi_1m, nI_1, false_or, or_false, if_pos, if_neg, nz_0, nz_1, nB_0, nB_n0, nB_1, nz_nB, bd1_some, bd2_some, sq_eq, ite_not, if_true, if_false, true_and, and_true, false_and, and_false, not_true_eq_false, not_false_eq_true, true_or, or_true, zl, if_neg (show ¬ (zsn D i ∧ nI (D (19 + 4 * i)) = nI f) from fun v => v.1.2 w), Int32.add_zero]
              exact ih (i + 1) n _ (by omega) (by omega)
            · by_cases u : D (19 + 4 * i) = f
              · simp (disch := omega) only [zn2, zn3, zn4, zn5, zn6, zn7, zn8, zn9, zn10, zn11, zn12, zn13, zn14, zn15, zn16, zn17, zn18, zn19, zn20, zn21, zn24, zn29, zn30, zn32, zn40, zn48, zn49, zn54, zn57, zn59, zn60, zn63, zn64, zn81, zn97, zn99, zn122, zn127, zn600, zn610, zn738, zn900, zn934, zn999, zn3736, zn999999, zn99999999, nI_leI, nI_ltI, nI_eq, nI_clamp, zi_lt0, zi_le0, zi_0lt, zi_0le, zi_eq0, zi_e0, zi_eq1, zi_lt1, zi_1le, zi_m1, zi_1m, nI_1, false_or, or_false, if_pos, if_neg, nz_0, nz_1, nB_0, nB_n0, nB_1, nz_nB, bd1_some, bd2_some, sq_eq, ite_not, if_true, if_false, true_and, and_true, false_and, and_false, not_true_eq_false, not_false_eq_true, true_or, or_true, zl, if_pos (show zsn D i ∧ nI (D (19 + 4 * i)) = nI f from ⟨⟨by omega, w⟩, by rw [u]⟩)]
                exact ih (i + 1) n _ (by omega) (by omega)
              · simp (disch := omega) only [zn2, zn3, zn4, zn5, zn6, zn7, zn8, zn9, zn10, zn11, zn12, zn13, zn14, zn15, zn16, zn17, zn18, zn19, zn20, zn21, zn24, zn29, zn30, zn32, zn40, zn48, zn49, zn54, zn57, zn59, zn60, zn63, zn64, zn81, zn97, zn99, zn122, zn127, zn600, zn610, zn738, zn900, zn934, zn999, zn3736, zn999999, zn99999999, nI_leI, nI_ltI, nI_eq, nI_clamp, zi_lt0, zi_le0, zi_0lt, zi_0le, zi_eq0, zi_e0, zi_eq1, zi_lt1, zi_1le, zi_m1, zi_1m, nI_1, false_or, or_false, if_pos, if_neg, nz_0, nz_1, nB_0, nB_n0, nB_1, nz_nB, bd1_some, bd2_some, sq_eq, ite_not, if_true, if_false, true_and, and_true, false_and, and_false, not_true_eq_false, not_false_eq_true, true_or, or_true, zl, if_neg (show ¬ (zsn D i ∧ nI (D (19 + 4 * i)) = nI f) from fun v => u ((nI_eq (by omega) (by omega)).mp v.2)), Int32.add_zero]
                exact ih (i + 1) n _ (by omega) (by omega)
        have e0 := key (D 1) 0 N 0 (by omega) (by omega)
        have e4 := mul_cnt (fun b => zsn D b ∧ nI (D (19 + 4 * b)) = nI f) (up D g - up D f) (D 1) 0 0
        rw [Int32.zero_mul] at e4
        rw [show (0 : Int32) = nI 0 from rfl] at e0 ⊢
        rw [e0]
        exact congrArg (fun z => some (z, h2)) e4
      · rw [nB_f y]
        exact ⟨-999, h2, rfl, rfl, sm⟩
    · rw [nB_f z]
      exact ⟨-999, h2, rfl, rfl, sm⟩
