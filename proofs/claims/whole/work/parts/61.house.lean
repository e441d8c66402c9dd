/-! ===== level 2: the class's house, method by method ===== -/
section CHS
variable {N : Nat} {h : HS} {p : Nat} {D : Nat → Nat}
theorem c_hasFloor (c : KH h p D) {f : Nat} (hf : f < 2 ^ 31) : X1_hasFloor N h p (nI f) = some (nB (f < D 0)) := by
  have := hk0 c.2.1
  unfold X1_hasFloor
  rw [ch0 c]
  by_cases z : f < D 0
  · rw [nB_t z]; simp (disch := omega) only [zn2, zn3, zn4, zn5, zn6, zn7, zn8, zn9, zn10, zn11, zn12, zn13, zn14, zn15, zn16, zn17, zn18, zn19, zn20, zn21, zn24, zn29, zn30, zn32, zn40, zn48, zn49, zn54, zn57, zn59, zn60, zn63, zn64, zn81, zn97, zn99, zn122, zn127, zn600, zn610, zn738, zn900, zn934, zn999, zn3736, zn999999, zn99999999, nI_leI, nI_ltI, nI_eq, nI_clamp, zi_lt0, zi_le0, zi_0lt, zi_0le, zi_eq0, zi_e0, zi_eq1, zi_lt1, zi_1le, zi_m1, zi_1m, nI_1, false_or, or_false, if_pos, if_neg, nz_0, nz_1, nB_0, nB_n0, nB_1, nz_nB, bd1_some, bd2_some, sq_eq, ite_not, if_true, if_false, true_and, and_true, false_and, and_false, not_true_eq_false, not_false_eq_true, true_or, or_true]
  · rw [nB_f z]; simp (disch := omega) only [zn2, zn3, zn4, zn5, zn6, zn7, zn8, zn9, zn10, zn11, zn12, zn13, zn14, zn15, zn16, zn17, zn18, zn19, zn20, zn21, zn24, zn29, zn30, zn32, zn40, zn48, zn49, zn54, zn57, zn59, zn60, zn63, zn64, zn81, zn97, zn99, zn122, zn127, zn600, zn610, zn738, zn900, zn934, zn999, zn3736, zn999999, zn99999999, nI_leI, nI_ltI, nI_eq, nI_clamp, zi_lt0, zi_le0, zi_0lt, zi_0le, zi_eq0, zi_e0, zi_eq1, zi_lt1, zi_1le, zi_m1, zi_1m, nI_1, false_or, or_false, if_pos, if_neg, nz_0, nz_1, nB_0, nB_n0, nB_1, nz_nB, bd1_some, bd2_some, sq_eq, ite_not, if_true, if_false, true_and, and_true, false_and, and_false, not_true_eq_false, not_false_eq_true, true_or, or_true]
theorem c_hasBar (c : KH h p D) {f : Nat} (hf : f < 2 ^ 31) : X1_hasBar N h p (nI f) = some (nB (f < D 1)) := by
  have := hk0 c.2.1
  unfold X1_hasBar
  rw [ch1 c]
  by_cases z : f < D 1
  · rw [nB_t z]; simp (disch := omega) only [zn2, zn3, zn4, zn5, zn6, zn7, zn8, zn9, zn10, zn11, zn12, zn13, zn14, zn15, zn16, zn17, zn18, zn19, zn20, zn21, zn24, zn29, zn30, zn32, zn40, zn48, zn49, zn54, zn57, zn59, zn60, zn63, zn64, zn81, zn97, zn99, zn122, zn127, zn600, zn610, zn738, zn900, zn934, zn999, zn3736, zn999999, zn99999999, nI_leI, nI_ltI, nI_eq, nI_clamp, zi_lt0, zi_le0, zi_0lt, zi_0le, zi_eq0, zi_e0, zi_eq1, zi_lt1, zi_1le, zi_m1, zi_1m, nI_1, false_or, or_false, if_pos, if_neg, nz_0, nz_1, nB_0, nB_n0, nB_1, nz_nB, bd1_some, bd2_some, sq_eq, ite_not, if_true, if_false, true_and, and_true, false_and, and_false, not_true_eq_false, not_false_eq_true, true_or, or_true]
  · rw [nB_f z]; simp (disch := omega) only [zn2, zn3, zn4, zn5, zn6, zn7, zn8, zn9, zn10, zn11, zn12, zn13, zn14, zn15, zn16, zn17, zn18, zn19, zn20, zn21, zn24, zn29, zn30, zn32, zn40, zn48, zn49, zn54, zn57, zn59, zn60, zn63, zn64, zn81, zn97, zn99, zn122, zn127, zn600, zn610, zn738, zn900, zn934, zn999, zn3736, zn999999, zn99999999, nI_leI, nI_ltI, nI_eq, nI_clamp, zi_lt0, zi_le0, zi_0lt, zi_0le, zi_eq0, zi_e0, zi_eq1, zi_lt1, zi_1le, zi_m1, zi_1m, nI_1, false_or, or_false, if_pos, if_neg, nz_0, nz_1, nB_0, nB_n0, nB_1, nz_nB, bd1_some, bd2_some, sq_eq, ite_not, if_true, if_false, true_and, and_true, false_and, and_false, not_true_eq_false, not_false_eq_true, true_or, or_true]
theorem c_hasSinger (c : KH h p D) {f : Nat} (hf : f < 2 ^ 31) : X1_hasSinger N h p (nI f) = some (nB (f < D 2)) := by
  have := hk0 c.2.1
  unfold X1_hasSinger
  rw [ch2 c]
  by_cases z : f < D 2
  · rw [nB_t z]; simp (disch := omega) only [zn2, zn3, zn4, zn5, zn6, zn7, zn8, zn9, zn10, zn11, zn12, zn13, zn14, zn15, zn16, zn17, zn18, zn19, zn20, zn21, zn24, zn29, zn30, zn32, zn40, zn48, zn49, zn54, zn57, zn59, zn60, zn63, zn64, zn81, zn97, zn99, zn122, zn127, zn600, zn610, zn738, zn900, zn934, zn999, zn3736, zn999999, zn99999999, nI_leI, nI_ltI, nI_eq, nI_clamp, zi_lt0, zi_le0, zi_0lt, zi_0le, zi_eq0, zi_e0, zi_eq1, zi_lt1, zi_1le, zi_m1, zi_1m, nI_1, false_or, or_false, if_pos, if_neg, nz_0, nz_1, nB_0, nB_n0, nB_1, nz_nB, bd1_some, bd2_some, sq_eq, ite_not, if_true, if_false, true_and, and_true, false_and, and_false, not_true_eq_false, not_false_eq_true, true_or, or_true]
  · rw [nB_f z]; simp (disch := omega) only [zn2, zn3, zn4, zn5, zn6, zn7, zn8, zn9, zn10, zn11, zn12, zn13, zn14, zn15, zn16, zn17, zn18, zn19, zn20, zn21, zn24, zn29, zn30, zn32, zn40, zn48, zn49, zn54, zn57, zn59, zn60, zn63, zn64, zn81, zn97, zn99, zn122, zn127, zn600, zn610, zn738, zn900, zn934, zn999, zn3736, zn999999, zn99999999, nI_leI, nI_ltI, nI_eq, nI_clamp, zi_lt0, zi_le0, zi_0lt, zi_0le, zi_eq0, zi_e0, zi_eq1, zi_lt1, zi_1le, zi_m1, zi_1m, nI_1, false_or, or_false, if_pos, if_neg, nz_0, nz_1, nB_0, nB_n0, nB_1, nz_nB, bd1_some, bd2_some, sq_eq, ite_not, if_true, if_false, true_and, and_true, false_and, and_false, not_true_eq_false, not_false_eq_true, true_or, or_true]
theorem c_neg {v : Int32} (hv : v < 0) : X1_hasFloor N h p v = some 0 ∧ X1_hasBar N h p v = some 0 ∧ X1_hasSinger N h p v = some 0 := by
  unfold X1_hasFloor X1_hasBar X1_hasSinger
  rw [if_pos hv, if_pos hv, if_pos hv]
  exact ⟨rfl, rfl, rfl⟩
theorem c_sounds (c : KH h p D) {b : Nat} (hb : b < 2 ^ 31) : X1_sounds N h p (nI b) = some (nB (zsn D b)) := by
  have := hk0 c.2.1
  unfold X1_sounds
  rw [c_hasBar c hb, bd1_some]
  simp only [nB_0]
  by_cases z : b < D 1
  · have hn := hkB c.2.1 z
    rw [if_neg (by omega), if_neg (nI_in (by omega) (by decide)), nI_clamp hb, chNo c z]
    simp (disch := omega) only [zi_eq0]
    by_cases y : D (17 + 4 * b) = 0
    · rw [if_pos y, nB_f (by omega)]; rfl
    · rw [if_neg y, nB_t ⟨z, y⟩]; rfl
  · rw [if_pos z, nB_f (fun q => z q.1)]; rfl
theorem c_reaches (c : KH h p D) {s n : Nat} (hs : s < 2 ^ 31) (hn : n < 2 ^ 29) : X1_reaches N h p (nI s) (nI n) 0 = some (nB (s < D 2 ∧ zre D s n 0)) ∧ X1_reaches N h p (nI s) (nI n) 1 = some (nB (s < D 2 ∧ zre D s n 2)) := by
  have := hk0 c.2.1
  unfold X1_reaches
  rw [ch2 c]
  by_cases z : s < D 2
  · have hn := hkS c.2.1 z
    have e0 : ∀ k : Nat, k < 2 ^ 30 → ((nI (D (50 + 3 * s)) - nI k < nI n) = (D (50 + 3 * s) < n + k)) := by
      intro k hk
      apply propext
      rw [Int32.lt_iff_toInt_lt, pk_sub_toInt (by omega) hk, nI_toInt (by omega)]
      omega
    have e1 := e0 0 (by decide)
    have e2 := e0 2 (by decide)
    rw [nI_0] at e1
    simp (disch := omega) only [nI_clamp, chLo c, chHi c]
    simp (disch := omega) only [zn2, zn3, zn4, zn5, zn6, zn7, zn8, zn9, zn10, zn11, zn12, zn13, zn14, zn15, zn16, zn17, zn18, zn19, zn20, zn21, zn24, zn29, zn30, zn32, zn40, zn48, zn49, zn54, zn57, zn59, zn60, zn63, zn64, zn81, zn97, zn99, zn122, zn127, zn600, zn610, zn738, zn900, zn934, zn999, zn3736, zn999999, zn99999999, nI_leI, nI_ltI, nI_eq, nI_clamp, zi_lt0, zi_le0, zi_0lt, zi_0le, zi_eq0, zi_e0, zi_eq1, zi_lt1, zi_1le, zi_m1, zi_1m, nI_1, false_or, or_false, if_pos, if_neg, nz_0, nz_1, nB_0, nB_n0, nB_1, nz_nB, bd1_some, bd2_some, sq_eq, ite_not, if_true, if_false, true_and, and_true, false_and, and_false, not_true_eq_false, not_false_eq_true, true_or, or_true, e1, e2, show (1 : Int32) = 0 ↔ False by decide, if_true, if_false]
    constructor
    · by_cases y : n < D (49 + 3 * s)
      · rw [if_pos y, nB_f (by omega)]
      · rw [if_neg y]
        by_cases x : D (50 + 3 * s) < n + 0
        · rw [if_pos x, nB_f (by omega)]
        · rw [if_neg x, nB_t (by omega)]
    · by_cases y : n < D (49 + 3 * s)
      · rw [if_pos y, nB_f (by omega)]
      · rw [if_neg y]
        by_cases x : D (50 + 3 * s) < n + 2
        · rw [if_pos x, nB_f (by omega)]
        · rw [if_neg x, nB_t (by omega)]
  · simp (disch := omega) only [zn2, zn3, zn4, zn5, zn6, zn7, zn8, zn9, zn10, zn11, zn12, zn13, zn14, zn15, zn16, zn17, zn18, zn19, zn20, zn21, zn24, zn29, zn30, zn32, zn40, zn48, zn49, zn54, zn57, zn59, zn60, zn63, zn64, zn81, zn97, zn99, zn122, zn127, zn600, zn610, zn738, zn900, zn934, zn999, zn3736, zn999999, zn99999999, nI_leI, nI_ltI, nI_eq, nI_clamp, zi_lt0, zi_le0, zi_0lt, zi_0le, zi_eq0, zi_e0, zi_eq1, zi_lt1, zi_1le, zi_m1, zi_1m, nI_1, false_or, or_false, if_pos, if_neg, nz_0, nz_1, nB_0, nB_n0, nB_1, nz_nB, bd1_some, bd2_some, sq_eq, ite_not, if_true, if_false, true_and, and_true, false_and, and_false, not_true_eq_false, not_false_eq_true, true_or, or_true]
    rw [nB_f (by omega), nB_f (by omega)]
    exact ⟨rfl, rfl⟩
/-- sums over floors by bits -/
theorem c_peopleOf (c : KH h p D) (hN : 100 ≤ N) (v : Int32) : X1_peopleOf N h p v = some (zl (fun f a => a + ((v >>> (nI f &&& 31)) &&& 1) * nI (D (6 + 2 * f))) (D 0) 0 0) := by
  have := hk0 c.2.1
  have key : ∀ (r i n : Nat) (a : Int32), i + r = D 0 → r < n → X1_peopleOf_l4 N h n p v a (nI i) = some (zl (fun f a => a + ((v >>> (nI f &&& 31)) &&& 1) * nI (D (6 + 2 * f))) r i a) := by
    intro r
    induction r with
    | zero =>
      intro i n a e hn
      obtain ⟨n, rfl, _⟩ := fuel hn
      rw [X1_peopleOf_l4, ch0 c]
      simp (disch := omega) only [zn2, zn3, zn4, zn5, zn6, zn7, zn8, zn9, zn10, zn11, zn12, zn13, zn14, zn15, zn16, zn17, zn18, zn19, zn20, zn21, zn24, zn29, zn30, zn32, zn40, zn48, zn49, zn54, zn57, zn59, zn60, zn63, zn64, zn81, zn97, zn99, zn122, zn127, zn600, zn610, zn738, zn900, zn934, zn999, zn3736, zn999999, zn99999999, nI_leI, nI_ltI, nI_eq, nI_clamp, zi_lt0, zi_le0, zi_0lt, zi_0le, zi_eq0, zi_e0, zi_eq1, zi_lt1, zi_1le, zi_m1, zi_1m, nI_1, false_or, or_false, if_pos, if_neg, nz_0, nz_1, nB_0, nB_n0, nB_1, nz_nB, bd1_some, bd2_some, sq_eq, ite_not, if_true, if_false, true_and, and_true, false_and, and_false, not_true_eq_false, not_false_eq_true, true_or, or_true, zl]
    | succ r ih =>
      intro i n a e hn
      obtain ⟨n, rfl, _⟩ := fuel hn
      rw [X1_peopleOf_l4, ch0 c]
      simp (disch := omega) only [zn2, zn3, zn4, zn5, zn6, zn7, zn8, zn9, zn10, zn11, zn12, zn13, zn14, zn15, zn16, zn17, zn18, zn19, zn20, zn21, zn24, zn29, zn30, zn32, zn40, zn48, zn49, zn54, zn57, zn59, zn60, zn63, zn64, zn81, zn97, zn99, zn122, zn127, zn600, zn610, zn738, zn900, zn934, zn999, zn3736, zn999999, zn99999999, nI_leI, nI_ltI, nI_eq, nI_clamp, zi_lt0, zi_le0, zi_0lt, zi_0le, zi_eq0, zi_e0, zi_eq1, zi_lt1, zi_1le, zi_m1, zi_1m, nI_1, false_or, or_false, if_pos, if_neg, nz_0, nz_1, nB_0, nB_n0, nB_1, nz_nB, bd1_some, bd2_some, sq_eq, ite_not, if_true, if_false, true_and, and_true, false_and, and_false, not_true_eq_false, not_false_eq_true, true_or, or_true, zl, chPe c]
      exact ih (i + 1) n _ (by omega) (by omega)
  exact key (D 0) 0 N 0 (by omega) (by omega)
theorem c_rentsOf (c : KH h p D) (hN : 100 ≤ N) (v : Int32) : X1_rentsOf N h p v = some (zl (fun f a => a + ((v >>> (nI f &&& 31)) &&& 1) * nI (D (5 + 2 * f))) (D 0) 0 0) := by
  have := hk0 c.2.1
  have key : ∀ (r i n : Nat) (a : Int32), i + r = D 0 → r < n → X1_rentsOf_l4 N h n p v a (nI i) = some (zl (fun f a => a + ((v >>> (nI f &&& 31)) &&& 1) * nI (D (5 + 2 * f))) r i a) := by
    intro r
    induction r with
    | zero =>
      intro i n a e hn
      obtain ⟨n, rfl, _⟩ := fuel hn
      rw [X1_rentsOf_l4, ch0 c]
      simp (disch := omega) only [zn2, zn3, zn4, zn5, zn6, zn7, zn8, zn9, zn10, zn11, zn12, zn13, zn14, zn15, zn16, zn17, zn18, zn19, zn20, zn21, zn24, zn29, zn30, zn32, zn40, zn48, zn49, zn54, zn57, zn59, zn60, zn63, zn64, zn81, zn97, zn99, zn122, zn127, zn600, zn610, zn738, zn900, zn934, zn999, zn3736, zn999999, zn99999999, nI_leI, nI_ltI, nI_eq, nI_clamp, zi_lt0, zi_le0, zi_0lt, zi_0le, zi_eq0, zi_e0, zi_eq1, zi_lt1, zi_1le, zi_m1, zi_1m, nI_1, false_or, or_false, if_pos, if_neg, nz_0, nz_1, nB_0, nB_n0, nB_1, nz_nB, bd1_some, bd2_some, sq_eq, ite_not, if_true, if_false, true_and, and_true, false_and, and_false, not_true_eq_false, not_false_eq_true, true_or, or_true, zl]
    | succ r ih =>
      intro i n a e hn
      obtain ⟨n, rfl, _⟩ := fuel hn
      rw [X1_rentsOf_l4, ch0 c]
      simp (disch := omega) only [zn2, zn3, zn4, zn5, zn6, zn7, zn8, zn9, zn10, zn11, zn12, zn13, zn14, zn15, zn16, zn17, zn18, zn19, zn20, zn21, zn24, zn29, zn30, zn32, zn40, zn48, zn49, zn54, zn57, zn59, zn60, zn63, zn64, zn81, zn97, zn99, zn122, zn127, zn600, zn610, zn738, zn900, zn934, zn999, zn3736, zn999999, zn99999999, nI_leI, nI_ltI, nI_eq, nI_clamp, zi_lt0, zi_le0, zi_0lt, zi_0le, zi_eq0, zi_e0, zi_eq1, zi_lt1, zi_1le, zi_m1, zi_1m, nI_1, false_or, or_false, if_pos, if_neg, nz_0, nz_1, nB_0, nB_n0, nB_1, nz_nB, bd1_some, bd2_some, sq_eq, ite_not, if_true, if_false, true_and, and_true, false_and, and_false, not_true_eq_false, not_false_eq_true, true_or, or_true, zl, chRe c]
      exact ih (i + 1) n _ (by omega) (by omega)
  exact key (D 0) 0 N 0 (by omega) (by omega)
theorem c_notesOn (c : KH h p D) (hN : 100 ≤ N) (v : Int32) : X1_notesOn N h p v = some (zl (fun b a => if zsn D b ∧ nI (D (19 + 4 * b)) = v then a + 1 else a) 8 0 0) := by
  have := hk0 c.2.1
  have key : ∀ (r i n : Nat) (a : Int32), i + r = 8 → r < n → X1_notesOn_l4 N h n p v a (nI i) = some (zl (fun b a => if zsn D b ∧ nI (D (19 + 4 * b)) = v then a + 1 else a) r i a) := by
    intro r
    induction r with
    | zero =>
      intro i n a e hn
      obtain ⟨n, rfl, _⟩ := fuel hn
      rw [X1_notesOn_l4]
      simp (disch := omega) only [zn2, zn3, zn4, zn5, zn6, zn7, zn8, zn9, zn10, zn11, zn12, zn13, zn14, zn15, zn16, zn17, zn18, zn19, zn20, zn21, zn24, zn29, zn30, zn32, zn40, zn48, zn49, zn54, zn57, zn59, zn60, zn63, zn64, zn81, zn97, zn99, zn122, zn127, zn600, zn610, zn738, zn900, zn934, zn999, zn3736, zn999999, zn99999999, nI_leI, nI_ltI, nI_eq, nI_clamp, zi_lt0, zi_le0, zi_0lt, zi_0le, zi_eq0, zi_e0, zi_eq1, zi_lt1, zi_1le, zi_m1, zi_1m, nI_1, false_or, or_false, if_pos, if_neg, nz_0, nz_1, nB_0, nB_n0, nB_1, nz_nB, bd1_some, bd2_some, sq_eq, ite_not, if_true, if_false, true_and, and_true, false_and, and_false, not_true_eq_false, not_false_eq_true, true_or, or_true, zl]
    | succ r ih =>
      intro i n a e hn
      obtain ⟨n, rfl, _⟩ := fuel hn
      rw [X1_notesOn_l4, c_sounds c (by omega)]
      by_cases z : zsn D i
      · by_cases y : nI (D (19 + 4 * i)) = v
        · simp (disch := omega) only [zn2, zn3, zn4, zn5, zn6, zn7, zn8, zn9, zn10, zn11, zn12, zn13, zn14, zn15, zn16, zn17, zn18, zn19, zn20, zn21, zn24, zn29, zn30, zn32, zn40, zn48, zn49, zn54, zn57, zn59, zn60, zn63, zn64, zn81, zn97, zn99, zn122, zn127, zn600, zn610, zn738, zn900, zn934, zn999, zn3736, zn999999, zn99999999, nI_leI, nI_ltI, nI_eq, nI_clamp, zi_lt0, zi_le0, zi_0lt, zi_0le, zi_eq0, zi_e0, zi_eq1, zi_lt1, zi_1le, zi_m1, zi_1m, nI_1, false_or, or_false, if_pos, if_neg, nz_0, nz_1, nB_0, nB_n0, nB_1, nz_nB, bd1_some, bd2_some, sq_eq, ite_not, if_true, if_false, true_and, and_true, false_and, and_false, not_true_eq_false, not_false_eq_true, true_or, or_true, zl, chGr c z.1, if_pos z, if_pos y, if_pos (And.intro z y)]
          exact ih (i + 1) n _ (by omega) (by omega)
        · simp (disch := omega) only [zn2, zn3, zn4, zn5, zn6, zn7, zn8, zn9, zn10, zn11, zn12, zn13, zn14, zn15, zn16, zn17, zn18, zn19, zn20, zn21, zn24, zn29, zn30, zn32, zn40, zn48, zn49, zn54, zn57, zn59, zn60, zn63, zn64, zn81, zn97, zn99, zn122, zn127, zn600, zn610, zn738, zn900, zn934, zn999, zn3736, zn999999, zn99999999, nI_leI, nI_ltI, nI_eq, nI_clamp, zi_lt0, zi_le0, zi_0lt, zi_0le, zi_eq0, zi_e0, zi_eq1, zi_lt1, zi_1le, zi_m1, zi_1m, nI_1, false_or, or_false, if_pos, if_neg, nz_0, nz_1, nB_0, nB_n0, nB_1, nz_nB, bd1_some, bd2_some, sq_eq, ite_not, if_true, if_false, true_and, and_true, false_and, and_false, not_true_eq_false, not_false_eq_true, true_or, or_true, zl, chGr c z.1, if_pos z, if_neg y, if_neg (show ¬ (zsn D i ∧ nI (D (19 + 4 * i)) = v) from fun w => y w.2)]
          exact ih (i + 1) n _ (by omega) (by omega)
      · simp (disch := omega) only [zn2, zn3, zn4, zn5, zn6, zn7, zn8, zn9, zn10, zn11, zn12, zn13, zn14, zn15, zn16, zn17, zn18, zn19, zn20, zn21, zn24, zn29, zn30, zn32, zn40, zn48, zn49, zn54, zn57, zn59, zn60, zn63, zn64, zn81, zn97, zn99, zn122, zn127, zn600, zn610, zn738, zn900, zn934, zn999, zn3736, zn999999, zn99999999, nI_leI, nI_ltI, nI_eq, nI_clamp, zi_lt0, zi_le0, zi_0lt, zi_0le, zi_eq0, zi_e0, zi_eq1, zi_lt1, zi_1le, zi_m1, zi_1m, nI_1, false_or, or_false, if_pos, if_neg, nz_0, nz_1, nB_0, nB_n0, nB_1, nz_nB, bd1_some, bd2_some, sq_eq, ite_not, if_true, if_false, true_and, and_true, false_and, and_false, not_true_eq_false, not_false_eq_true, true_or, or_true, zl, if_neg z, if_neg (show ¬ (zsn D i ∧ nI (D (19 + 4 * i)) = v) from fun w => z w.1)]
        exact ih (i + 1) n _ (by omega) (by omega)
  exact key 8 0 N 0 (by omega) (by omega)
end CHS
