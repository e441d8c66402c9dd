/-! ===== level 2: the reference's own eyes on a house ===== -/
section RHS
variable {N : Nat} {h : HS} {q : Nat} {D : Nat → Nat}
theorem rh0 (c : RH h q D) : h.1 237 13 = nI (D 0) := c.2.2.2.1
theorem rh1 (c : RH h q D) : h.1 237 14 = nI (D 1) := c.2.2.2.2.1
theorem rh2 (c : RH h q D) : h.1 237 15 = nI (D 2) := c.2.2.2.2.2.1
theorem rhi (c : RH h q D) {i : Nat} (hi : i < 64) : h.1 238 (q + i) = nI (D i) := c.2.2.2.2.2.2 i hi
/-- a place of the reference's row, as a number -/
theorem rix (c : RH h q D) {x : Int32} {i : Nat} (hx : x = nI (q + i)) (hi : i < 64) : (if x < 0 ∨ 3736 ≤ x.toNatClampNeg then none else some (h.1 (237 + 1) x.toNatClampNeg)) = some (nI (D i)) := by
  have := c.2.1
  subst hx
  rw [if_neg (nI_in (by omega) (by decide)), nI_clamp (by omega)]
  exact congrArg some (rhi c hi)
theorem r_rentOf (c : RH h q D) {f : Nat} (hf : f < 6) : X11_rentOf N h 237 (nI f) = some (nI (D (5 + 2 * f))) :=
  rix c (by rw [c.2.2.1]; simp only [zn2, zn3, zn4, zn5, zn6, zn7, zn8, zn9, zn10, zn11, zn12, zn13, zn14, zn15, zn16, zn17, zn18, zn19, zn20, zn21, zn24, zn29, zn30, zn32, zn40, zn48, zn49, zn54, zn57, zn59, zn60, zn63, zn64, zn81, zn97, zn99, zn122, zn127, zn600, zn610, zn738, zn900, zn934, zn999, zn3736, zn999999, zn99999999, nI_add, pk_mul, Nat.add_assoc]) (by omega)
theorem r_peopleOf (c : RH h q D) {f : Nat} (hf : f < 6) : X11_peopleOf N h 237 (nI f) = some (nI (D (6 + 2 * f))) :=
  rix c (by rw [c.2.2.1]; simp only [zn2, zn3, zn4, zn5, zn6, zn7, zn8, zn9, zn10, zn11, zn12, zn13, zn14, zn15, zn16, zn17, zn18, zn19, zn20, zn21, zn24, zn29, zn30, zn32, zn40, zn48, zn49, zn54, zn57, zn59, zn60, zn63, zn64, zn81, zn97, zn99, zn122, zn127, zn600, zn610, zn738, zn900, zn934, zn999, zn3736, zn999999, zn99999999, nI_add, nI_1, pk_mul]; congr 1; omega) (by omega)
theorem r_noteOf (c : RH h q D) {b : Nat} (hb : b < 8) : X11_noteOf N h 237 (nI b) = some (nI (D (17 + 4 * b))) :=
  rix c (by rw [c.2.2.1]; simp only [zn2, zn3, zn4, zn5, zn6, zn7, zn8, zn9, zn10, zn11, zn12, zn13, zn14, zn15, zn16, zn17, zn18, zn19, zn20, zn21, zn24, zn29, zn30, zn32, zn40, zn48, zn49, zn54, zn57, zn59, zn60, zn63, zn64, zn81, zn97, zn99, zn122, zn127, zn600, zn610, zn738, zn900, zn934, zn999, zn3736, zn999999, zn99999999, nI_add, pk_mul, Nat.add_assoc]) (by omega)
theorem r_longOf (c : RH h q D) {b : Nat} (hb : b < 8) : X11_longOf N h 237 (nI b) = some (nI (D (18 + 4 * b))) :=
  rix c (by rw [c.2.2.1]; simp only [zn2, zn3, zn4, zn5, zn6, zn7, zn8, zn9, zn10, zn11, zn12, zn13, zn14, zn15, zn16, zn17, zn18, zn19, zn20, zn21, zn24, zn29, zn30, zn32, zn40, zn48, zn49, zn54, zn57, zn59, zn60, zn63, zn64, zn81, zn97, zn99, zn122, zn127, zn600, zn610, zn738, zn900, zn934, zn999, zn3736, zn999999, zn99999999, nI_add, nI_1, pk_mul]; congr 1; omega) (by omega)
theorem r_floorOf (c : RH h q D) {b : Nat} (hb : b < 8) : X11_floorOf N h 237 (nI b) = some (nI (D (19 + 4 * b))) :=
  rix c (by rw [c.2.2.1]; simp only [zn2, zn3, zn4, zn5, zn6, zn7, zn8, zn9, zn10, zn11, zn12, zn13, zn14, zn15, zn16, zn17, zn18, zn19, zn20, zn21, zn24, zn29, zn30, zn32, zn40, zn48, zn49, zn54, zn57, zn59, zn60, zn63, zn64, zn81, zn97, zn99, zn122, zn127, zn600, zn610, zn738, zn900, zn934, zn999, zn3736, zn999999, zn99999999, nI_add, nI_1, pk_mul]; congr 1; omega) (by omega)
theorem r_riskOf (c : RH h q D) {b : Nat} (hb : b < D 1) : X11_riskOf N h 237 (nI b) = some (nI (if D (17 + 4 * b) = 0 then 0 else D (20 + 4 * b))) := by
  have := hk0 c.1
  have := hkB c.1 hb
  unfold X11_riskOf
  rw [r_noteOf c (by omega), bd1_some]
  simp (disch := omega) only [zi_eq0]
  by_cases z : D (17 + 4 * b) = 0
  · rw [if_pos z, if_pos z]; rfl
  · rw [if_neg z, if_neg z]
    exact rix c (by rw [c.2.2.1]; simp only [zn2, zn3, zn4, zn5, zn6, zn7, zn8, zn9, zn10, zn11, zn12, zn13, zn14, zn15, zn16, zn17, zn18, zn19, zn20, zn21, zn24, zn29, zn30, zn32, zn40, zn48, zn49, zn54, zn57, zn59, zn60, zn63, zn64, zn81, zn97, zn99, zn122, zn127, zn600, zn610, zn738, zn900, zn934, zn999, zn3736, zn999999, zn99999999, nI_add, nI_1, pk_mul]; congr 1; omega) (by omega)
theorem r_breathOf (c : RH h q D) {s : Nat} (hs : s < 5) : X11_breathOf N h 237 (nI s) = some (nI (D (51 + 3 * s))) :=
  rix c (by rw [c.2.2.1]; simp only [zn2, zn3, zn4, zn5, zn6, zn7, zn8, zn9, zn10, zn11, zn12, zn13, zn14, zn15, zn16, zn17, zn18, zn19, zn20, zn21, zn24, zn29, zn30, zn32, zn40, zn48, zn49, zn54, zn57, zn59, zn60, zn63, zn64, zn81, zn97, zn99, zn122, zn127, zn600, zn610, zn738, zn900, zn934, zn999, zn3736, zn999999, zn99999999, nI_add, nI_1, pk_mul]; congr 1; omega) (by omega)
theorem r_isIn (x a b : Int32) : X11_isIn N h x a b = some (nB (a ≤ x ∧ x ≤ b)) := by
  unfold X11_isIn
  by_cases z : x < a
  · rw [if_pos z, nB_f (fun y => by
      have := Int32.le_iff_toInt_le.mp y.1
      have := Int32.lt_iff_toInt_lt.mp z
      omega)]; rfl
  · have za : a ≤ x := by
      have : ¬ x.toInt < a.toInt := fun y => z (Int32.lt_iff_toInt_lt.mpr y)
      exact Int32.le_iff_toInt_le.mpr (by omega)
    rw [if_neg z]
    by_cases y : b < x
    · rw [if_pos y, nB_f (fun w => by
        have := Int32.le_iff_toInt_le.mp w.2
        have := Int32.lt_iff_toInt_lt.mp y
        omega)]; rfl
    · have : ¬ b.toInt < x.toInt := fun z => y (Int32.lt_iff_toInt_lt.mpr z)
      rw [if_neg y, nB_t ⟨za, Int32.le_iff_toInt_le.mpr (by omega)⟩]; rfl
theorem r_reaches (c : RH h q D) {s : Nat} (hs : s < 5) (x : Int32) (k : Int32) : X11_reaches N h 237 (nI s) x k = some (nB (nI (D (49 + 3 * s)) ≤ x ∧ x ≤ nI (D (50 + 3 * s)) - k)) := by
  have := c.2.1
  unfold X11_reaches
  have e1 : ((h.1 237 12) + 49) + 3 * nI s = nI (q + (49 + 3 * s)) := by rw [c.2.2.1]; simp only [zn2, zn3, zn4, zn5, zn6, zn7, zn8, zn9, zn10, zn11, zn12, zn13, zn14, zn15, zn16, zn17, zn18, zn19, zn20, zn21, zn24, zn29, zn30, zn32, zn40, zn48, zn49, zn54, zn57, zn59, zn60, zn63, zn64, zn81, zn97, zn99, zn122, zn127, zn600, zn610, zn738, zn900, zn934, zn999, zn3736, zn999999, zn99999999, nI_add, nI_1, pk_mul]; congr 1; omega
  have e2 : (((h.1 237 12) + 49) + 1) + 3 * nI s = nI (q + (50 + 3 * s)) := by rw [c.2.2.1]; simp only [zn2, zn3, zn4, zn5, zn6, zn7, zn8, zn9, zn10, zn11, zn12, zn13, zn14, zn15, zn16, zn17, zn18, zn19, zn20, zn21, zn24, zn29, zn30, zn32, zn40, zn48, zn49, zn54, zn57, zn59, zn60, zn63, zn64, zn81, zn97, zn99, zn122, zn127, zn600, zn610, zn738, zn900, zn934, zn999, zn3736, zn999999, zn99999999, nI_add, nI_1, pk_mul]; congr 1; omega
  rw [e1, e2, if_neg (nI_in (by omega) (by decide)), if_neg (nI_in (by omega) (by decide)), nI_clamp (by omega), nI_clamp (by omega), rhi c (by omega), rhi c (by omega), r_isIn, bd1_some, nz_nB]
theorem r_reachesN (c : RH h q D) {s n k : Nat} (hs : s < D 2) (hn : n < 2 ^ 29) (hk : k < 2 ^ 29) : X11_reaches N h 237 (nI s) (nI n) (nI k) = some (nB (zre D s n k)) := by
  have := hk0 c.1
  have := hkS c.1 hs
  rw [r_reaches c (by omega)]
  congr 1
  apply nB_eq
  rw [nI_leI (by omega) (by omega), Int32.le_iff_toInt_le, pk_sub_toInt (by omega) (by omega), nI_toInt (by omega)]
  omega
/-- 0 .. n - 1, told by isIn -/
theorem in0 {v : Int32} {n : Nat} (hn : n < 2 ^ 30) : (0 ≤ v ∧ v ≤ nI n - 1) ↔ ∃ j, j < n ∧ v = nI j := by
  have e : (nI n - 1).toInt = (n : Int) - 1 := by
    have := pk_sub_toInt (a := n) (b := 1) hn (by decide)
    exact this
  have z0 : (0 : Int32).toInt = 0 := by decide
  rw [Int32.le_iff_toInt_le, Int32.le_iff_toInt_le, e, z0]
  constructor
  · rintro ⟨a, b⟩
    refine ⟨v.toInt.toNat, by omega, Int32.toInt_inj.mp ?_⟩
    rw [nI_toInt (by omega)]
    omega
  · rintro ⟨j, hj, rfl⟩
    rw [nI_toInt (by omega)]
    omega
theorem inN {j n : Nat} (hj : j < 2 ^ 31) (hn : n < 2 ^ 30) : (0 ≤ nI j ∧ nI j ≤ nI n - 1) ↔ j < n := by
  rw [in0 hn]
  constructor
  · rintro ⟨i, hi, e⟩
    rw [nI_eq hj (by omega)] at e
    omega
  · intro z
    exact ⟨j, z, rfl⟩
theorem r_isFloor (c : RH h q D) {j : Nat} (hj : j < 2 ^ 31) : X11_isFloor N h 237 (nI j) = some (nB (j < D 0)) := by
  have := hk0 c.1
  unfold X11_isFloor
  rw [r_isIn, bd1_some, nz_nB, rh0 c]
  exact congrArg some (nB_eq (inN hj (by omega)))
theorem r_isBar (c : RH h q D) {j : Nat} (hj : j < 2 ^ 31) : X11_isBar N h 237 (nI j) = some (nB (j < D 1)) := by
  have := hk0 c.1
  unfold X11_isBar
  rw [r_isIn, bd1_some, nz_nB, rh1 c]
  exact congrArg some (nB_eq (inN hj (by omega)))
theorem r_isSinger (c : RH h q D) {j : Nat} (hj : j < 2 ^ 31) : X11_isSinger N h 237 (nI j) = some (nB (j < D 2)) := by
  have := hk0 c.1
  unfold X11_isSinger
  rw [r_isIn, bd1_some, nz_nB, rh2 c]
  exact congrArg some (nB_eq (inN hj (by omega)))
theorem inneg {v w : Int32} (hv : v < 0) : nB (0 ≤ v ∧ v ≤ w) = 0 := nB_f (fun z => by
  have a := Int32.le_iff_toInt_le.mp z.1
  have b := Int32.lt_iff_toInt_lt.mp hv
  omega)
theorem r_neg (c : RH h q D) {v : Int32} (hv : v < 0) : X11_isFloor N h 237 v = some 0 ∧ X11_isBar N h 237 v = some 0 ∧ X11_isSinger N h 237 v = some 0 := by
  unfold X11_isFloor X11_isBar X11_isSinger
  rw [r_isIn, r_isIn, r_isIn, inneg hv, inneg hv, inneg hv]
  exact ⟨rfl, rfl, rfl⟩
theorem r_peopleIn (c : RH h q D) (hN : 100 ≤ N) (v : Int32) : X11_peopleIn N h 237 v = some (zl (fun f a => a + ((v >>> (nI f &&& 31)) &&& 1) * nI (D (6 + 2 * f))) (D 0) 0 0) := by
  have := hk0 c.1
  have key : ∀ (r i n : Nat) (a : Int32), i + r = D 0 → r < n → X11_peopleIn_l4 N h n 237 v a (nI i) = some (zl (fun f a => a + ((v >>> (nI f &&& 31)) &&& 1) * nI (D (6 + 2 * f))) r i a) := by
    intro r
    induction r with
    | zero =>
      intro i n a e hn
      obtain ⟨n, rfl, _⟩ := fuel hn
      rw [X11_peopleIn_l4, rh0 c]
      simp (disch := omega) only [zn2, zn3, zn4, zn5, zn6, zn7, zn8, zn9, zn10, zn11, zn12, zn13, zn14, zn15, zn16, zn17, zn18, zn19, zn20, zn21, zn24, zn29, zn30, zn32, zn40, zn48, zn49, zn54, zn57, zn59, zn60, zn63, zn64, zn81, zn97, zn99, zn122, zn127, zn600, zn610, zn738, zn900, zn934, zn999, zn3736, zn999999, zn99999999, nI_leI, nI_ltI, nI_eq, nI_clamp, zi_lt0, zi_le0, zi_0lt, zi_0le, zi_eq0, zi_e0, zi_eq1, zi_lt1, zi_1le, zi_m1, zi_1m, nI_1, false_or, or_false, if_pos, if_neg, nz_0, nz_1, nB_0, nB_n0, nB_1, nz_nB, bd1_some, bd2_some, sq_eq, ite_not, if_true, if_false, true_and, and_true, false_and, and_false, not_true_eq_false, not_false_eq_true, true_or, or_true, zl]
    | succ r ih =>
      intro i n a e hn
      obtain ⟨n, rfl, _⟩ := fuel hn
      rw [X11_peopleIn_l4, rh0 c]
      simp (disch := omega) only [zn2, zn3, zn4, zn5, zn6, zn7, zn8, zn9, zn10, zn11, zn12, zn13, zn14, zn15, zn16, zn17, zn18, zn19, zn20, zn21, zn24, zn29, zn30, zn32, zn40, zn48, zn49, zn54, zn57, zn59, zn60, zn63, zn64, zn81, zn97, zn99, zn122, zn127, zn600, zn610, zn738, zn900, zn934, zn999, zn3736, zn999999, zn99999999, nI_leI, nI_ltI, nI_eq, nI_clamp, zi_lt0, zi_le0, zi_0lt, zi_0le, zi_eq0, zi_e0, zi_eq1, zi_lt1, zi_1le, zi_m1, zi_1m, nI_1, false_or, or_false, if_pos, if_neg, nz_0, nz_1, nB_0, nB_n0, nB_1, nz_nB, bd1_some, bd2_some, sq_eq, ite_not, if_true, if_false, true_and, and_true, false_and, and_false, not_true_eq_false, not_false_eq_true, true_or, or_true, zl, r_peopleOf c]
      exact ih (i + 1) n _ (by omega) (by omega)
  exact key (D 0) 0 N 0 (by omega) (by omega)
theorem r_upFrom (c : RH h q D) (hN : 100 ≤ N) {g : Nat} (hg : g ≤ D 0) : X11_upFrom N h 237 (nI g) = some (zl (fun f a => a + nI (D (6 + 2 * f))) (D 0 - g) g 0) := by
  have := hk0 c.1
  have key : ∀ (r i n : Nat) (a : Int32), i + r = D 0 → r < n → X11_upFrom_l4 N h n 237 a (nI i) = some (zl (fun f a => a + nI (D (6 + 2 * f))) r i a) := by
    intro r
    induction r with
    | zero =>
      intro i n a e hn
      obtain ⟨n, rfl, _⟩ := fuel hn
      rw [X11_upFrom_l4, rh0 c]
      simp (disch := omega) only [zn2, zn3, zn4, zn5, zn6, zn7, zn8, zn9, zn10, zn11, zn12, zn13, zn14, zn15, zn16, zn17, zn18, zn19, zn20, zn21, zn24, zn29, zn30, zn32, zn40, zn48, zn49, zn54, zn57, zn59, zn60, zn63, zn64, zn81, zn97, zn99, zn122, zn127, zn600, zn610, zn738, zn900, zn934, zn999, zn3736, zn999999, zn99999999, nI_leI, nI_ltI, nI_eq, nI_clamp, zi_lt0, zi_le0, zi_0lt, zi_0le, zi_eq0, zi_e0, zi_eq1, zi_lt1, zi_1le, zi_m1, zi_1m, nI_1, false_or, or_false, if_pos, if_neg, nz_0, nz_1, nB_0, nB_n0, nB_1, nz_nB, bd1_some, bd2_some, sq_eq, ite_not, if_true, if_false, true_and, and_true, false_and, and_false, not_true_eq_false, not_false_eq_true, true_or, or_true, zl]
    | succ r ih =>
      intro i n a e hn
      obtain ⟨n, rfl, _⟩ := fuel hn
      rw [X11_upFrom_l4, rh0 c]
      simp (disch := omega) only [zn2, zn3, zn4, zn5, zn6, zn7, zn8, zn9, zn10, zn11, zn12, zn13, zn14, zn15, zn16, zn17, zn18, zn19, zn20, zn21, zn24, zn29, zn30, zn32, zn40, zn48, zn49, zn54, zn57, zn59, zn60, zn63, zn64, zn81, zn97, zn99, zn122, zn127, zn600, zn610, zn738, zn900, zn934, zn999, zn3736, zn999999, zn99999999, nI_leI, nI_ltI, nI_eq, nI_clamp, zi_lt0, zi_le0, zi_0lt, zi_0le, zi_eq0, zi_e0, zi_eq1, zi_lt1, zi_1le, zi_m1, zi_1m, nI_1, false_or, or_false, if_pos, if_neg, nz_0, nz_1, nB_0, nB_n0, nB_1, nz_nB, bd1_some, bd2_some, sq_eq, ite_not, if_true, if_false, true_and, and_true, false_and, and_false, not_true_eq_false, not_false_eq_true, true_or, or_true, zl, r_peopleOf c]
      exact ih (i + 1) n _ (by omega) (by omega)
  exact key (D 0 - g) g N 0 (by omega) (by omega)
theorem r_rentsOf (c : RH h q D) (hN : 100 ≤ N) : X11_rentsOf N h 237 = some (zl (fun f a => a + nI (D (5 + 2 * f))) (D 0) 0 0) := by
  have := hk0 c.1
  have key : ∀ (r i n : Nat) (a : Int32), i + r = D 0 → r < n → X11_rentsOf_l4 N h n 237 a (nI i) = some (zl (fun f a => a + nI (D (5 + 2 * f))) r i a) := by
    intro r
    induction r with
    | zero =>
      intro i n a e hn
      obtain ⟨n, rfl, _⟩ := fuel hn
      rw [X11_rentsOf_l4, rh0 c]
      simp (disch := omega) only [zn2, zn3, zn4, zn5, zn6, zn7, zn8, zn9, zn10, zn11, zn12, zn13, zn14, zn15, zn16, zn17, zn18, zn19, zn20, zn21, zn24, zn29, zn30, zn32, zn40, zn48, zn49, zn54, zn57, zn59, zn60, zn63, zn64, zn81, zn97, zn99, zn122, zn127, zn600, zn610, zn738, zn900, zn934, zn999, zn3736, zn999999, zn99999999, nI_leI, nI_ltI, nI_eq, nI_clamp, zi_lt0, zi_le0, zi_0lt, zi_0le, zi_eq0, zi_e0, zi_eq1, zi_lt1, zi_1le, zi_m1, zi_1m, nI_1, false_or, or_false, if_pos, if_neg, nz_0, nz_1, nB_0, nB_n0, nB_1, nz_nB, bd1_some, bd2_some, sq_eq, ite_not, if_true, if_false, true_and, and_true, false_and, and_false, not_true_eq_false, not_false_eq_true, true_or, or_true, zl]
    | succ r ih =>
      intro i n a e hn
      obtain ⟨n, rfl, _⟩ := fuel hn
      rw [X11_rentsOf_l4, rh0 c]
      simp (disch := omega) only [zn2, zn3, zn4, zn5, zn6, zn7, zn8, zn9, zn10, zn11, zn12, zn13, zn14, zn15, zn16, zn17, zn18, zn19, zn20, zn21, zn24, zn29, zn30, zn32, zn40, zn48, zn49, zn54, zn57, zn59, zn60, zn63, zn64, zn81, zn97, zn99, zn122, zn127, zn600, zn610, zn738, zn900, zn934, zn999, zn3736, zn999999, zn99999999, nI_leI, nI_ltI, nI_eq, nI_clamp, zi_lt0, zi_le0, zi_0lt, zi_0le, zi_eq0, zi_e0, zi_eq1, zi_lt1, zi_1le, zi_m1, zi_1m, nI_1, false_or, or_false, if_pos, if_neg, nz_0, nz_1, nB_0, nB_n0, nB_1, nz_nB, bd1_some, bd2_some, sq_eq, ite_not, if_true, if_false, true_and, and_true, false_and, and_false, not_true_eq_false, not_false_eq_true, true_or, or_true, zl, r_rentOf c]
      exact ih (i + 1) n _ (by omega) (by omega)
  exact key (D 0) 0 N 0 (by omega) (by omega)
theorem r_barsOn (c : RH h q D) (hN : 100 ≤ N) (v : Int32) : X11_barsOn N h 237 v = some (zl (fun b a => if zsn D b ∧ nI (D (19 + 4 * b)) = v then a + 1 else a) (D 1) 0 0) := by
  have := hk0 c.1
  have key : ∀ (r i n : Nat) (a : Int32), i + r = D 1 → r < n → X11_barsOn_l4 N h n 237 v a (nI i) = some (zl (fun b a => if zsn D b ∧ nI (D (19 + 4 * b)) = v then a + 1 else a) r i a) := by
    intro r
    induction r with
    | zero =>
      intro i n a e hn
      obtain ⟨n, rfl, _⟩ := fuel hn
      rw [X11_barsOn_l4, rh1 c]
      simp (disch := omega) only [zn2, zn3, zn4, zn5, zn6, zn7, zn8, zn9, zn10, zn11, zn12, zn13, zn14, zn15, zn16, zn17, zn18, zn19, zn20, zn21, zn24, zn29, zn30, zn32, zn40, zn48, zn49, zn54, zn57, zn59, zn60, zn63, zn64, zn81, zn97, zn99, zn122, zn127, zn600, zn610, zn738, zn900, zn934, zn999, zn3736, zn999999, zn99999999, nI_leI, nI_ltI, nI_eq, nI_clamp, zi_lt0, zi_le0, zi_0lt, zi_0le, zi_eq0, zi_e0, zi_eq1, zi_lt1, zi_1le, zi_m1, zi_1m, nI_1, false_or, or_false, if_pos, if_neg, nz_0, nz_1, nB_0, nB_n0, nB_1, nz_nB, bd1_some, bd2_some, sq_eq, ite_not, if_true, if_false, true_and, and_true, false_and, and_false, not_true_eq_false, not_false_eq_true, true_or, or_true, zl]
    | succ r ih =>
      intro i n a e hn
      obtain ⟨n, rfl, _⟩ := fuel hn
      have hn' := hkB c.1 (show i < D 1 by omega)
      rw [X11_barsOn_l4, rh1 c]
      simp (disch := omega) only [zn2, zn3, zn4, zn5, zn6, zn7, zn8, zn9, zn10, zn11, zn12, zn13, zn14, zn15, zn16, zn17, zn18, zn19, zn20, zn21, zn24, zn29, zn30, zn32, zn40, zn48, zn49, zn54, zn57, zn59, zn60, zn63, zn64, zn81, zn97, zn99, zn122, zn127, zn600, zn610, zn738, zn900, zn934, zn999, zn3736, zn999999, zn99999999, nI_leI, nI_ltI, nI_eq, nI_clamp, zi_lt0, zi_le0, zi_0lt, zi_0le, zi_eq0, zi_e0, zi_eq1, zi_lt1, zi_1le, zi_m1, zi_1m, nI_1, false_or, or_false, if_pos, if_neg, nz_0, nz_1, nB_0, nB_n0, nB_1, nz_nB, bd1_some, bd2_some, sq_eq, ite_not, if_true, if_false, true_and, and_true, false_and, and_false, not_true_eq_false, not_false_eq_true, true_or, or_true, zl, r_noteOf c, r_floorOf c, Int32.add_zero]
      by_cases z : D (17 + 4 * i) = 0
      · have hz : ¬ (zsn D i ∧ nI (D (19 + 4 * i)) = v) := fun y => y.1.2 z
        rw [if_pos z, if_neg hz]
        exact ih (i + 1) n _ (by omega) (by omega)
      · rw [if_neg z]
        by_cases y : nI (D (19 + 4 * i)) = v
        · rw [if_pos y, if_pos ⟨⟨by omega, z⟩, y⟩]
          exact ih (i + 1) n _ (by omega) (by omega)
        · rw [if_neg y, if_neg (fun w => y w.2)]
          exact ih (i + 1) n _ (by omega) (by omega)
  exact key (D 1) 0 N 0 (by omega) (by omega)
end RHS
