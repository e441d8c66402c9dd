/-! ===== level 2: bits (rows nx_or, nx_and, s_l begin as the kit's) ===== -/
theorem nx_or (a b : Nat) : nI a ||| nI b = nI (a ||| b) := by
  apply Int32.toBitVec_inj.1
  show BitVec.ofNat 32 a ||| BitVec.ofNat 32 b = BitVec.ofNat 32 (a ||| b)
  apply BitVec.eq_of_getLsbD_eq
  intro i hi
  simp [hi]
theorem nx_and (a b : Nat) : nI a &&& nI b = nI (a &&& b) := by
  apply Int32.toBitVec_inj.1
  show BitVec.ofNat 32 a &&& BitVec.ofNat 32 b = BitVec.ofNat 32 (a &&& b)
  apply BitVec.eq_of_getLsbD_eq
  intro i hi
  simp [hi]
theorem s_l : ∀ n, n < 32 → ((nI n &&& 31).toBitVec.smod 32).toNat = n := by decide +kernel
/-- the bit i of a number -/
theorem bi_e {m i : Nat} (hm : m < 2 ^ 31) (hi : i < 32) : (nI m >>> (nI i &&& 31)) &&& 1 = nI (m / 2 ^ i % 2) := by
  rw [pk_shrN hm _ i (s_l i hi)]
  have : m / 2 ^ i ≤ m := Nat.div_le_self _ _
  rw [pk_andN (by omega) 1 (by decide)]
theorem tb_e (m i : Nat) : m.testBit i = decide (m / 2 ^ i % 2 = 1) := Nat.testBit_eq_decide_div_mod_eq
theorem bi_n {m i : Nat} (hm : m < 2 ^ 31) (hi : i < 32) : (nI m >>> (nI i &&& 31)) &&& 1 = nB (m.testBit i = true) := by
  rw [bi_e hm hi, tb_e]
  have : m / 2 ^ i % 2 < 2 := Nat.mod_lt _ (by decide)
  by_cases z : m / 2 ^ i % 2 = 1
  · rw [nB_t (by simpa using z), z]; rfl
  · rw [nB_f (by simpa using z), show m / 2 ^ i % 2 = 0 by omega]; rfl
theorem one_shl : ∀ n, n < 31 → (1 : Int32) <<< (nI n &&& 31) = nI (2 ^ n) := by decide +kernel
theorem tb_or2 (v n k : Nat) : (v ||| 2 ^ n).testBit k = (v.testBit k || decide (n = k)) := by
  rw [Nat.testBit_or, Nat.testBit_two_pow]
/-- a loop that gathers bits -/
theorem zor (P : Nat → Prop) [DecidablePred P] : ∀ (r i v k : Nat), (zl (fun j v => if P j then v ||| 2 ^ j else v) r i v).testBit k = (v.testBit k || decide (i ≤ k ∧ k < i + r ∧ P k)) := by
  intro r
  induction r with
  | zero =>
    intro i v k
    simp only [zl]
    rw [decide_eq_false (by omega), Bool.or_false]
  | succ r ih =>
    intro i v k
    simp only [zl]
    rw [ih]
    by_cases e : i = k
    · subst e
      by_cases z : P i
      · rw [if_pos z, tb_or2, decide_eq_true (rfl : i = i), decide_eq_true (show i ≤ i ∧ i < i + (r + 1) ∧ P i from ⟨by omega, by omega, z⟩)]
        simp
      · rw [if_neg z, decide_eq_false (by omega), decide_eq_false (fun w => z w.2.2)]
    · have e2 : (if P i then v ||| 2 ^ i else v).testBit k = v.testBit k := by
        by_cases z : P i
        · rw [if_pos z, tb_or2, decide_eq_false e, Bool.or_false]
        · rw [if_neg z]
      rw [e2]
      congr 1
      apply decide_eq_decide.mpr
      constructor
      · intro w; exact ⟨by omega, by omega, w.2.2⟩
      · intro w; exact ⟨by omega, by omega, w.2.2⟩
theorem or_lt {a n : Nat} (k : Nat) (ha : a < 2 ^ k) (hn : n < k) : a ||| 2 ^ n < 2 ^ k := Nat.or_lt_two_pow ha (Nat.pow_lt_pow_right (by decide) hn)
theorem zor_lt (P : Nat → Prop) [DecidablePred P] (k : Nat) : ∀ (r i v : Nat), i + r ≤ k → v < 2 ^ k → zl (fun j v => if P j then v ||| 2 ^ j else v) r i v < 2 ^ k := by
  intro r
  induction r with
  | zero => intro i v _ h; exact h
  | succ r ih =>
    intro i v h hv
    simp only [zl]
    apply ih
    · omega
    · by_cases z : P i
      · rw [if_pos z]; exact or_lt k hv (by omega)
      · rw [if_neg z]; exact hv
theorem tb_ext {a b : Nat} (h : ∀ i, a.testBit i = b.testBit i) : a = b := Nat.eq_of_testBit_eq h
/-- how many of the lowest ten bits are set -/
def cnt10 (y : Nat) : Nat := zl (fun k a => a + y / 2 ^ k % 2) 10 0 0
theorem cnt10_lt (y : Nat) : cnt10 y ≤ 10 := by
  unfold cnt10
  have := zl_inv (f := fun k a => a + y / 2 ^ k % 2) (fun i a => a ≤ i) 10 0 0 (Nat.le_refl _) (fun j _ _ a h => by
    have : y / 2 ^ j % 2 < 2 := Nat.mod_lt _ (by decide)
    show a + y / 2 ^ j % 2 ≤ j + 1
    omega)
  exact this
theorem bc_dec : ∀ y, y < 1024 → ∀ N : Nat, J6_bitCount_0f7a4 0 hI (nI y) = some (nI (cnt10 y)) := by
  intro y hy _
  exact (by decide +kernel : ∀ y, y < 1024 → J6_bitCount_0f7a4 0 hI (nI y) = some (nI (cnt10 y))) y hy
theorem bc_e {N : Nat} {h : HS} {y : Nat} (hy : y < 1024) : J6_bitCount_0f7a4 N h (nI y) = some (nI (cnt10 y)) := bc_dec y hy 0
theorem r_bitsOf {N : Nat} {h : HS} (hN : 100 ≤ N) {y : Nat} (hy : y < 2 ^ 31) : X11_bitsOf N h (nI y) = some (nI (cnt10 y)) := by
  have key : ∀ (r i n a : Nat), i + r = 10 → r < n → X11_bitsOf_l4 N h n (nI y) (nI a) (nI i) = some (nI (zl (fun k a => a + y / 2 ^ k % 2) r i a)) := by
    intro r
    induction r with
    | zero =>
      intro i n a e hn
      obtain ⟨n, rfl, _⟩ := fuel hn
      rw [X11_bitsOf_l4]
      simp (disch := omega) only [zn2, zn3, zn4, zn5, zn6, zn7, zn8, zn9, zn10, zn11, zn12, zn13, zn14, zn15, zn16, zn17, zn18, zn19, zn20, zn21, zn24, zn29, zn30, zn32, zn40, zn48, zn49, zn54, zn57, zn59, zn60, zn63, zn64, zn81, zn97, zn99, zn122, zn127, zn600, zn610, zn738, zn900, zn934, zn999, zn3736, zn999999, zn99999999, nI_leI, nI_ltI, nI_eq, nI_clamp, zi_lt0, zi_le0, zi_0lt, zi_0le, zi_eq0, zi_e0, zi_eq1, zi_lt1, zi_1le, zi_m1, zi_1m, nI_1, false_or, or_false, if_pos, if_neg, nz_0, nz_1, nB_0, nB_n0, nB_1, nz_nB, bd1_some, bd2_some, sq_eq, ite_not, if_true, if_false, true_and, and_true, false_and, and_false, not_true_eq_false, not_false_eq_true, true_or, or_true, zl]
    | succ r ih =>
      intro i n a e hn
      obtain ⟨n, rfl, _⟩ := fuel hn
      rw [X11_bitsOf_l4, bi_e hy (by omega), nI_add]
      simp (disch := omega) only [zn2, zn3, zn4, zn5, zn6, zn7, zn8, zn9, zn10, zn11, zn12, zn13, zn14, zn15, zn16, zn17, zn18, zn19, zn20, zn21, zn24, zn29, zn30, zn32, zn40, zn48, zn49, zn54, zn57, zn59, zn60, zn63, zn64, zn81, zn97, zn99, zn122, zn127, zn600, zn610, zn738, zn900, zn934, zn999, zn3736, zn999999, zn99999999, nI_leI, nI_ltI, nI_eq, nI_clamp, zi_lt0, zi_le0, zi_0lt, zi_0le, zi_eq0, zi_e0, zi_eq1, zi_lt1, zi_1le, zi_m1, zi_1m, nI_1, false_or, or_false, if_pos, if_neg, nz_0, nz_1, nB_0, nB_n0, nB_1, nz_nB, bd1_some, bd2_some, sq_eq, ite_not, if_true, if_false, true_and, and_true, false_and, and_false, not_true_eq_false, not_false_eq_true, true_or, or_true, zl]
      exact ih (i + 1) n _ (by omega) (by omega)
  exact key 10 0 N 0 (by omega) (by omega)
/-- a mask of the lowest k bits holds a number: it is below 2 ^ k -/
theorem ev_e : ∀ k, k < 6 → ((1 : Int32) <<< (nI k &&& 31)) - 1 = nI (2 ^ k - 1) := by decide +kernel
