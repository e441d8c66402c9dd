/-! ===== level 2: tussle: the game ===== -/
abbrev iI (x : Int) : Int32 := Int32.ofInt x
theorem iI_n (n : Nat) : nI n = iI (n : Int) := by
  apply Int32.toBitVec_inj.mp
  show BitVec.ofNat 32 n = BitVec.ofInt 32 (n : Int)
  exact (BitVec.ofInt_natCast 32 n).symm
theorem iI_add (a b : Int) : iI a + iI b = iI (a + b) := (Int32.ofInt_add a b).symm
theorem iI_sub (a b : Int) : iI a - iI b = iI (a - b) := (Int32.ofInt_sub a b).symm
theorem iI_t {a : Int} (h1 : -1000000000 ≤ a) (h2 : a ≤ 1000000000) : (iI a).toInt = a := Int32.toInt_ofInt_of_le (by omega) (by omega)
theorem iI_lt {a b : Int} (h1 : -1000000000 ≤ a) (h2 : a ≤ 1000000000) (h3 : -1000000000 ≤ b) (h4 : b ≤ 1000000000) : (iI a < iI b) ↔ a < b := by
  rw [Int32.lt_iff_toInt_lt, iI_t h1 h2, iI_t h3 h4]
theorem iI_eq {a b : Int} (h1 : -1000000000 ≤ a) (h2 : a ≤ 1000000000) (h3 : -1000000000 ≤ b) (h4 : b ≤ 1000000000) : (iI a = iI b) ↔ a = b := by
  constructor
  · intro e
    have := congrArg Int32.toInt e
    rw [iI_t h1 h2, iI_t h3 h4] at this
    exact this
  · intro e; rw [e]
/-- a skipped bar wakes a floor -/
abbrev wkB (D : Nat → Nat) (sk f : Nat) : Bool := anyB (fun b => sk.testBit b && decide (D (19 + 4 * b) ≤ f)) 8 0
abbrev mayL (D : Nat → Nat) (sk b : Nat) : Bool := decide (zsn D b) && !sk.testBit b
abbrev mayH (D : Nat → Nat) (sk un f : Nat) : Bool := decide (f < D 0) && wkB D sk f && !un.testBit f
/-- the landlord's best of the last r bars (8: he passes): what it is worth, and the bar -/
def dsc (may : Nat → Bool) (v : Nat → Int) : Nat → Int × Nat
  | 0 => (v 8, 8)
  | r + 1 => if may (7 - r) = true then (if v (7 - r) < (dsc may v r).1 then dsc may v r else (v (7 - r), 7 - r)) else dsc may v r
/-- the house's best of the last r floors (6: it passes) -/
def mh (may : Nat → Bool) (v : Nat → Int) : Nat → Int
  | 0 => v 6
  | r + 1 => if may (5 - r) = true then (if v (5 - r) < mh may v r then v (5 - r) else mh may v r) else mh may v r
/-- what r turns are worth -/
def gv (D : Nat → Nat) : Nat → Bool → Nat → Nat → Int
  | 0, _, _, _ => 0
  | r + 1, true, sk, un => (dsc (mayL D sk) (fun b => if b = 8 then gv D r false sk un else (D (18 + 4 * b) : Int) + gv D r false (sk ||| 2 ^ b) un) 8).1
  | r + 1, false, sk, un => mh (mayH D sk un) (fun f => if f = 6 then gv D r true sk un else gv D r true sk (un ||| 2 ^ f) - (D (5 + 2 * f) : Int)) 6
abbrev vL (D : Nat → Nat) (r sk un b : Nat) : Int := if b = 8 then gv D r false sk un else (D (18 + 4 * b) : Int) + gv D r false (sk ||| 2 ^ b) un
abbrev vH (D : Nat → Nat) (r sk un f : Nat) : Int := if f = 6 then gv D r true sk un else gv D r true sk (un ||| 2 ^ f) - (D (5 + 2 * f) : Int)
theorem gv_L (D : Nat → Nat) (r sk un : Nat) : gv D (r + 1) true sk un = (dsc (mayL D sk) (vL D r sk un) 8).1 := by rw [gv]
theorem gv_H (D : Nat → Nat) (r sk un : Nat) : gv D (r + 1) false sk un = mh (mayH D sk un) (vH D r sk un) 6 := by rw [gv]
theorem dsc_in {may : Nat → Bool} {v : Nat → Int} {a b : Int} (h8 : a ≤ v 8 ∧ v 8 ≤ b) (hv : ∀ i, i < 8 → may i = true → a ≤ v i ∧ v i ≤ b) : ∀ r, r ≤ 8 → a ≤ (dsc may v r).1 ∧ (dsc may v r).1 ≤ b := by
  intro r
  induction r with
  | zero => intro _; exact h8
  | succ r ih =>
    intro hr
    have ih' := ih (by omega)
    rw [dsc]
    by_cases z : may (7 - r) = true
    · rw [if_pos z]
      have := hv (7 - r) (by omega) z
      by_cases y : v (7 - r) < (dsc may v r).1
      · rw [if_pos y]; exact ih'
      · rw [if_neg y]; exact this
    · rw [if_neg z]; exact ih'
theorem mh_in {may : Nat → Bool} {v : Nat → Int} {a b : Int} (h6 : a ≤ v 6 ∧ v 6 ≤ b) (hv : ∀ i, i < 6 → may i = true → a ≤ v i ∧ v i ≤ b) : ∀ r, r ≤ 6 → a ≤ mh may v r ∧ mh may v r ≤ b := by
  intro r
  induction r with
  | zero => intro _; exact h6
  | succ r ih =>
    intro hr
    have ih' := ih (by omega)
    rw [mh]
    by_cases z : may (5 - r) = true
    · rw [if_pos z]
      have := hv (5 - r) (by omega) z
      by_cases y : v (5 - r) < mh may v r
      · rw [if_pos y]; exact this
      · rw [if_neg y]; exact ih'
    · rw [if_neg z]; exact ih'
theorem gv_in {D : Nat → Nat} (k : HK D) : ∀ (r : Nat) (e : Bool) (sk un : Nat), -20 * (r : Int) ≤ gv D r e sk un ∧ gv D r e sk un ≤ 20 * (r : Int) := by
  intro r
  induction r with
  | zero => intro e sk un; rw [gv]; omega
  | succ r ih =>
    intro e sk un
    cases e with
    | true =>
      rw [gv_L]
      refine dsc_in ?_ ?_ 8 (by decide)
      · have := ih false sk un
        rw [vL, if_pos rfl]
        push_cast
        omega
      · intro i hi hm
        have hz : zsn D i := by
          simp only [mayL, Bool.and_eq_true, decide_eq_true_iff] at hm
          exact hm.1
        have hB := hkB k hz.1
        have := ih false (sk ||| 2 ^ i) un
        rw [vL, if_neg (by omega)]
        push_cast
        omega
    | false =>
      rw [gv_H]
      refine mh_in ?_ ?_ 6 (by decide)
      · have := ih true sk un
        rw [vH, if_pos rfl]
        push_cast
        omega
      · intro i hi hm
        have hz : i < D 0 := by
          simp only [mayH, Bool.and_eq_true, decide_eq_true_iff] at hm
          exact hm.1.1
        have hF := hkF k hz
        have := ih true sk (un ||| 2 ^ i)
        rw [vH, if_neg (by omega)]
        push_cast
        omega
