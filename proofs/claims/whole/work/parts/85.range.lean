/-! ===== level 2: notes as bits; range, choir, shift, tuned, mutes ===== -/
def anyB (P : Nat → Bool) : Nat → Nat → Bool
  | 0, _ => false
  | r + 1, i => P i || anyB P r (i + 1)
theorem anyB_iff {P : Nat → Bool} : ∀ (r i : Nat), anyB P r i = true ↔ ∃ s, i ≤ s ∧ s < i + r ∧ P s = true := by
  intro r
  induction r with
  | zero => intro i; rw [anyB]; exact ⟨fun h => Bool.noConfusion h, fun ⟨s, h1, h2, _⟩ => by omega⟩
  | succ r ih =>
    intro i
    rw [anyB, Bool.or_eq_true, ih]
    constructor
    · rintro (h | ⟨s, h1, h2, h3⟩)
      · exact ⟨i, by omega, by omega, h⟩
      · exact ⟨s, by omega, by omega, h3⟩
    · rintro ⟨s, h1, h2, h3⟩
      by_cases z : s = i
      · subst z; exact Or.inl h3
      · exact Or.inr ⟨s, by omega, by omega, h3⟩
theorem ofNat_bit (a i : Nat) (hi : i < 32) : (nI a).toBitVec.getLsbD i = a.testBit i := by
  show (BitVec.ofNat 32 a).getLsbD i = _
  rw [BitVec.getLsbD_ofNat]
  simp [hi]
theorem andn0 {a b : Nat} (ha : a < 2 ^ 31) : (nI a &&& (nI b ^^^ (-1)) = 0) ↔ ∀ k, a.testBit k = true → b.testBit k = true := by
  have m1 : ∀ i, i < 32 → (-1 : Int32).toBitVec.getLsbD i = true := by decide +kernel
  constructor
  · intro h k hk
    have hk31 : k < 31 := by
      by_cases z : k < 31
      · exact z
      · rw [Nat.testBit_lt_two_pow (Nat.lt_of_lt_of_le ha (Nat.pow_le_pow_right (n := 2) (by decide) (show 31 ≤ k by omega)))] at hk
        exact Bool.noConfusion hk
    have e := congrArg (fun x : Int32 => x.toBitVec.getLsbD k) h
    simp only [Int32.toBitVec_and, Int32.toBitVec_xor, BitVec.getLsbD_and, BitVec.getLsbD_xor] at e
    rw [ofNat_bit a k (by omega), ofNat_bit b k (by omega), m1 k (by omega), hk] at e
    simp at e
    exact e
  · intro h
    apply Int32.toBitVec_inj.1
    apply BitVec.eq_of_getLsbD_eq
    intro i hi
    rw [Int32.toBitVec_and, Int32.toBitVec_xor, BitVec.getLsbD_and, BitVec.getLsbD_xor, ofNat_bit a i hi, ofNat_bit b i hi, m1 i hi]
    have := h i
    cases ha2 : a.testBit i with
    | false => simp
    | true => rw [ha2] at this; rw [this rfl]; simp
theorem andn_neg {v : Int32} (hv : v < 0) {b : Nat} (hb : b < 2 ^ 31) : ¬ v &&& (nI b ^^^ (-1)) = 0 := by
  intro h
  have m1 : (-1 : Int32).toBitVec.getLsbD 31 = true := by decide
  have e := congrArg (fun x : Int32 => x.toBitVec.getLsbD 31) h
  simp only [Int32.toBitVec_and, Int32.toBitVec_xor, BitVec.getLsbD_and, BitVec.getLsbD_xor] at e
  rw [ofNat_bit b 31 (by decide), m1, Nat.testBit_lt_two_pow hb] at e
  have hm : v.toBitVec.getLsbD 31 = true := by
    have h1 := Int32.lt_iff_toInt_lt.mp hv
    have z0 : (0 : Int32).toInt = 0 := by decide
    rw [z0] at h1
    have h2 : v.toBitVec.toInt < 0 := h1
    have h3 : v.toBitVec.msb = true := by
      by_cases z : v.toBitVec.msb = true
      · exact z
      · exfalso
        have z' : v.toBitVec.msb = false := by simpa using z
        rw [BitVec.toInt_eq_msb_cond, z'] at h2
        simp at h2
        omega
    rw [BitVec.msb_eq_getLsbD_last] at h3
    exact h3
  rw [hm] at e
  simp at e
section RNG
variable {N : Nat} {h : HS} {p q : Nat} {D : Nat → Nat}
abbrev okN (D : Nat → Nat) (w s n : Nat) : Prop := w.testBit s = true ∧ s < D 2 ∧ zre D s n 0
abbrev nIn (D : Nat → Nat) (w s v : Nat) : Nat := zl (fun n v => if okN D w s n then v ||| 2 ^ n else v) 9 1 v
def nO (D : Nat → Nat) (w : Nat) : Nat := zl (nIn D w) 5 0 0
def rB (D : Nat → Nat) (w n : Nat) : Bool := anyB (fun s => w.testBit s && decide (zre D s n 0)) (D 2) 0
theorem rB_iff {w n : Nat} : rB D w n = true ↔ ∃ s, okN D w s n := by
  unfold rB
  rw [anyB_iff]
  constructor
  · rintro ⟨s, _, h2, h3⟩
    simp at h3
    exact ⟨s, h3.1, by omega, h3.2.1, by have := h3.2.2; omega⟩
  · rintro ⟨s, h1, h2, h3⟩
    exact ⟨s, by omega, by omega, by simp [h1]; exact ⟨h3.1, by have := h3.2; omega⟩⟩
theorem nO_bit (k : HK D) (w n : Nat) : (nO D w).testBit n = decide (1 ≤ n ∧ n < 10 ∧ rB D w n = true) := by
  have hk := hk0 k
  have key : ∀ (r s v : Nat), (zl (nIn D w) r s v).testBit n = true ↔ (v.testBit n = true ∨ (1 ≤ n ∧ n < 10 ∧ ∃ t, s ≤ t ∧ t < s + r ∧ okN D w t n)) := by
    intro r
    induction r with
    | zero =>
      intro s v
      simp only [zl]
      exact ⟨fun h => Or.inl h, fun h => h.elim id (fun h => by obtain ⟨_, _, t, h1, h2, _⟩ := h; omega)⟩
    | succ r ih =>
      intro s v
      have ez := zor (fun n => okN D w s n) 9 1 v n
      rw [show zl (nIn D w) (r + 1) s v = zl (nIn D w) r (s + 1) (nIn D w s v) from rfl, ih, show (nIn D w s v).testBit n = _ from ez, Bool.or_eq_true, decide_eq_true_iff]
      constructor
      · rintro ((h0 | ⟨h1, h2, h3⟩) | ⟨h1, h2, t, h3, h4, h5⟩)
        · exact Or.inl h0
        · exact Or.inr ⟨h1, by omega, s, by omega, by omega, h3⟩
        · exact Or.inr ⟨h1, h2, t, by omega, by omega, h5⟩
      · rintro (h0 | ⟨h1, h2, t, h3, h4, h5⟩)
        · exact Or.inl (Or.inl h0)
        · by_cases z : t = s
          · subst z; exact Or.inl (Or.inr ⟨h1, by omega, h5⟩)
          · exact Or.inr ⟨h1, h2, t, by omega, by omega, h5⟩
  unfold nO
  rw [Bool.eq_iff_iff, key, Nat.zero_testBit, decide_eq_true_iff, rB_iff]
  constructor
  · rintro (h0 | ⟨h1, h2, t, _, _, h5⟩)
    · exact Bool.noConfusion h0
    · exact ⟨h1, h2, t, h5⟩
  · rintro ⟨h1, h2, t, h5⟩
    exact Or.inr ⟨h1, h2, t, by omega, by have := h5.2.1; omega, h5⟩
theorem nO_lt (D : Nat → Nat) (w : Nat) : nO D w < 2 ^ 10 := by
  unfold nO
  have := zl_inv (f := nIn D w) (fun _ v => v < 2 ^ 10) 5 0 0 (by decide) (fun s _ _ v hv => zor_lt (fun n => okN D w s n) 10 9 1 v (by omega) hv)
  exact this
theorem c_notesOf (c : KH h p D) (hN : 100 ≤ N) {w : Nat} (hw : w < 2 ^ 31) : X1_notesOf N h p (nI w) = some (nI (nO D w)) := by
  have hk := hk0 c.2.1
  have l12 : ∀ (K4 : Nat → Int32 → Int32 → Int32 → Option Int32) (s v : Nat), s < 5 → X1_notesOf_l12 N h K4 N p (nI w) (nI v) (nI s) 1 = K4 p (nI w) (nI (nIn D w s v)) (nI (s + 1)) := by
    intro K4 s v hs
    have key := lp (F := fun n i (a : Nat) => X1_notesOf_l12 N h K4 n p (nI w) (nI a) (nI s) (nI i)) (f := fun n v => if okN D w s n then v ||| 2 ^ n else v) (g := fun a => K4 p (nI w) (nI a) (nI (s + 1))) (M := 10) (by
      intro n i a hi
      show X1_notesOf_l12 N h K4 (n + 1) p (nI w) (nI a) (nI s) (nI i) = X1_notesOf_l12 N h K4 n p (nI w) (nI (if okN D w s i then a ||| 2 ^ i else a)) (nI s) (nI (i + 1))
      rw [X1_notesOf_l12, if_neg (show ¬ (9 : Int32) < nI i from nI_nlt (a := 9) (by omega) (by decide)), bi_n hw (by omega), (c_reaches c (by omega) (by omega)).1, bd1_some, one_shl _ (by omega), nx_or, nI_1]
      simp only [nB_0]
      by_cases z : w.testBit s = true
      · rw [if_neg (fun v => v z)]
        by_cases y : s < D 2 ∧ zre D s i 0
        · rw [if_neg (fun v => v y), if_pos ⟨z, y.1, y.2⟩]
        · rw [if_pos y, if_neg (fun v => y v.2)]
      · rw [if_pos z, if_neg (fun v => z v.1)]) (by
      intro n a
      show X1_notesOf_l12 N h K4 (n + 1) p (nI w) (nI a) (nI s) (nI 10) = _
      rw [X1_notesOf_l12, if_pos (by decide), nI_1]) 9 1 N v (by omega) (by omega)
    exact key
  have key := lp (F := fun n i (a : Nat) => X1_notesOf_l4 N h n p (nI w) (nI a) (nI i)) (f := nIn D w) (g := fun a => some (nI a)) (M := 5) (by
    intro n i a hi
    show X1_notesOf_l4 N h (n + 1) p (nI w) (nI a) (nI i) = X1_notesOf_l4 N h n p (nI w) (nI (nIn D w i a)) (nI (i + 1))
    rw [X1_notesOf_l4, if_neg (show ¬ (5 : Int32) ≤ nI i from nI_ge (b := 5) hi (by decide)), l12 _ i a hi]) (by
    intro n a
    show X1_notesOf_l4 N h (n + 1) p (nI w) (nI a) (nI 5) = _
    rw [X1_notesOf_l4, if_pos (by decide)]) 5 0 N 0 (by omega) (by omega)
  exact key
/-- any of these reaches a note: in the reference -/
def rX (D : Nat → Nat) (x : Int32) : Bool := anyB (fun s => decide (nI (D (49 + 3 * s)) ≤ x ∧ x ≤ nI (D (50 + 3 * s)) - 0)) (D 2) 0
theorem r_isReached (c : RH h q D) (hN : 100 ≤ N) (x : Int32) : X11_isReached N h 237 x = some (nB (rX D x = true)) := by
  have hk := hk0 c.1
  have key : ∀ (r i fu : Nat) (b : Bool), i + r = D 2 → r < fu → X11_isReached_l4 N h fu 237 x (nB (b = true)) (nI i) = some (nB ((b || anyB (fun s => decide (nI (D (49 + 3 * s)) ≤ x ∧ x ≤ nI (D (50 + 3 * s)) - 0)) r i) = true)) := by
    intro r
    induction r with
    | zero =>
      intro i fu b e hf
      obtain ⟨fu, rfl, _⟩ := fuel hf
      rw [X11_isReached_l4, rh2 c, if_pos (nI_le (by omega) (by omega)), nz_nB]
      simp [anyB]
    | succ r ih =>
      intro i fu b e hf
      obtain ⟨fu, rfl, _⟩ := fuel hf
      have i0 := ih (i + 1) fu false (by omega) (by omega)
      have i1 := ih (i + 1) fu true (by omega) (by omega)
      rw [nB_f (by decide)] at i0
      rw [nB_t rfl] at i1
      rw [X11_isReached_l4, rh2 c, if_neg (nI_ge (by omega) (by omega)), r_reaches c (by omega), bd1_some, nI_1, i0, i1, anyB]
      simp only [nB_0]
      cases b with
      | true => rw [if_neg (by decide)]; simp
      | false =>
        rw [if_pos (by decide)]
        by_cases z : nI (D (49 + 3 * i)) ≤ x ∧ x ≤ nI (D (50 + 3 * i)) - 0
        · rw [if_neg (fun w => w z), decide_eq_true z]; simp
        · rw [if_pos z, decide_eq_false z]; simp
  have := key (D 2) 0 N false (by omega) (by omega)
  rw [nB_f (by decide), Bool.false_or] at this
  exact this
theorem rX_in (k : HK D) {n : Nat} (hn : n < 2 ^ 29) : rX D (nI n) = rB D (EV D) n := by
  have hk := hk0 k
  rw [Bool.eq_iff_iff, rB_iff]
  unfold rX
  rw [anyB_iff]
  constructor
  · rintro ⟨s, _, h2, h3⟩
    have hS := hkS k (show s < D 2 by omega)
    simp only [decide_eq_true_iff] at h3
    refine ⟨s, by rw [ev_bit]; exact decide_eq_true (by omega), by omega, ?_, ?_⟩
    · exact (nI_leI (by omega) (by omega)).mp h3.1
    · rw [Int32.sub_zero] at h3
      have := (nI_leI (by omega) (by omega)).mp h3.2
      omega
  · rintro ⟨s, h1, h2, h3⟩
    have hS := hkS k h2
    refine ⟨s, by omega, by omega, ?_⟩
    simp only [decide_eq_true_iff]
    rw [Int32.sub_zero]
    exact ⟨nI_le h3.1 (by omega), nI_le (by have := h3.2; omega) (by omega)⟩
theorem rX_out (k : HK D) {x : Int32} (hx : x < 1 ∨ 9 < x) : rX D x = false := by
  have hk := hk0 k
  by_cases z : rX D x = true
  · exfalso
    unfold rX at z
    rw [anyB_iff] at z
    obtain ⟨s, _, h2, h3⟩ := z
    have hS := hkS k (show s < D 2 by omega)
    simp only [decide_eq_true_iff] at h3
    rw [Int32.sub_zero, Int32.le_iff_toInt_le, Int32.le_iff_toInt_le, nI_toInt (by omega), nI_toInt (by omega)] at h3
    have z1 : (1 : Int32).toInt = 1 := by decide
    have z9 : (9 : Int32).toInt = 9 := by decide
    rw [Int32.lt_iff_toInt_lt, Int32.lt_iff_toInt_lt, z1, z9] at hx
    omega
  · simpa using z
theorem x_in {x : Int32} (h1 : ¬ x < 1) (h2 : ¬ 9 < x) : ∃ k, 1 ≤ k ∧ k ≤ 9 ∧ x = nI k := by
  have z1 : (1 : Int32).toInt = 1 := by decide
  have z9 : (9 : Int32).toInt = 9 := by decide
  rw [Int32.lt_iff_toInt_lt, z1] at h1
  rw [Int32.lt_iff_toInt_lt, z9] at h2
  refine ⟨x.toInt.toNat, by omega, by omega, Int32.toInt_inj.mp ?_⟩
  rw [nI_toInt (by omega)]
  omega
/-- how many bars are reached if all are shifted -/
abbrev shS (D : Nat → Nat) (d : Int32) (b a : Nat) : Nat := if zsn D b ∧ rX D (nI (D (17 + 4 * b)) + d) = true then a + 1 else a
def shV (D : Nat → Nat) (d : Int32) : Nat := zl (shS D d) (D 1) 0 0
theorem shV_le (k : HK D) (d : Int32) : shV D d ≤ 8 := by
  have hk := hk0 k
  have := zl_inv (f := shS D d) (fun i a => a ≤ i) (D 1) 0 0 (Nat.le_refl _) (fun j _ _ a ha => by
    show shS D d j a ≤ j + 1
    unfold shS
    by_cases z : zsn D j ∧ rX D (nI (D (17 + 4 * j)) + d) = true
    · rw [if_pos z]; omega
    · rw [if_neg z]; omega)
  unfold shV
  omega
theorem c_reachedBy (c : KH h p D) (hN : 100 ≤ N) (d : Int32) : X1_reachedBy N h p d = some (nI (shV D d)) := by
  have hk := hk0 c.2.1
  have he := ev_lt c.2.1
  have hn := nO_lt D (EV D)
  unfold X1_reachedBy
  rw [c_everybody c, bd1_some, c_notesOf c hN (by omega), bd1_some]
  have key := lp (F := fun n i (a : Nat) => X1_reachedBy_l14 N h n p d (nI (nO D (EV D))) (nI a) (nI i)) (f := shS D d) (g := fun a => some (nI a)) (M := 8) (by
    intro n i a hi
    show X1_reachedBy_l14 N h (n + 1) p d (nI (nO D (EV D))) (nI a) (nI i) = X1_reachedBy_l14 N h n p d (nI (nO D (EV D))) (nI (shS D d i a)) (nI (i + 1))
    rw [X1_reachedBy_l14, if_neg (show ¬ (8 : Int32) ≤ nI i from nI_ge (b := 8) hi (by decide)), at_in c.1.2.2.1 (by decide) hi, bd1_some, c_sounds c (by omega), bd1_some, nI_1, nI_1]
    simp only [nB_0]
    by_cases z : zsn D i
    · rw [if_neg (fun w => w z), chNo c z.1]
      by_cases y1 : nI (D (17 + 4 * i)) + d < 1
      · rw [if_pos y1, shS, if_neg (fun w => by rw [rX_out c.2.1 (Or.inl y1)] at w; exact Bool.noConfusion w.2)]
      · rw [if_neg y1]
        by_cases y2 : 9 < nI (D (17 + 4 * i)) + d
        · rw [if_pos y2, shS, if_neg (fun w => by rw [rX_out c.2.1 (Or.inr y2)] at w; exact Bool.noConfusion w.2)]
        · rw [if_neg y2]
          obtain ⟨k, k1, k2, k3⟩ := x_in y1 y2
          rw [shS, k3, bi_n (by omega) (by omega), rX_in c.2.1 (by omega), nO_bit c.2.1]
          simp only [nB_0]
          by_cases w : rB D (EV D) k = true
          · rw [if_neg (fun v => v (decide_eq_true ⟨k1, by omega, w⟩)), if_pos ⟨z, w⟩]
          · rw [if_pos (fun v => w (of_decide_eq_true v).2.2), if_neg (fun v => w v.2)]
    · rw [if_pos z, shS, if_neg (fun w => z w.1)]) (by
    intro n a
    show X1_reachedBy_l14 N h (n + 1) p d (nI (nO D (EV D))) (nI a) (nI 8) = _
    rw [X1_reachedBy_l14, if_pos (by decide)]) 8 0 N 0 (by omega) (by omega)
  rw [show X1_reachedBy_l14 N h N p d (nI (nO D (EV D))) 0 0 = _ from key]
  unfold shV
  rw [zl_cut (r := D 1) (by omega) 0 (fun j h1 h2 a => if_neg (fun z => by have := z.1.1; omega))]
theorem r_shiftedBy (c : RH h q D) (hN : 100 ≤ N) (d : Int32) : X11_shiftedBy N h 237 d = some (nI (shV D d)) := by
  have hk := hk0 c.1
  have key := lp (F := fun n i (a : Nat) => X11_shiftedBy_l4 N h n 237 d (nI a) (nI i)) (f := shS D d) (g := fun a => some (nI a)) (M := D 1) (by
    intro n i a hi
    show X11_shiftedBy_l4 N h (n + 1) 237 d (nI a) (nI i) = X11_shiftedBy_l4 N h n 237 d (nI (shS D d i a)) (nI (i + 1))
    have hB := hkB c.1 hi
    rw [X11_shiftedBy_l4, rh1 c, if_neg (nI_ge hi (by omega)), r_noteOf c (by omega), bd1_some, bd1_some, r_isReached c hN, bd1_some, nI_1, nI_1, Int32.add_zero]
    simp only [nB_0]
    by_cases z : D (17 + 4 * i) = 0
    · rw [if_pos (by rw [z]; decide), shS, if_neg (fun w => w.1.2 z)]
    · rw [if_neg (nI_nle (by omega) (by omega))]
      by_cases y : rX D (nI (D (17 + 4 * i)) + d) = true
      · rw [if_neg (fun w => w y), shS, if_pos ⟨⟨hi, z⟩, y⟩]
      · rw [if_pos y, shS, if_neg (fun w => y w.2)]) (by
    intro n a
    show X11_shiftedBy_l4 N h (n + 1) 237 d (nI a) (nI (D 1)) = _
    rw [X11_shiftedBy_l4, rh1 c, if_pos (nI_le (by omega) (by omega))]) (D 1) 0 N 0 (by omega) (by omega)
  exact key
abbrev muS (D : Nat → Nat) (b v : Nat) : Nat := if zsn D b ∧ rB D (EV D) (D (17 + 4 * b)) = false then v ||| 2 ^ b else v
theorem c_mutes (c : KH h p D) (hN : 100 ≤ N) : X1_mutes N h p = some (nI (zl (muS D) (D 1) 0 0)) := by
  have hk := hk0 c.2.1
  have he := ev_lt c.2.1
  have hn := nO_lt D (EV D)
  unfold X1_mutes
  rw [c_everybody c, bd1_some, c_notesOf c hN (by omega), bd1_some]
  have key := lp (F := fun n i (a : Nat) => X1_mutes_l13 N h n p (nI (nO D (EV D))) (nI a) (nI i)) (f := muS D) (g := fun a => some (nI a)) (M := 8) (by
    intro n i a hi
    show X1_mutes_l13 N h (n + 1) p (nI (nO D (EV D))) (nI a) (nI i) = X1_mutes_l13 N h n p (nI (nO D (EV D))) (nI (muS D i a)) (nI (i + 1))
    rw [X1_mutes_l13, if_neg (show ¬ (8 : Int32) ≤ nI i from nI_ge (b := 8) hi (by decide)), c_sounds c (by omega), bd1_some, nI_1, if_neg (nI_in hi (by decide)), nI_clamp (by omega)]
    simp only [nB_0]
    by_cases z : zsn D i
    · have hB := hkB c.2.1 z.1
      have z2 := z.2
      rw [if_neg (fun w => w z), chNo c z.1, bi_n (by omega) (by omega), nO_bit c.2.1, one_shl _ (by omega), nx_or]
      simp only [nB_0]
      by_cases y : rB D (EV D) (D (17 + 4 * i)) = true
      · rw [if_neg (fun v => v (decide_eq_true ⟨by omega, by omega, y⟩)), muS, if_neg (fun v => by rw [y] at v; exact Bool.noConfusion v.2)]
      · rw [if_pos (fun v => y (of_decide_eq_true v).2.2), muS, if_pos ⟨z, by simpa using y⟩]
    · rw [if_pos z, muS, if_neg (fun w => z w.1)]) (by
    intro n a
    show X1_mutes_l13 N h (n + 1) p (nI (nO D (EV D))) (nI a) (nI 8) = _
    rw [X1_mutes_l13, if_pos (by decide)]) 8 0 N 0 (by omega) (by omega)
  rw [show X1_mutes_l13 N h N p (nI (nO D (EV D))) 0 0 = _ from key]
  rw [zl_cut (r := D 1) (by omega) 0 (fun j h1 h2 a => if_neg (fun z => by have := z.1.1; omega))]
theorem r_mutes (c : RH h q D) (hN : 100 ≤ N) : X11_far_l25 N N h 237 0 0 = some (nI (zl (muS D) (D 1) 0 0), h) := by
  have hk := hk0 c.1
  have key := lp (F := fun n i (a : Nat) => X11_far_l25 N n h 237 (nI a) (nI i)) (f := muS D) (g := fun a => some (nI a, h)) (M := D 1) (by
    intro n i a hi
    show X11_far_l25 N (n + 1) h 237 (nI a) (nI i) = X11_far_l25 N n h 237 (nI (muS D i a)) (nI (i + 1))
    have hB := hkB c.1 hi
    rw [X11_far_l25, rh1 c, if_neg (nI_ge hi (by omega)), r_noteOf c (by omega), bd1_some, bd1_some, r_isReached c hN, bd1_some, nI_1, Int32.or_zero, one_shl _ (by omega), nx_or, rX_in c.1 (by omega)]
    simp only [nB_0]
    by_cases z : D (17 + 4 * i) = 0
    · rw [if_pos (by rw [z]; decide), muS, if_neg (fun w => w.1.2 z)]
    · rw [if_neg (nI_nle (by omega) (by omega))]
      by_cases y : rB D (EV D) (D (17 + 4 * i)) = true
      · rw [if_neg (fun w => w y), muS, if_neg (fun v => by rw [y] at v; exact Bool.noConfusion v.2)]
      · rw [if_pos y, muS, if_pos ⟨⟨hi, z⟩, by simpa using y⟩]) (by
    intro n a
    show X11_far_l25 N (n + 1) h 237 (nI a) (nI (D 1)) = _
    rw [X11_far_l25, rh1 c, if_pos (nI_le (by omega) (by omega))]) (D 1) 0 N 0 (by omega) (by omega)
  exact key
end RNG
