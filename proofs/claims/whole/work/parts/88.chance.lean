/-! ===== level 2: who wakes by chance ===== -/
theorem ln209 : ln (198 + 11) = 8 := by decide +kernel
theorem ln246 : ln (237 + 9) = 8 := by decide +kernel
theorem lc_0 : lg_cmp (lN 0) 0 = 0 := (lg_cmp_eq _ _).mpr rfl
theorem lc_le : lg_cmp (lN 0) 0 ≤ 0 := (lg_cmp_le _ _).mpr ((pk_lLE (a := 0) (b := 0) (by decide) (by decide)).mpr (Nat.le_refl _))
theorem lc_gt {d : Nat} (h : 0 < d) (h2 : d < 2 ^ 62) : 0 < lg_cmp (lN d) 0 := (lg_cmp_gt _ _).mpr ((pk_lLT (a := 0) (by decide) (by omega)).mpr h)
theorem lc_nle {d : Nat} (h : 0 < d) (h2 : d < 2 ^ 62) : ¬ lg_cmp (lN d) 0 ≤ 0 := fun w => by
  have := (pk_lLE (b := 0) (by omega) (by decide)).mp ((lg_cmp_le _ _).mp w)
  omega
theorem lc_ne {d : Nat} (h : 0 < d) (h2 : d < 2 ^ 62) : ¬ lg_cmp (lN d) 0 = 0 := fun w => by
  have := (pk_lEQ (b := 0) (by omega) (by decide)).mp ((lg_cmp_eq _ _).mp w)
  omega
section CHA
variable {N : Nat} {h : HS} {p q : Nat} {D g : Nat → Nat}
/-- a bar's factor, and all of them -/
abbrev fac (D g : Nat → Nat) (f b : Nat) : Nat := if zsn D b ∧ g b ≤ f then 10 - D (20 + 4 * b) else 10
abbrev asS (D g : Nat → Nat) (f b a : Nat) : Nat := a * fac D g f b
def asV (D g : Nat → Nat) (f : Nat) : Nat := zl (asS D g f) (D 1) 0 1
abbrev TT (D : Nat → Nat) : Nat := 10 ^ (8 - D 1)
abbrev tns (D : Nat → Nat) : Nat := 10 ^ D 1
theorem tt_e (k : HK D) : tns D * TT D = 100000000 := by
  have hk := hk0 k
  rw [← Nat.pow_add, show D 1 + (8 - D 1) = 8 by omega]
theorem tt_pos (D : Nat → Nat) : 0 < TT D := Nat.pow_pos (by decide)
theorem tn_pos (D : Nat → Nat) : 0 < tns D := Nat.pow_pos (by decide)
theorem fac_le (D g : Nat → Nat) (f b : Nat) : fac D g f b ≤ 10 := by
  unfold fac
  by_cases z : zsn D b ∧ g b ≤ f
  · rw [if_pos z]; omega
  · rw [if_neg z]; omega
theorem as_le (D g : Nat → Nat) (f : Nat) : asV D g f ≤ tns D := by
  have := zl_inv (f := asS D g f) (fun i a => a ≤ 10 ^ i) (D 1) 0 1 (by decide) (fun j _ _ a ha => by
    show a * fac D g f j ≤ 10 ^ (j + 1)
    rw [Nat.pow_succ]
    exact Nat.mul_le_mul ha (fac_le D g f j))
  rw [Nat.zero_add] at this
  exact this
theorem as_8 (k : HK D) (f : Nat) : zl (asS D g f) 8 0 1 = asV D g f * TT D := by
  have hk := hk0 k
  have key : ∀ (r i a : Nat), D 1 ≤ i → zl (asS D g f) r i a = a * 10 ^ r := by
    intro r
    induction r with
    | zero => intro i a _; simp [zl]
    | succ r ih =>
      intro i a hi
      simp only [zl]
      rw [ih (i + 1) _ (by omega), asS, fac, if_neg (fun w => by have := w.1.1; omega), Nat.pow_succ, Nat.mul_assoc, Nat.mul_comm 10]
  rw [show zl (asS D g f) 8 0 1 = zl (asS D g f) (D 1 + (8 - D 1)) 0 1 by rw [show D 1 + (8 - D 1) = 8 by omega], zl_add, key _ _ _ (by omega)]
  rfl
abbrev wkS (D g : Nat → Nat) (f a : Nat) : Nat := a + D (6 + 2 * f) * (tns D - asV D g f)
def wkV (D g : Nat → Nat) : Nat := zl (wkS D g) (D 0) 0 0
theorem tn_le (k : HK D) : tns D ≤ 100000000 := by
  have hk := hk0 k
  have := Nat.pow_le_pow_right (n := 10) (by decide) hk.2.1
  simpa using this
theorem wk_le (k : HK D) (g : Nat → Nat) : wkV D g ≤ 54 * tns D := by
  have hk := hk0 k
  have := zl_inv (f := wkS D g) (fun i a => a ≤ i * (9 * tns D)) (D 0) 0 0 (Nat.zero_le _) (fun j _ hj a ha => by
    have hF := hkF k (show j < D 0 by omega)
    show a + D (6 + 2 * j) * (tns D - asV D g j) ≤ (j + 1) * (9 * tns D)
    rw [Nat.add_mul, Nat.one_mul]
    exact Nat.add_le_add ha (Nat.mul_le_mul hF.2.2 (Nat.sub_le _ _)))
  rw [Nat.zero_add] at this
  unfold wkV
  have h2 : D 0 * (9 * tns D) ≤ 6 * (9 * tns D) := Nat.mul_le_mul_right _ hk.1
  omega
/-- the class has a house and its floors of bars -/
def CX (h : HS) (p : Nat) (D g : Nat → Nat) : Prop := h.2 198 = p ∧ KH h p D ∧ ∀ b, b < D 1 → g b ≤ 5 ∧ h.1 209 b = nI (g b)
def RX (h : HS) (q : Nat) (D g : Nat → Nat) : Prop := RH h q D ∧ ∀ b, b < D 1 → g b ≤ 5 ∧ h.1 246 b = nI (g b)
theorem c_asleep (c : CX h p D g) (hN : 100 ≤ N) {f : Nat} (hf : f < 2 ^ 30) : X0_asleep N h 198 (nI f) = some (lN (asV D g f * TT D)) := by
  obtain ⟨c1, c2, c3⟩ := c
  have hk := hk0 c2.2.1
  have key := lp (F := fun n i (a : Nat) => X0_asleep_l5 N h n 198 (nI f) (lN a) (nI i)) (f := asS D g f) (g := fun a => some (lN a)) (M := 8) (by
    intro n i a hi
    show X0_asleep_l5 N h (n + 1) 198 (nI f) (lN a) (nI i) = X0_asleep_l5 N h n 198 (nI f) (lN (asS D g f i a)) (nI (i + 1))
    rw [X0_asleep_l5, if_neg (show ¬ (8 : Int32) ≤ nI i from nI_ge (b := 8) hi (by decide)), c1, c_sounds c2 (by omega), bd1_some]
    unfold X0_asleep_b40
    rw [if_pos rfl, if_neg one0, c1, at_in c2.1.2.2.2.2.2.1 (by decide) hi, bd1_some, nI_1, show (10 : Int64) = lN 10 from rfl, lN_mul]
    by_cases z : zsn D i
    · have hB := hkB c2.2.1 z.1
      obtain ⟨g1, g2⟩ := c3 i z.1
      rw [nB_t z, if_neg one0, if_neg (nI_in hi (by decide)), nI_clamp (by omega), show h.1 (198 + 11) i = _ from g2, chRi c2 z.1, show (10 : Int32) - nI (D (20 + 4 * i)) = nI (10 - D (20 + 4 * i)) from pk_sub (a := 10) (by omega), nI_l (by omega), lN_mul]
      by_cases y : g i ≤ f
      · rw [if_neg (nI_nlt y (by omega)), asS, fac, if_pos ⟨z, y⟩]
      · rw [if_pos (nI_lt (by omega) (by omega)), asS, fac, if_neg (fun w => y w.2)]
    · rw [nB_f z, if_pos rfl, asS, fac, if_neg (fun w => z w.1)]) (by
    intro n a
    show X0_asleep_l5 N h (n + 1) 198 (nI f) (lN a) (nI 8) = _
    rw [X0_asleep_l5, if_pos (by decide)]) 8 0 N 1 (by omega) (by omega)
  rw [as_8 c2.2.1] at key
  exact key
theorem r_asleep (c : RX h q D g) (hN : 100 ≤ N) {f : Nat} (hf : f < 2 ^ 30) : X11_asleep N h 237 (nI f) = some (lN (asV D g f)) := by
  obtain ⟨c1, c3⟩ := c
  have hk := hk0 c1.1
  have key := lp (F := fun n i (a : Nat) => X11_asleep_l5 N h n 237 (nI f) (lN a) (nI i)) (f := asS D g f) (g := fun a => some (lN a)) (M := D 1) (by
    intro n i a hi
    show X11_asleep_l5 N h (n + 1) 237 (nI f) (lN a) (nI i) = X11_asleep_l5 N h n 237 (nI f) (lN (asS D g f i a)) (nI (i + 1))
    have hB := hkB c1.1 hi
    obtain ⟨g1, g2⟩ := c3 i hi
    rw [X11_asleep_l5, rh1 c1, if_neg (nI_ge hi (by omega)), if_neg (nI_in (by omega) (by decide)), nI_clamp (by omega), show h.1 (237 + 9) i = _ from g2, r_riskOf c1 hi, bd1_some, nI_1, show (10 : Int64) = lN 10 from rfl, lN_mul]
    by_cases y : g i ≤ f
    · rw [if_neg (nI_nlt y (by omega))]
      by_cases z : D (17 + 4 * i) = 0
      · rw [if_pos z, show (10 : Int32) - nI 0 = nI 10 from rfl, nI_l (by decide), lN_mul, asS, fac, if_neg (fun w => w.1.2 z)]
      · rw [if_neg z, show (10 : Int32) - nI (D (20 + 4 * i)) = nI (10 - D (20 + 4 * i)) from pk_sub (a := 10) (by omega), nI_l (by omega), lN_mul, asS, fac, if_pos ⟨⟨hi, z⟩, y⟩]
    · rw [if_pos (nI_lt (by omega) (by omega)), asS, fac, if_neg (fun w => y w.2)]) (by
    intro n a
    show X11_asleep_l5 N h (n + 1) 237 (nI f) (lN a) (nI (D 1)) = _
    rw [X11_asleep_l5, rh1 c1, if_pos (nI_le (by omega) (by omega))]) (D 1) 0 N 1 (by omega) (by omega)
  exact key
theorem r_tens (hN : 100 ≤ N) {n : Nat} (hn : n ≤ 8) : X11_tens N h (nI n) = some (lN (10 ^ n)) := by
  have key : ∀ (r i fu : Nat), i + r = n → r < fu → X11_tens_l4 N h fu (nI n) (lN (10 ^ i)) (nI i) = some (lN (10 ^ n)) := by
    intro r
    induction r with
    | zero =>
      intro i fu e hf
      obtain ⟨fu, rfl, _⟩ := fuel hf
      rw [X11_tens_l4, if_pos (nI_le (by omega) (by omega)), show i = n by omega]
    | succ r ih =>
      intro i fu e hf
      obtain ⟨fu, rfl, _⟩ := fuel hf
      rw [X11_tens_l4, if_neg (nI_ge (by omega) (by omega)), show (10 : Int64) = lN 10 from rfl, lN_mul, nI_1, ← Nat.pow_succ]
      exact ih (i + 1) fu (by omega) (by omega)
  exact key n 0 N (by omega) (by omega)
theorem c_mean (c : CX h p D g) (hN : 100 ≤ N) : X0_mean N h 198 = some (lN (wkV D g * TT D)) := by
  have hk := hk0 c.2.1.2.1
  have hT := tt_e c.2.1.2.1
  have key : ∀ (r i fu a : Nat), i + r = D 0 → r < fu → X0_mean_l4 N h fu 198 (lN (a * TT D)) (nI i) = some (lN (zl (wkS D g) r i a * TT D)) := by
    intro r
    induction r with
    | zero =>
      intro i fu a e hf
      obtain ⟨fu, rfl, _⟩ := fuel hf
      rw [X0_mean_l4, c.1, ch0 c.2.1, if_pos (nI_le (by omega) (by omega))]
      rfl
    | succ r ih =>
      intro i fu a e hf
      obtain ⟨fu, rfl, _⟩ := fuel hf
      have hF := hkF c.2.1.2.1 (show i < D 0 by omega)
      have ha := as_le D g i
      have hle : asV D g i * TT D ≤ 100000000 := by rw [← hT]; exact Nat.mul_le_mul_right _ ha
      rw [X0_mean_l4, c.1, ch0 c.2.1, if_neg (nI_ge (by omega) (by omega)), at_in c.2.1.1.2.1 (by decide) (by omega), bd1_some, c_asleep c hN (by omega), bd1_some, chPe c.2.1 (by omega), nI_l (by omega), show (100000000 : Int64) = lN 100000000 from rfl, lN_sub hle, lN_mul, lN_add, nI_1]
      simp only [zl]
      rw [show a * TT D + D (6 + 2 * i) * (100000000 - asV D g i * TT D) = wkS D g i a * TT D by
        rw [wkS, Nat.add_mul, Nat.mul_assoc, Nat.sub_mul, hT]]
      exact ih (i + 1) fu _ (by omega) (by omega)
  have := key (D 0) 0 N 0 (by omega) (by omega)
  rw [Nat.zero_mul] at this
  exact this
theorem r_wakesOf (c : RX h q D g) (hN : 100 ≤ N) : X11_wakesOf N h 237 = some (lN (wkV D g)) := by
  have hk := hk0 c.1.1
  have key := lp (F := fun n i (a : Nat) => X11_wakesOf_l4 N h n 237 (lN a) (nI i)) (f := wkS D g) (g := fun a => some (lN a)) (M := D 0) (by
    intro n i a hi
    show X11_wakesOf_l4 N h (n + 1) 237 (lN a) (nI i) = X11_wakesOf_l4 N h n 237 (lN (wkS D g i a)) (nI (i + 1))
    have hF := hkF c.1.1 hi
    rw [X11_wakesOf_l4, rh0 c.1, if_neg (nI_ge hi (by omega)), r_peopleOf c.1 (by omega), bd1_some, rh1 c.1, r_tens hN (by omega), bd1_some, r_asleep c hN (by omega), bd1_some, nI_l (by omega), lN_sub (as_le D g i), lN_mul, lN_add, nI_1]) (by
    intro n a
    show X11_wakesOf_l4 N h (n + 1) 237 (lN a) (nI (D 0)) = _
    rw [X11_wakesOf_l4, rh0 c.1, if_pos (nI_le (by omega) (by omega))]) (D 0) 0 N 0 (by omega) (by omega)
  exact key
/-- the reference's greatest common divisor -/
theorem r_common (hN : 1000000000 ≤ N) {a b : Nat} (ha : a < 2 ^ 62) (hb : b ≤ 100000000) : X11_common N h (lN a) (lN b) = some (lN (Nat.gcd a b)) := by
  have key : ∀ (k fu a b : Nat), b ≤ k → k < fu → a < 2 ^ 62 → b < 2 ^ 62 → X11_common_l6 N h fu (lN a) (lN b) = some (lN (Nat.gcd a b)) := by
    intro k
    induction k with
    | zero =>
      intro fu a b hbk hf ha hb
      obtain ⟨fu, rfl, _⟩ := fuel hf
      have : b = 0 := by omega
      subst this
      rw [X11_common_l6, if_pos lc_0, Nat.gcd_zero_right]
    | succ k ih =>
      intro fu a b hbk hf ha hb
      obtain ⟨fu, rfl, _⟩ := fuel hf
      by_cases z : b = 0
      · subst z
        rw [X11_common_l6, if_pos lc_0, Nat.gcd_zero_right]
      · have nb : ¬ lN b = 0 := fun w => z ((pk_lEQ (b := 0) (by omega) (by decide)).mp w)
        have hm : a % b < b := Nat.mod_lt _ (by omega)
        rw [X11_common_l6, if_neg (lc_ne (by omega) (by omega)), if_neg nb, pk_lRem (by omega) (by omega) (by omega), ih fu b (a % b) (by omega) (by omega) (by omega) (by omega)]
        rw [Nat.gcd_comm b, ← Nat.gcd_rec, Nat.gcd_comm]
  exact key 100000000 N a b hb (by omega) ha (by omega)
theorem half_mod {a b : Nat} (hb : 0 < b) (h2 : 0 < a % b) : 2 * (b % (a % b)) < b := by
  have h1 : a % b < b := Nat.mod_lt _ hb
  have h3 : b % (a % b) < a % b := Nat.mod_lt _ h2
  have h4 : b % (a % b) ≤ b - a % b := by
    have := Nat.div_add_mod b (a % b)
    have h5 : 1 ≤ b / (a % b) := Nat.div_pos (by omega) h2
    have h6 : a % b * 1 ≤ a % b * (b / (a % b)) := Nat.mul_le_mul_left _ h5
    omega
  omega
/-- the class's: a hundred steps are enough -/
theorem c_part (hN : 1000 ≤ N) {x : Nat} (hx : x < 2 ^ 33) (v : Int32) : X0_part N h (lN x) v = some (lN (if v = 0 then x / Nat.gcd 100000000 x else 100000000 / Nat.gcd 100000000 x)) := by
  have fin : ∀ d : Nat, 0 < d → d < 2 ^ 62 → X0_part_b43 N h (lN x) v (lN d) = some (lN (if v = 0 then x / d else 100000000 / d)) := by
    intro d hd hd2
    have n0 : ¬ lN d = 0 := fun w => by have := (pk_lEQ (b := 0) (by omega) (by decide)).mp w; omega
    unfold X0_part_b43
    rw [if_pos (lc_gt hd hd2), if_neg n0, if_neg n0, pk_lDiv (by omega) hd (by omega), show (100000000 : Int64) = lN 100000000 from rfl, pk_lDiv (by omega) hd (by omega)]
    by_cases z : v = 0
    · rw [if_pos z, if_pos z]
    · rw [if_neg z, if_neg z]
  have key : ∀ (k i fu a b : Nat), b < 2 ^ k → i + 2 * k < 100 → 200 ≤ fu + i → 0 < a → a < 2 ^ 62 → b < 2 ^ 62 → X0_part_l10 N h fu (lN x) v (lN a) (lN b) (nI i) = some (lN (if v = 0 then x / Nat.gcd a b else 100000000 / Nat.gcd a b)) := by
    intro k
    induction k with
    | zero =>
      intro i fu a b hb hi hf ha ha2 hb2
      obtain ⟨fu, rfl, _⟩ := fuel (show 0 < fu by omega)
      have : b = 0 := by simp at hb; omega
      subst this
      rw [X0_part_l10, if_neg (show ¬ (100 : Int32) ≤ nI i from nI_ge (b := 100) (by omega) (by decide)), if_pos lc_le, fin a ha ha2, Nat.gcd_zero_right]
    | succ k ih =>
      intro i fu a b hb hi hf ha ha2 hb2
      obtain ⟨fu, rfl, _⟩ := fuel (show 0 < fu by omega)
      rw [X0_part_l10, if_neg (show ¬ (100 : Int32) ≤ nI i from nI_ge (b := 100) (by omega) (by decide))]
      by_cases z : b = 0
      · subst z
        rw [if_pos lc_le, fin a ha ha2, Nat.gcd_zero_right]
      · have nb : ¬ lN b = 0 := fun w => z ((pk_lEQ (b := 0) (by omega) (by decide)).mp w)
        have hm : a % b < b := Nat.mod_lt _ (by omega)
        have eg : Nat.gcd b (a % b) = Nat.gcd a b := by rw [Nat.gcd_comm b, ← Nat.gcd_rec, Nat.gcd_comm]
        rw [if_neg (lc_nle (by omega) (by omega)), if_neg nb, pk_lRem (by omega) (by omega) (by omega), nI_1]
        obtain ⟨fu, rfl, _⟩ := fuel (show 0 < fu by omega)
        rw [X0_part_l10, if_neg (show ¬ (100 : Int32) ≤ nI (i + 1) from nI_ge (b := 100) (by omega) (by decide))]
        by_cases y : a % b = 0
        · rw [y, if_pos lc_le, fin b (by omega) hb2, ← eg, y, Nat.gcd_zero_right]
        · have nb2 : ¬ lN (a % b) = 0 := fun w => y ((pk_lEQ (b := 0) (by omega) (by decide)).mp w)
          have hh := half_mod (a := a) (b := b) (by omega) (by omega)
          have eg2 : Nat.gcd (a % b) (b % (a % b)) = Nat.gcd b (a % b) := by rw [Nat.gcd_comm (a % b), ← Nat.gcd_rec, Nat.gcd_comm]
          rw [if_neg (lc_nle (by omega) (by omega)), if_neg nb2, pk_lRem (by omega) (by omega) (by omega), nI_1]
          rw [ih (i + 1 + 1) fu (a % b) (b % (a % b)) (by rw [Nat.pow_succ] at hb; omega) (by omega) (by omega) (by omega) (by omega) (by omega), eg2, eg]
  have := key 33 0 N 100000000 x hx (by decide) (by omega) (by decide) (by decide) (by omega)
  exact this
/-- the same part, told in two ways -/
theorem part_eq (k : HK D) {u : Nat} : (u * TT D) / Nat.gcd 100000000 (u * TT D) = u / Nat.gcd u (tns D) ∧ 100000000 / Nat.gcd 100000000 (u * TT D) = tns D / Nat.gcd u (tns D) := by
  have hT := tt_e k
  have hp := tt_pos D
  rw [← hT, Nat.gcd_mul_right, Nat.gcd_comm (tns D)]
  exact ⟨Nat.mul_div_mul_right _ _ hp, Nat.mul_div_mul_right _ _ hp⟩
end CHA
