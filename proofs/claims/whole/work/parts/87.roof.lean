/-! ===== level 2: roof: climb and echo ===== -/
section ROO
variable {N : Nat} {h : HS} {p q : Nat} {D : Nat → Nat}
/-- the longest so far, one more than where it begins, how long the one under way is -/
abbrev rnS (D : Nat → Nat) (b run : Nat) : Nat := if D (17 + 4 * b) = 0 then 0 else if 0 < run ∧ D (19 + 4 * (b - 1)) ≤ D (19 + 4 * b) then run + 1 else 1
def clS (D : Nat → Nat) (b : Nat) (a : Nat × Nat × Nat) : Nat × Nat × Nat := if rnS D b a.2.2 ≤ a.1 then (a.1, a.2.1, rnS D b a.2.2) else (rnS D b a.2.2, b + 2 - rnS D b a.2.2, rnS D b a.2.2)
def clJ (i : Nat) (a : Nat × Nat × Nat) : Prop := a.1 ≤ i ∧ a.2.1 ≤ i + 1 ∧ a.2.2 ≤ i ∧ (a.2.1 = 0 → a.1 = 0)
theorem rn_le (D : Nat → Nat) (b run : Nat) (h : run ≤ b) : rnS D b run ≤ b + 1 := by
  unfold rnS
  by_cases z : D (17 + 4 * b) = 0
  · rw [if_pos z]; omega
  · rw [if_neg z]
    by_cases y : 0 < run ∧ D (19 + 4 * (b - 1)) ≤ D (19 + 4 * b)
    · rw [if_pos y]; omega
    · rw [if_neg y]; omega
theorem clJ_step {i : Nat} {a : Nat × Nat × Nat} (hj : clJ i a) : clJ (i + 1) (clS D i a) := by
  obtain ⟨h1, h2, h3, h4⟩ := hj
  have := rn_le D i a.2.2 h3
  unfold clS clJ
  by_cases z : rnS D i a.2.2 ≤ a.1
  · rw [if_pos z]; exact ⟨by simp; omega, by simp; omega, by simp; omega, by simpa using h4⟩
  · rw [if_neg z]
    refine ⟨by simp; omega, ?_, by simp; omega, ?_⟩
    · show i + 2 - rnS D i a.2.2 ≤ i + 1 + 1; omega
    · intro h5; simp at h5; omega
theorem pack_e : ∀ s, s < 12 → ∀ l, l < 16 → (nI s <<< ((4 : Int32) &&& 31)) ||| nI l = nI (16 * s + l) ∧ nI (16 * s + l) &&& 15 = nI l ∧ nI (16 * s + l) >>> ((4 : Int32) &&& 31) = nI s := by decide +kernel
def clV (D : Nat → Nat) : Nat × Nat × Nat := zl (clS D) (D 1) 0 (0, 0, 0)
theorem cl_is (k : HK D) : clJ (D 1) (clV D) := by
  have := zl_inv (f := clS D) clJ (D 1) 0 (0, 0, 0) ⟨Nat.le_refl _, by decide, Nat.le_refl _, fun _ => rfl⟩ (fun j _ _ a ha => clJ_step ha)
  rw [Nat.zero_add] at this
  exact this
theorem c_climb (c : KH h p D) (hN : 100 ≤ N) : X10_longestClimb N h p = some (nI (16 * (clV D).2.1 + (clV D).1)) := by
  have hk := hk0 c.2.1
  have hP := c.1
  have key := lpI (F := fun n i (a : Nat × Nat × Nat) => X10_longestClimb_l6 N h n p (nI (16 * a.2.1 + a.1)) (nI a.2.2) (nI i)) (f := clS D) (g := fun a => some (nI (16 * a.2.1 + a.1))) (M := D 1) clJ (by
    intro n i a hi hj
    refine ⟨?_, clJ_step hj⟩
    obtain ⟨L, s1, run⟩ := a
    obtain ⟨j1, j2, j3, _⟩ := hj
    simp only at j1 j2 j3
    have hr := rn_le D i run j3
    have hB := hkB c.2.1 hi
    show X10_longestClimb_l6 N h (n + 1) p (nI (16 * s1 + L)) (nI run) (nI i) = X10_longestClimb_l6 N h n p (nI (16 * (clS D i (L, s1, run)).2.1 + (clS D i (L, s1, run)).1)) (nI (clS D i (L, s1, run)).2.2) (nI (i + 1))
    have b76 : ∀ u : Nat, u = rnS D i run → X10_longestClimb_b76 N h (X10_longestClimb_l6 N h n) p (nI (16 * s1 + L)) (nI i) (nI u) = X10_longestClimb_l6 N h n p (nI (16 * (clS D i (L, s1, run)).2.1 + (clS D i (L, s1, run)).1)) (nI (clS D i (L, s1, run)).2.2) (nI (i + 1)) := by
      intro u hu
      subst hu
      unfold X10_longestClimb_b76
      rw [(pack_e s1 (by omega) L (by omega)).2.1, nI_1]
      unfold clS
      simp only
      by_cases z : rnS D i run ≤ L
      · rw [if_pos (nI_le z (by omega)), if_pos z]
      · rw [if_neg (nI_ge (by omega) (by omega)), if_neg z]
        rw [show nI i - nI (rnS D i run) + 2 = nI (i + 2 - rnS D i run) by
          apply Int32.toInt_inj.mp
          rw [Int32.toInt_add, pk_sub_toInt (by omega) (by omega), nI_toInt (by omega), show (2 : Int32).toInt = 2 by decide, Int.bmod_eq_of_le (by omega) (by omega)]
          omega]
        rw [(pack_e (i + 2 - rnS D i run) (by omega) (rnS D i run) (by omega)).1]
    have e0 := b76 0
    have e1 := b76 1
    have e2 := b76 (run + 1)
    have hs := c_sounds (N := N) c (b := i) (by omega)
    rw [X10_longestClimb_l6, ch1 c, if_neg (nI_ge hi (by omega)), if_neg (show ¬ (8 : Int32) ≤ nI i from nI_ge (b := 8) (by omega) (by decide))]
    by_cases y : run = 0
    · rw [if_pos (by rw [y]; decide), hs, bd1_some]
      by_cases z : D (17 + 4 * i) = 0
      · rw [nB_f (fun w => w.2 z), if_pos rfl]
        exact e0 (if_pos z).symm
      · rw [nB_t ⟨hi, z⟩, if_neg one0, if_pos rfl]
        exact e1 (by rw [rnS, if_neg z, if_neg (by omega)])
    · have hB2 := hkB c.2.1 (show i - 1 < D 1 by omega)
      rw [if_neg (nI_nle (by omega) (by omega)), at_in hP.2.2.2.2.1 (by decide) (by omega), bd1_some, show nI i - 1 = nI (i - 1) from pk_sub (b := 1) (by omega), at_in hP.2.2.2.2.1 (by decide) (by omega), bd1_some, chGr c hi, chGr c (show i - 1 < D 1 by omega), hs, nI_1]
      by_cases w : D (19 + 4 * i) < D (19 + 4 * (i - 1))
      · rw [if_pos (nI_lt w (by omega)), bd1_some]
        by_cases z : D (17 + 4 * i) = 0
        · rw [nB_f (fun w => w.2 z), if_pos rfl]
          exact e0 (if_pos z).symm
        · rw [nB_t ⟨hi, z⟩, if_neg one0, if_pos rfl]
          exact e1 (by rw [rnS, if_neg z, if_neg (by omega)])
      · rw [if_neg (nI_nlt (by omega) (by omega)), bd1_some]
        by_cases z : D (17 + 4 * i) = 0
        · rw [nB_f (fun w => w.2 z), if_pos rfl]
          exact e0 (if_pos z).symm
        · rw [nB_t ⟨hi, z⟩, if_neg one0, if_neg one0]
          exact e2 (by rw [rnS, if_neg z, if_pos (by omega)])) (by
    intro n a hj
    show X10_longestClimb_l6 N h (n + 1) p (nI (16 * a.2.1 + a.1)) (nI a.2.2) (nI (D 1)) = _
    rw [X10_longestClimb_l6, ch1 c, if_pos (nI_le (by omega) (by omega))]) (D 1) 0 N (0, 0, 0) ⟨Nat.le_refl _, by decide, Nat.le_refl _, fun _ => rfl⟩ (by omega) (by omega)
  exact key.1
theorem r_climb (c : RH h q D) (hN : 100 ≤ N) (v : Int32) : X11_climbOf N h 237 v = some (if v = 0 then nI (clV D).1 else nI (clV D).2.1 - 1) := by
  have hk := hk0 c.1
  have key := lpI (F := fun n i (a : Nat × Nat × Nat) => X11_climbOf_l10 N h n 237 v (nI a.1) (nI a.2.1 - 1) (nI a.2.2) (nI i)) (f := clS D) (g := fun a => some (if v = 0 then nI a.1 else nI a.2.1 - 1)) (M := D 1) clJ (by
    intro n i a hi hj
    refine ⟨?_, clJ_step hj⟩
    obtain ⟨L, s1, run⟩ := a
    obtain ⟨j1, j2, j3, _⟩ := hj
    simp only at j1 j2 j3
    have hr := rn_le D i run j3
    have hB := hkB c.1 hi
    show X11_climbOf_l10 N h (n + 1) 237 v (nI L) (nI s1 - 1) (nI run) (nI i) = X11_climbOf_l10 N h n 237 v (nI (clS D i (L, s1, run)).1) (nI (clS D i (L, s1, run)).2.1 - 1) (nI (clS D i (L, s1, run)).2.2) (nI (i + 1))
    have b76 : ∀ u : Nat, u = rnS D i run → X11_climbOf_b74 N h (X11_climbOf_l10 N h n) 237 v (nI L) (nI s1 - 1) (nI i) (nI u) = X11_climbOf_l10 N h n 237 v (nI (clS D i (L, s1, run)).1) (nI (clS D i (L, s1, run)).2.1 - 1) (nI (clS D i (L, s1, run)).2.2) (nI (i + 1)) := by
      intro u hu
      subst hu
      unfold X11_climbOf_b74
      rw [nI_1]
      unfold clS
      simp only
      by_cases z : rnS D i run ≤ L
      · rw [if_neg (nI_nlt z (by omega)), if_pos z]
      · rw [if_pos (nI_lt (by omega) (by omega)), if_neg z]
        simp only
        rw [show nI i - nI (rnS D i run) + 1 = nI (i + 2 - rnS D i run) - 1 by
          apply Int32.toInt_inj.mp
          rw [Int32.toInt_add, pk_sub_toInt (by omega) (by omega), show (nI (i + 2 - rnS D i run) - 1).toInt = ((i + 2 - rnS D i run : Nat) : Int) - 1 from pk_sub_toInt (b := 1) (by omega) (by decide), show (1 : Int32).toInt = 1 by decide, Int.bmod_eq_of_le (by omega) (by omega)]
          omega]
    have e0 := b76 0
    have e1 := b76 1
    have e2 := b76 (run + 1)
    have hs := r_noteOf (N := N) c (b := i) (by omega)
    have nn : ¬ D (17 + 4 * i) = 0 → ¬ nI (D (17 + 4 * i)) = 0 := fun z => nI_ne0 (by omega) (by omega)
    rw [X11_climbOf_l10, rh1 c, if_neg (nI_ge hi (by omega))]
    by_cases y : run = 0
    · rw [if_pos (by rw [y]; decide), hs, bd1_some]
      by_cases z : D (17 + 4 * i) = 0
      · rw [if_pos (by rw [z]; rfl)]
        exact e0 (if_pos z).symm
      · rw [if_neg (nn z), if_pos rfl]
        exact e1 (by rw [rnS, if_neg z, if_neg (by omega)])
    · have hB2 := hkB c.1 (show i - 1 < D 1 by omega)
      rw [if_neg (nI_nle (by omega) (by omega)), r_floorOf c (by omega), bd1_some, show nI i - 1 = nI (i - 1) from pk_sub (b := 1) (by omega), r_floorOf c (by omega), bd1_some, hs, nI_1]
      by_cases w : D (19 + 4 * i) < D (19 + 4 * (i - 1))
      · rw [if_pos (nI_lt w (by omega)), bd1_some]
        by_cases z : D (17 + 4 * i) = 0
        · rw [if_pos (by rw [z]; rfl)]
          exact e0 (if_pos z).symm
        · rw [if_neg (nn z), if_pos rfl]
          exact e1 (by rw [rnS, if_neg z, if_neg (by omega)])
      · rw [if_neg (nI_nlt (by omega) (by omega)), bd1_some]
        by_cases z : D (17 + 4 * i) = 0
        · rw [if_pos (by rw [z]; rfl)]
          exact e0 (if_pos z).symm
        · rw [if_neg (nn z), if_neg one0]
          exact e2 (by rw [rnS, if_neg z, if_pos (by omega)])) (by
    intro n a hj
    show X11_climbOf_l10 N h (n + 1) 237 v (nI a.1) (nI a.2.1 - 1) (nI a.2.2) (nI (D 1)) = _
    rw [X11_climbOf_l10, rh1 c, if_pos (nI_le (by omega) (by omega))]
    by_cases z : v = 0
    · rw [if_pos z, if_pos z]
    · rw [if_neg z, if_neg z]) (D 1) 0 N (0, 0, 0) ⟨Nat.le_refl _, by decide, Nat.le_refl _, fun _ => rfl⟩ (by omega) (by omega)
  exact key.1
/-- are two rows of bars alike -/
def alB (D : Nat → Nat) (a b : Nat) : Nat → Nat → Bool
  | 0, _ => true
  | r + 1, k => (decide (D (17 + 4 * (a + k)) = D (17 + 4 * (b + k))) && decide (D (18 + 4 * (a + k)) = D (18 + 4 * (b + k)))) && alB D a b r (k + 1)
theorem c_alike (c : KH h p D) (hN : 100 ≤ N) {a b n : Nat} (ha : a + n ≤ D 1) (hb : b + n ≤ D 1) : X1_alike N h p (nI a) (nI b) (nI n) = some (nB (alB D a b n 0 = true)) := by
  have hk := hk0 c.2.1
  have hP := c.1
  have key : ∀ (r k fu : Nat), k + r = n → r < fu → X1_alike_l3 N h fu p (nI a) (nI b) (nI n) (nI k) = some (nB (alB D a b r k = true)) := by
    intro r
    induction r with
    | zero =>
      intro k fu e hf
      obtain ⟨fu, rfl, _⟩ := fuel hf
      rw [X1_alike_l3, if_pos (nI_le (by omega) (by omega))]
      rfl
    | succ r ih =>
      intro k fu e hf
      obtain ⟨fu, rfl, _⟩ := fuel hf
      have h1 := hkB c.2.1 (show a + k < D 1 by omega)
      have h2 := hkB c.2.1 (show b + k < D 1 by omega)
      rw [X1_alike_l3, if_neg (nI_ge (by omega) (by omega)), nI_add, nI_add, at_in hP.2.2.1 (by decide) (by omega), bd1_some, at_in hP.2.2.1 (by decide) (by omega), bd1_some, at_in hP.2.2.2.1 (by decide) (by omega), bd1_some, at_in hP.2.2.2.1 (by decide) (by omega), bd1_some, chNo c (by omega), chNo c (by omega), chLe c (by omega), chLe c (by omega), nI_1, ih (k + 1) fu (by omega) (by omega), alB]
      by_cases z : D (17 + 4 * (a + k)) = D (17 + 4 * (b + k))
      · rw [if_pos (by rw [z])]
        by_cases y : D (18 + 4 * (a + k)) = D (18 + 4 * (b + k))
        · rw [if_pos (by rw [y]), decide_eq_true z, decide_eq_true y]; simp
        · rw [if_neg (fun w => y ((nI_eq (by omega) (by omega)).mp w)), decide_eq_false y, nB_f (by simp)]; rfl
      · rw [if_neg (fun w => z ((nI_eq (by omega) (by omega)).mp w)), decide_eq_false z, nB_f (by simp)]; rfl
  exact key n 0 N (by omega) (by omega)
theorem r_alike (c : RH h q D) (hN : 100 ≤ N) {a b n : Nat} (ha : a + n ≤ D 1) (hb : b + n ≤ D 1) : X11_isAlike N h 237 (nI a) (nI b) (nI n) = some (nB (alB D a b n 0 = true)) := by
  have hk := hk0 c.1
  have key : ∀ (r k fu : Nat) (t : Bool), k + r = n → r < fu → X11_isAlike_l6 N h fu 237 (nI a) (nI b) (nI n) (nB (t = true)) (nI k) = some (nB ((t && alB D a b r k) = true)) := by
    intro r
    induction r with
    | zero =>
      intro k fu t e hf
      obtain ⟨fu, rfl, _⟩ := fuel hf
      rw [X11_isAlike_l6, if_pos (nI_le (by omega) (by omega)), nz_nB]
      simp [alB]
    | succ r ih =>
      intro k fu t e hf
      obtain ⟨fu, rfl, _⟩ := fuel hf
      have h1 := hkB c.1 (show a + k < D 1 by omega)
      have h2 := hkB c.1 (show b + k < D 1 by omega)
      have i0 := ih (k + 1) fu false (by omega) (by omega)
      have i1 := ih (k + 1) fu true (by omega) (by omega)
      rw [nB_f (show ¬ (false = true) by decide)] at i0
      rw [nB_t (show (true = true) from rfl)] at i1
      rw [X11_isAlike_l6, if_neg (nI_ge (by omega) (by omega)), nI_add, nI_add, r_noteOf c (by omega), bd1_some, r_noteOf c (by omega), bd1_some, r_longOf c (by omega), bd1_some, r_longOf c (by omega), bd1_some, nI_1, i0, i1, alB]
      cases t with
      | false => rw [nB_f (show ¬ (false = true) by decide), if_pos rfl]; simp
      | true =>
        rw [nB_t (show (true = true) from rfl), if_neg one0]
        by_cases z : D (17 + 4 * (a + k)) = D (17 + 4 * (b + k))
        · rw [if_pos (by rw [z])]
          by_cases y : D (18 + 4 * (a + k)) = D (18 + 4 * (b + k))
          · rw [if_pos (by rw [y]), decide_eq_true z, decide_eq_true y]; simp
          · rw [if_neg (fun w => y ((nI_eq (by omega) (by omega)).mp w)), decide_eq_false y]; simp
        · rw [if_neg (fun w => z ((nI_eq (by omega) (by omega)).mp w)), decide_eq_false z]; simp
  have := key n 0 N true (by omega) (by omega)
  rw [nB_t rfl, Bool.true_and] at this
  exact this
abbrev ecP (D : Nat → Nat) (n a : Nat) : Bool := anyB (fun b => alB D a b n 0) (D 1 + 1 - (a + 2 * n)) (a + n)
def ecV (D : Nat → Nat) : Nat → Option (Nat × Nat)
  | 0 => none
  | n + 1 => match zf (ecP D (n + 1)) (D 1 + 1 - 2 * (n + 1)) 0 with | some a => some (a, n + 1) | none => ecV D n
theorem c_echo (c : KH h p D) (hN : 100 ≤ N) : X10_longestEcho N h p = some (match ecV D (D 1 / 2) with | none => 0 | some (a, n) => nI (16 * (a + 1) + n)) := by
  have hk := hk0 c.2.1
  have l29 : ∀ (K7 : Nat → Int32 → Option Int32) (K13 : Nat → Int32 → Int32 → Option Int32) (n a : Nat), 1 ≤ n → a + 2 * n ≤ D 1 → ∀ (r b fu : Nat), b + n + r = D 1 + 1 → r < fu → X10_longestEcho_l29 N h K7 K13 fu p (nI n) (nI a) (nI b) = (if anyB (fun b => alB D a b n 0) r b = true then some (nI (16 * (a + 1) + n)) else K13 p (nI n) (nI (a + 1))) := by
    intro K7 K13 n a hn ha r
    induction r with
    | zero =>
      intro b fu e hf
      obtain ⟨fu, rfl, _⟩ := fuel hf
      rw [X10_longestEcho_l29, ch1 c, nI_add, if_pos (nI_lt (by omega) (by omega)), nI_1, anyB, if_neg (by decide)]
    | succ r ih =>
      intro b fu e hf
      obtain ⟨fu, rfl, _⟩ := fuel hf
      rw [X10_longestEcho_l29, ch1 c, nI_add, if_neg (nI_nlt (by omega) (by omega)), c_alike c hN (by omega) (by omega), bd1_some, nI_1, nI_1, ih (b + 1) fu (by omega) (by omega), anyB, (pack_e (a + 1) (by omega) n (by omega)).1]
      by_cases z : alB D a b n 0 = true
      · rw [nB_t z, if_neg one0, z, Bool.true_or, if_pos rfl]
      · rw [nB_f z, if_pos rfl]
        have z' : alB D a b n 0 = false := by simpa using z
        rw [z', Bool.false_or]
  have l13 : ∀ (K7 : Nat → Int32 → Option Int32) (n : Nat), 1 ≤ n → ∀ (r a fu : Nat), a + 2 * n + r = D 1 + 1 → r < fu → X10_longestEcho_l13 N h K7 fu p (nI n) (nI a) = (match zf (ecP D n) r a with | some a => some (nI (16 * (a + 1) + n)) | none => K7 p (nI n + (-1))) := by
    intro K7 n hn r
    induction r with
    | zero =>
      intro a fu e hf
      obtain ⟨fu, rfl, _⟩ := fuel hf
      rw [X10_longestEcho_l13, ch1 c, zn2, pk_mul, nI_add, if_pos (nI_lt (by omega) (by omega))]
      rfl
    | succ r ih =>
      intro a fu e hf
      obtain ⟨fu, rfl, _⟩ := fuel hf
      rw [X10_longestEcho_l13, ch1 c, zn2, pk_mul, nI_add, if_neg (nI_nlt (by omega) (by omega)), nI_add, l29 K7 _ n a hn (by omega) (D 1 + 1 - (a + 2 * n)) (a + n) N (by omega) (by omega)]
      by_cases z : ecP D n a = true
      · rw [if_pos z, zf_pos z]
      · rw [if_neg z, zf_neg z]
        exact ih (a + 1) fu (by omega) (by omega)
  have l7 : ∀ (n fu : Nat), 2 * n ≤ D 1 → n < fu → X10_longestEcho_l7 N h fu p (nI n) = some (match ecV D n with | none => 0 | some (a, n) => nI (16 * (a + 1) + n)) := by
    intro n
    induction n with
    | zero =>
      intro fu _ hf
      obtain ⟨fu, rfl, _⟩ := fuel hf
      rw [X10_longestEcho_l7, if_pos (by decide)]
      rfl
    | succ n ih =>
      intro fu hn hf
      obtain ⟨fu, rfl, _⟩ := fuel hf
      rw [X10_longestEcho_l7, if_neg (nI_nle (by omega) (by omega)), show X10_longestEcho_l13 N h (X10_longestEcho_l7 N h fu) N p (nI (n + 1)) 0 = _ from l13 _ (n + 1) (by omega) (D 1 + 1 - 2 * (n + 1)) 0 N (by omega) (by omega), ecV, pk_m1]
      cases zf (ecP D (n + 1)) (D 1 + 1 - 2 * (n + 1)) 0 with
      | none => exact ih fu (by omega) (by omega)
      | some a => rfl
  unfold X10_longestEcho
  rw [ch1 c, show nI (D 1) / 2 = nI (D 1 / 2) from pk_div (d := 2) (by omega) (by decide) (by decide)]
  exact l7 (D 1 / 2) N (by omega) (by omega)
theorem r_echo (c : RH h q D) (hN : 100 ≤ N) (v : Int32) : X11_echoOf N h 237 v = some (match ecV D (D 1 / 2) with | none => if v = 0 then 0 else -1 | some (a, n) => if v = 0 then nI n else nI a) := by
  have hk := hk0 c.1
  have l30 : ∀ (K7 : Nat → Int32 → Int32 → Option Int32) (K13 : Nat → Int32 → Int32 → Int32 → Option Int32) (n a : Nat), 1 ≤ n → a + 2 * n ≤ D 1 → ∀ (r b fu : Nat), b + n + r = D 1 + 1 → r < fu → a ≤ b → X11_echoOf_l30 N h K7 K13 fu 237 v (nI n) (nI a) (nI b) = (if anyB (fun b => alB D a b n 0) r b = true then some (if v = 0 then nI n else nI a) else K13 237 v (nI n) (nI (a + 1))) := by
    intro K7 K13 n a hn ha r
    induction r with
    | zero =>
      intro b fu e hf hab
      obtain ⟨fu, rfl, _⟩ := fuel hf
      rw [X11_echoOf_l30, rh1 c, nI_add, if_pos (nI_lt (by omega) (by omega)), nI_1, anyB, if_neg (by decide)]
    | succ r ih =>
      intro b fu e hf hab
      obtain ⟨fu, rfl, _⟩ := fuel hf
      rw [X11_echoOf_l30, rh1 c, nI_add, if_neg (nI_nlt (by omega) (by omega)), r_alike c hN (by omega) (by omega), bd1_some, nI_1, ih (b + 1) fu (by omega) (by omega) (by omega), anyB]
      by_cases z : alB D a b n 0 = true
      · rw [nB_t z, if_neg one0, z, Bool.true_or, if_pos rfl]
        by_cases y : v = 0
        · rw [if_pos y, if_pos y]
        · rw [if_neg y, if_neg y]
      · rw [nB_f z, if_pos rfl]
        have z' : alB D a b n 0 = false := by simpa using z
        rw [z', Bool.false_or]
  have l13 : ∀ (K7 : Nat → Int32 → Int32 → Option Int32) (n : Nat), 1 ≤ n → ∀ (r a fu : Nat), a + 2 * n + r = D 1 + 1 → r < fu → X11_echoOf_l13 N h K7 fu 237 v (nI n) (nI a) = (match zf (ecP D n) r a with | some a => some (if v = 0 then nI n else nI a) | none => K7 237 v (nI n + (-1))) := by
    intro K7 n hn r
    induction r with
    | zero =>
      intro a fu e hf
      obtain ⟨fu, rfl, _⟩ := fuel hf
      rw [X11_echoOf_l13, rh1 c, zn2, pk_mul, nI_add, if_pos (nI_lt (by omega) (by omega))]
      rfl
    | succ r ih =>
      intro a fu e hf
      obtain ⟨fu, rfl, _⟩ := fuel hf
      rw [X11_echoOf_l13, rh1 c, zn2, pk_mul, nI_add, if_neg (nI_nlt (by omega) (by omega)), nI_add, l30 K7 _ n a hn (by omega) (D 1 + 1 - (a + 2 * n)) (a + n) N (by omega) (by omega) (by omega)]
      by_cases z : ecP D n a = true
      · rw [if_pos z, zf_pos z]
      · rw [if_neg z, zf_neg z]
        exact ih (a + 1) fu (by omega) (by omega)
  have l7 : ∀ (n fu : Nat), 2 * n ≤ D 1 → n < fu → X11_echoOf_l7 N h fu 237 v (nI n) = some (match ecV D n with | none => if v = 0 then 0 else -1 | some (a, n) => if v = 0 then nI n else nI a) := by
    intro n
    induction n with
    | zero =>
      intro fu _ hf
      obtain ⟨fu, rfl, _⟩ := fuel hf
      rw [X11_echoOf_l7, if_pos (by decide)]
      simp only [ecV]
      by_cases y : v = 0
      · rw [if_pos y, if_pos y]
      · rw [if_neg y, if_neg y]
    | succ n ih =>
      intro fu hn hf
      obtain ⟨fu, rfl, _⟩ := fuel hf
      rw [X11_echoOf_l7, if_neg (nI_nle (by omega) (by omega)), show X11_echoOf_l13 N h (X11_echoOf_l7 N h fu) N 237 v (nI (n + 1)) 0 = _ from l13 _ (n + 1) (by omega) (D 1 + 1 - 2 * (n + 1)) 0 N (by omega) (by omega), ecV, pk_m1]
      cases zf (ecP D (n + 1)) (D 1 + 1 - 2 * (n + 1)) 0 with
      | none => exact ih fu (by omega) (by omega)
      | some a => rfl
  unfold X11_echoOf
  rw [rh1 c, show nI (D 1) / 2 = nI (D 1 / 2) from pk_div (d := 2) (by omega) (by decide) (by decide)]
  exact l7 (D 1 / 2) N (by omega) (by omega)
theorem ec_lt (D : Nat → Nat) (hD : D 1 ≤ 8) : ∀ n, n ≤ 4 → ∀ a m, ecV D n = some (a, m) → a ≤ 8 ∧ m ≤ 4 := by
  intro n
  induction n with
  | zero => intro _ a m h; cases h
  | succ n ih =>
    intro hn a m h
    rw [ecV] at h
    rcases zf_spec (P := ecP D (n + 1)) (D 1 + 1 - 2 * (n + 1)) 0 with ⟨a1, _⟩ | ⟨s, a1, a2, a3, _⟩
    · rw [a1] at h; exact ih (by omega) a m h
    · rw [a1] at h
      injection h with h
      injection h with h1 h2
      omega
end ROO
theorem q_roof {N : Nat} {h : HS} (I : INV h) (hN : 100 ≤ N) (a b : Int32) : ∃ r h2, X10_roof N h 1 a b = some r ∧ X11_roof N h 237 a b = some (r, h2) ∧ Same h h2 := by
  unfold X10_roof X11_roof
  rcases opn (N := N) I a with ⟨e1, e2⟩ | ⟨p, q, D, e1, hp, c, e2⟩
  · exact ⟨-2, h, by rw [e1]; rfl, by rw [e2 h (Same.refl h)]; rfl, Same.refl h⟩
  · obtain ⟨h2, e3, rh, sm, _⟩ := e2 h (Same.refl h)
    have hk := hk0 c.2.1
    have hcl := cl_is c.2.1
    rw [e1, bd1_some, if_neg hp, e3, bd2_some, if_neg one0]
    have pe := pack_e (clV D).2.1 (by have := hcl.2.1; omega) (clV D).1 (by have := hcl.1; omega)
    by_cases y0 : b = 0
    · subst y0
      refine ⟨_, h2, by rw [if_pos rfl, c_quietest c hN]; rfl, by rw [if_pos rfl, r_quietest rh hN]; rfl, sm⟩
    by_cases y1 : b = 1
    · subst y1
      refine ⟨up D 0, h2, ?_, ?_, sm⟩
      · rw [if_neg one0, if_pos rfl, show X1_from N h p 0 = _ from c_from c 0, bd1_some, c_up c hN (Nat.zero_le _)]; rfl
      · rw [if_neg one0, if_pos rfl, show X11_upFrom N h2 237 0 = _ from r_upFrom rh hN (g := 0) (Nat.zero_le _)]; rfl
    by_cases y2 : b = 2
    · subst y2
      refine ⟨rents D, h2, ?_, ?_, sm⟩
      · rw [if_neg (by decide), if_neg (by decide), if_pos rfl, show X1_from N h p 0 = _ from c_from c 0, bd1_some, c_rents c hN]; rfl
      · rw [if_neg (by decide), if_neg (by decide), if_pos rfl, r_rentsOf rh hN]; rfl
    by_cases y3 : b = 3
    · subst y3
      refine ⟨nI (clV D).1, h2, ?_, ?_, sm⟩
      · rw [if_neg (by decide), if_neg (by decide), if_neg (by decide), if_pos rfl, c_climb c hN, bd1_some, pe.2.1]
      · rw [if_neg (by decide), if_neg (by decide), if_neg (by decide), if_pos rfl, if_neg (by decide), r_climb rh hN]; rfl
    by_cases y4 : b = 4
    · subst y4
      refine ⟨nI (clV D).2.1 - 1, h2, ?_, ?_, sm⟩
      · rw [if_neg (by decide), if_neg (by decide), if_neg (by decide), if_neg (by decide), if_pos rfl, c_climb c hN, bd1_some, pe.2.2]
      · rw [if_neg (by decide), if_neg (by decide), if_neg (by decide), if_neg (by decide), if_pos rfl, if_pos rfl, r_climb rh hN]; rfl
    by_cases y5 : b = 5
    · subst y5
      refine ⟨match ecV D (D 1 / 2) with | none => 0 | some (a, n) => nI n, h2, ?_, ?_, sm⟩
      · rw [if_neg (by decide), if_neg (by decide), if_neg (by decide), if_neg (by decide), if_neg (by decide), if_pos rfl, c_echo c hN, bd1_some]
        cases hec : ecV D (D 1 / 2) with
        | none => rfl
        | some an =>
          obtain ⟨a1, n1⟩ := an
          have := ec_lt D (by omega) _ (by omega) a1 n1 hec
          exact congrArg some (pack_e (a1 + 1) (by omega) n1 (by omega)).2.1
      · rw [if_neg (by decide), if_neg (by decide), if_neg (by decide), if_neg (by decide), if_neg (by decide), if_pos rfl, if_neg (by decide), r_echo rh hN, bd1_some]
        cases ecV D (D 1 / 2) with
        | none => rfl
        | some an => rfl
    by_cases y6 : b = 6
    · subst y6
      refine ⟨match ecV D (D 1 / 2) with | none => -1 | some (a, n) => nI a, h2, ?_, ?_, sm⟩
      · rw [if_neg (by decide), if_neg (by decide), if_neg (by decide), if_neg (by decide), if_neg (by decide), if_neg (by decide), if_pos rfl, c_echo c hN, bd1_some]
        cases hec : ecV D (D 1 / 2) with
        | none => rfl
        | some an =>
          obtain ⟨a1, n1⟩ := an
          have := ec_lt D (by omega) _ (by omega) a1 n1 hec
          show some (nI (16 * (a1 + 1) + n1) >>> ((4 : Int32) &&& 31) - 1) = some (nI a1)
          rw [(pack_e (a1 + 1) (by omega) n1 (by omega)).2.2, nI_pred]
      · rw [if_neg (by decide), if_neg (by decide), if_neg (by decide), if_neg (by decide), if_neg (by decide), if_neg (by decide), if_pos rfl, if_pos rfl, r_echo rh hN, bd1_some]
        cases ecV D (D 1 / 2) with
        | none => rfl
        | some an => rfl
    rw [if_neg y0, if_neg y1, if_neg y2, if_neg y3, if_neg y4, if_neg y5, if_neg y6, if_neg y0, if_neg y1, if_neg y2, if_neg y3, if_neg y4, if_neg y5, if_neg y6]
    have out : ∀ x : Int32, b - 10 = x → (b < 10 ∨ X1_hasBar N h p x = some 0) → X11_isBar N h2 237 x = some 0 → ∃ r h2_1, (if b < 10 then some (-2) else bd1 (X1_hasBar N h p (b - 10)) fun r42 => (if r42 = 0 then some (-2 : Int32) else bd1 (X1_roofOf N h p (b - 10)) fun r46 => some r46)) = some r ∧ (bd1 (X11_isBar N h2 237 (b - 10)) fun r50 => (if r50 = 0 then some ((-2 : Int32), h2) else bd1 (X11_roofOf N h2 237 (b - 10)) fun r54 => some (r54, h2))) = some (r, h2_1) ∧ Same h h2_1 := by
      intro x hx h1 h3
      refine ⟨-2, h2, ?_, ?_, sm⟩
      · by_cases z : b < 10
        · rw [if_pos z]
        · rw [if_neg z, hx, h1.resolve_left z]; rfl
      · rw [hx, h3]; rfl
    by_cases z : b < 10
    · refine out (b - 10) rfl (Or.inl z) ?_
      unfold X11_isBar
      rw [r_isIn, bd1_some, nz_nB, rh1 rh, nB_f]
      intro w
      obtain ⟨j, hj, e⟩ := (in0 (by omega)).mp w
      have hb : b = nI (j + 10) := by
        have : b = (b - 10) + 10 := by rw [Int32.sub_add_cancel]
        rw [this, e, zn10, nI_add]
      rw [hb] at z
      exact nI_nlt (b := 10) (a := j + 10) (by omega) (by omega) z
    · have hnn : ¬ b < 0 := fun w => z (neg_lt w (k := 10) (by decide))
      obtain ⟨j, hj, rfl⟩ := nI_of hnn
      have j10 : 10 ≤ j := by
        by_cases w : 10 ≤ j
        · exact w
        · exact absurd (nI_lt (b := 10) (by omega) (by decide)) z
      have es : nI j - 10 = nI (j - 10) := pk_sub (b := 10) j10
      by_cases w : j - 10 < D 1
      · refine ⟨roofV D (j - 10), h2, ?_, ?_, sm⟩
        · rw [if_neg z, es, c_hasBar c (by omega), bd1_some, nB_t w, if_neg one0, c_roofOf c hN w]; rfl
        · rw [es, r_isBar rh (by omega), bd1_some, nB_t w, if_neg one0, r_roofOf rh hN w]; rfl
      · exact out _ es (Or.inr (by rw [c_hasBar c (by omega), nB_f w])) (by rw [r_isBar rh (by omega), nB_f w])
