/-! ===== level 2: shift, tuned, range, choir ===== -/
theorem q_shift {N : Nat} {h : HS} (I : INV h) (hN : 100 ≤ N) (a b : Int32) : ∃ r h2, X10_shift N h 1 a b = some r ∧ X11_shift N h 237 a b = some (r, h2) ∧ Same h h2 := by
  unfold X10_shift X11_shift
  rcases opn (N := N) I a with ⟨e1, e2⟩ | ⟨p, q, D, e1, hp, c, e2⟩
  · exact ⟨-1, h, by rw [e1]; rfl, by rw [e2 h (Same.refl h)]; rfl, Same.refl h⟩
  · obtain ⟨h2, e3, rh, sm, _⟩ := e2 h (Same.refl h)
    rw [e1, bd1_some, if_neg hp]
    by_cases z : (-8 : Int32) ≤ b ∧ b ≤ 8
    · refine ⟨nI (shV D b), h2, ?_, ?_, sm⟩
      · rw [if_neg (fun w => by have h1 := Int32.lt_iff_toInt_lt.mp w; have h2 := Int32.le_iff_toInt_le.mp z.1; omega), if_pos z.2, c_reachedBy c hN]; rfl
      · rw [e3, bd2_some, if_neg one0, r_isIn, bd1_some, nB_t z, if_neg one0, r_shiftedBy rh hN]; rfl
    · refine ⟨-1, h2, ?_, ?_, sm⟩
      · by_cases y : b < -8
        · rw [if_pos y]
        · rw [if_neg y]
          by_cases x : b ≤ 8
          · exfalso
            apply z
            refine ⟨?_, x⟩
            rw [Int32.le_iff_toInt_le]
            rw [Int32.lt_iff_toInt_lt] at y
            omega
          · rw [if_neg x]
      · rw [e3, bd2_some, if_neg one0, r_isIn, bd1_some, nB_f z]; rfl
def tS (D : Nat → Nat) (d : Nat) (u : Int32) : Int32 := if shV D (nI d) ≤ shV D u then (if shV D (-(nI d)) ≤ shV D u then u else -(nI d)) else (if shV D (-(nI d)) ≤ shV D (nI d) then nI d else -(nI d))
theorem q_tuned {N : Nat} {h : HS} (I : INV h) (hN : 100 ≤ N) (a : Int32) : ∃ r h2, X10_tuned N h 1 a = some r ∧ X11_tuned N h 237 a = some (r, h2) ∧ Same h h2 := by
  unfold X10_tuned X11_tuned
  rcases opn (N := N) I a with ⟨e1, e2⟩ | ⟨p, q, D, e1, hp, c, e2⟩
  · exact ⟨-99, h, by rw [e1]; rfl, by rw [e2 h (Same.refl h)]; rfl, Same.refl h⟩
  · obtain ⟨h2, e3, rh, sm, _⟩ := e2 h (Same.refl h)
    have le : ∀ x y : Int32, (nI (shV D x) ≤ nI (shV D y)) = (shV D x ≤ shV D y) := fun x y => propext (nI_leI (by have := shV_le c.2.1 x; omega) (by have := shV_le c.2.1 y; omega))
    rw [e1, bd1_some, if_neg hp, e3, bd2_some, if_neg one0]
    refine ⟨zl (tS D) 8 1 0, h2, ?_, ?_, sm⟩
    · have key := lp (F := fun n i (u : Int32) => X10_tuned_l21 N h n p u (nI i)) (f := tS D) (g := fun u => some u) (M := 9) (by
        intro n i u hi
        show X10_tuned_l21 N h (n + 1) p u (nI i) = X10_tuned_l21 N h n p (tS D i u) (nI (i + 1))
        rw [X10_tuned_l21, if_neg (show ¬ (8 : Int32) < nI i from nI_nlt (a := 8) (by omega) (by decide))]
        simp only [c_reachedBy c hN, bd1_some, le, nI_1]
        unfold tS
        by_cases z : shV D (nI i) ≤ shV D u
        · rw [if_pos z, if_pos z]
          by_cases y : shV D (-(nI i)) ≤ shV D u
          · rw [if_pos y, if_pos y]
          · rw [if_neg y, if_neg y]
        · rw [if_neg z, if_neg z]
          by_cases y : shV D (-(nI i)) ≤ shV D (nI i)
          · rw [if_pos y, if_pos y]
          · rw [if_neg y, if_neg y]) (by
        intro n u
        show X10_tuned_l21 N h (n + 1) p u (nI 9) = _
        rw [X10_tuned_l21, if_pos (by decide)]) 8 1 N 0 (by omega) (by omega)
      exact key
    · have key := lp (F := fun n i (u : Int32) => X11_tuned_l15 N n h2 237 u (nI i)) (f := tS D) (g := fun u => some (u, h2)) (M := 9) (by
        intro n i u hi
        show X11_tuned_l15 N (n + 1) h2 237 u (nI i) = X11_tuned_l15 N n h2 237 (tS D i u) (nI (i + 1))
        rw [X11_tuned_l15, if_neg (show ¬ (9 : Int32) ≤ nI i from nI_ge (b := 9) (by omega) (by decide))]
        unfold X11_tuned_b39
        simp only [r_shiftedBy rh hN, bd1_some, le, nI_1]
        unfold tS
        by_cases z : shV D (nI i) ≤ shV D u
        · rw [if_pos z, if_pos z]
          by_cases y : shV D (-(nI i)) ≤ shV D u
          · rw [if_pos y, if_pos y]
          · rw [if_neg y, if_neg y]
        · rw [if_neg z, if_neg z]
          by_cases y : shV D (-(nI i)) ≤ shV D (nI i)
          · rw [if_pos y, if_pos y]
          · rw [if_neg y, if_neg y]) (by
        intro n u
        show X11_tuned_l15 N (n + 1) h2 237 u (nI 9) = _
        rw [X11_tuned_l15, if_pos (by decide)]) 8 1 N 0 (by omega) (by omega)
      exact key
section CHO
variable {N : Nat} {h : HS} {p q : Nat} {D : Nat → Nat}
theorem cnt_nO (k : HK D) (w : Nat) : cnt10 (nO D w) = zl (fun n a => if rB D w n = true then a + 1 else a) 9 1 0 := by
  have b0 : nO D w / 2 ^ 0 % 2 = 0 := by
    have := nO_bit k w 0
    rw [tb_e] at this
    have h2 : nO D w / 2 ^ 0 % 2 < 2 := Nat.mod_lt _ (by decide)
    have h3 : ¬ nO D w / 2 ^ 0 % 2 = 1 := by
      intro e
      rw [decide_eq_true e] at this
      have := of_decide_eq_true this.symm
      omega
    omega
  unfold cnt10
  rw [show zl (fun k a => a + nO D w / 2 ^ k % 2) 10 0 0 = zl (fun k a => a + nO D w / 2 ^ k % 2) 9 1 (0 + nO D w / 2 ^ 0 % 2) from rfl, b0]
  apply zl_congr
  intro j h1 h2 a
  have hb := nO_bit k w j
  rw [tb_e] at hb
  have h3 : nO D w / 2 ^ j % 2 < 2 := Nat.mod_lt _ (by decide)
  by_cases z : rB D w j = true
  · rw [if_pos z]
    have : nO D w / 2 ^ j % 2 = 1 := by
      rw [decide_eq_true (show 1 ≤ j ∧ j < 10 ∧ rB D w j = true from ⟨h1, by omega, z⟩)] at hb
      exact of_decide_eq_true hb
    rw [this]
  · rw [if_neg z]
    have : ¬ nO D w / 2 ^ j % 2 = 1 := by
      intro e
      rw [decide_eq_true e] at hb
      exact z (of_decide_eq_true hb.symm).2.2
    rw [show nO D w / 2 ^ j % 2 = 0 by omega]; rfl
theorem r_range (c : RH h q D) (hN : 100 ≤ N) {w : Nat} (hw : w < 2 ^ 31) : X11_range_l27 N N h 237 (nI w) 0 1 = some (nI (cnt10 (nO D w)), h) := by
  have hk := hk0 c.1
  have l40 : ∀ (K27 : HS → Nat → Int32 → Int32 → Int32 → Option (Int32 × HS)) (a n : Nat), n < 10 → X11_range_l40 N K27 N h 237 (nI w) (nI a) (nI n) 0 0 = K27 h 237 (nI w) (nI (if rB D w n = true then a + 1 else a)) (nI (n + 1)) := by
    intro K27 a n hn
    have key : ∀ (r i fu : Nat) (b : Bool), i + r = D 2 → r < fu → X11_range_l40 N K27 fu h 237 (nI w) (nI a) (nI n) (nB (b = true)) (nI i) = K27 h 237 (nI w) (nI (if (b || anyB (fun s => w.testBit s && decide (zre D s n 0)) r i) = true then a + 1 else a)) (nI (n + 1)) := by
      intro r
      induction r with
      | zero =>
        intro i fu b e hf
        obtain ⟨fu, rfl, _⟩ := fuel hf
        rw [X11_range_l40, rh2 c, if_pos (nI_le (by omega) (by omega)), Int32.add_zero, nI_1, nI_1]
        simp only [nB_0, anyB, Bool.or_false]
        cases b with
        | true => rw [if_neg (by decide), if_pos rfl]
        | false => rw [if_pos (by decide), if_neg (by decide)]
      | succ r ih =>
        intro i fu b e hf
        obtain ⟨fu, rfl, _⟩ := fuel hf
        have i0 := ih (i + 1) fu false (by omega) (by omega)
        have i1 := ih (i + 1) fu true (by omega) (by omega)
        rw [nB_f (by decide), Bool.false_or] at i0
        rw [nB_t rfl, Bool.true_or] at i1
        rw [X11_range_l40, rh2 c, if_neg (nI_ge (by omega) (by omega)), bi_n hw (by omega), show X11_reaches N h 237 (nI i) (nI n) 0 = _ from r_reachesN (k := 0) c (show i < D 2 by omega) (by omega) (by decide), bd1_some, nI_1, i0, i1, anyB]
        simp only [nB_0, nB_1]
        cases b with
        | true => rw [if_neg (by decide)]; simp
        | false =>
          rw [if_pos (by decide)]
          by_cases z : w.testBit i = true
          · rw [if_pos z]
            by_cases y : zre D i n 0
            · rw [if_neg (fun v => v y), decide_eq_true y, z]; simp
            · rw [if_pos y, decide_eq_false y, z]; simp
          · rw [if_neg z]
            have z' : w.testBit i = false := by simpa using z
            rw [z']; simp
    have := key (D 2) 0 N false (by omega) (by omega)
    rw [nB_f (by decide), Bool.false_or] at this
    exact this
  have key := lp (F := fun n i (a : Nat) => X11_range_l27 N n h 237 (nI w) (nI a) (nI i)) (f := fun n a => if rB D w n = true then a + 1 else a) (g := fun a => some (nI a, h)) (M := 10) (by
    intro n i a hi
    show X11_range_l27 N (n + 1) h 237 (nI w) (nI a) (nI i) = X11_range_l27 N n h 237 (nI w) (nI (if rB D w i = true then a + 1 else a)) (nI (i + 1))
    rw [X11_range_l27, if_neg (show ¬ (10 : Int32) ≤ nI i from nI_ge (b := 10) hi (by decide)), l40 _ a i hi]) (by
    intro n a
    show X11_range_l27 N (n + 1) h 237 (nI w) (nI a) (nI 10) = _
    rw [X11_range_l27, if_pos (by decide)]) 9 1 N 0 (by omega) (by omega)
  rw [cnt_nO c.1]
  exact key
theorem ev_sub (k : HK D) {j : Nat} (hj : j < 2 ^ 31) : (∀ k, j.testBit k = true → (EV D).testBit k = true) ↔ j ≤ EV D := by
  have hM : EV D + 1 = 2 ^ D 2 := by unfold EV; have := Nat.pow_pos (a := 2) (n := D 2) (by decide); omega
  constructor
  · intro h
    have : j < 2 ^ D 2 := Nat.lt_pow_two_of_testBit j (fun i hi => by
      by_cases z : j.testBit i = true
      · have := h i z
        rw [ev_bit] at this
        have := of_decide_eq_true this
        omega
      · simpa using z)
    omega
  · intro h k hk
    rw [ev_bit]
    apply decide_eq_true
    by_cases z : k < D 2
    · exact z
    · rw [Nat.testBit_lt_two_pow (Nat.lt_of_lt_of_le (show j < 2 ^ D 2 by omega) (Nat.pow_le_pow_right (n := 2) (by decide) (show D 2 ≤ k by omega)))] at hk
      exact Bool.noConfusion hk
end CHO
theorem q_range {N : Nat} {h : HS} (I : INV h) (hN : 100 ≤ N) (a b : Int32) : ∃ r h2, X10_range N h 1 a b = some r ∧ X11_range N h 237 a b = some (r, h2) ∧ Same h h2 := by
  unfold X10_range X11_range
  rcases opn (N := N) I a with ⟨e1, e2⟩ | ⟨p, q, D, e1, hp, c, e2⟩
  · exact ⟨-1, h, by rw [e1]; rfl, by rw [e2 h (Same.refl h)]; rfl, Same.refl h⟩
  · obtain ⟨h2, e3, rh, sm, _⟩ := e2 h (Same.refl h)
    have he := ev_lt c.2.1
    rw [e1, bd1_some, if_neg hp, c_everybody c, bd1_some]
    rcases i_cases b with z | ⟨j, hj, rfl⟩
    · refine ⟨-1, h2, ?_, ?_, sm⟩
      · rw [if_neg (andn_neg z (by omega))]
      · rw [e3, bd2_some, if_neg one0, r_everybody rh, bd1_some, r_isIn, bd1_some, inneg z]; rfl
    · by_cases y : j ≤ EV D
      · have hn := nO_lt D j
        refine ⟨nI (cnt10 (nO D j)), h2, ?_, ?_, sm⟩
        · rw [if_pos ((andn0 hj).mpr ((ev_sub c.2.1 hj).mpr y)), c_notesOf c hN hj, bd1_some, bc_e (by omega)]; rfl
        · rw [e3, bd2_some, if_neg one0, r_everybody rh, bd1_some, r_isIn, bd1_some, nB_t ⟨nI_pos' hj, nI_le y (by omega)⟩, if_neg one0, r_range rh hN hj]
      · refine ⟨-1, h2, ?_, ?_, sm⟩
        · rw [if_neg (fun w => y ((ev_sub c.2.1 hj).mp ((andn0 hj).mp w)))]
        · rw [e3, bd2_some, if_neg one0, r_everybody rh, bd1_some, r_isIn, bd1_some, nB_f (fun w => y ((nI_leI hj (by omega)).mp w.2))]; rfl
section CHP
variable {N : Nat} {h : HS} {p q : Nat} {D : Nat → Nat}
abbrev nsS (D : Nat → Nat) (b v : Nat) : Nat := if zsn D b then v ||| 2 ^ D (17 + 4 * b) else v
def nS (D : Nat → Nat) : Nat := zl (nsS D) 8 0 0
theorem nS_bit (n : Nat) : (nS D).testBit n = true ↔ ∃ b, b < 8 ∧ zsn D b ∧ D (17 + 4 * b) = n := by
  have key : ∀ (r i v : Nat), (zl (nsS D) r i v).testBit n = true ↔ (v.testBit n = true ∨ ∃ b, i ≤ b ∧ b < i + r ∧ zsn D b ∧ D (17 + 4 * b) = n) := by
    intro r
    induction r with
    | zero =>
      intro i v
      simp only [zl]
      exact ⟨fun h => Or.inl h, fun h => h.elim id (fun h => by obtain ⟨t, h1, h2, _⟩ := h; omega)⟩
    | succ r ih =>
      intro i v
      simp only [zl]
      rw [ih]
      have e : (nsS D i v).testBit n = true ↔ (v.testBit n = true ∨ (zsn D i ∧ D (17 + 4 * i) = n)) := by
        by_cases z : zsn D i
        · rw [nsS, if_pos z, tb_or2, Bool.or_eq_true, decide_eq_true_iff]
          exact ⟨fun h => h.elim Or.inl (fun h => Or.inr ⟨z, h⟩), fun h => h.elim Or.inl (fun h => Or.inr h.2)⟩
        · rw [nsS, if_neg z]
          exact ⟨Or.inl, fun h => h.elim id (fun h => absurd h.1 z)⟩
      rw [e]
      constructor
      · rintro ((h0 | h1) | ⟨b, h1, h2, h3, h4⟩)
        · exact Or.inl h0
        · exact Or.inr ⟨i, by omega, by omega, h1⟩
        · exact Or.inr ⟨b, by omega, by omega, h3, h4⟩
      · rintro (h0 | ⟨b, h1, h2, h3, h4⟩)
        · exact Or.inl (Or.inl h0)
        · by_cases y : b = i
          · subst y; exact Or.inl (Or.inr ⟨h3, h4⟩)
          · exact Or.inr ⟨b, by omega, by omega, h3, h4⟩
  unfold nS
  rw [key, Nat.zero_testBit]
  constructor
  · rintro (h0 | ⟨b, h1, h2, h3, h4⟩)
    · exact Bool.noConfusion h0
    · exact ⟨b, by omega, h3, h4⟩
  · rintro ⟨b, h1, h2, h3⟩
    exact Or.inr ⟨b, by omega, by omega, h2, h3⟩
theorem nS_lt (k : HK D) : nS D < 2 ^ 10 := by
  have := zl_inv (f := nsS D) (fun _ v => v < 2 ^ 10) 8 0 0 (by decide) (fun b _ _ v hv => by
    show nsS D b v < 2 ^ 10
    by_cases z : zsn D b
    · have := hkB k z.1
      rw [nsS, if_pos z]; exact or_lt 10 hv (by omega)
    · rw [nsS, if_neg z]; exact hv)
  exact this
theorem c_notesSung (c : KH h p D) (hN : 100 ≤ N) : X1_notesSung N h p = some (nI (nS D)) := by
  have hk := hk0 c.2.1
  have key := lp (F := fun n i (a : Nat) => X1_notesSung_l4 N h n p (nI a) (nI i)) (f := nsS D) (g := fun a => some (nI a)) (M := 8) (by
    intro n i a hi
    show X1_notesSung_l4 N h (n + 1) p (nI a) (nI i) = X1_notesSung_l4 N h n p (nI (nsS D i a)) (nI (i + 1))
    rw [X1_notesSung_l4, if_neg (show ¬ (8 : Int32) ≤ nI i from nI_ge (b := 8) hi (by decide)), c_sounds c (by omega), bd1_some, nI_1, if_neg (nI_in hi (by decide)), nI_clamp (by omega)]
    simp only [nB_0]
    by_cases z : zsn D i
    · have hB := hkB c.2.1 z.1
      rw [if_neg (fun w => w z), chNo c z.1, one_shl _ (by omega), nx_or, nsS, if_pos z]
    · rw [if_pos z, nsS, if_neg z]) (by
    intro n a
    show X1_notesSung_l4 N h (n + 1) p (nI a) (nI 8) = _
    rw [X1_notesSung_l4, if_pos (by decide)]) 8 0 N 0 (by omega) (by omega)
  exact key
def chB (D : Nat → Nat) (t : Nat) : Bool := !anyB (fun b => decide (¬ D (17 + 4 * b) = 0) && !rB D t (D (17 + 4 * b))) (D 1) 0
theorem ch_iff (k : HK D) (t : Nat) : (nI (nS D) &&& (nI (nO D t) ^^^ (-1)) = 0) ↔ chB D t = true := by
  have hk := hk0 k
  have hs := nS_lt k
  rw [andn0 (by omega)]
  unfold chB
  rw [Bool.not_eq_true', ← Bool.not_eq_true, anyB_iff]
  constructor
  · rintro h ⟨b, h1, h2, h3⟩
    simp at h3
    have hB := hkB k (show b < D 1 by omega)
    have := h (D (17 + 4 * b)) (nS_bit _ |>.mpr ⟨b, by omega, ⟨by omega, h3.1⟩, rfl⟩)
    rw [nO_bit k] at this
    have := (of_decide_eq_true this).2.2
    rw [h3.2] at this
    exact Bool.noConfusion this
  · intro h n hn
    obtain ⟨b, h1, h2, h3⟩ := nS_bit n |>.mp hn
    have hB := hkB k h2.1
    have h4 := h2.2
    rw [nO_bit k]
    apply decide_eq_true
    refine ⟨by omega, by omega, ?_⟩
    by_cases z : rB D t n = true
    · exact z
    · exfalso
      apply h
      refine ⟨b, by omega, by have := h2.1; omega, ?_⟩
      rw [h3]
      simp only [Bool.and_eq_true, decide_eq_true_iff]
      exact ⟨by omega, by simpa using z⟩
theorem c_choir (c : KH h p D) (hN : 100 ≤ N) : X10_smallestChoir N h p = some (oI (zl (bst (chB D)) (EV D + 1) 0 none)) := by
  have hk := hk0 c.2.1
  have he := ev_lt c.2.1
  unfold X10_smallestChoir
  rw [c_notesSung c hN, bd1_some]
  have key := lpI (F := fun n i (o : Option Nat) => X10_smallestChoir_l9 N h n p (nI (nS D)) (oI o) (nI i)) (f := bst (chB D)) (g := fun o => some (oI o)) (M := EV D + 1) (fun i o => ∀ s, o = some s → s < i) (by
    intro n i o hi ho
    refine ⟨?_, ?_⟩
    · show X10_smallestChoir_l9 N h (n + 1) p (nI (nS D)) (oI o) (nI i) = X10_smallestChoir_l9 N h n p (nI (nS D)) (oI (bst (chB D) i o)) (nI (i + 1))
      rw [X10_smallestChoir_l9, c_everybody c, bd1_some, if_neg (nI_nlt (by omega) (by omega)), c_notesOf c hN (by omega), bd1_some]
      unfold X10_smallestChoir_b34
      rw [nI_1]
      by_cases z : chB D i = true
      · rw [if_pos ((ch_iff c.2.1 i).mpr z), if_neg one0]
        cases o with
        | none => rw [if_pos (show oI none = -1 from rfl)]; simp only [bst]; rw [if_pos z]; rfl
        | some s =>
          have hs := ho s rfl
          have c1 := cnt10_lt s
          have c2 := cnt10_lt i
          rw [show oI (some s) = nI s from rfl, if_neg (nI_m1 (by omega)), bc_e (by omega), bd1_some, bc_e (by omega), bd1_some]
          simp only [bst]
          by_cases y : cnt10 s ≤ cnt10 i
          · rw [if_pos (nI_le y (by omega)), if_pos y]; rfl
          · rw [if_neg (nI_ge (by omega) (by omega)), if_neg y, if_pos z]; rfl
      · rw [if_neg (fun w => z ((ch_iff c.2.1 i).mp w)), if_pos rfl]
        cases o with
        | none => simp only [bst]; rw [if_neg z]
        | some s =>
          simp only [bst]
          by_cases y : cnt10 s ≤ cnt10 i
          · rw [if_pos y]
          · rw [if_neg y, if_neg z]
    · intro s hs
      cases o with
      | none =>
        simp only [bst] at hs
        by_cases z : chB D i = true
        · rw [if_pos z] at hs; cases hs; omega
        · rw [if_neg z] at hs; cases hs
      | some t =>
        have ht := ho t rfl
        simp only [bst] at hs
        by_cases y : cnt10 t ≤ cnt10 i
        · rw [if_pos y] at hs; cases hs; omega
        · rw [if_neg y] at hs
          by_cases z : chB D i = true
          · rw [if_pos z] at hs; cases hs; omega
          · rw [if_neg z] at hs; cases hs; omega) (by
    intro n o _
    show X10_smallestChoir_l9 N h (n + 1) p (nI (nS D)) (oI o) (nI (EV D + 1)) = _
    rw [X10_smallestChoir_l9, c_everybody c, bd1_some, if_pos (nI_lt (by omega) (by omega))]) (EV D + 1) 0 N none (fun s h => by cases h) (by omega) (by omega)
  exact key.1
theorem r_sounds (c : RH h q D) (hN : 100 ≤ N) {t : Nat} (ht : t < 2 ^ 31) : X11_sounds N h 237 (nI t) = some (nB (chB D t = true)) := by
  have hk := hk0 c.1
  have l30 : ∀ (K4 : Nat → Int32 → Int32 → Int32 → Option Int32) (b : Bool) (i : Nat) (a : Bool), i < D 1 → X11_sounds_l30 N h K4 N 237 (nI t) (nB (b = true)) (nI i) (nB (a = true)) 0 = K4 237 (nI t) (nB ((b && (a || rB D t (D (17 + 4 * i)))) = true)) (nI (i + 1)) := by
    intro K4 b i a hi
    have hB := hkB c.1 hi
    have key : ∀ (r s fu : Nat) (a : Bool), s + r = D 2 → r < fu → X11_sounds_l30 N h K4 fu 237 (nI t) (nB (b = true)) (nI i) (nB (a = true)) (nI s) = K4 237 (nI t) (nB ((b && (a || anyB (fun s => t.testBit s && decide (zre D s (D (17 + 4 * i)) 0)) r s)) = true)) (nI (i + 1)) := by
      intro r
      induction r with
      | zero =>
        intro s fu a e hf
        obtain ⟨fu, rfl, _⟩ := fuel hf
        rw [X11_sounds_l30, rh2 c, if_pos (nI_le (by omega) (by omega)), nI_1]
        simp only [nB_0, anyB, Bool.or_false]
        cases b with
        | false => rw [if_pos (by decide), nB_f (by simp)]
        | true =>
          rw [if_neg (by decide)]
          cases a with
          | false => rw [if_pos (by decide), nB_f (by simp)]
          | true => rw [if_neg (by decide), nB_t (by simp)]
      | succ r ih =>
        intro s fu a e hf
        obtain ⟨fu, rfl, _⟩ := fuel hf
        have i0 := ih (s + 1) fu false (by omega) (by omega)
        have i1 := ih (s + 1) fu true (by omega) (by omega)
        rw [nB_f (show ¬ (false = true) by decide)] at i0
        rw [nB_t (show (true = true) from rfl)] at i1
        rw [X11_sounds_l30, rh2 c, if_neg (nI_ge (by omega) (by omega)), bi_n ht (by omega), r_noteOf c (by omega), bd1_some, show X11_reaches N h 237 (nI s) (nI (D (17 + 4 * i))) 0 = _ from r_reachesN (k := 0) c (show s < D 2 by omega) (by omega) (by decide), bd1_some, nI_1, i0, i1, anyB]
        simp only [nB_0, nB_1]
        cases a with
        | true => rw [if_neg (by decide)]; simp
        | false =>
          rw [if_pos (by decide)]
          by_cases z : t.testBit s = true
          · rw [if_pos z]
            by_cases y : zre D s (D (17 + 4 * i)) 0
            · rw [if_neg (fun v => v y), decide_eq_true y, z]; simp
            · rw [if_pos y, decide_eq_false y, z]; simp
          · rw [if_neg z]
            have z' : t.testBit s = false := by simpa using z
            rw [z']; simp
    exact key (D 2) 0 N a (by omega) (by omega)
  have key : ∀ (r i fu : Nat) (b : Bool), i + r = D 1 → r < fu → X11_sounds_l4 N h fu 237 (nI t) (nB (b = true)) (nI i) = some (nB ((b && !anyB (fun b => decide (¬ D (17 + 4 * b) = 0) && !rB D t (D (17 + 4 * b))) r i) = true)) := by
    intro r
    induction r with
    | zero =>
      intro i fu b e hf
      obtain ⟨fu, rfl, _⟩ := fuel hf
      rw [X11_sounds_l4, rh1 c, if_pos (nI_le (by omega) (by omega)), nz_nB]
      simp [anyB]
    | succ r ih =>
      intro i fu b e hf
      obtain ⟨fu, rfl, _⟩ := fuel hf
      have hB := hkB c.1 (show i < D 1 by omega)
      rw [X11_sounds_l4, rh1 c, if_neg (nI_ge (by omega) (by omega)), r_noteOf c (by omega), bd1_some]
      by_cases z : D (17 + 4 * i) = 0
      · rw [if_pos (by rw [z]; rfl)]
        have e1 := l30 (X11_sounds_l4 N h fu) b i true (by omega)
        rw [nB_t (show (true = true) from rfl)] at e1
        rw [e1, ih (i + 1) fu _ (by omega) (by omega)]
        simp [anyB, z]
      · rw [if_neg (nI_ne0 (by omega) (by omega))]
        have e1 := l30 (X11_sounds_l4 N h fu) b i false (by omega)
        rw [nB_f (show ¬ (false = true) by decide)] at e1
        rw [e1, ih (i + 1) fu _ (by omega) (by omega)]
        cases hr : rB D t (D (17 + 4 * i)) <;> simp [anyB, z, hr]
  have := key (D 1) 0 N true (by omega) (by omega)
  rw [nB_t rfl, Bool.true_and] at this
  exact this
theorem r_choir (c : RH h q D) (hN : 100 ≤ N) (v : Int32) : X11_choir_l15 N N h 237 v (-1) 0 = some (finB v (zl (bst (chB D)) (EV D + 1) 0 none), h) := by
  have hk := hk0 c.1
  have he := ev_lt c.1
  have key : ∀ (r t fu : Nat) (o : Option Nat), t + r = EV D + 1 → r < fu → (∀ s, o = some s → s ≤ EV D) → X11_choir_l15 N fu h 237 v (oI o) (nI t) = some (finB v (zl (bst (chB D)) r t o), h) := by
    intro r
    induction r with
    | zero =>
      intro t fu o e hf ho
      obtain ⟨fu, rfl, _⟩ := fuel hf
      rw [X11_choir_l15, r_everybody c, bd1_some, if_pos (nI_lt (by omega) (by omega))]
      cases o with
      | none => rw [if_pos (by rfl)]; rfl
      | some s =>
        have hs := ho s rfl
        rw [show oI (some s) = nI s from rfl, if_neg (nI_m1 (by omega)), r_bitsOf (by omega) (by omega), bd1_some]
        simp only [zl, finB]
        by_cases z : v = 0
        · rw [if_pos z, if_pos z]
        · rw [if_neg z, if_neg z]
    | succ r ih =>
      intro t fu o e hf ho
      obtain ⟨fu, rfl, _⟩ := fuel hf
      rw [X11_choir_l15, r_everybody c, bd1_some, if_neg (nI_nlt (by omega) (by omega)), r_sounds c hN (by omega), bd1_some, nI_1]
      simp only [nB_0]
      cases o with
      | none =>
        rw [if_pos (show oI none = -1 from rfl)]
        simp only [zl, bst]
        by_cases z : chB D t = true
        · rw [if_neg (fun w => w z), if_pos z]
          exact ih (t + 1) fu (some t) (by omega) (by omega) (fun s h => by cases h; omega)
        · rw [if_pos z, if_neg z]
          exact ih (t + 1) fu none (by omega) (by omega) (fun s h => by cases h)
      | some s =>
        have hs := ho s rfl
        have c1 := cnt10_lt s
        have c2 := cnt10_lt t
        rw [show oI (some s) = nI s from rfl, if_neg (nI_m1 (by omega)), r_bitsOf (by omega) (by omega), bd1_some, r_bitsOf (by omega) (by omega), bd1_some]
        simp only [zl, bst]
        by_cases z : cnt10 s ≤ cnt10 t
        · rw [if_pos (nI_le z (by omega)), if_pos z]
          exact ih (t + 1) fu (some s) (by omega) (by omega) (fun s' h => by cases h; omega)
        · rw [if_neg (nI_ge (by omega) (by omega)), if_neg z]
          by_cases y : chB D t = true
          · rw [if_neg (fun w => w y), if_pos y]
            exact ih (t + 1) fu (some t) (by omega) (by omega) (fun s h => by cases h; omega)
          · rw [if_pos y, if_neg y]
            exact ih (t + 1) fu (some s) (by omega) (by omega) (fun s' h => by cases h; omega)
  exact key (EV D + 1) 0 N none (by omega) (by omega) (fun s h => by cases h)
end CHP
theorem q_choir {N : Nat} {h : HS} (I : INV h) (hN : 100 ≤ N) (a b : Int32) : ∃ r h2, X10_choir N h 1 a b = some r ∧ X11_choir N h 237 a b = some (r, h2) ∧ Same h h2 := by
  unfold X10_choir X11_choir
  rcases opn (N := N) I a with ⟨e1, e2⟩ | ⟨p, q, D, e1, hp, c, e2⟩
  · exact ⟨-1, h, by rw [e1]; rfl, by rw [e2 h (Same.refl h)]; rfl, Same.refl h⟩
  · obtain ⟨h2, e3, rh, sm, _⟩ := e2 h (Same.refl h)
    have he := ev_lt c.2.1
    rw [e1, bd1_some, if_neg hp]
    refine ⟨finB b (zl (bst (chB D)) (EV D + 1) 0 none), h2, ?_, ?_, sm⟩
    · rw [c_choir c hN, bd1_some]
      have hb := bst_is (chB D) (EV D + 1)
      generalize zl (bst (chB D)) (EV D + 1) 0 none = o at hb
      cases o with
      | none => rfl
      | some s =>
        have hs := (hb.2 s rfl).1
        rw [show oI (some s) = nI s from rfl, if_neg (nI_m1 (by omega)), bc_e (by omega), bd1_some]
        simp only [finB]
        by_cases z : b = 0
        · rw [if_pos z, if_pos z]
        · rw [if_neg z, if_neg z]
    · rw [e3, bd2_some, if_neg one0, r_choir rh hN b]
