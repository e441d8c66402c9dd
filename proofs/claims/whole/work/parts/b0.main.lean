/-! ===== level 2: the law, call by call (printed by wip/l2/mkmain.py) ===== -/
section MAI
variable {N L n i : Nat} {xs : Nat → Int32} {h : HS}
theorem mi_e (c : Nat) : nI i + nI c = nI (i + c) := nI_add i c
theorem mi_q {c : Nat} (h : i + c < 2 ^ 31) : (nI i + nI c).toNatClampNeg = i + c := by rw [nI_add, nI_clamp h]
theorem mi_p {c : Nat} (h : i + c < L) (hL : L ≤ 384) : (nI i + nI c < 0 ∨ L ≤ i + c) = False := by
  apply eq_false
  rintro (y | y)
  · rw [nI_add] at y; exact nI_pos (by omega) y
  · omega
theorem main_step (hN : 1000000000 ≤ N) (hL : L ≤ 384) (hi : i + 6 ≤ L) (I : INX h) : ∃ h', L_law_l18 xs L N (n + 1) h (nI i) = L_law_l18 xs L N n h' (nI (i + 6)) ∧ INX h' := by
  have q1 : (nI i + 1).toNatClampNeg = i + 1 := mi_q (c := 1) (by omega)
  have p1 : (nI i + 1 < 0 ∨ L ≤ i + 1) = False := mi_p (c := 1) (by omega) hL
  have q2 : (nI i + 2).toNatClampNeg = i + 2 := mi_q (c := 2) (by omega)
  have p2 : (nI i + 2 < 0 ∨ L ≤ i + 2) = False := mi_p (c := 2) (by omega) hL
  have q3 : (nI i + 3).toNatClampNeg = i + 3 := mi_q (c := 3) (by omega)
  have p3 : (nI i + 3 < 0 ∨ L ≤ i + 3) = False := mi_p (c := 3) (by omega) hL
  have q4 : (nI i + 4).toNatClampNeg = i + 4 := mi_q (c := 4) (by omega)
  have p4 : (nI i + 4 < 0 ∨ L ≤ i + 4) = False := mi_p (c := 4) (by omega) hL
  have q5 : (nI i + 5).toNatClampNeg = i + 5 := mi_q (c := 5) (by omega)
  have p5 : (nI i + 5 < 0 ∨ L ≤ i + 5) = False := mi_p (c := 5) (by omega) hL
  have e6 : nI i + 6 = nI (i + 6) := mi_e 6
  have hlt : ¬ nI L - 6 < nI i := by
    intro y
    have y1 := Int32.lt_iff_toInt_lt.mp y
    rw [show (6 : Int32) = nI 6 from rfl, pk_sub_toInt (by omega) (by decide), nI_toInt (by omega)] at y1
    omega
  rw [L_law_l18, if_neg hlt, if_neg (nI_in (by omega) (by omega)), nI_clamp (by omega)]
  generalize hop : (xs i) &&& 63 = op
  by_cases c0 : op = 0
  · rw [if_pos c0]
    obtain ⟨r, h1, h2, a1, a2, a3⟩ := q_feedX (N := N) I (by omega) (xs (i + 1)) (xs (i + 2)) (xs (i + 3)) (xs (i + 4)) (xs (i + 5))
    refine ⟨h2, ?_, a3⟩
    simp only [q1, q2, q3, q4, q5, p1, p2, p3, p4, p5, if_false, e6]
    rw [a1, bd2_some, a2, bd2_some, if_pos rfl]
  rw [if_neg c0]
  by_cases c1 : op = 1
  · rw [if_pos c1]
    obtain ⟨r, h1, h2, a1, a2, a3⟩ := q_endX (N := N) I (xs (i + 1))
    refine ⟨h2, ?_, a3⟩
    simp only [q1, p1, if_false, e6]
    rw [a1, bd2_some, a2, bd2_some, if_pos rfl]
  rw [if_neg c1]
  by_cases c2 : op = 2
  · rw [if_pos c2]
    obtain ⟨r, h1, h2, a1, a2, a3⟩ := q_text (N := N) I (by omega) (xs (i + 1)) (xs (i + 2))
    refine ⟨h2, ?_, a3⟩
    simp only [q1, q2, p1, p2, if_false, e6]
    rw [a1, bd2_some, a2, bd2_some, if_pos rfl]
  rw [if_neg c2]
  by_cases c3 : op = 3
  · rw [if_pos c3]
    obtain ⟨r, a1, a2⟩ := q_fault (N := N) I.1 (xs (i + 1))
    refine ⟨h, ?_, I⟩
    simp only [q1, p1, if_false, e6]
    rw [a1, bd1_some, a2, bd1_some, if_pos rfl]
  rw [if_neg c3]
  by_cases c4 : op = 4
  · rw [if_pos c4]
    obtain ⟨r, h2, a1, a2, a3⟩ := q_house (N := N) I.1 (xs (i + 1)) (xs (i + 2))
    refine ⟨h2, ?_, INX_same a3 I⟩
    simp only [q1, q2, p1, p2, if_false, e6]
    rw [a1, bd1_some, a2, bd2_some, if_pos rfl]
  rw [if_neg c4]
  by_cases c5 : op = 5
  · rw [if_pos c5]
    obtain ⟨r, h2, a1, a2, a3⟩ := q_deed (N := N) I.1 (xs (i + 1)) (xs (i + 2)) (xs (i + 3))
    refine ⟨h2, ?_, INX_same a3 I⟩
    simp only [q1, q2, q3, p1, p2, p3, if_false, e6]
    rw [a1, bd1_some, a2, bd2_some, if_pos rfl]
  rw [if_neg c5]
  by_cases c6 : op = 6
  · rw [if_pos c6]
    obtain ⟨r, h1, h2, a1, a2, a3⟩ := q_stop (N := N) I.1 (by omega) (xs (i + 1)) (xs (i + 2))
    refine ⟨h2, ?_, INX_same a3 I⟩
    simp only [q1, q2, p1, p2, if_false, e6]
    rw [a1, bd2_some, a2, bd2_some, if_pos rfl]
  rw [if_neg c6]
  by_cases c7 : op = 7
  · rw [if_pos c7]
    obtain ⟨r, h1, h2, a1, a2, a3⟩ := q_state (N := N) I.1 (by omega) (xs (i + 1)) (xs (i + 2)) (xs (i + 3)) (xs (i + 4))
    refine ⟨h2, ?_, INX_same a3 I⟩
    simp only [q1, q2, q3, q4, p1, p2, p3, p4, if_false, e6]
    rw [a1, bd2_some, a2, bd2_some, if_pos rfl]
  rw [if_neg c7]
  by_cases c8 : op = 8
  · rw [if_pos c8]
    obtain ⟨r, h1, h2, a1, a2, a3⟩ := q_rota (N := N) I.1 (by omega) (xs (i + 1)) (xs (i + 2))
    refine ⟨h2, ?_, INX_same a3 I⟩
    simp only [q1, q2, p1, p2, if_false, e6]
    rw [a1, bd2_some, a2, bd2_some, if_pos rfl]
  rw [if_neg c8]
  by_cases c9 : op = 9
  · rw [if_pos c9]
    by_cases b : xs (i + 2) = 0
    · skip
      obtain ⟨r, h1, h2, a1, a2, a3⟩ := q_few (N := N) I.1 (by omega) (xs (i + 1)) 0
      refine ⟨h2, ?_, INX_same a3 I⟩
      simp only [q1, q2, p1, p2, if_false, e6, if_pos b]
      rw [a1, bd2_some, a2, bd2_some, if_pos rfl]
    · skip
      obtain ⟨r, h1, h2, a1, a2, a3⟩ := q_few (N := N) I.1 (by omega) (xs (i + 1)) 1
      refine ⟨h2, ?_, INX_same a3 I⟩
      simp only [q1, q2, p1, p2, if_false, e6, if_neg b]
      rw [a1, bd2_some, a2, bd2_some, if_pos rfl]
  rw [if_neg c9]
  by_cases c10 : op = 10
  · rw [if_pos c10]
    by_cases b : xs (i + 2) = 0
    · skip
      obtain ⟨r, h1, h2, a1, a2, a3⟩ := q_farX (N := N) I.1 (by omega) (xs (i + 1)) 0
      refine ⟨h2, ?_, INX_same a3 I⟩
      simp only [q1, q2, p1, p2, if_false, e6, if_pos b]
      rw [a1, bd2_some, a2, bd2_some, if_pos rfl]
    · skip
      obtain ⟨r, h1, h2, a1, a2, a3⟩ := q_farX (N := N) I.1 (by omega) (xs (i + 1)) 1
      refine ⟨h2, ?_, INX_same a3 I⟩
      simp only [q1, q2, p1, p2, if_false, e6, if_neg b]
      rw [a1, bd2_some, a2, bd2_some, if_pos rfl]
  rw [if_neg c10]
  by_cases c11 : op = 11
  · rw [if_pos c11]
    by_cases b : xs (i + 2) = 0
    · skip
      obtain ⟨r, h1, h2, a1, a2, a3⟩ := q_wakes (N := N) I.1 (by omega) (xs (i + 1)) 0
      refine ⟨h2, ?_, INX_same a3 I⟩
      simp only [q1, q2, p1, p2, if_false, e6, if_pos b]
      rw [a1, bd2_some, a2, bd2_some, if_pos ((lg_cmp_eq _ _).mpr rfl)]
    · skip
      obtain ⟨r, h1, h2, a1, a2, a3⟩ := q_wakes (N := N) I.1 (by omega) (xs (i + 1)) 1
      refine ⟨h2, ?_, INX_same a3 I⟩
      simp only [q1, q2, p1, p2, if_false, e6, if_neg b]
      rw [a1, bd2_some, a2, bd2_some, if_pos ((lg_cmp_eq _ _).mpr rfl)]
  rw [if_neg c11]
  by_cases c12 : op = 12
  · rw [if_pos c12]
    obtain ⟨r, h1, h2, a1, a2, a3⟩ := q_change (N := N) I.1 (by omega) (xs (i + 1))
    refine ⟨h2, ?_, INX_same a3 I⟩
    simp only [q1, p1, if_false, e6]
    rw [a1, bd2_some, a2, bd2_some, if_pos rfl]
  rw [if_neg c12]
  by_cases c13 : op = 13
  · rw [if_pos c13]
    by_cases b : xs (i + 3) = 0
    · skip
      obtain ⟨r, h1, h2, a1, a2, a3⟩ := q_tussle (N := N) I.1 (by omega) (xs (i + 1)) (xs (i + 2)) 0
      refine ⟨h2, ?_, INX_same a3 I⟩
      simp only [q1, q2, q3, p1, p2, p3, if_false, e6, if_pos b]
      rw [a1, bd2_some, a2, bd2_some, if_pos rfl]
    · skip
      obtain ⟨r, h1, h2, a1, a2, a3⟩ := q_tussle (N := N) I.1 (by omega) (xs (i + 1)) (xs (i + 2)) 1
      refine ⟨h2, ?_, INX_same a3 I⟩
      simp only [q1, q2, q3, p1, p2, p3, if_false, e6, if_neg b]
      rw [a1, bd2_some, a2, bd2_some, if_pos rfl]
  rw [if_neg c13]
  by_cases c14 : op = 14
  · rw [if_pos c14]
    obtain ⟨r, h1, h2, a1, a2, a3⟩ := q_tunes (N := N) I.1 (by omega) (xs (i + 1)) (xs (i + 2))
    refine ⟨h2, ?_, INX_same a3 I⟩
    simp only [q1, q2, p1, p2, if_false, e6]
    rw [a1, bd2_some, a2, bd2_some, if_pos rfl]
  rw [if_neg c14]
  by_cases c15 : op = 15
  · rw [if_pos c15]
    obtain ⟨r, h2, a1, a2, a3⟩ := q_fact (N := N) I.1 (xs (i + 1)) (xs (i + 2)) (xs (i + 3))
    refine ⟨h2, ?_, INX_same a3 I⟩
    simp only [q1, q2, q3, p1, p2, p3, if_false, e6]
    rw [a1, bd1_some, a2, bd2_some, if_pos rfl]
  rw [if_neg c15]
  by_cases c16 : op = 16
  · rw [if_pos c16]
    obtain ⟨r, h1, h2, a1, a2, a3⟩ := q_fits (N := N) I.1 (by omega) (xs (i + 1)) (xs (i + 2)) (xs (i + 3))
    refine ⟨h2, ?_, INX_same a3 I⟩
    simp only [q1, q2, q3, p1, p2, p3, if_false, e6]
    rw [a1, bd2_some, a2, bd2_some, if_pos rfl]
  rw [if_neg c16]
  by_cases c17 : op = 17
  · rw [if_pos c17]
    obtain ⟨r, h1, h2, a1, a2, a3⟩ := q_drawn (N := N) I.1 (by omega) (xs (i + 1)) (xs (i + 2)) (xs (i + 3)) (xs (i + 4))
    refine ⟨h2, ?_, INX_same a3 I⟩
    simp only [q1, q2, q3, q4, p1, p2, p3, p4, if_false, e6]
    rw [a1, bd2_some, a2, bd2_some, if_pos rfl]
  rw [if_neg c17]
  by_cases c18 : op = 18
  · rw [if_pos c18]
    by_cases b : xs (i + 3) = 0
    · skip
      obtain ⟨r, h1, h2, a1, a2, a3⟩ := q_sung (N := N) I.1 (by omega) (xs (i + 1)) (xs (i + 2)) 0
      refine ⟨h2, ?_, INX_same a3 I⟩
      simp only [q1, q2, q3, p1, p2, p3, if_false, e6, if_pos b]
      rw [a1, bd2_some, a2, bd2_some, if_pos rfl]
    · skip
      obtain ⟨r, h1, h2, a1, a2, a3⟩ := q_sung (N := N) I.1 (by omega) (xs (i + 1)) (xs (i + 2)) 1
      refine ⟨h2, ?_, INX_same a3 I⟩
      simp only [q1, q2, q3, p1, p2, p3, if_false, e6, if_neg b]
      rw [a1, bd2_some, a2, bd2_some, if_pos rfl]
  rw [if_neg c18]
  by_cases c19 : op = 19
  · rw [if_pos c19]
    obtain ⟨r, h1, h2, a1, a2, a3⟩ := q_spare (N := N) I.1 (by omega) (xs (i + 1)) (xs (i + 2))
    refine ⟨h2, ?_, INX_same a3 I⟩
    simp only [q1, q2, p1, p2, if_false, e6]
    rw [a1, bd2_some, a2, bd2_some, if_pos rfl]
  rw [if_neg c19]
  by_cases c20 : op = 20
  · rw [if_pos c20]
    obtain ⟨r, h1, h2, a1, a2, a3⟩ := q_ease (N := N) I.1 (by omega) (xs (i + 1)) (xs (i + 2))
    refine ⟨h2, ?_, INX_same a3 I⟩
    simp only [q1, q2, p1, p2, if_false, e6]
    rw [a1, bd2_some, a2, bd2_some, if_pos rfl]
  rw [if_neg c20]
  by_cases c21 : op = 21
  · rw [if_pos c21]
    obtain ⟨r, h2, a1, a2, a3⟩ := q_roof (N := N) I.1 (by omega) (xs (i + 1)) (xs (i + 2))
    refine ⟨h2, ?_, INX_same a3 I⟩
    simp only [q1, q2, p1, p2, if_false, e6]
    rw [a1, bd1_some, a2, bd2_some, if_pos rfl]
  rw [if_neg c21]
  by_cases c22 : op = 22
  · rw [if_pos c22]
    by_cases b : xs (i + 3) = 0
    · skip
      obtain ⟨r, h1, h2, a1, a2, a3⟩ := q_sleep (N := N) I.1 (by omega) (xs (i + 1)) (xs (i + 2)) 0
      refine ⟨h2, ?_, INX_same a3 I⟩
      simp only [q1, q2, q3, p1, p2, p3, if_false, e6, if_pos b]
      rw [a1, bd2_some, a2, bd2_some, if_pos ((lg_cmp_eq _ _).mpr rfl)]
    · skip
      obtain ⟨r, h1, h2, a1, a2, a3⟩ := q_sleep (N := N) I.1 (by omega) (xs (i + 1)) (xs (i + 2)) 1
      refine ⟨h2, ?_, INX_same a3 I⟩
      simp only [q1, q2, q3, p1, p2, p3, if_false, e6, if_neg b]
      rw [a1, bd2_some, a2, bd2_some, if_pos ((lg_cmp_eq _ _).mpr rfl)]
  rw [if_neg c22]
  by_cases c23 : op = 23
  · rw [if_pos c23]
    by_cases b : xs (i + 3) = 0
    · skip
      obtain ⟨r, h1, h2, a1, a2, a3⟩ := q_census (N := N) I.1 (by omega) (xs (i + 1)) (xs (i + 2)) 0
      refine ⟨h2, ?_, INX_same a3 I⟩
      simp only [q1, q2, q3, p1, p2, p3, if_false, e6, if_pos b]
      rw [a1, bd2_some, a2, bd2_some, if_pos ((lg_cmp_eq _ _).mpr rfl)]
    · skip
      obtain ⟨r, h1, h2, a1, a2, a3⟩ := q_census (N := N) I.1 (by omega) (xs (i + 1)) (xs (i + 2)) 1
      refine ⟨h2, ?_, INX_same a3 I⟩
      simp only [q1, q2, q3, p1, p2, p3, if_false, e6, if_neg b]
      rw [a1, bd2_some, a2, bd2_some, if_pos ((lg_cmp_eq _ _).mpr rfl)]
  rw [if_neg c23]
  by_cases c24 : op = 24
  · rw [if_pos c24]
    obtain ⟨r, h2, a1, a2, a3⟩ := q_move (N := N) I.1 (by omega) (xs (i + 1)) (xs (i + 2)) (xs (i + 3))
    refine ⟨h2, ?_, INX_same a3 I⟩
    simp only [q1, q2, q3, p1, p2, p3, if_false, e6]
    rw [a1, bd1_some, a2, bd2_some, if_pos rfl]
  rw [if_neg c24]
  by_cases c25 : op = 25
  · rw [if_pos c25]
    obtain ⟨r, h2, a1, a2, a3⟩ := q_range (N := N) I.1 (by omega) (xs (i + 1)) (xs (i + 2))
    refine ⟨h2, ?_, INX_same a3 I⟩
    simp only [q1, q2, p1, p2, if_false, e6]
    rw [a1, bd1_some, a2, bd2_some, if_pos rfl]
  rw [if_neg c25]
  by_cases c26 : op = 26
  · rw [if_pos c26]
    by_cases b : xs (i + 2) = 0
    · skip
      obtain ⟨r, h2, a1, a2, a3⟩ := q_choir (N := N) I.1 (by omega) (xs (i + 1)) 0
      refine ⟨h2, ?_, INX_same a3 I⟩
      simp only [q1, q2, p1, p2, if_false, e6, if_pos b]
      rw [a1, bd1_some, a2, bd2_some, if_pos rfl]
    · skip
      obtain ⟨r, h2, a1, a2, a3⟩ := q_choir (N := N) I.1 (by omega) (xs (i + 1)) 1
      refine ⟨h2, ?_, INX_same a3 I⟩
      simp only [q1, q2, p1, p2, if_false, e6, if_neg b]
      rw [a1, bd1_some, a2, bd2_some, if_pos rfl]
  rw [if_neg c26]
  by_cases c27 : op = 27
  · rw [if_pos c27]
    obtain ⟨r, h1, h2, a1, a2, a3⟩ := q_after (N := N) I.1 (by omega) (xs (i + 1)) (xs (i + 2)) (xs (i + 3))
    refine ⟨h2, ?_, INX_same a3 I⟩
    simp only [q1, q2, q3, p1, p2, p3, if_false, e6]
    rw [a1, bd2_some, a2, bd2_some, if_pos rfl]
  rw [if_neg c27]
  by_cases c28 : op = 28
  · rw [if_pos c28]
    by_cases b : xs (i + 4) = 0
    · skip
      obtain ⟨r, h1, h2, a1, a2, a3⟩ := q_odds (N := N) I.1 (by omega) (xs (i + 1)) (xs (i + 2)) (xs (i + 3)) 0
      refine ⟨h2, ?_, INX_same a3 I⟩
      simp only [q1, q2, q3, q4, p1, p2, p3, p4, if_false, e6, if_pos b]
      rw [a1, bd2_some, a2, bd2_some, if_pos ((lg_cmp_eq _ _).mpr rfl)]
    · skip
      obtain ⟨r, h1, h2, a1, a2, a3⟩ := q_odds (N := N) I.1 (by omega) (xs (i + 1)) (xs (i + 2)) (xs (i + 3)) 1
      refine ⟨h2, ?_, INX_same a3 I⟩
      simp only [q1, q2, q3, q4, p1, p2, p3, p4, if_false, e6, if_neg b]
      rw [a1, bd2_some, a2, bd2_some, if_pos ((lg_cmp_eq _ _).mpr rfl)]
  rw [if_neg c28]
  by_cases c29 : op = 29
  · rw [if_pos c29]
    obtain ⟨r, h1, h2, a1, a2, a3⟩ := q_hire (N := N) I.1 (by omega) (xs (i + 1))
    refine ⟨h2, ?_, INX_same a3 I⟩
    simp only [q1, p1, if_false, e6]
    rw [a1, bd2_some, a2, bd2_some, if_pos rfl]
  rw [if_neg c29]
  by_cases c30 : op = 30
  · rw [if_pos c30]
    obtain ⟨r, h2, a1, a2, a3⟩ := q_shift (N := N) I.1 (by omega) (xs (i + 1)) (xs (i + 2))
    refine ⟨h2, ?_, INX_same a3 I⟩
    simp only [q1, q2, p1, p2, if_false, e6]
    rw [a1, bd1_some, a2, bd2_some, if_pos rfl]
  rw [if_neg c30]
  by_cases c31 : op = 31
  · rw [if_pos c31]
    obtain ⟨r, h2, a1, a2, a3⟩ := q_tuned (N := N) I.1 (by omega) (xs (i + 1))
    refine ⟨h2, ?_, INX_same a3 I⟩
    simp only [q1, p1, if_false, e6]
    rw [a1, bd1_some, a2, bd2_some, if_pos rfl]
  rw [if_neg c31]
  by_cases c32 : op = 32
  · rw [if_pos c32]
    by_cases b : xs (i + 2) = 0
    · skip
      obtain ⟨r, h2, a1, a2, a3⟩ := q_landing (N := N) I.1 (by omega) (xs (i + 1)) 0
      refine ⟨h2, ?_, INX_same a3 I⟩
      simp only [q1, q2, p1, p2, if_false, e6, if_pos b]
      rw [a1, bd1_some, a2, bd2_some, if_pos rfl]
    · skip
      obtain ⟨r, h2, a1, a2, a3⟩ := q_landing (N := N) I.1 (by omega) (xs (i + 1)) 1
      refine ⟨h2, ?_, INX_same a3 I⟩
      simp only [q1, q2, p1, p2, if_false, e6, if_neg b]
      rw [a1, bd1_some, a2, bd2_some, if_pos rfl]
  rw [if_neg c32]
  by_cases c33 : op = 33
  · rw [if_pos c33]
    obtain ⟨r, a1, a2⟩ := q_count (N := N) I.1 (xs (i + 1))
    refine ⟨h, ?_, I⟩
    simp only [q1, p1, if_false, e6]
    rw [a1, bd1_some, a2, bd1_some, if_pos rfl]
  rw [if_neg c33]
  by_cases c34 : op = 34
  · rw [if_pos c34]
    obtain ⟨r, h1, h2, a1, a2, a3⟩ := q_image (N := N) I (by omega) (xs (i + 1))
    refine ⟨h2, ?_, a3⟩
    simp only [q1, p1, if_false, e6]
    rw [a1, bd2_some, a2, bd2_some, if_pos rfl]
  rw [if_neg c34]
  by_cases c35 : op = 35
  · rw [if_pos c35]
    obtain ⟨r, h1, h2, a1, a2, a3⟩ := q_again (N := N) I (by omega) (xs (i + 1))
    refine ⟨h2, ?_, a3⟩
    simp only [q1, p1, if_false, e6]
    rw [a1, bd2_some, a2, bd2_some, if_pos rfl]
  rw [if_neg c35]
  exact ⟨h, by rw [e6], I⟩
theorem main_loop (hN : 1000000000 ≤ N) (hL : L ≤ 384) : ∀ (m i n : Nat) (h : HS), INX h → L ≤ i + 6 * m → m < n → i ≤ 1000 → ∃ z, L_law_l18 xs L N n h (nI i) = some z := by
  have stop : ∀ (i n : Nat) (h : HS), L < i + 6 → i ≤ 1000 → L_law_l18 xs L N (n + 1) h (nI i) = some h := by
    intro i n h hi h1
    have hlt : nI L - 6 < nI i := by
      apply Int32.lt_iff_toInt_lt.mpr
      rw [show (6 : Int32) = nI 6 from rfl, pk_sub_toInt (by omega) (by decide), nI_toInt (by omega)]
      omega
    rw [L_law_l18, if_pos hlt]
  intro m
  induction m with
  | zero =>
    intro i n h I hi hn h1
    obtain ⟨n, rfl, _⟩ := fuel hn
    exact ⟨h, stop i n h (by omega) h1⟩
  | succ m ih =>
    intro i n h I hi hn h1
    obtain ⟨n, rfl, _⟩ := fuel hn
    by_cases y : i + 6 ≤ L
    · obtain ⟨h', a1, a2⟩ := main_step (n := n) (xs := xs) hN hL y I
      rw [a1]
      exact ih (i + 6) n h' a2 (by omega) (by omega) (by omega)
    · exact ⟨h, stop i n h (by omega) h1⟩
theorem hmain_all (L : Nat) (xs : Nat → Int32) (hL : L ≤ 384) : ∃ (N n : Nat) (z : HS), L_law_l18 xs L N n hI 0 = some z := by
  obtain ⟨z, hz⟩ := main_loop (N := 1000000000) (L := L) (xs := xs) (Nat.le_refl _) hL 64 0 100 hI INX_hI (by omega) (by decide) (by decide)
  exact ⟨1000000000, 100, z, hz⟩
end MAI
