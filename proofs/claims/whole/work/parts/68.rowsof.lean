/-! ===== level 2: nights and mornings are opened; deed, fact ===== -/
theorem opnN {N : Nat} {h : HS} (I : INV h) (v : Int32) :
    (X7_nightsAt N h (1 + 1) v = some 0 ∧ ∀ h1, Same h h1 → X11_areNights N h1 237 v = some (0, h1)) ∨
    (∃ p q m K V, X7_nightsAt N h (1 + 1) v = some p ∧ p ≠ 0 ∧ CR h p 40 5 m K V ∧ q + 2 * 40 < 934 ∧ ∀ h1, Same h h1 → ∃ h2, X11_areNights N h1 237 v = some (1, h2) ∧ h2.1 237 32 = nI q ∧ RR h2 q m K V ∧ Same h h2 ∧ (∀ k, k ≠ 237 → h2.1 k = h1.1 k) ∧ (∀ j, j ≠ 32 → h2.1 237 j = h1.1 237 j) ∧ h2.2 = h1.2) := by
  obtain ⟨⟨c, t1, t2, t3, t4, t5, t6, t7⟩, _⟩ := I
  obtain ⟨c0, e1, e2⟩ := t4 1 (by decide)
  have n0 : X7_nightsAt N h (1 + 1) v = (if v < 0 then some 0 else if nI (c 1) ≤ v then some 0 else if (2 : Int32) ≤ v then some 0 else if v < 0 ∨ 2 ≤ v.toNatClampNeg then none else some (ra 26 v.toNatClampNeg)) := by
    unfold X7_nightsAt
    rw [if_neg (show ¬ ((1 : Int32) < 0 ∨ 3 ≤ (1 : Int32).toNatClampNeg) by decide)]
    rw [show h.1 (1 + 1 + 2) (1 : Int32).toNatClampNeg = nI (c 1) from e1]
  rw [Nat.zero_add] at e2
  rcases told_cases v (c 1) c0 with z | ⟨k, hk, rfl⟩
  · left
    have hno : ¬ ∃ k, k < c 1 ∧ v = nI k := by
      rintro ⟨k, hk, rfl⟩
      rcases z with z | ⟨j, hj, hcj, e⟩
      · exact nI_pos (by omega) z
      · rw [nI_eq (by omega) hj] at e; omega
    refine ⟨?_, ?_⟩
    · rw [n0]
      rcases z with z | ⟨j, hj, hcj, rfl⟩
      · rw [if_pos z]
      · rw [if_neg (nI_pos hj), if_pos (nI_le hcj hj)]
    · intro h1 s
      unfold X11_areNights
      have e3 : h1.1 238 1 = nI (c 1) := by rw [s 238 (by decide)]; exact e2
      rw [show X11_isOf N h1 237 1 v = _ from r_isOf (s := 1) (by decide) c0 e3 v, bd1_some, nB_f hno]
      rfl
  · right
    obtain ⟨m, K, V, cD, rD⟩ := t6 k hk
    have hr : ra 26 k = 2 + 25 + 3 * k := by
      have : k < 2 := by omega
      rcases k with _ | k
      · rfl
      · rcases k with _ | k
        · rfl
        · omega
    refine ⟨2 + 25 + 3 * k, 738 + 81 * k, m, K, V, ?_, by omega, cD, by omega, ?_⟩
    · rw [n0, if_neg (nI_pos (by omega)), if_neg (nI_ge hk (by omega)), if_neg (show ¬ (2 : Int32) ≤ nI k from nI_ge (b := 2) (by omega) (by decide)), if_neg (nI_in (by omega) (by decide)), nI_clamp (by omega), hr]
    · intro h1 s
      have e3 : h1.1 238 1 = nI (c 1) := by rw [s 238 (by decide)]; exact e2
      have p0 : (738 : Int32) + 81 * nI k = nI (738 + 81 * k) := by rw [zn738, zn81, pk_mul, nI_add]
      refine ⟨wi h1 237 32 (nI (738 + 81 * k)), ?_, wi_s _ _ _ _, ?_, sm_wi s (by decide) _ _, fun a ha => wi_k _ _ ha, fun j hj => wi_j _ _ hj, rfl⟩
      · unfold X11_areNights
        rw [show X11_isOf N h1 237 1 (nI k) = _ from r_isOf (s := 1) (by decide) c0 e3 (nI k), bd1_some, nB_t ⟨k, hk, rfl⟩]
        rw [if_neg (by decide)]
        unfold X11_placeOf
        rw [if_neg (by decide), if_pos rfl, bd1_some, p0]
        rfl
      · rw [Nat.zero_add] at rD
        exact RR_fr (h := h) (fun i _ _ => by rw [wi_k _ _ (by decide), s 238 (by decide)]) rD
theorem q_deed {N : Nat} {h : HS} (I : INV h) (a b d : Int32) : ∃ r h2, X10_deed N h 1 a b d = some r ∧ X11_deed N h 237 a b d = some (r, h2) ∧ Same h h2 := by
  unfold X10_deed X11_deed
  rcases opnN (N := N) I a with ⟨e1, e2⟩ | ⟨p, q, m, K, V, e1, hp, c, hq, e2⟩
  · exact ⟨-2, h, by rw [e1]; rfl, by rw [e2 h (Same.refl h)]; rfl, Same.refl h⟩
  · obtain ⟨h2, e3, r1, rr, sm, k7, k8⟩ := e2 h (Same.refl h)
    obtain ⟨c1, c2, c3, c4, c5, c6, c7, c8⟩ := c
    rw [e1, e3, bd1_some, bd2_some, if_neg hp, if_neg (by decide)]
    unfold X10_rowOf
    rw [if_neg hp, c7, r1]
    by_cases z : b = -1
    · rw [if_pos z, if_pos z]
      by_cases y : d = 0
      · refine ⟨nI m, h2, by rw [if_pos y]; rfl, ?_, sm⟩
        rw [if_pos y, if_neg (nI_in (by omega) (by decide)), nI_clamp (by omega)]
        exact congrArg (fun z => some (z, h2)) rr.1
      · exact ⟨-2, h2, by rw [if_neg y]; rfl, by rw [if_neg y], sm⟩
    · rw [if_neg z, if_neg z, if_neg (nI_in (by omega) (by decide)), nI_clamp (by omega), show h2.1 (237 + 1) q = nI m from rr.1, r_isIn, bd1_some, r_isIn, bd1_some]
      rcases i_cases b with y | ⟨j, hj, rfl⟩
      · exact ⟨-2, h2, by rw [if_pos y]; rfl, by rw [inneg y]; rfl, sm⟩
      · rw [if_neg (nI_pos hj)]
        by_cases y : j < m
        · obtain ⟨d1, d2, d3, d4⟩ := c8 j y
          obtain ⟨s1, s2⟩ := rr.2 j y
          rw [if_neg (nI_ge y (by omega)), nB_t ((inN hj (by omega)).mpr y), if_neg one0]
          rcases i_cases d with x | ⟨i, hi, rfl⟩
          · exact ⟨-2, h2, by rw [if_pos x]; rfl, by rw [inneg x]; rfl, sm⟩
          · rw [if_neg (nI_pos hi)]
            match i with
            | 0 =>
              refine ⟨nI (K j), h2, ?_, ?_, sm⟩
              · rw [if_pos (by decide), if_pos (by decide), at_in c3 (by omega) (by omega), bd1_some, d2]
                rfl
              · rw [nB_t (by decide), if_neg one0, show ((nI q + 1) + 2 * nI j) + nI 0 = nI (q + 1 + 2 * j) by rw [nI_1, zn2, pk_mul, nI_add, nI_add]; rfl, if_neg (nI_in (by omega) (by decide)), nI_clamp (by omega)]
                exact congrArg (fun z => some (z, h2)) s1
            | 1 =>
              refine ⟨V j, h2, ?_, ?_, sm⟩
              · rw [if_pos (by decide), if_neg (by decide), at_in c4 (by omega) (by omega), bd1_some, d3]
                rfl
              · rw [nB_t (by decide), if_neg one0, show ((nI q + 1) + 2 * nI j) + nI 1 = nI (q + 2 + 2 * j) by rw [nI_1, zn2, pk_mul, nI_add, nI_add]; congr 1; omega, if_neg (nI_in (by omega) (by decide)), nI_clamp (by omega)]
                exact congrArg (fun z => some (z, h2)) s2
            | i + 2 =>
              refine ⟨-2, h2, ?_, ?_, sm⟩
              · rw [if_neg (show ¬ nI (i + 2) ≤ 1 from nI_ge (b := i + 2) (a := 1) (by omega) (by omega))]; rfl
              · rw [nB_f (show ¬ (0 ≤ nI (i + 2) ∧ nI (i + 2) ≤ 1) from fun w => nI_ge (b := i + 2) (a := 1) (by omega) (by omega) w.2)]; rfl
        · refine ⟨-2, h2, ?_, ?_, sm⟩
          · rw [if_pos (nI_le (by omega) hj)]; rfl
          · rw [nB_f (fun w => y ((inN hj (by omega)).mp w))]; rfl

theorem opnM {N : Nat} {h : HS} (I : INV h) (v : Int32) :
    (X7_morningsAt N h (1 + 1) v = some 0 ∧ ∀ h1, Same h h1 → X11_areMornings N h1 237 v = some (0, h1)) ∨
    (∃ p q m K V, X7_morningsAt N h (1 + 1) v = some p ∧ p ≠ 0 ∧ CR h p 8 2 m K V ∧ q + 2 * 8 < 934 ∧ ∀ h1, Same h h1 → ∃ h2, X11_areMornings N h1 237 v = some (1, h2) ∧ h2.1 237 48 = nI q ∧ RR h2 q m K V ∧ Same h h2 ∧ (∀ k, k ≠ 237 → h2.1 k = h1.1 k) ∧ (∀ j, j ≠ 48 → h2.1 237 j = h1.1 237 j) ∧ h2.2 = h1.2) := by
  obtain ⟨⟨c, t1, t2, t3, t4, t5, t6, t7⟩, _⟩ := I
  obtain ⟨c0, e1, e2⟩ := t4 2 (by decide)
  have n0 : X7_morningsAt N h (1 + 1) v = (if v < 0 then some 0 else if nI (c 2) ≤ v then some 0 else if (2 : Int32) ≤ v then some 0 else if v < 0 ∨ 2 ≤ v.toNatClampNeg then none else some (ra 33 v.toNatClampNeg)) := by
    unfold X7_morningsAt
    rw [if_neg (show ¬ ((2 : Int32) < 0 ∨ 3 ≤ (2 : Int32).toNatClampNeg) by decide)]
    rw [show h.1 (1 + 1 + 2) (2 : Int32).toNatClampNeg = nI (c 2) from e1]
  rw [Nat.zero_add] at e2
  rcases told_cases v (c 2) c0 with z | ⟨k, hk, rfl⟩
  · left
    have hno : ¬ ∃ k, k < c 2 ∧ v = nI k := by
      rintro ⟨k, hk, rfl⟩
      rcases z with z | ⟨j, hj, hcj, e⟩
      · exact nI_pos (by omega) z
      · rw [nI_eq (by omega) hj] at e; omega
    refine ⟨?_, ?_⟩
    · rw [n0]
      rcases z with z | ⟨j, hj, hcj, rfl⟩
      · rw [if_pos z]
      · rw [if_neg (nI_pos hj), if_pos (nI_le hcj hj)]
    · intro h1 s
      unfold X11_areMornings
      have e3 : h1.1 238 2 = nI (c 2) := by rw [s 238 (by decide)]; exact e2
      rw [show X11_isOf N h1 237 2 v = _ from r_isOf (s := 2) (by decide) c0 e3 v, bd1_some, nB_f hno]
      rfl
  · right
    obtain ⟨m, K, V, cD, rD⟩ := t7 k hk
    have hr : ra 33 k = 2 + 32 + 3 * k := by
      have : k < 2 := by omega
      rcases k with _ | k
      · rfl
      · rcases k with _ | k
        · rfl
        · omega
    refine ⟨2 + 32 + 3 * k, 900 + 17 * k, m, K, V, ?_, by omega, cD, by omega, ?_⟩
    · rw [n0, if_neg (nI_pos (by omega)), if_neg (nI_ge hk (by omega)), if_neg (show ¬ (2 : Int32) ≤ nI k from nI_ge (b := 2) (by omega) (by decide)), if_neg (nI_in (by omega) (by decide)), nI_clamp (by omega), hr]
    · intro h1 s
      have e3 : h1.1 238 2 = nI (c 2) := by rw [s 238 (by decide)]; exact e2
      have p0 : (900 : Int32) + 17 * nI k = nI (900 + 17 * k) := by rw [zn900, zn17, pk_mul, nI_add]
      refine ⟨wi h1 237 48 (nI (900 + 17 * k)), ?_, wi_s _ _ _ _, ?_, sm_wi s (by decide) _ _, fun a ha => wi_k _ _ ha, fun j hj => wi_j _ _ hj, rfl⟩
      · unfold X11_areMornings
        rw [show X11_isOf N h1 237 2 (nI k) = _ from r_isOf (s := 2) (by decide) c0 e3 (nI k), bd1_some, nB_t ⟨k, hk, rfl⟩]
        rw [if_neg (by decide)]
        unfold X11_placeOf
        rw [if_neg (by decide), if_neg (by decide), bd1_some, p0]
        rfl
      · rw [Nat.zero_add] at rD
        exact RR_fr (h := h) (fun i _ _ => by rw [wi_k _ _ (by decide), s 238 (by decide)]) rD
theorem q_fact {N : Nat} {h : HS} (I : INV h) (a b d : Int32) : ∃ r h2, X10_fact N h 1 a b d = some r ∧ X11_fact N h 237 a b d = some (r, h2) ∧ Same h h2 := by
  unfold X10_fact X11_fact
  rcases opnM (N := N) I a with ⟨e1, e2⟩ | ⟨p, q, m, K, V, e1, hp, c, hq, e2⟩
  · exact ⟨-2, h, by rw [e1]; rfl, by rw [e2 h (Same.refl h)]; rfl, Same.refl h⟩
  · obtain ⟨h2, e3, r1, rr, sm, k7, k8⟩ := e2 h (Same.refl h)
    obtain ⟨c1, c2, c3, c4, c5, c6, c7, c8⟩ := c
    rw [e1, e3, bd1_some, bd2_some, if_neg hp, if_neg (by decide)]
    unfold X10_rowOf
    rw [if_neg hp, c7, r1]
    by_cases z : b = -1
    · rw [if_pos z, if_pos z]
      by_cases y : d = 0
      · refine ⟨nI m, h2, by rw [if_pos y]; rfl, ?_, sm⟩
        rw [if_pos y, if_neg (nI_in (by omega) (by decide)), nI_clamp (by omega)]
        exact congrArg (fun z => some (z, h2)) rr.1
      · exact ⟨-2, h2, by rw [if_neg y]; rfl, by rw [if_neg y], sm⟩
    · rw [if_neg z, if_neg z, if_neg (nI_in (by omega) (by decide)), nI_clamp (by omega), show h2.1 (237 + 1) q = nI m from rr.1, r_isIn, bd1_some, r_isIn, bd1_some]
      rcases i_cases b with y | ⟨j, hj, rfl⟩
      · exact ⟨-2, h2, by rw [if_pos y]; rfl, by rw [inneg y]; rfl, sm⟩
      · rw [if_neg (nI_pos hj)]
        by_cases y : j < m
        · obtain ⟨d1, d2, d3, d4⟩ := c8 j y
          obtain ⟨s1, s2⟩ := rr.2 j y
          rw [if_neg (nI_ge y (by omega)), nB_t ((inN hj (by omega)).mpr y), if_neg one0]
          rcases i_cases d with x | ⟨i, hi, rfl⟩
          · exact ⟨-2, h2, by rw [if_pos x]; rfl, by rw [inneg x]; rfl, sm⟩
          · rw [if_neg (nI_pos hi)]
            match i with
            | 0 =>
              refine ⟨nI (K j), h2, ?_, ?_, sm⟩
              · rw [if_pos (by decide), if_pos (by decide), at_in c3 (by omega) (by omega), bd1_some, d2]
                rfl
              · rw [nB_t (by decide), if_neg one0, show ((nI q + 1) + 2 * nI j) + nI 0 = nI (q + 1 + 2 * j) by rw [nI_1, zn2, pk_mul, nI_add, nI_add]; rfl, if_neg (nI_in (by omega) (by decide)), nI_clamp (by omega)]
                exact congrArg (fun z => some (z, h2)) s1
            | 1 =>
              refine ⟨V j, h2, ?_, ?_, sm⟩
              · rw [if_pos (by decide), if_neg (by decide), at_in c4 (by omega) (by omega), bd1_some, d3]
                rfl
              · rw [nB_t (by decide), if_neg one0, show ((nI q + 1) + 2 * nI j) + nI 1 = nI (q + 2 + 2 * j) by rw [nI_1, zn2, pk_mul, nI_add, nI_add]; congr 1; omega, if_neg (nI_in (by omega) (by decide)), nI_clamp (by omega)]
                exact congrArg (fun z => some (z, h2)) s2
            | i + 2 =>
              refine ⟨-2, h2, ?_, ?_, sm⟩
              · rw [if_neg (show ¬ nI (i + 2) ≤ 1 from nI_ge (b := i + 2) (a := 1) (by omega) (by omega))]; rfl
              · rw [nB_f (show ¬ (0 ≤ nI (i + 2) ∧ nI (i + 2) ≤ 1) from fun w => nI_ge (b := i + 2) (a := 1) (by omega) (by omega) w.2)]; rfl
        · refine ⟨-2, h2, ?_, ?_, sm⟩
          · rw [if_pos (nI_le (by omega) hj)]; rfl
          · rw [nB_f (fun w => y ((inN hj (by omega)).mp w))]; rfl
