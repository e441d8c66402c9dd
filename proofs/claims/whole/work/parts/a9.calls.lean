/-! ===== level 2: text, feed, end as calls; the first data ===== -/
theorem q_textA {N : Nat} {h hq : HS} (I : INX h) (hN : 1000000000 ≤ N) (e8 : hq.1 238 = h.1 238) (e9 : hq.1 239 = h.1 239) (a b : Int32) : ∃ r hF hG, X10_text N h 1 a b = some (r, hF) ∧ X11_text N hq 237 a b = some (r, hG) ∧ hF.1 238 = h.1 238 ∧ hF.1 239 = h.1 239 ∧ (∀ k, k < 171 → hG.1 k = hq.1 k) ∧ INX (mixH hF hG) := by
  obtain ⟨⟨c, t⟩, i2, i3, i4, i5⟩ := id I.1
  obtain ⟨⟨z, hz, z1, z2, z3⟩, t2, t3, t4, _⟩ := t
  rw [Nat.zero_add] at z2
  -- no text is read
  have refused : ∀ q8 : HS, (∀ k, k ≠ 237 → k ≠ 238 → q8.1 k = hq.1 k) → q8.1 238 4 = 0 → q8.1 238 5 = 0 → q8.1 238 6 = -1 → (∀ i, i ≠ 4 → i ≠ 5 → i ≠ 6 → q8.1 238 i = hq.1 238 i) → INX (mixH (wi (wi (wi h 2 1 0) 2 2 0) 2 3 (-1)) q8) ∧ (∀ k, k < 171 → q8.1 k = hq.1 k) := by
    intro q8 x1 x2 x3 x4 x5
    refine ⟨INX_tape I (fun k h1 h2 => by rw [wi_k _ _ h1, wi_k _ _ h1, wi_k _ _ h1]) (by rw [wi_k _ _ (by decide), wi_k _ _ (by decide), wi_k _ _ (by decide)]) (by rw [x1 239 (by decide) (by decide), e9]) (fun i h1 h2 h3 => by rw [x5 i h1 h2 h3, e8]) ?_ x2 ?_ ?_, fun k hk => x1 k (by omega) (by omega)⟩
    · rw [wi_j _ _ (by decide), wi_j _ _ (by decide), wi_s]
    · rw [wi_j _ _ (by decide), wi_s, x3]
    · rw [wi_s, x4]
  unfold X10_text X11_text
  rw [sq_eq, sq_eq, sq_eq, if_neg (by decide), sq_eq, if_neg (by decide), sq_eq, if_neg (by decide), sq_eq, if_neg (by decide), sq_eq]
  rw [show hq.1 (237 + 1) (4 : Int32).toNatClampNeg = nI z by rw [show (237 + 1 : Nat) = 238 from rfl, e8]; exact z2]
  rw [show h.1 (1 + 1) 1 = nI z from z1]
  generalize hq8 : wi (wi (wi (wi hq 237 2 (nI z)) (237 + 1) (4 : Int32).toNatClampNeg 0) (237 + 1) (5 : Int32).toNatClampNeg 0) (237 + 1) (6 : Int32).toNatClampNeg (-1) = q8
  have k1 : ∀ k, k ≠ 237 → k ≠ 238 → q8.1 k = hq.1 k := by
    intro k h1 h2
    rw [← hq8, wi_k _ _ h2, wi_k _ _ h2, wi_k _ _ h2, wi_k _ _ h1]
  have k4 : q8.1 238 4 = 0 ∧ q8.1 238 5 = 0 ∧ q8.1 238 6 = -1 ∧ q8.1 237 2 = nI z := by rw [← hq8]; exact ⟨rfl, rfl, rfl, rfl⟩
  have k8 : ∀ i, i ≠ 4 → i ≠ 5 → i ≠ 6 → q8.1 238 i = hq.1 238 i := by
    intro i h1 h2 h3
    rw [← hq8, show (237 + 1 : Nat) = 238 from rfl, show (6 : Int32).toNatClampNeg = 6 from rfl, show (5 : Int32).toNatClampNeg = 5 from rfl, show (4 : Int32).toNatClampNeg = 4 from rfl, wi_j _ _ h3, wi_j _ _ h2, wi_j _ _ h1, wi_k _ _ (by decide)]
  clear hq8
  have ref := refused q8 k1 k4.1 k4.2.1 k4.2.2.1 k8
  generalize h3e : wi (wi (wi h 2 1 0) 2 2 0) 2 3 (-1) = h3 at ref
  have n1 : h3.1 2 1 = 0 := by rw [← h3e, wi_j _ _ (by decide), wi_j _ _ (by decide), wi_s]
  have nk : ∀ i, i ≠ 2 → h3.1 i = h.1 i := by
    intro i hi
    rw [← h3e, wi_k _ _ hi, wi_k _ _ hi, wi_k _ _ hi]
  clear h3e
  have no : ∀ (A : Option (Int32 × HS)), X7_numberFor N h3 (1 + 1) a b = some (-1) → A = some (-2, q8) → ∃ r hF hG, (bd1 (X7_numberFor N h3 (1 + 1) a b) fun r5 => (if r5 = ((-1) : Int32) then some ((-2), h3) else bd1 (X4_read N h3 (1 + 155) ((1 + 1) + 1) (nI z) a) fun h10 => sq (wi h10 (1 + 1) 2 (h10.1 (1 + 155) 2)) fun h11 => sq (wi h11 (1 + 1) 3 (h11.1 (1 + 155) 3)) fun h12 => (if (h12.1 (1 + 155) 2) = 0 then bd1 (X7_keep N h12 (1 + 1) a r5 ((1 + 155) + 1) ((1 + 155) + 11)) fun h16 => some (r5, h16) else some ((-1), h12)))) = some (r, hF) ∧ A = some (r, hG) ∧ hF.1 238 = h.1 238 ∧ hF.1 239 = h.1 239 ∧ (∀ k, k < 171 → hG.1 k = hq.1 k) ∧ INX (mixH hF hG) := by
    intro A e1 e2
    rw [e1, bd1_some, if_pos rfl]
    exact ⟨-2, h3, q8, rfl, e2, nk 238 (by decide), nk 239 (by decide), ref.2, ref.1⟩
  rcases i_cases a with y | ⟨g, hg31, rfl⟩
  · refine no _ ?_ ?_
    · unfold X7_numberFor; rw [if_pos y]
    · rw [r_isIn, bd1_some, inneg y, if_pos rfl]
  · by_cases hg : g < 3
    · obtain ⟨c2, cc, cr⟩ := t4 g hg
      rw [Nat.zero_add] at cr
      have inn : nB (0 ≤ nI g ∧ nI g ≤ 2) = 1 := nB_t ⟨nI_pos' hg31, show nI g ≤ 2 from nI_le (b := 2) (by omega) (by decide)⟩
      have ec : h3.1 (1 + 1 + 2) g = nI (c g) := by rw [nk _ (by decide)]; exact cc
      have er : q8.1 (237 + 1) g = nI (c g) := by rw [show (237 + 1 : Nat) = 238 from rfl, k8 g (by omega) (by omega) (by omega), e8]; exact cr
      have yes : ∀ k, k < 2 → ((b = -1 ∧ k = c g) ∨ (b = nI k ∧ k < c g)) → X7_numberFor N h3 (1 + 1) (nI g) b = some (nI k) → ∃ r hF hG, (bd1 (X7_numberFor N h3 (1 + 1) (nI g) b) fun r5 => (if r5 = ((-1) : Int32) then some ((-2), h3) else bd1 (X4_read N h3 (1 + 155) ((1 + 1) + 1) (nI z) (nI g)) fun h10 => sq (wi h10 (1 + 1) 2 (h10.1 (1 + 155) 2)) fun h11 => sq (wi h11 (1 + 1) 3 (h11.1 (1 + 155) 3)) fun h12 => (if (h12.1 (1 + 155) 2) = 0 then bd1 (X7_keep N h12 (1 + 1) (nI g) r5 ((1 + 155) + 1) ((1 + 155) + 11)) fun h16 => some (r5, h16) else some ((-1), h12)))) = some (r, hF) ∧ (sq (wi q8 237 3 0) fun h84 => sq (wi h84 237 8 0) fun h85 => sq (wi h85 237 9 (-1)) fun h86 => sq (wi h86 237 10 (-1)) fun h87 => X11_text_l93 N N h87 237 (nI g) b 0) = some (r, hG) ∧ hF.1 238 = h.1 238 ∧ hF.1 239 = h.1 239 ∧ (∀ k, k < 171 → hG.1 k = hq.1 k) ∧ INX (mixH hF hG) := by
        intro k hk nb e1
        rw [e1, bd1_some, if_neg (nI_m1 (by omega)), sq_eq, sq_eq, sq_eq, sq_eq]
        exact q_textG (h3 := h3) (q9 := wi (wi (wi (wi q8 237 3 0) 237 8 0) 237 9 (-1)) 237 10 (-1)) I hN e8 e9 hg hk cc cr c2 nb hz (fun i hi => by have := z3 i hi; rw [Nat.zero_add] at this; exact this) n1 nk (by rw [wi_j _ _ (by decide), wi_j _ _ (by decide), wi_j _ _ (by decide), wi_j _ _ (by decide)]; exact k4.2.2.2) rfl rfl rfl rfl (by rw [wi_k _ _ (by decide), wi_k _ _ (by decide), wi_k _ _ (by decide), wi_k _ _ (by decide)]; exact k4.1) (by rw [wi_k _ _ (by decide), wi_k _ _ (by decide), wi_k _ _ (by decide), wi_k _ _ (by decide)]; exact k4.2.1) (by rw [wi_k _ _ (by decide), wi_k _ _ (by decide), wi_k _ _ (by decide), wi_k _ _ (by decide)]; exact k4.2.2.1) (fun i h1 h2 h3 => by rw [wi_k _ _ (by decide), wi_k _ _ (by decide), wi_k _ _ (by decide), wi_k _ _ (by decide)]; exact k8 i h1 h2 h3) (fun i h1 h2 => by rw [wi_k _ _ h1, wi_k _ _ h1, wi_k _ _ h1, wi_k _ _ h1]; exact k1 i h1 h2)
      rw [r_isIn, bd1_some, inn, if_neg one0]
      by_cases b1 : b = -1
      · rw [if_pos b1, if_neg (nI_in (by omega) (by decide)), nI_clamp hg31, er]
        by_cases w : c g < 2
        · rw [if_pos (show nI (c g) < 2 from nI_lt (b := 2) w (by decide))]
          refine yes (c g) w (Or.inl ⟨b1, rfl⟩) ?_
          unfold X7_numberFor
          rw [if_neg (nI_pos hg31), if_pos (show nI g < 3 from nI_lt (b := 3) hg (by decide)), if_pos b1, if_neg (nI_in hg (by decide)), nI_clamp hg31, ec, if_neg (show ¬ (2 : Int32) ≤ nI (c g) from nI_ge (b := 2) w (by decide)), if_neg (nI_ic hg hg31)]
        · rw [if_neg (show ¬ nI (c g) < 2 from nI_nlt (b := 2) (by omega) (by omega))]
          refine no _ ?_ rfl
          unfold X7_numberFor
          rw [if_neg (nI_pos hg31), if_pos (show nI g < 3 from nI_lt (b := 3) hg (by decide)), if_pos b1, if_neg (nI_in hg (by decide)), nI_clamp hg31, ec, if_pos (show (2 : Int32) ≤ nI (c g) from nI_le (a := 2) (by omega) (by omega))]
      · rw [if_neg b1, r_isOf hg c2 er b, bd1_some]
        rcases told_cases b (c g) c2 with w | ⟨k, hk, rfl⟩
        · have hno : ¬ ∃ k, k < c g ∧ b = nI k := by
            rintro ⟨k, hk, rfl⟩
            rcases w with w | ⟨j, hj, hcj, e⟩
            · exact nI_pos (by omega) w
            · rw [nI_eq (by omega) hj] at e; omega
          rw [nB_f hno, if_pos rfl]
          refine no _ ?_ rfl
          unfold X7_numberFor
          rw [if_neg (nI_pos hg31), if_pos (show nI g < 3 from nI_lt (b := 3) hg (by decide)), if_neg b1]
          rcases w with w | ⟨j, hj, hcj, rfl⟩
          · rw [if_pos w]
          · rw [if_neg (nI_pos hj), if_neg (nI_in hg (by decide)), nI_clamp hg31, ec, if_pos (nI_le hcj hj)]
        · rw [nB_t ⟨k, hk, rfl⟩, if_neg one0]
          refine yes k (by omega) (Or.inr ⟨rfl, hk⟩) ?_
          unfold X7_numberFor
          rw [if_neg (nI_pos hg31), if_pos (show nI g < 3 from nI_lt (b := 3) hg (by decide)), if_neg b1, if_neg (nI_pos (by omega)), if_neg (nI_in hg (by decide)), nI_clamp hg31, ec, if_neg (nI_ge hk (by omega))]
    · refine no _ ?_ ?_
      · unfold X7_numberFor
        rw [if_neg (nI_pos hg31), if_neg (show ¬ nI g < 3 from nI_nlt (b := 3) (by omega) hg31)]
      · rw [r_isIn, bd1_some, nB_f (fun w => nI_ge (a := 2) (b := g) (by omega) hg31 w.2), if_pos rfl]
theorem q_text {N : Nat} {h : HS} (I : INX h) (hN : 1000000000 ≤ N) (a b : Int32) : ∃ r h1 h2, X10_text N h 1 a b = some (r, h1) ∧ X11_text N h1 237 a b = some (r, h2) ∧ INX h2 := by
  obtain ⟨r, hF, hG, a1, a2, a3, a4, a5, a6⟩ := q_textA (N := N) (hq := h) I hN rfl rfl a b
  obtain ⟨r', hF', hG', b1, b2, b3, b4, b5, b6⟩ := q_textA (N := N) (hq := hF) I hN a3 a4 a b
  have e := a1.symm.trans b1
  injection e with e
  injection e with e1 e2
  subst e1 e2
  refine ⟨r, hF, hG', a1, b2, INX_same (h := mixH hF hG') ?_ b6⟩
  intro k hk
  by_cases y : k < 171
  · rw [mix_l y]; exact b5 k y
  · rw [mix_h (by omega)]
theorem q_endX {N : Nat} {h : HS} (I : INX h) (a : Int32) : ∃ r h1 h2, X10_end N h 1 a = some (r, h1) ∧ X11_end N h1 237 a = some (r, h2) ∧ INX h2 := by
  obtain ⟨r, h1, h2, a1, a2, a3⟩ := q_end (N := N) I.1 a
  refine ⟨r, h1, h2, a1, a2, a3, ?_⟩
  have f : ∀ k, k ≠ 2 → k ≠ 238 → h2.1 k = h.1 k := by
    intro k k2 k8
    unfold X10_end at a1
    unfold X11_end at a2
    have e1 : h1.1 k = h.1 k := by
      by_cases y : a < 0
      · rw [if_pos y] at a1
        injection a1 with a1
        injection a1 with _ a1
        rw [← a1]
      · rw [if_neg y] at a1
        by_cases w : a ≤ h.1 (1 + 1) 1
        · rw [if_pos w, sq_eq] at a1
          injection a1 with a1
          injection a1 with _ a1
          rw [← a1, wi_k _ _ k2]
        · rw [if_neg w] at a1
          injection a1 with a1
          injection a1 with _ a1
          rw [← a1]
    by_cases y : a < 0
    · rw [if_pos y] at a2
      injection a2 with a2
      injection a2 with _ a2
      rw [← a2]; exact e1
    · rw [if_neg y, if_neg (by decide)] at a2
      by_cases w : a ≤ h1.1 (237 + 1) (4 : Int32).toNatClampNeg
      · rw [if_pos w, if_neg (by decide), sq_eq] at a2
        injection a2 with a2
        injection a2 with _ a2
        rw [← a2, wi_k _ _ k8]; exact e1
      · rw [if_neg w] at a2
        injection a2 with a2
        injection a2 with _ a2
        rw [← a2]; exact e1
  exact ⟨SZ_fr (fun k x1 x2 => f k (by omega) (by omega)) I.2.1, fun k hk => SZ_fr (fun j x1 x2 => f j (by omega) (by omega)) (I.2.2 k hk)⟩
theorem INX_hI : INX hI := by
  have m2 : ∀ T, (T = 2 ∨ T = 41 ∨ T = 79 ∨ T = 117) → MO hI T ∧ SZ hI T := by
    intro T hT
    unfold MO SZ SZr
    rcases hT with rfl | rfl | rfl | rfl
    · exact ⟨by decide +kernel, ⟨0, by decide, by decide +kernel⟩, ⟨0, by decide, by decide +kernel⟩, ⟨0, by decide, by decide +kernel⟩, ⟨0, by decide, by decide +kernel⟩⟩
    · exact ⟨by decide +kernel, ⟨0, by decide, by decide +kernel⟩, ⟨0, by decide, by decide +kernel⟩, ⟨0, by decide, by decide +kernel⟩, ⟨0, by decide, by decide +kernel⟩⟩
    · exact ⟨by decide +kernel, ⟨0, by decide, by decide +kernel⟩, ⟨0, by decide, by decide +kernel⟩, ⟨0, by decide, by decide +kernel⟩, ⟨0, by decide, by decide +kernel⟩⟩
    · exact ⟨by decide +kernel, ⟨0, by decide, by decide +kernel⟩, ⟨0, by decide, by decide +kernel⟩, ⟨0, by decide, by decide +kernel⟩, ⟨0, by decide, by decide +kernel⟩⟩
  refine ⟨⟨⟨fun _ => 0, ⟨0, by decide, by decide +kernel, by decide +kernel, fun i hi => absurd hi (Nat.not_lt_zero _)⟩, by decide +kernel, by decide +kernel, ?_, fun k hk => absurd hk (Nat.not_lt_zero _), fun k hk => absurd hk (Nat.not_lt_zero _), fun k hk => absurd hk (Nat.not_lt_zero _)⟩, ?_, (m2 2 (Or.inl rfl)).1, ?_, by decide +kernel⟩, (m2 2 (Or.inl rfl)).2, ?_⟩
  · intro s hs
    exact ⟨Nat.zero_le 2, (by decide +kernel : ∀ s, s < 3 → hI.1 (2 + 2) s = nI 0) s hs, (by decide +kernel : ∀ s, s < 3 → hI.1 238 (0 + s) = nI 0) s hs⟩
  · intro k hk
    exact Or.inl ((by decide +kernel : ∀ k, k < 3 → hI.1 155 k = 0 ∧ hI.1 239 k = 0) k hk)
  · intro k hk; exact (m2 _ (by omega)).1
  · intro k hk; exact (m2 _ (by omega)).2
theorem q_feedX {N : Nat} {h : HS} (I : INX h) (hN : 100 ≤ N) (a b d e f : Int32) : ∃ r h1 h2, X10_feed N h 1 a b d e f = some (r, h1) ∧ X11_feed N h1 237 a b d e f = some (r, h2) ∧ INX h2 := by
  obtain ⟨r, h1, h2, a1, a2, a3, a4⟩ := q_feed (N := N) I.1 hN a b d e f
  exact ⟨r, h1, h2, a1, a2, a3, SZ_fr (fun k x1 x2 => a4 k (by omega) (by omega) (by omega)) I.2.1, fun k hk => SZ_fr (fun j x1 x2 => a4 j (by omega) (by omega) (by omega)) (I.2.2 k hk)⟩
theorem q_farX {N : Nat} {h : HS} (I : INV h) (hN : 1000000000 ≤ N) (a b : Int32) : ∃ r h1 h2, X10_far N h 1 a b = some (r, h1) ∧ X11_far N h1 237 a b = some (r, h2) ∧ Same h h2 :=
  q_far I hN a b (fun p q D h2 c r => ⟨_, c_mutes c (by omega), r_mutes r (by omega)⟩)
