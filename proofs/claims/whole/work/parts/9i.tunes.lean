/-! ===== level 2: tunes, both ===== -/
theorem q_tunes {N : Nat} {h : HS} (I : INV h) (hN : 100 ≤ N) (a d : Int32) : ∃ r h1 h2, X10_tunes N h 1 a d = some (r, h1) ∧ X11_tunes N h1 237 a d = some (r, h2) ∧ Same h h2 := by
  unfold X10_tunes X11_tunes
  rcases opn (N := N) I a with ⟨e1, e2⟩ | ⟨p, q, D, e1, hp, c, e2⟩
  · exact ⟨-2, h, h, by rw [e1]; rfl, by rw [e2 h (Same.refl h)]; rfl, Same.refl h⟩
  · have hk := hk0 c.2.1
    have h4 := hk4 c.2.1
    obtain ⟨h1, a1, a2, a3⟩ := c_enterT (N := N) c hN
    rw [e1, bd1_some, if_neg hp, show X8_enter N h (1 + 220) p = _ from a1, bd1_some]
    have sm1 : ∀ h3 : HS, (∀ k, k ≠ 232 → k ≠ 233 → k ≠ 234 → h3.1 k = h1.1 k) → Same h h3 := fun h3 f k hk => (f k (by omega) (by omega) (by omega)).trans (a3 k (by omega))
    have ref : ∀ h3 : HS, Same h h3 → ∃ h4 h5, X11_isHouse N h3 237 a = some (1, h4) ∧ X11_laysTunes N h4 237 = some h5 ∧ RH h5 q D ∧ RTU h5 D ∧ Same h h5 := by
      intro h3 s3
      obtain ⟨h4, e3, rh, sm, _⟩ := e2 h3 s3
      obtain ⟨h5, b1, b2, b3, b4⟩ := r_laysTunes (N := N) rh hN
      exact ⟨h4, h5, e3, b1, b2, b3, Same.trans sm (fun k hk => b4 k (by omega) (by omega))⟩
    by_cases d0 : d = 0
    · subst d0
      obtain ⟨h3, x1, x2, x3⟩ := c_rows (N := N) a2 hN
      obtain ⟨h4, h5, y1, y2, y3, y4, y5⟩ := ref h3 (sm1 h3 (fun k _ k2 k3 => x3 k k2 k3))
      refine ⟨nI (totG D), h3, h5, ?_, ?_, y5⟩
      · rw [if_pos rfl, show X8_rows N h1 (1 + 220) = _ from x1, bd2_some]
      · rw [y1, bd2_some, if_neg one0, y2, bd1_some, if_pos rfl, r_tunesOf y3 y4 hN, bd1_some]
    rw [if_neg d0]
    have out : ¬ ((10 : Int32) ≤ d ∧ d ≤ 29) → ∃ h2, (bd2 (X11_isHouse N h1 237 a) fun r2 h3 => (if r2 = 0 then some ((-2 : Int32), h3) else bd1 (X11_laysTunes N h3 237) fun h7 => (if d = 0 then bd1 (X11_tunesOf N h7 237) fun r35 => some (r35, h7) else bd1 (X11_isIn N h7 d 10 29) fun r10 => (if r10 = 0 then some ((-2), h7) else bd1 (X11_walledBar N h7 237 (d - d / 10 * 10)) fun r14 => (if r14 = ((-1) : Int32) then some ((-2), h7) else bd1 (X11_tunesOf N h7 237) fun r18 => (if r18 = 0 then some ((-1), h7) else (if (20 : Int32) ≤ d then bd1 (X11_walledBar N h7 237 (d - d / 10 * 10)) fun r23 => bd1 (X11_sureTune N h7 237 r23) fun r26 => some (r26, h7) else bd1 (X11_walledBar N h7 237 (d - d / 10 * 10)) fun r29 => bd1 (X11_firstTune N h7 237 r29) fun r32 => some (r32, h7)))))))) = some (-2, h2) ∧ Same h h2 := by
      intro no
      obtain ⟨h4, h5, y1, y2, y3, y4, y5⟩ := ref h1 (sm1 h1 (fun _ _ _ _ => rfl))
      exact ⟨h5, by rw [y1, bd2_some, if_neg one0, y2, bd1_some, if_neg d0, r_isIn, bd1_some, nB_f no, if_pos rfl], y5⟩
    rcases i_cases d with z | ⟨n, hn, rfl⟩
    · obtain ⟨h2, o1, o2⟩ := out (fun v => absurd (Int32.lt_of_le_of_lt v.1 z) (by decide))
      exact ⟨-2, h1, h2, by rw [if_pos (Int32.lt_trans z (by decide))], o1, o2⟩
    by_cases n1 : n < 10
    · obtain ⟨h2, o1, o2⟩ := out (fun v => nI_ge (b := 10) (a := n) n1 (by decide) v.1)
      exact ⟨-2, h1, h2, by rw [if_pos (show nI n < 10 from nI_lt (b := 10) n1 (by decide))], o1, o2⟩
    rw [if_neg (show ¬ nI n < 10 from nI_nlt (b := 10) (by omega) hn)]
    by_cases n2 : n < 30
    · rw [if_pos (show nI n < 30 from nI_lt (b := 30) n2 (by decide)), ch4 a2.2.1, bc_e (by omega), bd1_some]
      have er : nI n - nI n / 10 * 10 = nI (n % 10) := pk_rem (d := 10) hn (by decide) (by decide)
      have hk10 : n % 10 < 10 := Nat.mod_lt _ (by decide)
      rw [er]
      have cc : cnt10 (D 4) = cb (D 4) 8 := cnt_cb _ (by omega)
      have cl := cnt10_lt (D 4)
      have ekb : kb (D 4) (n % 10) 8 0 0 = kb (D 4) (n % 10) (D 1) 0 0 := by
        rw [show (8 : Nat) = D 1 + (8 - D 1) by omega, kb_cut h4.1 (D 1) 0 0 (8 - D 1) (by omega)]
      have inn : (10 : Int32) ≤ nI n ∧ nI n ≤ 29 := ⟨nI_le (a := 10) (by omega) hn, nI_le (b := 29) (by omega) (by decide)⟩
      cases hw : kb (D 4) (n % 10) (D 1) 0 0 with
      | none =>
        have ge : cb (D 4) 8 ≤ n % 10 := by
          rw [← ekb] at hw
          rcases kb_no (F := D 4) 8 0 hw with x | x
          · exact absurd x (Nat.not_lt_zero _)
          · exact x
        rw [if_neg (nI_nlt (by omega) (by omega))]
        obtain ⟨h4, h5, y1, y2, y3, y4, y5⟩ := ref h1 (sm1 h1 (fun _ _ _ _ => rfl))
        refine ⟨-2, h1, h5, rfl, ?_, y5⟩
        rw [y1, bd2_some, if_neg one0, y2, bd1_some, if_neg d0, r_isIn, bd1_some, nB_t inn, if_neg one0, r_walledBar y3 hN hk10, bd1_some, hw, if_pos (show oI none = -1 from rfl)]
      | some w =>
        obtain ⟨w1, w2, w3⟩ := kb_cb (F := D 4) (D 1) 0 w hw
        have hw1 : w < D 1 := by omega
        have lt : n % 10 < cb (D 4) 8 := by
          have := cb_lt (F := D 4) (show w < 8 by omega) w1
          omega
        have hk8 : n % 10 < 8 := by
          have : cb (D 4) 8 ≤ 8 := by
            have e : ∀ k, cb (D 4) k ≤ k := by
              intro k
              induction k with
              | zero => exact Nat.le_refl _
              | succ k ih =>
                have ee : cb (D 4) (k + 1) = cb (D 4) k + (if (D 4).testBit k = true then 1 else 0) := rfl
                by_cases u : (D 4).testBit k = true
                · rw [if_pos u] at ee; omega
                · rw [if_neg u] at ee; omega
            exact e 8
          omega
        rw [if_pos (nI_lt (by omega) (by omega))]
        have ow : oI (some w) = nI w := rfl
        have tl : totG D < 2 ^ 31 := GG8 c.2.1 (D 1) 0 (by omega)
        have ans : ∀ h3 : HS, Same h h3 → ∃ h2, (bd2 (X11_isHouse N h3 237 a) fun r2 h3 => (if r2 = 0 then some ((-2 : Int32), h3) else bd1 (X11_laysTunes N h3 237) fun h7 => (if nI n = 0 then bd1 (X11_tunesOf N h7 237) fun r35 => some (r35, h7) else bd1 (X11_isIn N h7 (nI n) 10 29) fun r10 => (if r10 = 0 then some ((-2), h7) else bd1 (X11_walledBar N h7 237 (nI (n % 10))) fun r14 => (if r14 = ((-1) : Int32) then some ((-2), h7) else bd1 (X11_tunesOf N h7 237) fun r18 => (if r18 = 0 then some ((-1), h7) else (if (20 : Int32) ≤ nI n then bd1 (X11_walledBar N h7 237 (nI (n % 10))) fun r23 => bd1 (X11_sureTune N h7 237 r23) fun r26 => some (r26, h7) else bd1 (X11_walledBar N h7 237 (nI (n % 10))) fun r29 => bd1 (X11_firstTune N h7 237 r29) fun r32 => some (r32, h7)))))))) = some (if 20 ≤ n then suV (zl (suF D w) 9 1 (-1, 0)) else lsV D w, h2) ∧ Same h h2 := by
          intro h3 s3
          obtain ⟨h4, h5, y1, y2, y3, y4, y5⟩ := ref h3 s3
          refine ⟨h5, ?_, y5⟩
          rw [y1, bd2_some, if_neg one0, y2, bd1_some, if_neg d0, r_isIn, bd1_some, nB_t inn, if_neg one0, r_walledBar y3 hN hk10, bd1_some, hw, ow, if_neg (nI_m1 (by omega)), r_tunesOf y3 y4 hN, bd1_some]
          by_cases g : totG D = 0
          · rw [if_pos (by rw [g]; rfl), su_0 g, lsV, if_pos g, ite_self]
          · rw [if_neg (nI_ne0 (by omega) tl)]
            by_cases v : 20 ≤ n
            · rw [if_pos (show (20 : Int32) ≤ nI n from nI_le (a := 20) v hn), bd1_some, r_sureTune y3 y4 hN hw1, bd1_some, if_pos v]
            · rw [if_neg (show ¬ (20 : Int32) ≤ nI n from nI_ge (b := 20) (by omega) (by decide)), bd1_some, r_firstTune y3 y4 hN g hw1, bd1_some, if_neg v, lsV, if_neg g]
        by_cases v : 20 ≤ n
        · obtain ⟨h3, x1, x2⟩ := c_sureOf (N := N) a2 hN hk8 hw
          obtain ⟨h2, y1, y2⟩ := ans h3 (sm1 h3 x2)
          refine ⟨_, h3, h2, ?_, y1, y2⟩
          rw [if_pos (show (20 : Int32) ≤ nI n from nI_le (a := 20) v hn), show X8_sureOf N h1 (1 + 220) (nI (n % 10)) = _ from x1, bd2_some, if_pos v]
        · obtain ⟨h3, x1, x2⟩ := c_leastOf (N := N) a2 hN hk8 hw
          obtain ⟨h2, y1, y2⟩ := ans h3 (sm1 h3 x2)
          refine ⟨_, h3, h2, ?_, y1, y2⟩
          rw [if_neg (show ¬ (20 : Int32) ≤ nI n from nI_ge (b := 20) (by omega) (by decide)), show X8_leastOf N h1 (1 + 220) (nI (n % 10)) = _ from x1, bd2_some, if_neg v]
    · rw [if_neg (show ¬ nI n < 30 from nI_nlt (b := 30) (by omega) hn)]
      obtain ⟨h2, o1, o2⟩ := out (fun v => nI_ge (a := 29) (b := n) (by omega) hn v.2)
      exact ⟨-2, h1, h2, rfl, o1, o2⟩
