/-! ===== level 2: tunes ===== -/
section TUH
variable {N : Nat} {q : Nat} {D : Nat → Nat} {h : HS}
theorem GG8 (k : HK D) (r n : Nat) (hr : r ≤ 8) : GG (D 3) (AF D) (D 1) r n < 2 ^ 31 := by
  have h1 := GG_le (d := D 3) (B := D 1) (AC_nine (D := D) (fx := frD D)) r n
  have h3 : 9 ^ r ≤ 9 ^ 8 := Nat.pow_le_pow_right (by decide) hr
  have : (9 : Nat) ^ 8 = 43046721 := by decide
  have h1' : GG (D 3) (AF D) (D 1) r n ≤ 9 ^ r := h1
  omega
theorem rf_lt (k : HK D) (b n : Nat) : rf D b n < 2 ^ 31 := by
  have hk := hk0 k
  have := GG8 k (D 1 - (b + 1)) n (by omega)
  unfold rf
  by_cases z : AF D b n = true
  · rw [if_pos z]; exact this
  · rw [if_neg z]; decide
theorem r_tunesOf (c : RH h q D) (t : RTU h D) (hN : 100 ≤ N) : X11_tunesOf N h 237 = some (nI (totG D)) := by
  have hk := hk0 c.1
  unfold X11_tunesOf
  by_cases z : D 1 = 0
  · obtain ⟨M, hM, _⟩ := fuel (show 50 < N by omega)
    rw [hM, X11_tunesOf_l4, if_neg (by decide), rh1 c, z, if_pos (show nI 0 ≤ 0 by decide), if_pos (show nI 0 = 0 from rfl), totG, z, GG]
    rfl
  · have key : ∀ (r n fu : Nat), n + r = 10 → r < fu → X11_tunesOf_l4 N h fu 237 (nI (sNt (rf D 0) n)) (nI n) = some (nI (sNt (rf D 0) 10)) := by
      intro r
      induction r with
      | zero =>
        intro n fu e hf
        obtain ⟨fu, rfl, _⟩ := fuel hf
        rw [X11_tunesOf_l4, if_pos (show (10 : Int32) ≤ nI n from nI_le (a := 10) (by omega) (by omega)), rh1 c, if_neg (nI_ne0 (by omega) (by omega)), show n = 10 by omega]
      | succ r ih =>
        intro n fu e hf
        obtain ⟨fu, rfl, _⟩ := fuel hf
        have ih' := ih (n + 1) fu (by omega) (by omega)
        rw [sNt] at ih'
        have t0 := t.1 0 (by omega) n (by omega)
        rw [Nat.mul_zero, Nat.zero_add] at t0
        rw [X11_tunesOf_l4, if_neg (show ¬ (10 : Int32) ≤ nI n from nI_ge (b := 10) (by omega) (by decide)), rh1 c, if_neg (show ¬ nI (D 1) ≤ 0 from nI_nle (by omega) (by omega)), if_neg (nI_in (by omega) (by decide)), nI_clamp (by omega), show h.1 (237 + 14) n = _ from t0, nI_add, nI_1]
        exact ih'
    have k1 := key 10 0 N (by omega) (by omega)
    refine Eq.trans k1 ?_
    congr 2
    have e : totG D = GG (D 3) (AF D) (D 1) ((D 1 - 1) + 1) 0 := by rw [show D 1 - 1 + 1 = D 1 by omega]
    rw [e, GG, show D 1 - 1 - (D 1 - 1) = 0 by omega]
    refine sNt_congr 10 (fun m _ => ?_)
    unfold rf
    by_cases y : AF D 0 m = true
    · rw [if_pos y, if_pos ⟨Or.inl rfl, y⟩]
    · rw [if_neg y, if_neg (fun v => y v.2)]
theorem r_walledBar (c : RH h q D) (hN : 100 ≤ N) {k : Nat} (hk7 : k < 10) : X11_walledBar N h 237 (nI k) = some (oI (kb (D 4) k (D 1) 0 0)) := by
  have hk := hk0 c.1
  have key : ∀ (r b fu seen : Nat), b + r = D 1 → r < fu → seen ≤ b → X11_walledBar_l4 N h fu 237 (nI k) (nI seen) (nI b) = some (oI (kb (D 4) k r b seen)) := by
    intro r
    induction r with
    | zero =>
      intro b fu seen e hf hs
      obtain ⟨fu, rfl, _⟩ := fuel hf
      rw [X11_walledBar_l4, rh1 c, if_pos (nI_le (by omega) (by omega))]
      rfl
    | succ r ih =>
      intro b fu seen e hf hs
      obtain ⟨fu, rfl, _⟩ := fuel hf
      rw [X11_walledBar_l4, rh1 c, if_neg (nI_ge (by omega) (by omega)), r_isWalled c (by omega), bd1_some, kb, nI_1, nI_1]
      by_cases z : (D 4).testBit b = true
      · rw [nB_t z, if_neg one0, if_pos z]
        by_cases y : seen = k
        · rw [if_pos (by rw [y]), if_pos y]; rfl
        · rw [if_neg (fun v => y ((nI_eq (by omega) (by omega)).mp v)), if_neg y]
          exact ih (b + 1) fu (seen + 1) (by omega) (by omega) (by omega)
      · rw [nB_f z, if_pos rfl, if_neg z]
        exact ih (b + 1) fu seen (by omega) (by omega) (by omega)
  exact key (D 1) 0 N 0 (by omega) (by omega) (by omega)
theorem r_firstTune (c : RH h q D) (t : RTU h D) (hN : 100 ≤ N) (hG : totG D ≠ 0) {w : Nat} (hw : w < D 1) : X11_firstTune N h 237 (nI w) = some (nI (fD D w)) := by
  have hk := hk0 c.1
  have l12 : ∀ (K4 : Nat → Int32 → Int32 → Int32 → Option Int32) (b : Nat), b < D 1 → ∀ (r n fu : Nat), n + r = fD D b → r < fu → X11_firstTune_l12 N h K4 fu 237 (nI w) (nI (pvN (D 3) (AF D) (D 1) b)) (nI b) (nI n) = K4 237 (nI w) (nI (fD D b)) (nI (b + 1)) := by
    intro K4 b hb
    obtain ⟨f1, f2, f3, f4, f5⟩ := ft_step hb (ft_ok hG b (by omega))
    have hpv : pvN (D 3) (AF D) (D 1) b < 10 := by
      by_cases y : b = 0
      · rw [pvN, if_pos y]; omega
      · rw [pvN, if_neg y]
        exact (ft_step (show b - 1 < D 1 by omega) (ft_ok hG (b - 1) (by omega))).2.2.2.2
    have least : ∀ n, n < fD D b → pkP (D 3) (AF D) (D 1) b (pvN (D 3) (AF D) (D 1) b) n = false := by
      intro n hn
      rcases zf_spec (P := pkP (D 3) (AF D) (D 1) b (pvN (D 3) (AF D) (D 1) b)) 10 0 with ⟨a1, _⟩ | ⟨s, a1, a2, a3, a4, a5⟩
      · rw [a1] at f1; cases f1
      · rw [a1] at f1
        have es : s = fD D b := Option.some.inj f1
        have := a5 n (Nat.zero_le _) (by omega)
        simpa using this
    have rb : ∀ n, n < 10 → h.1 (237 + 14) (10 * b + n) = nI (rf D b n) := fun n hn => t.1 b hb n hn
    intro r
    induction r with
    | zero =>
      intro n fu e hf
      obtain ⟨fu, rfl, _⟩ := fuel hf
      have en : n = fD D b := by omega
      subst en
      have f5' : fD D b < 10 := f5
      have hrf : rf D b (fD D b) ≠ 0 := by rw [rf, if_pos f3]; exact f4
      have hlt := rf_lt c.1 b (fD D b)
      rw [X11_firstTune_l12, ix10, if_neg (nI_in (by omega) (by decide)), nI_clamp (by omega), rb _ f5', if_neg (nI_ne0 (by omega) hlt), r_isNear c hpv f5', bd1_some, nB_t f2, if_neg one0, nI_1]
    | succ r ih =>
      intro n fu e hf
      obtain ⟨fu, rfl, _⟩ := fuel hf
      have f5' : fD D b < 10 := f5
      have hlt := rf_lt c.1 b n
      have ih' := ih (n + 1) fu (by omega) (by omega)
      rw [X11_firstTune_l12, ix10, if_neg (nI_in (by omega) (by decide)), nI_clamp (by omega), rb n (by omega), nI_1]
      by_cases y : rf D b n = 0
      · rw [if_pos (by rw [y]; rfl)]
        exact ih'
      · rw [if_neg (nI_ne0 (by omega) hlt), r_isNear c hpv (by omega), bd1_some]
        have nn : ¬ nr (D 3) (pvN (D 3) (AF D) (D 1) b) n := by
          intro v
          have := of_decide_eq_false (least n (by omega))
          apply this
          unfold rf at y
          by_cases x : AF D b n = true
          · rw [if_pos x] at y; exact ⟨v, x, y⟩
          · rw [if_neg x] at y; exact absurd rfl y
        rw [nB_f nn, if_pos rfl]
        exact ih'
  have key : ∀ (r b fu : Nat), b + r = w + 1 → r < fu → X11_firstTune_l4 N h fu 237 (nI w) (nI (pvN (D 3) (AF D) (D 1) b)) (nI b) = some (nI (fD D w)) := by
    intro r
    induction r with
    | zero =>
      intro b fu e hf
      obtain ⟨fu, rfl, _⟩ := fuel hf
      rw [X11_firstTune_l4, if_pos (nI_lt (by omega) (by omega)), pvN, if_neg (by omega), show b - 1 = w by omega]
    | succ r ih =>
      intro b fu e hf
      obtain ⟨fu, rfl, _⟩ := fuel hf
      have hf9 : fD D b < 10 := (ft_step (show b < D 1 by omega) (ft_ok hG b (by omega))).2.2.2.2
      rw [X11_firstTune_l4, if_neg (nI_nlt (by omega) (by omega)), show X11_firstTune_l12 N h (X11_firstTune_l4 N h fu) N 237 (nI w) (nI (pvN (D 3) (AF D) (D 1) b)) (nI b) 0 = _ from l12 _ b (by omega) (fD D b) 0 N (by omega) (by omega)]
      have := ih (b + 1) fu (by omega) (by omega)
      rw [pvN, if_neg (by omega), Nat.add_sub_cancel] at this
      exact this
  have k1 := key (w + 1) 0 N (by omega) (by omega)
  rw [pvN, if_pos rfl] at k1
  exact k1
theorem su_2 {w : Nat} : ∀ (r x : Nat) (s : Int32 × Nat), 2 ≤ s.2 → suV (zl (suF D w) r x s) = -1 := by
  intro r
  induction r with
  | zero => intro x s hs; exact if_neg (by show ¬ s.2 = 1; omega)
  | succ r ih =>
    intro x s hs
    rw [show zl (suF D w) (r + 1) x s = zl (suF D w) r (x + 1) (suF D w x s) from rfl]
    apply ih
    unfold suF
    by_cases z : tot D (frD D) w x = 0
    · rw [if_pos z]; exact hs
    · rw [if_neg z]; show 2 ≤ s.2 + 1; omega
theorem r_sureTune (c : RH h q D) (t : RTU h D) (hN : 100 ≤ N) {w : Nat} (hw : w < D 1) : X11_sureTune N h 237 (nI w) = some (suV (zl (suF D w) 9 1 (-1, 0))) := by
  have hk := hk0 c.1
  have key : ∀ (r n fu cc : Nat) (v : Int32), n + r = 10 → r < fu → ((cc = 0 ∧ v = -1) ∨ (cc = 1 ∧ ∃ x, x < 10 ∧ v = nI x)) → X11_sureTune_l4 N h fu 237 (nI w) v (nI n) = some (suV (zl (suF D w) r n (v, cc))) := by
    intro r
    induction r with
    | zero =>
      intro n fu cc v e hf hc
      obtain ⟨fu, rfl, _⟩ := fuel hf
      rw [X11_sureTune_l4, if_pos (show (10 : Int32) ≤ nI n from nI_le (a := 10) (by omega) (by omega))]
      show some v = some (suV (v, cc))
      rcases hc with ⟨c1, c2⟩ | ⟨c1, _⟩
      · rw [suV, if_neg (by show ¬ cc = 1; omega), c2]
      · rw [suV, if_pos c1]
    | succ r ih =>
      intro n fu cc v e hf hc
      obtain ⟨fu, rfl, _⟩ := fuel hf
      have hlt := rf_lt c.1 w n
      have ft : tot D (frD D) w n = FF (D 3) (AF D) (w + 1) n * GG (D 3) (AF D) (D 1) (D 1 - (w + 1)) n := fix_tot hw (by omega)
      rw [show zl (suF D w) (r + 1) n (v, cc) = zl (suF D w) r (n + 1) (suF D w n (v, cc)) from rfl]
      rw [X11_sureTune_l4, if_neg (show ¬ (10 : Int32) ≤ nI n from nI_ge (b := 10) (by omega) (by decide)), ix10, if_neg (nI_in (by omega) (by decide)), nI_clamp (by omega), show h.1 (237 + 14) (10 * w + n) = _ from t.1 w hw n (by omega), show h.1 (237 + 15) (10 * w + n) = _ from t.2 w hw n (by omega), nI_1]
      by_cases y : tot D (frD D) w n = 0
      · rw [show suF D w n (v, cc) = (v, cc) from if_pos y]
        have ih' := ih (n + 1) fu cc v (by omega) (by omega) hc
        by_cases x : rf D w n = 0
        · rw [if_pos (by rw [x]; rfl)]
          exact ih'
        · rw [if_neg (nI_ne0 (by omega) hlt), if_neg (nI_ic (by omega) (by omega))]
          have f0 : FF (D 3) (AF D) (w + 1) n = 0 := by
            rw [ft] at y
            rcases Nat.mul_eq_zero.mp y with u | u
            · exact u
            · exfalso
              apply x
              unfold rf
              rw [u, ite_self]
          rw [cmI, nB_f (fun u => u f0), if_pos rfl]
          exact ih'
      · rw [show suF D w n (v, cc) = (nI n, cc + 1) from if_neg y]
        have f1 : FF (D 3) (AF D) (w + 1) n ≠ 0 := fun u => y (by rw [ft, u, Nat.zero_mul])
        have g1 : GG (D 3) (AF D) (D 1) (D 1 - (w + 1)) n ≠ 0 := fun u => y (by rw [ft, u, Nat.mul_zero])
        have a1 : AF D w n = true := by
          by_cases u : AF D w n = true
          · exact u
          · rw [FF, if_neg u] at f1; exact absurd rfl f1
        have r1 : rf D w n ≠ 0 := by rw [rf, if_pos a1]; exact g1
        rw [if_neg (nI_ne0 (by omega) hlt), if_neg (nI_ic (by omega) (by omega)), cmI, nB_t f1, if_neg one0]
        rcases hc with ⟨c1, c2⟩ | ⟨c1, x, x1, x2⟩
        · rw [if_pos c2, c1]
          exact ih (n + 1) fu 1 (nI n) (by omega) (by omega) (Or.inr ⟨rfl, n, by omega, rfl⟩)
        · rw [if_neg (by rw [x2]; exact nI_m1 (by omega)), su_2 r (n + 1) (nI n, cc + 1) (by show 2 ≤ cc + 1; omega)]
  exact key 9 1 N 0 (-1) (by omega) (by omega) (Or.inl ⟨rfl, rfl⟩)
theorem su_0 (hG : totG D = 0) (w : Nat) : suV (zl (suF D w) 9 1 (-1, 0)) = -1 := by
  rw [zl_id 9 1 _ (fun j _ _ s => if_pos (by
    have h2 := GG_sub (d := D 3) (B := D 1) (A := AF D) (A' := fixA (AC D (frD D)) w j) (fun b n h => by unfold fixA at h; simp at h; exact h.1) (D 1) 0
    have z' : GG (D 3) (AF D) (D 1) (D 1) 0 = 0 := hG
    show GG (D 3) (fixA (AC D (frD D)) w j) (D 1) (D 1) 0 = 0
    omega))]
  rfl
theorem cnt_cb : ∀ F, F < 256 → cnt10 F = cb F 8 := by decide +kernel
end TUH
