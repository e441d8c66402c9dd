/-! ===== level 2: tussle: the class's turns ===== -/
section GAD
variable {N : Nat} {p T : Nat} {D : Nat → Nat}
def CGf (t : Nat) (h h' : HS) : Prop := h'.2 = h.2 ∧ (∀ k, k ≠ 210 → h'.1 k = h.1 k) ∧ (0 < t → h'.1 210 5 = h.1 210 5)
theorem CG_fr {h h' : HS} {sk un sk' un' : Nat} (g : CG h p D T sk un) (e2 : h'.2 = h.2) (ek : ∀ k, k ≠ 210 → h'.1 k = h.1 k) (e1 : h'.1 210 1 = nI T) (e3 : h'.1 210 2 = nI sk') (e4 : h'.1 210 3 = nI un') : CG h' p D T sk' un' := ⟨by rw [e2]; exact g.1, KH_n (fun k hk => ek k (by omega)) g.2.1, e1, e3, e4⟩
abbrev tL (D : Nat → Nat) (r sk un : Nat) : Int × Nat := dsc (mayL D sk) (vL D r sk un) 8
theorem dsc_le {may : Nat → Bool} {v : Nat → Int} : ∀ r, (dsc may v r).2 ≤ 8 := by
  intro r
  induction r with
  | zero => exact Nat.le_refl _
  | succ r ih =>
    rw [dsc]
    by_cases z : may (7 - r) = true
    · rw [if_pos z]
      by_cases y : v (7 - r) < (dsc may v r).1
      · rw [if_pos y]; exact ih
      · rw [if_neg y]; show 7 - r ≤ 8; omega
    · rw [if_neg z]; exact ih
/-- the house, floor by floor -/
def afo (may : Nat → Bool) (v : Nat → Int) : Nat → Nat → Int → Int
  | 0, _, cur => cur
  | r + 1, i, cur => afo may v r (i + 1) (if may i = true then (if v i < cur then v i else cur) else cur)
theorem mh_le {may : Nat → Bool} {v : Nat → Int} : ∀ r, mh may v r ≤ v 6 := by
  intro r
  induction r with
  | zero => exact Int.le_refl _
  | succ r ih =>
    rw [mh]
    by_cases z : may (5 - r) = true
    · rw [if_pos z]
      by_cases y : v (5 - r) < mh may v r
      · rw [if_pos y]; omega
      · rw [if_neg y]; exact ih
    · rw [if_neg z]; exact ih
theorem afo_mh {may : Nat → Bool} {v : Nat → Int} : ∀ r, r ≤ 6 → ∀ cur, cur ≤ v 6 → afo may v r (6 - r) cur = if mh may v r < cur then mh may v r else cur := by
  intro r
  induction r with
  | zero =>
    intro _ cur hc
    rw [afo, mh, if_neg (by omega)]
  | succ r ih =>
    intro hr cur hc
    rw [afo, mh, show 6 - (r + 1) + 1 = 6 - r by omega, show 6 - (r + 1) = 5 - r by omega]
    by_cases z : may (5 - r) = true
    · rw [if_pos z, if_pos z]
      by_cases y : v (5 - r) < cur
      · rw [if_pos y, ih (by omega) _ (by omega)]
        by_cases x : v (5 - r) < mh may v r
        · rw [if_pos x, if_neg (by omega), if_pos y]
        · rw [if_neg x]
          by_cases w : mh may v r < v (5 - r)
          · rw [if_pos w, if_pos (by omega)]
          · rw [if_neg w, if_pos (by omega)]; omega
      · rw [if_neg y, ih (by omega) _ hc]
        by_cases x : v (5 - r) < mh may v r
        · rw [if_pos x, if_neg (by omega), if_neg y]
        · rw [if_neg x]
    · rw [if_neg z, if_neg z, ih (by omega) _ hc]
theorem afo_6 {may : Nat → Bool} {v : Nat → Int} : afo may v 6 0 (v 6) = mh may v 6 := by
  have := afo_mh (may := may) (v := v) 6 (Nat.le_refl 6) (v 6) (Int.le_refl _)
  have h2 := mh_le (may := may) (v := v) 6
  rw [show (6 : Nat) - 6 = 0 from rfl] at this
  rw [this]
  by_cases z : mh may v 6 < v 6
  · rw [if_pos z]
  · rw [if_neg z]; omega
theorem afo_no {may : Nat → Bool} {v : Nat → Int} : ∀ (r i : Nat) (cur : Int), (∀ j, i ≤ j → may j = false) → afo may v r i cur = cur := by
  intro r
  induction r with
  | zero => intro i cur _; rfl
  | succ r ih =>
    intro i cur h
    rw [afo, if_neg (by rw [h i (Nat.le_refl _)]; decide)]
    exact ih (i + 1) cur (fun j hj => h j (by omega))
theorem c_game (hN : 100 ≤ N) (hT : T ≤ 4) : ∀ r : Nat,
    (∀ (t d : Nat) (h : HS) (sk un : Nat), t + r = T → r < d → CG h p D T sk un → skO D sk → un < 64 → ∃ h', (X9_landlordFrom_r N d).1 h 210 (nI t) = some (iI (gv D r true sk un), h') ∧ CG h' p D T sk un ∧ CGf t h h' ∧ (t = 0 → 0 < r → h'.1 210 5 = nI (tL D (r - 1) sk un).2)) ∧
    (∀ (t d : Nat) (h : HS) (sk un : Nat), t + r = T → r < d → CG h p D T sk un → skO D sk → un < 64 → ∃ h', (X9_landlordFrom_r N d).2 h 210 (nI t) = some (iI (gv D r false sk un), h') ∧ CG h' p D T sk un ∧ CGf 1 h h') := by
  intro r
  induction r with
  | zero =>
    refine ⟨?_, ?_⟩
    · intro t d h sk un e hd g s hu
      obtain ⟨d, rfl, _⟩ := fuel hd
      refine ⟨h, ?_, g, ⟨rfl, fun _ _ => rfl, fun _ => rfl⟩, fun _ h0 => absurd h0 (Nat.lt_irrefl 0)⟩
      rw [X9_landlordFrom_r]
      show X9_landlordFrom_B N _ _ h 210 (nI t) = _
      unfold X9_landlordFrom_B
      rw [g.2.2.1, if_neg (nI_nlt (by omega) (by omega)), gv]
      rfl
    · intro t d h sk un e hd g s hu
      obtain ⟨d, rfl, _⟩ := fuel hd
      refine ⟨h, ?_, g, ⟨rfl, fun _ _ => rfl, fun _ => rfl⟩⟩
      rw [X9_landlordFrom_r]
      show X9_houseFrom_B N _ _ h 210 (nI t) = _
      unfold X9_houseFrom_B
      rw [g.2.2.1, if_neg (nI_nlt (by omega) (by omega)), gv]
      rfl
  | succ r ih =>
    obtain ⟨ihL, ihH⟩ := ih
    refine ⟨?_, ?_⟩
    · intro t d h sk un e hd g s hu
      obtain ⟨d, rfl, hd'⟩ := fuel hd
      have k := g.2.1.2.1
      have hk := hk0 k
      obtain ⟨h1, a1, a2, a3⟩ := ihH (t + 1) d h sk un (by omega) (by omega) g s hu
      rw [X9_landlordFrom_r]
      show ∃ h', X9_landlordFrom_B N _ _ h 210 (nI t) = _ ∧ _
      unfold X9_landlordFrom_B
      rw [g.2.2.1, if_pos (nI_lt (by omega) (by omega)), nI_1, a1, bd2_some]
      have bd : ∀ j, j ≤ 8 → -100 ≤ (dsc (mayL D sk) (vL D r sk un) j).1 ∧ (dsc (mayL D sk) (vL D r sk un) j).1 ≤ 100 := by
        apply dsc_in
        · have := gv_in k r false sk un
          rw [vL, if_pos rfl]
          omega
        · intro i hi hm
          have hz : zsn D i := by
            simp only [mayL, Bool.and_eq_true, decide_eq_true_iff] at hm
            exact hm.1
          have hB := hkB k hz.1
          have := gv_in k r false (sk ||| 2 ^ i) un
          rw [vL, if_neg (by omega)]
          omega
      have key : ∀ (r' j fu : Nat) (h2 : HS), j + r' = 8 → r' < fu → CG h2 p D T sk un → CGf 1 h h2 → ∃ h', X9_landlordFrom_l25 N (X9_landlordFrom_r N d).1 (X9_landlordFrom_r N d).2 fu h2 210 (nI t) (iI (dsc (mayL D sk) (vL D r sk un) j).1) (nI (dsc (mayL D sk) (vL D r sk un) j).2) (nI (8 - j) + (-1)) = some (iI (tL D r sk un).1, h') ∧ CG h' p D T sk un ∧ CGf t h h' ∧ (t = 0 → h'.1 210 5 = nI (tL D r sk un).2) := by
        intro r'
        induction r' with
        | zero =>
          intro j fu h2 ej hf g2 f2
          obtain ⟨fu, rfl, _⟩ := fuel hf
          have ej8 : j = 8 := by omega
          subst ej8
          rw [X9_landlordFrom_l25, if_pos (show nI (8 - 8) + (-1) < 0 by decide)]
          by_cases z : t = 0
          · rw [if_pos (by rw [z]; rfl), sq_eq]
            exact ⟨_, rfl, CG_fr g2 rfl (fun k hk => wi_k _ _ hk) g2.2.2.1 g2.2.2.2.1 g2.2.2.2.2, ⟨f2.1, fun k hk => by rw [wi_k _ _ hk]; exact f2.2.1 k hk, fun h0 => by omega⟩, fun _ => wi_s _ _ _ _⟩
          · rw [if_neg (nI_ne0 (by omega) (by omega))]
            exact ⟨h2, rfl, g2, ⟨f2.1, f2.2.1, fun _ => f2.2.2 (by decide)⟩, fun h0 => absurd h0 z⟩
        | succ r' ih' =>
          intro j fu h2 ej hf g2 f2
          obtain ⟨fu, rfl, _⟩ := fuel hf
          have eb : nI (8 - j) + (-1) = nI (7 - j) := by
            rw [show 8 - j = (7 - j) + 1 by omega, ← nI_1, Int32.add_assoc, show (1 : Int32) + (-1) = 0 from by decide, Int32.add_zero]
          have en : nI (7 - j) + (-1) = nI (8 - (j + 1)) + (-1) := by rw [show 8 - (j + 1) = 7 - j by omega]
          have hb : 7 - j < 8 := by omega
          have hj := bd j (by omega)
          rw [X9_landlordFrom_l25, eb, if_neg (nI_pos (by omega)), g2.1, c_sounds g2.2.1 (by omega), bd1_some, en, g2.2.2.2.1, bi_n (by have := s.1; omega) (by omega)]
          have skip : mayL D sk (7 - j) ≠ true → dsc (mayL D sk) (vL D r sk un) (j + 1) = dsc (mayL D sk) (vL D r sk un) j := fun hm => by rw [dsc, if_neg hm]
          by_cases z : zsn D (7 - j)
          · rw [nB_t z, if_neg one0]
            by_cases y : sk.testBit (7 - j) = true
            · rw [nB_t y, if_neg one0, ← skip (by simp [mayL, y])]
              exact ih' (j + 1) fu h2 (by omega) (by omega) g2 f2
            · have y' : sk.testBit (7 - j) = false := by simpa using y
              rw [nB_f y, if_pos rfl, sq_eq, one_shl _ (by omega), nx_or]
              have gs : CG (wi h2 210 2 (nI (sk ||| 2 ^ (7 - j)))) p D T (sk ||| 2 ^ (7 - j)) un := CG_fr g2 rfl (fun k hk => wi_k _ _ hk) g2.2.2.1 (wi_s _ _ _ _) g2.2.2.2.2
              obtain ⟨h3, b1, b2, b3⟩ := ihH (t + 1) d _ (sk ||| 2 ^ (7 - j)) un (by omega) (by omega) gs (skO_or k s z.1) hu
              rw [show (wi h2 210 2 (nI (sk ||| 2 ^ (7 - j)))).2 210 = p from g2.1, at_in g2.2.1.1.2.2.2.1 (by decide) (by omega), bd1_some, chLe gs.2.1 z.1, nI_1, b1, bd2_some, sq_eq, b2.2.2.2.1, show nI (sk ||| 2 ^ (7 - j)) &&& (nI (2 ^ (7 - j)) ^^^ (-1)) = nI sk by rw [← one_shl _ (by omega)]; exact cl8 sk s.1 (7 - j) hb y', iI_n (D (18 + 4 * (7 - j))), iI_add]
              have g4 : CG (wi h3 210 2 (nI sk)) p D T sk un := CG_fr b2 rfl (fun k hk => wi_k _ _ hk) b2.2.2.1 (wi_s _ _ _ _) b2.2.2.2.2
              have f4 : CGf 1 h (wi h3 210 2 (nI sk)) := ⟨by rw [wi_2, b3.1]; exact f2.1, fun k hk => by rw [wi_k _ _ hk, b3.2.1 k hk, wi_k _ _ hk]; exact f2.2.1 k hk, fun _ => by rw [wi_j _ _ (by decide), b3.2.2 (by decide), wi_j _ _ (by decide)]; exact f2.2.2 (by decide)⟩
              have ev : vL D r sk un (7 - j) = (D (18 + 4 * (7 - j)) : Int) + gv D r false (sk ||| 2 ^ (7 - j)) un := if_neg (by omega)
              rw [← ev]
              have hm : mayL D sk (7 - j) = true := by simp [mayL, z, y']
              have hv : -100 ≤ vL D r sk un (7 - j) ∧ vL D r sk un (7 - j) ≤ 100 := by
                rw [ev]
                have := gv_in k r false (sk ||| 2 ^ (7 - j)) un
                have hB := hkB k z.1
                omega
              have hlt := iI_lt (a := vL D r sk un (7 - j)) (b := (dsc (mayL D sk) (vL D r sk un) j).1) (by omega) (by omega) (by omega) (by omega)
              have := ih' (j + 1) fu _ (by omega) (by omega) g4 f4
              rw [dsc, if_pos hm] at this
              by_cases x : vL D r sk un (7 - j) < (dsc (mayL D sk) (vL D r sk un) j).1
              · rw [if_pos (hlt.mpr x)]
                rw [if_pos x] at this
                exact this
              · rw [if_neg (fun w => x (hlt.mp w))]
                rw [if_neg x] at this
                exact this
          · rw [nB_f z, if_pos rfl, ← skip (by simp [mayL, z])]
            exact ih' (j + 1) fu h2 (by omega) (by omega) g2 f2
      have k1 := key 8 0 N h1 (by omega) (by omega) a2 a3
      rw [show dsc (mayL D sk) (vL D r sk un) 0 = (vL D r sk un 8, 8) from rfl, show vL D r sk un 8 = gv D r false sk un from if_pos rfl] at k1
      obtain ⟨h', c1, c2, c3, c4⟩ := k1
      refine ⟨h', ?_, c2, c3, fun h0 _ => c4 h0⟩
      rw [gv_L]
      exact c1
    · intro t d h sk un e hd g s hu
      obtain ⟨d, rfl, hd'⟩ := fuel hd
      have k := g.2.1.2.1
      have hk := hk0 k
      obtain ⟨h1, a1, a2, a3, _⟩ := ihL (t + 1) d h sk un (by omega) (by omega) g s hu
      have a3' : CGf 1 h h1 := ⟨a3.1, a3.2.1, fun _ => a3.2.2 (by omega)⟩
      rw [X9_landlordFrom_r]
      show ∃ h', X9_houseFrom_B N _ _ h 210 (nI t) = _ ∧ _
      unfold X9_houseFrom_B
      rw [g.2.2.1, if_pos (nI_lt (by omega) (by omega)), c_awakeNow g s hN, bd1_some, nI_1, a1, bd2_some]
      have bd : ∀ i, i < 6 → mayH D sk un i = true → -100 ≤ vH D r sk un i ∧ vH D r sk un i ≤ 100 := by
        intro i hi hm
        have hz : i < D 0 := by
          simp only [mayH, Bool.and_eq_true, decide_eq_true_iff] at hm
          exact hm.1.1
        have hF := hkF k hz
        have := gv_in k r true sk (un ||| 2 ^ i)
        rw [vH, if_neg (by omega)]
        omega
      have key : ∀ (r' j fu : Nat) (h2 : HS) (cur : Int), j + r' = 6 → r' < fu → -100 ≤ cur → cur ≤ 100 → CG h2 p D T sk un → CGf 1 h h2 → ∃ h', X9_houseFrom_l26 N (X9_landlordFrom_r N d).1 (X9_landlordFrom_r N d).2 fu h2 210 (nI t) (nI (zl (awG D sk) 8 0 0)) (iI cur) (nI j) = some (iI (afo (mayH D sk un) (vH D r sk un) r' j cur), h') ∧ CG h' p D T sk un ∧ CGf 1 h h' := by
        intro r'
        induction r' with
        | zero =>
          intro j fu h2 cur ej hf l1 l2 g2 f2
          obtain ⟨fu, rfl, _⟩ := fuel hf
          rw [X9_houseFrom_l26, g2.1, ch0 g2.2.1, if_pos (nI_le (by omega) (by omega)), afo]
          exact ⟨h2, rfl, g2, f2⟩
        | succ r' ih' =>
          intro j fu h2 cur ej hf l1 l2 g2 f2
          obtain ⟨fu, rfl, _⟩ := fuel hf
          rw [X9_houseFrom_l26, g2.1, ch0 g2.2.1]
          by_cases z : D 0 ≤ j
          · rw [if_pos (nI_le z (by omega)), afo_no (r' + 1) j cur (fun i hi => by simp [mayH, show ¬ i < D 0 by omega])]
            exact ⟨h2, rfl, g2, f2⟩
          · have hlt := awG_lt k s 8 0 0 (by decide)
            have hbit : (zl (awG D sk) 8 0 0).testBit j = (decide (j < D 0) && wkB D sk j) := by
              rw [aw_bit k s (by omega), Nat.zero_testBit, Bool.false_or]
            rw [if_neg (nI_ge (by omega) (by omega)), bi_n (by omega) (by omega), nI_1, hbit, afo]
            have d0 : decide (j < D 0) = true := decide_eq_true (by omega)
            by_cases y : wkB D sk j = true
            · rw [nB_t (by rw [d0, y]; rfl), if_neg one0, g2.2.2.2.2, bi_n (by omega) (by omega)]
              by_cases x : un.testBit j = true
              · rw [nB_t x, if_neg one0, if_neg (by simp [mayH, x])]
                exact ih' (j + 1) fu h2 cur (by omega) (by omega) l1 l2 g2 f2
              · have x' : un.testBit j = false := by simpa using x
                have hm : mayH D sk un j = true := by
                  show (decide (j < D 0) && wkB D sk j && !un.testBit j) = true
                  rw [d0, y, x']; rfl
                rw [nB_f x, if_pos rfl, sq_eq, one_shl _ (by omega), nx_or, if_pos hm]
                have gs : CG (wi h2 210 3 (nI (un ||| 2 ^ j))) p D T sk (un ||| 2 ^ j) := CG_fr g2 rfl (fun k hk => wi_k _ _ hk) g2.2.2.1 g2.2.2.2.1 (wi_s _ _ _ _)
                obtain ⟨h3, b1, b2, b3, _⟩ := ihL (t + 1) d _ sk (un ||| 2 ^ j) (by omega) (by omega) gs s (or_lt 6 hu (by omega))
                rw [nI_1, b1, bd2_some, b2.1, at_in b2.2.1.1.1 (by decide) (by omega), bd1_some, chRe b2.2.1 (by omega), sq_eq, b2.2.2.2.2, show nI (un ||| 2 ^ j) &&& (nI (2 ^ j) ^^^ (-1)) = nI un by rw [← one_shl _ (by omega)]; exact cl6 un hu j (by omega) x', iI_n (D (5 + 2 * j)), iI_sub]
                have g4 : CG (wi h3 210 3 (nI un)) p D T sk un := CG_fr b2 rfl (fun k hk => wi_k _ _ hk) b2.2.2.1 b2.2.2.2.1 (wi_s _ _ _ _)
                have f4 : CGf 1 h (wi h3 210 3 (nI un)) := ⟨by rw [wi_2, b3.1]; exact f2.1, fun k hk => by rw [wi_k _ _ hk, b3.2.1 k hk, wi_k _ _ hk]; exact f2.2.1 k hk, fun _ => by rw [wi_j _ _ (by decide), b3.2.2 (by omega), wi_j _ _ (by decide)]; exact f2.2.2 (by decide)⟩
                have ev : vH D r sk un j = gv D r true sk (un ||| 2 ^ j) - (D (5 + 2 * j) : Int) := if_neg (by omega)
                rw [← ev]
                have hv := bd j (by omega) hm
                have hl := iI_lt (a := vH D r sk un j) (b := cur) (by omega) (by omega) (by omega) (by omega)
                by_cases w : vH D r sk un j < cur
                · rw [if_pos (hl.mpr w), if_pos w]
                  exact ih' (j + 1) fu _ _ (by omega) (by omega) hv.1 hv.2 g4 f4
                · rw [if_neg (fun u => w (hl.mp u)), if_neg w]
                  exact ih' (j + 1) fu _ _ (by omega) (by omega) l1 l2 g4 f4
            · rw [nB_f (by rw [d0]; simpa using y), if_pos rfl, if_neg (by
                intro hm
                have hm' : (decide (j < D 0) && wkB D sk j && !un.testBit j) = true := hm
                rw [Bool.and_eq_true, Bool.and_eq_true] at hm'
                exact y hm'.1.2)]
              exact ih' (j + 1) fu h2 cur (by omega) (by omega) l1 l2 g2 f2
      have hb := gv_in k r true sk un
      have k1 := key 6 0 N h1 (gv D r true sk un) (by omega) (by omega) (by omega) (by omega) a2 a3'
      obtain ⟨h', c1, c2, c3⟩ := k1
      refine ⟨h', ?_, c2, c3⟩
      rw [gv_H, ← afo_6, show vH D r sk un 6 = gv D r true sk un from if_pos rfl]
      exact c1
end GAD
