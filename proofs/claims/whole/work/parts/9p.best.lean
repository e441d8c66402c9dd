/-! ===== level 2: tussle: the reference's best, turn by turn ===== -/
abbrev bet (e : Bool) (x y : Int) : Bool := if e = true then decide (y < x) else decide (x < y)
abbrev stB (e : Bool) (cur : Option (Int × Nat)) (x : Int × Nat) : Int × Nat := match cur with
  | none => x
  | some y => if bet e x.1 y.1 = true then x else y
/-- candidates i, i + 1 .., r of them, then the pass -/
def ascB (e : Bool) (may : Nat → Bool) (v : Nat → Int) : Nat → Nat → Option (Int × Nat) → Int × Nat
  | 0, i, cur => stB e cur (v i, i)
  | r + 1, i, cur => ascB e may v r (i + 1) (if may i = true then some (stB e cur (v i, i)) else cur)
theorem ascB_L {may : Nat → Bool} {v : Nat → Int} : ∀ r, r ≤ 8 → ∀ cur, ascB true may v r (8 - r) cur = stB true cur (dsc may v r) := by
  intro r
  induction r with
  | zero => intro _ cur; rfl
  | succ r ih =>
    intro hr cur
    rw [ascB, dsc, show 8 - (r + 1) + 1 = 8 - r by omega, show 8 - (r + 1) = 7 - r by omega, ih (by omega)]
    by_cases z : may (7 - r) = true
    · rw [if_pos z, if_pos z]
      cases cur with
      | none =>
        by_cases y : v (7 - r) < (dsc may v r).1
        · simp [stB, bet, y]
        · simp [stB, bet, y]
      | some w =>
        by_cases y : v (7 - r) < (dsc may v r).1
        · by_cases x : w.1 < v (7 - r)
          · have : w.1 < (dsc may v r).1 := by omega
            simp [stB, bet, y, x, this]
          · simp [stB, bet, y, x]
        · by_cases x : w.1 < v (7 - r)
          · simp [stB, bet, y, x]
          · have : ¬ w.1 < (dsc may v r).1 := by omega
            simp [stB, bet, y, x, this]
    · rw [if_neg z, if_neg z]
theorem ascB_H {may : Nat → Bool} {v : Nat → Int} : ∀ r, r ≤ 6 → ∀ cur, (ascB false may v r (6 - r) cur).1 = match cur with | none => mh may v r | some y => if mh may v r < y.1 then mh may v r else y.1 := by
  intro r
  induction r with
  | zero =>
    intro _ cur
    cases cur with
    | none => rfl
    | some w =>
      rw [ascB, mh]
      by_cases x : v 6 < w.1
      · simp [stB, bet, x]
      · simp [stB, bet, x]
  | succ r ih =>
    intro hr cur
    rw [ascB, mh, show 6 - (r + 1) + 1 = 6 - r by omega, show 6 - (r + 1) = 5 - r by omega, ih (by omega)]
    by_cases z : may (5 - r) = true
    · rw [if_pos z, if_pos z]
      cases cur with
      | none =>
        by_cases y : v (5 - r) < mh may v r
        · have : ¬ mh may v r < v (5 - r) := by omega
          simp [stB, y, this]
        · by_cases x : mh may v r < v (5 - r)
          · simp [stB, y, x]
          · have : v (5 - r) = mh may v r := by omega
            simp [stB, this]
      | some w =>
        by_cases y : v (5 - r) < mh may v r
        · have y' : ¬ mh may v r < v (5 - r) := by omega
          by_cases x : v (5 - r) < w.1
          · simp [stB, bet, y, x, y']
          · have : ¬ mh may v r < w.1 := by omega
            simp [stB, bet, y, x, this]
        · by_cases x : v (5 - r) < w.1
          · have : mh may v r < w.1 := by omega
            by_cases u : mh may v r < v (5 - r)
            · simp [stB, bet, y, x, this, u]
            · have : v (5 - r) = mh may v r := by omega
              rw [this] at x
              simp [stB, bet, this, x]
          · simp [stB, bet, y, x]
    · rw [if_neg z, if_neg z]
theorem dsc_sh {may : Nat → Bool} {v : Nat → Int} (a : Int) : ∀ r, dsc may (fun b => a + v b) r = (a + (dsc may v r).1, (dsc may v r).2) := by
  intro r
  induction r with
  | zero => rfl
  | succ r ih =>
    rw [dsc, dsc, ih]
    by_cases z : may (7 - r) = true
    · rw [if_pos z, if_pos z]
      by_cases y : v (7 - r) < (dsc may v r).1
      · rw [if_pos y, if_pos (by show a + v (7 - r) < a + (dsc may v r).1; omega)]
      · rw [if_neg y, if_neg (by show ¬ a + v (7 - r) < a + (dsc may v r).1; omega)]
    · rw [if_neg z, if_neg z]
theorem mh_sh {may : Nat → Bool} {v : Nat → Int} (a : Int) : ∀ r, mh may (fun b => a + v b) r = a + mh may v r := by
  intro r
  induction r with
  | zero => rfl
  | succ r ih =>
    rw [mh, mh, ih]
    by_cases z : may (5 - r) = true
    · rw [if_pos z, if_pos z]
      by_cases y : v (5 - r) < mh may v r
      · rw [if_pos y, if_pos (by show a + v (5 - r) < a + mh may v r; omega)]
      · rw [if_neg y, if_neg (by show ¬ a + v (5 - r) < a + mh may v r; omega)]
    · rw [if_neg z, if_neg z]
section GTU
variable {N : Nat} {q T : Nat} {D : Nat → Nat} {h : HS}
def cw : Option (Int × Nat) → Int32
  | none => 99999999
  | some y => iI y.1
/-- what a walk below turn t leaves -/
def WF (t : Nat) (h h' : HS) : Prop := (∀ k, k ≠ 237 → k ≠ 247 → k ≠ 248 → k ≠ 249 → k ≠ 250 → h'.1 k = h.1 k) ∧ (∀ j, j ≠ 29 → h'.1 237 j = h.1 237 j) ∧ (0 < t → h'.1 237 29 = h.1 237 29) ∧ (∀ i, i ≤ t → h'.1 247 i = h.1 247 i ∧ h'.1 248 i = h.1 248 i) ∧ (∀ i, i < t → h'.1 249 i = h.1 249 i ∧ h'.1 250 i = h.1 250 i)
theorem WF_refl (t : Nat) (h : HS) : WF t h h := ⟨fun _ _ _ _ _ _ => rfl, fun _ _ => rfl, fun _ => rfl, fun _ _ => ⟨rfl, rfl⟩, fun _ _ => ⟨rfl, rfl⟩⟩
theorem WF_trans {t : Nat} {a b c : HS} (x : WF t a b) (y : WF t b c) : WF t a c := ⟨fun k h1 h2 h3 h4 h5 => (y.1 k h1 h2 h3 h4 h5).trans (x.1 k h1 h2 h3 h4 h5), fun j hj => (y.2.1 j hj).trans (x.2.1 j hj), fun h0 => (y.2.2.1 h0).trans (x.2.2.1 h0), fun i hi => ⟨(y.2.2.2.1 i hi).1.trans (x.2.2.2.1 i hi).1, (y.2.2.2.1 i hi).2.trans (x.2.2.2.1 i hi).2⟩, fun i hi => ⟨(y.2.2.2.2 i hi).1.trans (x.2.2.2.2 i hi).1, (y.2.2.2.2 i hi).2.trans (x.2.2.2.2 i hi).2⟩⟩
theorem RH_w {h h' : HS} (c : RH h q D) (e8 : h'.1 238 = h.1 238) (e7 : ∀ j, j ≠ 29 → h'.1 237 j = h.1 237 j) : RH h' q D := by
  obtain ⟨c1, c2, c3, c4, c5, c6, c7⟩ := c
  refine ⟨c1, c2, ?_, ?_, ?_, ?_, ?_⟩
  · rw [e7 _ (by decide)]; exact c3
  · rw [e7 _ (by decide)]; exact c4
  · rw [e7 _ (by decide)]; exact c5
  · rw [e7 _ (by decide)]; exact c6
  · rw [e8]; exact c7
theorem far_n {x : Int} (h1 : -2000 ≤ x) (h2 : x ≤ 2000) : ¬ iI x = (99999999 : Int32) := by
  intro e
  have := (iI_eq (b := 99999999) (by omega) (by omega) (by omega) (by omega)).mp e
  omega
theorem r_turns {t cand : Nat} {x : Int} {cur : Option (Int × Nat)} (ht : t < 6) (h1 : -2000 ≤ x) (h2 : x ≤ 2000) (hc : h.1 250 t = cw cur) (hr : ∀ y, cur = some y → -2000 ≤ y.1 ∧ y.1 ≤ 2000) (hn : h.1 249 t = nI cand) (h9 : t = 0 → ∀ y, cur = some y → h.1 237 29 = nI y.2) :
    ∃ h', X11_turns N h 237 (nI t) (iI x) = some h' ∧ h'.1 250 t = cw (some (stB (decide (t % 2 = 0)) cur (x, cand))) ∧ WF t h h' ∧ h'.1 249 = h.1 249 ∧ (t = 0 → h'.1 237 29 = nI (stB (decide (t % 2 = 0)) cur (x, cand)).2) := by
  have put : ∃ h', (sq (wi h (237 + 13) t (iI x)) fun h4 => (if nI t = 0 then (if (0 : Int32) < 0 ∨ 6 ≤ (0 : Int32).toNatClampNeg then none else sq (wi h4 237 29 (h4.1 (237 + 12) (0 : Int32).toNatClampNeg)) fun h7 => some h7) else some h4)) = some h' ∧ h'.1 250 t = iI x ∧ WF t h h' ∧ h'.1 249 = h.1 249 ∧ (t = 0 → h'.1 237 29 = nI cand) := by
    rw [sq_eq]
    by_cases z : t = 0
    · subst z
      rw [if_pos (show nI 0 = 0 from rfl), if_neg (by decide), sq_eq]
      refine ⟨_, rfl, ?_, ⟨?_, ?_, ?_, ?_, ?_⟩, ?_, ?_⟩
      · rw [wi_k _ _ (by decide)]; exact wi_s _ _ _ _
      · intro k k1 k2 k3 k4 k5; rw [wi_k _ _ k1, wi_k _ _ k5]
      · intro j hj; rw [wi_j _ _ hj, wi_k _ _ (by decide)]
      · intro h0; omega
      · intro i hi; rw [wi_k _ _ (by decide), wi_k _ _ (by decide), wi_k _ _ (by decide), wi_k _ _ (by decide)]; exact ⟨rfl, rfl⟩
      · intro i hi; omega
      · rw [wi_k _ _ (by decide), wi_k _ _ (by decide)]
      · intro _; rw [wi_s]; exact hn
    · rw [if_neg (nI_ne0 (by omega) (by omega))]
      refine ⟨_, rfl, wi_s _ _ _ _, ⟨?_, ?_, ?_, ?_, ?_⟩, ?_, fun h0 => absurd h0 z⟩
      · intro k k1 k2 k3 k4 k5; rw [wi_k _ _ k5]
      · intro j hj; rw [wi_k _ _ (by decide)]
      · intro _; rw [wi_k _ _ (by decide)]
      · intro i hi; rw [wi_k _ _ (by decide), wi_k _ _ (by decide)]; exact ⟨rfl, rfl⟩
      · intro i hi; rw [wi_k _ _ (by decide), wi_j _ _ (by omega)]; exact ⟨rfl, rfl⟩
      · rw [wi_k _ _ (by decide)]
  have stay : ∀ y, cur = some y → stB (decide (t % 2 = 0)) cur (x, cand) = y → ∃ h', some h = some h' ∧ h'.1 250 t = cw (some (stB (decide (t % 2 = 0)) cur (x, cand))) ∧ WF t h h' ∧ h'.1 249 = h.1 249 ∧ (t = 0 → h'.1 237 29 = nI (stB (decide (t % 2 = 0)) cur (x, cand)).2) := by
    intro y ey es
    refine ⟨h, rfl, ?_, WF_refl t h, rfl, ?_⟩
    · rw [es, hc, ey]
    · intro h0; rw [es]; exact h9 h0 y ey
  unfold X11_turns
  rw [if_neg (nI_in (by omega) (by decide)), nI_clamp (by omega), show h.1 (237 + 13) t = _ from hc]
  cases cur with
  | none =>
    rw [if_pos (show cw none = 99999999 from rfl), if_neg (nI_ic (by omega) (by omega))]
    exact put
  | some y =>
    have hy := hr y rfl
    rw [if_neg (show ¬ cw (some y) = 99999999 from far_n hy.1 hy.2), par2 (by omega), if_neg (nI_ic (by omega) (by omega)), show cw (some y) = iI y.1 from rfl]
    have l1 := iI_lt (a := y.1) (b := x) (by omega) (by omega) (by omega) (by omega)
    have l2 := iI_lt (a := x) (b := y.1) (by omega) (by omega) (by omega) (by omega)
    by_cases z : t % 2 = 0
    · have dz : decide (t % 2 = 0) = true := decide_eq_true z
      rw [if_pos (show nI (t % 2) = 0 by rw [z]; rfl)]
      by_cases w : y.1 < x
      · have es : stB (decide (t % 2 = 0)) (some y) (x, cand) = (x, cand) := by rw [dz]; simp [stB, bet, w]
        rw [if_pos (l1.mpr w), if_neg (nI_ic (by omega) (by omega)), es]
        exact put
      · rw [if_neg (fun u => w (l1.mp u))]
        exact stay y rfl (by rw [dz]; simp [stB, bet, w])
    · have dz : decide (t % 2 = 0) = false := decide_eq_false z
      rw [if_neg (show ¬ nI (t % 2) = 0 from nI_ne0 (by omega) (by omega))]
      by_cases w : x < y.1
      · have es : stB (decide (t % 2 = 0)) (some y) (x, cand) = (x, cand) := by rw [dz]; simp [stB, bet, w]
        rw [if_neg (nI_ic (by omega) (by omega)), if_pos (l2.mpr w), if_neg (nI_ic (by omega) (by omega)), es]
        exact put
      · rw [if_neg (nI_ic (by omega) (by omega)), if_neg (fun u => w (l2.mp u))]
        exact stay y rfl (by rw [dz]; simp [stB, bet, w])
end GTU
