/-! ===== level 2: tussle: the reference's turns ===== -/
theorem ln247 : ln (237 + 10) = 6 := by decide +kernel
section GAR
variable {N : Nat} {q : Nat} {D : Nat → Nat} {h : HS}
theorem par2 {t : Nat} (ht : t < 100) : nI t - nI t / 2 * 2 = nI (t % 2) := pk_rem (d := 2) (by omega) (by decide) (by decide)
/-- may the landlord skip this bar -/
theorem r_mayL (c : RH h q D) {t sk b : Nat} (ht : t < 6) (he : t % 2 = 0) (hs : h.1 247 t = nI sk) (hsk : sk < 256) (hb : b < 8) : X11_mayTurn N h 237 (nI t) (nI b) = some (nB (mayL D sk b = true)) := by
  have hk := hk0 c.1
  unfold X11_mayTurn
  rw [par2 (by omega), he, if_pos (show nI 0 = 0 from rfl), if_neg (show ¬ nI b = 8 from fun v => by have := (nI_eq (b := 8) (by omega) (by decide)).mp v; omega), r_isBar c (by omega), bd1_some]
  by_cases z : b < D 1
  · have hB := hkB c.1 z
    rw [nB_t z, if_neg one0, r_noteOf c hb, bd1_some]
    by_cases y : D (17 + 4 * b) = 0
    · rw [y, if_pos (show nI 0 ≤ 0 by decide), nz_0, nB_f (by simp [mayL, zsn, y])]
    · rw [if_neg (show ¬ nI (D (17 + 4 * b)) ≤ 0 from nI_nle (by omega) (by omega)), if_neg (nI_in (by omega) (by decide)), nI_clamp (by omega), show h.1 (237 + 10) t = _ from hs, bi_n (by omega) (by omega)]
      by_cases x : sk.testBit b = true
      · rw [nB_t x, if_neg one0, nz_0, nB_f (by simp [mayL, x])]
      · have x' : sk.testBit b = false := by simpa using x
        rw [nB_f x, if_pos rfl, nz_1, nB_t (by simp [mayL, zsn, z, y, x'])]
  · rw [nB_f z, if_pos rfl, nz_0, nB_f (by simp [mayL, zsn, z])]
theorem r_mayH (c : RH h q D) (hN : 100 ≤ N) {t sk un f : Nat} (ht : t < 6) (he : t % 2 = 1) (hs : h.1 247 t = nI sk) (hsk : skO D sk) (hu : h.1 248 t = nI un) (hun : un < 64) (hf : f < 6) : X11_mayTurn N h 237 (nI t) (nI f) = some (nB (mayH D sk un f = true)) := by
  have hk := hk0 c.1
  have s1 := hsk.1
  have fin : ∀ w : Bool, w = wkB D sk f → ∀ (n : Nat), X11_mayTurn_l60 N h (n + 1) 237 (nI t) (nI f) (nB (w = true)) (nI (D 1)) = some (nB (mayH D sk un f = true)) := by
    intro w hw n
    rw [X11_mayTurn_l60, rh1 c, if_pos (nI_le (Nat.le_refl _) (by omega)), r_isFloor c (by omega), bd1_some]
    by_cases z : f < D 0
    · rw [nB_t z, if_neg one0]
      by_cases y : w = true
      · rw [nB_t y, if_neg one0, if_neg (nI_in (by omega) (by decide)), nI_clamp (by omega), show h.1 (237 + 11) t = _ from hu, bi_n (by omega) (by omega)]
        by_cases x : un.testBit f = true
        · rw [nB_t x, if_neg one0, nz_0, nB_f (by simp [mayH, x])]
        · have x' : un.testBit f = false := by simpa using x
          rw [nB_f x, if_pos rfl, nz_1, nB_t (show (decide (f < D 0) && wkB D sk f && !un.testBit f) = true by rw [← hw, y, x', decide_eq_true z]; rfl)]
      · rw [nB_f y, if_pos rfl, nz_0, nB_f (show ¬ (decide (f < D 0) && wkB D sk f && !un.testBit f) = true by rw [← hw]; simp [y])]
    · rw [nB_f z, if_pos rfl, nz_0, nB_f (by simp [mayH, z])]
  have key : ∀ (r b fu : Nat) (w : Bool), b + r = D 1 → r < fu → X11_mayTurn_l60 N h fu 237 (nI t) (nI f) (nB (w = true)) (nI b) = some (nB (mayH D sk un f = true)) ∨ ¬ (w || anyB (fun b => sk.testBit b && decide (D (19 + 4 * b) ≤ f)) r b) = wkB D sk f := by
    intro r
    induction r with
    | zero =>
      intro b fu w e hf
      obtain ⟨fu, rfl, _⟩ := fuel hf
      by_cases z : w = wkB D sk f
      · left
        rw [show b = D 1 by omega]
        exact fin w z fu
      · right
        rw [anyB, Bool.or_false]
        exact z
    | succ r ih =>
      intro b fu w e hf
      obtain ⟨fu, rfl, _⟩ := fuel hf
      have hB := hkB c.1 (show b < D 1 by omega)
      rw [X11_mayTurn_l60, rh1 c, if_neg (nI_ge (by omega) (by omega)), nI_1, anyB]
      cases w with
      | true =>
        rw [show (nB (true = true) : Int32) = 1 from rfl, if_neg one0]
        have := ih (b + 1) fu true (by omega) (by omega)
        rw [show (nB (true = true) : Int32) = 1 from rfl] at this
        simpa using this
      | false =>
        rw [show (nB (false = true) : Int32) = 0 from rfl, if_pos rfl, if_neg (nI_in (by omega) (by decide)), nI_clamp (by omega), show h.1 (237 + 10) t = _ from hs, bi_n (by omega) (by omega)]
        by_cases x : sk.testBit b = true
        · rw [nB_t x, if_pos rfl, r_floorOf c (by omega), bd1_some]
          by_cases y : D (19 + 4 * b) ≤ f
          · rw [if_neg (nI_nlt y (by omega))]
            have := ih (b + 1) fu true (by omega) (by omega)
            rw [show (nB (true = true) : Int32) = 1 from rfl] at this
            simpa [x, y] using this
          · rw [if_pos (nI_lt (by omega) (by omega))]
            have := ih (b + 1) fu false (by omega) (by omega)
            rw [show (nB (false = true) : Int32) = 0 from rfl] at this
            simpa [x, y] using this
        · rw [nB_f x, if_neg (by decide)]
          have x' : sk.testBit b = false := by simpa using x
          have := ih (b + 1) fu false (by omega) (by omega)
          rw [show (nB (false = true) : Int32) = 0 from rfl] at this
          simpa [x'] using this
  have any8 : anyB (fun b => sk.testBit b && decide (D (19 + 4 * b) ≤ f)) (D 1) 0 = wkB D sk f := by
    apply Bool.eq_iff_iff.mpr
    rw [wkB, anyB_iff, anyB_iff]
    constructor
    · rintro ⟨s, a1, a2, a3⟩; exact ⟨s, a1, by omega, a3⟩
    · rintro ⟨s, a1, a2, a3⟩
      refine ⟨s, a1, ?_, a3⟩
      rw [Bool.and_eq_true] at a3
      have := hsk.2 s a3.1
      omega
  unfold X11_mayTurn
  rw [par2 (by omega), he, if_neg (show ¬ nI 1 = 0 by decide), if_neg (show ¬ nI f = 6 from fun v => by have := (nI_eq (b := 6) (by omega) (by decide)).mp v; omega)]
  rcases key (D 1) 0 N false (by omega) (by omega) with z | z
  · exact z
  · exact absurd (by rw [Bool.false_or]; exact any8) z
end GAR
