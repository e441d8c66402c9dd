/-! ===== level 2: tussle: the class plays ===== -/
theorem fN_bit : ∀ fl, fl < 7 → ∀ g, g < fl → ∀ f, f < 7 → (2 ^ fl - 2 ^ g).testBit f = (decide (f < fl) && decide (g ≤ f)) := by decide +kernel
theorem cl8 : ∀ s, s < 256 → ∀ b, b < 8 → s.testBit b = false → nI (s ||| 2 ^ b) &&& (((1 : Int32) <<< (nI b &&& 31)) ^^^ (-1)) = nI s := by decide +kernel
theorem cl6 : ∀ s, s < 64 → ∀ b, b < 6 → s.testBit b = false → nI (s ||| 2 ^ b) &&& (((1 : Int32) <<< (nI b &&& 31)) ^^^ (-1)) = nI s := by decide +kernel
section GAC
variable {N : Nat} {p T : Nat} {D : Nat → Nat} {h : HS}
def CG (h : HS) (p : Nat) (D : Nat → Nat) (T sk un : Nat) : Prop := h.2 210 = p ∧ KH h p D ∧ h.1 210 1 = nI T ∧ h.1 210 2 = nI sk ∧ h.1 210 3 = nI un
def skO (D : Nat → Nat) (sk : Nat) : Prop := sk < 256 ∧ ∀ b, sk.testBit b = true → b < D 1
theorem skO_or {sk b : Nat} (k : HK D) (s : skO D sk) (hb : b < D 1) : skO D (sk ||| 2 ^ b) := by
  have hk := hk0 k
  refine ⟨or_lt 8 s.1 (by omega), fun j hj => ?_⟩
  rw [tb_or2, Bool.or_eq_true] at hj
  rcases hj with z | z
  · exact s.2 j z
  · have := of_decide_eq_true z; omega
abbrev awG (D : Nat → Nat) (sk b a : Nat) : Nat := if sk.testBit b = true then a ||| fN D b else a
theorem aw_bit (k : HK D) {sk : Nat} (s : skO D sk) {f : Nat} (hf : f < 7) : ∀ (r i a : Nat), (zl (awG D sk) r i a).testBit f = (a.testBit f || (decide (f < D 0) && anyB (fun b => sk.testBit b && decide (D (19 + 4 * b) ≤ f)) r i)) := by
  have hk := hk0 k
  intro r
  induction r with
  | zero => intro i a; simp [zl, anyB]
  | succ r ih =>
    intro i a
    rw [show zl (awG D sk) (r + 1) i a = zl (awG D sk) r (i + 1) (awG D sk i a) from rfl, ih, anyB]
    by_cases z : sk.testBit i = true
    · have hB := hkB k (s.2 i z)
      rw [show awG D sk i a = a ||| fN D i from if_pos z, Nat.testBit_or, fN_bit (D 0) (by omega) _ hB.2.2.2.1 f hf, z]
      cases a.testBit f <;> cases decide (f < D 0) <;> simp
    · rw [show awG D sk i a = a from if_neg z]
      have z' : sk.testBit i = false := by simpa using z
      rw [z']
      simp
theorem awG_lt (k : HK D) {sk : Nat} (s : skO D sk) : ∀ (r i a : Nat), a < 64 → zl (awG D sk) r i a < 64 := by
  intro r
  induction r with
  | zero => intro i a h; exact h
  | succ r ih =>
    intro i a ha
    rw [show zl (awG D sk) (r + 1) i a = zl (awG D sk) r (i + 1) (awG D sk i a) from rfl]
    apply ih
    by_cases z : sk.testBit i = true
    · rw [show awG D sk i a = a ||| fN D i from if_pos z]
      exact or64 ha (fN_e k (s.2 i z)).2.2
    · rw [show awG D sk i a = a from if_neg z]; exact ha
theorem c_awakeNow {sk un : Nat} (g : CG h p D T sk un) (s : skO D sk) (hN : 100 ≤ N) : X9_awakeNow N h 210 = some (nI (zl (awG D sk) 8 0 0)) := by
  obtain ⟨g1, g2, g3, g4, g5⟩ := g
  have hk := hk0 g2.2.1
  have hs := s.1
  have key : ∀ (r b fu a : Nat), b + r = 8 → r < fu → X9_awakeNow_l4 N h fu 210 (nI a) (nI b) = some (nI (zl (awG D sk) r b a)) := by
    intro r
    induction r with
    | zero =>
      intro b fu a e hf
      obtain ⟨fu, rfl, _⟩ := fuel hf
      rw [X9_awakeNow_l4, if_pos (show (8 : Int32) ≤ nI b from nI_le (a := 8) (by omega) (by omega))]
      rfl
    | succ r ih =>
      intro b fu a e hf
      obtain ⟨fu, rfl, _⟩ := fuel hf
      rw [X9_awakeNow_l4, if_neg (show ¬ (8 : Int32) ≤ nI b from nI_ge (b := 8) (by omega) (by decide)), g4, bi_n (by omega) (by omega), nI_1]
      rw [show zl (awG D sk) (r + 1) b a = zl (awG D sk) r (b + 1) (awG D sk b a) from rfl]
      by_cases z : sk.testBit b = true
      · rw [nB_t z, if_neg one0, g1, at_in g2.1.2.2.2.2.1 (by decide) (by omega), bd1_some, chGr g2 (s.2 b z), c_from g2, bd1_some, (fN_e g2.2.1 (s.2 b z)).1, nx_or, show awG D sk b a = a ||| fN D b from if_pos z]
        exact ih (b + 1) fu _ (by omega) (by omega)
      · rw [nB_f z, if_pos rfl, show awG D sk b a = a from if_neg z]
        exact ih (b + 1) fu a (by omega) (by omega)
  exact key 8 0 N 0 (by omega) (by omega)
end GAC
