/-! ===== level 2: tussle: what a row of turns is worth ===== -/
section GAE
variable {N : Nat} {q : Nat} {D : Nat → Nat} {h : HS}
abbrev lenS (D : Nat → Nat) (sk b : Nat) : Nat := if sk.testBit b = true then D (18 + 4 * b) else 0
abbrev renS (D : Nat → Nat) (un f : Nat) : Nat := if un.testBit f = true then D (5 + 2 * f) else 0
def accI (D : Nat → Nat) (sk un : Nat) : Int := (sNt (lenS D sk) (D 1) : Int) - (sNt (renS D un) (D 0) : Int)
theorem sNt_upd {f g : Nat → Nat} (j : Nat) : ∀ k, j < k → (∀ i, i < k → i ≠ j → f i = g i) → sNt g k + f j = sNt f k + g j := by
  intro k
  induction k with
  | zero => intro h; omega
  | succ k ih =>
    intro h he
    rw [sNt, sNt]
    by_cases z : j = k
    · subst z
      have := sNt_congr (f := f) (g := g) j (fun i hi => he i (by omega) (by omega))
      omega
    · have := ih (by omega) (fun i hi hn => he i (by omega) hn)
      have := he k (by omega) (by omega)
      omega
theorem acc_L {sk un b : Nat} (hb : b < D 1) (h0 : sk.testBit b = false) : accI D (sk ||| 2 ^ b) un = accI D sk un + (D (18 + 4 * b) : Int) := by
  have := sNt_upd (f := lenS D sk) (g := lenS D (sk ||| 2 ^ b)) b (D 1) hb (fun i _ hi => by
    show (if sk.testBit i = true then _ else _) = if (sk ||| 2 ^ b).testBit i = true then _ else _
    rw [tb_or2]
    simp [show ¬ b = i from fun e => hi e.symm])
  have e1 : lenS D sk b = 0 := by rw [lenS, if_neg (by rw [h0]; decide)]
  have e2 : lenS D (sk ||| 2 ^ b) b = D (18 + 4 * b) := by rw [lenS, if_pos (by rw [tb_or2]; simp)]
  unfold accI
  omega
theorem acc_H {sk un f : Nat} (hf : f < D 0) (h0 : un.testBit f = false) : accI D sk (un ||| 2 ^ f) = accI D sk un - (D (5 + 2 * f) : Int) := by
  have := sNt_upd (f := renS D un) (g := renS D (un ||| 2 ^ f)) f (D 0) hf (fun i _ hi => by
    show (if un.testBit i = true then _ else _) = if (un ||| 2 ^ f).testBit i = true then _ else _
    rw [tb_or2]
    simp [show ¬ f = i from fun e => hi e.symm])
  have e1 : renS D un f = 0 := by rw [renS, if_neg (by rw [h0]; decide)]
  have e2 : renS D (un ||| 2 ^ f) f = D (5 + 2 * f) := by rw [renS, if_pos (by rw [tb_or2]; simp)]
  unfold accI
  omega
theorem acc_in (k : HK D) (sk un : Nat) : -1000 ≤ accI D sk un ∧ accI D sk un ≤ 1000 := by
  have hk := hk0 k
  have a1 : ∀ k', k' ≤ D 1 → sNt (lenS D sk) k' ≤ 4 * k' := by
    intro k'
    induction k' with
    | zero => intro _; exact Nat.le_refl _
    | succ k' ih =>
      intro h
      have := ih (by omega)
      have hB := hkB k (show k' < D 1 by omega)
      rw [sNt]
      by_cases z : sk.testBit k' = true
      · rw [lenS, if_pos z]; omega
      · rw [lenS, if_neg z]; omega
  have a2 : ∀ k', k' ≤ D 0 → sNt (renS D un) k' ≤ 20 * k' := by
    intro k'
    induction k' with
    | zero => intro _; exact Nat.le_refl _
    | succ k' ih =>
      intro h
      have := ih (by omega)
      have hF := hkF k (show k' < D 0 by omega)
      rw [sNt]
      by_cases z : un.testBit k' = true
      · rw [renS, if_pos z]; omega
      · rw [renS, if_neg z]; omega
  have := a1 (D 1) (Nat.le_refl _)
  have := a2 (D 0) (Nat.le_refl _)
  unfold accI
  omega
theorem r_endsWith (c : RH h q D) (hN : 100 ≤ N) {t sk un : Nat} (ht : t < 6) (hs : h.1 247 t = nI sk) (hsk : sk < 256) (hu : h.1 248 t = nI un) (hun : un < 64) : X11_endsWith N h 237 (nI t) = some (iI (accI D sk un)) := by
  have hk := hk0 c.1
  have l39 : ∀ (r f fu : Nat) (x : Int), f + r = D 0 → r < fu → X11_endsWith_l39 N h fu 237 (nI t) (iI (x - (sNt (renS D un) f : Int))) (nI f) = some (iI (x - (sNt (renS D un) (D 0) : Int))) := by
    intro r
    induction r with
    | zero =>
      intro f fu x e hf
      obtain ⟨fu, rfl, _⟩ := fuel hf
      rw [X11_endsWith_l39, rh0 c, if_pos (nI_le (by omega) (by omega)), show f = D 0 by omega]
    | succ r ih =>
      intro f fu x e hf
      obtain ⟨fu, rfl, _⟩ := fuel hf
      have ih' := ih (f + 1) fu x (by omega) (by omega)
      rw [sNt] at ih'
      rw [X11_endsWith_l39, rh0 c, if_neg (nI_ge (by omega) (by omega)), if_neg (nI_in (by omega) (by decide)), r_rentOf c (by omega), bd1_some, nI_clamp (by omega), show h.1 (237 + 11) t = _ from hu, bi_n (by omega) (by omega), nI_1]
      by_cases z : un.testBit f = true
      · rw [nB_t z, Int32.one_mul, iI_n (D (5 + 2 * f)), iI_sub, show x - (sNt (renS D un) f : Int) - (D (5 + 2 * f) : Int) = x - ((sNt (renS D un) f + renS D un f : Nat) : Int) by rw [renS, if_pos z]; omega]
        exact ih'
      · rw [nB_f z, Int32.zero_mul, Int32.sub_zero]
        rw [show renS D un f = 0 from if_neg z, Nat.add_zero] at ih'
        exact ih'
  have l4 : ∀ (r b fu : Nat), b + r = D 1 → r < fu → X11_endsWith_l4 N h fu 237 (nI t) (nI (sNt (lenS D sk) b)) (nI b) = some (iI (accI D sk un)) := by
    intro r
    induction r with
    | zero =>
      intro b fu e hf
      obtain ⟨fu, rfl, _⟩ := fuel hf
      rw [X11_endsWith_l4, rh1 c, if_pos (nI_le (by omega) (by omega)), show b = D 1 by omega, iI_n]
      have := l39 (D 0) 0 N (sNt (lenS D sk) (D 1) : Int) (by omega) (by omega)
      rw [show ((sNt (renS D un) 0 : Nat) : Int) = 0 from rfl, Int.sub_zero] at this
      exact this
    | succ r ih =>
      intro b fu e hf
      obtain ⟨fu, rfl, _⟩ := fuel hf
      have ih' := ih (b + 1) fu (by omega) (by omega)
      rw [sNt] at ih'
      rw [X11_endsWith_l4, rh1 c, if_neg (nI_ge (by omega) (by omega)), if_neg (nI_in (by omega) (by decide)), r_longOf c (by omega), bd1_some, nI_clamp (by omega), show h.1 (237 + 10) t = _ from hs, bi_n (by omega) (by omega), nI_1]
      by_cases z : sk.testBit b = true
      · rw [nB_t z, Int32.one_mul, nI_add]
        rw [show lenS D sk b = D (18 + 4 * b) from if_pos z] at ih'
        exact ih'
      · rw [nB_f z, Int32.zero_mul, Int32.add_zero]
        rw [show lenS D sk b = 0 from if_neg z, Nat.add_zero] at ih'
        exact ih'
  exact l4 (D 1) 0 N (by omega) (by omega)
end GAE
