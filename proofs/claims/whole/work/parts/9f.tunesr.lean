/-! ===== level 2: tunes: the reference's rows ===== -/
section TUR
variable {N : Nat} {q : Nat} {D : Nat → Nat} {h : HS}
theorem r_isWalled (c : RH h q D) {b : Nat} (hb : b < 8) : X11_isWalled N h 237 (nI b) = some (nB ((D 4).testBit b = true)) := by
  have h4 := hk4 c.1
  obtain ⟨a1, a2⟩ := rixC c (x := h.1 237 12 + 4) (i := 4) (by rw [c.2.2.1, zn4, nI_add]) (by decide)
  unfold X11_isWalled
  rw [if_neg a1, a2, bi_n (by omega) (by omega)]
  by_cases z : (D 4).testBit b = true
  · rw [nB_t z, if_pos rfl, nz_1]
  · rw [nB_f z, if_neg (by decide), nz_0]
theorem r_mayBe (c : RH h q D) {b n : Nat} (hb : b < D 1) (hn : n < 10) : X11_mayBe N h 237 (nI b) (nI n) = some (nB (AF D b n = true)) := by
  have hk := hk0 c.1
  have hB := hkB c.1 hb
  unfold X11_mayBe
  rw [r_isWalled c (by omega), bd1_some]
  by_cases z : (D 4).testBit b = true
  · rw [nB_t z, if_neg one0, AF, AC, if_pos (Or.inl z), frD, if_pos z]
    by_cases y : n = 0
    · rw [y, if_pos (show nI 0 ≤ 0 by decide), nz_0, nB_f (fun w => by have := of_decide_eq_true w; omega)]
    · rw [if_neg (show ¬ nI n ≤ 0 from nI_nle (by omega) (by omega)), nz_1, nB_t (decide_eq_true ⟨by omega, Or.inl rfl⟩)]
  · rw [nB_f z, if_pos rfl, r_noteOf c (by omega), bd1_some]
    have e : AF D b n = true ↔ n = D (17 + 4 * b) := by
      rw [AF, AC, frD, if_neg z]
      by_cases y : D (17 + 4 * b) = 0
      · rw [if_neg (fun w => by rcases w with w | w; exact z w; exact w y), decide_eq_true_iff, y]
      · rw [if_pos (Or.inr y), decide_eq_true_iff]
        omega
    by_cases y : n = D (17 + 4 * b)
    · rw [if_pos (by rw [y]), nz_1, nB_t (e.mpr y)]
    · rw [if_neg (fun v => y ((nI_eq (by omega) (by omega)).mp v)), nz_0, nB_f (fun v => y (e.mp v))]
theorem r_isNear (c : RH h q D) {n m : Nat} (hn : n < 10) (hm : m < 10) : X11_isNear N h 237 (nI n) (nI m) = some (nB (nr (D 3) n m)) := by
  have hk := hk0 c.1
  obtain ⟨a1, a2⟩ := rixC c (x := h.1 237 12 + 3) (i := 3) (by rw [c.2.2.1, zn3, nI_add]) (by decide)
  unfold X11_isNear
  by_cases z : n = 0
  · rw [if_pos (by rw [z]; rfl), nz_1, nB_t (Or.inl z)]
  rw [if_neg (nI_ne0 (by omega) (by omega))]
  by_cases y : m = 0
  · rw [if_pos (by rw [y]; rfl), nz_1, nB_t (Or.inr (Or.inl y))]
  rw [if_neg (nI_ne0 (by omega) (by omega))]
  by_cases x : n ≤ m
  · rw [if_pos (nI_le x (by omega)), if_neg a1, a2, pk_sub x]
    by_cases w : D 3 < m - n
    · rw [if_pos (nI_lt w (by omega)), nz_0, nB_f (fun v => by rcases v with v | v | v; exact z v; exact y v; omega)]
    · rw [if_neg (nI_nlt (by omega) (by omega)), nz_1, nB_t (Or.inr (Or.inr ⟨by omega, by omega⟩))]
  · rw [if_neg (nI_ge (by omega) (by omega)), if_neg a1, a2, pk_sub (show m ≤ n by omega)]
    by_cases w : D 3 < n - m
    · rw [if_pos (nI_lt w (by omega)), nz_0, nB_f (fun v => by rcases v with v | v | v; exact z v; exact y v; omega)]
    · rw [if_neg (nI_nlt (by omega) (by omega)), nz_1, nB_t (Or.inr (Or.inr ⟨by omega, by omega⟩))]
/-- rows from bar b on, with note n there -/
def rf (D : Nat → Nat) (b n : Nat) : Nat := if AF D b n = true then GG (D 3) (AF D) (D 1) (D 1 - (b + 1)) n else 0
theorem ix10 (b n : Nat) : 10 * nI b + nI n = nI (10 * b + n) := by rw [zn10, pk_mul, nI_add]
theorem r_l38 (c : RH h q D) (hN : 100 ≤ N) {b n : Nat} (hb : b < D 1) (hn : n < 10) (hr : b + 1 < D 1 → ∀ m, m < 10 → h.1 251 (10 * (b + 1) + m) = nI (rf D (b + 1) m)) (K7 : HS → Nat → Int32 → Option HS) (K13 : HS → Nat → Int32 → Int32 → Option HS) :
    (if nI b = (nI (D 1) - 1) then X11_laysTunes_l38 N K7 K13 N h 237 (nI b) (nI n) 1 0 else X11_laysTunes_l38 N K7 K13 N h 237 (nI b) (nI n) 0 0) = K13 (wi h 251 (10 * b + n) (nI (rf D b n))) 237 (nI b) (nI (n + 1)) := by
  have hk := hk0 c.1
  have e1 : nI (D 1) - 1 = nI (D 1 - 1) := pk_sub (b := 1) (by omega)
  have b93 : ∀ x, x = GG (D 3) (AF D) (D 1) (D 1 - (b + 1)) n → X11_laysTunes_b93 N h K7 K13 237 (nI b) (nI n) (nI x) = K13 (wi h 251 (10 * b + n) (nI (rf D b n))) 237 (nI b) (nI (n + 1)) := by
    intro x hx
    unfold X11_laysTunes_b93
    rw [r_mayBe c hb hn, bd1_some, ix10, nI_1]
    by_cases z : AF D b n = true
    · rw [nB_t z, if_neg one0, if_neg (nI_in (by omega) (by decide)), sq_eq, nI_clamp (by omega), hx, rf, if_pos z]
    · rw [nB_f z, if_pos rfl, if_neg (nI_in (by omega) (by decide)), sq_eq, nI_clamp (by omega), rf, if_neg z]
      rfl
  obtain ⟨M, hM, _⟩ := fuel (show 50 < N by omega)
  by_cases z : b + 1 = D 1
  · rw [if_pos (by rw [e1]; congr 1; omega)]
    have := b93 1 (by rw [z, Nat.sub_self, GG])
    rw [show (1 : Int32) = nI 1 from rfl]
    have e : X11_laysTunes_l38 N K7 K13 N h 237 (nI b) (nI n) (nI 1) 0 = X11_laysTunes_b93 N h K7 K13 237 (nI b) (nI n) (nI 1) := by
      rw [hM, X11_laysTunes_l38, ← hM, if_neg (by decide), rh1 c, e1, if_pos (nI_le (by omega) (by omega))]
    rw [e]
    exact this
  · rw [if_neg (by rw [e1]; exact fun v => by have := (nI_eq (by omega) (by omega)).mp v; omega)]
    have key : ∀ (r m fu : Nat), m + r = 10 → r < fu → X11_laysTunes_l38 N K7 K13 fu h 237 (nI b) (nI n) (nI (sNt (fun m => if nr (D 3) n m then rf D (b + 1) m else 0) m)) (nI m) = X11_laysTunes_b93 N h K7 K13 237 (nI b) (nI n) (nI (sNt (fun m => if nr (D 3) n m then rf D (b + 1) m else 0) 10)) := by
      intro r
      induction r with
      | zero =>
        intro m fu e hf
        obtain ⟨fu, rfl, _⟩ := fuel hf
        rw [X11_laysTunes_l38, if_pos (show (10 : Int32) ≤ nI m from nI_le (a := 10) (by omega) (by omega)), show m = 10 by omega]
      | succ r ih =>
        intro m fu e hf
        obtain ⟨fu, rfl, _⟩ := fuel hf
        have ih' := ih (m + 1) fu (by omega) (by omega)
        rw [sNt] at ih'
        rw [X11_laysTunes_l38, if_neg (show ¬ (10 : Int32) ≤ nI m from nI_ge (b := 10) (by omega) (by decide)), rh1 c, e1, if_neg (nI_ge (by omega) (by omega)), r_isNear c hn (by omega), bd1_some, nI_1]
        by_cases y : nr (D 3) n m
        · rw [nB_t y, if_neg one0, show (10 * nI b + 10) + nI m = nI (10 * (b + 1) + m) by rw [zn10, pk_mul, nI_add, nI_add]; congr 1, if_neg (nI_in (by omega) (by decide)), nI_clamp (by omega), show h.1 (237 + 14) (10 * (b + 1) + m) = _ from hr (by omega) m (by omega), nI_add]
          rw [if_pos y] at ih'
          exact ih'
        · rw [nB_f y, if_pos rfl, show ∀ a : Nat, nI a + 0 = nI (a + 0) from fun a => nI_add a 0]
          rw [if_neg y] at ih'
          exact ih'
    have k1 := key 10 0 N (by omega) (by omega)
    refine Eq.trans k1 (b93 _ ?_)
    rw [show D 1 - (b + 1) = (D 1 - (b + 2)) + 1 by omega, GG, show D 1 - 1 - (D 1 - (b + 2)) = b + 1 by omega]
    refine sNt_congr 10 (fun m _ => ?_)
    unfold rf
    by_cases y : nr (D 3) n m
    · by_cases x : AF D (b + 1) m = true
      · rw [if_pos y, if_pos x, if_pos ⟨y, x⟩]
      · rw [if_pos y, if_neg x, if_neg (fun v => x v.2)]
    · rw [if_neg y, if_neg (fun v => y v.1)]
theorem r_l13 (hN : 100 ≤ N) {b : Nat} (K7 : HS → Nat → Int32 → Option HS) : ∀ (r n fu : Nat) (g : HS), n + r = 10 → r < fu → RH g q D → b < D 1 → (b + 1 < D 1 → ∀ m, m < 10 → g.1 251 (10 * (b + 1) + m) = nI (rf D (b + 1) m)) → (∀ m, m < n → g.1 251 (10 * b + m) = nI (rf D b m)) →
    ∃ g', X11_laysTunes_l13 N K7 fu g 237 (nI b) (nI n) = K7 g' 237 (nI b + (-1)) ∧ (∀ k, k ≠ 251 → g'.1 k = g.1 k) ∧ (∀ m, m < 10 → g'.1 251 (10 * b + m) = nI (rf D b m)) ∧ ∀ i, 10 * b + 10 ≤ i → g'.1 251 i = g.1 251 i := by
  intro r
  induction r with
  | zero =>
    intro n fu g e hf c hb hr hl
    obtain ⟨fu, rfl, _⟩ := fuel hf
    exact ⟨g, by rw [X11_laysTunes_l13, if_pos (show (10 : Int32) ≤ nI n from nI_le (a := 10) (by omega) (by omega))], fun _ _ => rfl, fun m hm => hl m (by omega), fun _ _ => rfl⟩
  | succ r ih =>
    intro n fu g e hf c hb hr hl
    obtain ⟨fu, rfl, _⟩ := fuel hf
    rw [X11_laysTunes_l13, if_neg (show ¬ (10 : Int32) ≤ nI n from nI_ge (b := 10) (by omega) (by decide)), rh1 c, r_l38 c hN hb (by omega) hr]
    obtain ⟨g', a1, a2, a3, a4⟩ := ih (n + 1) fu (wi g 251 (10 * b + n) (nI (rf D b n))) (by omega) (by omega) (RH_n (wi_k _ _ (by decide)) (fun j _ _ => by rw [wi_k _ _ (by decide)]) c) hb (fun h1 m hm => by rw [wi_j _ _ (by omega)]; exact hr h1 m hm) (fun m hm => by
      by_cases y : m = n
      · subst y; exact wi_s _ _ _ _
      · rw [wi_j _ _ (by omega)]; exact hl m (by omega))
    exact ⟨g', a1, fun k hk => by rw [a2 k hk, wi_k _ _ hk], a3, fun i hi => by rw [a4 i hi, wi_j _ _ (by omega)]⟩
theorem r_l7 (hN : 100 ≤ N) : ∀ (b fu : Nat) (g : HS), b < fu → RH g q D → b ≤ D 1 → (∀ a, b ≤ a → a < D 1 → ∀ m, m < 10 → g.1 251 (10 * a + m) = nI (rf D a m)) →
    ∃ g', X11_laysTunes_l7 N fu g 237 (nI b + (-1)) = X11_laysTunes_l132 N N g' 237 0 ∧ (∀ k, k ≠ 251 → g'.1 k = g.1 k) ∧ ∀ a, a < D 1 → ∀ m, m < 10 → g'.1 251 (10 * a + m) = nI (rf D a m) := by
  intro b
  induction b with
  | zero =>
    intro fu g hf c hb hr
    obtain ⟨fu, rfl, _⟩ := fuel hf
    exact ⟨g, by rw [X11_laysTunes_l7, if_pos (by decide)], fun _ _ => rfl, fun a ha m hm => hr a (Nat.zero_le _) ha m hm⟩
  | succ b ih =>
    intro fu g hf c hb hr
    have hk := hk0 c.1
    obtain ⟨fu, rfl, _⟩ := fuel hf
    have e1 : nI (b + 1) + (-1) = nI b := by
      rw [← nI_1, Int32.add_assoc, show (1 : Int32) + (-1) = 0 from by decide, Int32.add_zero]
    obtain ⟨g1, a1, a2, a3, a4⟩ := r_l13 (N := N) (q := q) (D := D) hN (b := b) (X11_laysTunes_l7 N fu) 10 0 N g (by omega) (by omega) c (by omega) (fun h1 m hm => hr (b + 1) (Nat.le_refl _) h1 m hm) (fun m hm => by omega)
    obtain ⟨g2, b1, b2, b3⟩ := ih fu g1 (by omega) (RH_n (a2 238 (by decide)) (fun j _ _ => by rw [a2 237 (by decide)]) c) (by omega) (fun a h1 h2 m hm => by
      by_cases y : a = b
      · subst y; exact a3 m hm
      · rw [a4 _ (by omega)]; exact hr a (by omega) h2 m hm)
    refine ⟨g2, ?_, fun k hk => by rw [b2 k hk, a2 k hk], b3⟩
    rw [X11_laysTunes_l7, e1, if_neg (nI_pos (by omega)), show X11_laysTunes_l13 N (X11_laysTunes_l7 N fu) N g 237 (nI b) 0 = _ from a1, b1]
end TUR
