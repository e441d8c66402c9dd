/-! ===== level 2: tunes: what the reference came to ===== -/
section TUG
variable {N : Nat} {q : Nat} {D : Nat → Nat} {h : HS}
abbrev cmI (D : Nat → Nat) (b n : Nat) : Int32 := nB (FF (D 3) (AF D) (b + 1) n ≠ 0)
theorem vb0 : vp_nar .boolean 0 = 0 := by decide
theorem vb1 : vp_nar .boolean 1 = 1 := by decide
theorem r_l161 (c : RH h q D) (hN : 100 ≤ N) {b n : Nat} (hb : b < D 1) (hn : n < 10) (hr : 0 < b → ∀ m, m < 10 → h.1 252 (10 * (b - 1) + m) = cmI D (b - 1) m) (K132 : HS → Nat → Int32 → Option HS) (K142 : HS → Nat → Int32 → Int32 → Option HS) :
    (if nI b = 0 then X11_laysTunes_l161 N K132 K142 N h 237 (nI b) (nI n) 1 0 else X11_laysTunes_l161 N K132 K142 N h 237 (nI b) (nI n) 0 0) = K142 (wi h 252 (10 * b + n) (cmI D b n)) 237 (nI b) (nI (n + 1)) := by
  have hk := hk0 c.1
  have b216 : ∀ P : Prop, ∀ _ : Decidable P, (FF (D 3) (AF D) (b + 1) n ≠ 0 ↔ AF D b n = true ∧ P) → X11_laysTunes_b216 N h K132 K142 237 (nI b) (nI n) (nB P) = K142 (wi h 252 (10 * b + n) (cmI D b n)) 237 (nI b) (nI (n + 1)) := by
    intro P dP hP
    unfold X11_laysTunes_b216
    rw [r_mayBe c hb hn, bd1_some, ix10, nI_1, vb0, vb1]
    by_cases z : P
    · rw [nB_t z, if_neg one0]
      by_cases y : AF D b n = true
      · rw [nB_t y, if_neg one0, if_neg (nI_in (by omega) (by decide)), sq_eq, nI_clamp (by omega), cmI, nB_t (hP.mpr ⟨y, z⟩)]
      · rw [nB_f y, if_pos rfl, if_neg (nI_in (by omega) (by decide)), sq_eq, nI_clamp (by omega), cmI, nB_f (fun v => y (hP.mp v).1)]
    · rw [nB_f z, if_pos rfl, if_neg (nI_in (by omega) (by decide)), sq_eq, nI_clamp (by omega), cmI, nB_f (fun v => z (hP.mp v).2)]
  obtain ⟨M, hM, _⟩ := fuel (show 50 < N by omega)
  by_cases z : b = 0
  · rw [if_pos (by rw [z]; rfl)]
    have := b216 True inferInstance (by
      rw [FF]
      by_cases y : AF D b n = true
      · rw [if_pos y, z, sNt_one 0 10 (by decide) (fun i _ hi => by rw [FF, if_neg hi, ite_self]), if_pos (Or.inl rfl), FF, if_pos rfl]
        exact ⟨fun _ => ⟨by rw [← z]; exact y, trivial⟩, fun _ => by decide⟩
      · rw [if_neg y]
        exact ⟨fun v => absurd rfl v, fun v => absurd v.1 y⟩)
    rw [show (nB True : Int32) = 1 from rfl] at this
    have e : X11_laysTunes_l161 N K132 K142 N h 237 (nI b) (nI n) 1 0 = X11_laysTunes_b216 N h K132 K142 237 (nI b) (nI n) 1 := by
      rw [hM, X11_laysTunes_l161, ← hM, if_neg (by decide), if_pos (by rw [z]; decide)]
    rw [e]
    exact this
  · rw [if_neg (nI_ne0 (by omega) (by omega))]
    have key : ∀ (r m fu : Nat), m + r = 10 → r < fu → X11_laysTunes_l161 N K132 K142 fu h 237 (nI b) (nI n) (nB (sNt (fun m => if nr (D 3) m n then FF (D 3) (AF D) b m else 0) m ≠ 0)) (nI m) = X11_laysTunes_b216 N h K132 K142 237 (nI b) (nI n) (nB (sNt (fun m => if nr (D 3) m n then FF (D 3) (AF D) b m else 0) 10 ≠ 0)) := by
      intro r
      induction r with
      | zero =>
        intro m fu e hf
        obtain ⟨fu, rfl, _⟩ := fuel hf
        rw [X11_laysTunes_l161, if_pos (show (10 : Int32) ≤ nI m from nI_le (a := 10) (by omega) (by omega)), show m = 10 by omega]
      | succ r ih =>
        intro m fu e hf
        obtain ⟨fu, rfl, _⟩ := fuel hf
        have ih' := ih (m + 1) fu (by omega) (by omega)
        have es : sNt (fun m => if nr (D 3) m n then FF (D 3) (AF D) b m else 0) (m + 1) = sNt (fun m => if nr (D 3) m n then FF (D 3) (AF D) b m else 0) m + (if nr (D 3) m n then FF (D 3) (AF D) b m else 0) := rfl
        have hcm := hr (by omega) m (by omega)
        rw [cmI, show b - 1 + 1 = b by omega] at hcm
        rw [X11_laysTunes_l161, if_neg (show ¬ (10 : Int32) ≤ nI m from nI_ge (b := 10) (by omega) (by decide)), if_neg (show ¬ nI b ≤ 0 from nI_nle (by omega) (by omega)), show (10 * nI b - 10) + nI m = nI (10 * (b - 1) + m) by rw [zn10, pk_mul, pk_sub (by omega), nI_add]; congr 1; omega, nI_1]
        by_cases y : sNt (fun m => if nr (D 3) m n then FF (D 3) (AF D) b m else 0) m = 0
        · rw [nB_f (fun v => v y), if_pos rfl, if_neg (nI_in (by omega) (by decide)), nI_clamp (by omega), show h.1 (237 + 15) (10 * (b - 1) + m) = _ from hcm]
          by_cases x : FF (D 3) (AF D) b m = 0
          · rw [nB_f (fun v => v x), if_pos rfl]
            rw [nB_f (fun v => v (by rw [es, y, x, ite_self]))] at ih'
            exact ih'
          · rw [nB_t x, if_neg one0, r_isNear c (by omega) hn, bd1_some]
            by_cases w : nr (D 3) m n
            · rw [nB_t w, if_neg one0]
              rw [nB_t (show sNt (fun m => if nr (D 3) m n then FF (D 3) (AF D) b m else 0) (m + 1) ≠ 0 by rw [es, if_pos w]; omega)] at ih'
              exact ih'
            · rw [nB_f w, if_pos rfl]
              rw [nB_f (fun v => v (by rw [es, y, if_neg w]))] at ih'
              exact ih'
        · rw [nB_t y, if_neg one0]
          rw [nB_t (show sNt (fun m => if nr (D 3) m n then FF (D 3) (AF D) b m else 0) (m + 1) ≠ 0 by rw [es]; omega)] at ih'
          exact ih'
    have k1 := key 10 0 N (by omega) (by omega)
    refine Eq.trans k1 (b216 _ _ ?_)
    rw [FF]
    by_cases y : AF D b n = true
    · rw [if_pos y]; exact ⟨fun v => ⟨y, v⟩, fun v => v.2⟩
    · rw [if_neg y]; exact ⟨fun v => absurd rfl v, fun v => absurd v.1 y⟩
theorem r_l142 (hN : 100 ≤ N) {b : Nat} (K132 : HS → Nat → Int32 → Option HS) : ∀ (r n fu : Nat) (g : HS), n + r = 10 → r < fu → RH g q D → b < D 1 → (0 < b → ∀ m, m < 10 → g.1 252 (10 * (b - 1) + m) = cmI D (b - 1) m) → (∀ m, m < n → g.1 252 (10 * b + m) = cmI D b m) →
    ∃ g', X11_laysTunes_l142 N K132 fu g 237 (nI b) (nI n) = K132 g' 237 (nI (b + 1)) ∧ (∀ k, k ≠ 252 → g'.1 k = g.1 k) ∧ (∀ m, m < 10 → g'.1 252 (10 * b + m) = cmI D b m) ∧ ∀ i, i < 10 * b → g'.1 252 i = g.1 252 i := by
  intro r
  induction r with
  | zero =>
    intro n fu g e hf c hb hr hl
    obtain ⟨fu, rfl, _⟩ := fuel hf
    exact ⟨g, by rw [X11_laysTunes_l142, if_pos (show (10 : Int32) ≤ nI n from nI_le (a := 10) (by omega) (by omega)), nI_1], fun _ _ => rfl, fun m hm => hl m (by omega), fun _ _ => rfl⟩
  | succ r ih =>
    intro n fu g e hf c hb hr hl
    obtain ⟨fu, rfl, _⟩ := fuel hf
    rw [X11_laysTunes_l142, if_neg (show ¬ (10 : Int32) ≤ nI n from nI_ge (b := 10) (by omega) (by decide)), r_l161 c hN hb (by omega) hr]
    obtain ⟨g', a1, a2, a3, a4⟩ := ih (n + 1) fu (wi g 252 (10 * b + n) (cmI D b n)) (by omega) (by omega) (RH_n (wi_k _ _ (by decide)) (fun j _ _ => by rw [wi_k _ _ (by decide)]) c) hb (fun h1 m hm => by rw [wi_j _ _ (by omega)]; exact hr h1 m hm) (fun m hm => by
      by_cases y : m = n
      · subst y; exact wi_s _ _ _ _
      · rw [wi_j _ _ (by omega)]; exact hl m (by omega))
    exact ⟨g', a1, fun k hk => by rw [a2 k hk, wi_k _ _ hk], a3, fun i hi => by rw [a4 i hi, wi_j _ _ (by omega)]⟩
theorem r_l132 (hN : 100 ≤ N) : ∀ (r b fu : Nat) (g : HS), b + r = D 1 → r < fu → RH g q D → (∀ a, a < b → ∀ m, m < 10 → g.1 252 (10 * a + m) = cmI D a m) →
    ∃ g', X11_laysTunes_l132 N fu g 237 (nI b) = some g' ∧ (∀ k, k ≠ 252 → g'.1 k = g.1 k) ∧ ∀ a, a < D 1 → ∀ m, m < 10 → g'.1 252 (10 * a + m) = cmI D a m := by
  intro r
  induction r with
  | zero =>
    intro b fu g e hf c hr
    have hk := hk0 c.1
    obtain ⟨fu, rfl, _⟩ := fuel hf
    exact ⟨g, by rw [X11_laysTunes_l132, rh1 c, if_pos (nI_le (by omega) (by omega))], fun _ _ => rfl, fun a ha m hm => hr a (by omega) m hm⟩
  | succ r ih =>
    intro b fu g e hf c hr
    have hk := hk0 c.1
    obtain ⟨fu, rfl, _⟩ := fuel hf
    obtain ⟨g1, a1, a2, a3, a4⟩ := r_l142 (N := N) (q := q) (D := D) hN (b := b) (X11_laysTunes_l132 N fu) 10 0 N g (by omega) (by omega) c (by omega) (fun h1 m hm => hr (b - 1) (by omega) m hm) (fun m hm => by omega)
    obtain ⟨g2, b1, b2, b3⟩ := ih (b + 1) fu g1 (by omega) (by omega) (RH_n (a2 238 (by decide)) (fun j _ _ => by rw [a2 237 (by decide)]) c) (fun a h1 m hm => by
      by_cases y : a = b
      · subst y; exact a3 m hm
      · rw [a4 _ (by omega)]; exact hr a (by omega) m hm)
    refine ⟨g2, ?_, fun k hk => by rw [b2 k hk, a2 k hk], b3⟩
    rw [X11_laysTunes_l132, rh1 c, if_neg (nI_ge (by omega) (by omega)), show X11_laysTunes_l142 N (X11_laysTunes_l132 N fu) N g 237 (nI b) 0 = _ from a1, b1]
/-- all that the reference lays for tunes -/
def RTU (h : HS) (D : Nat → Nat) : Prop := (∀ a, a < D 1 → ∀ m, m < 10 → h.1 251 (10 * a + m) = nI (rf D a m)) ∧ ∀ a, a < D 1 → ∀ m, m < 10 → h.1 252 (10 * a + m) = cmI D a m
theorem r_laysTunes (c : RH h q D) (hN : 100 ≤ N) : ∃ h', X11_laysTunes N h 237 = some h' ∧ RH h' q D ∧ RTU h' D ∧ ∀ k, k ≠ 251 → k ≠ 252 → h'.1 k = h.1 k := by
  have hk := hk0 c.1
  obtain ⟨g1, a1, a2, a3⟩ := r_l7 (N := N) (q := q) (D := D) hN (D 1) N h (by omega) c (Nat.le_refl _) (fun a h1 h2 => by omega)
  have c1 : RH g1 q D := RH_n (a2 238 (by decide)) (fun j _ _ => by rw [a2 237 (by decide)]) c
  obtain ⟨g2, b1, b2, b3⟩ := r_l132 (N := N) (q := q) (D := D) hN (D 1) 0 N g1 (by omega) (by omega) c1 (fun a h1 => by omega)
  refine ⟨g2, ?_, RH_n (b2 238 (by decide)) (fun j _ _ => by rw [b2 237 (by decide)]) c1, ⟨fun a ha m hm => by rw [b2 251 (by decide)]; exact a3 a ha m hm, b3⟩, fun k k1 k2 => by rw [b2 k k2, a2 k k1]⟩
  unfold X11_laysTunes
  rw [rh1 c, show nI (D 1) - 1 = nI (D 1) + (-1) from by rw [Int32.sub_eq_add_neg], a1]
  exact b1
end TUG
