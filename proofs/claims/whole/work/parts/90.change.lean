/-! ===== level 2: change ===== -/
section CHG
variable {N : Nat} {p q : Nat} {D g : Nat → Nat}
def sw (g : Nat → Nat) (a b i : Nat) : Nat := if i = a then g b else if i = b then g a else g i
theorem sw_sw (g : Nat → Nat) {a b : Nat} (h : a ≠ b) : sw (sw g a b) a b = g := by
  funext i
  unfold sw
  by_cases z : i = a
  · rw [if_pos z, if_neg (fun w => h w.symm), if_pos rfl, z]
  · rw [if_neg z]
    by_cases y : i = b
    · rw [if_pos y, if_pos rfl, y]
    · rw [if_neg y, if_neg z, if_neg y]
theorem c_swap {h : HS} (c : CX h p D g) {a b : Nat} (ha : a < D 1) (hb : b < D 1) (hab : a ≠ b) : ∃ h', X0_swap N h 198 (nI a) (nI b) = some h' ∧ CX h' p D (sw g a b) ∧ (∀ k, k ≠ 209 → h'.1 k = h.1 k) ∧ h'.2 = h.2 := by
  have hk := hk0 c.2.1.2.1
  refine ⟨wi (wi h 209 a (h.1 209 b)) 209 b (h.1 209 a), ?_, ⟨c.1, ?_, ?_⟩, ?_, rfl⟩
  · unfold X0_swap
    rw [if_neg (nI_pos (by omega)), if_neg (show ¬ (8 : Int32) ≤ nI a from nI_ge (b := 8) (by omega) (by decide)), if_neg (nI_pos (by omega)), if_neg (show ¬ (8 : Int32) ≤ nI b from nI_ge (b := 8) (by omega) (by decide)), if_neg (nI_in (by omega) (by decide)), if_neg (nI_in (by omega) (by decide)), if_neg (nI_in (by omega) (by decide)), sq_eq, if_neg (nI_in (by omega) (by decide)), sq_eq, nI_clamp (by omega), nI_clamp (by omega)]
  · exact KH_fr (h := h) (fun k h1 h2 => by have := c.2.1.1.2.2.2.2.2.2.2.2.2.2; rw [wi_k _ _ (by omega), wi_k _ _ (by omega)]) c.2.1
  · intro i hi
    unfold sw
    by_cases z : i = a
    · rw [if_pos z, z, wi_j _ _ hab, wi_s]; exact c.2.2 b hb
    · rw [if_neg z]
      by_cases y : i = b
      · rw [if_pos y, y, wi_s]; exact c.2.2 a ha
      · rw [if_neg y, wi_j _ _ y, wi_j _ _ z]; exact c.2.2 i hi
  · intro k hk
    rw [wi_k _ _ hk, wi_k _ _ hk]
def chS (D : Nat → Nat) (a b : Nat) (s : Nat × Int32) : Nat × Int32 := if wkV D (sw (gr D) a b) < s.1 then (wkV D (sw (gr D) a b), 10 * nI a + nI b) else s
def chO (D : Nat → Nat) (a : Nat) (s : Nat × Int32) : Nat × Int32 := zl (chS D a) (D 1 - (a + 1)) (a + 1) s
theorem lt_tt (k : HK D) {a b : Nat} (ha : a ≤ 54 * tns D) (hb : b ≤ 54 * tns D) : (0 ≤ lg_cmp (lN (a * TT D)) (lN (b * TT D))) ↔ ¬ a < b := by
  have hT := tt_e k
  have hp := tt_pos D
  have h1 : ∀ u, u ≤ 54 * tns D → u * TT D ≤ 54 * 100000000 := by
    intro u hu
    rw [← hT, ← Nat.mul_assoc]
    exact Nat.mul_le_mul_right _ hu
  rw [lg_cmp_ge, pk_lLE (by have := h1 b hb; omega) (by have := h1 a ha; omega)]
  constructor
  · intro h w
    have := Nat.mul_lt_mul_of_pos_right w hp
    omega
  · intro h
    exact Nat.mul_le_mul_right _ (by omega)
theorem ch_le (k : HK D) (a : Nat) : ∀ (r b : Nat) (s : Nat × Int32), s.1 ≤ 54 * tns D → (zl (chS D a) r b s).1 ≤ 54 * tns D := by
  intro r
  induction r with
  | zero => intro b s h; exact h
  | succ r ih =>
    intro b s h
    simp only [zl]
    apply ih
    unfold chS
    by_cases z : wkV D (sw (gr D) a b) < s.1
    · rw [if_pos z]; exact wk_le k _
    · rw [if_neg z]; exact h
theorem c_change {h : HS} (c : CX h p D (gr D)) (hN : 100 ≤ N) : ∃ h', X0_bestSwap N h 198 = some ((zl (chO D) (D 1) 0 (wkV D (gr D), -1)).2, h') ∧ (∀ k, k ≠ 209 → h'.1 k = h.1 k) := by
  have hk := hk0 c.2.1.2.1
  have l28 : ∀ (K10 : HS → Nat → Int64 → Int32 → Int32 → Option (Int32 × HS)) (a : Nat), a < D 1 → ∀ (r b fu : Nat) (h' : HS) (s : Nat × Int32), b + r = D 1 → r < fu → a < b → s.1 ≤ 54 * tns D → CX h' p D (gr D) → (∀ k, k ≠ 209 → h'.1 k = h.1 k) →
      ∃ h2, X0_bestSwap_l28 N K10 fu h' 198 (lN (s.1 * TT D)) s.2 (nI a) (nI b) = K10 h2 198 (lN ((zl (chS D a) r b s).1 * TT D)) (zl (chS D a) r b s).2 (nI (a + 1)) ∧ CX h2 p D (gr D) ∧ (∀ k, k ≠ 209 → h2.1 k = h.1 k) := by
    intro K10 a ha r
    induction r with
    | zero =>
      intro b fu h' s e hf hab hs cx fr
      obtain ⟨fu, rfl, _⟩ := fuel hf
      refine ⟨h', ?_, cx, fr⟩
      rw [X0_bestSwap_l28, cx.1, ch1 cx.2.1, if_pos (nI_le (by omega) (by omega)), nI_1]
      rfl
    | succ r ih =>
      intro b fu h' s e hf hab hs cx fr
      obtain ⟨fu, rfl, _⟩ := fuel hf
      obtain ⟨h1, a1, a2, a3, _⟩ := c_swap (N := N) cx ha (show b < D 1 by omega) (by omega)
      obtain ⟨h2, b1, b2, b3, _⟩ := c_swap (N := N) a2 ha (show b < D 1 by omega) (by omega)
      rw [sw_sw (gr D) (show a ≠ b by omega)] at b2
      have hw := wk_le c.2.1.2.1 (sw (gr D) a b)
      rw [X0_bestSwap_l28, cx.1, ch1 cx.2.1, if_neg (nI_ge (by omega) (by omega)), a1, bd1_some, c_mean a2 hN, bd1_some, b1, bd1_some, nI_1]
      simp only [zl]
      have fr2 : ∀ k, k ≠ 209 → h2.1 k = h.1 k := fun k hk => by rw [b3 k hk, a3 k hk]; exact fr k hk
      by_cases z : wkV D (sw (gr D) a b) < s.1
      · rw [if_neg (fun w => (lt_tt c.2.1.2.1 hw hs).mp w z), show chS D a b s = (wkV D (sw (gr D) a b), 10 * nI a + nI b) from if_pos z]
        exact ih (b + 1) fu h2 (wkV D (sw (gr D) a b), 10 * nI a + nI b) (by omega) (by omega) (by omega) hw b2 fr2
      · rw [if_pos ((lt_tt c.2.1.2.1 hw hs).mpr z), show chS D a b s = s from if_neg z]
        exact ih (b + 1) fu h2 s (by omega) (by omega) (by omega) hs b2 fr2
  have l10 : ∀ (r a fu : Nat) (h' : HS) (s : Nat × Int32), a + r = D 1 → r < fu → s.1 ≤ 54 * tns D → CX h' p D (gr D) → (∀ k, k ≠ 209 → h'.1 k = h.1 k) → ∃ h2, X0_bestSwap_l10 N fu h' 198 (lN (s.1 * TT D)) s.2 (nI a) = some ((zl (chO D) r a s).2, h2) ∧ (∀ k, k ≠ 209 → h2.1 k = h.1 k) := by
    intro r
    induction r with
    | zero =>
      intro a fu h' s e hf hs cx fr
      obtain ⟨fu, rfl, _⟩ := fuel hf
      refine ⟨h', ?_, fr⟩
      rw [X0_bestSwap_l10, cx.1, ch1 cx.2.1, if_pos (nI_le (by omega) (by omega))]
      rfl
    | succ r ih =>
      intro a fu h' s e hf hs cx fr
      obtain ⟨fu, rfl, _⟩ := fuel hf
      rw [X0_bestSwap_l10, cx.1, ch1 cx.2.1, if_neg (nI_ge (by omega) (by omega)), nI_1]
      obtain ⟨h2, a1, a2, a3⟩ := l28 (X0_bestSwap_l10 N fu) a (by omega) (D 1 - (a + 1)) (a + 1) N h' s (by omega) (by omega) (by omega) hs cx fr
      rw [a1]
      exact ih (a + 1) fu h2 (chO D a s) (by omega) (by omega) (ch_le c.2.1.2.1 a _ _ s hs) a2 a3
  unfold X0_bestSwap
  rw [c_mean c hN, bd1_some]
  exact l10 (D 1) 0 N h (wkV D (gr D), -1) (by omega) (by omega) (wk_le c.2.1.2.1 _) c (fun _ _ => rfl)
theorem r_change {h : HS} (c : RX h q D (gr D)) (hN : 100 ≤ N) : ∃ h', X11_change_l25 N N h 237 (lN (wkV D (gr D))) (-1) 0 = some ((zl (chO D) (D 1) 0 (wkV D (gr D), -1)).2, h') ∧ (∀ k, k ≠ 246 → h'.1 k = h.1 k) := by
  have hk := hk0 c.1.1
  have ht := tn_le c.1.1
  have rhf : ∀ h' : HS, (∀ k, k ≠ 246 → h'.1 k = h.1 k) → RH h' q D := by
    intro h' e
    have c1 := c.1
    unfold RH at c1 ⊢
    rw [e 237 (by decide), e 238 (by decide)]
    exact c1
  have hg : ∀ b, b < D 1 → gr D b ≤ 5 := fun b hb => (c.2 b hb).1
  have l40 : ∀ (K25 : HS → Nat → Int64 → Int32 → Int32 → Option (Int32 × HS)) (a : Nat), a < D 1 → ∀ (r b fu : Nat) (h' : HS) (s : Nat × Int32), b + r = D 1 → r < fu → a < b → s.1 ≤ 54 * tns D → (∀ b, b < D 1 → h'.1 246 b = nI (gr D b)) → (∀ k, k ≠ 246 → h'.1 k = h.1 k) →
      ∃ h2, X11_change_l40 N K25 fu h' 237 (lN s.1) s.2 (nI a) (nI b) = K25 h2 237 (lN (zl (chS D a) r b s).1) (zl (chS D a) r b s).2 (nI (a + 1)) ∧ (∀ b, b < D 1 → h2.1 246 b = nI (gr D b)) ∧ (∀ k, k ≠ 246 → h2.1 k = h.1 k) := by
    intro K25 a ha r
    induction r with
    | zero =>
      intro b fu h' s e hf hab hs cx fr
      obtain ⟨fu, rfl, _⟩ := fuel hf
      refine ⟨h', ?_, cx, fr⟩
      rw [X11_change_l40, rh1 (rhf h' fr), if_pos (nI_le (by omega) (by omega)), nI_1]
      rfl
    | succ r ih =>
      intro b fu h' s e hf hab hs cx fr
      obtain ⟨fu, rfl, _⟩ := fuel hf
      have hw := wk_le c.1.1 (sw (gr D) a b)
      have fw : ∀ (x : HS) (j : Nat) (v : Int32), (∀ k, k ≠ 246 → x.1 k = h.1 k) → ∀ k, k ≠ 246 → (wi x (237 + 9) j v).1 k = h.1 k := fun x j v e k hk => by rw [wi_k _ _ hk]; exact e k hk
      have f1 := fw h' a (nI (D (19 + 4 * b))) fr
      have f2 := fw _ b (nI (D (19 + 4 * a))) f1
      have f3 := fw _ a (nI (D (19 + 4 * a))) f2
      have f4 := fw _ b (nI (D (19 + 4 * b))) f3
      rw [X11_change_l40, rh1 (rhf h' fr), if_neg (nI_ge (by omega) (by omega)), r_floorOf (rhf h' fr) (by omega), bd1_some, if_neg (nI_in (by omega) (by decide)), sq_eq, nI_clamp (show a < 2 ^ 31 by omega), r_floorOf (rhf _ f1) (by omega), bd1_some, if_neg (nI_in (by omega) (by decide)), sq_eq, nI_clamp (show b < 2 ^ 31 by omega)]
      have cx2 : RX (wi (wi h' (237 + 9) a (nI (D (19 + 4 * b)))) (237 + 9) b (nI (D (19 + 4 * a)))) q D (sw (gr D) a b) := by
        refine ⟨rhf _ f2, fun i hi => ?_⟩
        unfold sw
        by_cases z : i = a
        · rw [if_pos z, z]
          refine ⟨hg b (by omega), ?_⟩
          rw [show (237 + 9 : Nat) = 246 from rfl, wi_j _ _ (by omega)]; exact wi_s _ _ _ _
        · rw [if_neg z]
          by_cases y : i = b
          · rw [if_pos y, y]; exact ⟨hg a ha, wi_s _ _ _ _⟩
          · rw [if_neg y]
            refine ⟨hg i hi, ?_⟩
            rw [show (237 + 9 : Nat) = 246 from rfl, wi_j _ _ y, wi_j _ _ z]; exact cx i hi
      rw [r_wakesOf cx2 hN, bd1_some, r_floorOf (rhf _ f2) (by omega), bd1_some, if_neg (nI_ic (by omega) (by omega)), sq_eq, r_floorOf (rhf _ f3) (by omega), bd1_some, if_neg (nI_ic (by omega) (by omega)), sq_eq, nI_1]
      have cx4 : ∀ i, i < D 1 → (wi (wi (wi (wi h' (237 + 9) a (nI (D (19 + 4 * b)))) (237 + 9) b (nI (D (19 + 4 * a)))) (237 + 9) a (nI (D (19 + 4 * a)))) (237 + 9) b (nI (D (19 + 4 * b)))).1 246 i = nI (gr D i) := by
        intro i hi
        rw [show (237 + 9 : Nat) = 246 from rfl]
        by_cases y : i = b
        · rw [y]; exact wi_s _ _ _ _
        · rw [wi_j _ _ y]
          by_cases z : i = a
          · rw [z]; exact wi_s _ _ _ _
          · rw [wi_j _ _ z, wi_j _ _ y, wi_j _ _ z]; exact cx i hi
      simp only [zl]
      have ec : (lg_cmp (lN (wkV D (sw (gr D) a b))) (lN s.1) < 0) ↔ wkV D (sw (gr D) a b) < s.1 := by
        rw [lg_cmp_lt, pk_lLT (by omega) (by omega)]
      by_cases z : wkV D (sw (gr D) a b) < s.1
      · rw [if_pos (ec.mpr z), show chS D a b s = (wkV D (sw (gr D) a b), 10 * nI a + nI b) from if_pos z]
        exact ih (b + 1) fu _ (wkV D (sw (gr D) a b), 10 * nI a + nI b) (by omega) (by omega) (by omega) hw cx4 f4
      · rw [if_neg (fun w => z (ec.mp w)), show chS D a b s = s from if_neg z]
        exact ih (b + 1) fu _ s (by omega) (by omega) (by omega) hs cx4 f4
  have l25 : ∀ (r a fu : Nat) (h' : HS) (s : Nat × Int32), a + r = D 1 → r < fu → s.1 ≤ 54 * tns D → (∀ b, b < D 1 → h'.1 246 b = nI (gr D b)) → (∀ k, k ≠ 246 → h'.1 k = h.1 k) → ∃ h2, X11_change_l25 N fu h' 237 (lN s.1) s.2 (nI a) = some ((zl (chO D) r a s).2, h2) ∧ (∀ k, k ≠ 246 → h2.1 k = h.1 k) := by
    intro r
    induction r with
    | zero =>
      intro a fu h' s e hf hs cx fr
      obtain ⟨fu, rfl, _⟩ := fuel hf
      refine ⟨h', ?_, fr⟩
      rw [X11_change_l25, rh1 (rhf h' fr), if_pos (nI_le (by omega) (by omega))]
      rfl
    | succ r ih =>
      intro a fu h' s e hf hs cx fr
      obtain ⟨fu, rfl, _⟩ := fuel hf
      rw [X11_change_l25, rh1 (rhf h' fr), if_neg (nI_ge (by omega) (by omega)), nI_1]
      obtain ⟨h2, a1, a2, a3⟩ := l40 (X11_change_l25 N fu) a (by omega) (D 1 - (a + 1)) (a + 1) N h' s (by omega) (by omega) (by omega) hs cx fr
      rw [a1]
      exact ih (a + 1) fu h2 (chO D a s) (by omega) (by omega) (ch_le c.1.1 a _ _ s hs) a2 a3
  exact l25 (D 1) 0 N h (wkV D (gr D), -1) (by omega) (by omega) (wk_le c.1.1 _) (fun b hb => (c.2 b hb).2) (fun _ _ => rfl)
end CHG
theorem q_change {N : Nat} {h : HS} (I : INV h) (hN : 1000000000 ≤ N) (a : Int32) : ∃ r h1 h2, X10_change N h 1 a = some (r, h1) ∧ X11_change N h1 237 a = some (r, h2) ∧ Same h h2 := by
  unfold X10_change X11_change
  rcases opn (N := N) I a with ⟨e1, e2⟩ | ⟨p, q, D, e1, hp, c, e2⟩
  · exact ⟨-1, h, h, by rw [e1]; rfl, by rw [e2 h (Same.refl h)]; rfl, Same.refl h⟩
  · rw [e1, bd1_some, if_neg hp]
    obtain ⟨h1, a1, a2, a3⟩ := c_enter (N := N) c
    obtain ⟨h1', c1, c2⟩ := c_change (N := N) a2 (by omega)
    have s1 : Same h h1' := Same.trans (en_same a3) (en_same c2)
    obtain ⟨h2, e3, rh, sm, _⟩ := e2 h1' s1
    obtain ⟨h3, b1, b2, b3⟩ := r_floors (N := N) rh (by omega)
    obtain ⟨h4, d1, d2⟩ := r_change (N := N) b2 (by omega)
    refine ⟨(zl (chO D) (D 1) 0 (wkV D (gr D), -1)).2, h1', h4, ?_, ?_, Same.trans sm (Same.trans (fl_same b3) (fl_same d2))⟩
    · rw [show X0_enter N h (1 + 197) p = _ from a1, bd1_some, show X0_bestSwap N h1 (1 + 197) = _ from c1, bd2_some]
    · rw [e3, bd2_some, if_neg one0, b1, bd1_some, r_wakesOf b2 (by omega), bd1_some, d1]
