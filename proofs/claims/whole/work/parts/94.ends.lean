/-! ===== level 2: a night ends, a night begins ===== -/
section END
variable {N : Nat} {p q : Nat} {D : Nat → Nat} {S : NS} {h : HS}
abbrev brF (D : Nat → Nat) (s : Nat) : Nat := D (51 + 3 * s)
theorem c_begin (e2 : h.2 185 = p) (c : KH h p D) (hN : 100 ≤ N) : ∃ h', X3_beginNight N h 185 = some h' ∧ h'.2 = h.2 ∧ (∀ k, k ≠ 185 → k ≠ 196 → h'.1 k = h.1 k) ∧ (∀ j, j ≠ 2 → j ≠ 3 → j ≠ 8 → j ≠ 9 → j ≠ 10 → h'.1 185 j = h.1 185 j) ∧ h'.1 185 2 = oI (nx D 0) ∧ h'.1 185 3 = 0 ∧ h'.1 185 8 = 0 ∧ h'.1 185 9 = -1 ∧ h'.1 185 10 = -1 ∧ ∀ s, s < D 2 → h'.1 196 s = nI (brF D s) := by
  have hk := hk0 c.2.1
  have key : ∀ (g : HS), g.2 185 = p → KH g p D → ∀ (r s fu : Nat) (h' : HS), s + r = 5 → r < fu → h'.2 = g.2 → (∀ k, k ≠ 196 → h'.1 k = g.1 k) → (∀ t, t < s → t < D 2 → h'.1 196 t = nI (brF D t)) → ∃ h2, X3_beginNight_l34 N fu h' 185 (nI s) = some h2 ∧ h2.2 = g.2 ∧ (∀ k, k ≠ 196 → h2.1 k = g.1 k) ∧ ∀ t, t < D 2 → h2.1 196 t = nI (brF D t) := by
    intro g g1 g2 r
    induction r with
    | zero =>
      intro s fu h' e hf f2 fk fl
      obtain ⟨fu, rfl, _⟩ := fuel hf
      refine ⟨h', ?_, f2, fk, fun t ht => fl t (by omega) ht⟩
      rw [X3_beginNight_l34, if_pos (show (5 : Int32) ≤ nI s from nI_le (a := 5) (by omega) (by omega))]
    | succ r ih =>
      intro s fu h' e hf f2 fk fl
      obtain ⟨fu, rfl, _⟩ := fuel hf
      have hp : p < 146 := g2.1.2.2.2.2.2.2.2.2.2.2
      rw [X3_beginNight_l34, if_neg (show ¬ (5 : Int32) ≤ nI s from nI_ge (b := 5) (by omega) (by decide)), f2, g1, at_in g2.1.2.2.2.2.2.2.2.2.1 (by decide) (by omega), bd1_some, if_neg (nI_in (by omega) (by decide)), sq_eq, nI_clamp (by omega), nI_1, fk (p + 9) (by omega)]
      refine ih (s + 1) fu _ (by omega) (by omega) f2 (fun k hk => by rw [wi_k _ _ hk]; exact fk k hk) (fun t ht ht2 => ?_)
      by_cases y : t = s
      · subst y
        rw [← chBr g2 ht2]
        exact wi_s _ _ _ _
      · rw [show (185 + 11 : Nat) = 196 from rfl, wi_j _ _ y]; exact fl t (by omega) ht2
  unfold X3_beginNight
  rw [e2, show X1_nextFrom N h p 0 = _ from c_nextFrom c hN (a := 0) (by omega), bd1_some, sq_eq, sq_eq, sq_eq, sq_eq, sq_eq]
  generalize hg : wi (wi (wi (wi (wi h 185 2 (oI (nx D 0))) 185 3 0) 185 8 0) 185 9 (-1)) 185 10 (-1) = g
  have kg : ∀ k, k ≠ 185 → g.1 k = h.1 k := fun k hk => by rw [← hg, wi_k _ _ hk, wi_k _ _ hk, wi_k _ _ hk, wi_k _ _ hk, wi_k _ _ hk]
  have jg : ∀ j, j ≠ 2 → j ≠ 3 → j ≠ 8 → j ≠ 9 → j ≠ 10 → g.1 185 j = h.1 185 j := fun j a2 a3 a8 a9 a10 => by rw [← hg, wi_j _ _ a10, wi_j _ _ a9, wi_j _ _ a8, wi_j _ _ a3, wi_j _ _ a2]
  have g2 : g.1 185 2 = oI (nx D 0) := by rw [← hg]; rfl
  have g3 : g.1 185 3 = 0 := by rw [← hg]; rfl
  have g8 : g.1 185 8 = 0 := by rw [← hg]; rfl
  have g9 : g.1 185 9 = -1 := by rw [← hg]; rfl
  have g10 : g.1 185 10 = -1 := by rw [← hg]; rfl
  have gs : g.2 = h.2 := by rw [← hg]; rfl
  obtain ⟨h2, a1, a2, a3, a4⟩ := key g (by rw [gs]; exact e2) (KH_n (fun k hk => kg k (by omega)) c) 5 0 N g (by omega) (by omega) rfl (fun _ _ => rfl) (fun t ht => by omega)
  have z := a3 185 (by decide)
  refine ⟨h2, a1, by rw [a2, gs], fun k k1 k2 => by rw [a3 k k2, kg k k1], fun j b1 b2 b3 b4 b5 => by rw [z]; exact jg j b1 b2 b3 b4 b5, by rw [z]; exact g2, by rw [z]; exact g3, by rw [z]; exact g8, by rw [z]; exact g9, by rw [z]; exact g10, a4⟩
theorem r_falls (c : RH h q D) (hN : 100 ≤ N) : ∃ h', X11_falls N h 237 = some h' ∧ (∀ k, k ≠ 237 → k ≠ 253 → k ≠ 255 → h'.1 k = h.1 k) ∧ (∀ j, j ≠ 34 → j ≠ 35 → j ≠ 40 → h'.1 237 j = h.1 237 j) ∧ h'.1 237 34 = 0 ∧ h'.1 237 35 = 0 ∧ h'.1 237 40 = 0 ∧ (∀ s, s < D 2 → h'.1 253 s = nI (brF D s)) ∧ ∀ i, i < 8 → h'.1 255 i = -1 := by
  have hk := hk0 c.1
  have l44 : ∀ (g : HS) (r b fu : Nat) (h' : HS), b + r = 8 → r < fu → (∀ k, k ≠ 255 → h'.1 k = g.1 k) → (∀ i, i < b → h'.1 255 i = -1) → ∃ h2, X11_falls_l44 N fu h' 237 (nI b) = some h2 ∧ (∀ k, k ≠ 255 → h2.1 k = g.1 k) ∧ ∀ i, i < 8 → h2.1 255 i = -1 := by
    intro g r
    induction r with
    | zero =>
      intro b fu h' e hf fk fl
      obtain ⟨fu, rfl, _⟩ := fuel hf
      refine ⟨h', ?_, fk, fun i hi => fl i (by omega)⟩
      rw [X11_falls_l44, if_pos (show (8 : Int32) ≤ nI b from nI_le (a := 8) (by omega) (by omega))]
    | succ r ih =>
      intro b fu h' e hf fk fl
      obtain ⟨fu, rfl, _⟩ := fuel hf
      rw [X11_falls_l44, if_neg (show ¬ (8 : Int32) ≤ nI b from nI_ge (b := 8) (by omega) (by decide)), if_neg (nI_in (by omega) (by decide)), sq_eq, nI_clamp (by omega), nI_1]
      refine ih (b + 1) fu _ (by omega) (by omega) (fun k hk => by rw [wi_k _ _ hk]; exact fk k hk) (fun i hi => ?_)
      by_cases y : i = b
      · subst y; exact wi_s _ _ _ _
      · rw [show (237 + 18 : Nat) = 255 from rfl, wi_j _ _ y]; exact fl i (by omega)
  have l17 : ∀ (g : HS), RH g q D → ∀ (r s fu : Nat) (h' : HS), s + r = D 2 → r < fu → (∀ k, k ≠ 253 → h'.1 k = g.1 k) → (∀ t, t < s → h'.1 253 t = nI (brF D t)) → ∃ h2, X11_falls_l17 N fu h' 237 (nI s) = some h2 ∧ (∀ k, k ≠ 253 → k ≠ 255 → h2.1 k = g.1 k) ∧ (∀ t, t < D 2 → h2.1 253 t = nI (brF D t)) ∧ ∀ i, i < 8 → h2.1 255 i = -1 := by
    intro g g1 r
    induction r with
    | zero =>
      intro s fu h' e hf fk fl
      obtain ⟨fu, rfl, _⟩ := fuel hf
      have rh' : RH h' q D := RH_n (fk 238 (by decide)) (fun j _ _ => congrFun (fk 237 (by decide)) j) g1
      rw [X11_falls_l17, rh2 rh', if_pos (nI_le (by omega) (by omega))]
      obtain ⟨h2, a1, a2, a3⟩ := l44 h' 8 0 N h' (by omega) (by omega) (fun _ _ => rfl) (fun i hi => by omega)
      exact ⟨h2, a1, fun k k1 k2 => by rw [a2 k k2, fk k k1], fun t ht => by rw [a2 253 (by decide)]; exact fl t (by omega), a3⟩
    | succ r ih =>
      intro s fu h' e hf fk fl
      obtain ⟨fu, rfl, _⟩ := fuel hf
      have rh' : RH h' q D := RH_n (fk 238 (by decide)) (fun j _ _ => congrFun (fk 237 (by decide)) j) g1
      rw [X11_falls_l17, rh2 rh', if_neg (nI_ge (by omega) (by omega)), r_breathOf rh' (by omega), bd1_some, if_neg (nI_in (by omega) (by decide)), sq_eq, nI_clamp (by omega), nI_1]
      refine ih (s + 1) fu _ (by omega) (by omega) (fun k hk => by rw [wi_k _ _ hk]; exact fk k hk) (fun t ht => ?_)
      by_cases y : t = s
      · subst y; exact wi_s _ _ _ _
      · rw [show (237 + 16 : Nat) = 253 from rfl, wi_j _ _ y]; exact fl t (by omega)
  unfold X11_falls
  rw [sq_eq, sq_eq, sq_eq]
  generalize hg : wi (wi (wi h 237 34 0) 237 35 0) 237 40 0 = g
  have kg : ∀ k, k ≠ 237 → g.1 k = h.1 k := fun k hk => by rw [← hg, wi_k _ _ hk, wi_k _ _ hk, wi_k _ _ hk]
  have jg : ∀ j, j ≠ 34 → j ≠ 35 → j ≠ 40 → g.1 237 j = h.1 237 j := fun j a1 a2 a3 => by rw [← hg, wi_j _ _ a3, wi_j _ _ a2, wi_j _ _ a1]
  have g4 : g.1 237 34 = 0 := by rw [← hg]; rfl
  have g5 : g.1 237 35 = 0 := by rw [← hg]; rfl
  have g0 : g.1 237 40 = 0 := by rw [← hg]; rfl
  obtain ⟨h2, a1, a2, a3, a4⟩ := l17 g (RH_n (kg 238 (by decide)) (fun j a1 a2 => jg j (by omega) (by omega) (by omega)) c) (D 2) 0 N g (by omega) (by omega) (fun _ _ => rfl) (fun t ht => by omega)
  have z := a2 237 (by decide) (by decide)
  exact ⟨h2, a1, fun k k1 k2 k3 => by rw [a2 k k2 k3, kg k k1], fun j b1 b2 b3 => by rw [z]; exact jg j b1 b2 b3, by rw [z]; exact g4, by rw [z]; exact g5, by rw [z]; exact g0, a3, a4⟩
/-- the state behind a night -/
def woN (S : NS) (m : Nat) : Option (Nat × Nat) := match S.2.2.2.2.1 with | none => some (S.1 0, m) | some (n0, m0) => if m ≤ m0 then some (n0, m0) else some (S.1 0, m)
abbrev niE (D : Nat → Nat) (S : NS) : Nat := awE D (S.1 1) (S.1 2)
abbrev niS (D : Nat → Nat) (S : NS) : NS := (st (st (st (st (st (st (st (st S.1 0 (S.1 0 + 1)) 1 0) 2 0) 3 (S.1 3 + pN D (niE D S))) 4 (S.1 4 + rN D (niE D S))) 7 0) 8 (S.1 8 + (if pN D (niE D S) = 0 then 1 else 0))) 9 (S.1 9 + 1), brF D, S.2.2.1, none, woN S (pN D (niE D S)), S.2.2.2.2.2)
theorem w_night (k : HK D) (w : WS D S) (h9 : S.1 9 < 100) (hn : S.1 0 < 99) : WS D (niS D S) := by
  obtain ⟨w1, w2, w3, w4, w5, w6, w7, w8, w9, w10, w11, w12, w13, w14⟩ := w
  have hp := pN_le k (niE D S)
  refine ⟨by show S.1 0 + 1 ≤ 99; omega, Nat.zero_le _, by show 0 < 64; omega, by show S.1 5 ≤ S.1 9 + 1; omega, w5, by show 0 < 64; omega, by show S.1 9 + 1 ≤ 100; omega, fun s hs => (hkS k hs).2.2.2.2, fun s hs => ?_, fun _ => rfl, fun b o h => (by cases h), ?_, w13, w14⟩
  · have := w9 s hs
    show S.2.2.1 s ≤ S.1 9 + 1
    omega
  · intro n m hnm
    have hnm2 : woN S (pN D (niE D S)) = some (n, m) := hnm
    unfold woN at hnm2
    cases hw : S.2.2.2.2.1 with
    | none => rw [hw] at hnm2; cases hnm2; omega
    | some nm =>
      obtain ⟨n0, m0⟩ := nm
      have := w12 n0 m0 hw
      rw [hw] at hnm2
      simp only at hnm2
      by_cases z : pN D (niE D S) ≤ m0
      · rw [if_pos z] at hnm2; cases hnm2; exact this
      · rw [if_neg z] at hnm2; cases hnm2; omega
theorem c_night (c : CNs h p D S) (w : WS D S) (hN : 100 ≤ N) (hn : S.1 0 < 99) (v : Int32) : ∃ h', X3_does N h 185 4 v = some (1, h') ∧ CNs h' p D (niS D S) ∧ CNf h h' := by
  obtain ⟨d1, d2, d3, d4, d5, d6, d7, d8, d9, d10, d11, d12, d13, d14, d15, d16, d17, d18, d19⟩ := c
  have hk := hk0 d2.2.1
  obtain ⟨w1, w2, w3, w4, w5, w6, w7, w8, w9, w10, w11, w12, w13, w14⟩ := w
  have may : X3_may N h 185 4 v = some 1 := by
    unfold X3_may
    rw [if_neg (by decide), if_neg (by decide), if_neg (by decide), if_neg (by decide), d3, if_neg (show ¬ (99 : Int32) ≤ nI (S.1 0) from nI_ge (b := 99) hn (by decide))]
    rfl
  have l18 : ∀ (r b fu : Nat) (h' : HS) (u : Nat), b + r = 8 → r < fu → h'.2 = h.2 → (∀ k, k ≠ 185 → h'.1 k = h.1 k) → (∀ j, j ≠ 3 → h'.1 185 j = h.1 185 j) → h'.1 185 3 = nI u →
      ∃ h2 k, X3_endNight_l18 N fu h' 185 (nI b) = X3_endNight_l18 N (k + 1) h2 185 (nI 8) ∧ h2.2 = h.2 ∧ (∀ k, k ≠ 185 → h2.1 k = h.1 k) ∧ (∀ j, j ≠ 3 → h2.1 185 j = h.1 185 j) ∧ h2.1 185 3 = nI (zl (aw D) r b u) := by
    intro r
    induction r with
    | zero =>
      intro b fu h' u e hf f2 fk fj f3
      obtain ⟨fu, rfl, _⟩ := fuel hf
      exact ⟨h', fu, by rw [show b = 8 by omega], f2, fk, fj, f3⟩
    | succ r ih =>
      intro b fu h' u e hf f2 fk fj f3
      obtain ⟨fu, rfl, _⟩ := fuel hf
      have kh : KH h' p D := KH_n (fun k hk => fk k (by omega)) d2
      rw [X3_endNight_l18, if_neg (show ¬ (8 : Int32) ≤ nI b from nI_ge (b := 8) (by omega) (by decide)), f2, d1, c_sounds kh (by omega), bd1_some, nI_1]
      simp only [zl]
      by_cases z : zsn D b
      · rw [nB_t z, if_neg one0, at_in kh.1.2.2.2.2.1 (by decide) (by omega), bd1_some, chGr kh z.1, c_from kh, bd1_some, (fN_e d2.2.1 z.1).1, sq_eq, f3, nx_or, show aw D b u = u ||| fN D b from if_pos z]
        exact ih (b + 1) fu _ _ (by omega) (by omega) f2 (fun k hk => by rw [wi_k _ _ hk]; exact fk k hk) (fun j hj => by rw [wi_j _ _ hj]; exact fj j hj) (wi_s _ _ _ _)
      · rw [nB_f z, if_pos rfl, show aw D b u = u from if_neg z]
        exact ih (b + 1) fu h' u (by omega) (by omega) f2 fk fj f3
  have start : ∃ h2 k, X3_endNight N h 185 = X3_endNight_l18 N (k + 1) h2 185 (nI 8) ∧ h2.2 = h.2 ∧ (∀ k, k ≠ 185 → h2.1 k = h.1 k) ∧ (∀ j, j ≠ 3 → h2.1 185 j = h.1 185 j) ∧ h2.1 185 3 = nI (niE D S) := by
    unfold X3_endNight
    rw [d4]
    cases hx : nx D (S.1 1) with
    | none =>
      rw [if_pos (show oI none = -1 from rfl)]
      obtain ⟨M, hM, _⟩ := fuel (show 0 < N by omega)
      refine ⟨h, M, ?_, rfl, fun _ _ => rfl, fun _ _ => rfl, ?_⟩
      · rw [← hM]; rfl
      · rw [niE, awE_none hx]; exact d5
    | some b =>
      obtain ⟨n1, n2, _⟩ := nx_some hx
      have hb := n2.1
      rw [if_neg (show ¬ oI (some b) = -1 from nI_m1 (by omega))]
      obtain ⟨h2, k, a1, a2, a3, a4, a5⟩ := l18 (8 - b) b N h (S.1 2) (by omega) (by omega) rfl (fun _ _ => rfl) (fun _ _ => rfl) d5
      refine ⟨h2, k, a1, a2, a3, a4, ?_⟩
      rw [a5, niE, awE_some hx]
      rw [show 8 - b = (D 1 - b) + (8 - D 1) by omega, zl_add, zl_id (8 - D 1) _ _ (fun j j1 j2 v => if_neg (fun z => by have := z.1; omega))]
  have hE : niE D S < 64 := aw_lt d2.2.1 _ _ _ w3
  have hP := pN_le d2.2.1 (niE D S)
  obtain ⟨h2, k, a1, a2, a3, a4, a5⟩ := start
  have kh2 : KH h2 p D := KH_n (fun k hk => a3 k (by omega)) d2
  unfold X3_does
  rw [may, bd1_some, if_neg one0, if_neg (by decide), if_neg (by decide), if_neg (by decide), if_neg (by decide), a1, X3_endNight_l18, if_pos (show (8 : Int32) ≤ nI 8 by decide), a2, d1, a5, c_peopleOf kh2 hN, pN_e d2.2.1 (by omega), bd1_some, sq_eq, show (wi h2 185 4 (h2.1 185 4 + nI (pN D (niE D S)))).2 185 = p by rw [wi_2, a2]; exact d1, show (wi h2 185 4 (h2.1 185 4 + nI (pN D (niE D S)))).1 185 3 = nI (niE D S) by rw [wi_j _ _ (by decide)]; exact a5, c_rentsOf (KH_n (fun k hk => wi_k _ _ (by omega)) kh2) hN, rN_e d2.2.1 hE, bd1_some, sq_eq, a4 4 (by decide), d6, nI_add, show (wi h2 185 4 (nI (S.1 3 + pN D (niE D S)))).1 185 5 = nI (S.1 4) by rw [wi_j _ _ (by decide), a4 5 (by decide)]; exact d7, nI_add]
  generalize hh3 : wi (wi h2 185 4 (nI (S.1 3 + pN D (niE D S)))) 185 5 (nI (S.1 4 + rN D (niE D S))) = h3
  have k3 : ∀ k, k ≠ 185 → h3.1 k = h.1 k := fun k hk => by rw [← hh3, wi_k _ _ hk, wi_k _ _ hk]; exact a3 k hk
  have j3 : ∀ j, j ≠ 3 → j ≠ 4 → j ≠ 5 → h3.1 185 j = h.1 185 j := fun j b1 b2 b3 => by rw [← hh3, wi_j _ _ b3, wi_j _ _ b2]; exact a4 j b1
  have e34 : h3.1 185 4 = nI (S.1 3 + pN D (niE D S)) := by rw [← hh3]; rfl
  have e35 : h3.1 185 5 = nI (S.1 4 + rN D (niE D S)) := by rw [← hh3]; rfl
  have s3 : h3.2 185 = p := by rw [← hh3, wi_2, wi_2, a2]; exact d1
  have fin : ∀ (g : HS) (wo : Option (Nat × Nat)), g.2 185 = p → (∀ k, k ≠ 185 → g.1 k = h.1 k) → (∀ j, j ≠ 1 → j ≠ 3 → j ≠ 15 → j ≠ 17 → j ≠ 18 → g.1 185 j = h3.1 185 j) → g.1 185 1 = nI (S.1 0 + 1) → (∀ n m, wo = some (n, m) → g.1 185 15 = nI m) → g.1 185 17 = wn wo → g.1 185 18 = nI (S.1 8 + (if pN D (niE D S) = 0 then 1 else 0)) → wo = woN S (pN D (niE D S)) →
      ∃ h', (bd1 (bd1 (X3_beginNight N g 185) fun h21 => some h21) fun h32 => sq (wi h32 185 14 (h32.1 185 14 + 1)) fun h33 => some (nz 1, h33)) = some (1, h') ∧ CNs h' p D (niS D S) ∧ CNf h h' := by
    intro g wo g1 g2 g3 g4 g5 g6 g7 g8
    obtain ⟨h4, b1, b2, b3, b4, b5, b6, b7, b8, b9, b10⟩ := c_begin (N := N) g1 (KH_n (fun k hk => g2 k (by omega)) d2) hN
    rw [b1, bd1_some, bd1_some, sq_eq, nz_1]
    have jj : ∀ j, j ≠ 1 → j ≠ 2 → j ≠ 3 → j ≠ 4 → j ≠ 5 → j ≠ 8 → j ≠ 9 → j ≠ 10 → j ≠ 15 → j ≠ 17 → j ≠ 18 → h4.1 185 j = h.1 185 j := fun j c1 c2 c3 c4 c5 c8 c9 c10 c15 c17 c18 => by
      rw [b4 j c2 c3 c8 c9 c10, g3 j c1 c3 c15 c17 c18, j3 j c3 c4 c5]
    refine ⟨_, rfl, ⟨by rw [wi_2, b2]; exact g1, KH_n (fun k hk => by rw [wi_k _ _ (by omega), b3 k (by omega) (by omega), g2 k (by omega)]) d2, ?_, b5, b6, ?_, ?_, ?_, ?_, b7, b8, b9, b10, ?_, ?_, ?_, ?_, ?_, ?_⟩, ?_, ?_⟩
    · exact (b4 1 (by decide) (by decide) (by decide) (by decide) (by decide)).trans g4
    · exact (b4 4 (by decide) (by decide) (by decide) (by decide) (by decide)).trans ((g3 4 (by decide) (by decide) (by decide) (by decide) (by decide)).trans e34)
    · exact (b4 5 (by decide) (by decide) (by decide) (by decide) (by decide)).trans ((g3 5 (by decide) (by decide) (by decide) (by decide) (by decide)).trans e35)
    · exact (jj 6 (by decide) (by decide) (by decide) (by decide) (by decide) (by decide) (by decide) (by decide) (by decide) (by decide) (by decide)).trans d8
    · exact (jj 7 (by decide) (by decide) (by decide) (by decide) (by decide) (by decide) (by decide) (by decide) (by decide) (by decide) (by decide)).trans d9
    · intro s hs
      rw [wi_k _ _ (by decide), b3 197 (by decide) (by decide), g2 197 (by decide)]; exact d14 s hs
    · show h4.1 185 14 + 1 = nI (S.1 9 + 1)
      rw [jj 14 (by decide) (by decide) (by decide) (by decide) (by decide) (by decide) (by decide) (by decide) (by decide) (by decide) (by decide), d15, nI_1]
    · intro n m hnm
      have hnm2 : woN S (pN D (niE D S)) = some (n, m) := hnm
      rw [← g8] at hnm2
      exact (b4 15 (by decide) (by decide) (by decide) (by decide) (by decide)).trans (g5 n m hnm2)
    · exact (jj 16 (by decide) (by decide) (by decide) (by decide) (by decide) (by decide) (by decide) (by decide) (by decide) (by decide) (by decide)).trans d17
    · show h4.1 185 17 = wn (woN S (pN D (niE D S)))
      rw [← g8, b4 17 (by decide) (by decide) (by decide) (by decide) (by decide)]; exact g6
    · exact (b4 18 (by decide) (by decide) (by decide) (by decide) (by decide)).trans g7
    · intro k c1 c2 c3
      rw [wi_k _ _ c1, b3 k c1 c2, g2 k c1]
    · exact (jj 13 (by decide) (by decide) (by decide) (by decide) (by decide) (by decide) (by decide) (by decide) (by decide) (by decide) (by decide))
  have b126 : ∀ u : Nat, u = (if pN D (niE D S) = 0 then 1 else 0) → ∃ h', (bd1 (X3_endNight_b126 N h3 185 (nI (pN D (niE D S))) (nI u) (h3.1 185 18) 185) fun h32 => sq (wi h32 185 14 (h32.1 185 14 + 1)) fun h33 => some (nz 1, h33)) = some (1, h') ∧ CNs h' p D (niS D S) ∧ CNf h h' := by
    intro u hu
    unfold X3_endNight_b126
    rw [sq_eq, j3 18 (by decide) (by decide) (by decide), d19, nI_add, hu]
    generalize hh4 : wi h3 185 18 (nI (S.1 8 + (if pN D (niE D S) = 0 then 1 else 0))) = h4
    have k4 : ∀ k, k ≠ 185 → h4.1 k = h.1 k := fun k hk => by rw [← hh4, wi_k _ _ hk]; exact k3 k hk
    have j4 : ∀ j, j ≠ 18 → h4.1 185 j = h3.1 185 j := fun j hj => by rw [← hh4, wi_j _ _ hj]
    have e48 : h4.1 185 18 = nI (S.1 8 + (if pN D (niE D S) = 0 then 1 else 0)) := by rw [← hh4]; exact wi_s _ _ _ _
    have s4 : h4.2 185 = p := by rw [← hh4]; exact s3
    have e41 : h4.1 185 1 = nI (S.1 0) := by rw [j4 1 (by decide), j3 1 (by decide) (by decide) (by decide)]; exact d3
    have e417 : h4.1 185 17 = wn S.2.2.2.2.1 := by rw [j4 17 (by decide), j3 17 (by decide) (by decide) (by decide)]; exact d18
    have upd : woN S (pN D (niE D S)) = some (S.1 0, pN D (niE D S)) → ∃ h', (bd1 (sq (wi h4 185 17 (h4.1 185 1)) fun h16 => sq (wi h16 185 15 (nI (pN D (niE D S)))) fun h17 => sq (wi h17 185 1 ((h17.1 185 1) + 1)) fun h18 => bd1 (X3_beginNight N h18 185) fun h21 => some h21) fun h32 => sq (wi h32 185 14 (h32.1 185 14 + 1)) fun h33 => some (nz 1, h33)) = some (1, h') ∧ CNs h' p D (niS D S) ∧ CNf h h' := by
      intro hwo
      rw [sq_eq, sq_eq, sq_eq, e41, show (wi (wi h4 185 17 (nI (S.1 0))) 185 15 (nI (pN D (niE D S)))).1 185 1 = nI (S.1 0) by rw [wi_j _ _ (by decide), wi_j _ _ (by decide)]; exact e41, nI_1]
      refine fin _ (some (S.1 0, pN D (niE D S))) s4 (fun k hk => by rw [wi_k _ _ hk, wi_k _ _ hk, wi_k _ _ hk]; exact k4 k hk) (fun j b1 _ b3 b4 b5 => by rw [wi_j _ _ b1, wi_j _ _ b3, wi_j _ _ b4]; exact j4 j b5) (wi_s _ _ _ _) (fun n m hnm => by cases hnm; rw [wi_j _ _ (by decide)]; exact wi_s _ _ _ _) (by rw [wi_j _ _ (by decide), wi_j _ _ (by decide)]; exact wi_s _ _ _ _) (by rw [wi_j _ _ (by decide), wi_j _ _ (by decide), wi_j _ _ (by decide)]; exact e48) hwo.symm
    rw [e417]
    cases hw : S.2.2.2.2.1 with
    | none =>
      rw [if_pos (show wn none = -1 from rfl)]
      exact upd (by unfold woN; rw [hw])
    | some nm =>
      obtain ⟨n0, m0⟩ := nm
      have hb := w12 n0 m0 hw
      have e415 : h4.1 185 15 = nI m0 := by rw [j4 15 (by decide), j3 15 (by decide) (by decide) (by decide)]; exact d16 n0 m0 hw
      rw [if_neg (show ¬ wn (some (n0, m0)) = -1 from nI_m1 (by omega)), e415]
      by_cases z : pN D (niE D S) ≤ m0
      · rw [if_pos (nI_le z (by omega)), sq_eq, e41, nI_1]
        refine fin _ (some (n0, m0)) s4 (fun k hk => by rw [wi_k _ _ hk]; exact k4 k hk) (fun j b1 _ _ _ b5 => by rw [wi_j _ _ b1]; exact j4 j b5) (wi_s _ _ _ _) (fun n m hnm => by cases hnm; rw [wi_j _ _ (by decide)]; exact e415) (by rw [wi_j _ _ (by decide), e417, hw]) (by rw [wi_j _ _ (by decide)]; exact e48) (by unfold woN; rw [hw]; simp only; rw [if_pos z])
      · rw [if_neg (nI_ge (by omega) (by omega))]
        exact upd (by unfold woN; rw [hw]; simp only; rw [if_neg z])
  by_cases z : pN D (niE D S) = 0
  · rw [if_pos (by rw [z]; rfl)]
    exact b126 1 (by rw [if_pos z])
  · rw [if_neg (nI_ne0 (by omega) (by omega))]
    exact b126 0 (by rw [if_neg z])
end END
