/-! ===== level 2: the reference's night ends ===== -/
section RNI
variable {N : Nat} {p q : Nat} {D : Nat → Nat} {S : NS} {h : HS}
theorem r_night (c : RNs h q D S) (w : WS D S) (hN : 100 ≤ N) (hn : S.1 0 < 99) (v : Int32) : ∃ h', X11_does N h 237 4 v = some (1, h') ∧ RNs h' q D (niS D S) ∧ RNf h h' := by
  obtain ⟨d1, d2, d3, d4, d5, d6, d7, d8, d9, d10, d11, d12, d13, d14, d15, d16⟩ := c
  have hk := hk0 d1.1
  obtain ⟨w1, w2, w3, w4, w5, w6, w7, w8, w9, w10, w11, w12, w13, w14⟩ := w
  have l16 : ∀ (r b fu : Nat) (h' : HS) (u : Nat), b + r = D 1 → r < fu → (∀ k, k ≠ 237 → h'.1 k = h.1 k) → (∀ j, j ≠ 35 → h'.1 237 j = h.1 237 j) → h'.1 237 35 = nI u →
      ∃ h2 k, X11_nightGoes_l16 N fu h' 237 (nI b) = X11_nightGoes_l16 N (k + 1) h2 237 (nI (D 1)) ∧ (∀ k, k ≠ 237 → h2.1 k = h.1 k) ∧ (∀ j, j ≠ 35 → h2.1 237 j = h.1 237 j) ∧ h2.1 237 35 = nI (zl (aw D) r b u) := by
    intro r
    induction r with
    | zero =>
      intro b fu h' u e hf fk fj f3
      obtain ⟨fu, rfl, _⟩ := fuel hf
      exact ⟨h', fu, by rw [show b = D 1 by omega], fk, fj, f3⟩
    | succ r ih =>
      intro b fu h' u e hf fk fj f3
      obtain ⟨fu, rfl, _⟩ := fuel hf
      have rh : RH h' q D := RH_n (fk 238 (by decide)) (fun j a1 a2 => fj j (by omega)) d1
      have hB := hkB d1.1 (show b < D 1 by omega)
      rw [X11_nightGoes_l16, rh1 rh, if_neg (nI_ge (by omega) (by omega)), r_noteOf rh (by omega), bd1_some, nI_1]
      rw [show zl (aw D) (r + 1) b u = zl (aw D) r (b + 1) (aw D b u) from rfl]
      by_cases z : D (17 + 4 * b) = 0
      · rw [z, if_pos (show nI 0 ≤ 0 by decide), show aw D b u = u from if_neg (fun y => y.2 z)]
        exact ih (b + 1) fu h' u (by omega) (by omega) fk fj f3
      · rw [if_neg (nI_nle (by omega) (by omega)), r_floorOf rh (by omega), bd1_some]
        unfold X11_wakesFrom
        rw [sq_eq, f3, rh0 rh, (fN_e d1.1 (show b < D 1 by omega)).2.1, nx_or, bd1_some, show aw D b u = u ||| fN D b from if_pos ⟨by omega, z⟩]
        exact ih (b + 1) fu _ _ (by omega) (by omega) (fun k hk => by rw [wi_k _ _ hk]; exact fk k hk) (fun j hj => by rw [wi_j _ _ hj]; exact fj j hj) (wi_s _ _ _ _)
  have hE : niE D S < 64 := aw_lt d1.1 _ _ _ w3
  have hP := pN_le d1.1 (niE D S)
  have fin : ∀ (g : HS) (wo : Option (Nat × Nat)), (∀ k, k ≠ 237 → g.1 k = h.1 k) → (∀ j, j ≠ 35 → j ≠ 36 → j ≠ 42 → j ≠ 43 → j ≠ 44 → g.1 237 j = h.1 237 j) → g.1 237 35 = nI (niE D S) → g.1 237 36 = nI (S.1 3 + pN D (niE D S)) → g.1 237 42 = wn wo → g.1 237 43 = wm wo → g.1 237 44 = nI (S.1 8 + (if pN D (niE D S) = 0 then 1 else 0)) → wo = woN S (pN D (niE D S)) →
      ∃ h', (bd2 (X11_nightGoes_l129 N N g 237 0) fun r26 h27 => some (nz r26, h27)) = some (1, h') ∧ RNs h' q D (niS D S) ∧ RNf h h' := by
    intro g wo g1 g2 g3 g4 g5 g6 g7 g8
    have l129 : ∀ (r f fu : Nat) (h' : HS) (a : Nat), f + r = D 0 → r < fu → (∀ k, k ≠ 237 → h'.1 k = g.1 k) → (∀ j, j ≠ 37 → h'.1 237 j = g.1 237 j) → h'.1 237 37 = nI a →
        ∃ h2 k, X11_nightGoes_l129 N fu h' 237 (nI f) = X11_nightGoes_l129 N (k + 1) h2 237 (nI (D 0)) ∧ (∀ k, k ≠ 237 → h2.1 k = g.1 k) ∧ (∀ j, j ≠ 37 → h2.1 237 j = g.1 237 j) ∧ h2.1 237 37 = nI (zl (fun f a => a + (1 - niE D S / 2 ^ f % 2) * D (5 + 2 * f)) r f a) := by
      intro r
      induction r with
      | zero =>
        intro f fu h' a e hf fk fj f3
        obtain ⟨fu, rfl, _⟩ := fuel hf
        exact ⟨h', fu, by rw [show f = D 0 by omega], fk, fj, f3⟩
      | succ r ih =>
        intro f fu h' a e hf fk fj f3
        obtain ⟨fu, rfl, _⟩ := fuel hf
        have rh : RH h' q D := RH_n ((fk 238 (by decide)).trans (g1 238 (by decide))) (fun j a1 a2 => (fj j (by omega)).trans (g2 j (by omega) (by omega) (by omega) (by omega) (by omega))) d1
        rw [show zl (fun f a => a + (1 - niE D S / 2 ^ f % 2) * D (5 + 2 * f)) (r + 1) f a = zl (fun f a => a + (1 - niE D S / 2 ^ f % 2) * D (5 + 2 * f)) r (f + 1) (a + (1 - niE D S / 2 ^ f % 2) * D (5 + 2 * f)) from rfl]
        rw [X11_nightGoes_l129, rh0 rh, if_neg (nI_ge (by omega) (by omega)), fj 35 (by decide), g3, bi_e (by omega) (by omega), nI_1, f3]
        rcases Nat.mod_two_eq_zero_or_one (niE D S / 2 ^ f) with z | z
        · rw [z, if_pos (show nI 0 = 0 from rfl), r_rentOf rh (by omega), bd1_some, sq_eq, nI_add, Nat.sub_zero, Nat.one_mul]
          exact ih (f + 1) fu _ _ (by omega) (by omega) (fun k hk => by rw [wi_k _ _ hk]; exact fk k hk) (fun j hj => by rw [wi_j _ _ hj]; exact fj j hj) (wi_s _ _ _ _)
        · rw [z, if_neg (show ¬ nI 1 = 0 by decide), sq_eq, show nI a + 0 = nI (a + 0) from nI_add a 0, Nat.sub_self, Nat.zero_mul]
          exact ih (f + 1) fu _ _ (by omega) (by omega) (fun k hk => by rw [wi_k _ _ hk]; exact fk k hk) (fun j hj => by rw [wi_j _ _ hj]; exact fj j hj) (wi_s _ _ _ _)
    obtain ⟨h2, k, a1, a2, a3, a4⟩ := l129 (D 0) 0 N g (S.1 4) (by omega) (by omega) (fun _ _ => rfl) (fun _ _ => rfl) ((g2 37 (by decide) (by decide) (by decide) (by decide) (by decide)).trans d6)
    have rh : RH h2 q D := RH_n ((a2 238 (by decide)).trans (g1 238 (by decide))) (fun j b1 b2 => (a3 j (by omega)).trans (g2 j (by omega) (by omega) (by omega) (by omega) (by omega))) d1
    rw [zl_plus (fun f => (1 - niE D S / 2 ^ f % 2) * D (5 + 2 * f))] at a4
    have e33 : h2.1 237 33 = nI (S.1 0) := (a3 33 (by decide)).trans ((g2 33 (by decide) (by decide) (by decide) (by decide) (by decide)).trans d2)
    rw [show X11_nightGoes_l129 N N g 237 0 = _ from a1, X11_nightGoes_l129, rh0 rh, if_pos (nI_le (Nat.le_refl _) (by omega)), sq_eq, e33, nI_1]
    obtain ⟨h4, b1, b2, b3, b4, b5, b6, b7, b8⟩ := r_falls (N := N) (h := wi h2 237 33 (nI (S.1 0 + 1))) (q := q) (D := D) (RH_n (wi_k _ _ (by decide)) (fun j c1 c2 => wi_j _ _ (by omega)) rh) hN
    rw [b1, bd1_some, bd2_some, nz_1, nz_1]
    have kk : ∀ k, k ≠ 237 → k ≠ 253 → k ≠ 255 → h4.1 k = h.1 k := fun k c1 c2 c3 => by rw [b2 k c1 c2 c3, wi_k _ _ c1, a2 k c1, g1 k c1]
    have jj : ∀ j, j ≠ 33 → j ≠ 34 → j ≠ 35 → j ≠ 37 → j ≠ 40 → h4.1 237 j = g.1 237 j := fun j c1 c2 c3 c4 c5 => by rw [b3 j c2 c3 c5, wi_j _ _ c1, a3 j c4]
    have jh : ∀ j, j ≠ 33 → j ≠ 34 → j ≠ 35 → j ≠ 36 → j ≠ 37 → j ≠ 40 → j ≠ 42 → j ≠ 43 → j ≠ 44 → h4.1 237 j = h.1 237 j := fun j c1 c2 c3 c4 c5 c6 c7 c8 c9 => (jj j c1 c2 c3 c5 c6).trans (g2 j c3 c4 c7 c8 c9)
    refine ⟨h4, rfl, ⟨RH_n (kk 238 (by decide) (by decide) (by decide)) (fun j c1 c2 => jh j (by omega) (by omega) (by omega) (by omega) (by omega) (by omega) (by omega) (by omega) (by omega)) d1, ?_, b4, b5, ?_, ?_, ?_, ?_, b6, b7, ?_, ?_, ?_, ?_, ?_, ?_⟩, ?_, ?_, ?_, ?_⟩
    · rw [b3 33 (by decide) (by decide) (by decide)]; exact wi_s _ _ _ _
    · exact (jj 36 (by decide) (by decide) (by decide) (by decide) (by decide)).trans g4
    · rw [b3 37 (by decide) (by decide) (by decide), wi_j _ _ (by decide)]; exact a4
    · exact (jh 38 (by decide) (by decide) (by decide) (by decide) (by decide) (by decide) (by decide) (by decide) (by decide)).trans d7
    · exact (jh 39 (by decide) (by decide) (by decide) (by decide) (by decide) (by decide) (by decide) (by decide) (by decide)).trans d8
    · intro s hs
      rw [kk 254 (by decide) (by decide) (by decide)]; exact d11 s hs
    · exact fun i _ hi => b8 i hi
    · exact fun b o hbo => (by cases hbo)
    · show h4.1 237 42 = wn (woN S (pN D (niE D S)))
      rw [← g8]; exact (jj 42 (by decide) (by decide) (by decide) (by decide) (by decide)).trans g5
    · show h4.1 237 43 = wm (woN S (pN D (niE D S)))
      rw [← g8]; exact (jj 43 (by decide) (by decide) (by decide) (by decide) (by decide)).trans g6
    · exact (jj 44 (by decide) (by decide) (by decide) (by decide) (by decide)).trans g7
    · exact fun k c1 c2 _ c4 => kk k c1 c2 c4
    · exact jh 32 (by decide) (by decide) (by decide) (by decide) (by decide) (by decide) (by decide) (by decide) (by decide)
    · exact jh 50 (by decide) (by decide) (by decide) (by decide) (by decide) (by decide) (by decide) (by decide) (by decide)
    · exact jh 41 (by decide) (by decide) (by decide) (by decide) (by decide) (by decide) (by decide) (by decide) (by decide)
  obtain ⟨h2, k, a1, a2, a3, a4⟩ := l16 (D 1 - S.1 1) (S.1 1) N h (S.1 2) (by omega) (by omega) (fun _ _ => rfl) (fun _ _ => rfl) d4
  have rh : RH h2 q D := RH_n (a2 238 (by decide)) (fun j b1 b2 => a3 j (by omega)) d1
  have a4' : h2.1 237 35 = nI (niE D S) := a4
  unfold X11_does
  rw [if_neg (by decide), if_neg (by decide), if_neg (by decide), if_neg (by decide)]
  unfold X11_nightGoes
  rw [d2, if_neg (fun e => by have := (nI_eq (a := S.1 0) (b := 99) (by omega) (by omega)).mp e; omega), d3, a1, X11_nightGoes_l16, rh1 rh, if_pos (nI_le (Nat.le_refl _) (by omega)), a4', r_peopleIn rh hN, pN_e d1.1 (by omega), bd1_some, sq_eq, a3 36 (by decide), d5, nI_add]
  generalize hh3 : wi h2 237 36 (nI (S.1 3 + pN D (niE D S))) = h3
  have k3 : ∀ k, k ≠ 237 → h3.1 k = h.1 k := fun k hk => by rw [← hh3, wi_k _ _ hk]; exact a2 k hk
  have j3 : ∀ j, j ≠ 35 → j ≠ 36 → h3.1 237 j = h.1 237 j := fun j b1 b2 => by rw [← hh3, wi_j _ _ b2]; exact a3 j b1
  have e35 : h3.1 237 35 = nI (niE D S) := by rw [← hh3, wi_j _ _ (by decide)]; exact a4'
  have e36 : h3.1 237 36 = nI (S.1 3 + pN D (niE D S)) := by rw [← hh3]; exact wi_s _ _ _ _
  have b80 : ∀ u : Nat, u = (if pN D (niE D S) = 0 then 1 else 0) → ∃ h', (bd2 (X11_nightGoes_b80 N h3 237 (nI (pN D (niE D S))) (nI u) (h3.1 237 44) 237) fun r26 h27 => some (nz r26, h27)) = some (1, h') ∧ RNs h' q D (niS D S) ∧ RNf h h' := by
    intro u hu
    unfold X11_nightGoes_b80
    rw [sq_eq, j3 44 (by decide) (by decide), d16, nI_add, hu]
    generalize hh4 : wi h3 237 44 (nI (S.1 8 + (if pN D (niE D S) = 0 then 1 else 0))) = h4
    have k4 : ∀ k, k ≠ 237 → h4.1 k = h.1 k := fun k hk => by rw [← hh4, wi_k _ _ hk]; exact k3 k hk
    have j4 : ∀ j, j ≠ 44 → h4.1 237 j = h3.1 237 j := fun j hj => by rw [← hh4, wi_j _ _ hj]
    have e44 : h4.1 237 44 = nI (S.1 8 + (if pN D (niE D S) = 0 then 1 else 0)) := by rw [← hh4]; exact wi_s _ _ _ _
    have e33 : h4.1 237 33 = nI (S.1 0) := by rw [j4 33 (by decide), j3 33 (by decide) (by decide)]; exact d2
    have e42 : h4.1 237 42 = wn S.2.2.2.2.1 := by rw [j4 42 (by decide), j3 42 (by decide) (by decide)]; exact d14
    have e43 : h4.1 237 43 = wm S.2.2.2.2.1 := by rw [j4 43 (by decide), j3 43 (by decide) (by decide)]; exact d15
    have new : woN S (pN D (niE D S)) = some (S.1 0, pN D (niE D S)) → ∃ h', (bd2 (X11_nightGoes_l129 N N (wi (wi h4 237 42 (nI (S.1 0))) 237 43 (nI (pN D (niE D S)))) 237 0) fun r26 h27 => some (nz r26, h27)) = some (1, h') ∧ RNs h' q D (niS D S) ∧ RNf h h' := by
      intro hwo
      refine fin _ (some (S.1 0, pN D (niE D S))) (fun k hk => by rw [wi_k _ _ hk, wi_k _ _ hk]; exact k4 k hk) (fun j b1 b2 b3 b4 b5 => by rw [wi_j _ _ b4, wi_j _ _ b3, j4 j b5]; exact j3 j b1 b2) ?_ ?_ ?_ ?_ ?_ hwo.symm
      · rw [wi_j _ _ (by decide), wi_j _ _ (by decide), j4 _ (by decide)]; exact e35
      · rw [wi_j _ _ (by decide), wi_j _ _ (by decide), j4 _ (by decide)]; exact e36
      · rw [wi_j _ _ (by decide)]; exact wi_s _ _ _ _
      · exact wi_s _ _ _ _
      · rw [wi_j _ _ (by decide), wi_j _ _ (by decide)]; exact e44
    rw [e43]
    cases hw : S.2.2.2.2.1 with
    | none =>
      have m1 : ¬ nI (pN D (niE D S)) ≤ wm none := by
        intro y
        exact nI_pos (show pN D (niE D S) < 2 ^ 31 by omega) (by rw [show wm none = -1 from rfl] at y; exact Int32.lt_of_le_of_lt y (by decide))
      rw [if_neg m1, sq_eq, e33, wi_j _ _ (by decide), e43, hw, if_neg m1, sq_eq]
      exact new (by unfold woN; rw [hw])
    | some nm =>
      obtain ⟨n0, m0⟩ := nm
      have hb := w12 n0 m0 hw
      rw [show wm (some (n0, m0)) = nI m0 from rfl]
      by_cases z : pN D (niE D S) ≤ m0
      · rw [if_pos (nI_le z (by omega)), sq_eq, wi_j _ _ (show (43 : Nat) ≠ 42 by decide), e43, hw, show wm (some (n0, m0)) = nI m0 from rfl, if_pos (nI_le z (by omega)), sq_eq]
        refine fin _ (some (n0, m0)) (fun k hk => by rw [wi_k _ _ hk, wi_k _ _ hk]; exact k4 k hk) (fun j b1 b2 b3 b4 b5 => by rw [wi_j _ _ b4, wi_j _ _ b3, j4 j b5]; exact j3 j b1 b2) ?_ ?_ ?_ ?_ ?_ (by unfold woN; rw [hw]; simp only; rw [if_pos z])
        · rw [wi_j _ _ (by decide), wi_j _ _ (by decide), j4 _ (by decide)]; exact e35
        · rw [wi_j _ _ (by decide), wi_j _ _ (by decide), j4 _ (by decide)]; exact e36
        · rw [wi_j _ _ (by decide), ← hw]
          exact (wi_s _ _ _ _).trans e42
        · exact wi_s _ _ _ _
        · rw [wi_j _ _ (by decide), wi_j _ _ (by decide)]; exact e44
      · rw [if_neg (nI_ge (by omega) (by omega)), sq_eq, e33, wi_j _ _ (show (43 : Nat) ≠ 42 by decide), e43, hw, show wm (some (n0, m0)) = nI m0 from rfl, if_neg (nI_ge (by omega) (by omega)), sq_eq]
        exact new (by unfold woN; rw [hw]; simp only; rw [if_neg z])
  by_cases z : pN D (niE D S) = 0
  · rw [if_pos (by rw [z]; rfl)]
    exact b80 1 (by rw [if_pos z])
  · rw [if_neg (nI_ne0 (by omega) (by omega))]
    exact b80 0 (by rw [if_neg z])
end RNI
