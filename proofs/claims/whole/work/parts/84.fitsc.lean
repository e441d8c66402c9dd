/-! ===== level 2: fits and odds ===== -/
theorem dawns_00 {N : Nat} {h : HS} {pm : Nat} : X10_dawns N h 1 0 pm = some (0, h) := by
  unfold X10_dawns
  rw [if_pos rfl]
  by_cases z : pm = 0
  · rw [if_pos z]; rfl
  · rw [if_neg z]; rfl
theorem dawns_p0 {N : Nat} {h : HS} {p : Nat} (hp : p ≠ 0) : X10_dawns N h 1 p 0 = some (0, h) := by
  unfold X10_dawns
  rw [if_neg hp, if_pos rfl]; rfl
/-- what fits() says of who fits -/
def fiV (F : Nat) (Q d : Int32) : Int32 := if d = 0 then nI (cnt10 F) else if d = 1 then (if cnt10 F = 1 then nI (fst6 F 6 0) else -1) else if d = 2 then Q else if (10 : Int32) ≤ d then (match kb F (d - 10).toNatClampNeg 6 0 0 with | none => -2 | some s => nI s) else -2
theorem r_fits129 {N : Nat} {h : HS} {F : Nat} (hN : 100 ≤ N) (so : ∀ s, s < 6 → X11_isSo N h 237 (nI s) = some (nB (F.testBit s = true))) (d : Int32) {k : Nat} (hk : k < 2 ^ 31) (hd : d - 10 = nI k) : X11_fits_l129 N N h 237 d 0 0 = some ((match kb F k 6 0 0 with | none => -2 | some s => nI s), h) := by
  have key : ∀ (r i fu seen : Nat), i + r = 6 → r < fu → seen ≤ i → X11_fits_l129 N fu h 237 d (nI seen) (nI i) = some ((match kb F k r i seen with | none => -2 | some s => nI s), h) := by
    intro r
    induction r with
    | zero =>
      intro i fu seen e hf hs
      obtain ⟨fu, rfl, _⟩ := fuel hf
      rw [X11_fits_l129, if_pos (show (6 : Int32) ≤ nI i from nI_le (a := 6) (by omega) (by omega))]
      rfl
    | succ r ih =>
      intro i fu seen e hf hs
      obtain ⟨fu, rfl, _⟩ := fuel hf
      rw [X11_fits_l129, if_neg (show ¬ (6 : Int32) ≤ nI i from nI_ge (b := 6) (by omega) (by decide)), so i (by omega), bd1_some, kb, hd, nI_1, nI_1]
      simp only [nB_0]
      by_cases z : F.testBit i = true
      · rw [if_neg (fun w => w z), if_pos z]
        by_cases y : seen = k
        · rw [if_pos (by rw [y]), if_pos y]
        · rw [if_neg (fun w => y ((nI_eq (by omega) hk).mp w)), if_neg y]
          exact ih (i + 1) fu (seen + 1) (by omega) (by omega) (by omega)
      · rw [if_pos z, if_neg z]
        exact ih (i + 1) fu seen (by omega) (by omega) (by omega)
  exact key 6 0 N 0 (by omega) (by omega) (by omega)
theorem r_fits49 {N : Nat} {h : HS} {F : Nat} (hN : 100 ≤ N) (so : ∀ s, s < 6 → X11_isSo N h 237 (nI s) = some (nB (F.testBit s = true))) (d v : Int32) : X11_fits_l49 N N h 237 d v 0 = X11_fits_b71 N h 237 d v (nI (fst6 F 6 0)) := by
  have key : ∀ (r i fu : Nat), i + r = 6 → r < fu → X11_fits_l49 N fu h 237 d v (nI i) = X11_fits_b71 N h 237 d v (nI (fst6 F r i)) := by
    intro r
    induction r with
    | zero =>
      intro i fu e hf
      obtain ⟨fu, rfl, _⟩ := fuel hf
      rw [X11_fits_l49, if_pos (show (6 : Int32) ≤ nI i from nI_le (a := 6) (by omega) (by omega))]
      rfl
    | succ r ih =>
      intro i fu e hf
      obtain ⟨fu, rfl, _⟩ := fuel hf
      rw [X11_fits_l49, if_neg (show ¬ (6 : Int32) ≤ nI i from nI_ge (b := 6) (by omega) (by decide)), so i (by omega), bd1_some, fst6, nI_1]
      simp only [nB_0]
      by_cases z : F.testBit i = true
      · rw [if_neg (fun w => w z), if_pos z]
      · rw [if_pos z, if_neg z]
        exact ih (i + 1) fu (by omega) (by omega)
  exact key 6 0 N (by omega) (by omega)
theorem sub10 {d : Int32} (h : (10 : Int32) ≤ d) : ∃ k, k < 2 ^ 31 ∧ d - 10 = nI k ∧ 0 ≤ d ∧ ¬ d < 0 ∧ ¬ d = 0 ∧ ¬ d = 1 ∧ ¬ d = 2 ∧ ¬ (3 ≤ d ∧ d ≤ 9) := by
  have h1 := Int32.le_iff_toInt_le.mp h
  have z10 : (10 : Int32).toInt = 10 := by decide
  have h2 := Int32.toInt_lt d
  have hn : ¬ d < 0 := fun w => by
    have := Int32.lt_iff_toInt_lt.mp w
    have z0 : (0 : Int32).toInt = 0 := by decide
    omega
  obtain ⟨j, hj, rfl⟩ := nI_of hn
  rw [nI_toInt hj] at h1
  have n : ∀ c, c < 10 → ¬ nI j = nI c := fun c hc e => by rw [nI_eq hj (by omega)] at e; omega
  refine ⟨j - 10, by omega, pk_sub (b := 10) (by omega), nI_pos' hj, hn, n 0 (by decide), n 1 (by decide), n 2 (by decide), fun w => ?_⟩
  have := (nI_leI (b := 9) hj (by decide)).mp w.2
  omega
theorem q_fits {N : Nat} {h : HS} (I : INV h) (hN : 1000000000 ≤ N) (a b d : Int32) : ∃ r h1 h2, X10_fits N h 1 a b d = some (r, h1) ∧ X11_fits N h1 237 a b d = some (r, h2) ∧ Same h h2 := by
  unfold X10_fits X11_fits
  rcases opn (N := N) I a with ⟨e1, e2⟩ | ⟨p, q, D, e1, hp, c, e2⟩
  · refine ⟨-2, h, h, ?_, by rw [e2 h (Same.refl h)]; rfl, Same.refl h⟩
    rw [e1, bd1_some, if_pos rfl]
    rcases opnM (N := N) I b with ⟨g1, _⟩ | ⟨pm, qm, m, K, V, g1, hpm, _⟩
    · rw [g1, bd1_some, if_pos rfl, dawns_00]; rfl
    · rw [g1, bd1_some, if_neg hpm, dawns_00]; rfl
  · rw [e1, bd1_some, if_neg hp]
    rcases opnM (N := N) I b with ⟨g1, g2⟩ | ⟨pm, qm, m, K, V, g1, hpm, cr, hq, em⟩
    · obtain ⟨h2, e3, rh, sm, _⟩ := e2 h (Same.refl h)
      refine ⟨-2, h, h2, ?_, ?_, sm⟩
      · rw [g1, bd1_some, if_pos rfl, dawns_p0 hp]; rfl
      · rw [e3, bd2_some, if_neg one0, g2 h2 sm]; rfl
    · have h8 : h.1 pm 0 = 8 := by
        have mo := I.2.2.1
        rcases morn_p g1 hpm with r | r
        · rw [r]; exact mo.2.2.1
        · rw [r]; exact mo.2.2.2
      obtain ⟨W, fc, hV⟩ := CR_FC cr h8
      rw [g1, bd1_some, if_neg hpm]
      obtain ⟨h1, h2, h3, h4, b1, b2, b3, r⟩ := dawn hN c hp fc hV e2 hq em
      rcases r with ⟨r1, r2⟩ | ⟨x, r1, r2, r3, r4, r5, r6, r7, r8⟩
      · refine ⟨-2, h1, h4, by rw [r1]; rfl, ?_, b3⟩
        rw [b1, bd2_some, if_neg one0, b2, bd2_some, if_neg one0, r2]; rfl
      · have hF : FT D x m K W < 64 := FT_lt x
        generalize FT D x m K W = F at hF r4 r7 r8
        have hcn := cnt10_lt F
        refine ⟨fiV F (if F = 0 then -1 else qV (zl (qs F (ddC D x)) (D 0) 0 none)) d, h1, h4, ?_, ?_, b3⟩
        · rw [r1, bd2_some, if_neg one0, show h1.1 (1 + 234) 1 = _ from r4, bc_e (by omega), bd1_some, bd1_some]
          unfold fiV
          by_cases y0 : d = 0
          · rw [if_pos y0, if_pos y0]
          rw [if_neg y0, if_neg y0]
          by_cases y1 : d = 1
          · rw [if_pos y1, if_pos y1]
            by_cases w : cnt10 F = 1
            · rw [if_pos (by rw [w]; rfl), if_pos w, show X10_bitAt N h1 (nI F) 0 = _ from c_bitAt (k := 0) (by omega) hF (by decide), bd1_some, fst_kb F hF w]
              rfl
            · rw [if_neg (show ¬ nI (cnt10 F) = 1 from fun v => w ((nI_eq (b := 1) (by omega) (by decide)).mp v)), if_neg w]
          rw [if_neg y1, if_neg y1]
          by_cases y2 : d = 2
          · rw [if_pos y2, if_pos y2, show X2_question N h1 (1 + 234) p = _ from c_question (by omega) r3 hF r4 r5, bd1_some]
          rw [if_neg y2, if_neg y2]
          by_cases y3 : (10 : Int32) ≤ d
          · obtain ⟨k, k1, k2, _⟩ := sub10 y3
            rw [if_pos y3, if_pos y3, k2, c_bitAt (by omega) hF k1, bd1_some, nI_clamp k1]
            cases hkb : kb F k 6 0 0 with
            | none => rfl
            | some s =>
              have := kb_lt _ _ _ _ hkb
              rw [show oI (some s) = nI s from rfl, if_neg (nI_m1 (by omega))]
          · rw [if_neg y3, if_neg y3]; rfl
        · rw [b1, bd2_some, if_neg one0, b2, bd2_some, if_neg one0, r2, bd2_some, if_neg one0, r_isIn, bd1_some, r_manyFit (by omega) hF r7, bd1_some, r_fits49 (by omega) r7]
          unfold X11_fits_b71 fiV
          by_cases y0 : d = 0
          · subst y0
            rw [if_neg (by decide), nB_f (by decide), if_pos rfl, if_pos rfl, if_pos rfl]
          by_cases y1 : d = 1
          · subst y1
            rw [if_neg (show ¬ (1 : Int32) < 0 by decide), nB_f (by decide), if_pos rfl, if_neg one0, if_neg one0, if_pos rfl, if_pos rfl]
            by_cases w : cnt10 F = 1
            · rw [if_pos (by rw [w]; rfl), if_pos w]
            · rw [if_neg (show ¬ nI (cnt10 F) = 1 from fun v => w ((nI_eq (b := 1) (by omega) (by decide)).mp v)), if_neg w]
          by_cases y2 : d = 2
          · subst y2
            rw [if_neg (by decide), nB_f (by decide), if_pos rfl, if_neg (by decide), if_neg (by decide), if_pos rfl, if_neg (by decide), if_neg (by decide), if_pos rfl, r_askOf (by omega) r6 hF r7 r8 (fun s hs => (r5 s hs).1)]
            rfl
          rw [if_neg y0, if_neg y1, if_neg y2, if_neg y0, if_neg y1, if_neg y2]
          by_cases y3 : (10 : Int32) ≤ d
          · obtain ⟨k, k1, k2, k3, k4, k5, k6, k7, k8⟩ := sub10 y3
            rw [if_neg k4, nB_f k8, if_pos rfl, if_pos y3, r_fits129 (by omega) r7 d k1 k2, k2, nI_clamp k1]
          · rw [if_neg y3]
            by_cases y4 : d < 0
            · rw [if_pos y4]
            · rw [if_neg y4]
              obtain ⟨j, hj, rfl⟩ := nI_of y4
              have j3 : 3 ≤ j := by
                have a0 : j ≠ 0 := fun e => y0 (by rw [e]; rfl)
                have a1 : j ≠ 1 := fun e => y1 (by rw [e]; rfl)
                have a2 : j ≠ 2 := fun e => y2 (by rw [e]; rfl)
                omega
              have j9 : j ≤ 9 := by
                by_cases w : j ≤ 9
                · exact w
                · exact absurd (nI_le (a := 10) (by omega) hj) y3
              rw [nB_t (show (3 : Int32) ≤ nI j ∧ nI j ≤ 9 from ⟨nI_le (a := 3) j3 hj, nI_le (b := 9) j9 (by decide)⟩), if_neg one0]
def odV (F s : Nat) (u : Int32) : Int64 := if F.testBit s = true then (if u = 0 then 1 else (nI (cnt10 F)).toInt64) else (if u = 0 then 0 else 1)
theorem c_oddb {N : Nat} {h : HS} {F s : Nat} (hF : F < 64) (hs : s < 6) (e : h.1 (1 + 234) 1 = nI F) (u : Int32) : (if (((h.1 (1 + 234) 1) >>> (nI s &&& 31)) &&& 1) = 0 then X10_odds_b83 N h 1 u 0 else X10_odds_b83 N h 1 u 1) = some (odV F s u, h) := by
  unfold X10_odds_b83 odV
  rw [e, bi_n (by omega) (by omega), bc_e (by omega), bd1_some]
  by_cases z : F.testBit s = true
  · rw [nB_t z, if_neg one0, if_pos z]
    by_cases y : u = 0
    · rw [if_pos y, if_pos y, if_neg one0]
    · rw [if_neg y, if_neg y, if_neg one0]
  · rw [nB_f z, if_pos rfl, if_neg z]
    by_cases y : u = 0
    · rw [if_pos y, if_pos y]; rfl
    · rw [if_neg y, if_neg y]; rfl
theorem r_oddb {N : Nat} {h : HS} {F s : Nat} (hN : 100 ≤ N) (hF : F < 64) (hs : s < 6) (so : ∀ s, s < 6 → X11_isSo N h 237 (nI s) = some (nB (F.testBit s = true))) (u : Int32) : X11_odds_b47 N h 237 (nI s) u = some (odV F s u, h) := by
  unfold X11_odds_b47 odV
  rw [so s hs, r_manyFit hN hF so, bd1_some, bd1_some]
  by_cases z : F.testBit s = true
  · rw [nB_t z, if_neg one0, if_pos z, bd1_some]
    by_cases y : u = 0
    · rw [if_pos y, if_pos y]; rfl
    · rw [if_neg y, if_neg y]
  · rw [nB_f z, if_pos rfl, if_neg z]
    by_cases y : u = 0
    · rw [if_pos y, if_pos y]; rfl
    · rw [if_neg y, if_neg y]
theorem q_odds {N : Nat} {h : HS} (I : INV h) (hN : 1000000000 ≤ N) (a b d u : Int32) : ∃ r h1 h2, X10_odds N h 1 a b d u = some (r, h1) ∧ X11_odds N h1 237 a b d u = some (r, h2) ∧ Same h h2 := by
  unfold X10_odds X11_odds
  rcases opn (N := N) I a with ⟨e1, e2⟩ | ⟨p, q, D, e1, hp, c, e2⟩
  · refine ⟨-1, h, h, ?_, by rw [e2 h (Same.refl h)]; rfl, Same.refl h⟩
    rw [e1, bd1_some, if_pos rfl]
    rcases opnM (N := N) I b with ⟨g1, _⟩ | ⟨pm, qm, m, K, V, g1, hpm, _⟩
    · rw [g1, bd1_some, if_pos rfl, dawns_00]; rfl
    · rw [g1, bd1_some, if_neg hpm, dawns_00]; rfl
  · rw [e1, bd1_some, if_neg hp]
    rcases opnM (N := N) I b with ⟨g1, g2⟩ | ⟨pm, qm, m, K, V, g1, hpm, cr, hq, em⟩
    · obtain ⟨h2, e3, rh, sm, _⟩ := e2 h (Same.refl h)
      refine ⟨-1, h, h2, ?_, ?_, sm⟩
      · rw [g1, bd1_some, if_pos rfl, dawns_p0 hp]; rfl
      · rw [e3, bd2_some, if_neg one0, g2 h2 sm]; rfl
    · have h8 : h.1 pm 0 = 8 := by
        have mo := I.2.2.1
        rcases morn_p g1 hpm with r | r
        · rw [r]; exact mo.2.2.1
        · rw [r]; exact mo.2.2.2
      obtain ⟨W, fc, hV⟩ := CR_FC cr h8
      rw [g1, bd1_some, if_neg hpm]
      obtain ⟨h1, h2, h3, h4, b1, b2, b3, r⟩ := dawn hN c hp fc hV e2 hq em
      rcases r with ⟨r1, r2⟩ | ⟨x, r1, r2, r3, r4, r5, r6, r7, r8⟩
      · refine ⟨-1, h1, h4, by rw [r1]; rfl, ?_, b3⟩
        rw [b1, bd2_some, if_neg one0, b2, bd2_some, if_neg one0, r2]; rfl
      · have hF : FT D x m K W < 64 := FT_lt x
        generalize FT D x m K W = F at hF r4 r7 r8
        have hcn := cnt10_lt F
        have hk := hk0 c.2.1
        by_cases hz : F = 0
        · refine ⟨-1, h1, h4, ?_, ?_, b3⟩
          · rw [r1, bd2_some, if_neg one0, show h1.1 (1 + 234) 1 = _ from r4, if_pos (by rw [hz]; rfl)]
          · rw [b1, bd2_some, if_neg one0, b2, bd2_some, if_neg one0, r2, bd2_some, if_neg one0, r_manyFit (by omega) hF r7, bd1_some, if_pos (by rw [(cnt_0 F hF).mpr hz]; rfl)]
        · have n1 : ¬ nI F = 0 := nI_ne0 (by omega) (by omega)
          have n2 : ¬ nI (cnt10 F) = 0 := nI_ne0 (by have : cnt10 F ≠ 0 := fun w => hz ((cnt_0 F hF).mp w); omega) (by omega)
          by_cases h5 : d = 5
          · subst h5
            refine ⟨odV F 5 u, h1, h4, ?_, ?_, b3⟩
            · rw [r1, bd2_some, if_neg one0, if_neg (show ¬ h1.1 (1 + 234) 1 = 0 by rw [show h1.1 (1 + 234) 1 = _ from r4]; exact n1), if_pos rfl]
              exact c_oddb hF (s := 5) (by decide) r4 u
            · rw [b1, bd2_some, if_neg one0, b2, bd2_some, if_neg one0, r2, bd2_some, if_neg one0, r_manyFit (by omega) hF r7, bd1_some, if_neg n2, if_pos rfl]
              exact r_oddb (s := 5) (by omega) hF (by decide) r7 u
          · by_cases hs : ∃ s, s < D 2 ∧ d = nI s
            · obtain ⟨s, hs, rfl⟩ := hs
              refine ⟨odV F s u, h1, h4, ?_, ?_, b3⟩
              · rw [r1, bd2_some, if_neg one0, if_neg (show ¬ h1.1 (1 + 234) 1 = 0 by rw [show h1.1 (1 + 234) 1 = _ from r4]; exact n1), if_neg h5, c_hasSinger r3 (by omega), bd1_some, nB_t hs, if_neg one0]
                exact c_oddb hF (by omega) r4 u
              · rw [b1, bd2_some, if_neg one0, b2, bd2_some, if_neg one0, r2, bd2_some, if_neg one0, r_manyFit (by omega) hF r7, bd1_some, if_neg n2, if_neg h5, r_isSinger r6 (by omega), bd1_some, nB_t hs, if_neg one0]
                exact r_oddb (by omega) hF (by omega) r7 u
            · have m1 : X1_hasSinger N h1 p d = some 0 := by
                rcases i_cases d with z | ⟨j, hj, rfl⟩
                · exact (c_neg z).2.2
                · rw [c_hasSinger r3 hj, nB_f (fun w => hs ⟨j, w, rfl⟩)]
              have m2 : X11_isSinger N h4 237 d = some 0 := by
                rcases i_cases d with z | ⟨j, hj, rfl⟩
                · exact (r_neg r6 z).2.2
                · rw [r_isSinger r6 hj, nB_f (fun w => hs ⟨j, w, rfl⟩)]
              refine ⟨-1, h1, h4, ?_, ?_, b3⟩
              · rw [r1, bd2_some, if_neg one0, if_neg (show ¬ h1.1 (1 + 234) 1 = 0 by rw [show h1.1 (1 + 234) 1 = _ from r4]; exact n1), if_neg h5, m1]
                rfl
              · rw [b1, bd2_some, if_neg one0, b2, bd2_some, if_neg one0, r2, bd2_some, if_neg one0, r_manyFit (by omega) hF r7, bd1_some, if_neg n2, if_neg h5, m2]
                rfl
