/-! ===== level 2: feed ===== -/
theorem by255 (x : Int32) : ((x.toInt8.toInt32).toInt8.toInt32) &&& 255 = x &&& 255 := by
  apply Int32.toBitVec_inj.mp
  rw [Int32.toBitVec_and, Int32.toBitVec_and, Int8.toBitVec_toInt32, Int32.toBitVec_toInt8, Int8.toBitVec_toInt32, Int32.toBitVec_toInt8]
  apply BitVec.eq_of_getLsbD_eq
  intro i hi
  rw [BitVec.getLsbD_and, BitVec.getLsbD_and]
  by_cases h8 : i < 8
  · have s1 : ∀ {w v : Nat} (x : BitVec w), i < v → i < w → (x.signExtend v).getLsbD i = x.getLsbD i := by
      intro w v x hv hw
      rw [BitVec.getLsbD_signExtend]
      simp [hv, hw]
    rw [s1 _ hi h8, s1 _ h8 hi, s1 _ hi h8, s1 _ h8 hi]
  · have : (255 : Int32).toBitVec.getLsbD i = false := by
      have hz : ∀ i, i < 32 → ¬ i < 8 → (255 : Int32).toBitVec.getLsbD i = false := by decide +kernel
      exact hz i hi h8
    rw [this, Bool.and_false, Bool.and_false]
abbrev fdW (a b c d e : Int32) (i : Nat) : Int32 := (if i < 4 then a else if i < 8 then b else if i < 12 then c else if i < 16 then d else e) >>> (nI (24 - 8 * (i % 4)) &&& 31)
def FdC (h0 h : HS) (z i : Nat) (W : Nat → Int32) : Prop := h.1 2 1 = nI (z + i) ∧ (∀ j, j < i → (h.1 3 (z + j)) &&& 255 = W j &&& 255) ∧ (∀ j, j < z → h.1 3 j = h0.1 3 j) ∧ (∀ j, j ≠ 1 → h.1 2 j = h0.1 2 j) ∧ (∀ k, k ≠ 2 → k ≠ 3 → h.1 k = h0.1 k)
theorem c_fput {N : Nat} {h0 h : HS} {z i : Nat} {W : Nat → Int32} (f : FdC h0 h z i W) (hN : 100 ≤ N) (hz : z + i + 4 ≤ 600) (v : Int32) (hW : ∀ j, j < 4 → W (i + j) = v >>> (nI (24 - 8 * j) &&& 31)) : ∃ h', X7_put N h 2 v = some h' ∧ FdC h0 h' z (i + 4) W := by
  have key : ∀ (r j fu : Nat) (h : HS), j + r = 4 → r < fu → FdC h0 h z (i + j) W → ∃ h', X7_put_l3 N fu h 2 v (nI (32 - 8 * j) + (-8)) = some h' ∧ FdC h0 h' z (i + 4) W := by
    intro r
    induction r with
    | zero =>
      intro j fu h e hf g
      obtain ⟨fu, rfl, _⟩ := fuel hf
      have ej : j = 4 := by omega
      subst ej
      rw [X7_put_l3, if_pos (by decide)]
      exact ⟨h, rfl, g⟩
    | succ r ih =>
      intro j fu h e hf g
      obtain ⟨fu, rfl, _⟩ := fuel hf
      obtain ⟨g1, g2, g3, g4, g5⟩ := g
      have e8 : nI (32 - 8 * j) + (-8) = nI (24 - 8 * j) := (by decide : ∀ j, j < 4 → nI (32 - 8 * j) + (-8) = nI (24 - 8 * j)) j (by omega)
      have en : nI (24 - 8 * j) + (-8) = nI (32 - 8 * (j + 1)) + (-8) := by rw [show 32 - 8 * (j + 1) = 24 - 8 * j by omega]
      rw [X7_put_l3, e8, if_neg (nI_pos (by omega)), g1, if_neg (nI_pos (by omega)), if_neg (show ¬ (600 : Int32) ≤ nI (z + (i + j)) from nI_ge (b := 600) (by omega) (by decide)), if_neg (nI_in (by omega) (by decide)), sq_eq, sq_eq, nI_clamp (by omega), en]
      rw [show (wi h (2 + 1) (z + (i + j)) ((v >>> (nI (24 - 8 * j) &&& 31)).toInt8.toInt32).toInt8.toInt32).1 2 1 = nI (z + (i + j)) from g1, nI_1]
      refine ih (j + 1) fu _ (by omega) (by omega) ⟨?_, ?_, ?_, ?_, ?_⟩
      · rw [wi_s]; congr 1
      · intro k hk
        rw [wi_k _ _ (by decide)]
        by_cases x : k = i + j
        · subst x
          rw [wi_s, by255, hW j (by omega)]
        · rw [wi_j _ _ (by omega)]
          exact g2 k (by omega)
      · intro k hk
        rw [wi_k _ _ (by decide), wi_j _ _ (by omega)]
        exact g3 k hk
      · intro k hk
        rw [wi_j _ _ hk, wi_k _ _ (by decide)]
        exact g4 k hk
      · intro k k1 k2
        rw [wi_k _ _ k1, wi_k _ _ k2]
        exact g5 k k1 k2
  unfold X7_put
  exact key 4 0 N h (by omega) (by omega) f
def FdR (h0 h : HS) (z i : Nat) (W : Nat → Int32) : Prop := h.1 238 4 = nI (z + i) ∧ (∀ j, j < i → h.1 238 (10 + (z + j)) = W j &&& 255) ∧ (∀ j, j ≠ 4 → (j < 10 + z ∨ 10 + z + 20 ≤ j) → h.1 238 j = h0.1 238 j) ∧ (∀ k, k ≠ 238 → h.1 k = h0.1 k)
theorem r_feed {N : Nat} {h0 : HS} {z : Nat} (hN : 100 ≤ N) (hz : z + 20 ≤ 600) (a b c d e : Int32) : ∀ (r i fu : Nat) (h : HS), i + r = 20 → r < fu → FdR h0 h z i (fdW a b c d e) → ∃ h', X11_feed_l20 N fu h 237 a b c d e (nI i) = some (nI (z + 20), h') ∧ FdR h0 h' z 20 (fdW a b c d e) := by
  intro r
  induction r with
  | zero =>
    intro i fu h ei hf g
    obtain ⟨fu, rfl, _⟩ := fuel hf
    have ei : i = 20 := by omega
    subst ei
    rw [X11_feed_l20, if_pos (show (20 : Int32) ≤ nI 20 by decide), if_neg (by decide)]
    exact ⟨h, by rw [show h.1 (237 + 1) (4 : Int32).toNatClampNeg = _ from g.1], g⟩
  | succ r ih =>
    intro i fu h ei hf g
    obtain ⟨fu, rfl, _⟩ := fuel hf
    obtain ⟨g1, g2, g3, g4⟩ := g
    have step : ∀ u : Int32, fdW a b c d e i = u >>> (nI (24 - 8 * (i % 4)) &&& 31) → ∃ h', X11_feed_b73 N h (X11_feed_l20 N fu) 237 a b c d e (nI i) u = some (nI (z + 20), h') ∧ FdR h0 h' z 20 (fdW a b c d e) := by
      intro u hu
      have e4 : nI i - nI i / 4 * 4 = nI (i % 4) := pk_rem (d := 4) (by omega) (by decide) (by decide)
      have e5 : (24 : Int32) - 8 * nI (i % 4) = nI (24 - 8 * (i % 4)) := (by decide : ∀ j, j < 4 → (24 : Int32) - 8 * nI j = nI (24 - 8 * j)) (i % 4) (by omega)
      have e6 : (10 : Int32) + nI (z + i) = nI (10 + (z + i)) := by rw [zn10, nI_add]
      unfold X11_feed_b73
      rw [if_neg (by decide), show h.1 (237 + 1) (4 : Int32).toNatClampNeg = _ from g1, e6, if_neg (nI_in (by omega) (by decide)), sq_eq, if_neg (by decide), sq_eq, if_neg (by decide), e4, e5, ← hu, nI_clamp (by omega), nI_1]
      rw [show (wi h (237 + 1) (10 + (z + i)) (fdW a b c d e i &&& 255)).1 (237 + 1) (4 : Int32).toNatClampNeg = nI (z + i) from (wi_j _ _ (by show 4 ≠ _; omega)).trans g1, nI_1]
      refine ih (i + 1) fu _ (by omega) (by omega) ⟨?_, ?_, ?_, ?_⟩
      · exact wi_s _ _ _ _
      · intro j hj
        rw [show (237 + 1 : Nat) = 238 from rfl, wi_j _ _ (by show _ ≠ 4; omega)]
        by_cases x : j = i
        · subst x
          rw [wi_s]
        · rw [wi_j _ _ (by omega)]
          exact g2 j (by omega)
      · intro j hj hj2
        rw [show (237 + 1 : Nat) = 238 from rfl, show (4 : Int32).toNatClampNeg = 4 from rfl, wi_j _ _ hj, wi_j _ _ (by omega)]
        exact g3 j hj hj2
      · intro k hk
        rw [wi_k _ _ hk, wi_k _ _ hk]
        exact g4 k hk
    have n20 : ¬ (20 : Int32) ≤ nI i := nI_ge (b := 20) (by omega) (by decide)
    rw [X11_feed_l20, if_neg n20]
    by_cases z4 : i < 4
    · rw [if_neg (show ¬ (4 : Int32) ≤ nI i from nI_ge (b := 4) (by omega) (by decide))]
      exact step a (by rw [fdW, if_pos z4])
    · rw [if_pos (show (4 : Int32) ≤ nI i from nI_le (a := 4) (by omega) (by omega))]
      by_cases z8 : i < 8
      · rw [if_neg (show ¬ (8 : Int32) ≤ nI i from nI_ge (b := 8) (by omega) (by decide))]
        exact step b (by rw [fdW, if_neg z4, if_pos z8])
      · rw [if_pos (show (8 : Int32) ≤ nI i from nI_le (a := 8) (by omega) (by omega))]
        by_cases z12 : i < 12
        · rw [if_neg (show ¬ (12 : Int32) ≤ nI i from nI_ge (b := 12) (by omega) (by decide))]
          exact step c (by rw [fdW, if_neg z4, if_neg z8, if_pos z12])
        · rw [if_pos (show (12 : Int32) ≤ nI i from nI_le (a := 12) (by omega) (by omega))]
          by_cases z16 : i < 16
          · rw [if_neg (show ¬ (16 : Int32) ≤ nI i from nI_ge (b := 16) (by omega) (by decide))]
            exact step d (by rw [fdW, if_neg z4, if_neg z8, if_neg z12, if_pos z16])
          · rw [if_pos (show (16 : Int32) ≤ nI i from nI_le (a := 16) (by omega) (by omega))]
            exact step e (by rw [fdW, if_neg z4, if_neg z8, if_neg z12, if_neg z16])
theorem q_feed {N : Nat} {h : HS} (I : INV h) (hN : 100 ≤ N) (a b d e f : Int32) : ∃ r h1 h2, X10_feed N h 1 a b d e f = some (r, h1) ∧ X11_feed N h1 237 a b d e f = some (r, h2) ∧ INV h2 ∧ (∀ k, k ≠ 2 → k ≠ 3 → k ≠ 238 → h2.1 k = h.1 k) := by
  have I0 := I
  obtain ⟨⟨c, t⟩, i2, i3, i4, i5⟩ := I
  obtain ⟨⟨z, hz, z1, z2, z3⟩, t2, t3, _⟩ := id t
  rw [Nat.zero_add] at z2 t2 t3
  have n20 : nI z + 20 = nI (z + 20) := by rw [zn20, nI_add]
  unfold X10_feed X11_feed
  rw [show h.1 (1 + 1) 1 = nI z from z1, n20]
  by_cases y : z + 20 ≤ 600
  · rw [if_pos (show nI (z + 20) ≤ 600 from nI_le (b := 600) y (by decide))]
    have f0 : FdC h h z 0 (fdW a b d e f) := ⟨z1, fun j hj => absurd hj (Nat.not_lt_zero _), fun _ _ => rfl, fun _ _ => rfl, fun _ _ _ => rfl⟩
    have hw : ∀ (i : Nat) (v : Int32), i % 4 = 0 → (∀ j, j < 4 → (if i + j < 4 then a else if i + j < 8 then b else if i + j < 12 then d else if i + j < 16 then e else f) = v) → ∀ j, j < 4 → fdW a b d e f (i + j) = v >>> (nI (24 - 8 * j) &&& 31) := by
      intro i v hi hv j hj
      rw [fdW, hv j hj, show (i + j) % 4 = j by omega]
    obtain ⟨h1, a1, f1⟩ := c_fput (N := N) f0 hN (by omega) a (hw 0 a rfl (fun j hj => by rw [if_pos (by omega)]))
    obtain ⟨h2, a2, f2⟩ := c_fput (N := N) f1 hN (by omega) b (hw 4 b rfl (fun j hj => by rw [if_neg (by omega), if_pos (by omega)]))
    obtain ⟨h3, a3, f3⟩ := c_fput (N := N) f2 hN (by omega) d (hw 8 d rfl (fun j hj => by rw [if_neg (by omega), if_neg (by omega), if_pos (by omega)]))
    obtain ⟨h4, a4, f4⟩ := c_fput (N := N) f3 hN (by omega) e (hw 12 e rfl (fun j hj => by rw [if_neg (by omega), if_neg (by omega), if_neg (by omega), if_pos (by omega)]))
    obtain ⟨h5, a5, f5⟩ := c_fput (N := N) f4 hN (by omega) f (hw 16 f rfl (fun j hj => by rw [if_neg (by omega), if_neg (by omega), if_neg (by omega), if_neg (by omega)]))
    obtain ⟨g1, g2, g3, g4, g5⟩ := f5
    have e8 : h5.1 238 = h.1 238 := g5 238 (by decide) (by decide)
    have r0 : FdR h5 h5 z 0 (fdW a b d e f) := ⟨by rw [e8]; exact z2, fun j hj => absurd hj (Nat.not_lt_zero _), fun _ _ _ => rfl, fun _ _ => rfl⟩
    obtain ⟨h6, b1, ⟨k1, k2, k3, k4⟩⟩ := r_feed (N := N) hN y a b d e f 20 0 N h5 (by omega) (by omega) r0
    refine ⟨nI (z + 20), h5, h6, ?_, ?_, ?_, fun k x1 x2 x3 => by rw [k4 k x3, g5 k x1 x2]⟩
    · rw [show X7_put N h (1 + 1) a = _ from a1, bd1_some, show X7_put N h1 (1 + 1) b = _ from a2, bd1_some, show X7_put N h2 (1 + 1) d = _ from a3, bd1_some, show X7_put N h3 (1 + 1) e = _ from a4, bd1_some, show X7_put N h4 (1 + 1) f = _ from a5, bd1_some, show h5.1 (1 + 1) 1 = _ from g1]
    · rw [if_neg (by decide), show h5.1 (237 + 1) (4 : Int32).toNatClampNeg = nI z from by rw [show (237 + 1 : Nat) = 238 from rfl, e8]; exact z2, n20, if_pos (show nI (z + 20) ≤ 600 from nI_le (b := 600) y (by decide))]
      exact b1
    · have kk : ∀ k, k ≠ 2 → k ≠ 3 → k ≠ 238 → h6.1 k = h.1 k := fun k x1 x2 x3 => by rw [k4 k x3, g5 k x1 x2]
      have k8 : ∀ j, j ≠ 4 → (j < 10 + z ∨ 10 + z + 20 ≤ j) → h6.1 238 j = h.1 238 j := fun j x1 x2 => by rw [k3 j x1 x2, e8]
      refine INV_now I0 (fun k x1 x2 => kk k (by omega) (by omega) (by omega)) (kk _ (by decide) (by decide) (by decide)) (by rw [kk _ (by decide) (by decide) (by decide)]) (fun i hi => k8 i (by omega) (by omega)) (MO_fr (fun k x1 x2 => kk k (by omega) (by omega) (by omega)) i3) ⟨c, TR_tape (fun k x1 x2 => kk k (by omega) (by omega) (by omega)) (fun s hs => k8 _ (by omega) (by omega)) (fun i x1 x2 => k8 _ (by omega) (by omega)) ⟨z + 20, y, ?_, ?_, fun i hi => ?_⟩ ?_ ?_ t⟩
      · rw [k4 2 (by decide)]; exact g1
      · exact k1
      · rw [k4 (2 + 1) (by decide)]
        by_cases x : i < z
        · rw [k8 _ (by omega) (by omega), show h5.1 (2 + 1) i = h.1 3 i from g3 i x]
          exact z3 i x
        · have h1 := g2 (i - z) (by omega)
          have h2 := k2 (i - z) (by omega)
          rw [show z + (i - z) = i by omega] at h1 h2
          rw [show (0 + 10 + i : Nat) = 10 + i by omega, h2]
          exact h1
      · rw [k4 2 (by decide), g4 2 (by decide), k8 _ (by omega) (by omega)]; exact t2
      · rw [k4 2 (by decide), g4 3 (by decide), k8 _ (by omega) (by omega)]; exact t3
  · have y2 : ¬ nI (z + 20) ≤ 600 := nI_ge (a := 600) (b := z + 20) (by omega) (by omega)
    refine ⟨-1, h, h, by rw [if_neg y2], ?_, I0, fun _ _ _ _ => rfl⟩
    rw [if_neg (by decide), show h.1 (237 + 1) (4 : Int32).toNatClampNeg = nI z from z2, n20, if_neg y2]
