/-! ===== level 2: image, again ===== -/
theorem narB : vp_nar .boolean 1 = (1 : Int32) := by decide +kernel
theorem q_image {N : Nat} {h : HS} (I : INX h) (hN : 1000000000 ≤ N) (a : Int32) : ∃ r h1 h2, X10_image N h 1 a = some (r, h1) ∧ X11_image N h1 237 a = some (r, h2) ∧ INX h2 := by
  have I0 := I
  unfold X10_image X11_image
  rcases i_cases a with z | ⟨j, hj, rfl⟩
  · exact ⟨0, h, h, by rw [if_pos z, nz_0], by rw [r_isIn, bd1_some, inneg z, if_pos rfl, nz_0], I0⟩
  · rw [if_neg (nI_pos hj)]
    by_cases y : j < 3
    · obtain ⟨⟨⟨c, t⟩, i2, i3, i4, i5⟩, z2, z3⟩ := I
      obtain ⟨h1, a1, tc⟩ := c_tcopy (N := N) (h := h) (T := 41 + 38 * j) (S := 2) (tp_im y) (Or.inl rfl) (by omega) (by omega) (i4 j y) z2
      have tc0 := tc
      obtain ⟨t1, t2, t3, t4, t5, t6, t7, t8, t9, t10⟩ := tc
      have e8 : (wi h1 155 j 1).1 238 = h.1 238 := by rw [wi_k _ _ (by decide), t9 238 (by omega)]
      have e9 : (wi h1 155 j 1).1 239 = h.1 239 := by rw [wi_k _ _ (by decide), t9 239 (by omega)]
      obtain ⟨h2, b1, b2, b3, b4⟩ := r_image (N := N) (h0 := wi (wi h1 155 j 1) 239 j 1) (k := j) y 934 0 N (wi (wi h1 155 j 1) 239 j 1) (by omega) (by omega) (fun i hi => absurd hi (Nat.not_lt_zero _)) (fun _ _ => rfl) (fun _ _ => rfl)
      have e8' : (wi (wi h1 155 j 1) 239 j 1).1 238 = h.1 238 := by rw [wi_k _ _ (by decide)]; exact e8
      rw [e8'] at b2 b3
      have kk : ∀ k, k ≠ 155 → k ≠ 239 → k ≠ 238 → (k < 41 + 38 * j ∨ 41 + 38 * j + 38 ≤ k) → h2.1 k = h.1 k := fun k x1 x2 x3 x4 => by rw [b4 k x3, wi_k _ _ x2, wi_k _ _ x1, t9 k x4]
      have kT : ∀ k, k ≠ 155 → k ≠ 239 → k ≠ 238 → h2.1 k = h1.1 k := fun k x1 x2 x3 => by rw [b4 k x3, wi_k _ _ x2, wi_k _ _ x1]
      refine ⟨1, wi h1 155 j 1, h2, ?_, ?_, ⟨⟨⟨c, ?_⟩, ?_, ?_, ?_, ?_⟩, ?_, ?_⟩⟩
      · rw [if_pos (show nI j < 3 from nI_lt (b := 3) y (by decide)), if_neg (nI_in y (by decide)), nI_clamp hj, show ra (1 + 39) j = _ from ra40 j y, show X7_copy N h (41 + 38 * j) (1 + 1) = _ from a1, bd1_some, if_neg (nI_ic y hj), sq_eq, narB, nz_1]
      · rw [r_isIn, bd1_some, nB_t ⟨nI_pos' hj, show nI j ≤ 2 from nI_le (b := 2) (by omega) (by decide)⟩, if_neg one0, if_neg (nI_in y (by decide)), nI_clamp hj, sq_eq, narB]
        exact b1
      · exact TR_fr (fun k x1 x2 => kk k (by omega) (by omega) (by omega) (by omega)) (fun i x1 x2 => b3 i (by omega)) t
      · intro k hk
        have e5 : h2.1 155 k = if k = j then 1 else h.1 155 k := by
          rw [b4 155 (by decide), wi_k _ _ (by decide)]
          by_cases x : k = j
          · rw [x, wi_s, if_pos rfl]
          · rw [wi_j _ _ x, if_neg x, t9 155 (by omega)]
        have e6 : h2.1 239 k = if k = j then 1 else h.1 239 k := by
          rw [b4 239 (by decide)]
          by_cases x : k = j
          · rw [x, wi_s, if_pos rfl]
          · rw [wi_j _ _ x, if_neg x, e9]
        rw [e5, e6]
        by_cases x : k = j
        · subst x
          rw [if_pos rfl, if_pos rfl]
          refine Or.inr ⟨rfl, rfl, c, TR_cp tc0 (fun i hi => ?_) (fun i x1 x2 => kT i (by omega) (by omega) (by omega)) t⟩
          rw [b2 i hi, Nat.zero_add]
        · rw [if_neg x, if_neg x]
          rcases i2 k hk with w | ⟨w1, w2, c', w3⟩
          · exact Or.inl w
          · exact Or.inr ⟨w1, w2, c', TR_fr (fun i x1 x2 => kk i (by omega) (by omega) (by omega) (by omega)) (fun i x1 x2 => b3 i (by omega)) w3⟩
      · exact MO_fr (fun k x1 x2 => kk k (by omega) (by omega) (by omega) (by omega)) i3
      · intro k hk
        by_cases x : k = j
        · subst x
          exact MO_fr (fun i x1 x2 => kT i (by omega) (by omega) (by omega)) t7
        · exact MO_fr (fun i x1 x2 => kk i (by omega) (by omega) (by omega) (by omega)) (i4 k hk)
      · rw [kk 167 (by decide) (by decide) (by decide) (by omega)]; exact i5
      · exact SZ_fr (fun k x1 x2 => kk k (by omega) (by omega) (by omega) (by omega)) z2
      · intro k hk
        by_cases x : k = j
        · subst x
          exact SZ_fr (fun i x1 x2 => kT i (by omega) (by omega) (by omega)) t8
        · exact SZ_fr (fun i x1 x2 => kk i (by omega) (by omega) (by omega) (by omega)) (z3 k hk)
    · refine ⟨0, h, h, ?_, ?_, I0⟩
      · rw [if_neg (show ¬ nI j < 3 from nI_nlt (b := 3) (by omega) hj), nz_0]
      · rw [r_isIn, bd1_some, nB_f (fun w => nI_ge (a := 2) (b := j) (by omega) hj w.2), if_pos rfl, nz_0]
theorem q_again {N : Nat} {h : HS} (I : INX h) (hN : 1000000000 ≤ N) (a : Int32) : ∃ r h1 h2, X10_again N h 1 a = some (r, h1) ∧ X11_again N h1 237 a = some (r, h2) ∧ INX h2 := by
  have I0 := I
  unfold X10_again X11_again
  rcases i_cases a with z | ⟨j, hj, rfl⟩
  · exact ⟨0, h, h, by rw [if_pos z, nz_0], by rw [r_isIn, bd1_some, inneg z, if_pos rfl, nz_0], I0⟩
  · rw [if_neg (nI_pos hj)]
    by_cases y : j < 3
    · obtain ⟨⟨⟨c, t⟩, i2, i3, i4, i5⟩, z2, z3⟩ := I
      have inn : nB (0 ≤ nI j ∧ nI j ≤ 2) = 1 := nB_t ⟨nI_pos' hj, show nI j ≤ 2 from nI_le (b := 2) (by omega) (by decide)⟩
      rw [if_neg (show ¬ (3 : Int32) ≤ nI j from nI_ge (b := 3) y (by decide)), if_neg (nI_in y (by decide)), nI_clamp hj, show ra (1 + 39) j = _ from ra40 j y, show h.1 (1 + 154) j = h.1 155 j from rfl]
      rcases i2 j y with ⟨w1, w2⟩ | ⟨w1, w2, c', w3⟩
      · refine ⟨0, h, h, by rw [w1, if_pos rfl, nz_0], ?_, I0⟩
        rw [r_isIn, bd1_some, inn, if_neg one0, if_neg (nI_ic y hj), show h.1 (237 + 2) j = h.1 239 j from rfl, w2, if_pos rfl, nz_0]
      · obtain ⟨h1, a1, tc⟩ := c_tcopy (N := N) (h := h) (T := 2) (S := 41 + 38 * j) (Or.inl rfl) (tp_im y) (by omega) (by omega) i3 (z3 j y)
        have tc0 := tc
        obtain ⟨t1, t2, t3, t4, t5, t6, t7, t8, t9, t10⟩ := tc
        obtain ⟨h2, b1, b2, b3, b4⟩ := r_again (N := N) (h0 := h1) (k := j) y 934 0 N h1 (by omega) (by omega) (fun i hi => absurd hi (Nat.not_lt_zero _)) (fun _ _ => rfl) (fun _ _ => rfl)
        have e8 : h1.1 238 = h.1 238 := t9 238 (by omega)
        rw [e8] at b2 b3
        have kk : ∀ k, k ≠ 238 → 40 ≤ k → h2.1 k = h.1 k := fun k x1 x2 => by rw [b4 k x1, t9 k (by omega)]
        refine ⟨1, h1, h2, ?_, ?_, ⟨?_, ?_, ?_⟩⟩
        · rw [w1, if_neg one0, if_neg (nI_ic y hj), show X7_copy N h (1 + 1) (41 + 38 * j) = _ from a1, bd1_some, nz_1]
        · rw [r_isIn, bd1_some, inn, if_neg one0, if_neg (nI_ic y hj), show h1.1 (237 + 2) j = h.1 239 j by rw [t9 (237 + 2) (by omega)], w2, if_neg one0]
          exact b1
        · refine INV_now I0.1 (fun k x1 x2 => kk k (by omega) x1) (kk 239 (by decide) (by decide)) (by rw [kk 167 (by decide) (by decide)]) (fun i hi => b3 i hi) (MO_fr (fun k x1 x2 => b4 k (by omega)) t7) ⟨c', TR_cp (B' := 0) tc0 (fun i hi => ?_) (fun k x1 x2 => b4 k (by omega)) w3⟩
          rw [Nat.zero_add]
          exact b2 i hi
        · exact SZ_fr (fun k x1 x2 => b4 k (by omega)) t8
        · intro k hk
          exact SZ_fr (fun i x1 x2 => kk i (by omega) (by omega)) (z3 k hk)
    · refine ⟨0, h, h, ?_, ?_, I0⟩
      · rw [if_pos (show (3 : Int32) ≤ nI j from nI_le (a := 3) (by omega) hj), nz_0]
      · rw [r_isIn, bd1_some, nB_f (fun w => nI_ge (a := 2) (b := j) (by omega) hj w.2), if_pos rfl, nz_0]
