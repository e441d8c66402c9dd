/-! ===== level 2: spares, few, far, spare ===== -/
section FEW
variable {N : Nat} {p q : Nat} {D : Nat → Nat}
theorem c_outs {h : HS} (hN : 100 ≤ N) (c : KH h p D) (v : Int32) (P : Nat → Bool) (hP : ∀ s, s < 6 → ((v >>> (nI s &&& 31)) &&& 1 = 0 ↔ P s = false)) {set : Nat} (h1 : ∀ s, s < D 2 → P s = set.testBit s) (h2 : ∀ s, D 2 ≤ s → set.testBit s = false) :
    ∃ ha hb h', X5_seat N h 171 p 0 20 = some ha ∧ X5_sendOutAllBut N ha 171 v = some hb ∧ CF h h' ∧ KC h' p D (D 1) (D 2) ∧
    ((X5_fills N hb 171 8 = some (0, h') ∧ LR D (D 1) set 0 = []) ∨ (X5_fills N hb 171 8 = some (1, h') ∧ LR D (D 1) set 0 ≠ [])) := by
  have hk := hk0 c.2.1
  obtain ⟨ha, e1, f1, _, e2, e3, e4⟩ := c_seat (N := N) hN c (loan := 0) (most := 20) (by decide) (by decide)
  obtain ⟨hb, s1, s2, s3, s4⟩ := c_send (N := N) hN v P hP (sg := D 2) (by omega) e3 e4
  have f2 : CF h hb := CF.trans f1 ⟨fun k _ h2 _ _ => s2 k h2, fun k _ => by rw [s3]⟩
  have hle : ∀ s, s < D 2 → leftS D 0 20 s = D (51 + 3 * s) := by
    intro s hs
    have := hkS c.2.1 hs
    unfold leftS
    omega
  obtain ⟨h', f3, k3, r3⟩ := c_fills (N := N) (m := D 1) (sg := D 2) (left := fun s => if P s = true then leftS D 0 20 s else 0) (v := 8) hN (by decide) (by rw [s3]; exact e2) (CF_kh f2 c) (by rw [s2 _ (by decide)]; exact e3) (by omega) (by omega) (fun s _ => by
    show (if P s = true then leftS D 0 20 s else 0) ≤ 1000
    by_cases z : P s = true
    · rw [if_pos z]; unfold leftS; omega
    · rw [if_neg z]; omega) s4 (by by_cases z : 8 < D 1 <;> simp [z]; omega)
  have eL : LC D (D 2) (D 1) 0 (fun s => if P s = true then leftS D 0 20 s else 0) 9 = LR D (D 1) set 0 := LCR_set c.2.1 (Nat.le_refl _) (fun s hs => by
    show (if P s = true then leftS D 0 20 s else 0) = _
    rw [h1 s hs, hle s hs]; rfl) h2
  rw [eL] at r3
  refine ⟨ha, hb, h', e1, s1, CF.trans f2 f3, k3, ?_⟩
  rcases r3 with ⟨a1, a2⟩ | ⟨x, L', a1, a2, _⟩
  · exact Or.inl ⟨a1, a2⟩
  · exact Or.inr ⟨a1, by rw [a2]; exact List.cons_ne_nil _ _⟩
theorem nb_e : ∀ s, s < 6 → ∀ t, t < 6 → ((((1 : Int32) <<< (nI s &&& 31)) ^^^ (-1)) >>> (nI t &&& 31)) &&& 1 = if t = s then 0 else 1 := by decide +kernel
abbrev spS (D : Nat → Nat) (s v : Nat) : Nat := if LR D (D 1) (clr (EV D) s) 0 = [] then v else v ||| 2 ^ s
theorem clr_set (k : HK D) {s : Nat} (hs : s < D 2) : (∀ t, t < D 2 → (clr (EV D) s).testBit t = !decide (t = s)) ∧ (∀ t, D 2 ≤ t → (clr (EV D) s).testBit t = false) := by
  have hk := hk0 k
  have he := ev_lt k
  refine ⟨fun t ht => ?_, fun t ht => ?_⟩
  · rw [clr_b (EV D) (by omega) s (by omega) t (by omega), ev_bit, decide_eq_true ht]; simp
  · by_cases z : t < 7
    · rw [clr_b (EV D) (by omega) s (by omega) t z, ev_bit, decide_eq_false (by omega)]; simp
    · have := clr_lt (EV D) (by omega) s (by omega)
      apply Nat.testBit_lt_two_pow
      exact Nat.lt_of_lt_of_le this (Nat.pow_le_pow_right (n := 2) (by decide) (show 7 ≤ t by omega))
theorem c_spares {h : HS} (hN : 100 ≤ N) (c : KH h p D) : ∃ h', X5_spares N h 171 p = some (nI (zl (spS D) (D 2) 0 0), h') ∧ CF h h' := by
  have hk := hk0 c.2.1
  have key : ∀ (r s fu : Nat) (h' : HS) (v : Nat), s + r = D 2 → r < fu → CF h h' → ∃ h2, X5_spares_l4 N fu h' 171 p (nI v) (nI s) = some (nI (zl (spS D) r s v), h2) ∧ CF h h2 := by
    intro r
    induction r with
    | zero =>
      intro s fu h' v e hf f
      obtain ⟨fu, rfl, _⟩ := fuel hf
      refine ⟨h', ?_, f⟩
      rw [X5_spares_l4, ch2 (CF_kh f c), if_pos (nI_le (by omega) (by omega))]
      rfl
    | succ r ih =>
      intro s fu h' v e hf f
      obtain ⟨fu, rfl, _⟩ := fuel hf
      obtain ⟨cs1, cs2⟩ := clr_set c.2.1 (show s < D 2 by omega)
      obtain ⟨ha, hb, h3, a1, a2, a3, _, a4⟩ := c_outs (N := N) hN (CF_kh f c) (((1 : Int32) <<< (nI s &&& 31)) ^^^ (-1)) (fun t => !decide (t = s)) (by
        intro t ht
        rw [nb_e s (by omega) t ht]
        by_cases z : t = s
        · simp [z]
        · simp [z]) (set := clr (EV D) s) (fun t ht => (cs1 t ht).symm) cs2
      rw [X5_spares_l4, ch2 (CF_kh f c), if_neg (nI_ge (by omega) (by omega)), a1, bd1_some, a2, bd1_some, zl, spS]
      rcases a4 with ⟨b1, b2⟩ | ⟨b1, b2⟩
      · rw [b1, bd2_some, if_pos rfl, if_pos b2, nI_1]
        exact ih (s + 1) fu h3 v (by omega) (by omega) (CF.trans f a3)
      · rw [b1, bd2_some, if_neg one0, if_neg b2, nI_1, one_shl _ (by omega), nx_or]
        exact ih (s + 1) fu h3 _ (by omega) (by omega) (CF.trans f a3)
  exact key (D 2) 0 N h 0 (by omega) (by omega) (CF.refl h)
theorem spare_none (k : HK D) (h : LR D (D 1) (EV D) 0 = []) {s : Nat} (hs : s < D 2) : LR D (D 1) (clr (EV D) s) 0 = [] := by
  obtain ⟨cs1, cs2⟩ := clr_set k hs
  have e1 : LC D (D 2) (D 1) 0 (fun s => D (51 + 3 * s)) 9 = LR D (D 1) (EV D) 0 := LCR_set k (Nat.le_refl _) (fun s hs => by rw [ev_bit, if_pos (decide_eq_true hs)]; rfl) (fun s hs => by rw [ev_bit]; exact decide_eq_false (by omega))
  have e2 : LC D (D 2) (D 1) 0 (fun t => if t = s then 0 else D (51 + 3 * t)) 9 = LR D (D 1) (clr (EV D) s) 0 := LCR_set k (Nat.le_refl _) (fun t ht => by
    rw [cs1 t ht]
    by_cases z : t = s
    · simp [z]
    · simp [z]) cs2
  have e3 := CL_filter (ord := ord D) (len := lenD D) (ok := okC D (D 2)) (ctn D (D 1) - ctn D 0) (ctn D 0) (fun s => D (51 + 3 * s)) (fun t => if t = s then 0 else D (51 + 3 * t)) 9 (fun t _ => by
    show (if t = s then 0 else D (51 + 3 * t)) ≤ D (51 + 3 * t)
    by_cases z : t = s
    · rw [if_pos z]; omega
    · rw [if_neg z]; omega)
  rw [← e2, show LC D (D 2) (D 1) 0 (fun t => if t = s then 0 else D (51 + 3 * t)) 9 = _ from e3, show CL (ord D) (lenD D) (okC D (D 2)) (ctn D (D 1) - ctn D 0) (ctn D 0) (fun s => D (51 + 3 * s)) 9 = LR D (D 1) (EV D) 0 from e1, h]
  rfl
theorem r_spares {h : HS} (hN : 1000000000 ≤ N) (c : RH h q D) : ∃ h', X11_spareOf N h 237 = some (nI (zl (spS D) (D 2) 0 0), h') ∧ SF h h' := by
  have hk := hk0 c.1
  have he := ev_lt c.1
  have key : ∀ (r s fu : Nat) (h' : HS) (v : Nat), s + r = D 2 → r < fu → SF h h' → ∃ h2, X11_spareOf_l4 N fu h' 237 (nI v) (nI s) = some (nI (if LR D (D 1) (EV D) 0 = [] then 0 else zl (spS D) r s v), h2) ∧ SF h h2 := by
    intro r
    induction r with
    | zero =>
      intro s fu h' v e hf f
      obtain ⟨fu, rfl, _⟩ := fuel hf
      rw [X11_spareOf_l4, rh2 (SF_rh f c), if_pos (nI_le (by omega) (by omega)), r_everybody (SF_rh f c), bd1_some, rh1 (SF_rh f c)]
      rcases r_isRota (N := N) (m := D 1) (set := EV D) (more := 0) hN (SF_rh f c) (by omega) (by omega) (by omega) with ⟨b1, h3, b2, b3⟩ | ⟨x, L', h3, b1, b2, b3, _⟩
      · exact ⟨h3, by rw [show X11_isRota N h' 237 (nI (D 1)) (nI (EV D)) 0 = _ from b2, bd2_some, if_pos rfl, if_pos b1]; rfl, SF.trans f b3⟩
      · exact ⟨h3, by rw [show X11_isRota N h' 237 (nI (D 1)) (nI (EV D)) 0 = _ from b2, bd2_some, if_neg one0, if_neg (by rw [b1]; exact List.cons_ne_nil _ _)]; rfl, SF.trans f b3⟩
    | succ r ih =>
      intro s fu h' v e hf f
      obtain ⟨fu, rfl, _⟩ := fuel hf
      have hcl := clr_lt (EV D) (by omega) s (by omega)
      rw [X11_spareOf_l4, rh2 (SF_rh f c), if_neg (nI_ge (by omega) (by omega)), r_everybody (SF_rh f c), bd1_some, rh1 (SF_rh f c), clr_e (EV D) (by omega) s (by omega), zl, spS]
      rcases r_isRota (N := N) (m := D 1) (set := clr (EV D) s) (more := 0) hN (SF_rh f c) (by omega) (by omega) (by omega) with ⟨b1, h3, b2, b3⟩ | ⟨x, L', h3, b1, b2, b3, _⟩
      · rw [show X11_isRota N h' 237 (nI (D 1)) (nI (clr (EV D) s)) 0 = _ from b2, bd2_some, if_pos rfl, if_pos b1, nI_1, Int32.or_zero]
        exact ih (s + 1) fu h3 v (by omega) (by omega) (SF.trans f b3)
      · rw [show X11_isRota N h' 237 (nI (D 1)) (nI (clr (EV D) s)) 0 = _ from b2, bd2_some, if_neg one0, if_neg (show ¬ LR D (D 1) (clr (EV D) s) 0 = [] by rw [b1]; exact List.cons_ne_nil _ _), nI_1, one_shl _ (by omega), nx_or]
        exact ih (s + 1) fu h3 _ (by omega) (by omega) (SF.trans f b3)
  obtain ⟨h2, a1, a2⟩ := key (D 2) 0 N h 0 (by omega) (by omega) (SF.refl h)
  refine ⟨h2, ?_, a2⟩
  unfold X11_spareOf
  rw [show X11_spareOf_l4 N N h 237 0 0 = _ from a1]
  by_cases z : LR D (D 1) (EV D) 0 = []
  · rw [if_pos z, zl_id (D 2) 0 0 (fun j _ h2 a => if_pos (spare_none c.1 z (by omega)))]
  · rw [if_neg z]
end FEW
theorem q_far {N : Nat} {h : HS} (I : INV h) (hN : 1000000000 ≤ N) (a b : Int32) (mute : ∀ p q D h2, KH h p D → RH h2 q D → ∃ r, X1_mutes N h p = some r ∧ X11_far_l25 N N h2 237 0 0 = some (r, h2)) : ∃ r h1 h2, X10_far N h 1 a b = some (r, h1) ∧ X11_far N h1 237 a b = some (r, h2) ∧ Same h h2 := by
  unfold X10_far X11_far
  rcases opn (N := N) I a with ⟨e1, e2⟩ | ⟨p, q, D, e1, hp, c, e2⟩
  · exact ⟨-1, h, h, by rw [e1]; rfl, by rw [e2 h (Same.refl h)]; rfl, Same.refl h⟩
  · rw [e1, bd1_some, if_neg hp]
    by_cases z : b = 0
    · rw [if_pos z]
      obtain ⟨h1, a1, a2⟩ := c_farWith (N := N) (by omega) c (loan := 0) (by decide)
      obtain ⟨h2, e3, rh, sm, _⟩ := e2 h1 (CF_same a2)
      obtain ⟨h3, b1, b2⟩ := r_farBy hN rh (loan := 0) (by decide)
      refine ⟨nI (fwV D 0 (D 1)), h1, h3, ?_, ?_, Same.trans sm (SF_same b2)⟩
      · rw [show X5_farWith N h (1 + 170) p 0 = _ from a1]; rfl
      · rw [e3, bd2_some, if_neg one0, if_pos z, show X11_farBy N h2 237 0 = _ from b1]; rfl
    · rw [if_neg z]
      obtain ⟨h2, e3, rh, sm, _⟩ := e2 h (Same.refl h)
      obtain ⟨r, m1, m2⟩ := mute p q D h2 c rh
      exact ⟨r, h, h2, by rw [m1]; rfl, by rw [e3, bd2_some, if_neg one0, if_neg z, m2], sm⟩
theorem ge_sub {j k : Nat} (h : k ≤ j) : nI j - nI k = nI (j - k) := pk_sub h
theorem in_lit {j lo hi : Nat} (hj : j < 2 ^ 31) (h1 : lo < 2 ^ 31) (h2 : hi < 2 ^ 31) : (nI lo ≤ nI j ∧ nI j ≤ nI hi) ↔ (lo ≤ j ∧ j ≤ hi) := by
  rw [nI_leI h1 hj, nI_leI hj h2]
theorem neg_lt {v : Int32} (h : v < 0) {k : Nat} (hk : k < 2 ^ 31) : v < nI k := by
  rw [Int32.lt_iff_toInt_lt] at h ⊢
  rw [nI_toInt hk]
  have z0 : (0 : Int32).toInt = 0 := by decide
  omega
theorem neg_nle {v : Int32} (h : v < 0) {k : Nat} (hk : k < 2 ^ 31) : ¬ nI k ≤ v := by
  rw [Int32.lt_iff_toInt_lt] at h
  rw [Int32.le_iff_toInt_le, nI_toInt hk]
  have z0 : (0 : Int32).toInt = 0 := by decide
  omega
theorem neg_ne {v : Int32} (h : v < 0) {k : Nat} (hk : k < 2 ^ 31) : ¬ v = nI k := fun e => by rw [e] at h; exact nI_pos hk h
theorem q_spare {N : Nat} {h : HS} (I : INV h) (hN : 1000000000 ≤ N) (a b : Int32) : ∃ r h1 h2, X10_spare N h 1 a b = some (r, h1) ∧ X11_spare N h1 237 a b = some (r, h2) ∧ Same h h2 := by
  unfold X10_spare X11_spare
  rcases opn (N := N) I a with ⟨e1, e2⟩ | ⟨p, q, D, e1, hp, c, e2⟩
  · exact ⟨-2, h, h, by rw [e1]; rfl, by rw [e2 h (Same.refl h)]; rfl, Same.refl h⟩
  · have hk := hk0 c.2.1
    rw [e1, bd1_some, if_neg hp]
    by_cases y0 : b = 0
    · subst y0
      obtain ⟨h1, a1, a2⟩ := c_spares (N := N) (by omega) c
      obtain ⟨h2, e3, rh, sm, _⟩ := e2 h1 (CF_same a2)
      obtain ⟨h3, b1, b2⟩ := r_spares hN rh
      refine ⟨nI (zl (spS D) (D 2) 0 0), h1, h3, ?_, ?_, Same.trans sm (SF_same b2)⟩
      · rw [if_pos rfl, show X5_spares N h (1 + 170) p = _ from a1]; rfl
      · rw [e3, bd2_some, if_neg one0, r_isIn, bd1_some, nB_f (by decide), if_pos rfl, r_isIn, bd1_some, nB_f (by decide), if_pos rfl, if_pos rfl, b1]; rfl
    by_cases y1 : b = 1
    · subst y1
      obtain ⟨h1, a1, a2⟩ := c_all (N := N) (by omega) c
      obtain ⟨h2, e3, rh, sm, _⟩ := e2 h1 (CF_same a2)
      obtain ⟨h3, b1, b2⟩ := r_all hN rh
      refine ⟨nI (min 999999 (LR D (D 1) (EV D) 0).length), h1, h3, ?_, ?_, Same.trans sm (SF_same b2)⟩
      · rw [if_neg (by decide), if_pos rfl, show X5_all N h (1 + 170) p = _ from a1]; rfl
      · rw [e3, bd2_some, if_neg one0, r_isIn, bd1_some, nB_f (by decide), if_pos rfl, r_isIn, bd1_some, nB_f (by decide), if_pos rfl, if_neg (by decide), if_pos rfl, b1]; rfl
    by_cases y2 : b = 2
    · subst y2
      obtain ⟨h1, a1, a2⟩ := c_cure (N := N) (by omega) c
      obtain ⟨h2, e3, rh, sm, _⟩ := e2 h1 (CF_same a2)
      obtain ⟨h3, b1, b2⟩ := r_cure hN rh
      refine ⟨oI (zf (cuP D) 21 0), h1, h3, ?_, ?_, Same.trans sm (SF_same b2)⟩
      · rw [if_neg (by decide), if_neg (by decide), if_pos rfl, show X5_cure N h (1 + 170) p = _ from a1]; rfl
      · rw [e3, bd2_some, if_neg one0, r_isIn, bd1_some, nB_f (by decide), if_pos rfl, r_isIn, bd1_some, nB_f (by decide), if_pos rfl, if_neg (by decide), if_neg (by decide), if_pos rfl, b1]; rfl
    rw [if_neg y0, if_neg y1, if_neg y2]
    rcases i_cases b with z | ⟨j, hj, rfl⟩
    · obtain ⟨h2, e3, rh, sm, _⟩ := e2 h (Same.refl h)
      have n1 : ¬ ((10 : Int32) ≤ b ∧ b ≤ 19) := fun w => neg_nle z (k := 10) (by decide) w.1
      have n2 : ¬ ((20 : Int32) ≤ b ∧ b ≤ 29) := fun w => neg_nle z (k := 20) (by decide) w.1
      refine ⟨-2, h, h2, ?_, ?_, sm⟩
      · unfold X10_spare_b82
        rw [if_pos (show b < 10 from neg_lt z (k := 10) (by decide)), if_pos (show b < 20 from neg_lt z (k := 20) (by decide))]
      · rw [e3, bd2_some, if_neg one0, r_isIn, bd1_some, nB_f n1, if_pos rfl, r_isIn, bd1_some, nB_f n2, if_pos rfl, if_neg y0, if_neg y1, if_neg y2]
    · have j2 : 2 < j := by
        have h0 : j ≠ 0 := fun e => y0 (by rw [e]; rfl)
        have h1 : j ≠ 1 := fun e => y1 (by rw [e]; rfl)
        have h2 : j ≠ 2 := fun e => y2 (by rw [e]; rfl)
        omega
      have i1 : ((10 : Int32) ≤ nI j ∧ nI j ≤ 19) ↔ (10 ≤ j ∧ j ≤ 19) := in_lit (lo := 10) (hi := 19) hj (by decide) (by decide)
      have i2 : ((20 : Int32) ≤ nI j ∧ nI j ≤ 29) ↔ (20 ≤ j ∧ j ≤ 29) := in_lit (lo := 20) (hi := 29) hj (by decide) (by decide)
      by_cases z1 : 10 ≤ j ∧ j ≤ 19
      · rw [if_neg (show ¬ nI j < 10 from nI_nlt (b := 10) z1.1 hj), if_neg (show ¬ (19 : Int32) < nI j from nI_nlt (a := 19) z1.2 (by decide)), show nI j - 10 = nI (j - 10) from pk_sub z1.1]
        obtain ⟨h1, a1, a2⟩ := c_farWith (N := N) (by omega) c (loan := j - 10) (by omega)
        obtain ⟨h2, e3, rh, sm, _⟩ := e2 h1 (CF_same a2)
        obtain ⟨h3, b1, b2⟩ := r_farBy hN rh (loan := j - 10) (by omega)
        refine ⟨nI (fwV D (j - 10) (D 1)), h1, h3, ?_, ?_, Same.trans sm (SF_same b2)⟩
        · rw [show X5_farWith N h (1 + 170) p (nI (j - 10)) = _ from a1]; rfl
        · rw [e3, bd2_some, if_neg one0, r_isIn, bd1_some, nB_t (i1.mpr z1), if_neg one0, b1]; rfl
      · have eb : (if nI j < 10 then X10_spare_b82 N h 1 (nI j) p else if 19 < nI j then X10_spare_b82 N h 1 (nI j) p else bd2 (X5_farWith N h (1 + 170) p (nI j - 10)) fun r27 h28 => some (r27, h28)) = X10_spare_b82 N h 1 (nI j) p := by
          by_cases w : j < 10
          · rw [if_pos (show nI j < 10 from nI_lt (b := 10) w (by decide))]
          · rw [if_neg (show ¬ nI j < 10 from nI_nlt (b := 10) (by omega) hj), if_pos (show (19 : Int32) < nI j from nI_lt (a := 19) (by omega) hj)]
        rw [eb]
        unfold X10_spare_b82
        by_cases z2 : 20 ≤ j ∧ j - 20 < D 2
        · rw [if_neg (show ¬ nI j < 20 from nI_nlt (b := 20) z2.1 hj), show nI j - 20 = nI (j - 20) from pk_sub z2.1, c_hasSinger c (by omega), bd1_some, nB_t z2.2, if_neg (by decide)]
          obtain ⟨h1, h2, f1, k1, e3, rh, sm, r⟩ := both hN c e2
          rcases r with ⟨a1, h3, a2, a3⟩ | ⟨x, h3, a1, x1, x2, x3, x4, x5, a2, a3, a4⟩
          · refine ⟨-1, h1, h3, by rw [show X5_finds N h (1 + 170) p = _ from a1]; rfl, ?_, Same.trans sm (SF_same a3)⟩
            rw [e3, bd2_some, if_neg one0, r_isIn, bd1_some, nB_f (fun w => z1 (i1.mp w)), if_pos rfl, r_isIn, bd1_some, nB_t (i2.mpr ⟨z2.1, by omega⟩), if_neg one0, r_isSinger rh (by omega), bd1_some, nB_t z2.2, if_neg one0]
            unfold X11_dreamsBy
            rw [r_everybody rh, bd1_some, rh1 rh, a2]
            rfl
          · have hdl := dv_lt c.2.1 x (j - 20) (ctn D (D 1)) a4.1.2.2.1
            refine ⟨zl (fun f a => a + ((nI (dv D x (j - 20) (ctn D (D 1))) >>> (nI f &&& 31)) &&& 1) * nI (D (6 + 2 * f))) (D 0) 0 0, h1, h3, ?_, ?_, Same.trans sm (SF_same a3)⟩
            rotate_left
            · rw [e3, bd2_some, if_neg one0, r_isIn, bd1_some, nB_f (fun w => z1 (i1.mp w)), if_pos rfl, r_isIn, bd1_some, nB_t (i2.mpr ⟨z2.1, by omega⟩), if_neg one0, r_isSinger rh (by omega), bd1_some, nB_t z2.2, if_neg one0]
              unfold X11_dreamsBy
              rw [r_everybody rh, bd1_some, rh1 rh, a2, bd2_some, if_neg one0, r_dreams (by omega) a4 (Nat.le_refl _) x3 (by omega), bd2_some, if_neg (nI_m1 (by omega)), r_peopleIn a4.1.1 (by omega), bd1_some]
            · rw [show X5_finds N h (1 + 170) p = _ from a1, bd2_some, if_neg one0, show X5_coldDreams N h1 (1 + 170) (nI (j - 20)) = _ from c_coldDreams (by omega) k1 x5 x1 x3 (by omega), bd1_some, c_peopleOf k1.2.1 (by omega), bd1_some]
        · obtain ⟨h2, e3, rh, sm, _⟩ := e2 h (Same.refl h)
          have n0 : ∀ k, k ≤ 2 → ¬ nI j = nI k := fun k hk e => by rw [nI_eq hj (by omega)] at e; omega
          refine ⟨-2, h, h2, ?_, ?_, sm⟩
          · by_cases w : j < 20
            · rw [if_pos (show nI j < 20 from nI_lt (b := 20) w (by decide))]
            · rw [if_neg (show ¬ nI j < 20 from nI_nlt (b := 20) (by omega) hj), show nI j - 20 = nI (j - 20) from pk_sub (b := 20) (by omega), c_hasSinger c (by omega), bd1_some, nB_f (fun v => z2 ⟨by omega, v⟩)]
              rfl
          · rw [e3, bd2_some, if_neg one0, r_isIn, bd1_some, nB_f (fun w => z1 (i1.mp w)), if_pos rfl, r_isIn, bd1_some]
            by_cases w : 20 ≤ j ∧ j ≤ 29
            · rw [nB_t (i2.mpr w), if_neg one0, show nI j - 20 = nI (j - 20) from pk_sub w.1, r_isSinger rh (by omega), bd1_some, nB_f (fun v => z2 ⟨w.1, v⟩), if_pos rfl, if_neg y0, if_neg y1, if_neg y2]
            · rw [nB_f (fun v => w (i2.mp v)), if_pos rfl, if_neg y0, if_neg y1, if_neg y2]
