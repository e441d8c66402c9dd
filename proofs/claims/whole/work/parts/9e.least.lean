/-! ===== level 2: tunes: the class asks for notes ===== -/
section LEB
variable {N : Nat} {p : Nat} {D fx : Nat → Nat} {h : HS}
abbrev totG (D : Nat → Nat) : Nat := GG (D 3) (AF D) (D 1) (D 1) 0
theorem fxI_next {i w : Nat} (hs : (D 4).testBit w = true) (hc : cb (D 4) w = i) : st (fxI D i) w (fD D w) = fxI D (i + 1) := by
  funext b
  unfold st
  by_cases z : b = w
  · subst z
    rw [if_pos rfl, fxI, if_pos ⟨hs, by omega⟩]
  · rw [if_neg z, fxI, fxI]
    by_cases y : (D 4).testBit b = true
    · have ne : cb (D 4) b ≠ i := by
        intro e
        rcases Nat.lt_or_gt_of_ne z with x | x
        · have := cb_lt x y; omega
        · have := cb_lt x hs; omega
      by_cases x : cb (D 4) b < i
      · rw [if_pos ⟨y, x⟩, if_pos ⟨y, by omega⟩]
      · rw [if_neg (fun v => x v.2), if_neg (fun v => by have := v.2; omega)]
    · rw [if_neg (fun v => y v.1), if_neg (fun v => y v.1)]
def JL (D fx : Nat → Nat) (i : Nat) : Prop := (totG D ≠ 0 → fx = fxI D i) ∧ (∀ b, (D 4).testBit b = true → i ≤ cb (D 4) b → fx b = 0) ∧ ∀ b n, AC D fx b n = true → AF D b n = true
theorem JL_0 : JL D (frD D) 0 := by
  refine ⟨fun _ => ?_, fun b hb _ => if_pos hb, fun _ _ h => h⟩
  funext b
  rw [fxI, if_neg (fun v => by have := v.2; omega)]
theorem JL_lo {i w : Nat} (j : JL D fx i) (hw : w < D 1) (hs : (D 4).testBit w = true) (hc : cb (D 4) w = i) : loO D fx w = (if totG D = 0 then none else some (fD D w)) ∧ JL D (st fx w (match loO D fx w with | none => 9 | some x => x)) (i + 1) := by
  have h0 : fx w = 0 := j.2.1 w hs (by omega)
  have e1 : loO D fx w = (if totG D = 0 then none else some (fD D w)) := by
    by_cases z : totG D = 0
    · rw [if_pos z]
      have zero : ∀ x, tot D fx w x = 0 := by
        intro x
        have h2 := GG_sub (d := D 3) (B := D 1) (A := AF D) (A' := fixA (AC D fx) w x) (fun b n h => by unfold fixA at h; simp at h; exact j.2.2 b n h.1) (D 1) 0
        have z' : GG (D 3) (AF D) (D 1) (D 1) 0 = 0 := z
        unfold tot
        omega
      rcases zf_spec (P := fun x => decide (tot D fx w x ≠ 0)) 9 1 with ⟨a1, _⟩ | ⟨s, _, _, _, a4, _⟩
      · exact a1
      · exact absurd (zero s) (of_decide_eq_true a4)
    · rw [if_neg z, j.1 z]
      exact lo_fx z hw hs hc
  refine ⟨e1, ?_⟩
  have hx : 1 ≤ (match loO D fx w with | none => 9 | some x => x) := by
    rw [e1]
    by_cases z : totG D = 0
    · rw [if_pos z]; show 1 ≤ 9; omega
    · rw [if_neg z]
      exact AF_snd (Or.inl hs) (ft_step hw (ft_ok z w (by omega))).2.2.1
  refine ⟨fun hG => ?_, fun b hb hi => ?_, fun b n hn => ?_⟩
  · rw [e1, if_neg hG, j.1 hG]
    exact fxI_next hs hc
  · rw [st_n _ _ (fun e => by rw [e] at hi; omega)]
    exact j.2.1 b hb (by omega)
  · rw [AC_st (Or.inl hs) h0 hx] at hn
    unfold fixA at hn
    simp at hn
    exact j.2.2 b n hn.1
abbrev lsV (D : Nat → Nat) (w : Nat) : Int32 := if totG D = 0 then -1 else nI (fD D w)
theorem c_leastOf (t : TX h p D (frD D)) (hN : 100 ≤ N) {k w : Nat} (hk7 : k < 8) (hkb : kb (D 4) k (D 1) 0 0 = some w) : ∃ h', X8_leastOf N h 221 (nI k) = some (lsV D w, h') ∧ ∀ k, k ≠ 232 → k ≠ 233 → k ≠ 234 → h'.1 k = h.1 k := by
  have hk := hk0 t.2.1.2.1
  have h4 := hk4 t.2.1.2.1
  have all : ∀ i, i ≤ k → ∃ u, kb (D 4) i (D 1) 0 0 = some u ∧ u < D 1 ∧ (D 4).testBit u = true ∧ cb (D 4) u = i := by
    intro i hi
    obtain ⟨a1, a2, a3⟩ := kb_cb (F := D 4) (D 1) 0 w hkb
    cases hu : kb (D 4) i (D 1) 0 0 with
    | none =>
      rcases kb_no (F := D 4) (D 1) 0 hu with x | x
      · exact absurd x (Nat.not_lt_zero _)
      · have := cb_lt (F := D 4) (show w < D 1 by omega) a1
        rw [Nat.zero_add] at x
        omega
    | some u =>
      obtain ⟨b1, b2, b3⟩ := kb_cb (F := D 4) (D 1) 0 u hu
      exact ⟨u, rfl, by omega, b1, b2⟩
  have key : ∀ (r i fu : Nat) (g : HS) (fx : Nat → Nat) (v : Int32), i + r = k + 1 → r < fu → TX g p D fx → JL D fx i → (r = 0 → v = lsV D w) → (∀ k, k ≠ 232 → k ≠ 233 → k ≠ 234 → g.1 k = h.1 k) → ∃ h', X8_leastOf_l4 N fu g 221 (nI k) v (nI i) = some (lsV D w, h') ∧ ∀ k, k ≠ 232 → k ≠ 233 → k ≠ 234 → h'.1 k = h.1 k := by
    intro r
    induction r with
    | zero =>
      intro i fu g fx v e hf tg j hv fk
      obtain ⟨fu, rfl, _⟩ := fuel hf
      obtain ⟨h2, a1, a2, a3, a4⟩ := c_free (N := N) tg.1 tg.2.1 hN
      rw [X8_leastOf_l4, if_pos (nI_lt (by omega) (by omega)), a1, bd1_some, hv rfl]
      exact ⟨h2, rfl, fun k k1 k2 k3 => by rw [a4 k k1]; exact fk k k1 k2 k3⟩
    | succ r ih =>
      intro i fu g fx v e hf tg j hv fk
      obtain ⟨fu, rfl, _⟩ := fuel hf
      obtain ⟨u, u1, u2, u3, u4⟩ := all i (by omega)
      obtain ⟨j1, j2⟩ := JL_lo j u2 u3 u4
      obtain ⟨h2, a1, a2, a3, a4⟩ := c_lowest (N := N) tg hN u2 u3 (j.2.1 u u3 (by omega))
      rw [X8_leastOf_l4, if_neg (nI_nlt (by omega) (by omega)), if_neg (show ¬ (8 : Int32) ≤ nI i from nI_ge (b := 8) (by omega) (by decide)), tg.1, ch4 tg.2.1, c_bitAtB hN (B := D 1) (by omega) h4.1 (by omega) (by omega), bd1_some, u1, show oI (some u) = nI u from rfl, a1, bd2_some, nI_1]
      refine ih (i + 1) fu h2 _ _ (by omega) (by omega) a2 j2 (fun hr => ?_) (fun k k1 k2 k3 => (a4 k k1 k2 k3).trans (fk k k1 k2 k3))
      have ei : i = k := by omega
      subst ei
      rw [hkb] at u1
      cases u1
      rw [j1]
      by_cases z : totG D = 0
      · rw [if_pos z, lsV, if_pos z]; rfl
      · rw [if_neg z, lsV, if_neg z]; rfl
  unfold X8_leastOf
  exact key (k + 1) 0 N h (frD D) (-1) (by omega) (by omega) t JL_0 (fun hr => by omega) (fun _ _ _ _ => rfl)
/-- the one note of a bar -/
abbrev suF (D : Nat → Nat) (w x : Nat) (s : Int32 × Nat) : Int32 × Nat := if tot D (frD D) w x = 0 then s else (nI x, s.2 + 1)
abbrev suV (s : Int32 × Nat) : Int32 := if s.2 = 1 then s.1 else -1
theorem c_sureOf (t : TX h p D (frD D)) (hN : 100 ≤ N) {k w : Nat} (hk7 : k < 8) (hkb : kb (D 4) k (D 1) 0 0 = some w) : ∃ h', X8_sureOf N h 221 (nI k) = some (suV (zl (suF D w) 9 1 (-1, 0)), h') ∧ ∀ k, k ≠ 232 → k ≠ 233 → k ≠ 234 → h'.1 k = h.1 k := by
  have hk := hk0 t.2.1.2.1
  have h4 := hk4 t.2.1.2.1
  obtain ⟨w1, w2, w3⟩ := kb_cb (F := D 4) (D 1) 0 w hkb
  have hw : w < D 1 := by omega
  have h0 : frD D w = 0 := if_pos w1
  have key : ∀ (r x fu y c : Nat) (v : Int32) (g : HS), x + r = 10 → r < fu → 1 ≤ x → c < x → TX g p D (st (frD D) w y) → g.2 = h.2 → (∀ k, k ≠ 232 → k ≠ 233 → k ≠ 234 → g.1 k = h.1 k) → ∃ h', X8_sureOf_l32 N fu g 221 (nI w) v (nI c) (nI x) = some (suV (zl (suF D w) r x (v, c)), h') ∧ ∀ k, k ≠ 232 → k ≠ 233 → k ≠ 234 → h'.1 k = h.1 k := by
    intro r
    induction r with
    | zero =>
      intro x fu y c v g e hf hx hc tg f2 fk
      obtain ⟨fu, rfl, _⟩ := fuel hf
      obtain ⟨h2, a1, a2, a3, a4⟩ := c_free (N := N) tg.1 tg.2.1 hN
      refine ⟨h2, ?_, fun k k1 k2 k3 => by rw [a4 k k1]; exact fk k k1 k2 k3⟩
      rw [X8_sureOf_l32, if_pos (show (9 : Int32) < nI x from nI_lt (a := 9) (by omega) (by omega)), a1, bd1_some]
      show _ = some (suV (v, c), h2)
      by_cases z : c = 1
      · rw [if_pos (by rw [z]; rfl), suV, if_pos z]
      · rw [if_neg (show ¬ nI c = 1 from fun u => z ((nI_eq (b := 1) (by omega) (by decide)).mp u)), suV, if_neg z]
    | succ r ih =>
      intro x fu y c v g e hf hx hc tg f2 fk
      obtain ⟨fu, rfl, _⟩ := fuel hf
      have hb := tot_le (fx := frD D) t.2.1.2.1 w x
      obtain ⟨h2, a1, a2, a3, a4⟩ := c_setRows (N := N) t hN hw w1 h0 hx (show x ≤ 9 by omega) tg f2
      rw [X8_sureOf_l32, if_neg (show ¬ (9 : Int32) < nI x from nI_nlt (a := 9) (by omega) (by decide)), if_neg (nI_in (by omega) (by decide)), sq_eq, nI_clamp (by omega), show (221 + 11 : Nat) = 232 from rfl, a1, bd2_some, nI_1, nI_1]
      rw [show zl (suF D w) (r + 1) x (v, c) = zl (suF D w) r (x + 1) (suF D w x (v, c)) from rfl]
      by_cases z : tot D (frD D) w x = 0
      · rw [show suF D w x (v, c) = (v, c) from if_pos z, z, if_pos (show nI 0 ≤ 0 by decide)]
        exact ih (x + 1) fu x c v h2 (by omega) (by omega) (by omega) (by omega) a2 (a3.trans f2) (fun k k1 k2 k3 => (a4 k k1 k2 k3).trans (fk k k1 k2 k3))
      · rw [show suF D w x (v, c) = (nI x, c + 1) from if_neg z, if_neg (show ¬ nI (tot D (frD D) w x) ≤ 0 from nI_nle (by omega) hb)]
        exact ih (x + 1) fu x (c + 1) (nI x) h2 (by omega) (by omega) (by omega) (by omega) a2 (a3.trans f2) (fun k k1 k2 k3 => (a4 k k1 k2 k3).trans (fk k k1 k2 k3))
  have e0 : st (frD D) w 0 = frD D := by
    funext b
    unfold st
    by_cases z : b = w
    · rw [if_pos z, z, h0]
    · rw [if_neg z]
  unfold X8_sureOf
  rw [t.1, ch4 t.2.1, c_bitAtB hN (B := D 1) (by omega) h4.1 (by omega) (by omega), bd1_some, hkb, show oI (some w) = nI w from rfl, if_neg (nI_pos (by omega)), if_pos (show nI w < 8 from nI_lt (b := 8) (by omega) (by decide))]
  exact key 9 1 N 0 0 (-1) h (by omega) (by omega) (by omega) (by omega) (by rw [e0]; exact t) rfl (fun _ _ _ _ => rfl)
end LEB
