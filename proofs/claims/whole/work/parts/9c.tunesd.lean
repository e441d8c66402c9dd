/-! ===== level 2: tunes: the class fixes notes ===== -/
section TUD
variable {N : Nat} {p : Nat} {D fx : Nat → Nat} {h : HS}
abbrev frD (D : Nat → Nat) (b : Nat) : Nat := if (D 4).testBit b = true then 0 else D (17 + 4 * b)
theorem c_free (e2 : h.2 221 = p) (c : KH h p D) (hN : 100 ≤ N) : ∃ h', X8_free N h 221 = some h' ∧ TX h' p D (frD D) ∧ h'.2 = h.2 ∧ ∀ k, k ≠ 232 → h'.1 k = h.1 k := by
  have hk := hk0 c.2.1
  have h4 := hk4 c.2.1
  have key : ∀ (r b fu : Nat) (h' : HS), b + r = 8 → r < fu → h'.2 = h.2 → (∀ k, k ≠ 232 → h'.1 k = h.1 k) → (∀ a, a < b → a < D 1 → h'.1 232 a = nI (frD D a)) → ∃ h2, X8_free_l2 N fu h' 221 (nI b) = some h2 ∧ h2.2 = h.2 ∧ (∀ k, k ≠ 232 → h2.1 k = h.1 k) ∧ ∀ a, a < D 1 → h2.1 232 a = nI (frD D a) := by
    intro r
    induction r with
    | zero =>
      intro b fu h' e hf f2 fk fl
      obtain ⟨fu, rfl, _⟩ := fuel hf
      exact ⟨h', by rw [X8_free_l2, if_pos (show (8 : Int32) ≤ nI b from nI_le (a := 8) (by omega) (by omega))], f2, fk, fun a ha => fl a (by omega) ha⟩
    | succ r ih =>
      intro b fu h' e hf f2 fk fl
      obtain ⟨fu, rfl, _⟩ := fuel hf
      have kh : KH h' p D := KH_n (fun k hk => fk k (by omega)) c
      have iw : X8_isWalled N h' 221 (nI b) = some (nB ((D 4).testBit b = true)) := by
        unfold X8_isWalled
        rw [f2, e2, ch4 kh, bi_n (by omega) (by omega)]
        by_cases z : (D 4).testBit b = true
        · rw [nB_t z, if_neg one0, nz_1]
        · rw [nB_f z, if_pos rfl, nz_0]
      rw [X8_free_l2, if_neg (show ¬ (8 : Int32) ≤ nI b from nI_ge (b := 8) (by omega) (by decide)), iw, bd1_some, nI_1]
      have go : ∀ x : Int32, (b < D 1 → x = nI (frD D b)) → ∃ h2, X8_free_l2 N fu (wi h' 232 b x) 221 (nI (b + 1)) = some h2 ∧ h2.2 = h.2 ∧ (∀ k, k ≠ 232 → h2.1 k = h.1 k) ∧ ∀ a, a < D 1 → h2.1 232 a = nI (frD D a) := by
        intro x hx
        refine ih (b + 1) fu _ (by omega) (by omega) f2 (fun k hk => by rw [wi_k _ _ hk]; exact fk k hk) (fun a ha ha2 => ?_)
        by_cases y : a = b
        · subst y; rw [← hx ha2]; exact wi_s _ _ _ _
        · rw [wi_j _ _ y]; exact fl a (by omega) ha2
      by_cases z : (D 4).testBit b = true
      · rw [nB_t z, if_neg one0, if_neg (nI_in (by omega) (by decide)), sq_eq, nI_clamp (by omega)]
        exact go 0 (fun _ => by rw [frD, if_pos z]; rfl)
      · rw [nB_f z, if_pos rfl, f2, e2, at_in kh.1.2.2.1 (by decide) (by omega), bd1_some, if_neg (nI_in (by omega) (by decide)), sq_eq, nI_clamp (by omega)]
        exact go _ (fun hb => by rw [frD, if_neg z]; exact chNo kh hb)
  obtain ⟨h2, a1, a2, a3, a4⟩ := key 8 0 N h (by omega) (by omega) rfl (fun _ _ => rfl) (fun a ha => by omega)
  refine ⟨h2, a1, ⟨by rw [a2]; exact e2, KH_n (fun k hk => a3 k (by omega)) c, fun b hb => ⟨a4 b hb, ?_⟩⟩, a2, a3⟩
  have hB := hkB c.2.1 hb
  unfold frD
  by_cases z : (D 4).testBit b = true
  · rw [if_pos z]; omega
  · rw [if_neg z]; omega
theorem c_enterT (c : KH h p D) (hN : 100 ≤ N) : ∃ h', X8_enter N h 221 p = some h' ∧ TX h' p D (frD D) ∧ ∀ k, k ≠ 232 → h'.1 k = h.1 k := by
  obtain ⟨h2, a1, a2, a3, a4⟩ := c_free (N := N) (h := wr h 221 p) (p := p) (D := D) (wr_s h 221 p) (KH_n (fun k hk => by rw [wr_1]) c) hN
  exact ⟨h2, by unfold X8_enter; rw [sq_eq, a1, bd1_some], a2, a4⟩
theorem TX_set (t : TX h p D fx) {w x : Nat} (hx : x ≤ 9) : TX (wi h 232 w (nI x)) p D (st fx w x) := by
  refine ⟨t.1, KH_n (fun k hk => wi_k _ _ (by omega)) t.2.1, fun b hb => ?_⟩
  obtain ⟨a1, a2⟩ := t.2.2 b hb
  unfold st
  by_cases z : b = w
  · subst z
    rw [if_pos rfl]
    exact ⟨wi_s _ _ _ _, hx⟩
  · rw [if_neg z, wi_j _ _ z]
    exact ⟨a1, a2⟩
theorem AC_st {w x : Nat} (hs : snd D w) (h0 : fx w = 0) (hx : 1 ≤ x) : AC D (st fx w x) = fixA (AC D fx) w x := by
  funext b n
  unfold fixA AC
  by_cases z : b = w
  · subst z
    rw [if_pos hs, if_pos hs, st_s, h0]
    by_cases y : n = x
    · subst y; simp [hx]
    · simp [y, show ¬ x = n from fun v => y v.symm, show ¬ x = 0 by omega]
  · rw [st_n _ _ z]
    simp [z]
abbrev tot (D fx : Nat → Nat) (w x : Nat) : Nat := GG (D 3) (fixA (AC D fx) w x) (D 1) (D 1) 0
theorem tot_le (k : HK D) (w x : Nat) : tot D fx w x < 2 ^ 31 := by
  have hk := hk0 k
  have h1 := GG_le (d := D 3) (B := D 1) (AC_nine (D := D) (fx := fx)) (D 1) 0
  have h2 := GG_sub (d := D 3) (B := D 1) (A := AC D fx) (A' := fixA (AC D fx) w x) (fun b n h => by unfold fixA at h; simp at h; exact h.1) (D 1) 0
  have h3 : 9 ^ D 1 ≤ 9 ^ 8 := Nat.pow_le_pow_right (by decide) hk.2.1
  have : (9 : Nat) ^ 8 = 43046721 := by decide
  unfold tot
  omega
theorem c_setRows (t : TX h p D fx) (hN : 100 ≤ N) {w x y : Nat} (hw : w < D 1) (hs : (D 4).testBit w = true) (h0 : fx w = 0) (h1 : 1 ≤ x) (hx : x ≤ 9) {g : HS} (tg : TX g p D (st fx w y)) (e2 : g.2 = h.2) : ∃ h', X8_rows N (wi g 232 w (nI x)) 221 = some (nI (tot D fx w x), h') ∧ TX h' p D (st fx w x) ∧ h'.2 = g.2 ∧ ∀ k, k ≠ 232 → k ≠ 233 → k ≠ 234 → h'.1 k = g.1 k := by
  have t1 := TX_set tg (w := w) hx
  have ee : st (st fx w y) w x = st fx w x := by
    funext b
    unfold st
    by_cases z : b = w
    · rw [if_pos z, if_pos z]
    · rw [if_neg z, if_neg z, if_neg z]
  rw [ee] at t1
  obtain ⟨h2, a1, a2, a3⟩ := c_rows (N := N) t1 hN
  rw [AC_st (Or.inl hs) h0 h1] at a1
  exact ⟨h2, a1, TX_n t1 a2 (fun k hk => a3 k (by omega) (by omega)) (a3 232 (by decide) (by decide)), a2, fun k k1 k2 k3 => by rw [a3 k k2 k3, wi_k _ _ k1]⟩
abbrev loO (D fx : Nat → Nat) (w : Nat) : Option Nat := zf (fun x => decide (tot D fx w x ≠ 0)) 9 1
theorem c_lowest (t : TX h p D fx) (hN : 100 ≤ N) {w : Nat} (hw : w < D 1) (hs : (D 4).testBit w = true) (h0 : fx w = 0) : ∃ h', X8_lowest N h 221 (nI w) = some (oI (loO D fx w), h') ∧ TX h' p D (st fx w (match loO D fx w with | none => 9 | some x => x)) ∧ h'.2 = h.2 ∧ ∀ k, k ≠ 232 → k ≠ 233 → k ≠ 234 → h'.1 k = h.1 k := by
  have hk := hk0 t.2.1.2.1
  have key : ∀ (r x fu y : Nat) (g : HS), x + r = 10 → r < fu → 1 ≤ x → TX g p D (st fx w y) → (x = 10 → y = 9) → g.2 = h.2 → (∀ k, k ≠ 232 → k ≠ 233 → k ≠ 234 → g.1 k = h.1 k) → ∃ h', X8_lowest_l14 N fu g 221 (nI w) (nI x) = some (oI (zf (fun x => decide (tot D fx w x ≠ 0)) r x), h') ∧ TX h' p D (st fx w (match zf (fun x => decide (tot D fx w x ≠ 0)) r x with | none => 9 | some x => x)) ∧ h'.2 = h.2 ∧ ∀ k, k ≠ 232 → k ≠ 233 → k ≠ 234 → h'.1 k = h.1 k := by
    intro r
    induction r with
    | zero =>
      intro x fu y g e hf hx tg hy f2 fk
      obtain ⟨fu, rfl, _⟩ := fuel hf
      have hy9 := hy (by omega)
      subst hy9
      exact ⟨g, by rw [X8_lowest_l14, if_pos (show (9 : Int32) < nI x from nI_lt (a := 9) (by omega) (by omega))]; rfl, tg, f2, fk⟩
    | succ r ih =>
      intro x fu y g e hf hx tg hy f2 fk
      obtain ⟨fu, rfl, _⟩ := fuel hf
      have hb := tot_le (fx := fx) t.2.1.2.1 w x
      obtain ⟨h2, a1, a2, a3, a4⟩ := c_setRows (N := N) t hN hw hs h0 hx (show x ≤ 9 by omega) tg f2
      rw [X8_lowest_l14, if_neg (show ¬ (9 : Int32) < nI x from nI_nlt (a := 9) (by omega) (by decide)), if_neg (nI_in (by omega) (by decide)), sq_eq, nI_clamp (by omega), show (221 + 11 : Nat) = 232 from rfl, a1, bd2_some, nI_1]
      by_cases z : tot D fx w x = 0
      · rw [z, if_pos (show nI 0 ≤ 0 by decide), zf_neg (by simp [z])]
        exact ih (x + 1) fu x h2 (by omega) (by omega) (by omega) a2 (fun hh => by omega) (a3.trans f2) (fun k k1 k2 k3 => (a4 k k1 k2 k3).trans (fk k k1 k2 k3))
      · rw [if_neg (show ¬ nI (tot D fx w x) ≤ 0 from nI_nle (by omega) hb), zf_pos (by simp [z])]
        exact ⟨h2, rfl, a2, a3.trans f2, fun k k1 k2 k3 => (a4 k k1 k2 k3).trans (fk k k1 k2 k3)⟩
  unfold X8_lowest
  rw [if_neg (nI_pos (by omega)), if_pos (show nI w < 8 from nI_lt (b := 8) (by omega) (by decide))]
  have e0 : st fx w 0 = fx := by
    funext b
    unfold st
    by_cases z : b = w
    · rw [if_pos z, z, h0]
    · rw [if_neg z]
  exact key 9 1 N 0 h (by omega) (by omega) (by omega) (by rw [e0]; exact t) (fun hh => by omega) rfl (fun _ _ _ _ => rfl)
end TUD
