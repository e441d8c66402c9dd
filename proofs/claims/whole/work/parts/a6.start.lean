/-! ===== level 2: text: its beginning and its end ===== -/
def byN (v : Int32) : Nat := (v &&& 255).toBitVec.toNat
theorem byN_e (v : Int32) : v &&& 255 = nI (byN v) := by
  unfold byN
  apply Int32.toBitVec_inj.mp
  show _ = BitVec.ofNat 32 ((v &&& 255).toBitVec.toNat)
  rw [BitVec.ofNat_toNat, BitVec.setWidth_eq]
theorem byN_lt (v : Int32) : byN v < 256 := by
  unfold byN
  rw [Int32.toBitVec_and, BitVec.toNat_and]
  have : v.toBitVec.toNat &&& (255 : Int32).toBitVec.toNat ≤ (255 : Int32).toBitVec.toNat := Nat.and_le_right
  have e : (255 : Int32).toBitVec.toNat = 255 := by decide
  omega
def D0 : Nat → Nat := fun i => if i = 3 then 9 else 0
def Z0 : Nat → Nat := fun _ => 0
section STA
variable {N : Nat} {h : HS} {t : Nat → Nat} {z : Nat}
/-- the class begins to read -/
theorem c_tbegin (hN : 2000 ≤ N) {g : Nat} (hz : z ≤ 600) (ht : ∀ i, t i < 256) (hb : ∀ i, i < z → (h.1 3 i) &&& 255 = nI (t i)) (h40 : h.1 167 0 = 40) : ∃ hc, X4_read N h 156 3 (nI z) (nI g) = X4_read_l47 N N hc 156 (nI g) 0 ∧ CSt hc t z (skp t z 0) (0, -1) ∧ CHD hc D0 ∧ CRw hc 0 ∧ (∀ k, k < 156 ∨ 171 ≤ k → hc.1 k = h.1 k) ∧ hc.1 167 0 = h.1 167 0 := by
  unfold X4_read X1_clear
  simp only [sq_eq, bd1_some]
  generalize hg : wi (wi (wr (wi (wi (wi (wi (wi (wi (wi (wi h (156 + 1) 0 0) (156 + 1) 1 0) (156 + 1) 2 0) (156 + 1) 3 9) (156 + 1) 4 0) (156 + 11) 3 0) 156 2 0) 156 3 (-1)) 156 3) 156 5 (nI z)) 156 8 0 = b
  have k0 : ∀ k, k < 156 ∨ 171 ≤ k → b.1 k = h.1 k := by
    intro k hk
    rw [← hg, wi_k _ _ (by omega), wi_k _ _ (by omega), wr_1]
    simp (disch := omega) only [wi_k]
  have k7 : b.1 157 0 = 0 ∧ b.1 157 1 = 0 ∧ b.1 157 2 = 0 ∧ b.1 157 3 = 9 ∧ b.1 157 4 = 0 := by rw [← hg]; exact ⟨rfl, rfl, rfl, rfl, rfl⟩
  have k67 : b.1 167 3 = 0 ∧ b.1 167 0 = h.1 167 0 := by rw [← hg]; exact ⟨rfl, rfl⟩
  have k6 : b.1 156 2 = 0 ∧ b.1 156 3 = -1 ∧ b.1 156 5 = nI z ∧ b.1 156 8 = nI 0 ∧ b.2 156 = 3 := by rw [← hg]; exact ⟨rfl, rfl, rfl, rfl, rfl⟩
  clear hg
  have cb : CTp b t z := ⟨hz, ht, k6.2.2.2.2, k6.2.2.1, fun i hi => by rw [k0 3 (by decide)]; exact hb i hi⟩
  obtain ⟨hc, a1, a2, a3⟩ := c_adv0 (N := N) (e := 0) hN cb (Nat.zero_le _) k6.2.2.2.1
  refine ⟨hc, by rw [a1, bd1_some], ⟨a2, by rw [a3.2.2 2 (by decide)]; exact k6.1, by rw [a3.2.2 3 (by decide)]; exact k6.2.1, by decide⟩, ?_, ⟨by decide, by rw [a3.1 167 (by decide)]; exact k67.1, by rw [a3.1 167 (by decide), k67.2]; exact h40⟩, fun k hk => by rw [a3.1 k (by omega)]; exact k0 k hk, by rw [a3.1 167 (by decide)]; exact k67.2⟩
  refine ⟨by decide, by decide, by decide, by decide, ?_, fun f hf => absurd hf (Nat.not_lt_zero _), fun f hf => absurd hf (Nat.not_lt_zero _), fun f hf => absurd hf (Nat.not_lt_zero _)⟩
  intro j hj
  rw [a3.1 157 (by decide)]
  match j, hj with
  | 0, _ => exact k7.1
  | 1, _ => exact k7.2.1
  | 2, _ => exact k7.2.2.1
  | 3, _ => exact k7.2.2.2.1
  | 4, _ => exact k7.2.2.2.2
/-- the reference begins to read -/
theorem r_l93 (hN : 2000 ≤ N) {h0 : HS} {g : Nat} (hg : g < 3) (b : Int32) : ∀ (r i fu : Nat) (h : HS), i + r = 81 → r < fu → (∀ j, j < i → h.1 240 j = 0) → (∀ k, k ≠ 240 → h.1 k = h0.1 k) → h.2 = h0.2 → ∃ h', X11_text_l93 N fu h 237 (nI g) b (nI i) = (bd1 (X11_advance N h' 237) fun h26 => X11_text_l128 N N h26 237 (nI g) b) ∧ (∀ j, j < 81 → h'.1 240 j = nI ((if g = 0 then D0 else Z0) j)) ∧ (∀ k, k ≠ 240 → h'.1 k = h0.1 k) ∧ h'.2 = h0.2 := by
  intro r
  induction r with
  | zero =>
    intro i fu h e hf e0 ek e2
    obtain ⟨fu, rfl, _⟩ := fuel hf
    have ei : i = 81 := by omega
    subst ei
    rw [X11_text_l93, if_pos (by decide)]
    by_cases y : g = 0
    · subst y
      rw [if_pos (show nI 0 = 0 from rfl), if_neg (by decide), sq_eq, if_pos rfl]
      refine ⟨_, rfl, fun j hj => ?_, fun k hk => by rw [wi_k _ _ hk]; exact ek k hk, e2⟩
      by_cases w : j = 3
      · subst w; exact wi_s _ _ _ _
      · rw [show (237 + 3 : Nat) = 240 from rfl, show (3 : Int32).toNatClampNeg = 3 from rfl, wi_j _ _ w, e0 j hj, D0, if_neg w]
        rfl
    · rw [if_neg (nI_ne0 (by omega) (by omega)), if_neg y]
      exact ⟨h, rfl, fun j hj => e0 j hj, ek, e2⟩
  | succ r ih =>
    intro i fu h e hf e0 ek e2
    obtain ⟨fu, rfl, _⟩ := fuel hf
    rw [X11_text_l93, if_neg (show ¬ (81 : Int32) ≤ nI i from nI_ge (b := 81) (by omega) (by decide)), if_neg (nI_in (by omega) (by decide)), sq_eq, nI_clamp (by omega), nI_1]
    refine ih (i + 1) fu _ (by omega) (by omega) (fun j hj => ?_) (fun k hk => by rw [wi_k _ _ hk]; exact ek k hk) e2
    by_cases w : j = i
    · subst w; exact wi_s _ _ _ _
    · rw [show (237 + 3 : Nat) = 240 from rfl, wi_j _ _ w]; exact e0 j (by omega)
theorem r_begin (hN : 2000 ≤ N) {g : Nat} (hg : g < 3) (b : Int32) (hz : z ≤ 600) (ht : ∀ i, t i < 256) (e2 : h.1 237 2 = nI z) (e3 : h.1 237 3 = 0) (e8 : h.1 237 8 = 0) (e9 : h.1 237 9 = -1) (e10 : h.1 237 10 = -1) (f5 : h.1 238 5 = 0) (f6 : h.1 238 6 = -1) (hb : ∀ i, i < z → h.1 238 (10 + i) = nI (t i)) : ∃ hr, X11_text_l93 N N h 237 (nI g) b 0 = X11_text_l128 N N hr 237 (nI g) b ∧ RSg hr t z (skp t z 0) (0, -1) ∧ RHv hr (if g = 0 then D0 else Z0) ∧ hr.1 237 9 = -1 ∧ hr.1 237 10 = -1 ∧ (∀ k, k ≠ 237 → k ≠ 240 → hr.1 k = h.1 k) ∧ (∀ j, 11 ≤ j → hr.1 237 j = h.1 237 j) := by
  obtain ⟨h', a1, a2, a3, a4⟩ := r_l93 (N := N) hN (h0 := h) hg b 81 0 N h (by omega) (by omega) (fun j hj => absurd hj (Nat.not_lt_zero _)) (fun _ _ => rfl) rfl
  have rb : RTp h' t z := ⟨hz, ht, by rw [a3 237 (by decide)]; exact e2, fun i hi => by rw [a3 238 (by decide)]; exact hb i hi⟩
  obtain ⟨hr, b1, b2, b3⟩ := r_adv0 (N := N) (e := 0) hN rb (Nat.zero_le _) (by rw [a3 237 (by decide)]; exact e3)
  refine ⟨hr, by rw [show (0 : Int32) = nI 0 from rfl, a1, b1, bd1_some], ⟨b2, ?_, ?_, ?_, Or.inl ⟨rfl, rfl⟩⟩, RHv_n a2 (b3.1 240 (by decide)), ?_, ?_, ?_, ?_⟩
  · rw [b3.2.2 8 (by decide), a3 237 (by decide)]; exact e8
  · rw [b3.1 238 (by decide), a3 238 (by decide)]; exact f5
  · rw [b3.1 238 (by decide), a3 238 (by decide)]; exact f6
  · rw [b3.2.2 9 (by decide), a3 237 (by decide)]; exact e9
  · rw [b3.2.2 10 (by decide), a3 237 (by decide)]; exact e10
  · intro k h1 h2; rw [b3.1 k h1, a3 k h2]
  · intro j hj; rw [b3.2.2 j (by omega), a3 237 (by decide)]
theorem sm_begin {hc hr : HS} {g : Nat} (hg : g < 3) (c : CSt hc t z (skp t z 0) (0, -1)) (d : CHD hc D0) (w : CRw hc 0) (r : RSg hr t z (skp t z 0) (0, -1)) (v : RHv hr (if g = 0 then D0 else Z0)) (e9 : hr.1 237 9 = -1) (e10 : hr.1 237 10 = -1) : Sm hc hr t z g (skp t z 0) (0, -1) := by
  unfold Sm
  by_cases y : g = 0
  · rw [if_pos y] at v ⊢
    refine ⟨D0, D0, c, d, r, ⟨v, ?_⟩, fun _ => ⟨rfl, Or.inl ⟨rfl, e9⟩, Or.inl ⟨rfl, e10⟩, fun s hs => absurd hs (Nat.not_lt_zero _)⟩⟩
    exact ⟨by decide, by decide, by decide, by decide, by decide, fun f hf => absurd hf (Nat.not_lt_zero _), fun f hf => absurd hf (Nat.not_lt_zero _), fun f hf => absurd hf (Nat.not_lt_zero _)⟩
  · rw [if_neg y] at v ⊢
    have wr : RRw hr g 0 := ⟨Nat.zero_le _, v 0 (by decide)⟩
    exact ⟨c, r, ⟨d.2.2.2.2.1 1 (by decide), d.2.2.2.2.1 4 (by decide)⟩, 0, 0, w, wr, fun _ => ⟨rfl, Z0, fun _ => 0, ⟨w, fun i hi => absurd hi (Nat.not_lt_zero _)⟩, ⟨wr, fun i hi => absurd hi (Nat.not_lt_zero _)⟩, fun i hi => absurd hi (Nat.not_lt_zero _)⟩⟩
/-! is all there that was told of -/
abbrev whl (D : Nat → Nat) : Bool := (List.range (D 1)).all (fun b => decide (D (19 + 4 * b) < D 0)) && decide (D 4 < 2 ^ D 1)
theorem whl_iff {D : Nat → Nat} : whl D = true ↔ (∀ b, b < D 1 → D (19 + 4 * b) < D 0) ∧ D 4 < 2 ^ D 1 := by
  unfold whl
  rw [Bool.and_eq_true, decide_eq_true_iff, List.all_eq_true]
  constructor
  · rintro ⟨a, b⟩; exact ⟨fun i hi => of_decide_eq_true (a i (List.mem_range.mpr hi)), b⟩
  · rintro ⟨a, b⟩; exact ⟨fun i hi => decide_eq_true (a i (List.mem_range.mp hi)), b⟩
theorem c_isWhole (hN : 2000 ≤ N) {D : Nat → Nat} (c : CHD h D) (hg : ∀ b, b < D 1 → D (19 + 4 * b) < 2 ^ 31) : X1_isWhole N h 157 = some (nB (whl D = true)) := by
  obtain ⟨c0, c1, c2, c4, e, eF, eB, eS⟩ := c
  have fin : (if ((h.1 157 4) >>> ((h.1 157 1) &&& 31)) = 0 then some (nz 1) else some (nz 0)) = some (nB (D 4 < 2 ^ D 1)) := by
    rw [e 4 (by decide), e 1 (by decide), pk_shrN (by omega) _ (D 1) (s_l _ (by omega))]
    have hd : D 4 / 2 ^ D 1 ≤ D 4 := Nat.div_le_self _ _
    by_cases y : D 4 < 2 ^ D 1
    · rw [if_pos (by rw [Nat.div_eq_of_lt y]; rfl), nz_1, nB_t y]
    · have : 0 < D 4 / 2 ^ D 1 := Nat.div_pos (by omega) (Nat.pow_pos (by decide))
      rw [if_neg (nI_ne0 (by omega) (by omega)), nz_0, nB_f y]
  have key : ∀ (r i fu : Nat), i + r = D 1 → r < fu → (∀ b, b < i → D (19 + 4 * b) < D 0) → X1_isWhole_l2 N h fu 157 (nI i) = some (nB (whl D = true)) := by
    intro r
    induction r with
    | zero =>
      intro i fu ei hf hb
      obtain ⟨fu, rfl, _⟩ := fuel hf
      have ei : i = D 1 := by omega
      subst ei
      rw [X1_isWhole_l2, if_pos (show h.1 157 1 ≤ nI (D 1) by rw [e 1 (by decide)]; exact nI_le (Nat.le_refl _) (by omega)), fin]
      congr 1
      apply nB_eq
      rw [whl_iff]
      exact ⟨fun w => ⟨hb, w⟩, fun w => w.2⟩
    | succ r ih =>
      intro i fu ei hf hb
      obtain ⟨fu, rfl, _⟩ := fuel hf
      have hgi := hg i (by omega)
      rw [X1_isWhole_l2, if_neg (show ¬ h.1 157 1 ≤ nI i by rw [e 1 (by decide)]; exact nI_ge (by omega) (by omega)), if_neg (show ¬ (8 : Int32) ≤ nI i from nI_ge (b := 8) (by omega) (by decide)), if_neg (nI_in (by omega) (by decide)), nI_clamp (by omega), show h.1 (157 + 5) i = nI (D (19 + 4 * i)) from (eB i (by omega)).2.2.1, e 0 (by decide), nI_1]
      by_cases y : D (19 + 4 * i) < D 0
      · rw [if_pos (nI_lt y (by omega))]
        refine ih (i + 1) fu (by omega) (by omega) (fun b hb' => ?_)
        by_cases w : b = i
        · rw [w]; exact y
        · exact hb b (by omega)
      · rw [if_neg (nI_nlt (by omega) hgi), nz_0, nB_f (fun w => y ((whl_iff.mp w).1 i (by omega)))]
  exact key (D 1) 0 N (by omega) (by omega) (fun b hb => absurd hb (Nat.not_lt_zero _))
theorem c_whole0 (hN : 2000 ≤ N) (e1 : h.1 157 1 = 0) (e4 : h.1 157 4 = 0) : X1_isWhole N h 157 = some 1 := by
  obtain ⟨M, rfl, _⟩ := fuel (show 0 < N by omega)
  unfold X1_isWhole
  rw [X1_isWhole_l2, e1, e4, if_pos (by decide), if_pos (by decide), nz_1]
/-- what the reference knows of it -/
theorem far_w {D : Nat → Nat} (w : HKw D) (f : FFl h D) (g : FBr h D) : (nI (D 0) ≤ h.1 237 9 ∨ ¬ h.1 237 10 < nI (D 1)) ↔ ¬ whl D = true := by
  obtain ⟨w0, w1, w2, w3, w4, _⟩ := w
  rw [whl_iff]
  have m1 : ∀ n, n < 2 ^ 30 → ¬ nI n ≤ -1 := by
    intro n hn u
    have h1 := Int32.le_iff_toInt_le.mp u
    rw [nI_toInt (by omega), show (-1 : Int32).toInt = -1 from by decide] at h1
    omega
  have m2 : ∀ n, n < 2 ^ 30 → (-1 : Int32) < nI n := by
    intro n hn
    rw [Int32.lt_iff_toInt_lt, nI_toInt (by omega), show (-1 : Int32).toInt = -1 from by decide]
    omega
  have pA : nI (D 0) ≤ h.1 237 9 ↔ ∃ b, b < D 1 ∧ ¬ D (19 + 4 * b) < D 0 := by
    rcases f with ⟨a, b⟩ | ⟨f, f1, f2, ⟨b, b1, b2⟩, f4⟩
    · rw [b]
      exact ⟨fun u => absurd u (m1 _ (by omega)), fun ⟨b, hb, _⟩ => by omega⟩
    · rw [f2, nI_leI (by omega) (by omega)]
      exact ⟨fun u => ⟨b, b1, by omega⟩, fun ⟨b', hb, u⟩ => by have := f4 b' hb; omega⟩
  have pB : h.1 237 10 < nI (D 1) ↔ D 4 < 2 ^ D 1 := by
    rcases g with ⟨a, b⟩ | ⟨f, f1, f2, f3, f4⟩
    · rw [b, a]
      exact ⟨fun _ => Nat.pow_pos (by decide), fun _ => m2 _ (by omega)⟩
    · rw [f2, nI_ltI (by omega) (by omega)]
      constructor
      · intro u
        apply Nat.lt_pow_two_of_testBit
        intro i hi
        cases e : (D 4).testBit i with
        | false => rfl
        | true => have := f4 i e; omega
      · intro u
        by_cases v : f < D 1
        · exact v
        · have : (D 4).testBit f = false := Nat.testBit_lt_two_pow (Nat.lt_of_lt_of_le u (Nat.pow_le_pow_right (by decide) (by omega)))
          rw [this] at f3
          exact Bool.noConfusion f3
  rw [pA, pB]
  constructor
  · rintro (⟨b, hb, u⟩ | u)
    · exact fun v => u (v.1 b hb)
    · exact fun v => u v.2
  · intro u
    by_cases v : D 4 < 2 ^ D 1
    · left
      apply Classical.byContradiction
      intro n
      apply u
      refine ⟨fun b hb => ?_, v⟩
      apply Classical.byContradiction
      intro n2
      exact n ⟨b, hb, n2⟩
    · exact Or.inr v
end STA
