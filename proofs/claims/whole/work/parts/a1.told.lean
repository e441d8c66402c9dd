/-! ===== level 2: text: the reference's lines of a house ===== -/
def HKw (D : Nat → Nat) : Prop := D 0 ≤ 6 ∧ D 1 ≤ 8 ∧ D 2 ≤ 5 ∧ D 3 ≤ 9 ∧ D 4 < 256 ∧
  (∀ f, f < D 0 → D (5 + 2 * f) ≤ 20 ∧ 1 ≤ D (6 + 2 * f) ∧ D (6 + 2 * f) ≤ 9) ∧
  (∀ b, b < D 1 → D (17 + 4 * b) ≤ 9 ∧ 1 ≤ D (18 + 4 * b) ∧ D (18 + 4 * b) ≤ 4 ∧ D (19 + 4 * b) ≤ 5 ∧ D (20 + 4 * b) ≤ 10) ∧
  (∀ s, s < D 2 → 1 ≤ D (49 + 3 * s) ∧ D (49 + 3 * s) ≤ 9 ∧ 1 ≤ D (50 + 3 * s) ∧ D (50 + 3 * s) ≤ 9 ∧ 1 ≤ D (51 + 3 * s) ∧ D (51 + 3 * s) ≤ 20)
def RHv (h : HS) (D : Nat → Nat) : Prop := ∀ i, i < 81 → h.1 240 i = nI (D i)
def RLf (h h' : HS) : Prop := (∀ k, k ≠ 237 → k ≠ 238 → k ≠ 240 → h'.1 k = h.1 k) ∧ h'.2 = h.2 ∧ (∀ j, (j < 3 ∨ 11 ≤ j) → h'.1 237 j = h.1 237 j) ∧ (∀ i, i ≠ 5 → i ≠ 6 → h'.1 238 i = h.1 238 i)
theorem RLf.refl (h : HS) : RLf h h := ⟨fun _ _ _ _ => rfl, rfl, fun _ _ => rfl, fun _ _ _ => rfl⟩
theorem RLf.trans {a b c : HS} (x : RLf a b) (y : RLf b c) : RLf a c := ⟨fun k h1 h2 h3 => (y.1 k h1 h2 h3).trans (x.1 k h1 h2 h3), y.2.1.trans x.2.1, fun j hj => (y.2.2.1 j hj).trans (x.2.2.1 j hj), fun i h1 h2 => (y.2.2.2 i h1 h2).trans (x.2.2.2 i h1 h2)⟩
theorem RLf_n {a b : HS} (x : UNf a b) : RLf a b := ⟨fun k h1 h2 _ => x.1 k h1 h2, x.2.1, fun j hj => x.2.2.1 j (by omega), x.2.2.2⟩
theorem RLf_d {a b : HS} (x : RLf a b) (j : Nat) (v : Int32) : RLf a (wi b 240 j v) := ⟨fun k h1 h2 h3 => by rw [wi_k _ _ h3]; exact x.1 k h1 h2 h3, x.2.1, fun j hj => by rw [wi_k _ _ (by decide)]; exact x.2.2.1 j hj, fun i h1 h2 => by rw [wi_k _ _ (by decide)]; exact x.2.2.2 i h1 h2⟩
theorem RLf_f {a b : HS} (x : RLf a b) {j : Nat} (hj : j = 9 ∨ j = 10) (v : Int32) : RLf a (wi b 237 j v) := ⟨fun k h1 h2 h3 => by rw [wi_k _ _ h1]; exact x.1 k h1 h2 h3, x.2.1, fun i hi => by rw [wi_j _ _ (by omega)]; exact x.2.2.1 i hi, fun i h1 h2 => by rw [wi_k _ _ (by decide)]; exact x.2.2.2 i h1 h2⟩
theorem RHv_wi {h : HS} {D : Nat → Nat} (c : RHv h D) (j v : Nat) : RHv (wi h 240 j (nI v)) (up1 D j v) := by
  intro i hi
  by_cases w : i = j
  · subst w; rw [wi_s, up1_e rfl]
  · rw [wi_j _ _ w, up1_n w]; exact c i hi
theorem RHv_n {h h' : HS} {D : Nat → Nat} (c : RHv h D) (e : h'.1 240 = h.1 240) : RHv h' D := by
  intro i hi; rw [e]; exact c i hi
theorem hw_F {D : Nat → Nat} (k : HKw D) {a b : Nat} (ha : a ≤ 20) (hb : 1 ≤ b ∧ b ≤ 9) : HKw (upF a b D) := by
  unfold upF
  by_cases y : D 0 < 6
  · rw [if_pos y]
    obtain ⟨k0, k1, k2, k3, k4, kF, kB, kS⟩ := k
    refine ⟨?_, ?_, ?_, ?_, ?_, ?_, ?_, ?_⟩
    · simp (disch := omega) only [up1_e, up1_n]; omega
    · simp (disch := omega) only [up1_e, up1_n]; omega
    · simp (disch := omega) only [up1_e, up1_n]; omega
    · simp (disch := omega) only [up1_e, up1_n]; omega
    · simp (disch := omega) only [up1_e, up1_n]; omega
    · intro f hf
      rw [up1_e rfl] at hf
      by_cases w : f = D 0
      · subst w; simp (disch := omega) only [up1_e, up1_n]; omega
      · simp (disch := omega) only [up1_e, up1_n]; exact kF f (by omega)
    · intro b hb
      have hb' : b < D 1 := by
        revert hb
        simp (disch := omega) only [up1_n]
        exact id
      simp (disch := omega) only [up1_n]; exact kB b hb'
    · intro s hs
      have hs' : s < D 2 := by
        revert hs
        simp (disch := omega) only [up1_n]
        exact id
      simp (disch := omega) only [up1_n]; exact kS s hs'
  · rw [if_neg y]; exact k
theorem hw_B {D : Nat → Nat} (k : HKw D) {a b c d : Nat} (ha : a ≤ 9) (hb : 1 ≤ b ∧ b ≤ 4) (hc : c ≤ 5) (hd : d ≤ 10) : HKw (upB a b c d D) := by
  unfold upB
  by_cases y : D 1 < 8
  · rw [if_pos y]
    obtain ⟨k0, k1, k2, k3, k4, kF, kB, kS⟩ := k
    refine ⟨?_, ?_, ?_, ?_, ?_, ?_, ?_, ?_⟩
    · simp (disch := omega) only [up1_e, up1_n]; omega
    · simp (disch := omega) only [up1_e, up1_n]; omega
    · simp (disch := omega) only [up1_e, up1_n]; omega
    · simp (disch := omega) only [up1_e, up1_n]; omega
    · simp (disch := omega) only [up1_e, up1_n]; omega
    · intro f hf
      have hf' : f < D 0 := by
        revert hf
        simp (disch := omega) only [up1_n]
        exact id
      simp (disch := omega) only [up1_n]; exact kF f hf'
    · intro i hi
      rw [up1_e rfl] at hi
      by_cases w : i = D 1
      · subst w; simp (disch := omega) only [up1_e, up1_n]; omega
      · simp (disch := omega) only [up1_e, up1_n]; exact kB i (by omega)
    · intro s hs
      have hs' : s < D 2 := by
        revert hs
        simp (disch := omega) only [up1_n]
        exact id
      simp (disch := omega) only [up1_n]; exact kS s hs'
  · rw [if_neg y]; exact k
theorem hw_S {D : Nat → Nat} (k : HKw D) {a b c : Nat} (ha : 1 ≤ a ∧ a ≤ 9) (hb : 1 ≤ b ∧ b ≤ 9) (hc : 1 ≤ c ∧ c ≤ 20) : HKw (upS a b c D) := by
  unfold upS
  by_cases y : D 2 < 5
  · rw [if_pos y]
    obtain ⟨k0, k1, k2, k3, k4, kF, kB, kS⟩ := k
    refine ⟨?_, ?_, ?_, ?_, ?_, ?_, ?_, ?_⟩
    · simp (disch := omega) only [up1_e, up1_n]; omega
    · simp (disch := omega) only [up1_e, up1_n]; omega
    · simp (disch := omega) only [up1_e, up1_n]; omega
    · simp (disch := omega) only [up1_e, up1_n]; omega
    · simp (disch := omega) only [up1_e, up1_n]; omega
    · intro f hf
      have hf' : f < D 0 := by
        revert hf
        simp (disch := omega) only [up1_n]
        exact id
      simp (disch := omega) only [up1_n]; exact kF f hf'
    · intro i hi
      have hi' : i < D 1 := by
        revert hi
        simp (disch := omega) only [up1_n]
        exact id
      simp (disch := omega) only [up1_n]; exact kB i hi'
    · intro s hs
      rw [up1_e rfl] at hs
      by_cases w : s = D 2
      · subst w; simp (disch := omega) only [up1_e, up1_n]; omega
      · simp (disch := omega) only [up1_e, up1_n]; exact kS s (by omega)
  · rw [if_neg y]; exact k
theorem hw_1 {D : Nat → Nat} (k : HKw D) {i v : Nat} (hi : i = 3 ∨ i = 4) (h3 : i = 3 → v ≤ 9) (h4 : i = 4 → v < 256) : HKw (up1 D i v) := by
  obtain ⟨k0, k1, k2, k3, k4, kF, kB, kS⟩ := k
  refine ⟨?_, ?_, ?_, ?_, ?_, ?_, ?_, ?_⟩
  · rw [up1_n (by omega)]; exact k0
  · rw [up1_n (by omega)]; exact k1
  · rw [up1_n (by omega)]; exact k2
  · by_cases w : 3 = i
    · rw [up1_e w]; exact h3 w.symm
    · rw [up1_n w]; exact k3
  · by_cases w : 4 = i
    · rw [up1_e w]; exact h4 w.symm
    · rw [up1_n w]; exact k4
  · intro f hf
    rw [up1_n (by omega)] at hf
    simp (disch := omega) only [up1_n]; exact kF f hf
  · intro b hb
    rw [up1_n (by omega)] at hb
    simp (disch := omega) only [up1_n]; exact kB b hb
  · intro s hs
    rw [up1_n (by omega)] at hs
    simp (disch := omega) only [up1_n]; exact kS s hs
theorem nmV_in {t : Nat → Nat} {z lo hi : Nat} (h : lo ≤ hi) (st : PSt) : lo ≤ nmV t z lo hi st ∧ nmV t z lo hi st ≤ hi := by
  cases st with
  | inr y => exact ⟨Nat.le_refl _, h⟩
  | inl q =>
    obtain ⟨p, x⟩ := q
    rw [nmV]
    by_cases w : tkc t z p = 2 ∧ lo ≤ val t z p ∧ val t z p ≤ hi
    · rw [if_pos w]; exact w.2
    · rw [if_neg w]; omega
section RTD
variable {N : Nat} {h : HS} {t : Nat → Nat} {z : Nat} {D : Nat → Nat}
abbrev T0 (h : HS) (D : Nat → Nat) : Prop := RHv h D ∧ HKw D
theorem r_full {p s : Nat} {x : Nat × Int32} (c : RSg h t z p x) (f : fOK x s) (hs : s < p) : ∃ h0, X11_also N h 237 3 (nI s) = some h0 ∧ RSg h0 t z p (blm x false 3 s) ∧ RFl h h0 := by
  obtain ⟨c1, c2, c3, c4, c5⟩ := c
  have hz := c1.1.1
  have hp := c1.2.1
  obtain ⟨h0, b1, b2, b3, b4⟩ := r_also (N := N) (h := h) (p := s) (kind := 3) (x := x) (by decide) (by omega) c2 c3 c4 (by
    rcases f with f | ⟨f, a, ha, e⟩
    · exact Or.inl f.1
    · exact Or.inr ⟨f, a, e, Or.inl ha⟩)
  exact ⟨h0, b1, ⟨RTok_s c1 (fun j _ => by rw [b4.1 237 (by decide)]) (fun i _ _ => b4.2.2 i (by omega) (by omega)), by rw [b4.1 237 (by decide)]; exact c2, b2, b3, fOK_blm c5 hs false (Or.inr rfl)⟩, b4⟩
abbrev sF1 (t : Nat → Nat) (z : Nat) (st : PSt) : PSt := nmS t z 0 20 st
abbrev sF2 (t : Nat → Nat) (z : Nat) (st : PSt) : PSt := nmS t z 1 9 (sF1 t z st)
theorem r_floor17 (hN : 2000 ≤ N) {st : PSt} (c : RSt h t z st) (d : T0 h D) : ∃ h', X11_floorTold_b17 N h 237 = some h' ∧ RSt h' t z (sF2 t z st) ∧ T0 h' (upF (nmV t z 0 20 st) (nmV t z 1 9 (sF1 t z st)) D) ∧ RLf h h' ∧ h'.1 237 9 = h.1 237 9 ∧ h'.1 237 10 = h.1 237 10 := by
  obtain ⟨h1, a1, a2, a3⟩ := r_numbered (N := N) hN (lo := 0) (hi := 20) c (by decide) (by decide)
  obtain ⟨h2, b1, b2, b3⟩ := r_numbered (N := N) hN (lo := 1) (hi := 9) a2 (by decide) (by decide)
  have v0 := nmV_in (t := t) (z := z) (lo := 0) (hi := 20) (by decide) st
  have v1 := nmV_in (t := t) (z := z) (lo := 1) (hi := 9) (by decide) (sF1 t z st)
  have d2 : RHv h2 D := RHv_n d.1 (by rw [b3.1 240 (by decide) (by decide), a3.1 240 (by decide) (by decide)])
  have f2 : RLf h h2 := RLf.trans (RLf_n a3) (RLf_n b3)
  have n9 : h2.1 237 9 = h.1 237 9 ∧ h2.1 237 10 = h.1 237 10 := ⟨by rw [b3.2.2.1 9 (by decide), a3.2.2.1 9 (by decide)], by rw [b3.2.2.1 10 (by decide), a3.2.2.1 10 (by decide)]⟩
  have hw := hw_F d.2 v0.2 v1
  have k0 := d.2.1
  unfold X11_floorTold_b17
  rw [show X11_numbered N h 237 0 20 = _ from a1, bd2_some, show X11_numbered N h1 237 1 9 = _ from b1, bd2_some, if_neg (by decide), show h2.1 (237 + 3) (0 : Int32).toNatClampNeg = nI (D 0) from d2 0 (by decide)]
  generalize nmV t z 0 20 st = v0' at *
  generalize nmV t z 1 9 (sF1 t z st) = v1' at *
  unfold upF at hw ⊢
  by_cases y : D 0 < 6
  · rw [if_pos y] at hw ⊢
    have e5 : (5 : Int32) + 2 * nI (D 0) = nI (5 + 2 * D 0) := by rw [zn5, zn2, pk_mul, nI_add]
    have e6 : (6 : Int32) + 2 * nI (D 0) = nI (6 + 2 * D 0) := by rw [zn6, zn2, pk_mul, nI_add]
    rw [if_pos (show nI (D 0) < 6 from nI_lt (b := 6) y (by decide)), if_neg (by decide), e5, if_neg (nI_in (by omega) (by decide)), sq_eq, nI_clamp (by omega), if_neg (by decide)]
    have d3 := RHv_wi d2 (5 + 2 * D 0) v0'
    rw [show (wi h2 (237 + 3) (5 + 2 * D 0) (nI v0')).1 (237 + 3) (0 : Int32).toNatClampNeg = nI (D 0) from (d3 0 (by decide)).trans (by rw [up1_n (by omega)]), e6, if_neg (nI_in (by omega) (by decide)), sq_eq, nI_clamp (by omega), if_neg (by decide), if_neg (by decide), sq_eq]
    have d4 := RHv_wi d3 (6 + 2 * D 0) v1'
    rw [show (wi (wi h2 (237 + 3) (5 + 2 * D 0) (nI v0')) (237 + 3) (6 + 2 * D 0) (nI v1')).1 (237 + 3) (0 : Int32).toNatClampNeg = nI (D 0) from (d4 0 (by decide)).trans (by rw [up1_n (by omega), up1_n (by omega)]), nI_1]
    refine ⟨_, rfl, RSt_w b2 ?_ ?_, ⟨RHv_wi d4 0 (D 0 + 1), hw⟩, RLf_d (RLf_d (RLf_d f2 _ _) _ _) _ _, ?_, ?_⟩
    · intro j _; rw [wi_k _ _ (by decide), wi_k _ _ (by decide), wi_k _ _ (by decide)]
    · rw [wi_k _ _ (by decide), wi_k _ _ (by decide), wi_k _ _ (by decide)]
    · rw [wi_k _ _ (by decide), wi_k _ _ (by decide), wi_k _ _ (by decide)]; exact n9.1
    · rw [wi_k _ _ (by decide), wi_k _ _ (by decide), wi_k _ _ (by decide)]; exact n9.2
  · rw [if_neg y] at hw ⊢
    rw [if_neg (show ¬ nI (D 0) < 6 from nI_nlt (b := 6) (by omega) (by omega))]
    exact ⟨h2, rfl, b2, ⟨d2, hw⟩, f2, n9.1, n9.2⟩
theorem r_floorTold (hN : 2000 ≤ N) {p s : Nat} {x : Nat × Int32} (c : RSg h t z p x) (f : fOK x s) (hs : s < p) (d : T0 h D) : ∃ h', X11_floorTold N h 237 (nI s) = some h' ∧ RSt h' t z (sF2 t z (.inl (p, blm x (decide (D 0 < 6)) 3 s))) ∧ T0 h' (upF (nmV t z 0 20 (.inl (p, blm x (decide (D 0 < 6)) 3 s))) (nmV t z 1 9 (sF1 t z (.inl (p, blm x (decide (D 0 < 6)) 3 s)))) D) ∧ RLf h h' ∧ h'.1 237 9 = h.1 237 9 ∧ h'.1 237 10 = h.1 237 10 := by
  unfold X11_floorTold
  rw [if_neg (by decide), show h.1 (237 + 3) (0 : Int32).toNatClampNeg = nI (D 0) from d.1 0 (by decide)]
  have k0 := d.2.1
  by_cases y : D 0 < 6
  · rw [if_pos (show nI (D 0) < 6 from nI_lt (b := 6) y (by decide)), decide_eq_true y, show blm x true 3 s = x from if_pos rfl]
    exact r_floor17 hN (st := .inl (p, x)) c d
  · rw [if_neg (show ¬ nI (D 0) < 6 from nI_nlt (b := 6) (by omega) (by omega)), decide_eq_false y]
    obtain ⟨h0, b1, b2, b3⟩ := r_full (N := N) c f hs
    rw [b1, bd1_some]
    obtain ⟨h', e1, e2, e3, e4, e5, e6⟩ := r_floor17 (N := N) hN (h := h0) (st := .inl (p, blm x false 3 s)) b2 ⟨RHv_n d.1 (b3.1 240 (by decide)), d.2⟩
    exact ⟨h', e1, e2, e3, RLf.trans (RLf_n (UNf_l b3)) e4, by rw [e5, b3.1 237 (by decide)], by rw [e6, b3.1 237 (by decide)]⟩
abbrev sB1 (t : Nat → Nat) (z : Nat) (st : PSt) : PSt := nmS t z 0 9 st
abbrev sB2 (t : Nat → Nat) (z : Nat) (st : PSt) : PSt := nmS t z 1 4 (sB1 t z st)
abbrev sB3 (t : Nat → Nat) (z : Nat) (st : PSt) : PSt := nmS t z 0 5 (sB2 t z st)
abbrev sB4 (t : Nat → Nat) (z : Nat) (st : PSt) : PSt := nmS t z 0 10 (sB3 t z st)
abbrev mxI (a b : Int32) : Int32 := if a ≤ b then b else a
theorem r_bar68 {st : PSt} (c : RSt h t z st) (d : RHv h D) (k1 : D 1 ≤ 8) (v0 v1 v2 v3 : Nat) (u : Int32) : ∃ h', X11_barTold_b68 N h 237 (nI v0) (nI v1) (nI v2) (nI v3) u 237 = some h' ∧ RSt h' t z st ∧ RHv h' (upB v0 v1 v2 v3 D) ∧ RLf h h' ∧ h'.1 237 9 = u ∧ h'.1 237 10 = h.1 237 10 := by
  unfold X11_barTold_b68
  rw [sq_eq, if_neg (by decide)]
  have c1 : RSt (wi h 237 9 u) t z st := RSt_w c (fun j hj => by rw [wi_j _ _ (by omega)]) (wi_k _ _ (by decide))
  have d1 : RHv (wi h 237 9 u) D := RHv_n d (wi_k _ _ (by decide))
  have f1 : RLf h (wi h 237 9 u) := RLf_f (RLf.refl h) (Or.inl rfl) _
  have n9 : (wi h 237 9 u).1 237 9 = u ∧ (wi h 237 9 u).1 237 10 = h.1 237 10 := ⟨wi_s _ _ _ _, wi_j _ _ (by decide)⟩
  generalize wi h 237 9 u = g at c1 d1 f1 n9 ⊢
  rw [show g.1 (237 + 3) (1 : Int32).toNatClampNeg = nI (D 1) from d1 1 (by decide)]
  unfold upB
  by_cases y : D 1 < 8
  · have e0 : (17 : Int32) + 4 * nI (D 1) = nI (17 + 4 * D 1) := by rw [zn17, zn4, pk_mul, nI_add]
    have e1 : nI (17 + 4 * D 1) + 1 = nI (18 + 4 * D 1) := by rw [nI_1]; congr 1; omega
    have e2 : nI (17 + 4 * D 1) + 2 = nI (19 + 4 * D 1) := by rw [zn2, nI_add]; congr 1; omega
    have e3 : nI (17 + 4 * D 1) + 3 = nI (20 + 4 * D 1) := by rw [zn3, nI_add]; congr 1; omega
    rw [if_pos y, if_pos (show nI (D 1) < 8 from nI_lt (b := 8) y (by decide)), if_neg (by decide), e0, if_neg (nI_in (by omega) (by decide)), sq_eq, nI_clamp (by omega), e1, if_neg (nI_in (by omega) (by decide)), sq_eq, nI_clamp (by omega), e2, if_neg (nI_in (by omega) (by decide)), sq_eq, nI_clamp (by omega), e3, if_neg (nI_in (by omega) (by decide)), sq_eq, nI_clamp (by omega), if_neg (by decide), if_neg (by decide), sq_eq]
    have d5 := RHv_wi (RHv_wi (RHv_wi (RHv_wi d1 (17 + 4 * D 1) v0) (18 + 4 * D 1) v1) (19 + 4 * D 1) v2) (20 + 4 * D 1) v3
    rw [show (wi (wi (wi (wi g (237 + 3) (17 + 4 * D 1) (nI v0)) (237 + 3) (18 + 4 * D 1) (nI v1)) (237 + 3) (19 + 4 * D 1) (nI v2)) (237 + 3) (20 + 4 * D 1) (nI v3)).1 (237 + 3) (1 : Int32).toNatClampNeg = nI (D 1) from (d5 1 (by decide)).trans (by rw [up1_n (by omega), up1_n (by omega), up1_n (by omega), up1_n (by omega)]), nI_1]
    refine ⟨_, rfl, RSt_w c1 ?_ ?_, RHv_wi d5 1 (D 1 + 1), RLf_d (RLf_d (RLf_d (RLf_d (RLf_d f1 _ _) _ _) _ _) _ _) _ _, ?_, ?_⟩
    · intro j _; simp (disch := decide) only [wi_k]
    · simp (disch := decide) only [wi_k]
    · simp (disch := decide) only [wi_k]; exact n9.1
    · simp (disch := decide) only [wi_k]; exact n9.2
  · rw [if_neg y, if_neg (show ¬ nI (D 1) < 8 from nI_nlt (b := 8) (by omega) (by omega))]
    exact ⟨g, rfl, c1, d1, f1, n9.1, n9.2⟩
theorem r_bar17 (hN : 2000 ≤ N) {st : PSt} (c : RSt h t z st) (d : T0 h D) : ∃ h', X11_barTold_b17 N h 237 = some h' ∧ RSt h' t z (sB4 t z st) ∧ T0 h' (upB (nmV t z 0 9 st) (nmV t z 1 4 (sB1 t z st)) (nmV t z 0 5 (sB2 t z st)) (nmV t z 0 10 (sB3 t z st)) D) ∧ RLf h h' ∧ h'.1 237 9 = mxI (nI (nmV t z 0 5 (sB2 t z st))) (h.1 237 9) ∧ h'.1 237 10 = h.1 237 10 := by
  obtain ⟨h1, a1, a2, a3⟩ := r_numbered (N := N) hN (lo := 0) (hi := 9) c (by decide) (by decide)
  obtain ⟨h2, b1, b2, b3⟩ := r_numbered (N := N) hN (lo := 1) (hi := 4) a2 (by decide) (by decide)
  obtain ⟨h3, c1, c2, c3⟩ := r_numbered (N := N) hN (lo := 0) (hi := 5) b2 (by decide) (by decide)
  obtain ⟨h4, g1, g2, g3⟩ := r_numbered (N := N) hN (lo := 0) (hi := 10) c2 (by decide) (by decide)
  have v0 := nmV_in (t := t) (z := z) (lo := 0) (hi := 9) (by decide) st
  have v1 := nmV_in (t := t) (z := z) (lo := 1) (hi := 4) (by decide) (sB1 t z st)
  have v2 := nmV_in (t := t) (z := z) (lo := 0) (hi := 5) (by decide) (sB2 t z st)
  have v3 := nmV_in (t := t) (z := z) (lo := 0) (hi := 10) (by decide) (sB3 t z st)
  have d4 : RHv h4 D := RHv_n d.1 (by rw [g3.1 240 (by decide) (by decide), c3.1 240 (by decide) (by decide), b3.1 240 (by decide) (by decide), a3.1 240 (by decide) (by decide)])
  have f4 : RLf h h4 := RLf.trans (RLf.trans (RLf_n a3) (RLf_n b3)) (RLf.trans (RLf_n c3) (RLf_n g3))
  have n9 : h4.1 237 9 = h.1 237 9 ∧ h4.1 237 10 = h.1 237 10 := ⟨by rw [g3.2.2.1 9 (by decide), c3.2.2.1 9 (by decide), b3.2.2.1 9 (by decide), a3.2.2.1 9 (by decide)], by rw [g3.2.2.1 10 (by decide), c3.2.2.1 10 (by decide), b3.2.2.1 10 (by decide), a3.2.2.1 10 (by decide)]⟩
  have hw := hw_B d.2 v0.2 v1 v2.2 v3.2
  unfold X11_barTold_b17
  rw [show X11_numbered N h 237 0 9 = _ from a1, bd2_some, show X11_numbered N h1 237 1 4 = _ from b1, bd2_some, show X11_numbered N h2 237 0 5 = _ from c1, bd2_some, show X11_numbered N h3 237 0 10 = _ from g1, bd2_some, n9.1]
  have fin : ∀ u : Int32, u = mxI (nI (nmV t z 0 5 (sB2 t z st))) (h.1 237 9) → ∃ h', X11_barTold_b68 N h4 237 (nI (nmV t z 0 9 st)) (nI (nmV t z 1 4 (sB1 t z st))) (nI (nmV t z 0 5 (sB2 t z st))) (nI (nmV t z 0 10 (sB3 t z st))) u 237 = some h' ∧ RSt h' t z (sB4 t z st) ∧ T0 h' (upB (nmV t z 0 9 st) (nmV t z 1 4 (sB1 t z st)) (nmV t z 0 5 (sB2 t z st)) (nmV t z 0 10 (sB3 t z st)) D) ∧ RLf h h' ∧ h'.1 237 9 = mxI (nI (nmV t z 0 5 (sB2 t z st))) (h.1 237 9) ∧ h'.1 237 10 = h.1 237 10 := by
    intro u hu
    obtain ⟨h', e1, e2, e3, e4, e5, e6⟩ := r_bar68 (N := N) g2 d4 d.2.2.1 (nmV t z 0 9 st) (nmV t z 1 4 (sB1 t z st)) (nmV t z 0 5 (sB2 t z st)) (nmV t z 0 10 (sB3 t z st)) u
    exact ⟨h', e1, e2, ⟨e3, hw⟩, RLf.trans f4 e4, by rw [e5, hu], by rw [e6]; exact n9.2⟩
  by_cases y : nI (nmV t z 0 5 (sB2 t z st)) ≤ h.1 237 9
  · rw [if_pos y]
    exact fin _ (by rw [mxI, if_pos y])
  · rw [if_neg y]
    exact fin _ (by rw [mxI, if_neg y])
theorem r_barTold (hN : 2000 ≤ N) {p s : Nat} {x : Nat × Int32} (c : RSg h t z p x) (f : fOK x s) (hs : s < p) (d : T0 h D) {st : PSt} (hst : st = .inl (p, blm x (decide (D 1 < 8)) 3 s)) : ∃ h', X11_barTold N h 237 (nI s) = some h' ∧ RSt h' t z (sB4 t z st) ∧ T0 h' (upB (nmV t z 0 9 st) (nmV t z 1 4 (sB1 t z st)) (nmV t z 0 5 (sB2 t z st)) (nmV t z 0 10 (sB3 t z st)) D) ∧ RLf h h' ∧ h'.1 237 9 = mxI (nI (nmV t z 0 5 (sB2 t z st))) (h.1 237 9) ∧ h'.1 237 10 = h.1 237 10 := by
  unfold X11_barTold
  rw [if_neg (by decide), show h.1 (237 + 3) (1 : Int32).toNatClampNeg = nI (D 1) from d.1 1 (by decide)]
  have k0 := d.2.2.1
  by_cases y : D 1 < 8
  · rw [decide_eq_true y, show blm x true 3 s = x from if_pos rfl] at hst
    rw [if_pos (show nI (D 1) < 8 from nI_lt (b := 8) y (by decide))]
    exact r_bar17 hN (by rw [hst]; exact c) d
  · rw [decide_eq_false y] at hst
    rw [if_neg (show ¬ nI (D 1) < 8 from nI_nlt (b := 8) (by omega) (by omega))]
    obtain ⟨h0, b1, b2, b3⟩ := r_full (N := N) c f hs
    rw [b1, bd1_some]
    obtain ⟨h', e1, e2, e3, e4, e5, e6⟩ := r_bar17 (N := N) hN (h := h0) (st := st) (by rw [hst]; exact b2) ⟨RHv_n d.1 (b3.1 240 (by decide)), d.2⟩
    exact ⟨h', e1, e2, e3, RLf.trans (RLf_n (UNf_l b3)) e4, by rw [e5, b3.1 237 (by decide)], by rw [e6, b3.1 237 (by decide)]⟩
abbrev sS1 (t : Nat → Nat) (z : Nat) (st : PSt) : PSt := nmS t z 1 9 st
abbrev sS2 (t : Nat → Nat) (z : Nat) (st : PSt) : PSt := nmA t z (nmV t z 1 9 st) (sS1 t z st)
abbrev sS3 (t : Nat → Nat) (z : Nat) (st : PSt) : PSt := nmS t z 1 20 (sS2 t z st)
theorem r_singer16 (hN : 2000 ≤ N) {st : PSt} (c : RSt h t z st) (d : T0 h D) : ∃ h', X11_singerTold_b16 N h 237 = some h' ∧ RSt h' t z (sS3 t z st) ∧ T0 h' (upS (nmV t z 1 9 st) (nmV t z 1 9 (sS1 t z st)) (nmV t z 1 20 (sS2 t z st)) D) ∧ RLf h h' ∧ h'.1 237 9 = h.1 237 9 ∧ h'.1 237 10 = h.1 237 10 := by
  have v0 := nmV_in (t := t) (z := z) (lo := 1) (hi := 9) (by decide) st
  obtain ⟨h1, a1, a2, a3⟩ := r_numbered (N := N) hN (lo := 1) (hi := 9) c (by decide) (by decide)
  obtain ⟨h2, b1, b2, b3⟩ := r_above (N := N) hN (low := nmV t z 1 9 st) a2 (by omega)
  obtain ⟨h3, c1, c2, c3⟩ := r_numbered (N := N) hN (lo := 1) (hi := 20) b2 (by decide) (by decide)
  have v1 := nmV_in (t := t) (z := z) (lo := 1) (hi := 9) (by decide) (sS1 t z st)
  have v2 := nmV_in (t := t) (z := z) (lo := 1) (hi := 20) (by decide) (sS2 t z st)
  have d3 : RHv h3 D := RHv_n d.1 (by rw [c3.1 240 (by decide) (by decide), b3.1 240 (by decide) (by decide), a3.1 240 (by decide) (by decide)])
  have f3 : RLf h h3 := RLf.trans (RLf.trans (RLf_n a3) (RLf_n b3)) (RLf_n c3)
  have n9 : h3.1 237 9 = h.1 237 9 ∧ h3.1 237 10 = h.1 237 10 := ⟨by rw [c3.2.2.1 9 (by decide), b3.2.2.1 9 (by decide), a3.2.2.1 9 (by decide)], by rw [c3.2.2.1 10 (by decide), b3.2.2.1 10 (by decide), a3.2.2.1 10 (by decide)]⟩
  have hw := hw_S d.2 v0 v1 v2
  have k2 := d.2.2.2.1
  unfold X11_singerTold_b16
  rw [show X11_numbered N h 237 1 9 = _ from a1, bd2_some, b1, bd2_some, show X11_numbered N h2 237 1 20 = _ from c1, bd2_some, if_neg (by decide), show h3.1 (237 + 3) (2 : Int32).toNatClampNeg = nI (D 2) from d3 2 (by decide)]
  obtain ⟨w1, hw1⟩ : ∃ w, w = nmV t z 1 9 (sS1 t z st) := ⟨_, rfl⟩
  obtain ⟨w2, hw2⟩ : ∃ w, w = nmV t z 1 20 (sS2 t z st) := ⟨_, rfl⟩
  obtain ⟨w0, hw0⟩ : ∃ w, w = nmV t z 1 9 st := ⟨_, rfl⟩
  rw [← hw2, ← hw1, ← hw0] at hw ⊢
  unfold upS at hw ⊢
  by_cases y : D 2 < 5
  · rw [if_pos y] at hw ⊢
    have e0 : (49 : Int32) + 3 * nI (D 2) = nI (49 + 3 * D 2) := by rw [zn49, zn3, pk_mul, nI_add]
    have e1 : nI (49 + 3 * D 2) + 1 = nI (50 + 3 * D 2) := by rw [nI_1]; congr 1; omega
    have e2 : nI (49 + 3 * D 2) + 2 = nI (51 + 3 * D 2) := by rw [zn2, nI_add]; congr 1; omega
    rw [if_pos (show nI (D 2) < 5 from nI_lt (b := 5) y (by decide)), if_neg (by decide), e0, if_neg (nI_in (by omega) (by decide)), sq_eq, nI_clamp (by omega), e1, if_neg (nI_in (by omega) (by decide)), sq_eq, nI_clamp (by omega), e2, if_neg (nI_in (by omega) (by decide)), sq_eq, nI_clamp (by omega), if_neg (by decide), if_neg (by decide), sq_eq]
    have d5 := RHv_wi (RHv_wi (RHv_wi d3 (49 + 3 * D 2) w0) (50 + 3 * D 2) w1) (51 + 3 * D 2) w2
    rw [show (wi (wi (wi h3 (237 + 3) (49 + 3 * D 2) (nI w0)) (237 + 3) (50 + 3 * D 2) (nI w1)) (237 + 3) (51 + 3 * D 2) (nI w2)).1 (237 + 3) (2 : Int32).toNatClampNeg = nI (D 2) from (d5 2 (by decide)).trans (by rw [up1_n (by omega), up1_n (by omega), up1_n (by omega)]), nI_1]
    refine ⟨_, rfl, RSt_w c2 ?_ ?_, ⟨RHv_wi d5 2 (D 2 + 1), hw⟩, RLf_d (RLf_d (RLf_d (RLf_d f3 _ _) _ _) _ _) _ _, ?_, ?_⟩
    · intro j _; simp (disch := decide) only [wi_k]
    · simp (disch := decide) only [wi_k]
    · simp (disch := decide) only [wi_k]; exact n9.1
    · simp (disch := decide) only [wi_k]; exact n9.2
  · rw [if_neg y] at hw ⊢
    rw [if_neg (show ¬ nI (D 2) < 5 from nI_nlt (b := 5) (by omega) (by omega))]
    exact ⟨h3, rfl, c2, ⟨d3, hw⟩, f3, n9.1, n9.2⟩
theorem r_singerTold (hN : 2000 ≤ N) {p s : Nat} {x : Nat × Int32} (c : RSg h t z p x) (f : fOK x s) (hs : s < p) (d : T0 h D) {st : PSt} (hst : st = .inl (p, blm x (decide (D 2 < 5)) 3 s)) : ∃ h', X11_singerTold N h 237 (nI s) = some h' ∧ RSt h' t z (sS3 t z st) ∧ T0 h' (upS (nmV t z 1 9 st) (nmV t z 1 9 (sS1 t z st)) (nmV t z 1 20 (sS2 t z st)) D) ∧ RLf h h' ∧ h'.1 237 9 = h.1 237 9 ∧ h'.1 237 10 = h.1 237 10 := by
  unfold X11_singerTold
  rw [if_neg (by decide), show h.1 (237 + 3) (2 : Int32).toNatClampNeg = nI (D 2) from d.1 2 (by decide)]
  have k0 := d.2.2.2.1
  by_cases y : D 2 < 5
  · rw [decide_eq_true y, show blm x true 3 s = x from if_pos rfl] at hst
    rw [if_pos (show nI (D 2) < 5 from nI_lt (b := 5) y (by decide))]
    exact r_singer16 hN (by rw [hst]; exact c) d
  · rw [decide_eq_false y] at hst
    rw [if_neg (show ¬ nI (D 2) < 5 from nI_nlt (b := 5) (by omega) (by omega))]
    obtain ⟨h0, b1, b2, b3⟩ := r_full (N := N) c f hs
    rw [b1, bd1_some]
    obtain ⟨h', e1, e2, e3, e4, e5, e6⟩ := r_singer16 (N := N) hN (h := h0) (st := st) (by rw [hst]; exact b2) ⟨RHv_n d.1 (b3.1 240 (by decide)), d.2⟩
    exact ⟨h', e1, e2, e3, RLf.trans (RLf_n (UNf_l b3)) e4, by rw [e5, b3.1 237 (by decide)], by rw [e6, b3.1 237 (by decide)]⟩
end RTD
