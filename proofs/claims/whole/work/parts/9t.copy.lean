/-! ===== level 2: copies ===== -/
/-- sizes of all rows, also of those that nobody has told -/
def SZr (h : HS) (p M : Nat) : Prop := ∃ m, m ≤ M ∧ h.1 p 3 = nI m
def SZ (h : HS) (T : Nat) : Prop := SZr h (T + 25) 40 ∧ SZr h (T + 28) 40 ∧ SZr h (T + 32) 8 ∧ SZr h (T + 35) 8
def INX (h : HS) : Prop := INV h ∧ SZ h 2 ∧ ∀ k, k < 3 → SZ h (41 + 38 * k)
theorem SZ_fr {h w : HS} {T : Nat} (e : ∀ k, T + 25 ≤ k → k < T + 38 → w.1 k = h.1 k) (m : SZ h T) : SZ w T := by
  unfold SZ SZr
  rw [e _ (by omega) (by omega), e _ (by omega) (by omega), e _ (by omega) (by omega), e _ (by omega) (by omega)]
  exact m
theorem INX_same {h h' : HS} (s : Same h h') (I : INX h) : INX h' := ⟨INV_same s I.1, SZ_fr (fun k h1 h2 => s k (Or.inl (by omega))) I.2.1, fun k hk => SZ_fr (fun j h1 h2 => s j (Or.inl (by omega))) (I.2.2 k hk)⟩
/-- houses -/
theorem c_hcopy {N : Nat} {h : HS} {d s : Nat} (hds : d + 10 ≤ s ∨ s + 10 ≤ d) : ∃ h', X1_copy N h d s = some h' ∧ (∀ j, j < 5 → h'.1 d j = h.1 s j) ∧ (∀ i, i < 6 → h'.1 (d + 1) i = h.1 (s + 1) i ∧ h'.1 (d + 2) i = h.1 (s + 2) i) ∧ (∀ i, i < 8 → h'.1 (d + 3) i = h.1 (s + 3) i ∧ h'.1 (d + 4) i = h.1 (s + 4) i ∧ h'.1 (d + 5) i = h.1 (s + 5) i ∧ h'.1 (d + 6) i = h.1 (s + 6) i) ∧ (∀ i, i < 5 → h'.1 (d + 7) i = h.1 (s + 7) i ∧ h'.1 (d + 8) i = h.1 (s + 8) i ∧ h'.1 (d + 9) i = h.1 (s + 9) i) ∧ (∀ k, k < d ∨ d + 10 ≤ k → h'.1 k = h.1 k) ∧ h'.2 = h.2 := by
  unfold X1_copy
  simp only [sq_eq]
  refine ⟨_, rfl, ?_, ?_, ?_, ?_, ?_, rfl⟩
  · intro j hj
    simp (disch := omega) only [wa_k, wi_k]
    match j, hj with
    | 0, _ => simp (disch := omega) only [wi_j, wi_s, wi_k]
    | 1, _ => simp (disch := omega) only [wi_j, wi_s, wi_k]
    | 2, _ => simp (disch := omega) only [wi_j, wi_s, wi_k]
    | 3, _ => simp (disch := omega) only [wi_j, wi_s, wi_k]
    | 4, _ => simp (disch := omega) only [wi_j, wi_s, wi_k]
  · intro i hi
    constructor
    · simp (disch := omega) only [wa_k, wa_s, wi_k, sb_cpy0]
    · simp (disch := omega) only [wa_k, wa_s, wi_k, sb_cpy0]
  · intro i hi
    refine ⟨?_, ?_, ?_, ?_⟩
    · simp (disch := omega) only [wa_k, wa_s, wi_k, sb_cpy0]
    · simp (disch := omega) only [wa_k, wa_s, wi_k, sb_cpy0]
    · simp (disch := omega) only [wa_k, wa_s, wi_k, sb_cpy0]
    · simp (disch := omega) only [wa_k, wa_s, wi_k, sb_cpy0]
  · intro i hi
    refine ⟨?_, ?_, ?_⟩
    · simp (disch := omega) only [wa_k, wa_s, wi_k, sb_cpy0]
    · simp (disch := omega) only [wa_k, wa_s, wi_k, sb_cpy0]
    · simp (disch := omega) only [wa_k, wa_s, wi_k, sb_cpy0]
  · intro k hk
    simp (disch := omega) only [wa_k, wi_k]
theorem KH_cp {h h' : HS} {d s : Nat} {D : Nat → Nat} (c : KH h s D) (hp : HP d) (e0 : ∀ j, j < 5 → h'.1 d j = h.1 s j) (e1 : ∀ i, i < 6 → h'.1 (d + 1) i = h.1 (s + 1) i ∧ h'.1 (d + 2) i = h.1 (s + 2) i) (e2 : ∀ i, i < 8 → h'.1 (d + 3) i = h.1 (s + 3) i ∧ h'.1 (d + 4) i = h.1 (s + 4) i ∧ h'.1 (d + 5) i = h.1 (s + 5) i ∧ h'.1 (d + 6) i = h.1 (s + 6) i) (e3 : ∀ i, i < 5 → h'.1 (d + 7) i = h.1 (s + 7) i ∧ h'.1 (d + 8) i = h.1 (s + 8) i ∧ h'.1 (d + 9) i = h.1 (s + 9) i) : KH h' d D := by
  have hk := hk0 c.2.1
  refine ⟨hp, c.2.1, ?_, ?_, ?_, ?_⟩
  · intro j hj; rw [e0 j hj]; exact c.2.2.1 j hj
  · intro f hf; rw [(e1 f (by omega)).1, (e1 f (by omega)).2]; exact c.2.2.2.1 f hf
  · intro b hb; have := e2 b (by omega); rw [this.1, this.2.1, this.2.2.1, this.2.2.2]; exact c.2.2.2.2.1 b hb
  · intro x hx; have := e3 x (by omega); rw [this.1, this.2.1, this.2.2]; exact c.2.2.2.2.2 x hx
/-- rows -/
theorem c_rcopy {N : Nat} {h : HS} {d s M M' m : Nat} (hds : d + 3 ≤ s ∨ s + 3 ≤ d) (hN : 100 ≤ N) (hM : M ≤ 40) (hM' : M' ≤ 40) (d0 : h.1 d 0 = nI M) (l1 : ln (d + 1) = M) (l2 : ln (d + 2) = M) (k1 : ln (s + 1) = M') (k2 : ln (s + 2) = M') (hm : m ≤ M) (hm' : m ≤ M') (s3 : h.1 s 3 = nI m) :
    ∃ h', X6_copy N h d s = some h' ∧ h'.1 d 3 = nI m ∧ (∀ i, i < m → h'.1 (d + 1) i = h.1 (s + 1) i ∧ h'.1 (d + 2) i = h.1 (s + 2) i) ∧ (∀ j, j ≠ 3 → h'.1 d j = h.1 d j) ∧ (∀ k, k < d ∨ d + 3 ≤ k → h'.1 k = h.1 k) ∧ h'.2 = h.2 := by
  have key : ∀ (r i fu : Nat) (g : HS), i + r = m → r < fu → g.1 d 3 = nI i → (∀ j, j < i → g.1 (d + 1) j = h.1 (s + 1) j ∧ g.1 (d + 2) j = h.1 (s + 2) j) → (∀ j, j ≠ 3 → g.1 d j = h.1 d j) → (∀ k, k < d ∨ d + 3 ≤ k → g.1 k = h.1 k) → g.2 = h.2 →
      ∃ h', X6_copy_l7 N fu g d s (nI i) = some h' ∧ h'.1 d 3 = nI m ∧ (∀ i, i < m → h'.1 (d + 1) i = h.1 (s + 1) i ∧ h'.1 (d + 2) i = h.1 (s + 2) i) ∧ (∀ j, j ≠ 3 → h'.1 d j = h.1 d j) ∧ (∀ k, k < d ∨ d + 3 ≤ k → h'.1 k = h.1 k) ∧ h'.2 = h.2 := by
    intro r
    induction r with
    | zero =>
      intro i fu g e hf g1 g2 g3 g4 g5
      obtain ⟨fu, rfl, _⟩ := fuel hf
      have ei : i = m := by omega
      subst ei
      rw [X6_copy_l7, g4 s (by omega), s3, if_pos (nI_le (Nat.le_refl _) (by omega))]
      exact ⟨g, rfl, g1, g2, g3, g4, g5⟩
    | succ r ih =>
      intro i fu g e hf g1 g2 g3 g4 g5
      obtain ⟨fu, rfl, _⟩ := fuel hf
      rw [X6_copy_l7, g4 s (by omega), s3, if_neg (nI_ge (by omega) (by omega)), at_in k1 (by omega) (by omega), bd1_some, at_in k2 (by omega) (by omega), bd1_some, g4 (s + 1) (by omega), g4 (s + 2) (by omega)]
      unfold X6_add
      rw [g1, if_neg (nI_pos (by omega)), g3 0 (by decide), d0, if_neg (nI_ge (by omega) (by omega)), l1, if_neg (nI_in (by omega) (by omega)), nI_clamp (by omega), sq_eq]
      rw [show (wi g (d + 1) i (h.1 (s + 1) i)).1 d 3 = nI i by rw [wi_k _ _ (by omega)]; exact g1, l2, if_neg (nI_in (by omega) (by omega)), nI_clamp (by omega), sq_eq]
      rw [show (wi (wi g (d + 1) i (h.1 (s + 1) i)) (d + 2) i (h.1 (s + 2) i)).1 d 3 = nI i by rw [wi_k _ _ (by omega), wi_k _ _ (by omega)]; exact g1, nI_1, sq_eq, bd1_some]
      refine ih (i + 1) fu _ (by omega) (by omega) (wi_s _ _ _ _) ?_ ?_ ?_ g5
      · intro j hj
        by_cases x : j = i
        · subst x
          simp (disch := omega) only [wi_k, wi_s, and_self]
        · simp (disch := omega) only [wi_k, wi_j]
          exact g2 j (by omega)
      · intro j hj
        rw [wi_j _ _ hj, wi_k _ _ (by omega), wi_k _ _ (by omega)]
        exact g3 j hj
      · intro k hk
        rw [wi_k _ _ (by omega), wi_k _ _ (by omega), wi_k _ _ (by omega)]
        exact g4 k hk
  unfold X6_copy
  rw [sq_eq]
  exact key m 0 N _ (by omega) (by omega) (wi_s _ _ _ _) (fun j hj => absurd hj (Nat.not_lt_zero _)) (fun j hj => wi_j _ _ hj) (fun k hk => wi_k _ _ (by omega)) rfl
theorem CR_cp {h h' : HS} {d s M E m m' : Nat} {K : Nat → Nat} {V : Nat → Int32} (c : CR h s M E m K V) (l1 : ln (d + 1) = M) (l2 : ln (d + 2) = M) (hd : 0 < d ∧ d < 155) (e3 : h.1 s 3 = nI m') (hm : m' ≤ 40) (f3 : h'.1 d 3 = nI m') (e : ∀ i, i < m' → h'.1 (d + 1) i = h.1 (s + 1) i ∧ h'.1 (d + 2) i = h.1 (s + 2) i) : CR h' d M E m K V := by
  obtain ⟨c1, c2, c3, c4, c5, c6, c7, c8⟩ := c
  have em : m' = m := by
    rw [e3, nI_eq (by omega) (by omega)] at c7
    exact c7
  subst em
  refine ⟨c1, c2, l1, l2, hd.1, hd.2, f3, ?_⟩
  intro i hi
  rw [(e i hi).1, (e i hi).2]
  exact c8 i hi
def TPl (T : Nat) : Prop := T = 2 ∨ T = 41 ∨ T = 79 ∨ T = 117
theorem tp_ra {T : Nat} (t : TPl T) : (∀ i, i < 2 → ra (T + 3) i = T + 4 + 10 * i ∧ ra (T + 24) i = T + 25 + 3 * i ∧ ra (T + 31) i = T + 32 + 3 * i) ∧ (∀ i, i < 2 → HP (T + 4 + 10 * i)) ∧ (∀ i, i < 2 → ln (T + 25 + 3 * i + 1) = 40 ∧ ln (T + 25 + 3 * i + 2) = 40 ∧ ln (T + 32 + 3 * i + 1) = 8 ∧ ln (T + 32 + 3 * i + 2) = 8) := by
  unfold HP
  rcases t with rfl | rfl | rfl | rfl
  · decide +kernel
  · decide +kernel
  · decide +kernel
  · decide +kernel
/-- all that is told goes from S to T -/
def TCp (h h' : HS) (T S : Nat) : Prop := (∀ i, i < 600 → h'.1 (T + 1) i = h.1 (S + 1) i) ∧ (∀ j, 0 < j → j < 4 → h'.1 T j = h.1 S j) ∧ (∀ s, s < 3 → h'.1 (T + 2) s = h.1 (S + 2) s) ∧ (∀ k, k < 2 → ∀ D, KH h (S + 4 + 10 * k) D → KH h' (T + 4 + 10 * k) D) ∧ (∀ k, k < 2 → ∀ m K V, CR h (S + 25 + 3 * k) 40 5 m K V → CR h' (T + 25 + 3 * k) 40 5 m K V) ∧ (∀ k, k < 2 → ∀ m K V, CR h (S + 32 + 3 * k) 8 2 m K V → CR h' (T + 32 + 3 * k) 8 2 m K V) ∧ MO h' T ∧ SZ h' T ∧ (∀ k, k < T ∨ T + 38 ≤ k → h'.1 k = h.1 k) ∧ h'.2 = h.2
theorem TR_cp {h h' w : HS} {T S B B' : Nat} {c : Nat → Nat} (t : TCp h h' T S) (f : ∀ i, i < 934 → w.1 238 (B' + i) = h.1 238 (B + i)) (e : ∀ k, T ≤ k → k < T + 38 → w.1 k = h'.1 k) (r : TR h S B c) : TR w T B' c := by
  obtain ⟨t1, t2, t3, t4, t5, t6, t7, t8, t9, t10⟩ := t
  obtain ⟨⟨z, z0, z1, z2, z3⟩, s2, s3, s4, s5, s6, s7⟩ := r
  refine ⟨⟨z, z0, ?_, ?_, ?_⟩, ?_, ?_, ?_, ?_, ?_, ?_⟩
  · rw [e _ (by omega) (by omega), t2 1 (by decide) (by decide)]; exact z1
  · rw [f 4 (by decide)]; exact z2
  · intro i hi
    rw [e _ (by omega) (by omega), t1 i (by omega), show B' + 10 + i = B' + (10 + i) by omega, f (10 + i) (by omega), show B + (10 + i) = B + 10 + i by omega]
    exact z3 i hi
  · rw [e _ (by omega) (by omega), t2 2 (by decide) (by decide), f 5 (by decide)]; exact s2
  · rw [e _ (by omega) (by omega), t2 3 (by decide) (by decide), f 6 (by decide)]; exact s3
  · intro s hs
    rw [e _ (by omega) (by omega), t3 s hs, f s (by omega)]; exact s4 s hs
  · intro k hk
    have c0 := (s4 0 (by decide)).1
    obtain ⟨D, a, b⟩ := s5 k hk
    refine ⟨D, KH_fr (fun j h1 h2 => e j (by omega) (by omega)) (t4 k (by omega) D a), fun i hi => ?_⟩
    rw [show B' + 610 + 64 * k + i = B' + (610 + 64 * k + i) by omega, f _ (by omega), show B + (610 + 64 * k + i) = B + 610 + 64 * k + i by omega]
    exact b i hi
  · intro k hk
    have c0 := (s4 1 (by decide)).1
    obtain ⟨m, K, V, a, b⟩ := s6 k hk
    have hm := a.1
    refine ⟨m, K, V, CR_fr (fun j h1 h2 => e j (by omega) (by omega)) (t5 k (by omega) m K V a), ?_, fun i hi => ?_⟩
    · rw [show B' + 738 + 81 * k = B' + (738 + 81 * k) by omega, f _ (by omega), show B + (738 + 81 * k) = B + 738 + 81 * k by omega]
      exact b.1
    · rw [show B' + 738 + 81 * k + 1 + 2 * i = B' + (738 + 81 * k + 1 + 2 * i) by omega, show B' + 738 + 81 * k + 2 + 2 * i = B' + (738 + 81 * k + 2 + 2 * i) by omega, f _ (by omega), f _ (by omega), show B + (738 + 81 * k + 1 + 2 * i) = B + 738 + 81 * k + 1 + 2 * i by omega, show B + (738 + 81 * k + 2 + 2 * i) = B + 738 + 81 * k + 2 + 2 * i by omega]
      exact b.2 i hi
  · intro k hk
    have c0 := (s4 2 (by decide)).1
    obtain ⟨m, K, V, a, b⟩ := s7 k hk
    have hm := a.1
    refine ⟨m, K, V, CR_fr (fun j h1 h2 => e j (by omega) (by omega)) (t6 k (by omega) m K V a), ?_, fun i hi => ?_⟩
    · rw [show B' + 900 + 17 * k = B' + (900 + 17 * k) by omega, f _ (by omega), show B + (900 + 17 * k) = B + 900 + 17 * k by omega]
      exact b.1
    · rw [show B' + 900 + 17 * k + 1 + 2 * i = B' + (900 + 17 * k + 1 + 2 * i) by omega, show B' + 900 + 17 * k + 2 + 2 * i = B' + (900 + 17 * k + 2 + 2 * i) by omega, f _ (by omega), f _ (by omega), show B + (900 + 17 * k + 1 + 2 * i) = B + 900 + 17 * k + 1 + 2 * i by omega, show B + (900 + 17 * k + 2 + 2 * i) = B + 900 + 17 * k + 2 + 2 * i by omega]
      exact b.2 i hi
theorem c_told1 {N : Nat} {h : HS} {T S i : Nat} (hT : TPl T) (hS : TPl S) (hne : T ≠ S) (hi : i < 2) (hN : 100 ≤ N) (mT : MO h T) (zS : SZ h S) : ∃ h1 h2 h3, X1_copy N h (ra (T + 3) i) (ra (S + 3) i) = some h1 ∧ X6_copy N h1 (ra (T + 24) i) (ra (S + 24) i) = some h2 ∧ X6_copy N h2 (ra (T + 31) i) (ra (S + 31) i) = some h3 ∧
    (∀ D, KH h (S + 4 + 10 * i) D → KH h3 (T + 4 + 10 * i) D) ∧ (∀ m K V, CR h (S + 25 + 3 * i) 40 5 m K V → CR h3 (T + 25 + 3 * i) 40 5 m K V) ∧ (∀ m K V, CR h (S + 32 + 3 * i) 8 2 m K V → CR h3 (T + 32 + 3 * i) 8 2 m K V) ∧ SZr h3 (T + 25 + 3 * i) 40 ∧ SZr h3 (T + 32 + 3 * i) 8 ∧ MO h3 T ∧
    (∀ k, ¬ (T + 4 + 10 * i ≤ k ∧ k < T + 14 + 10 * i) → ¬ (T + 25 + 3 * i ≤ k ∧ k < T + 28 + 3 * i) → ¬ (T + 32 + 3 * i ≤ k ∧ k < T + 35 + 3 * i) → h3.1 k = h.1 k) ∧ h3.2 = h.2 := by
  obtain ⟨a1, a2, a3⟩ := tp_ra hT
  obtain ⟨b1, b2, b3⟩ := tp_ra hS
  obtain ⟨q1, q2, q3⟩ := a1 i hi
  obtain ⟨p1, p2, p3⟩ := b1 i hi
  have hTS : T + 38 ≤ S ∨ S + 38 ≤ T := by
    unfold TPl at hT hS
    omega
  have hTb : 2 ≤ T ∧ T ≤ 117 := by unfold TPl at hT; omega
  obtain ⟨h1, c1, c2, c3, c4, c5, c6, c7⟩ := c_hcopy (N := N) (h := h) (d := T + 4 + 10 * i) (s := S + 4 + 10 * i) (by omega)
  obtain ⟨m1, n1, n2⟩ : SZr h (S + 25 + 3 * i) 40 := by
    match i, hi with
    | 0, _ => exact zS.1
    | 1, _ => exact zS.2.1
  obtain ⟨m2, n3, n4⟩ : SZr h (S + 32 + 3 * i) 8 := by
    match i, hi with
    | 0, _ => exact zS.2.2.1
    | 1, _ => exact zS.2.2.2
  have o1 : h.1 (T + 25 + 3 * i) 0 = nI 40 := by
    match i, hi with
    | 0, _ => exact mT.1
    | 1, _ => exact mT.2.1
  have o2 : h.1 (T + 32 + 3 * i) 0 = nI 8 := by
    match i, hi with
    | 0, _ => exact mT.2.2.1
    | 1, _ => exact mT.2.2.2
  obtain ⟨h2, d1, d2, d3, d4, d5, d6⟩ := c_rcopy (N := N) (h := h1) (d := T + 25 + 3 * i) (s := S + 25 + 3 * i) (M := 40) (M' := 40) (m := m1) (by omega) hN (by decide) (by decide) (by rw [c6 _ (by omega)]; exact o1) (a3 i hi).1 (a3 i hi).2.1 (b3 i hi).1 (b3 i hi).2.1 n1 n1 (by rw [c6 _ (by omega)]; exact n2)
  obtain ⟨h3, e1, e2, e3, e4, e5, e6⟩ := c_rcopy (N := N) (h := h2) (d := T + 32 + 3 * i) (s := S + 32 + 3 * i) (M := 8) (M' := 8) (m := m2) (by omega) hN (by decide) (by decide) (by rw [d5 _ (by omega), c6 _ (by omega)]; exact o2) (a3 i hi).2.2.1 (a3 i hi).2.2.2 (b3 i hi).2.2.1 (b3 i hi).2.2.2 n3 n3 (by rw [d5 _ (by omega), c6 _ (by omega)]; exact n4)
  refine ⟨h1, h2, h3, by rw [q1, p1]; exact c1, by rw [q2, p2]; exact d1, by rw [q3, p3]; exact e1, ?_, ?_, ?_, ⟨m1, n1, ?_⟩, ⟨m2, n3, e2⟩, ?_, ?_, by rw [e6, d6, c7]⟩
  · intro D k
    exact KH_fr (fun j x1 x2 => by rw [e5 j (by omega), d5 j (by omega)]) (KH_cp k (a2 i hi) c2 c3 c4 c5)
  · intro m K V k
    refine CR_fr (h := h2) (fun j x1 x2 => e5 j (by omega)) (CR_cp k (a3 i hi).1 (a3 i hi).2.1 (by omega) n2 n1 d2 (fun j hj => ?_))
    rw [(d3 j hj).1, (d3 j hj).2, c6 _ (by omega), c6 _ (by omega)]
    exact ⟨rfl, rfl⟩
  · intro m K V k
    refine CR_cp k (a3 i hi).2.2.1 (a3 i hi).2.2.2 (by omega) n4 (by omega) e2 (fun j hj => ?_)
    rw [(e3 j hj).1, (e3 j hj).2, d5 _ (by omega), d5 _ (by omega), c6 _ (by omega), c6 _ (by omega)]
    exact ⟨rfl, rfl⟩
  · rw [e5 _ (by omega)]; exact d2
  · have all : ∀ p, (p = T + 25 ∨ p = T + 28 ∨ p = T + 32 ∨ p = T + 35) → h3.1 p 0 = h.1 p 0 := by
      intro p hp
      by_cases u : p = T + 32 + 3 * i
      · subst u; rw [e4 0 (by decide), d5 _ (by omega), c6 _ (by omega)]
      · rw [e5 p (by omega)]
        by_cases w : p = T + 25 + 3 * i
        · subst w; rw [d4 0 (by decide), c6 _ (by omega)]
        · rw [d5 p (by omega), c6 p (by omega)]
    unfold MO
    rw [all _ (by omega), all _ (by omega), all _ (by omega), all _ (by omega)]
    exact mT
  · intro k x1 x2 x3
    rw [e5 k (by omega), d5 k (by omega), c6 k (by omega)]
theorem c_tcopy {N : Nat} {h : HS} {T S : Nat} (hT : TPl T) (hS : TPl S) (hne : T ≠ S) (hN : 100 ≤ N) (mT : MO h T) (zS : SZ h S) : ∃ h', X7_copy N h T S = some h' ∧ TCp h h' T S := by
  have hTS : T + 38 ≤ S ∨ S + 38 ≤ T := by
    unfold TPl at hT hS
    omega
  have hTb : 2 ≤ T ∧ T ≤ 117 := by unfold TPl at hT; omega
  obtain ⟨M, rfl, _⟩ := fuel (show 3 < N by omega)
  obtain ⟨M, rfl, _⟩ := fuel (show 2 < M by omega)
  obtain ⟨M, rfl, _⟩ := fuel (show 1 < M by omega)
  unfold X7_copy
  simp only [sq_eq]
  generalize hg : wa (wi (wi (wi (wa h (T + 1) (va_cpy (h.1 (S + 1)) (h.1 (T + 1)) 0 0 600)) T 1 _) T 2 _) T 3 _) (T + 2) _ = g
  have g1 : ∀ i, i < 600 → g.1 (T + 1) i = h.1 (S + 1) i := by
    intro i hi
    rw [← hg]
    simp (disch := omega) only [wa_k, wa_s, wi_k, sb_cpy0]
  have g2 : ∀ j, 0 < j → j < 4 → g.1 T j = h.1 S j := by
    intro j h0 hj
    rw [← hg]
    simp (disch := omega) only [wa_k]
    match j, h0, hj with
    | 1, _, _ => simp (disch := omega) only [wi_j, wi_s, wi_k, wa_k]
    | 2, _, _ => simp (disch := omega) only [wi_j, wi_s, wi_k, wa_k]
    | 3, _, _ => simp (disch := omega) only [wi_j, wi_s, wi_k, wa_k]
  have g3 : ∀ s, s < 3 → g.1 (T + 2) s = h.1 (S + 2) s := by
    intro s hs
    rw [← hg]
    simp (disch := omega) only [wa_k, wa_s, wi_k, sb_cpy0]
  have g4 : ∀ k, k < T ∨ T + 3 ≤ k → g.1 k = h.1 k := by
    intro k hk
    rw [← hg]
    simp (disch := omega) only [wa_k, wi_k]
  have g5 : g.2 = h.2 := by rw [← hg]; rfl
  clear hg
  obtain ⟨a1, a2, a3, b1, b2, b3, b4, b5, b6, b7, b8, b9, b10⟩ := c_told1 (N := M + 1 + 1 + 1) (h := g) (i := 0) hT hS hne (by decide) hN (MO_fr (fun k x1 x2 => g4 k (by omega)) mT) (SZ_fr (fun k x1 x2 => g4 k (by omega)) zS)
  have zS3 : SZ a3 S := SZ_fr (fun k x1 x2 => by rw [b10.1 k (by omega) (by omega) (by omega), g4 k (by omega)]) zS
  obtain ⟨d1, d2, d3, e1, e2, e3, e4, e5, e6, e7, e8, e9, e10⟩ := c_told1 (N := M + 1 + 1 + 1) (h := a3) (i := 1) hT hS hne (by decide) hN b9 zS3
  refine ⟨d3, ?_, ?_, ?_, ?_, ?_, ?_, ?_, e9, ?_, ?_, by rw [e10.2, b10.2, g5]⟩
  · rw [X7_copy_l56, if_neg (by decide), if_neg (by decide), if_neg (by decide), show (0 : Int32).toNatClampNeg = 0 from rfl, b1, bd1_some, if_neg (by decide), if_neg (by decide), b2, bd1_some, if_neg (by decide), if_neg (by decide), b3, bd1_some, show (0 : Int32) + 1 = 1 from rfl]
    rw [X7_copy_l56, if_neg (by decide), if_neg (by decide), if_neg (by decide), show (1 : Int32).toNatClampNeg = 1 from rfl, e1, bd1_some, if_neg (by decide), if_neg (by decide), e2, bd1_some, if_neg (by decide), if_neg (by decide), e3, bd1_some, show (1 : Int32) + 1 = 2 from rfl]
    rw [X7_copy_l56, if_pos (by decide)]
  · intro i hi
    rw [e10.1 _ (by omega) (by omega) (by omega), b10.1 _ (by omega) (by omega) (by omega)]; exact g1 i hi
  · intro j x1 x2
    rw [e10.1 _ (by omega) (by omega) (by omega), b10.1 _ (by omega) (by omega) (by omega)]; exact g2 j x1 x2
  · intro s hs
    rw [e10.1 _ (by omega) (by omega) (by omega), b10.1 _ (by omega) (by omega) (by omega)]; exact g3 s hs
  · intro k hk D c
    match k, hk with
    | 0, _ => exact KH_fr (fun j x1 x2 => e10.1 j (by omega) (by omega) (by omega)) (b4 D (KH_fr (fun j x1 x2 => g4 j (by omega)) c))
    | 1, _ => exact e4 D (KH_fr (fun j x1 x2 => by rw [b10.1 j (by omega) (by omega) (by omega), g4 j (by omega)]) c)
  · intro k hk m K V c
    match k, hk with
    | 0, _ => exact CR_fr (fun j x1 x2 => e10.1 j (by omega) (by omega) (by omega)) (b5 m K V (CR_fr (fun j x1 x2 => g4 j (by omega)) c))
    | 1, _ => exact e5 m K V (CR_fr (fun j x1 x2 => by rw [b10.1 j (by omega) (by omega) (by omega), g4 j (by omega)]) c)
  · intro k hk m K V c
    match k, hk with
    | 0, _ => exact CR_fr (fun j x1 x2 => e10.1 j (by omega) (by omega) (by omega)) (b6 m K V (CR_fr (fun j x1 x2 => g4 j (by omega)) c))
    | 1, _ => exact e6 m K V (CR_fr (fun j x1 x2 => by rw [b10.1 j (by omega) (by omega) (by omega), g4 j (by omega)]) c)
  · refine ⟨?_, e7, ?_, e8⟩
    · unfold SZr; rw [e10.1 _ (by omega) (by omega) (by omega)]; exact b7
    · unfold SZr; rw [e10.1 _ (by omega) (by omega) (by omega)]; exact b8
  · intro k hk
    rw [e10.1 k (by omega) (by omega) (by omega), b10.1 k (by omega) (by omega) (by omega), g4 k (by omega)]
theorem ra40 : ∀ i, i < 3 → ra 40 i = 41 + 38 * i := by decide +kernel
theorem tp_im {i : Nat} (hi : i < 3) : TPl (41 + 38 * i) := by
  unfold TPl
  omega
/-- the reference copies -/
theorem r_image {N : Nat} {h0 : HS} {k : Nat} (hk : k < 3) : ∀ (r i fu : Nat) (h : HS), i + r = 934 → r < fu → (∀ j, j < i → h.1 238 (934 * (k + 1) + j) = h0.1 238 j) → (∀ j, (j < 934 * (k + 1) ∨ 934 * (k + 1) + 934 ≤ j) → h.1 238 j = h0.1 238 j) → (∀ a, a ≠ 238 → h.1 a = h0.1 a) →
    ∃ h', X11_image_l20 N fu h 237 (nI k) (nI i) = some (1, h') ∧ (∀ j, j < 934 → h'.1 238 (934 * (k + 1) + j) = h0.1 238 j) ∧ (∀ j, (j < 934 * (k + 1) ∨ 934 * (k + 1) + 934 ≤ j) → h'.1 238 j = h0.1 238 j) ∧ (∀ a, a ≠ 238 → h'.1 a = h0.1 a) := by
  intro r
  induction r with
  | zero =>
    intro i fu h e hf g1 g2 g3
    obtain ⟨fu, rfl, _⟩ := fuel hf
    have ei : i = 934 := by omega
    subst ei
    rw [X11_image_l20, if_pos (by decide), nz_1]
    exact ⟨h, rfl, g1, g2, g3⟩
  | succ r ih =>
    intro i fu h e hf g1 g2 g3
    obtain ⟨fu, rfl, _⟩ := fuel hf
    have ex : (934 : Int32) * (nI k + 1) + nI i = nI (934 * (k + 1) + i) := by rw [nI_1, zn934, pk_mul, nI_add]
    rw [X11_image_l20, if_neg (show ¬ (934 : Int32) ≤ nI i from nI_ge (b := 934) (by omega) (by decide)), if_neg (nI_in (by omega) (by decide)), ex, if_neg (nI_in (by omega) (by decide)), sq_eq, nI_clamp (by omega), nI_clamp (by omega), nI_1]
    refine ih (i + 1) fu _ (by omega) (by omega) ?_ ?_ ?_
    · intro j hj
      by_cases x : j = i
      · subst x
        rw [show (237 + 1 : Nat) = 238 from rfl, wi_s]
        exact g2 j (by omega)
      · rw [show (237 + 1 : Nat) = 238 from rfl, wi_j _ _ (by omega)]
        exact g1 j (by omega)
    · intro j hj
      rw [show (237 + 1 : Nat) = 238 from rfl, wi_j _ _ (by omega)]
      exact g2 j hj
    · intro a ha
      rw [wi_k _ _ ha]
      exact g3 a ha
theorem r_again {N : Nat} {h0 : HS} {k : Nat} (hk : k < 3) : ∀ (r i fu : Nat) (h : HS), i + r = 934 → r < fu → (∀ j, j < i → h.1 238 j = h0.1 238 (934 * (k + 1) + j)) → (∀ j, i ≤ j → h.1 238 j = h0.1 238 j) → (∀ a, a ≠ 238 → h.1 a = h0.1 a) →
    ∃ h', X11_again_l22 N fu h 237 (nI k) (nI i) = some (1, h') ∧ (∀ j, j < 934 → h'.1 238 j = h0.1 238 (934 * (k + 1) + j)) ∧ (∀ j, 934 ≤ j → h'.1 238 j = h0.1 238 j) ∧ (∀ a, a ≠ 238 → h'.1 a = h0.1 a) := by
  intro r
  induction r with
  | zero =>
    intro i fu h e hf g1 g2 g3
    obtain ⟨fu, rfl, _⟩ := fuel hf
    have ei : i = 934 := by omega
    subst ei
    rw [X11_again_l22, if_pos (by decide), nz_1]
    exact ⟨h, rfl, g1, g2, g3⟩
  | succ r ih =>
    intro i fu h e hf g1 g2 g3
    obtain ⟨fu, rfl, _⟩ := fuel hf
    have ex : (934 : Int32) * (nI k + 1) + nI i = nI (934 * (k + 1) + i) := by rw [nI_1, zn934, pk_mul, nI_add]
    rw [X11_again_l22, if_neg (show ¬ (934 : Int32) ≤ nI i from nI_ge (b := 934) (by omega) (by decide)), ex, if_neg (nI_in (by omega) (by decide)), if_neg (nI_in (by omega) (by decide)), sq_eq, nI_clamp (by omega), nI_clamp (by omega), nI_1]
    refine ih (i + 1) fu _ (by omega) (by omega) ?_ ?_ ?_
    · intro j hj
      by_cases x : j = i
      · subst x
        rw [show (237 + 1 : Nat) = 238 from rfl, wi_s]
        exact g2 _ (by omega)
      · rw [show (237 + 1 : Nat) = 238 from rfl, wi_j _ _ x]
        exact g1 j (by omega)
    · intro j hj
      rw [show (237 + 1 : Nat) = 238 from rfl, wi_j _ _ (by omega)]
      exact g2 j (by omega)
    · intro a ha
      rw [wi_k _ _ ha]
      exact g3 a ha
