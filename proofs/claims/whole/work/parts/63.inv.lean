/-! ===== level 2: what holds between two calls ===== -/
def Same (h h' : HS) : Prop := ∀ k, (k < 156 ∨ k = 167 ∨ k = 238 ∨ k = 239) → h'.1 k = h.1 k
theorem Same.refl (h : HS) : Same h h := fun _ _ => rfl
theorem Same.trans {a b c : HS} (x : Same a b) (y : Same b c) : Same a c := fun k hk => (y k hk).trans (x k hk)
theorem sm_wi {h h' : HS} (s : Same h h') {k : Nat} (hk : ¬ (k < 156 ∨ k = 167 ∨ k = 238 ∨ k = 239)) (j : Nat) (x : Int32) : Same h (wi h' k j x) := fun a ha => by
  have : a ≠ k := fun e => hk (by rw [← e]; exact ha)
  rw [wi_k _ _ this]; exact s a ha
theorem sm_wa {h h' : HS} (s : Same h h') {k : Nat} (hk : ¬ (k < 156 ∨ k = 167 ∨ k = 238 ∨ k = 239)) (f : Nat → Int32) : Same h (wa h' k f) := fun a ha => by
  have : a ≠ k := fun e => hk (by rw [← e]; exact ha)
  rw [wa_k _ _ this]; exact s a ha
theorem sm_wr {h h' : HS} (s : Same h h') (k q : Nat) : Same h (wr h' k q) := fun a ha => s a ha
/-- deeds or facts in the class: at most M of them, kinds below E -/
def CR (h : HS) (p M E m : Nat) (K : Nat → Nat) (V : Nat → Int32) : Prop := m ≤ M ∧ M ≤ 40 ∧ ln (p + 1) = M ∧ ln (p + 2) = M ∧ 0 < p ∧ p < 155 ∧ h.1 p 3 = nI m ∧ ∀ i, i < m → K i < E ∧ h.1 (p + 1) i = nI (K i) ∧ h.1 (p + 2) i = V i ∧ (V i = -1 ∨ ∃ j, j < 6 ∧ V i = nI j) ∧ (E = 2 → V i ≠ -1)
def RR (h : HS) (q m : Nat) (K : Nat → Nat) (V : Nat → Int32) : Prop := h.1 238 q = nI m ∧ ∀ i, i < m → h.1 238 (q + 1 + 2 * i) = nI (K i) ∧ h.1 238 (q + 2 + 2 * i) = V i
def TR (h : HS) (T B : Nat) (c : Nat → Nat) : Prop :=
  (∃ z, z ≤ 600 ∧ h.1 T 1 = nI z ∧ h.1 238 (B + 4) = nI z ∧ ∀ i, i < z → (h.1 (T + 1) i) &&& 255 = h.1 238 (B + 10 + i)) ∧
  h.1 T 2 = h.1 238 (B + 5) ∧ h.1 T 3 = h.1 238 (B + 6) ∧
  (∀ s, s < 3 → c s ≤ 2 ∧ h.1 (T + 2) s = nI (c s) ∧ h.1 238 (B + s) = nI (c s)) ∧
  (∀ k, k < c 0 → ∃ D, KH h (T + 4 + 10 * k) D ∧ ∀ i, i < 64 → h.1 238 (B + 610 + 64 * k + i) = nI (D i)) ∧
  (∀ k, k < c 1 → ∃ m K V, CR h (T + 25 + 3 * k) 40 5 m K V ∧ RR h (B + 738 + 81 * k) m K V) ∧
  (∀ k, k < c 2 → ∃ m K V, CR h (T + 32 + 3 * k) 8 2 m K V ∧ RR h (B + 900 + 17 * k) m K V)
def MO (h : HS) (T : Nat) : Prop := h.1 (T + 25) 0 = 40 ∧ h.1 (T + 28) 0 = 40 ∧ h.1 (T + 32) 0 = 8 ∧ h.1 (T + 35) 0 = 8
def INV (h : HS) : Prop := (∃ c, TR h 2 0 c) ∧
  (∀ k, k < 3 → (h.1 155 k = 0 ∧ h.1 239 k = 0) ∨ (h.1 155 k = 1 ∧ h.1 239 k = 1 ∧ ∃ c, TR h (41 + 38 * k) (934 * (k + 1)) c)) ∧
  MO h 2 ∧ (∀ k, k < 3 → MO h (41 + 38 * k)) ∧ h.1 167 0 = 40
theorem KH_same {h h' : HS} (s : Same h h') {p : Nat} {D : Nat → Nat} (c : KH h p D) : KH h' p D := by
  obtain ⟨c1, c2, c3, c4, c5, c6⟩ := c
  have hp : p < 146 := c1.2.2.2.2.2.2.2.2.2.2
  have e : ∀ i, i < 10 → h'.1 (p + i) = h.1 (p + i) := fun i hi => s _ (Or.inl (by omega))
  have e0 : h'.1 p = h.1 p := e 0 (by decide)
  refine ⟨c1, c2, ?_, ?_, ?_, ?_⟩
  · rw [e0]; exact c3
  · rw [e 1 (by decide), e 2 (by decide)]; exact c4
  · rw [e 3 (by decide), e 4 (by decide), e 5 (by decide), e 6 (by decide)]; exact c5
  · rw [e 7 (by decide), e 8 (by decide), e 9 (by decide)]; exact c6
theorem CR_same {h h' : HS} (s : Same h h') {p M E m : Nat} {K : Nat → Nat} {V : Nat → Int32} (c : CR h p M E m K V) : CR h' p M E m K V := by
  obtain ⟨c1, c2, c3, c4, c5, c6, c7, c8⟩ := c
  refine ⟨c1, c2, c3, c4, c5, c6, ?_, ?_⟩
  · rw [s p (Or.inl (by omega))]; exact c7
  · by_cases z : p + 2 < 156
    · rw [s (p + 1) (Or.inl (by omega)), s (p + 2) (Or.inl z)]; exact c8
    · exfalso
      have : p = 154 := by omega
      subst this
      exact absurd c4 (by rw [show ln (154 + 2) = 0 by decide +kernel]; intro z; subst z; exact absurd c3 (by decide +kernel))
theorem RR_same {h h' : HS} (s : Same h h') {q m : Nat} {K : Nat → Nat} {V : Nat → Int32} (c : RR h q m K V) : RR h' q m K V := by
  unfold RR
  rw [s 238 (by decide)]
  exact c
theorem TR_same {h h' : HS} (s : Same h h') {T B : Nat} (hT : T ≤ 117) {c : Nat → Nat} (t : TR h T B c) : TR h' T B c := by
  obtain ⟨t1, t2, t3, t4, t5, t6, t7⟩ := t
  have e8 : h'.1 238 = h.1 238 := s 238 (by decide)
  have e0 : h'.1 T = h.1 T := s _ (Or.inl (by omega))
  have e1 : h'.1 (T + 1) = h.1 (T + 1) := s _ (Or.inl (by omega))
  have e2 : h'.1 (T + 2) = h.1 (T + 2) := s _ (Or.inl (by omega))
  refine ⟨?_, ?_, ?_, ?_, ?_, ?_, ?_⟩
  · rw [e8, e0, e1]; exact t1
  · rw [e8, e0]; exact t2
  · rw [e8, e0]; exact t3
  · rw [e8, e2]; exact t4
  · intro k hk
    obtain ⟨D, a, b⟩ := t5 k hk
    exact ⟨D, KH_same s a, by rw [e8]; exact b⟩
  · intro k hk
    obtain ⟨m, K, V, a, b⟩ := t6 k hk
    exact ⟨m, K, V, CR_same s a, RR_same s b⟩
  · intro k hk
    obtain ⟨m, K, V, a, b⟩ := t7 k hk
    exact ⟨m, K, V, CR_same s a, RR_same s b⟩
theorem INV_same {h h' : HS} (s : Same h h') (I : INV h) : INV h' := by
  obtain ⟨⟨c, i1⟩, i2, i3, i4, i5⟩ := I
  have m : ∀ T, T ≤ 117 → MO h T → MO h' T := by
    intro T hT z
    unfold MO
    rw [s (T + 25) (Or.inl (by omega)), s (T + 28) (Or.inl (by omega)), s (T + 32) (Or.inl (by omega)), s (T + 35) (Or.inl (by omega))]
    exact z
  refine ⟨⟨c, TR_same s (by decide) i1⟩, ?_, m 2 (by decide) i3, fun k hk => m _ (by omega) (i4 k hk), ?_⟩
  · intro k hk
    rw [s 155 (by decide), s 239 (by decide)]
    rcases i2 k hk with z | ⟨z1, z2, c, z3⟩
    · exact Or.inl z
    · exact Or.inr ⟨z1, z2, c, TR_same s (by omega) z3⟩
  · rw [s 167 (by decide)]; exact i5
/-- an int is negative, or a number -/
theorem i_cases (v : Int32) : v < 0 ∨ ∃ j, j < 2 ^ 31 ∧ v = nI j := by
  by_cases z : v < 0
  · exact Or.inl z
  · exact Or.inr (nI_of z)
/-- which of the told things is asked for -/
theorem told_cases (v : Int32) (c : Nat) (hc : c ≤ 2) : (v < 0 ∨ ∃ j, j < 2 ^ 31 ∧ c ≤ j ∧ v = nI j) ∨ ∃ k, k < c ∧ v = nI k := by
  rcases i_cases v with z | ⟨j, hj, rfl⟩
  · exact Or.inl (Or.inl z)
  · by_cases y : j < c
    · exact Or.inr ⟨j, y, rfl⟩
    · exact Or.inl (Or.inr ⟨j, hj, by omega, rfl⟩)
theorem r_isOf {N : Nat} {h : HS} {s c : Nat} (hs : s < 3) (hc : c ≤ 2) (e : h.1 238 s = nI c) (v : Int32) : X11_isOf N h 237 (nI s) v = some (nB (∃ k, k < c ∧ v = nI k)) := by
  unfold X11_isOf
  rw [if_neg (nI_in (by omega) (by decide)), nI_clamp (by omega), show (237 + 1 : Nat) = 238 from rfl, e, r_isIn, bd1_some, nz_nB]
  exact congrArg some (nB_eq (in0 (by omega)))
theorem opn {N : Nat} {h : HS} (I : INV h) (v : Int32) :
    (X7_houseAt N h (1 + 1) v = some 0 ∧ ∀ h1, Same h h1 → X11_isHouse N h1 237 v = some (0, h1)) ∨
    (∃ p q D, X7_houseAt N h (1 + 1) v = some p ∧ p ≠ 0 ∧ KH h p D ∧ ∀ h1, Same h h1 → ∃ h2, X11_isHouse N h1 237 v = some (1, h2) ∧ RH h2 q D ∧ Same h h2 ∧ (∀ k, k ≠ 237 → h2.1 k = h1.1 k)) := by
  obtain ⟨⟨c, t1, t2, t3, t4, t5, t6, t7⟩, _⟩ := I
  obtain ⟨c0, e1, e2⟩ := t4 0 (by decide)
  have n0 : X7_houseAt N h (1 + 1) v = (if v < 0 then some 0 else if nI (c 0) ≤ v then some 0 else if (2 : Int32) ≤ v then some 0 else if v < 0 ∨ 2 ≤ v.toNatClampNeg then none else some (ra 5 v.toNatClampNeg)) := by
    unfold X7_houseAt
    rw [if_neg (show ¬ ((0 : Int32) < 0 ∨ 3 ≤ (0 : Int32).toNatClampNeg) by decide)]
    rw [show h.1 (1 + 1 + 2) (0 : Int32).toNatClampNeg = nI (c 0) from e1]
  have ns : X7_houseAt N h (1 + 1) v = _ := n0
  rcases told_cases v (c 0) c0 with z | ⟨k, hk, rfl⟩
  · left
    have hno : ¬ ∃ k, k < c 0 ∧ v = nI k := by
      rintro ⟨k, hk, rfl⟩
      rcases z with z | ⟨j, hj, hcj, e⟩
      · exact nI_pos (by omega) z
      · rw [nI_eq (by omega) hj] at e; omega
    refine ⟨?_, ?_⟩
    · rw [n0]
      rcases z with z | ⟨j, hj, hcj, rfl⟩
      · rw [if_pos z]
      · rw [if_neg (nI_pos hj), if_pos (nI_le hcj hj)]
    · intro h1 s
      unfold X11_isHouse
      have e3 : h1.1 238 0 = nI (c 0) := by rw [s 238 (by decide)]; exact e2
      rw [show X11_isOf N h1 237 0 v = _ from r_isOf (s := 0) (by decide) c0 e3 v, bd1_some, nB_f hno]
      rfl
  · right
    obtain ⟨D, cD, rD⟩ := t5 k hk
    have hr : ra 5 k = 2 + 4 + 10 * k := by
      have : k < 2 := by omega
      rcases k with _ | k
      · rfl
      · rcases k with _ | k
        · rfl
        · omega
    refine ⟨2 + 4 + 10 * k, 610 + 64 * k, D, ?_, by omega, cD, ?_⟩
    · rw [n0, if_neg (nI_pos (by omega)), if_neg (nI_ge hk (by omega)), if_neg (show ¬ (2 : Int32) ≤ nI k from nI_ge (b := 2) (by omega) (by decide)), if_neg (nI_in (by omega) (by decide)), nI_clamp (by omega), hr]
    · intro h1 s
      have e3 : h1.1 238 0 = nI (c 0) := by rw [s 238 (by decide)]; exact e2
      have e8 : h1.1 238 = h.1 238 := s 238 (by decide)
      have rD' : ∀ i, i < 64 → h1.1 238 (610 + 64 * k + i) = nI (D i) := by
        intro i hi
        rw [e8, ← rD i hi, Nat.zero_add]
      have ix : ∀ i, i < 64 → ∀ x : Int32, x = nI (610 + 64 * k + i) → ¬ (x < 0 ∨ 3736 ≤ x.toNatClampNeg) ∧ h1.1 238 x.toNatClampNeg = nI (D i) := by
        intro i hi x hx
        subst hx
        refine ⟨nI_in (by omega) (by decide), ?_⟩
        rw [nI_clamp (by omega)]
        exact rD' i hi
      have p0 : (610 : Int32) + 64 * nI k = nI (610 + 64 * k + 0) := by rw [zn610, zn64, pk_mul, nI_add]; rfl
      have p1 : nI (610 + 64 * k + 0) + 1 = nI (610 + 64 * k + 1) := nI_1 _
      have p2 : nI (610 + 64 * k + 0) + 2 = nI (610 + 64 * k + 2) := by rw [zn2, nI_add]
      refine ⟨wi (wi (wi (wi h1 237 12 (nI (610 + 64 * k))) 237 13 (nI (D 0))) 237 14 (nI (D 1))) 237 15 (nI (D 2)), ?_, ?_, ?_, ?_⟩
      · unfold X11_isHouse
        rw [show X11_isOf N h1 237 0 (nI k) = _ from r_isOf (s := 0) (by decide) c0 e3 (nI k), bd1_some, nB_t ⟨k, hk, rfl⟩]
        rw [if_neg (by decide)]
        unfold X11_placeOf
        rw [if_pos rfl, bd1_some, p0]
        simp only [sq_eq, wi_s, wi_2]
        rw [if_neg (ix 0 (by decide) _ rfl).1]
        rw [show (wi h1 237 12 (nI (610 + 64 * k + 0))).1 (237 + 1) = h1.1 238 from wi_k _ _ (by decide)]
        rw [(ix 0 (by decide) _ rfl).2]
        rw [show (wi (wi h1 237 12 (nI (610 + 64 * k + 0))) 237 13 (nI (D 0))).1 237 12 = nI (610 + 64 * k + 0) by rw [wi_j _ _ (by decide), wi_s]]
        rw [p1, if_neg (ix 1 (by decide) _ rfl).1]
        rw [show (wi (wi h1 237 12 (nI (610 + 64 * k + 0))) 237 13 (nI (D 0))).1 (237 + 1) = h1.1 238 by rw [wi_k _ _ (by decide), wi_k _ _ (by decide)]]
        rw [(ix 1 (by decide) _ rfl).2]
        rw [show (wi (wi (wi h1 237 12 (nI (610 + 64 * k + 0))) 237 13 (nI (D 0))) 237 14 (nI (D 1))).1 237 12 = nI (610 + 64 * k + 0) by rw [wi_j _ _ (by decide), wi_j _ _ (by decide), wi_s]]
        rw [p2, if_neg (ix 2 (by decide) _ rfl).1]
        rw [show (wi (wi (wi h1 237 12 (nI (610 + 64 * k + 0))) 237 13 (nI (D 0))) 237 14 (nI (D 1))).1 (237 + 1) = h1.1 238 by rw [wi_k _ _ (by decide), wi_k _ _ (by decide), wi_k _ _ (by decide)]]
        rw [(ix 2 (by decide) _ rfl).2]
        rfl
      · refine ⟨cD.2.1, by omega, ?_, ?_, ?_, ?_, ?_⟩
        · rw [wi_j _ _ (by decide), wi_j _ _ (by decide), wi_j _ _ (by decide), wi_s]
        · rw [wi_j _ _ (by decide), wi_j _ _ (by decide), wi_s]
        · rw [wi_j _ _ (by decide), wi_s]
        · rw [wi_s]
        · rw [wi_k _ _ (by decide), wi_k _ _ (by decide), wi_k _ _ (by decide), wi_k _ _ (by decide)]
          exact rD'
      · exact sm_wi (sm_wi (sm_wi (sm_wi s (by decide) _ _) (by decide) _ _) (by decide) _ _) (by decide) _ _
      · intro a ha
        rw [wi_k _ _ ha, wi_k _ _ ha, wi_k _ _ ha, wi_k _ _ ha]
