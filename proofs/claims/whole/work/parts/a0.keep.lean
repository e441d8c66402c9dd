/-! ===== level 2: text: a house as it is told ===== -/
def up1 (D : Nat → Nat) (i v : Nat) : Nat → Nat := fun j => if j = i then v else D j
theorem up1_e {D : Nat → Nat} {i v j : Nat} (h : j = i) : up1 D i v j = v := if_pos h
theorem up1_n {D : Nat → Nat} {i v j : Nat} (h : j ≠ i) : up1 D i v j = D j := if_neg h
def upF (a b : Nat) (D : Nat → Nat) : Nat → Nat := if D 0 < 6 then up1 (up1 (up1 D (5 + 2 * D 0) a) (6 + 2 * D 0) b) 0 (D 0 + 1) else D
def upB (a b c d : Nat) (D : Nat → Nat) : Nat → Nat := if D 1 < 8 then up1 (up1 (up1 (up1 (up1 D (17 + 4 * D 1) a) (18 + 4 * D 1) b) (19 + 4 * D 1) c) (20 + 4 * D 1) d) 1 (D 1 + 1) else D
def upS (a b c : Nat) (D : Nat → Nat) : Nat → Nat := if D 2 < 5 then up1 (up1 (up1 (up1 D (49 + 3 * D 2) a) (50 + 3 * D 2) b) (51 + 3 * D 2) c) 2 (D 2 + 1) else D
def upW (a : Nat) (D : Nat → Nat) : Nat → Nat := if a < 8 then up1 D 4 (D 4 ||| 2 ^ a) else D
def upH (k a b c d : Nat) (D : Nat → Nat) : Nat → Nat := if k = 0 then upF a b D else if k = 1 then upB a b c d D else if k = 2 then upS a b c D else if k = 3 then up1 D 3 a else upW a D
def CHD (h : HS) (D : Nat → Nat) : Prop := D 0 ≤ 6 ∧ D 1 ≤ 8 ∧ D 2 ≤ 5 ∧ D 4 < 256 ∧ (∀ j, j < 5 → h.1 157 j = nI (D j)) ∧
  (∀ f, f < D 0 → h.1 158 f = nI (D (5 + 2 * f)) ∧ h.1 159 f = nI (D (6 + 2 * f))) ∧
  (∀ b, b < D 1 → h.1 160 b = nI (D (17 + 4 * b)) ∧ h.1 161 b = nI (D (18 + 4 * b)) ∧ h.1 162 b = nI (D (19 + 4 * b)) ∧ h.1 163 b = nI (D (20 + 4 * b))) ∧
  (∀ s, s < D 2 → h.1 164 s = nI (D (49 + 3 * s)) ∧ h.1 165 s = nI (D (50 + 3 * s)) ∧ h.1 166 s = nI (D (51 + 3 * s)))
section CKP
variable {N : Nat} {h : HS} {D : Nat → Nat}
def CHf (h h' : HS) : Prop := (∀ i, (i < 157 ∨ 167 ≤ i) → h'.1 i = h.1 i) ∧ h'.2 = h.2
theorem c_addFloor (c : CHD h D) (a b : Nat) : ∃ h', X1_addFloor N h 157 (nI a) (nI b) = some h' ∧ CHD h' (upF a b D) ∧ CHf h h' := by
  obtain ⟨c0, c1, c2, c4, e, eF, eB, eS⟩ := id c
  unfold X1_addFloor upF
  rw [e 0 (by decide), if_neg (nI_pos (by omega))]
  by_cases y : D 0 < 6
  · rw [if_neg (show ¬ (6 : Int32) ≤ nI (D 0) from nI_ge (b := 6) y (by decide)), if_neg (nI_in y (by decide)), sq_eq, if_pos y, nI_clamp (by omega)]
    rw [show (wi h (157 + 1) (D 0) (nI a)).1 157 0 = nI (D 0) by rw [wi_k _ _ (by decide)]; exact e 0 (by decide), if_neg (nI_in y (by decide)), sq_eq, nI_clamp (by omega)]
    rw [show (wi (wi h (157 + 1) (D 0) (nI a)) (157 + 2) (D 0) (nI b)).1 157 0 = nI (D 0) by rw [wi_k _ _ (by decide), wi_k _ _ (by decide)]; exact e 0 (by decide), nI_1, sq_eq]
    refine ⟨_, rfl, ⟨?_, ?_, ?_, ?_, ?_, ?_, ?_, ?_⟩, ?_, rfl⟩
    · simp (disch := omega) only [up1_e, up1_n]; omega
    · simp (disch := omega) only [up1_e, up1_n]; omega
    · simp (disch := omega) only [up1_e, up1_n]; omega
    · simp (disch := omega) only [up1_e, up1_n]; omega
    · intro j hj
      by_cases w : j = 0
      · subst w; rw [wi_s]; simp (disch := omega) only [up1_e, up1_n]
      · simp (disch := omega) only [up1_e, up1_n, wi_j, wi_k]; exact e j hj
    · intro f hf
      rw [up1_e rfl] at hf
      by_cases w : f = D 0
      · subst w
        constructor
        · simp (disch := omega) only [up1_e, up1_n, wi_s, wi_k]
        · simp (disch := omega) only [up1_e, up1_n, wi_s, wi_k]
      · have := eF f (by omega)
        constructor
        · simp (disch := omega) only [up1_e, up1_n, wi_j, wi_k]; exact this.1
        · simp (disch := omega) only [up1_e, up1_n, wi_j, wi_k]; exact this.2
    · intro b hb
      rw [show (up1 (up1 (up1 D (5 + 2 * D 0) a) (6 + 2 * D 0) _) 0 (D 0 + 1)) 1 = D 1 by simp (disch := omega) only [up1_n]] at hb
      have := eB b hb
      refine ⟨?_, ?_, ?_, ?_⟩
      · simp (disch := omega) only [up1_n, wi_k]; exact this.1
      · simp (disch := omega) only [up1_n, wi_k]; exact this.2.1
      · simp (disch := omega) only [up1_n, wi_k]; exact this.2.2.1
      · simp (disch := omega) only [up1_n, wi_k]; exact this.2.2.2
    · intro s hs
      rw [show (up1 (up1 (up1 D (5 + 2 * D 0) a) (6 + 2 * D 0) b) 0 (D 0 + 1)) 2 = D 2 by simp (disch := omega) only [up1_n]] at hs
      have := eS s hs
      refine ⟨?_, ?_, ?_⟩
      · simp (disch := omega) only [up1_n, wi_k]; exact this.1
      · simp (disch := omega) only [up1_n, wi_k]; exact this.2.1
      · simp (disch := omega) only [up1_n, wi_k]; exact this.2.2
    · intro i hi; simp (disch := omega) only [wi_k]
  · rw [if_pos (show (6 : Int32) ≤ nI (D 0) from nI_le (a := 6) (by omega) (by omega)), if_neg y]
    exact ⟨h, rfl, c, fun _ _ => rfl, rfl⟩
theorem c_addBar (c : CHD h D) (a b g d : Nat) : ∃ h', X1_addBar N h 157 (nI a) (nI b) (nI g) (nI d) = some h' ∧ CHD h' (upB a b g d D) ∧ CHf h h' := by
  obtain ⟨c0, c1, c2, c4, e, eF, eB, eS⟩ := id c
  unfold X1_addBar upB
  rw [e 1 (by decide), if_neg (nI_pos (by omega))]
  by_cases y : D 1 < 8
  · rw [if_neg (show ¬ (8 : Int32) ≤ nI (D 1) from nI_ge (b := 8) y (by decide)), if_neg (nI_in y (by decide)), sq_eq, if_pos y, nI_clamp (by omega)]
    rw [show (wi h (157 + 3) (D 1) (nI a)).1 157 1 = nI (D 1) by rw [wi_k _ _ (by decide)]; exact e 1 (by decide), if_neg (nI_in y (by decide)), sq_eq, nI_clamp (by omega)]
    rw [show (wi (wi h (157 + 3) (D 1) (nI a)) (157 + 4) (D 1) (nI b)).1 157 1 = nI (D 1) by rw [wi_k _ _ (by decide), wi_k _ _ (by decide)]; exact e 1 (by decide), if_neg (nI_in y (by decide)), sq_eq, nI_clamp (by omega)]
    rw [show (wi (wi (wi h (157 + 3) (D 1) (nI a)) (157 + 4) (D 1) (nI b)) (157 + 5) (D 1) (nI g)).1 157 1 = nI (D 1) by rw [wi_k _ _ (by decide), wi_k _ _ (by decide), wi_k _ _ (by decide)]; exact e 1 (by decide), if_neg (nI_in y (by decide)), sq_eq, nI_clamp (by omega)]
    rw [show (wi (wi (wi (wi h (157 + 3) (D 1) (nI a)) (157 + 4) (D 1) (nI b)) (157 + 5) (D 1) (nI g)) (157 + 6) (D 1) (nI d)).1 157 1 = nI (D 1) by rw [wi_k _ _ (by decide), wi_k _ _ (by decide), wi_k _ _ (by decide), wi_k _ _ (by decide)]; exact e 1 (by decide), nI_1, sq_eq]
    refine ⟨_, rfl, ⟨?_, ?_, ?_, ?_, ?_, ?_, ?_, ?_⟩, ?_, rfl⟩
    · simp (disch := omega) only [up1_e, up1_n]; omega
    · simp (disch := omega) only [up1_e, up1_n]; omega
    · simp (disch := omega) only [up1_e, up1_n]; omega
    · simp (disch := omega) only [up1_e, up1_n]; omega
    · intro j hj
      by_cases w : j = 1
      · subst w; rw [wi_s]; simp (disch := omega) only [up1_e, up1_n]
      · simp (disch := omega) only [up1_e, up1_n, wi_j, wi_k]; exact e j hj
    · intro f hf
      rw [show (up1 (up1 (up1 (up1 (up1 D (17 + 4 * D 1) a) (18 + 4 * D 1) b) (19 + 4 * D 1) g) (20 + 4 * D 1) d) 1 (D 1 + 1)) 0 = D 0 by simp (disch := omega) only [up1_n]] at hf
      have := eF f hf
      refine ⟨?_, ?_⟩
      · simp (disch := omega) only [up1_n, wi_k]; exact this.1
      · simp (disch := omega) only [up1_n, wi_k]; exact this.2
    · intro i hi
      rw [up1_e rfl] at hi
      by_cases w : i = D 1
      · subst w
        refine ⟨?_, ?_, ?_, ?_⟩
        · simp (disch := omega) only [up1_e, up1_n, wi_s, wi_k]
        · simp (disch := omega) only [up1_e, up1_n, wi_s, wi_k]
        · simp (disch := omega) only [up1_e, up1_n, wi_s, wi_k]
        · simp (disch := omega) only [up1_e, up1_n, wi_s, wi_k]
      · have := eB i (by omega)
        refine ⟨?_, ?_, ?_, ?_⟩
        · simp (disch := omega) only [up1_e, up1_n, wi_j, wi_k]; exact this.1
        · simp (disch := omega) only [up1_e, up1_n, wi_j, wi_k]; exact this.2.1
        · simp (disch := omega) only [up1_e, up1_n, wi_j, wi_k]; exact this.2.2.1
        · simp (disch := omega) only [up1_e, up1_n, wi_j, wi_k]; exact this.2.2.2
    · intro s hs
      rw [show (up1 (up1 (up1 (up1 (up1 D (17 + 4 * D 1) a) (18 + 4 * D 1) b) (19 + 4 * D 1) g) (20 + 4 * D 1) d) 1 (D 1 + 1)) 2 = D 2 by simp (disch := omega) only [up1_n]] at hs
      have := eS s hs
      refine ⟨?_, ?_, ?_⟩
      · simp (disch := omega) only [up1_n, wi_k]; exact this.1
      · simp (disch := omega) only [up1_n, wi_k]; exact this.2.1
      · simp (disch := omega) only [up1_n, wi_k]; exact this.2.2
    · intro i hi; simp (disch := omega) only [wi_k]
  · rw [if_pos (show (8 : Int32) ≤ nI (D 1) from nI_le (a := 8) (by omega) (by omega)), if_neg y]
    exact ⟨h, rfl, c, fun _ _ => rfl, rfl⟩
theorem c_addSinger (c : CHD h D) (a b g : Nat) : ∃ h', X1_addSinger N h 157 (nI a) (nI b) (nI g) = some h' ∧ CHD h' (upS a b g D) ∧ CHf h h' := by
  obtain ⟨c0, c1, c2, c4, e, eF, eB, eS⟩ := id c
  unfold X1_addSinger upS
  rw [e 2 (by decide), if_neg (nI_pos (by omega))]
  by_cases y : D 2 < 5
  · rw [if_neg (show ¬ (5 : Int32) ≤ nI (D 2) from nI_ge (b := 5) y (by decide)), if_neg (nI_in y (by decide)), sq_eq, if_pos y, nI_clamp (by omega)]
    rw [show (wi h (157 + 7) (D 2) (nI a)).1 157 2 = nI (D 2) by rw [wi_k _ _ (by decide)]; exact e 2 (by decide), if_neg (nI_in y (by decide)), sq_eq, nI_clamp (by omega)]
    rw [show (wi (wi h (157 + 7) (D 2) (nI a)) (157 + 8) (D 2) (nI b)).1 157 2 = nI (D 2) by rw [wi_k _ _ (by decide), wi_k _ _ (by decide)]; exact e 2 (by decide), if_neg (nI_in y (by decide)), sq_eq, nI_clamp (by omega)]
    rw [show (wi (wi (wi h (157 + 7) (D 2) (nI a)) (157 + 8) (D 2) (nI b)) (157 + 9) (D 2) (nI g)).1 157 2 = nI (D 2) by rw [wi_k _ _ (by decide), wi_k _ _ (by decide), wi_k _ _ (by decide)]; exact e 2 (by decide), nI_1, sq_eq]
    refine ⟨_, rfl, ⟨?_, ?_, ?_, ?_, ?_, ?_, ?_, ?_⟩, ?_, rfl⟩
    · simp (disch := omega) only [up1_e, up1_n]; omega
    · simp (disch := omega) only [up1_e, up1_n]; omega
    · simp (disch := omega) only [up1_e, up1_n]; omega
    · simp (disch := omega) only [up1_e, up1_n]; omega
    · intro j hj
      by_cases w : j = 2
      · subst w; rw [wi_s]; simp (disch := omega) only [up1_e, up1_n]
      · simp (disch := omega) only [up1_e, up1_n, wi_j, wi_k]; exact e j hj
    · intro f hf
      rw [show (up1 (up1 (up1 (up1 D (49 + 3 * D 2) a) (50 + 3 * D 2) b) (51 + 3 * D 2) g) 2 (D 2 + 1)) 0 = D 0 by simp (disch := omega) only [up1_n]] at hf
      have := eF f hf
      refine ⟨?_, ?_⟩
      · simp (disch := omega) only [up1_n, wi_k]; exact this.1
      · simp (disch := omega) only [up1_n, wi_k]; exact this.2
    · intro i hi
      rw [show (up1 (up1 (up1 (up1 D (49 + 3 * D 2) a) (50 + 3 * D 2) b) (51 + 3 * D 2) g) 2 (D 2 + 1)) 1 = D 1 by simp (disch := omega) only [up1_n]] at hi
      have := eB i hi
      refine ⟨?_, ?_, ?_, ?_⟩
      · simp (disch := omega) only [up1_n, wi_k]; exact this.1
      · simp (disch := omega) only [up1_n, wi_k]; exact this.2.1
      · simp (disch := omega) only [up1_n, wi_k]; exact this.2.2.1
      · simp (disch := omega) only [up1_n, wi_k]; exact this.2.2.2
    · intro s hs
      rw [up1_e rfl] at hs
      by_cases w : s = D 2
      · subst w
        refine ⟨?_, ?_, ?_⟩
        · simp (disch := omega) only [up1_e, up1_n, wi_s, wi_k]
        · simp (disch := omega) only [up1_e, up1_n, wi_s, wi_k]
        · simp (disch := omega) only [up1_e, up1_n, wi_s, wi_k]
      · have := eS s (by omega)
        refine ⟨?_, ?_, ?_⟩
        · simp (disch := omega) only [up1_e, up1_n, wi_j, wi_k]; exact this.1
        · simp (disch := omega) only [up1_e, up1_n, wi_j, wi_k]; exact this.2.1
        · simp (disch := omega) only [up1_e, up1_n, wi_j, wi_k]; exact this.2.2
    · intro i hi; simp (disch := omega) only [wi_k]
  · rw [if_pos (show (5 : Int32) ≤ nI (D 2) from nI_le (a := 5) (by omega) (by omega)), if_neg y]
    exact ⟨h, rfl, c, fun _ _ => rfl, rfl⟩
theorem c_set {i v : Nat} (c : CHD h D) (hi : i = 3 ∨ i = 4) (hv : i = 4 → v < 256) : CHD (wi h 157 i (nI v)) (up1 D i v) ∧ CHf h (wi h 157 i (nI v)) := by
  obtain ⟨c0, c1, c2, c4, e, eF, eB, eS⟩ := id c
  refine ⟨⟨?_, ?_, ?_, ?_, ?_, ?_, ?_, ?_⟩, fun k hk => by simp (disch := omega) only [wi_k], rfl⟩
  · rw [up1_n (by omega)]; exact c0
  · rw [up1_n (by omega)]; exact c1
  · rw [up1_n (by omega)]; exact c2
  · by_cases w : 4 = i
    · rw [up1_e w]; exact hv w.symm
    · rw [up1_n w]; exact c4
  · intro j hj
    by_cases w : j = i
    · subst w; rw [wi_s, up1_e rfl]
    · rw [wi_j _ _ w, up1_n w]; exact e j hj
  · intro f hf
    rw [up1_n (by omega)] at hf
    have := eF f hf
    refine ⟨?_, ?_⟩
    · simp (disch := omega) only [up1_n, wi_k]; exact this.1
    · simp (disch := omega) only [up1_n, wi_k]; exact this.2
  · intro b hb
    rw [up1_n (by omega)] at hb
    have := eB b hb
    refine ⟨?_, ?_, ?_, ?_⟩
    · simp (disch := omega) only [up1_n, wi_k]; exact this.1
    · simp (disch := omega) only [up1_n, wi_k]; exact this.2.1
    · simp (disch := omega) only [up1_n, wi_k]; exact this.2.2.1
    · simp (disch := omega) only [up1_n, wi_k]; exact this.2.2.2
  · intro s hs
    rw [up1_n (by omega)] at hs
    have := eS s hs
    refine ⟨?_, ?_, ?_⟩
    · simp (disch := omega) only [up1_n, wi_k]; exact this.1
    · simp (disch := omega) only [up1_n, wi_k]; exact this.2.1
    · simp (disch := omega) only [up1_n, wi_k]; exact this.2.2
theorem c_keepH {k : Nat} {nv : Nat → Nat} (hk : k < 5) (c : CHD h D) (hv : ∀ j, j < nNum k → h.1 170 j = nI (nv j) ∧ nv j ≤ 99) : ∃ h', X4_keepLine N h 156 (nI k) = some h' ∧ CHD h' (upH k (nv 0) (nv 1) (nv 2) (nv 3) D) ∧ CHf h h' := by
  unfold X4_keepLine upH
  match k, hk with
  | 0, _ =>
    rw [if_pos (show nI 0 = 0 from rfl), if_pos rfl, if_neg (by decide), if_neg (by decide), show h.1 (156 + 14) (0 : Int32).toNatClampNeg = nI (nv 0) from (hv 0 (by decide)).1, show h.1 (156 + 14) (1 : Int32).toNatClampNeg = nI (nv 1) from (hv 1 (by decide)).1, bd1_id]
    exact c_addFloor c _ _
  | 1, _ =>
    rw [if_neg (show ¬ nI 1 = 0 by decide), if_pos (show nI 1 = 1 from rfl), if_neg (by decide), if_pos rfl, if_neg (by decide), if_neg (by decide), if_neg (by decide), if_neg (by decide), show h.1 (156 + 14) (0 : Int32).toNatClampNeg = nI (nv 0) from (hv 0 (by decide)).1, show h.1 (156 + 14) (1 : Int32).toNatClampNeg = nI (nv 1) from (hv 1 (by decide)).1, show h.1 (156 + 14) (2 : Int32).toNatClampNeg = nI (nv 2) from (hv 2 (by decide)).1, show h.1 (156 + 14) (3 : Int32).toNatClampNeg = nI (nv 3) from (hv 3 (by decide)).1, bd1_id]
    exact c_addBar c _ _ _ _
  | 2, _ =>
    rw [if_neg (show ¬ nI 2 = 0 by decide), if_neg (show ¬ nI 2 = 1 by decide), if_pos (show nI 2 = 2 from rfl), if_neg (by decide), if_neg (by decide), if_pos rfl, if_neg (by decide), if_neg (by decide), if_neg (by decide), show h.1 (156 + 14) (0 : Int32).toNatClampNeg = nI (nv 0) from (hv 0 (by decide)).1, show h.1 (156 + 14) (1 : Int32).toNatClampNeg = nI (nv 1) from (hv 1 (by decide)).1, show h.1 (156 + 14) (2 : Int32).toNatClampNeg = nI (nv 2) from (hv 2 (by decide)).1, bd1_id]
    exact c_addSinger c _ _ _
  | 3, _ =>
    rw [if_neg (show ¬ nI 3 = 0 by decide), if_neg (show ¬ nI 3 = 1 by decide), if_neg (show ¬ nI 3 = 2 by decide), if_pos (show nI 3 = 3 from rfl), if_neg (by decide), if_neg (by decide), if_neg (by decide), if_pos rfl, if_neg (by decide), sq_eq, show h.1 (156 + 14) (0 : Int32).toNatClampNeg = nI (nv 0) from (hv 0 (by decide)).1]
    have := c_set (i := 3) (v := nv 0) c (Or.inl rfl) (fun w => by omega)
    exact ⟨_, rfl, this.1, this.2⟩
  | 4, _ =>
    have v9 := (hv 0 (by decide)).2
    rw [if_neg (show ¬ nI 4 = 0 by decide), if_neg (show ¬ nI 4 = 1 by decide), if_neg (show ¬ nI 4 = 2 by decide), if_neg (show ¬ nI 4 = 3 by decide), if_pos (show nI 4 = 4 from rfl), if_neg (show ¬ ((0 : Int32) < 0 ∨ 4 ≤ (0 : Int32).toNatClampNeg) by decide), if_neg (show ¬ (4 : Nat) = 0 by decide), if_neg (show ¬ (4 : Nat) = 1 by decide), if_neg (show ¬ (4 : Nat) = 2 by decide), if_neg (show ¬ (4 : Nat) = 3 by decide), show h.1 (156 + 14) (0 : Int32).toNatClampNeg = nI (nv 0) from (hv 0 (by decide)).1, show h.1 (156 + 1) 4 = nI (D 4) from c.2.2.2.2.1 4 (by decide)]
    unfold upW
    by_cases w : nv 0 < 8
    · rw [if_neg (show ¬ (8 : Int32) ≤ nI (nv 0) from nI_ge (b := 8) w (by decide)), if_neg (by decide), sq_eq, one_shl _ (by omega), nx_or, if_pos w]
      have := c_set (i := 4) (v := D 4 ||| 2 ^ nv 0) c (Or.inr rfl) (fun _ => or_lt 8 c.2.2.2.1 w)
      exact ⟨_, rfl, this.1, this.2⟩
    · rw [if_pos (show (8 : Int32) ≤ nI (nv 0) from nI_le (a := 8) (by omega) (by omega)), sq_eq, if_neg w, show nI (D 4) ||| 0 = nI (D 4) by rw [show nI (D 4) ||| 0 = nI (D 4 ||| 0) from nx_or (D 4) 0, Nat.or_zero]]
      have := c_set (i := 4) (v := D 4) c (Or.inr rfl) (fun _ => c.2.2.2.1)
      have eu : up1 D 4 (D 4) = D := by
        funext j
        unfold up1
        by_cases u : j = 4
        · rw [if_pos u, u]
        · rw [if_neg u]
      rw [eu] at this
      exact ⟨_, rfl, this.1, this.2⟩
end CKP
