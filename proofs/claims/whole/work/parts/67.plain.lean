/-! ===== level 2: loops by a step; the plain calls ===== -/
theorem lpI {A B : Type} {F : Nat → Nat → A → Option B} {f : Nat → A → A} {g : A → Option B} {M : Nat} (J : Nat → A → Prop)
    (hs : ∀ n i a, i < M → J i a → F (n + 1) i a = F n (i + 1) (f i a) ∧ J (i + 1) (f i a)) (he : ∀ n a, J M a → F (n + 1) M a = g a) :
    ∀ (r i n : Nat) (a : A), J i a → i + r = M → r < n → F n i a = g (zl f r i a) ∧ J M (zl f r i a) := by
  intro r
  induction r with
  | zero =>
    intro i n a j e hn
    obtain ⟨n, rfl, _⟩ := fuel hn
    have e2 : i = M := by omega
    rw [e2] at j ⊢
    exact ⟨he n a j, j⟩
  | succ r ih =>
    intro i n a j e hn
    obtain ⟨n, rfl, _⟩ := fuel hn
    obtain ⟨h1, h2⟩ := hs n i a (by omega) j
    rw [h1]
    exact ih (i + 1) n _ h2 (by omega) (by omega)
theorem lp {A B : Type} {F : Nat → Nat → A → Option B} {f : Nat → A → A} {g : A → Option B} {M : Nat}
    (hs : ∀ n i a, i < M → F (n + 1) i a = F n (i + 1) (f i a)) (he : ∀ n a, F (n + 1) M a = g a) :
    ∀ (r i n : Nat) (a : A), i + r = M → r < n → F n i a = g (zl f r i a) := by
  intro r i n a e hn
  exact (lpI (fun _ _ => True) (fun n i a hi _ => ⟨hs n i a hi, trivial⟩) (fun n a _ => he n a) r i n a trivial e hn).1
/-- a loop that may end early -/
def zx {A B : Type} (f : Nat → A → A ⊕ B) (g : A → B) : Nat → Nat → A → B
  | 0, _, a => g a
  | r + 1, i, a => match f i a with | .inl b => zx f g r (i + 1) b | .inr b => b
theorem lxI {A B : Type} {F : Nat → Nat → A → Option B} {f : Nat → A → A ⊕ B} {g : A → B} {M : Nat} (J : Nat → A → Prop)
    (hs : ∀ n i a, i < M → J i a → (∃ b, f i a = .inl b ∧ F (n + 1) i a = F n (i + 1) b ∧ J (i + 1) b) ∨ (∃ b, f i a = .inr b ∧ F (n + 1) i a = some b))
    (he : ∀ n a, J M a → F (n + 1) M a = some (g a)) : ∀ (r i n : Nat) (a : A), J i a → i + r = M → r < n → F n i a = some (zx f g r i a) := by
  intro r
  induction r with
  | zero =>
    intro i n a j e hn
    obtain ⟨n, rfl, _⟩ := fuel hn
    have e2 : i = M := by omega
    rw [e2] at j ⊢
    exact he n a j
  | succ r ih =>
    intro i n a j e hn
    obtain ⟨n, rfl, _⟩ := fuel hn
    rcases hs n i a (by omega) j with ⟨b, e1, e2, e3⟩ | ⟨b, e1, e2⟩
    · rw [e2, zx, e1]
      exact ih (i + 1) n b e3 (by omega) (by omega)
    · rw [e2, zx, e1]
theorem one0 : ¬ ((1 : Int32) = 0) := by decide
theorem tc0 : (0 : Int32).toNatClampNeg = 0 := rfl
theorem tc1 : (1 : Int32).toNatClampNeg = 1 := rfl
theorem lt00 : ((0 : Int32) < 0) = False := by simp
theorem lt10 : ((1 : Int32) < 0) = False := by simp
theorem ndiv {v : Int32} (hv : v < 0) {c : Nat} (h1 : 1 ≤ c) (h2 : c < 2 ^ 31) : ¬ v / 10 = nI c := by
  intro e
  have e1 := congrArg Int32.toInt e
  have hv2 := Int32.lt_iff_toInt_lt.mp hv
  have hl := Int32.le_toInt v
  have z0 : (0 : Int32).toInt = 0 := by decide
  have z10 : (10 : Int32).toInt = 10 := by decide
  rw [Int32.toInt_div, nI_toInt h2, z10] at e1
  rw [z0] at hv2
  have hm : v.toInt.tdiv 10 = -((-v.toInt) / 10) := by
    rw [show v.toInt = -(-v.toInt) by omega, Int.neg_tdiv, Int.tdiv_eq_ediv_of_nonneg (by omega)]
    omega
  rw [hm] at e1
  have h3 : 0 ≤ (-v.toInt) / 10 := by omega
  have h4 : (-v.toInt) / 10 ≤ 2 ^ 31 / 10 := by omega
  rw [Int.bmod_eq_of_le (by omega) (by omega)] at e1
  omega
theorem nlt10 {b : Int32} (z : b < 0) : b < 10 := by
  rw [Int32.lt_iff_toInt_lt] at z ⊢
  have z0 : (0 : Int32).toInt = 0 := by decide
  have z1 : (10 : Int32).toInt = 10 := by decide
  omega
section PL
variable {N : Nat} {h : HS} {q : Nat} {D : Nat → Nat}
theorem rixC (c : RH h q D) {x : Int32} {i : Nat} (hx : x = nI (q + i)) (hi : i < 64) : ¬ (x < 0 ∨ 3736 ≤ x.toNatClampNeg) ∧ h.1 (237 + 1) x.toNatClampNeg = nI (D i) := by
  have := c.2.1
  subst hx
  refine ⟨nI_in (by omega) (by decide), ?_⟩
  rw [nI_clamp (by omega)]
  exact rhi c hi
end PL
theorem q_fault {N : Nat} {h : HS} (I : INV h) (a : Int32) : ∃ r, X10_fault N h 1 a = some r ∧ X11_fault N h 237 a = some r := by
  obtain ⟨⟨c, t1, t2, t3, _⟩, _⟩ := I
  unfold X10_fault X11_fault
  by_cases z : a = 0
  · exact ⟨h.1 2 2, by rw [if_pos z], by rw [if_pos z, if_neg (by decide), t2]; rfl⟩
  · rw [if_neg z, if_neg z]
    by_cases y : a = 1
    · exact ⟨h.1 2 3, by rw [if_pos y], by rw [if_pos y, if_neg (by decide), t3]; rfl⟩
    · exact ⟨-1, by rw [if_neg y], by rw [if_neg y]⟩
theorem q_count {N : Nat} {h : HS} (I : INV h) (a : Int32) : ∃ r, X10_count N h 1 a = some r ∧ X11_count N h 237 a = some r := by
  obtain ⟨⟨c, t1, t2, t3, t4, _⟩, _⟩ := I
  unfold X10_count X11_count
  rcases i_cases a with z | ⟨j, hj, rfl⟩
  · exact ⟨-2, by rw [if_pos z], by rw [r_isIn, bd1_some, inneg z]; rfl⟩
  · by_cases y : j < 3
    · obtain ⟨_, e1, e2⟩ := t4 j y
      rw [r_isIn, bd1_some, nB_t (show 0 ≤ nI j ∧ nI j ≤ 2 from ⟨nI_pos' hj, (nI_leI (b := 2) hj (by decide)).mpr (by omega)⟩)]
      refine ⟨nI (c j), ?_, ?_⟩
      · simp (disch := omega) only [zn2, zn3, zn4, zn5, zn6, zn7, zn8, zn9, zn10, zn11, zn12, zn13, zn14, zn15, zn16, zn17, zn18, zn19, zn20, zn21, zn24, zn29, zn30, zn32, zn40, zn48, zn49, zn54, zn57, zn59, zn60, zn63, zn64, zn81, zn97, zn99, zn122, zn127, zn600, zn610, zn738, zn900, zn934, zn999, zn3736, zn999999, zn99999999, nI_leI, nI_ltI, nI_eq, nI_clamp, zi_lt0, zi_le0, zi_0lt, zi_0le, zi_eq0, zi_e0, zi_eq1, zi_lt1, zi_1le, zi_m1, zi_1m, nI_1, false_or, or_false, if_pos, if_neg, nz_0, nz_1, nB_0, nB_n0, nB_1, nz_nB, bd1_some, bd2_some, sq_eq, ite_not, if_true, if_false, true_and, and_true, false_and, and_false, not_true_eq_false, not_false_eq_true, true_or, or_true]
        exact congrArg some e1
      · rw [if_neg (by decide)]
        simp (disch := omega) only [zn2, zn3, zn4, zn5, zn6, zn7, zn8, zn9, zn10, zn11, zn12, zn13, zn14, zn15, zn16, zn17, zn18, zn19, zn20, zn21, zn24, zn29, zn30, zn32, zn40, zn48, zn49, zn54, zn57, zn59, zn60, zn63, zn64, zn81, zn97, zn99, zn122, zn127, zn600, zn610, zn738, zn900, zn934, zn999, zn3736, zn999999, zn99999999, nI_leI, nI_ltI, nI_eq, nI_clamp, zi_lt0, zi_le0, zi_0lt, zi_0le, zi_eq0, zi_e0, zi_eq1, zi_lt1, zi_1le, zi_m1, zi_1m, nI_1, false_or, or_false, if_pos, if_neg, nz_0, nz_1, nB_0, nB_n0, nB_1, nz_nB, bd1_some, bd2_some, sq_eq, ite_not, if_true, if_false, true_and, and_true, false_and, and_false, not_true_eq_false, not_false_eq_true, true_or, or_true]
        rw [Nat.zero_add] at e2
        exact congrArg some e2
    · rw [r_isIn, bd1_some, nB_f (show ¬ (0 ≤ nI j ∧ nI j ≤ 2) from fun w => y (by have := (nI_leI (b := 2) hj (by decide)).mp w.2; omega))]
      refine ⟨-2, ?_, rfl⟩
      simp (disch := omega) only [zn2, zn3, zn4, zn5, zn6, zn7, zn8, zn9, zn10, zn11, zn12, zn13, zn14, zn15, zn16, zn17, zn18, zn19, zn20, zn21, zn24, zn29, zn30, zn32, zn40, zn48, zn49, zn54, zn57, zn59, zn60, zn63, zn64, zn81, zn97, zn99, zn122, zn127, zn600, zn610, zn738, zn900, zn934, zn999, zn3736, zn999999, zn99999999, nI_leI, nI_ltI, nI_eq, nI_clamp, zi_lt0, zi_le0, zi_0lt, zi_0le, zi_eq0, zi_e0, zi_eq1, zi_lt1, zi_1le, zi_m1, zi_1m, nI_1, false_or, or_false, if_pos, if_neg, nz_0, nz_1, nB_0, nB_n0, nB_1, nz_nB, bd1_some, bd2_some, sq_eq, ite_not, if_true, if_false, true_and, and_true, false_and, and_false, not_true_eq_false, not_false_eq_true, true_or, or_true]
/-! what leaves the told things alone -/
theorem KH_fr {h w : HS} {p : Nat} {D : Nat → Nat} (e : ∀ k, p ≤ k → k < p + 10 → w.1 k = h.1 k) (c : KH h p D) : KH w p D := by
  obtain ⟨c1, c2, c3, c4, c5, c6⟩ := c
  refine ⟨c1, c2, ?_, ?_, ?_, ?_⟩
  · rw [e p (by omega) (by omega)]; exact c3
  · rw [e (p + 1) (by omega) (by omega), e (p + 2) (by omega) (by omega)]; exact c4
  · rw [e (p + 3) (by omega) (by omega), e (p + 4) (by omega) (by omega), e (p + 5) (by omega) (by omega), e (p + 6) (by omega) (by omega)]; exact c5
  · rw [e (p + 7) (by omega) (by omega), e (p + 8) (by omega) (by omega), e (p + 9) (by omega) (by omega)]; exact c6
theorem CR_fr {h w : HS} {p M E m : Nat} {K : Nat → Nat} {V : Nat → Int32} (e : ∀ k, p ≤ k → k < p + 3 → w.1 k = h.1 k) (c : CR h p M E m K V) : CR w p M E m K V := by
  unfold CR
  rw [e p (by omega) (by omega), e (p + 1) (by omega) (by omega), e (p + 2) (by omega) (by omega)]
  exact c
theorem RR_fr {h w : HS} {q m : Nat} {K : Nat → Nat} {V : Nat → Int32} (e : ∀ i, q ≤ i → i ≤ q + 2 * m → w.1 238 i = h.1 238 i) (c : RR h q m K V) : RR w q m K V := by
  refine ⟨by rw [e q (by omega) (by omega)]; exact c.1, fun i hi => ?_⟩
  rw [e _ (by omega) (by omega), e _ (by omega) (by omega)]
  exact c.2 i hi
theorem TR_fr {h w : HS} {T B : Nat} {c : Nat → Nat} (e : ∀ k, T ≤ k → k < T + 38 → w.1 k = h.1 k) (f : ∀ i, B ≤ i → i < B + 934 → w.1 238 i = h.1 238 i) (t : TR h T B c) : TR w T B c := by
  obtain ⟨⟨y, y0, y1, y2, y3⟩, s2, s3, s4, s5, s6, s7⟩ := t
  refine ⟨⟨y, y0, ?_, ?_, ?_⟩, ?_, ?_, ?_, ?_, ?_, ?_⟩
  · rw [e _ (by omega) (by omega)]; exact y1
  · rw [f _ (by omega) (by omega)]; exact y2
  · intro i hi
    rw [e _ (by omega) (by omega), f _ (by omega) (by omega)]; exact y3 i hi
  · rw [e _ (by omega) (by omega), f _ (by omega) (by omega)]; exact s2
  · rw [e _ (by omega) (by omega), f _ (by omega) (by omega)]; exact s3
  · intro s hs
    rw [e _ (by omega) (by omega), f _ (by omega) (by omega)]; exact s4 s hs
  · intro j hj
    obtain ⟨D, a, b⟩ := s5 j hj
    have := (s4 0 (by decide)).1
    exact ⟨D, KH_fr (fun k h1 h2 => e k (by omega) (by omega)) a, fun i hi => by rw [f _ (by omega) (by omega)]; exact b i hi⟩
  · intro j hj
    obtain ⟨m, K, V, a, b⟩ := s6 j hj
    have := (s4 1 (by decide)).1
    have := a.1
    exact ⟨m, K, V, CR_fr (fun k h1 h2 => e k (by omega) (by omega)) a, RR_fr (fun i h1 h2 => f i (by omega) (by omega)) b⟩
  · intro j hj
    obtain ⟨m, K, V, a, b⟩ := s7 j hj
    have := (s4 2 (by decide)).1
    have := a.1
    exact ⟨m, K, V, CR_fr (fun k h1 h2 => e k (by omega) (by omega)) a, RR_fr (fun i h1 h2 => f i (by omega) (by omega)) b⟩
/-- only what is told now has changed -/
theorem INV_now {h w : HS} (I : INV h) (hk : ∀ k, 40 ≤ k → k < 156 → w.1 k = h.1 k) (h9 : w.1 239 = h.1 239) (h7 : w.1 167 0 = h.1 167 0) (h8 : ∀ i, 934 ≤ i → w.1 238 i = h.1 238 i) (mo : MO w 2) (t : ∃ c, TR w 2 0 c) : INV w := by
  obtain ⟨_, i2, _, i4, i5⟩ := I
  refine ⟨t, ?_, mo, ?_, by rw [h7]; exact i5⟩
  · intro k hk3
    rw [hk 155 (by decide) (by decide), h9]
    rcases i2 k hk3 with z | ⟨z1, z2, c, z3⟩
    · exact Or.inl z
    · exact Or.inr ⟨z1, z2, c, TR_fr (fun j h1 h2 => hk j (by omega) (by omega)) (fun i h1 h2 => h8 i (by omega)) z3⟩
  · intro k hk3
    unfold MO
    rw [hk _ (by omega) (by omega), hk _ (by omega) (by omega), hk _ (by omega) (by omega), hk _ (by omega) (by omega)]
    exact i4 k hk3
theorem MO_fr {h w : HS} {T : Nat} (e : ∀ k, T + 25 ≤ k → k < T + 38 → w.1 k = h.1 k) (m : MO h T) : MO w T := by
  unfold MO
  rw [e _ (by omega) (by omega), e _ (by omega) (by omega), e _ (by omega) (by omega), e _ (by omega) (by omega)]
  exact m
/-- the told houses, nights and mornings stay, tape, fault and place are other ones -/
theorem TR_tape {h w : HS} {T B : Nat} {c : Nat → Nat} (e : ∀ k, T + 2 ≤ k → k < T + 38 → w.1 k = h.1 k) (f3 : ∀ s, s < 3 → w.1 238 (B + s) = h.1 238 (B + s)) (f : ∀ i, B + 610 ≤ i → i < B + 934 → w.1 238 i = h.1 238 i)
    (t1 : ∃ z, z ≤ 600 ∧ w.1 T 1 = nI z ∧ w.1 238 (B + 4) = nI z ∧ ∀ i, i < z → (w.1 (T + 1) i) &&& 255 = w.1 238 (B + 10 + i)) (t2 : w.1 T 2 = w.1 238 (B + 5)) (t3 : w.1 T 3 = w.1 238 (B + 6)) (t : TR h T B c) : TR w T B c := by
  obtain ⟨_, _, _, s4, s5, s6, s7⟩ := t
  refine ⟨t1, t2, t3, ?_, ?_, ?_, ?_⟩
  · intro s hs
    rw [e _ (by omega) (by omega), f3 s hs]; exact s4 s hs
  · intro j hj
    obtain ⟨D, a, b⟩ := s5 j hj
    have := (s4 0 (by decide)).1
    exact ⟨D, KH_fr (fun k h1 h2 => e k (by omega) (by omega)) a, fun i hi => by rw [f _ (by omega) (by omega)]; exact b i hi⟩
  · intro j hj
    obtain ⟨m, K, V, a, b⟩ := s6 j hj
    have := (s4 1 (by decide)).1
    have := a.1
    exact ⟨m, K, V, CR_fr (fun k h1 h2 => e k (by omega) (by omega)) a, RR_fr (fun i h1 h2 => f i (by omega) (by omega)) b⟩
  · intro j hj
    obtain ⟨m, K, V, a, b⟩ := s7 j hj
    have := (s4 2 (by decide)).1
    have := a.1
    exact ⟨m, K, V, CR_fr (fun k h1 h2 => e k (by omega) (by omega)) a, RR_fr (fun i h1 h2 => f i (by omega) (by omega)) b⟩
theorem q_end {N : Nat} {h : HS} (I : INV h) (a : Int32) : ∃ r h1 h2, X10_end N h 1 a = some (r, h1) ∧ X11_end N h1 237 a = some (r, h2) ∧ INV h2 := by
  have I0 := I
  obtain ⟨⟨c, t⟩, i2, i3, i4, i5⟩ := I
  obtain ⟨⟨z, hz, z1, z2, z3⟩, t2, t3, _⟩ := id t
  rw [Nat.zero_add] at z2 t2 t3
  unfold X10_end X11_end
  rcases i_cases a with y | ⟨j, hj, rfl⟩
  · exact ⟨-1, h, h, by rw [if_pos y], by rw [if_pos y], I0⟩
  · rw [show h.1 (1 + 1) 1 = nI z from z1, if_neg (nI_pos hj)]
    by_cases y : j ≤ z
    · rw [if_pos ((nI_leI hj (by omega)).mpr y), sq_eq]
      refine ⟨nI j, wi h 2 1 (nI j), wi (wi h 2 1 (nI j)) 238 4 (nI j), rfl, ?_, ?_⟩
      · rw [if_neg (nI_pos hj), if_neg (by decide), show (wi h 2 1 (nI j)).1 (237 + 1) (4 : Int32).toNatClampNeg = nI z from z2, if_pos ((nI_leI hj (by omega)).mpr y), if_neg (by decide), sq_eq]
        rfl
      · have k2 : ∀ k, k ≠ 2 → k ≠ 238 → (wi (wi h 2 1 (nI j)) 238 4 (nI j)).1 k = h.1 k := fun k h1 h2 => by rw [wi_k _ _ h2, wi_k _ _ h1]
        have k8 : ∀ i, i ≠ 4 → (wi (wi h 2 1 (nI j)) 238 4 (nI j)).1 238 i = h.1 238 i := fun i hi => by rw [wi_j _ _ hi, wi_k _ _ (by decide)]
        have kT : ∀ i, i ≠ 1 → (wi (wi h 2 1 (nI j)) 238 4 (nI j)).1 2 i = h.1 2 i := fun i hi => by rw [wi_k _ _ (by decide), wi_j _ _ hi]
        refine INV_now I0 (fun k h1 h2 => k2 k (by omega) (by omega)) (k2 _ (by decide) (by decide)) (by rw [k2 _ (by decide) (by decide)]) (fun i hi => k8 i (by omega)) (MO_fr (fun k h1 h2 => k2 k (by omega) (by omega)) i3) ⟨c, TR_tape (fun k h1 h2 => k2 k (by omega) (by omega)) (fun s hs => k8 _ (by omega)) (fun i h1 h2 => k8 _ (by omega)) ⟨j, by omega, rfl, rfl, fun i hi => ?_⟩ ?_ ?_ t⟩
        · rw [k2 _ (by decide) (by decide), k8 _ (by omega)]
          exact z3 i (by omega)
        · rw [kT _ (by decide), k8 _ (by decide)]; exact t2
        · rw [kT _ (by decide), k8 _ (by decide)]; exact t3
    · have y2 : ¬ nI j ≤ nI z := fun w => y ((nI_leI hj (by omega)).mp w)
      refine ⟨-1, h, h, by rw [if_neg y2], ?_, I0⟩
      rw [if_neg (nI_pos hj), if_neg (by decide), show h.1 (237 + 1) (4 : Int32).toNatClampNeg = nI z from z2, if_neg y2]

theorem q_house {N : Nat} {h : HS} (I : INV h) (a b : Int32) : ∃ r h2, X10_house N h 1 a b = some r ∧ X11_house N h 237 a b = some (r, h2) ∧ Same h h2 := by
  unfold X10_house X11_house
  rcases opn (N := N) I a with ⟨e1, e2⟩ | ⟨p, q, D, e1, hp, c, e2⟩
  · exact ⟨-1, h, by rw [e1]; rfl, by rw [e2 h (Same.refl h)]; rfl, Same.refl h⟩
  · obtain ⟨h2, e3, rh, sm, _⟩ := e2 h (Same.refl h)
    have := hk0 rh.1
    have hq := rh.2.1
    have hP := c.1
    rw [e1, e3, bd1_some, bd2_some, if_neg hp, if_neg one0, r_isIn, bd1_some]
    rcases i_cases b with z | ⟨j, hj, rfl⟩
    · have n0 : ∀ k, k < 2 ^ 31 → ¬ b = nI k := fun k hk e => by rw [e] at z; exact nI_pos hk z
      refine ⟨-1, h2, ?_, ?_, sm⟩
      · rw [if_neg (show ¬ b = 0 from n0 0 (by decide)), if_neg (show ¬ b = 1 from n0 1 (by decide)), if_neg (show ¬ b = 2 from n0 2 (by decide)), if_neg (show ¬ b = 3 from n0 3 (by decide)), if_neg (show ¬ b = 4 from n0 4 (by decide))]
        unfold X1_detail
        rw [if_pos (show b < 10 from nlt10 z)]
        rfl
      · rw [inneg z, if_pos rfl, if_neg (show ¬ b / 10 = 1 from ndiv z (c := 1) (by decide) (by decide)), if_neg (show ¬ b / 10 = 2 from ndiv z (c := 2) (by decide) (by decide)), if_neg (show ¬ b / 10 = 3 from ndiv z (c := 3) (by decide) (by decide)), if_neg (show ¬ b / 10 = 4 from ndiv z (c := 4) (by decide) (by decide)), if_neg (show ¬ b / 10 = 5 from ndiv z (c := 5) (by decide) (by decide)), if_neg (show ¬ b / 10 = 6 from ndiv z (c := 6) (by decide) (by decide)), if_neg (show ¬ b / 10 = 7 from ndiv z (c := 7) (by decide) (by decide)), if_neg (show ¬ b / 10 = 8 from ndiv z (c := 8) (by decide) (by decide)), if_neg (show ¬ b / 10 = 9 from ndiv z (c := 9) (by decide) (by decide))]
    · by_cases y : j ≤ 4
      · have hx := rixC rh (x := h2.1 237 12 + nI j) (i := j) (by rw [rh.2.2.1, nI_add]) (by omega)
        rw [nB_t (show 0 ≤ nI j ∧ nI j ≤ 4 from ⟨nI_pos' hj, (nI_leI (b := 4) hj (by decide)).mpr y⟩), if_neg one0, if_neg hx.1, hx.2]
        refine ⟨nI (D j), h2, ?_, rfl, sm⟩
        have hc := c.2.2.1 j (by omega)
        match j, y with
        | 0, _ => rw [if_pos (by decide)]; exact congrArg some hc
        | 1, _ => rw [if_neg (by decide), if_pos (by decide)]; exact congrArg some hc
        | 2, _ => rw [if_neg (by decide), if_neg (by decide), if_pos (by decide)]; exact congrArg some hc
        | 3, _ => rw [if_neg (by decide), if_neg (by decide), if_neg (by decide), if_pos (by decide)]; exact congrArg some hc
        | 4, _ => rw [if_neg (by decide), if_neg (by decide), if_neg (by decide), if_neg (by decide), if_pos (by decide)]; exact congrArg some hc
      · rw [nB_f (show ¬ (0 ≤ nI j ∧ nI j ≤ 4) from fun w => y ((nI_leI (b := 4) hj (by decide)).mp w.2)), if_pos rfl]
        rw [show nI j / 10 = nI (j / 10) from pk_div (d := 10) hj (by decide) (by decide)]
        have er : nI j - nI (j / 10) * 10 = nI (j % 10) := by
          rw [← show nI j / 10 = nI (j / 10) from pk_div (d := 10) hj (by decide) (by decide)]
          exact pk_rem (d := 10) hj (by decide) (by decide)
        rw [er]
        have n0 : ∀ k, k ≤ 4 → ¬ nI j = nI k := fun k hk e => by rw [nI_eq hj (by omega)] at e; omega
        rw [if_neg (show ¬ nI j = 0 from n0 0 (by decide)), if_neg (show ¬ nI j = 1 from n0 1 (by decide)), if_neg (show ¬ nI j = 2 from n0 2 (by decide)), if_neg (show ¬ nI j = 3 from n0 3 (by decide)), if_neg (show ¬ nI j = 4 from n0 4 (by decide))]
        have n1 : ∀ k, k ≤ 9 → 1 ≤ k → k ≠ j / 10 → ¬ nI (j / 10) = nI k := fun k h1 h2 hk e => by rw [nI_eq (by omega) (by omega)] at e; omega
        unfold X1_detail
        by_cases w : j < 10
        · refine ⟨-1, h2, ?_, ?_, sm⟩
          · rw [if_pos (show nI j < 10 from (nI_ltI (b := 10) hj (by decide)).mpr w)]; rfl
          · rw [if_neg (show ¬ nI (j / 10) = 1 from n1 1 (by decide) (by decide) (by omega)), if_neg (show ¬ nI (j / 10) = 2 from n1 2 (by decide) (by decide) (by omega)), if_neg (show ¬ nI (j / 10) = 3 from n1 3 (by decide) (by decide) (by omega)), if_neg (show ¬ nI (j / 10) = 4 from n1 4 (by decide) (by decide) (by omega)), if_neg (show ¬ nI (j / 10) = 5 from n1 5 (by decide) (by decide) (by omega)), if_neg (show ¬ nI (j / 10) = 6 from n1 6 (by decide) (by decide) (by omega)), if_neg (show ¬ nI (j / 10) = 7 from n1 7 (by decide) (by decide) (by omega)), if_neg (show ¬ nI (j / 10) = 8 from n1 8 (by decide) (by decide) (by omega)), if_neg (show ¬ nI (j / 10) = 9 from n1 9 (by decide) (by decide) (by omega))]
        · rw [if_neg (show ¬ nI j < 10 from fun v => w ((nI_ltI (b := 10) hj (by decide)).mp v))]
          by_cases v : j ≤ 99
          · rw [if_pos (show nI j ≤ 99 from (nI_leI (b := 99) hj (by decide)).mpr v), show nI j / 10 = nI (j / 10) from pk_div (d := 10) hj (by decide) (by decide), er]
            generalize hk : j % 10 = k
            have hk9 : k < 10 := by omega
            have ht : j / 10 < 10 := by omega
            have ht1 : 1 ≤ j / 10 := by omega
            generalize j / 10 = t at ht ht1 n1 ⊢
            have ixB : ∀ u, u < 4 → k < D 1 → ¬ (((((h2.1 237 12) + 17) + (4 * nI k)) + nI (u + 3)) - 3 < 0 ∨ 3736 ≤ (((((h2.1 237 12) + 17) + (4 * nI k)) + nI (u + 3)) - 3).toNatClampNeg) ∧ h2.1 (237 + 1) (((((h2.1 237 12) + 17) + (4 * nI k)) + nI (u + 3)) - 3).toNatClampNeg = nI (D (17 + 4 * k + u)) := by
              intro u hu hkb
              refine rixC rh ?_ (by omega)
              rw [rh.2.2.1, zn17, zn4, zn3, pk_mul, nI_add, nI_add, nI_add, pk_sub (by omega)]
              congr 1
              omega
            have ixS : ∀ u, u < 3 → k < D 2 → ¬ (((((h2.1 237 12) + 49) + (3 * nI k)) + nI (u + 7)) - 7 < 0 ∨ 3736 ≤ (((((h2.1 237 12) + 49) + (3 * nI k)) + nI (u + 7)) - 7).toNatClampNeg) ∧ h2.1 (237 + 1) (((((h2.1 237 12) + 49) + (3 * nI k)) + nI (u + 7)) - 7).toNatClampNeg = nI (D (49 + 3 * k + u)) := by
              intro u hu hkb
              refine rixC rh ?_ (by omega)
              rw [rh.2.2.1, zn49, zn3, zn7, pk_mul, nI_add, nI_add, nI_add, pk_sub (by omega)]
              congr 1
              omega
            have nk8 : ∀ L, k < L → L < 2 ^ 31 → ¬ (nI k < 0 ∨ L ≤ (nI k).toNatClampNeg) := fun L h1 h2 => nI_in h1 h2
            match t, ht1, ht with
            | 1, _, _ =>
              rw [if_pos (show nI 1 = 1 from rfl), if_pos (show nI 1 = 1 from rfl), c_hasFloor c (by omega), r_isFloor rh (by omega), bd1_some, bd1_some]
              by_cases u : k < D 0
              · rw [nB_t u, if_neg one0, if_neg one0, if_neg (nk8 6 (by omega) (by decide)), nI_clamp (by omega), r_rentOf rh (by omega), chRe c u]
                exact ⟨_, h2, rfl, rfl, sm⟩
              · rw [nB_f u]; exact ⟨-1, h2, rfl, rfl, sm⟩
            | 2, _, _ =>
              rw [if_neg (show ¬ nI 2 = 1 by decide), if_neg (show ¬ nI 2 = 1 by decide), if_pos (show nI 2 = 2 from rfl), if_pos (show nI 2 = 2 from rfl), c_hasFloor c (by omega), r_isFloor rh (by omega), bd1_some, bd1_some]
              by_cases u : k < D 0
              · rw [nB_t u, if_neg one0, if_neg one0, if_neg (nk8 6 (by omega) (by decide)), nI_clamp (by omega), r_peopleOf rh (by omega), chPe c u]
                exact ⟨_, h2, rfl, rfl, sm⟩
              · rw [nB_f u]; exact ⟨-1, h2, rfl, rfl, sm⟩
            | 3, _, _ =>
              rw [if_neg (show ¬ nI 3 = 1 by decide), if_neg (show ¬ nI 3 = 1 by decide), if_neg (show ¬ nI 3 = 2 by decide), if_neg (show ¬ nI 3 = 2 by decide), if_pos (show nI 3 = 3 from rfl), if_pos (show nI 3 = 3 from rfl), c_hasBar c (by omega), r_isBar rh (by omega), bd1_some, bd1_some]
              by_cases u : k < D 1
              · rw [nB_t u, if_neg one0, if_neg one0, if_neg (nk8 8 (by omega) (by decide)), nI_clamp (by omega), chNo c u]
                have hx := ixB 0 (by decide) u
                rw [if_neg hx.1, hx.2]
                refine ⟨_, h2, rfl, ?_, sm⟩
                rw [show 17 + 4 * k + 0 = 17 + 4 * k by omega]
              · rw [nB_f u]; exact ⟨-1, h2, rfl, rfl, sm⟩
            | 4, _, _ =>
              rw [if_neg (show ¬ nI 4 = 1 by decide), if_neg (show ¬ nI 4 = 1 by decide), if_neg (show ¬ nI 4 = 2 by decide), if_neg (show ¬ nI 4 = 2 by decide), if_neg (show ¬ nI 4 = 3 by decide), if_neg (show ¬ nI 4 = 3 by decide), if_pos (show nI 4 = 4 from rfl), if_pos (show nI 4 = 4 from rfl), c_hasBar c (by omega), r_isBar rh (by omega), bd1_some, bd1_some]
              by_cases u : k < D 1
              · rw [nB_t u, if_neg one0, if_neg one0, if_neg (nk8 8 (by omega) (by decide)), nI_clamp (by omega), chLe c u]
                have hx := ixB 1 (by decide) u
                rw [if_neg hx.1, hx.2]
                refine ⟨_, h2, rfl, ?_, sm⟩
                rw [show 17 + 4 * k + 1 = 18 + 4 * k by omega]
              · rw [nB_f u]; exact ⟨-1, h2, rfl, rfl, sm⟩
            | 5, _, _ =>
              rw [if_neg (show ¬ nI 5 = 1 by decide), if_neg (show ¬ nI 5 = 1 by decide), if_neg (show ¬ nI 5 = 2 by decide), if_neg (show ¬ nI 5 = 2 by decide), if_neg (show ¬ nI 5 = 3 by decide), if_neg (show ¬ nI 5 = 3 by decide), if_neg (show ¬ nI 5 = 4 by decide), if_neg (show ¬ nI 5 = 4 by decide), if_pos (show nI 5 = 5 from rfl), if_pos (show nI 5 = 5 from rfl), c_hasBar c (by omega), r_isBar rh (by omega), bd1_some, bd1_some]
              by_cases u : k < D 1
              · rw [nB_t u, if_neg one0, if_neg one0, if_neg (nk8 8 (by omega) (by decide)), nI_clamp (by omega), chGr c u]
                have hx := ixB 2 (by decide) u
                rw [if_neg hx.1, hx.2]
                refine ⟨_, h2, rfl, ?_, sm⟩
                rw [show 17 + 4 * k + 2 = 19 + 4 * k by omega]
              · rw [nB_f u]; exact ⟨-1, h2, rfl, rfl, sm⟩
            | 6, _, _ =>
              rw [if_neg (show ¬ nI 6 = 1 by decide), if_neg (show ¬ nI 6 = 1 by decide), if_neg (show ¬ nI 6 = 2 by decide), if_neg (show ¬ nI 6 = 2 by decide), if_neg (show ¬ nI 6 = 3 by decide), if_neg (show ¬ nI 6 = 3 by decide), if_neg (show ¬ nI 6 = 4 by decide), if_neg (show ¬ nI 6 = 4 by decide), if_neg (show ¬ nI 6 = 5 by decide), if_neg (show ¬ nI 6 = 5 by decide), if_pos (show nI 6 = 6 from rfl), if_pos (show nI 6 = 6 from rfl), c_hasBar c (by omega), r_isBar rh (by omega), bd1_some, bd1_some]
              by_cases u : k < D 1
              · rw [nB_t u, if_neg one0, if_neg one0, if_neg (nk8 8 (by omega) (by decide)), nI_clamp (by omega), chRi c u]
                have hx := ixB 3 (by decide) u
                rw [if_neg hx.1, hx.2]
                refine ⟨_, h2, rfl, ?_, sm⟩
                rw [show 17 + 4 * k + 3 = 20 + 4 * k by omega]
              · rw [nB_f u]; exact ⟨-1, h2, rfl, rfl, sm⟩
            | 7, _, _ =>
              rw [if_neg (show ¬ nI 7 = 1 by decide), if_neg (show ¬ nI 7 = 1 by decide), if_neg (show ¬ nI 7 = 2 by decide), if_neg (show ¬ nI 7 = 2 by decide), if_neg (show ¬ nI 7 = 3 by decide), if_neg (show ¬ nI 7 = 3 by decide), if_neg (show ¬ nI 7 = 4 by decide), if_neg (show ¬ nI 7 = 4 by decide), if_neg (show ¬ nI 7 = 5 by decide), if_neg (show ¬ nI 7 = 5 by decide), if_neg (show ¬ nI 7 = 6 by decide), if_neg (show ¬ nI 7 = 6 by decide), if_pos (show nI 7 = 7 from rfl), if_pos (show nI 7 = 7 from rfl), c_hasSinger c (by omega), r_isSinger rh (by omega), bd1_some, bd1_some]
              by_cases u : k < D 2
              · rw [nB_t u, if_neg one0, if_neg one0, if_neg (nk8 5 (by omega) (by decide)), nI_clamp (by omega), chLo c u]
                have hx := ixS 0 (by decide) u
                rw [if_neg hx.1, hx.2]
                refine ⟨_, h2, rfl, ?_, sm⟩
                rw [show 49 + 3 * k + 0 = 49 + 3 * k by omega]
              · rw [nB_f u]; exact ⟨-1, h2, rfl, rfl, sm⟩
            | 8, _, _ =>
              rw [if_neg (show ¬ nI 8 = 1 by decide), if_neg (show ¬ nI 8 = 1 by decide), if_neg (show ¬ nI 8 = 2 by decide), if_neg (show ¬ nI 8 = 2 by decide), if_neg (show ¬ nI 8 = 3 by decide), if_neg (show ¬ nI 8 = 3 by decide), if_neg (show ¬ nI 8 = 4 by decide), if_neg (show ¬ nI 8 = 4 by decide), if_neg (show ¬ nI 8 = 5 by decide), if_neg (show ¬ nI 8 = 5 by decide), if_neg (show ¬ nI 8 = 6 by decide), if_neg (show ¬ nI 8 = 6 by decide), if_neg (show ¬ nI 8 = 7 by decide), if_neg (show ¬ nI 8 = 7 by decide), if_pos (show nI 8 = 8 from rfl), if_pos (show nI 8 = 8 from rfl), c_hasSinger c (by omega), r_isSinger rh (by omega), bd1_some, bd1_some]
              by_cases u : k < D 2
              · rw [nB_t u, if_neg one0, if_neg one0, if_neg (nk8 5 (by omega) (by decide)), nI_clamp (by omega), chHi c u]
                have hx := ixS 1 (by decide) u
                rw [if_neg hx.1, hx.2]
                refine ⟨_, h2, rfl, ?_, sm⟩
                rw [show 49 + 3 * k + 1 = 50 + 3 * k by omega]
              · rw [nB_f u]; exact ⟨-1, h2, rfl, rfl, sm⟩
            | 9, _, _ =>
              rw [if_neg (show ¬ nI 9 = 1 by decide), if_neg (show ¬ nI 9 = 1 by decide), if_neg (show ¬ nI 9 = 2 by decide), if_neg (show ¬ nI 9 = 2 by decide), if_neg (show ¬ nI 9 = 3 by decide), if_neg (show ¬ nI 9 = 3 by decide), if_neg (show ¬ nI 9 = 4 by decide), if_neg (show ¬ nI 9 = 4 by decide), if_neg (show ¬ nI 9 = 5 by decide), if_neg (show ¬ nI 9 = 5 by decide), if_neg (show ¬ nI 9 = 6 by decide), if_neg (show ¬ nI 9 = 6 by decide), if_neg (show ¬ nI 9 = 7 by decide), if_neg (show ¬ nI 9 = 7 by decide), if_neg (show ¬ nI 9 = 8 by decide), if_neg (show ¬ nI 9 = 8 by decide), if_pos (show nI 9 = 9 from rfl), c_hasSinger c (by omega), r_isSinger rh (by omega), bd1_some, bd1_some]
              by_cases u : k < D 2
              · rw [nB_t u, if_neg one0, if_neg one0, if_neg (nk8 5 (by omega) (by decide)), nI_clamp (by omega), chBr c u]
                have hx := ixS 2 (by decide) u
                rw [if_neg hx.1, hx.2]
                refine ⟨_, h2, rfl, ?_, sm⟩
                rw [show 49 + 3 * k + 2 = 51 + 3 * k by omega]
              · rw [nB_f u]; exact ⟨-1, h2, rfl, rfl, sm⟩
          · refine ⟨-1, h2, ?_, ?_, sm⟩
            · rw [if_neg (show ¬ nI j ≤ 99 from fun u => v ((nI_leI (b := 99) hj (by decide)).mp u))]; rfl
            · rw [if_neg (show ¬ nI (j / 10) = 1 from n1 1 (by decide) (by decide) (by omega)), if_neg (show ¬ nI (j / 10) = 2 from n1 2 (by decide) (by decide) (by omega)), if_neg (show ¬ nI (j / 10) = 3 from n1 3 (by decide) (by decide) (by omega)), if_neg (show ¬ nI (j / 10) = 4 from n1 4 (by decide) (by decide) (by omega)), if_neg (show ¬ nI (j / 10) = 5 from n1 5 (by decide) (by decide) (by omega)), if_neg (show ¬ nI (j / 10) = 6 from n1 6 (by decide) (by decide) (by omega)), if_neg (show ¬ nI (j / 10) = 7 from n1 7 (by decide) (by decide) (by omega)), if_neg (show ¬ nI (j / 10) = 8 from n1 8 (by decide) (by decide) (by omega)), if_neg (show ¬ nI (j / 10) = 9 from n1 9 (by decide) (by decide) (by omega))]
