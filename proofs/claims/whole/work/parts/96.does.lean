/-! ===== level 2: what a deed does, as a function of the state ===== -/
section DOE
variable {N : Nat} {p q : Nat} {D : Nat → Nat} {S : NS} {h : HS}
def dN (D : Nat → Nat) (S : NS) (K : Nat) (v : Int32) : Option NS :=
  if K = 0 then (match nx D (S.1 1) with
    | none => none
    | some b => if 0 ≤ v ∧ v.toNatClampNeg < D 2 ∧ lst S b ≠ some v.toNatClampNeg ∧ lenD D b ≤ S.2.1 v.toNatClampNeg then some (sgN D S b v.toNatClampNeg) else none)
  else if K = 1 then (if 0 ≤ v ∧ v.toNatClampNeg < D 2 then some (coS S (S.1 6 ||| 2 ^ v.toNatClampNeg)) else none)
  else if K = 2 then (if 0 ≤ v ∧ v.toNatClampNeg < D 2 then some (coS S (S.1 6 &&& (31 - 2 ^ v.toNatClampNeg))) else none)
  else if K = 3 then (match nx D (S.1 1) with | none => none | some b => some (skS D S b))
  else if S.1 0 < 99 then some (niS D S) else none
theorem cl_e : ∀ x, x < 32 → ∀ s, s < 5 → nI x &&& (((1 : Int32) <<< (nI s &&& 31)) ^^^ (-1)) = nI (x &&& (31 - 2 ^ s)) ∧ x &&& (31 - 2 ^ s) < 32 := by decide +kernel
theorem dN0 (D : Nat → Nat) (hD : D 2 ≤ 5) (S : NS) (v : Int32) : (∃ b s, v = nI s ∧ s < D 2 ∧ nx D (S.1 1) = some b ∧ lst S b ≠ some s ∧ lenD D b ≤ S.2.1 s ∧ dN D S 0 v = some (sgN D S b s)) ∨ ((¬ ∃ b s, v = nI s ∧ s < D 2 ∧ nx D (S.1 1) = some b ∧ lst S b ≠ some s ∧ lenD D b ≤ S.2.1 s) ∧ dN D S 0 v = none) := by
  by_cases H : ∃ b s, v = nI s ∧ s < D 2 ∧ nx D (S.1 1) = some b ∧ lst S b ≠ some s ∧ lenD D b ≤ S.2.1 s
  · left
    obtain ⟨b, s, rfl, h2, h3, h4, h5⟩ := H
    refine ⟨b, s, rfl, h2, h3, h4, h5, ?_⟩
    unfold dN
    rw [if_pos rfl, h3]
    simp only
    rw [nI_clamp (by omega), if_pos ⟨nI_pos' (by omega), h2, h4, h5⟩]
  · right
    refine ⟨H, ?_⟩
    unfold dN
    rw [if_pos rfl]
    cases hn : nx D (S.1 1) with
    | none => rfl
    | some b =>
      simp only
      apply if_neg
      rintro ⟨h1, h2, h3, h4⟩
      rcases i_cases v with z | ⟨s, hs, rfl⟩
      · exact Int32.not_le.mpr z h1
      · rw [nI_clamp hs] at h2 h3 h4
        exact H ⟨b, s, rfl, h2, hn, h3, h4⟩
theorem dNs (D : Nat → Nat) (hD : D 2 ≤ 5) (v : Int32) : (∃ s, v = nI s ∧ s < D 2 ∧ 0 ≤ v ∧ v.toNatClampNeg = s) ∨ ((v < 0 ∨ ∃ s, v = nI s ∧ s < 2 ^ 31 ∧ ¬ s < D 2) ∧ ¬ (0 ≤ v ∧ v.toNatClampNeg < D 2)) := by
  rcases i_cases v with z | ⟨s, hs, rfl⟩
  · exact Or.inr ⟨Or.inl z, fun y => Int32.not_le.mpr z y.1⟩
  · by_cases y : s < D 2
    · exact Or.inl ⟨s, rfl, y, nI_pos' hs, nI_clamp hs⟩
    · exact Or.inr ⟨Or.inr ⟨s, rfl, hs, y⟩, fun z => y (by rw [nI_clamp hs] at z; exact z.2)⟩
theorem c_does (c : CNs h p D S) (w : WS D S) (hN : 100 ≤ N) {K : Nat} (hK : K < 5) (v : Int32) : (dN D S K v = none ∧ X3_does N h 185 (nI K) v = some (0, h)) ∨ (∃ S' h', dN D S K v = some S' ∧ X3_does N h 185 (nI K) v = some (1, h') ∧ CNs h' p D S' ∧ CNf h h') := by
  have hk := hk0 c.2.1.2.1
  have hw6 := w.2.2.2.2.1
  match K, hK with
  | 0, _ =>
    rcases dN0 D hk.2.2.1 S v with ⟨b, s, rfl, h2, h3, h4, h5, h6⟩ | ⟨h1, h2⟩
    · obtain ⟨h', a1, a2, a3⟩ := c_sing c w hN h2 h3 h4 h5
      exact Or.inr ⟨_, h', h6, a1, a2, a3⟩
    · exact Or.inl ⟨h2, c_sing0 c w hN h1⟩
  | 1, _ =>
    rw [show nI 1 = 1 from rfl]
    rcases dNs D hk.2.2.1 v with ⟨s, rfl, h2, h3, h4⟩ | ⟨h1, h2⟩
    · right
      obtain ⟨b1, b2⟩ := c_setc c (S.1 6 ||| 2 ^ s)
      refine ⟨coS S (S.1 6 ||| 2 ^ s), _, ?_, ?_, b1, b2⟩
      · unfold dN
        rw [if_neg (by decide), if_pos rfl, if_pos ⟨h3, by rw [h4]; exact h2⟩, h4]
      · have may : X3_may N h 185 1 (nI s) = some 1 := by
          unfold X3_may
          rw [if_neg (by decide), if_pos rfl, c.1, c_hasSinger c.2.1 (by omega), bd1_some, nB_t h2, nz_1]
        unfold X3_does
        rw [may, bd1_some, if_neg one0, if_neg (by decide), if_pos rfl, c.2.2.2.2.2.2.2.2.1, one_shl _ (by omega), nx_or, sq_eq, sq_eq, wi_j _ _ (show (14 : Nat) ≠ 7 by decide), c.2.2.2.2.2.2.2.2.2.2.2.2.2.2.1, nI_1, nz_1]
    · left
      refine ⟨by unfold dN; rw [if_neg (by decide), if_pos rfl, if_neg h2], ?_⟩
      have may : X3_may N h 185 1 v = some 0 := by
        unfold X3_may
        rw [if_neg (by decide), if_pos rfl, c.1]
        rcases h1 with z | ⟨s, rfl, hs, y⟩
        · rw [(c_neg z).2.2, bd1_some, nz_0]
        · rw [c_hasSinger c.2.1 hs, bd1_some, nB_f y, nz_0]
      unfold X3_does
      rw [may, bd1_some, if_pos rfl, nz_0]
  | 2, _ =>
    rw [show nI 2 = 2 from rfl]
    rcases dNs D hk.2.2.1 v with ⟨s, rfl, h2, h3, h4⟩ | ⟨h1, h2⟩
    · right
      obtain ⟨b1, b2⟩ := c_setc c (S.1 6 &&& (31 - 2 ^ s))
      refine ⟨coS S (S.1 6 &&& (31 - 2 ^ s)), _, ?_, ?_, b1, b2⟩
      · unfold dN
        rw [if_neg (by decide), if_neg (by decide), if_pos rfl, if_pos ⟨h3, by rw [h4]; exact h2⟩, h4]
      · have may : X3_may N h 185 2 (nI s) = some 1 := by
          unfold X3_may
          rw [if_neg (by decide), if_neg (by decide), if_pos rfl, c.1, c_hasSinger c.2.1 (by omega), bd1_some, nB_t h2, nz_1]
        unfold X3_does
        rw [may, bd1_some, if_neg one0, if_neg (by decide), if_neg (by decide), if_pos rfl, c.2.2.2.2.2.2.2.2.1, (cl_e _ hw6 _ (by omega)).1, sq_eq, sq_eq, wi_j _ _ (show (14 : Nat) ≠ 7 by decide), c.2.2.2.2.2.2.2.2.2.2.2.2.2.2.1, nI_1, nz_1]
    · left
      refine ⟨by unfold dN; rw [if_neg (by decide), if_neg (by decide), if_pos rfl, if_neg h2], ?_⟩
      have may : X3_may N h 185 2 v = some 0 := by
        unfold X3_may
        rw [if_neg (by decide), if_neg (by decide), if_pos rfl, c.1]
        rcases h1 with z | ⟨s, rfl, hs, y⟩
        · rw [(c_neg z).2.2, bd1_some, nz_0]
        · rw [c_hasSinger c.2.1 hs, bd1_some, nB_f y, nz_0]
      unfold X3_does
      rw [may, bd1_some, if_pos rfl, nz_0]
  | 3, _ =>
    rw [show nI 3 = 3 from rfl]
    cases hn : nx D (S.1 1) with
    | none =>
      left
      refine ⟨by unfold dN; rw [if_neg (by decide), if_neg (by decide), if_neg (by decide), if_pos rfl, hn], ?_⟩
      have may : X3_may N h 185 3 v = some 0 := by
        unfold X3_may
        rw [if_neg (by decide), if_neg (by decide), if_neg (by decide), if_pos rfl, c.2.2.2.1, hn, if_pos (show oI none = -1 from rfl), nz_0]
      unfold X3_does
      rw [may, bd1_some, if_pos rfl, nz_0]
    | some b =>
      right
      obtain ⟨h', a1, a2, a3⟩ := c_skip c w hN hn v
      exact ⟨_, h', by unfold dN; rw [if_neg (by decide), if_neg (by decide), if_neg (by decide), if_pos rfl, hn], a1, a2, a3⟩
  | 4, _ =>
    rw [show nI 4 = 4 from rfl]
    by_cases z : S.1 0 < 99
    · right
      obtain ⟨h', a1, a2, a3⟩ := c_night c w hN z v
      exact ⟨_, h', by unfold dN; rw [if_neg (by decide), if_neg (by decide), if_neg (by decide), if_neg (by decide), if_pos z], a1, a2, a3⟩
    · left
      refine ⟨by unfold dN; rw [if_neg (by decide), if_neg (by decide), if_neg (by decide), if_neg (by decide), if_neg z], ?_⟩
      have hw1 := w.1
      have may : X3_may N h 185 4 v = some 0 := by
        unfold X3_may
        rw [if_neg (by decide), if_neg (by decide), if_neg (by decide), if_neg (by decide), c.2.2.1, if_pos (show (99 : Int32) ≤ nI (S.1 0) from nI_le (a := 99) (by omega) (by omega)), nz_0]
      unfold X3_does
      rw [may, bd1_some, if_pos rfl, nz_0]
theorem r_does (c : RNs h q D S) (w : WS D S) (hN : 100 ≤ N) {K : Nat} (hK : K < 5) (v : Int32) : (dN D S K v = none ∧ X11_does N h 237 (nI K) v = some (0, h)) ∨ (∃ S' h', dN D S K v = some S' ∧ X11_does N h 237 (nI K) v = some (1, h') ∧ RNs h' q D S' ∧ RNf h h') := by
  have hk := hk0 c.1.1
  have hw6 := w.2.2.2.2.1
  match K, hK with
  | 0, _ =>
    rcases dN0 D hk.2.2.1 S v with ⟨b, s, rfl, h2, h3, h4, h5, h6⟩ | ⟨h1, h2⟩
    · obtain ⟨h', a1, a2, a3⟩ := r_sing c w hN h2 h3 h4 h5
      exact Or.inr ⟨_, h', h6, a1, a2, a3⟩
    · exact Or.inl ⟨h2, r_sing0 c w hN h1⟩
  | 1, _ =>
    rw [show nI 1 = 1 from rfl]
    rcases dNs D hk.2.2.1 v with ⟨s, rfl, h2, h3, h4⟩ | ⟨h1, h2⟩
    · right
      obtain ⟨b1, b2⟩ := r_setc c (S.1 6 ||| 2 ^ s)
      refine ⟨coS S (S.1 6 ||| 2 ^ s), _, ?_, ?_, b1, b2⟩
      · unfold dN
        rw [if_neg (by decide), if_pos rfl, if_pos ⟨h3, by rw [h4]; exact h2⟩, h4]
      · unfold X11_does
        rw [if_neg (by decide), if_pos rfl, r_isSinger c.1 (by omega), bd1_some, nB_t h2, if_neg one0, if_pos rfl, c.2.2.2.2.2.2.2.1, one_shl _ (by omega), nx_or, sq_eq, nz_1]
    · left
      refine ⟨by unfold dN; rw [if_neg (by decide), if_pos rfl, if_neg h2], ?_⟩
      unfold X11_does
      rw [if_neg (by decide), if_pos rfl]
      rcases h1 with z | ⟨s, rfl, hs, y⟩
      · rw [(r_neg c.1 z).2.2, bd1_some, if_pos rfl, nz_0]
      · rw [r_isSinger c.1 hs, bd1_some, nB_f y, if_pos rfl, nz_0]
  | 2, _ =>
    rw [show nI 2 = 2 from rfl]
    rcases dNs D hk.2.2.1 v with ⟨s, rfl, h2, h3, h4⟩ | ⟨h1, h2⟩
    · right
      obtain ⟨b1, b2⟩ := r_setc c (S.1 6 &&& (31 - 2 ^ s))
      refine ⟨coS S (S.1 6 &&& (31 - 2 ^ s)), _, ?_, ?_, b1, b2⟩
      · unfold dN
        rw [if_neg (by decide), if_neg (by decide), if_pos rfl, if_pos ⟨h3, by rw [h4]; exact h2⟩, h4]
      · unfold X11_does
        rw [if_neg (by decide), if_neg (by decide), if_pos rfl, r_isSinger c.1 (by omega), bd1_some, nB_t h2, if_neg one0, if_neg (by decide), c.2.2.2.2.2.2.2.1, (cl_e _ hw6 _ (by omega)).1, sq_eq, nz_1]
    · left
      refine ⟨by unfold dN; rw [if_neg (by decide), if_neg (by decide), if_pos rfl, if_neg h2], ?_⟩
      unfold X11_does
      rw [if_neg (by decide), if_neg (by decide), if_pos rfl]
      rcases h1 with z | ⟨s, rfl, hs, y⟩
      · rw [(r_neg c.1 z).2.2, bd1_some, if_pos rfl, nz_0]
      · rw [r_isSinger c.1 hs, bd1_some, nB_f y, if_pos rfl, nz_0]
  | 3, _ =>
    rw [show nI 3 = 3 from rfl]
    cases hn : nx D (S.1 1) with
    | none =>
      left
      refine ⟨by unfold dN; rw [if_neg (by decide), if_neg (by decide), if_neg (by decide), if_pos rfl, hn], ?_⟩
      have hnb := r_nextBar (N := N) c.1 hN (a := S.1 1) (by have := w.2.1; omega) c.2.2.1
      unfold X11_does
      rw [if_neg (by decide), if_neg (by decide), if_neg (by decide), if_pos rfl]
      unfold X11_skips
      rw [hnb, hn, bd1_some, if_pos (show oI none = -1 from rfl), bd2_some, nz_0, nz_0]
    | some b =>
      right
      obtain ⟨h', a1, a2, a3⟩ := r_skip c w hN hn v
      exact ⟨_, h', by unfold dN; rw [if_neg (by decide), if_neg (by decide), if_neg (by decide), if_pos rfl, hn], a1, a2, a3⟩
  | 4, _ =>
    rw [show nI 4 = 4 from rfl]
    by_cases z : S.1 0 < 99
    · right
      obtain ⟨h', a1, a2, a3⟩ := r_night c w hN z v
      exact ⟨_, h', by unfold dN; rw [if_neg (by decide), if_neg (by decide), if_neg (by decide), if_neg (by decide), if_pos z], a1, a2, a3⟩
    · left
      refine ⟨by unfold dN; rw [if_neg (by decide), if_neg (by decide), if_neg (by decide), if_neg (by decide), if_neg z], ?_⟩
      have hw1 := w.1
      have e0 : S.1 0 = 99 := by omega
      unfold X11_does
      rw [if_neg (by decide), if_neg (by decide), if_neg (by decide), if_neg (by decide)]
      unfold X11_nightGoes
      rw [c.2.1, e0, if_pos (show nI 99 = 99 from rfl), bd2_some, nz_0, nz_0]
/-- when the first dream was -/
def fR (S S' : NS) : Prop := S'.2.2.2.2.2 = match S.2.2.2.2.2 with | some j => some j | none => if S'.1 5 = 0 then none else some (S.1 9)
theorem fR_eq (w : WS D S) {S' : NS} (h1 : S'.2.2.2.2.2 = S.2.2.2.2.2) (h2 : S'.1 5 = S.1 5) : fR S S' := by
  unfold fR
  rw [h1, h2]
  cases hf : S.2.2.2.2.2 with
  | some j => rfl
  | none =>
    simp only
    rw [if_pos (w.2.2.2.2.2.2.2.2.2.2.2.2.1.mp hf)]
theorem w_does (k : HK D) (w : WS D S) (h9 : S.1 9 < 100) {K : Nat} (hK : K < 5) {v : Int32} {S' : NS} (e : dN D S K v = some S') : WS D S' ∧ S'.1 9 = S.1 9 + 1 ∧ fR S S' := by
  have hk := hk0 k
  match K, hK with
  | 0, _ =>
    rcases dN0 D hk.2.2.1 S v with ⟨b, s, rfl, h2, h3, h4, h5, h6⟩ | ⟨h1, h2⟩
    · rw [h6] at e
      cases e
      refine ⟨w_sing k w h9 h2 h3, ?_, ?_⟩
      · by_cases z : dre D S b s
        · rw [sgN, if_pos z]; rfl
        · rw [sgN, if_neg z]; rfl
      · by_cases z : dre D S b s
        · rw [sgN, if_pos z]
          unfold fR
          cases hf : S.2.2.2.2.2 with
          | some j => rfl
          | none =>
            show some (S.1 9) = if S.1 5 + 1 = 0 then none else some (S.1 9)
            rw [if_neg (by omega)]
        · rw [sgN, if_neg z]
          exact fR_eq w rfl rfl
    · rw [h2] at e; cases e
  | 1, _ =>
    unfold dN at e
    rw [if_neg (by decide), if_pos rfl] at e
    by_cases z : 0 ≤ v ∧ v.toNatClampNeg < D 2
    · rw [if_pos z] at e
      cases e
      exact ⟨w_setc w h9 (or_lt 5 w.2.2.2.2.1 (by omega)), rfl, fR_eq w rfl rfl⟩
    · rw [if_neg z] at e; cases e
  | 2, _ =>
    unfold dN at e
    rw [if_neg (by decide), if_neg (by decide), if_pos rfl] at e
    by_cases z : 0 ≤ v ∧ v.toNatClampNeg < D 2
    · rw [if_pos z] at e
      cases e
      exact ⟨w_setc w h9 (cl_e _ w.2.2.2.2.1 _ (by omega)).2, rfl, fR_eq w rfl rfl⟩
    · rw [if_neg z] at e; cases e
  | 3, _ =>
    unfold dN at e
    rw [if_neg (by decide), if_neg (by decide), if_neg (by decide), if_pos rfl] at e
    cases hn : nx D (S.1 1) with
    | none => rw [hn] at e; cases e
    | some b =>
      rw [hn] at e
      cases e
      exact ⟨w_skip k w h9 hn, rfl, fR_eq w rfl rfl⟩
  | 4, _ =>
    unfold dN at e
    rw [if_neg (by decide), if_neg (by decide), if_neg (by decide), if_neg (by decide)] at e
    by_cases z : S.1 0 < 99
    · rw [if_pos z] at e
      cases e
      exact ⟨w_night k w h9 z, rfl, fR_eq w rfl rfl⟩
    · rw [if_neg z] at e; cases e
end DOE
