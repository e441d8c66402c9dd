/-! ===== level 2: mornings: who fits ===== -/
/-- do the facts agree with who dreamt -/
def agB (K W : Nat → Nat) (d : Nat) : Nat → Nat → Bool
  | 0, _ => true
  | r + 1, k => (decide (K k = 0) == d.testBit (W k)) && agB K W d r (k + 1)
def kb (F k : Nat) : Nat → Nat → Nat → Option Nat
  | 0, _, _ => none
  | r + 1, i, seen => if F.testBit i = true then (if seen = k then some i else kb F k r (i + 1) (seen + 1)) else kb F k r (i + 1) seen
theorem kb_high {F k : Nat} : ∀ (r i seen : Nat), (∀ j, i ≤ j → F.testBit j = false) → kb F k r i seen = none := by
  intro r
  induction r with
  | zero => intro i seen _; rfl
  | succ r ih =>
    intro i seen h
    rw [kb, if_neg (by rw [h i (Nat.le_refl _)]; decide)]
    exact ih (i + 1) seen (fun j hj => h j (by omega))
theorem kb_add {F k : Nat} (hF : F < 64) : ∀ (r i seen t : Nat), i + r = 6 → kb F k (r + t) i seen = kb F k r i seen := by
  intro r
  induction r with
  | zero =>
    intro i seen t e
    rw [Nat.zero_add]
    exact kb_high t i seen (fun j hj => Nat.testBit_lt_two_pow (Nat.lt_of_lt_of_le hF (Nat.pow_le_pow_right (n := 2) (by decide) (show 6 ≤ j by omega))))
  | succ r ih =>
    intro i seen t e
    rw [show r + 1 + t = (r + t) + 1 by omega, kb, kb]
    by_cases z : F.testBit i = true
    · rw [if_pos z, if_pos z]
      by_cases y : seen = k
      · rw [if_pos y, if_pos y]
      · rw [if_neg y, if_neg y, ih (i + 1) (seen + 1) t (by omega)]
    · rw [if_neg z, if_neg z, ih (i + 1) seen t (by omega)]
theorem kb_lt {F k : Nat} : ∀ (r i seen s : Nat), kb F k r i seen = some s → i ≤ s ∧ s < i + r := by
  intro r
  induction r with
  | zero => intro i seen s h; cases h
  | succ r ih =>
    intro i seen s h
    rw [kb] at h
    by_cases z : F.testBit i = true
    · rw [if_pos z] at h
      by_cases y : seen = k
      · rw [if_pos y] at h; cases h; omega
      · rw [if_neg y] at h
        have := ih _ _ _ h; omega
    · rw [if_neg z] at h
      have := ih _ _ _ h; omega
theorem c_bitAt {N : Nat} {h : HS} (hN : 100 ≤ N) {F k : Nat} (hF : F < 64) (hk : k < 2 ^ 31) : X10_bitAt N h (nI F) (nI k) = some (oI (kb F k 6 0 0)) := by
  have key : ∀ (r i fu seen : Nat), i + r = 31 → r < fu → seen ≤ i → X10_bitAt_l4 N h fu (nI F) (nI k) (nI seen) (nI i) = some (oI (kb F k r i seen)) := by
    intro r
    induction r with
    | zero =>
      intro i fu seen e hf hs
      obtain ⟨fu, rfl, _⟩ := fuel hf
      rw [X10_bitAt_l4, if_pos (show (31 : Int32) ≤ nI i from nI_le (a := 31) (by omega) (by omega))]
      rfl
    | succ r ih =>
      intro i fu seen e hf hs
      obtain ⟨fu, rfl, _⟩ := fuel hf
      rw [X10_bitAt_l4, if_neg (show ¬ (31 : Int32) ≤ nI i from nI_ge (b := 31) (by omega) (by decide)), bi_n (by omega) (by omega), kb]
      simp only [nB_0]
      by_cases z : F.testBit i = true
      · rw [if_neg (fun w => w z), if_pos z]
        by_cases y : seen = k
        · rw [if_pos (by rw [y]), if_pos y]; rfl
        · rw [if_neg (fun w => y ((nI_eq (by omega) hk).mp w)), if_neg y, nI_1, nI_1]
          exact ih (i + 1) fu (seen + 1) (by omega) (by omega) (by omega)
      · rw [if_pos z, if_neg z, nI_1]
        exact ih (i + 1) fu seen (by omega) (by omega) (by omega)
  have := key 31 0 N 0 (by omega) (by omega) (by omega)
  unfold X10_bitAt
  rw [show X10_bitAt_l4 N h N (nI F) (nI k) 0 0 = _ from this]
  rw [show (31 : Nat) = 6 + 25 from rfl, kb_add hF 6 0 0 25 rfl]
section MOR
variable {N : Nat} {p pm q qm : Nat} {D : Nat → Nat} {m : Nat} {K W : Nat → Nat}
/-- facts, in both -/
def FC (h : HS) (pm m : Nat) (K W : Nat → Nat) : Prop := m ≤ 8 ∧ ln (pm + 1) = 8 ∧ ln (pm + 2) = 8 ∧ 0 < pm ∧ pm < 155 ∧ h.1 pm 3 = nI m ∧ h.1 pm 0 = 8 ∧ ∀ i, i < m → K i < 2 ∧ W i < 6 ∧ h.1 (pm + 1) i = nI (K i) ∧ h.1 (pm + 2) i = nI (W i)
def FR (h : HS) (qm m : Nat) (K W : Nat → Nat) : Prop := m ≤ 8 ∧ qm + 16 < 934 ∧ h.1 237 48 = nI qm ∧ h.1 238 qm = nI m ∧ ∀ i, i < m → K i < 2 ∧ W i < 6 ∧ h.1 238 (qm + 1 + 2 * i) = nI (K i) ∧ h.1 238 (qm + 2 + 2 * i) = nI (W i)
theorem FC_fr {h h' : HS} (e : ∀ k, k < 158 → h'.1 k = h.1 k) (c : FC h pm m K W) : FC h' pm m K W := by
  obtain ⟨c1, c2, c3, c4, c5, c6⟩ := c
  refine ⟨c1, c2, c3, c4, c5, ?_⟩
  rw [e pm (by omega), e (pm + 1) (by omega), e (pm + 2) (by omega)]
  exact c6
theorem c_agree {h : HS} (hN : 100 ≤ N) (c : FC h pm m K W) {d : Nat} (hd : d < 2 ^ 31) : X2_agree N h (nI d) pm = some (nB (agB K W d m 0 = true)) := by
  obtain ⟨c1, c2, c3, c4, c5, c6, c7, c8⟩ := c
  have key : ∀ (r k fu : Nat), k + r = m → r < fu → X2_agree_l2 N h fu (nI d) pm (nI k) = some (nB (agB K W d r k = true)) := by
    intro r
    induction r with
    | zero =>
      intro k fu e hf
      obtain ⟨fu, rfl, _⟩ := fuel hf
      rw [X2_agree_l2, c6, if_pos (nI_le (by omega) (by omega))]
      rfl
    | succ r ih =>
      intro k fu e hf
      obtain ⟨fu, rfl, _⟩ := fuel hf
      obtain ⟨d1, d2, d3, d4⟩ := c8 k (by omega)
      rw [X2_agree_l2, c6, if_neg (nI_ge (by omega) (by omega)), at_in c2 (by decide) (by omega), bd1_some, d3, agB]
      unfold X2_agree_b26
      rw [at_in c3 (by decide) (by omega), bd1_some, bd1_some, d4, bi_n hd (by omega), nI_1]
      simp only [nB_0]
      have e1 : X2_agree_l2 N h fu (nI d) pm (nI (k + 1)) = some (nB (agB K W d r (k + 1) = true)) := ih (k + 1) fu (by omega) (by omega)
      rw [e1]
      by_cases z : K k = 0
      · rw [if_pos (by rw [z]; rfl)]
        by_cases y : d.testBit (W k) = true
        · rw [if_neg (fun w => w y), if_pos trivial]
          simp [z, y]
        · rw [if_pos y, if_neg (by decide)]
          simp [z, y, nB]
          rfl
      · rw [if_neg (nI_ne0 (by omega) (by omega))]
        by_cases y : d.testBit (W k) = true
        · rw [if_neg (fun w => w y), if_neg (by decide)]
          simp [z, y, nB]
          rfl
        · rw [if_pos y, if_pos trivial]
          simp [z, y]
  exact key m 0 N (by omega) (by omega)
def ddC (D : Nat → Nat) (x : List Nat) (s : Nat) : Nat := if s = 5 then 0 else dv D x s (ctn D (D 1))
def ftB (D : Nat → Nat) (x : List Nat) (m : Nat) (K W : Nat → Nat) (s : Nat) : Bool := (decide (s = 5) || decide (s < D 2)) && agB K W (ddC D x s) m 0
abbrev FT (D : Nat → Nat) (x : List Nat) (m : Nat) (K W : Nat → Nat) : Nat := zl (fun s v => if ftB D x m K W s = true then v ||| 2 ^ s else v) 6 0 0
theorem FT_lt (x : List Nat) : FT D x m K W < 64 := zor_lt (fun s => ftB D x m K W s = true) 6 6 0 0 (by omega) (by decide)
theorem FT_bit (x : List Nat) {s : Nat} (hs : s < 6) : (FT D x m K W).testBit s = ftB D x m K W s := by
  rw [FT, zor (fun s => ftB D x m K W s = true), Nat.zero_testBit, Bool.false_or, Bool.eq_iff_iff, decide_eq_true_iff]
  exact ⟨fun h => h.2.2, fun h => ⟨by omega, by omega, h⟩⟩
theorem ln236 : ln (235 + 1) = 6 := by decide +kernel
theorem c_judge {h : HS} {x : List Nat} (hN : 100 ≤ N) (c : KC h p D (D 1) (D 2)) (r : RW h D (D 1) 0 x) (hl : x.length = ctn D (D 1)) (hx : ∀ c ∈ x, c < D 2) (fc : FC h pm m K W) :
    ∃ h', X2_judge N h 235 p pm 171 = some h' ∧ (∀ k, k ≠ 235 → k ≠ 236 → h'.1 k = h.1 k) ∧ h'.2 = h.2 ∧ h'.1 235 1 = nI (FT D x m K W) ∧ ∀ s, s < 6 → h'.1 236 s = nI (ddC D x s) := by
  have hk := hk0 c.2.1.2.1
  have hct : ∀ i, i < ctn D (D 1) → ord D i < D 1 := fun i hi => (ord_lt (D := D) (b := D 1) (by omega) hi).1
  have key : ∀ (r' s fu : Nat) (h' : HS) (v : Nat), s + r' = 6 → r' < fu → (∀ k, k ≠ 235 → k ≠ 236 → h'.1 k = h.1 k) → h'.2 = h.2 → h'.1 235 1 = nI v → (∀ t, t < s → h'.1 236 t = nI (ddC D x t)) →
      ∃ h2, X2_judge_l8 N fu h' 235 p pm 171 (nI s) = some h2 ∧ (∀ k, k ≠ 235 → k ≠ 236 → h2.1 k = h.1 k) ∧ h2.2 = h.2 ∧ h2.1 235 1 = nI (zl (fun s v => if ftB D x m K W s = true then v ||| 2 ^ s else v) r' s v) ∧ ∀ t, t < 6 → h2.1 236 t = nI (ddC D x t) := by
    intro r'
    induction r' with
    | zero =>
      intro s fu h' v e hf f f2 g1 g2
      obtain ⟨fu, rfl, _⟩ := fuel hf
      refine ⟨h', ?_, f, f2, g1, fun t ht => g2 t (by omega)⟩
      rw [X2_judge_l8, if_pos (show (5 : Int32) < nI s from nI_lt (a := 5) (by omega) (by omega))]
    | succ r' ih =>
      intro s fu h' v e hf f f2 g1 g2
      obtain ⟨fu, rfl, _⟩ := fuel hf
      rw [X2_judge_l8, if_neg (show ¬ (5 : Int32) < nI s from nI_nlt (a := 5) (by omega) (by decide)), ln236, if_neg (nI_ge (by omega) (by omega))]
      have k' : ∀ h2 : HS, (∀ k, k ≠ 235 → k ≠ 236 → h2.1 k = h.1 k) → h2.2 = h.2 → KC h2 p D (D 1) (D 2) ∧ RW h2 D (D 1) 0 x ∧ FC h2 pm m K W := by
        intro h2 g g'
        obtain ⟨c1, c2, c3, c4, c5, c6⟩ := c
        refine ⟨⟨by rw [g']; exact c1, KH_fr (h := h) (fun k h1 h3 => by have := c2.1.2.2.2.2.2.2.2.2.2.2; rw [g k (by omega) (by omega)]) c2, c3, ?_, ?_, c6⟩, ?_, ?_⟩
        · rw [g _ (by decide) (by decide)]; exact c4
        · rw [g _ (by decide) (by decide)]; exact c5
        · unfold RW; rw [g _ (by decide) (by decide)]; exact r
        · exact FC_fr (fun k hk => g k (by omega) (by omega)) fc
      have hdl : ddC D x s < 64 := by
        unfold ddC
        by_cases z : s = 5
        · rw [if_pos z]; omega
        · rw [if_neg z]; exact dv_lt c.2.1.2.1 x s _ hct
      have fw : ∀ k, k ≠ 235 → k ≠ 236 → (wi h' 236 s (nI (ddC D x s))).1 k = h.1 k := fun k h1 h2 => by rw [wi_k _ _ h2]; exact f k h1 h2
      have gw1 : (wi h' 236 s (nI (ddC D x s))).1 235 1 = nI v := by rw [wi_k _ _ (by decide)]; exact g1
      have gw2 : ∀ t, t < s + 1 → (wi h' 236 s (nI (ddC D x s))).1 236 t = nI (ddC D x t) := by
        intro t ht
        by_cases y : t = s
        · rw [y]; exact wi_s _ _ _ _
        · rw [wi_j _ _ y]; exact g2 t (by omega)
      have b62 : (decide (s = 5) || decide (s < D 2)) = true → ∃ h2, X2_judge_b62 N (wi h' 236 s (nI (ddC D x s))) (X2_judge_l8 N fu) 235 p pm 171 (nI s) = some h2 ∧ (∀ k, k ≠ 235 → k ≠ 236 → h2.1 k = h.1 k) ∧ h2.2 = h.2 ∧ h2.1 235 1 = nI (zl (fun s v => if ftB D x m K W s = true then v ||| 2 ^ s else v) (r' + 1) s v) ∧ ∀ t, t < 6 → h2.1 236 t = nI (ddC D x t) := by
        intro hs
        unfold X2_judge_b62
        rw [if_neg (nI_in (by omega) (by decide)), nI_clamp (by omega), show (wi h' 236 s (nI (ddC D x s))).1 (235 + 1) s = nI (ddC D x s) from wi_s _ _ _ _, c_agree hN (k' _ fw f2).2.2 (by omega), bd1_some, nI_1, zl]
        simp only [nB_0]
        have ef : ftB D x m K W s = agB K W (ddC D x s) m 0 := by unfold ftB; rw [hs, Bool.true_and]
        by_cases z : agB K W (ddC D x s) m 0 = true
        · rw [if_neg (fun w => w z), if_pos (by rw [ef]; exact z), sq_eq, gw1, one_shl _ (by omega), nx_or]
          refine ih (s + 1) fu _ _ (by omega) (by omega) (fun k h1 h2 => by rw [wi_k _ _ h1]; exact fw k h1 h2) f2 (wi_s _ _ _ _) (fun t ht => by rw [wi_k _ _ (by decide)]; exact gw2 t ht)
        · rw [if_pos z, if_neg (by rw [ef]; exact z)]
          exact ih (s + 1) fu _ _ (by omega) (by omega) fw f2 gw1 gw2
      by_cases z : s = 5
      · rw [if_pos (by rw [z]; rfl), if_neg (nI_in (by omega) (by decide)), sq_eq, if_pos (by rw [z]; rfl), nI_clamp (by omega), show (0 : Int32) = nI (ddC D x s) by unfold ddC; rw [if_pos z]; rfl]
        exact b62 (by simp [z])
      · have n5 : ¬ nI s = 5 := fun w => z ((nI_eq (b := 5) (by omega) (by decide)).mp w)
        have ed : dv D x s (ctn D (D 1)) = ddC D x s := by unfold ddC; rw [if_neg z]
        rw [if_neg n5, c_coldDreams hN (k' h' f f2).1 (k' h' f f2).2.1 hl hx (by omega), bd1_some, if_neg (nI_in (by omega) (by decide)), sq_eq, if_neg n5, nI_clamp (by omega), ed, show (235 + 1 : Nat) = 236 from rfl, c_hasSinger (k' _ fw f2).1.2.1 (by omega), bd1_some]
        simp only [nB_0]
        by_cases y : s < D 2
        · rw [if_neg (fun w => w y)]
          exact b62 (by simp [y])
        · rw [if_pos y, nI_1, zl, if_neg (by unfold ftB; simp [z, y])]
          exact ih (s + 1) fu _ _ (by omega) (by omega) fw f2 gw1 gw2
  unfold X2_judge
  rw [sq_eq]
  exact key 6 0 N _ 0 (by omega) (by omega) (fun k h1 _ => wi_k _ _ h1) rfl (wi_s _ _ _ _) (fun t ht => by omega)
end MOR
