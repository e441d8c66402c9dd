/-! ===== level 2: nights: what both compute of a house ===== -/
theorem ln196 : ln (185 + 11) = 5 := by decide +kernel
theorem ln197 : ln (185 + 12) = 5 := by decide +kernel
section NIG
variable {N : Nat} {p q : Nat} {D : Nat → Nat}
def nx (D : Nat → Nat) (a : Nat) : Option Nat := zf (fun b => decide (¬ D (17 + 4 * b) = 0)) (D 1 - a) a
theorem nx_some {a b : Nat} (h : nx D a = some b) : a ≤ b ∧ zsn D b ∧ ∀ i, a ≤ i → i < b → D (17 + 4 * i) = 0 := by
  unfold nx at h
  rcases zf_spec (P := fun b => decide (¬ D (17 + 4 * b) = 0)) (D 1 - a) a with ⟨a1, _⟩ | ⟨s, a1, a2, a3, a4, a5⟩
  · rw [a1] at h; cases h
  · rw [a1] at h
    cases h
    refine ⟨a2, ⟨by omega, of_decide_eq_true a4⟩, fun i h1 h2 => ?_⟩
    have := a5 i h1 h2
    simpa using this
theorem nx_none {a : Nat} (h : nx D a = none) : ∀ i, a ≤ i → i < D 1 → D (17 + 4 * i) = 0 := by
  unfold nx at h
  rcases zf_spec (P := fun b => decide (¬ D (17 + 4 * b) = 0)) (D 1 - a) a with ⟨_, a2⟩ | ⟨s, a1, _⟩
  · intro i h1 h2
    have := a2 i h1 (by omega)
    simpa using this
  · rw [a1] at h; cases h
theorem c_nextFrom {h : HS} (c : KH h p D) (hN : 100 ≤ N) {a : Nat} (ha : a ≤ 9) : X1_nextFrom N h p (nI a) = some (oI (nx D a)) := by
  have hk := hk0 c.2.1
  have key : ∀ (r i fu : Nat), D 1 - i = r → r < fu → i ≤ 9 → X1_nextFrom_l2 N h fu p (nI i) = some (oI (zf (fun b => decide (¬ D (17 + 4 * b) = 0)) r i)) := by
    intro r
    induction r with
    | zero =>
      intro i fu e hf hi
      obtain ⟨fu, rfl, _⟩ := fuel hf
      rw [X1_nextFrom_l2, ch1 c, if_pos (nI_le (by omega) (by omega))]
      rfl
    | succ r ih =>
      intro i fu e hf hi
      obtain ⟨fu, rfl, _⟩ := fuel hf
      rw [X1_nextFrom_l2, ch1 c, if_neg (nI_ge (by omega) (by omega)), c_sounds c (by omega), bd1_some, nI_1]
      simp only [nB_0]
      by_cases z : D (17 + 4 * i) = 0
      · rw [if_pos (fun w : zsn D i => w.2 z), zf_neg (by simp [z])]
        exact ih (i + 1) fu (by omega) (by omega) (by omega)
      · have hz : zsn D i := ⟨by omega, z⟩
        rw [if_neg (fun w => w hz), zf_pos (by simp [z])]
        rfl
  exact key (D 1 - a) a N rfl (by omega) ha
theorem r_nextBar {h : HS} (c : RH h q D) (hN : 100 ≤ N) {a : Nat} (ha : a ≤ 9) (e : h.1 237 34 = nI a) : X11_nextBar N h 237 = some (oI (nx D a)) := by
  have hk := hk0 c.1
  have key : ∀ (r i fu : Nat), D 1 - i = r → r < fu → i ≤ 9 → X11_nextBar_l5 N h fu 237 (nI i) = some (oI (zf (fun b => decide (¬ D (17 + 4 * b) = 0)) r i)) := by
    intro r
    induction r with
    | zero =>
      intro i fu e hf hi
      obtain ⟨fu, rfl, _⟩ := fuel hf
      rw [X11_nextBar_l5, rh1 c, if_pos (nI_le (by omega) (by omega)), if_pos (nI_le (by omega) (by omega))]
      rfl
    | succ r ih =>
      intro i fu e hf hi
      obtain ⟨fu, rfl, _⟩ := fuel hf
      have hB := hkB c.1 (show i < D 1 by omega)
      rw [X11_nextBar_l5, rh1 c, if_neg (nI_ge (by omega) (by omega)), r_noteOf c (by omega), bd1_some, nI_1]
      by_cases z : D (17 + 4 * i) = 0
      · rw [if_pos (by rw [z]; rfl), zf_neg (by simp [z])]
        exact ih (i + 1) fu (by omega) (by omega) (by omega)
      · rw [if_neg (nI_ne0 (by omega) (by omega)), if_neg (nI_ge (by omega) (by omega)), zf_pos (by simp [z])]
        rfl
  unfold X11_nextBar
  rw [e]
  exact key (D 1 - a) a N rfl (by omega) ha
/-- from a floor up, as a number -/
theorem fr_e : ∀ fl, fl < 7 → ∀ g, g < fl → frv fl g = nI (2 ^ fl - 2 ^ g) ∧ ((1 : Int32) <<< (nI fl &&& 31)) - ((1 : Int32) <<< (nI g &&& 31)) = nI (2 ^ fl - 2 ^ g) ∧ 2 ^ fl - 2 ^ g < 64 := by decide +kernel
abbrev fN (D : Nat → Nat) (b : Nat) : Nat := 2 ^ D 0 - 2 ^ D (19 + 4 * b)
abbrev aw (D : Nat → Nat) (b w : Nat) : Nat := if zsn D b then w ||| fN D b else w
theorem fN_e (k : HK D) {b : Nat} (hb : b < D 1) : frv (D 0) (D (19 + 4 * b)) = nI (fN D b) ∧ ((1 : Int32) <<< (nI (D 0) &&& 31)) - ((1 : Int32) <<< (nI (D (19 + 4 * b)) &&& 31)) = nI (fN D b) ∧ fN D b < 64 := by
  have hk := hk0 k
  have hB := hkB k hb
  exact fr_e (D 0) (by omega) _ hB.2.2.2.1
theorem or64 {a b : Nat} (ha : a < 64) (hb : b < 64) : a ||| b < 64 := Nat.or_lt_two_pow (n := 6) ha hb
theorem aw_lt (k : HK D) : ∀ (r i w : Nat), w < 64 → zl (aw D) r i w < 64 := by
  intro r
  induction r with
  | zero => intro i w h; exact h
  | succ r ih =>
    intro i w h
    simp only [zl]
    apply ih
    by_cases z : zsn D i
    · rw [aw, if_pos z]; exact or64 h (fN_e k z.1).2.2
    · rw [aw, if_neg z]; exact h
/-- who is awake when a night ends -/
def awE (D : Nat → Nat) (a w : Nat) : Nat := zl (aw D) (D 1 - a) a w
theorem awE_none {a w : Nat} (h : nx D a = none) : awE D a w = w := by
  unfold awE
  apply zl_id
  intro j h1 h2 v
  rw [aw, if_neg (fun z => z.2 (nx_none h j h1 (by omega)))]
theorem awE_some {a b w : Nat} (h : nx D a = some b) : awE D a w = zl (aw D) (D 1 - b) b w := by
  obtain ⟨h1, h2, h3⟩ := nx_some h
  have h4 := h2.1
  unfold awE
  rw [show D 1 - a = (b - a) + (D 1 - b) by omega, zl_add, show a + (b - a) = b by omega]
  congr 1
  apply zl_id
  intro j j1 j2 v
  rw [aw, if_neg (fun z => z.2 (h3 j j1 (by omega)))]
/-- how many are awake -/
def pN (D : Nat → Nat) (w : Nat) : Nat := zl (fun f a => a + w / 2 ^ f % 2 * D (6 + 2 * f)) (D 0) 0 0
theorem bit_sum {w : Nat} (hw : w < 2 ^ 31) (P : Nat → Nat) : ∀ (r i a : Nat), i + r ≤ 6 → zl (fun f a => a + ((nI w >>> (nI f &&& 31)) &&& 1) * nI (P f)) r i (nI a) = nI (zl (fun f a => a + w / 2 ^ f % 2 * P f) r i a) := by
  intro r
  induction r with
  | zero => intro i a _; rfl
  | succ r ih =>
    intro i a h
    simp only [zl]
    rw [bi_e hw (by omega), pk_mul, nI_add]
    exact ih (i + 1) _ (by omega)
theorem pN_e (k : HK D) {w : Nat} (hw : w < 2 ^ 31) : zl (fun f a => a + ((nI w >>> (nI f &&& 31)) &&& 1) * nI (D (6 + 2 * f))) (D 0) 0 0 = nI (pN D w) := by
  have hk := hk0 k
  exact bit_sum hw (fun f => D (6 + 2 * f)) (D 0) 0 0 (by omega)
theorem pN_le (k : HK D) (w : Nat) : pN D w ≤ 54 := by
  have hk := hk0 k
  have := zl_inv (f := fun f a => a + w / 2 ^ f % 2 * D (6 + 2 * f)) (fun i a => a ≤ 9 * i) (D 0) 0 0 (Nat.zero_le _) (fun j _ hj a ha => by
    have hF := hkF k (show j < D 0 by omega)
    show a + w / 2 ^ j % 2 * D (6 + 2 * j) ≤ 9 * (j + 1)
    have h1 : w / 2 ^ j % 2 ≤ 1 := by have : w / 2 ^ j % 2 < 2 := Nat.mod_lt _ (by decide); omega
    have h2 : w / 2 ^ j % 2 * D (6 + 2 * j) ≤ 1 * 9 := Nat.mul_le_mul h1 hF.2.2
    omega)
  unfold pN
  omega
/-- what is paid -/
def rN (D : Nat → Nat) (w : Nat) : Nat := zl (fun f a => a + (1 - w / 2 ^ f % 2) * D (5 + 2 * f)) (D 0) 0 0
theorem nb64 : ∀ w, w < 64 → ∀ f, f < 6 → ((nI w ^^^ (-1)) >>> (nI f &&& 31)) &&& 1 = nI (1 - w / 2 ^ f % 2) := by decide +kernel
theorem rN_e (k : HK D) {w : Nat} (hw : w < 64) : zl (fun f a => a + (((nI w ^^^ (-1)) >>> (nI f &&& 31)) &&& 1) * nI (D (5 + 2 * f))) (D 0) 0 0 = nI (rN D w) := by
  have hk := hk0 k
  have key : ∀ (r i a : Nat), i + r ≤ 6 → zl (fun f a => a + (((nI w ^^^ (-1)) >>> (nI f &&& 31)) &&& 1) * nI (D (5 + 2 * f))) r i (nI a) = nI (zl (fun f a => a + (1 - w / 2 ^ f % 2) * D (5 + 2 * f)) r i a) := by
    intro r
    induction r with
    | zero => intro i a _; rfl
    | succ r ih =>
      intro i a h
      simp only [zl]
      rw [nb64 w hw i (by omega), pk_mul, nI_add]
      exact ih (i + 1) _ (by omega)
  exact key (D 0) 0 0 (by omega)
theorem zl_plus (G : Nat → Nat) : ∀ (r i a : Nat), zl (fun f a => a + G f) r i a = a + zl (fun f a => a + G f) r i 0 := by
  intro r
  induction r with
  | zero => intro i a; rfl
  | succ r ih =>
    intro i a
    simp only [zl]
    rw [ih, ih (i + 1) (0 + G i)]
    omega
end NIG
