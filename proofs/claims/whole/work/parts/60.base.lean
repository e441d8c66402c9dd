/-! ===== level 2: base ===== -/
theorem zn2 : (2 : Int32) = nI 2 := rfl
theorem zn3 : (3 : Int32) = nI 3 := rfl
theorem zn4 : (4 : Int32) = nI 4 := rfl
theorem zn5 : (5 : Int32) = nI 5 := rfl
theorem zn6 : (6 : Int32) = nI 6 := rfl
theorem zn7 : (7 : Int32) = nI 7 := rfl
theorem zn8 : (8 : Int32) = nI 8 := rfl
theorem zn9 : (9 : Int32) = nI 9 := rfl
theorem zn10 : (10 : Int32) = nI 10 := rfl
theorem zn11 : (11 : Int32) = nI 11 := rfl
theorem zn12 : (12 : Int32) = nI 12 := rfl
theorem zn13 : (13 : Int32) = nI 13 := rfl
theorem zn14 : (14 : Int32) = nI 14 := rfl
theorem zn15 : (15 : Int32) = nI 15 := rfl
theorem zn16 : (16 : Int32) = nI 16 := rfl
theorem zn17 : (17 : Int32) = nI 17 := rfl
theorem zn18 : (18 : Int32) = nI 18 := rfl
theorem zn19 : (19 : Int32) = nI 19 := rfl
theorem zn20 : (20 : Int32) = nI 20 := rfl
theorem zn21 : (21 : Int32) = nI 21 := rfl
theorem zn24 : (24 : Int32) = nI 24 := rfl
theorem zn29 : (29 : Int32) = nI 29 := rfl
theorem zn30 : (30 : Int32) = nI 30 := rfl
theorem zn32 : (32 : Int32) = nI 32 := rfl
theorem zn40 : (40 : Int32) = nI 40 := rfl
theorem zn48 : (48 : Int32) = nI 48 := rfl
theorem zn49 : (49 : Int32) = nI 49 := rfl
theorem zn54 : (54 : Int32) = nI 54 := rfl
theorem zn57 : (57 : Int32) = nI 57 := rfl
theorem zn59 : (59 : Int32) = nI 59 := rfl
theorem zn60 : (60 : Int32) = nI 60 := rfl
theorem zn63 : (63 : Int32) = nI 63 := rfl
theorem zn64 : (64 : Int32) = nI 64 := rfl
theorem zn81 : (81 : Int32) = nI 81 := rfl
theorem zn97 : (97 : Int32) = nI 97 := rfl
theorem zn99 : (99 : Int32) = nI 99 := rfl
theorem zn122 : (122 : Int32) = nI 122 := rfl
theorem zn127 : (127 : Int32) = nI 127 := rfl
theorem zn600 : (600 : Int32) = nI 600 := rfl
theorem zn610 : (610 : Int32) = nI 610 := rfl
theorem zn738 : (738 : Int32) = nI 738 := rfl
theorem zn900 : (900 : Int32) = nI 900 := rfl
theorem zn934 : (934 : Int32) = nI 934 := rfl
theorem zn999 : (999 : Int32) = nI 999 := rfl
theorem zn3736 : (3736 : Int32) = nI 3736 := rfl
theorem zn999999 : (999999 : Int32) = nI 999999 := rfl
theorem zn99999999 : (99999999 : Int32) = nI 99999999 := rfl
theorem bd1_some {α β : Type} (a : α) (K : α → Option β) : bd1 (some a) K = K a := rfl
theorem bd2_some {α β γ : Type} (a : α) (b : β) (K : α → β → Option γ) : bd2 (some (a, b)) K = K a b := rfl
theorem sq_eq {α : Type} (x : HS) (K : HS → Option α) : sq x K = K x := rfl
theorem zi_lt0 {a : Nat} (h : a < 2 ^ 31) : (nI a < 0) = False := by simpa using nI_pos h
theorem zi_le0 {a : Nat} (h : a < 2 ^ 31) : (nI a ≤ 0) = (a = 0) := by
  have := nI_leI h (show 0 < 2 ^ 31 by decide)
  rw [nI_0] at this
  exact propext (this.trans ⟨fun h => by omega, fun h => by omega⟩)
theorem zi_0lt {a : Nat} (h : a < 2 ^ 31) : (0 < nI a) = (0 < a) := by
  have := nI_ltI (show 0 < 2 ^ 31 by decide) h
  rw [nI_0] at this
  exact propext this
theorem zi_0le {a : Nat} (h : a < 2 ^ 31) : (0 ≤ nI a) = True := by simpa using nI_pos' h
theorem zi_eq0 {a : Nat} (h : a < 2 ^ 31) : (nI a = 0) = (a = 0) := by
  have := nI_eq h (show 0 < 2 ^ 31 by decide)
  rw [nI_0] at this
  exact propext this
theorem zi_e0 {a : Nat} (h : a < 2 ^ 31) : (0 = nI a) = (a = 0) := by rw [← zi_eq0 h]; exact propext ⟨fun h => h.symm, fun h => h.symm⟩
theorem zi_eq1 {a : Nat} (h : a < 2 ^ 31) : (nI a = 1) = (a = 1) := propext (nI_eq (b := 1) h (by decide))
theorem zi_lt1 {a : Nat} (h : a < 2 ^ 31) : (nI a < 1) = (a < 1) := propext (nI_ltI (b := 1) h (by decide))
theorem zi_1le {a : Nat} (h : a < 2 ^ 31) : (nI a ≤ 1) = (a ≤ 1) := propext (nI_leI (b := 1) h (by decide))
theorem nI_m1 {a : Nat} (h : a < 2 ^ 31) : ¬ nI a = -1 := by
  intro e
  have h1 := nI_toInt h
  rw [e] at h1
  have h2 : (-1 : Int32).toInt = -1 := by decide
  omega
theorem zi_m1 {a : Nat} (h : a < 2 ^ 31) : (nI a = -1) = False := by simpa using nI_m1 h
theorem zi_1m {a : Nat} (h : a < 2 ^ 31) : (-1 = nI a) = False := by simpa using fun e => nI_m1 h e.symm
/-- a truth value as an int -/
def nB (c : Prop) [Decidable c] : Int32 := if c then 1 else 0
theorem nB_0 (c : Prop) [Decidable c] : (nB c = 0) = ¬ c := by
  unfold nB
  by_cases h : c
  · simp [h]
  · simp [h]
theorem nB_1 (c : Prop) [Decidable c] : (nB c = 1) = c := by
  unfold nB
  by_cases h : c
  · simp [h]
  · simp [h]
theorem nB_n0 (c : Prop) [Decidable c] : (0 = nB c) = ¬ c := by rw [← nB_0]; exact propext ⟨fun h => h.symm, fun h => h.symm⟩
theorem nz_nB (c : Prop) [Decidable c] : nz (nB c) = nB c := by
  unfold nB
  by_cases h : c
  · simp [h, nz_1]
  · simp [h, nz_0]
theorem nB_t {c : Prop} [Decidable c] (h : c) : nB c = 1 := if_pos h
theorem nB_f {c : Prop} [Decidable c] (h : ¬ c) : nB c = 0 := if_neg h
theorem nB_eq {c d : Prop} [Decidable c] [Decidable d] (h : c ↔ d) : nB c = nB d := by
  unfold nB
  by_cases hc : c
  · rw [if_pos hc, if_pos (h.mp hc)]
  · rw [if_neg hc, if_neg (fun z => hc (h.mpr z))]
theorem ite_nz {c : Prop} [Decidable c] : (if c then some (0 : Int32) else some 1) = some (nB (¬ c)) := by
  unfold nB
  by_cases h : c
  · simp [h]
  · simp [h]
/-- a counting loop -/
def zl {α : Type} (f : Nat → α → α) : Nat → Nat → α → α
  | 0, _, a => a
  | r + 1, i, a => zl f r (i + 1) (f i a)
theorem zl_congr {α : Type} {f g : Nat → α → α} : ∀ (r i : Nat) (a : α), (∀ j, i ≤ j → j < i + r → ∀ a, f j a = g j a) → zl f r i a = zl g r i a := by
  intro r
  induction r with
  | zero => intro i a _; rfl
  | succ r ih =>
    intro i a h
    simp only [zl]
    rw [h i (by omega) (by omega) a]
    exact ih (i + 1) _ (fun j h1 h2 a => h j (by omega) (by omega) a)
theorem zl_add {α : Type} {f : Nat → α → α} : ∀ (r t i : Nat) (a : α), zl f (r + t) i a = zl f t (i + r) (zl f r i a) := by
  intro r
  induction r with
  | zero => intro t i a; simp only [zl, Nat.zero_add, Nat.add_zero]
  | succ r ih =>
    intro t i a
    rw [show r + 1 + t = (r + t) + 1 by omega]
    simp only [zl]
    rw [ih, show i + 1 + r = i + (r + 1) by omega]
theorem zl_id {α : Type} {f : Nat → α → α} : ∀ (r i : Nat) (a : α), (∀ j, i ≤ j → j < i + r → ∀ a, f j a = a) → zl f r i a = a := by
  intro r
  induction r with
  | zero => intro i a _; rfl
  | succ r ih =>
    intro i a h
    simp only [zl]
    rw [h i (by omega) (by omega) a]
    exact ih (i + 1) _ (fun j h1 h2 a => h j (by omega) (by omega) a)
/-- what a longer loop does beyond its matter: nothing -/
theorem zl_cut {α : Type} {f : Nat → α → α} {r n : Nat} (hr : r ≤ n) (a : α) (h : ∀ j, r ≤ j → j < n → ∀ a, f j a = a) : zl f n 0 a = zl f r 0 a := by
  rw [show n = r + (n - r) by omega, zl_add]
  exact zl_id _ _ _ (fun j h1 h2 a => h j (by omega) (by omega) a)
theorem zl_inv {α : Type} {f : Nat → α → α} (I : Nat → α → Prop) : ∀ (r i : Nat) (a : α), I i a → (∀ j, i ≤ j → j < i + r → ∀ a, I j a → I (j + 1) (f j a)) → I (i + r) (zl f r i a) := by
  intro r
  induction r with
  | zero => intro i a h _; exact h
  | succ r ih =>
    intro i a h hs
    simp only [zl]
    rw [show i + (r + 1) = i + 1 + r by omega]
    exact ih (i + 1) _ (hs i (by omega) (by omega) a h) (fun j h1 h2 a => hs j (by omega) (by omega) a)
/-- the first that is so -/
def zf (p : Nat → Bool) : Nat → Nat → Option Nat
  | 0, _ => none
  | r + 1, i => if p i then some i else zf p r (i + 1)
theorem fuel {n r : Nat} (h : r < n) : ∃ m, n = m + 1 ∧ r ≤ m := ⟨n - 1, by omega, by omega⟩
/-! what is read of a heap that was written to -/
theorem wi_s (h : HS) (k j : Nat) (x : Int32) : (wi h k j x).1 k j = x := by simp [wi]
theorem wi_j (h : HS) {k j : Nat} (x : Int32) {i : Nat} (hi : i ≠ j) : (wi h k j x).1 k i = h.1 k i := by simp [wi, hi]
theorem wi_k (h : HS) {k j : Nat} (x : Int32) {a : Nat} (ha : a ≠ k) : (wi h k j x).1 a = h.1 a := by funext b; simp [wi, ha]
theorem wi_2 (h : HS) (k j : Nat) (x : Int32) : (wi h k j x).2 = h.2 := rfl
theorem wa_s (h : HS) (k : Nat) (f : Nat → Int32) : (wa h k f).1 k = f := by funext b; simp [wa]
theorem wa_k (h : HS) {k : Nat} (f : Nat → Int32) {a : Nat} (ha : a ≠ k) : (wa h k f).1 a = h.1 a := by funext b; simp [wa, ha]
theorem wa_2 (h : HS) (k : Nat) (f : Nat → Int32) : (wa h k f).2 = h.2 := rfl
theorem wr_1 (h : HS) (k q : Nat) : (wr h k q).1 = h.1 := rfl
theorem wr_s (h : HS) (k q : Nat) : (wr h k q).2 k = q := by simp [wr]
theorem wr_k (h : HS) {k : Nat} (q : Nat) {a : Nat} (ha : a ≠ k) : (wr h k q).2 a = h.2 a := by simp [wr, ha]
/-! bits -/
def bt (x : Int32) (i : Nat) : Bool := x.toBitVec.getLsbD i
/-! a house, as numbers by the reference's places -/
abbrev zsn (D : Nat → Nat) (b : Nat) : Prop := b < D 1 ∧ D (17 + 4 * b) ≠ 0
abbrev zre (D : Nat → Nat) (s n c : Nat) : Prop := D (49 + 3 * s) ≤ n ∧ n + c ≤ D (50 + 3 * s)
def HK (D : Nat → Nat) : Prop := D 0 ≤ 6 ∧ D 1 ≤ 8 ∧ D 2 ≤ 5 ∧ D 3 ≤ 9 ∧ D 4 < 2 ^ D 1 ∧
  (∀ f, f < D 0 → D (5 + 2 * f) ≤ 20 ∧ 1 ≤ D (6 + 2 * f) ∧ D (6 + 2 * f) ≤ 9) ∧
  (∀ b, b < D 1 → D (17 + 4 * b) ≤ 9 ∧ 1 ≤ D (18 + 4 * b) ∧ D (18 + 4 * b) ≤ 4 ∧ D (19 + 4 * b) < D 0 ∧ D (20 + 4 * b) ≤ 10) ∧
  (∀ s, s < D 2 → 1 ≤ D (49 + 3 * s) ∧ D (49 + 3 * s) ≤ D (50 + 3 * s) ∧ D (50 + 3 * s) ≤ 9 ∧ 1 ≤ D (51 + 3 * s) ∧ D (51 + 3 * s) ≤ 20)
def HP (p : Nat) : Prop := ln (p + 1) = 6 ∧ ln (p + 2) = 6 ∧ ln (p + 3) = 8 ∧ ln (p + 4) = 8 ∧ ln (p + 5) = 8 ∧ ln (p + 6) = 8 ∧ ln (p + 7) = 5 ∧ ln (p + 8) = 5 ∧ ln (p + 9) = 5 ∧ 0 < p ∧ p < 146
def KH (h : HS) (p : Nat) (D : Nat → Nat) : Prop := HP p ∧ HK D ∧
  (∀ j, j < 5 → h.1 p j = nI (D j)) ∧
  (∀ f, f < D 0 → h.1 (p + 1) f = nI (D (5 + 2 * f)) ∧ h.1 (p + 2) f = nI (D (6 + 2 * f))) ∧
  (∀ b, b < D 1 → h.1 (p + 3) b = nI (D (17 + 4 * b)) ∧ h.1 (p + 4) b = nI (D (18 + 4 * b)) ∧ h.1 (p + 5) b = nI (D (19 + 4 * b)) ∧ h.1 (p + 6) b = nI (D (20 + 4 * b))) ∧
  (∀ s, s < D 2 → h.1 (p + 7) s = nI (D (49 + 3 * s)) ∧ h.1 (p + 8) s = nI (D (50 + 3 * s)) ∧ h.1 (p + 9) s = nI (D (51 + 3 * s)))
/-- the reference has the house open that lies at q -/
def RH (h : HS) (q : Nat) (D : Nat → Nat) : Prop := HK D ∧ q ≤ 674 ∧ h.1 237 12 = nI q ∧ h.1 237 13 = nI (D 0) ∧ h.1 237 14 = nI (D 1) ∧ h.1 237 15 = nI (D 2) ∧ ∀ i, i < 64 → h.1 238 (q + i) = nI (D i)
theorem ch0 {h : HS} {p : Nat} {D : Nat → Nat} (c : KH h p D) : h.1 p 0 = nI (D 0) := c.2.2.1 0 (by decide)
theorem ch1 {h : HS} {p : Nat} {D : Nat → Nat} (c : KH h p D) : h.1 p 1 = nI (D 1) := c.2.2.1 1 (by decide)
theorem ch2 {h : HS} {p : Nat} {D : Nat → Nat} (c : KH h p D) : h.1 p 2 = nI (D 2) := c.2.2.1 2 (by decide)
theorem ch3 {h : HS} {p : Nat} {D : Nat → Nat} (c : KH h p D) : h.1 p 3 = nI (D 3) := c.2.2.1 3 (by decide)
theorem ch4 {h : HS} {p : Nat} {D : Nat → Nat} (c : KH h p D) : h.1 p 4 = nI (D 4) := c.2.2.1 4 (by decide)
theorem chRe {h : HS} {p : Nat} {D : Nat → Nat} (c : KH h p D) {f : Nat} (hf : f < D 0) : h.1 (p + 1) f = nI (D (5 + 2 * f)) := (c.2.2.2.1 f hf).1
theorem chPe {h : HS} {p : Nat} {D : Nat → Nat} (c : KH h p D) {f : Nat} (hf : f < D 0) : h.1 (p + 2) f = nI (D (6 + 2 * f)) := (c.2.2.2.1 f hf).2
theorem chNo {h : HS} {p : Nat} {D : Nat → Nat} (c : KH h p D) {b : Nat} (hb : b < D 1) : h.1 (p + 3) b = nI (D (17 + 4 * b)) := (c.2.2.2.2.1 b hb).1
theorem chLe {h : HS} {p : Nat} {D : Nat → Nat} (c : KH h p D) {b : Nat} (hb : b < D 1) : h.1 (p + 4) b = nI (D (18 + 4 * b)) := (c.2.2.2.2.1 b hb).2.1
theorem chGr {h : HS} {p : Nat} {D : Nat → Nat} (c : KH h p D) {b : Nat} (hb : b < D 1) : h.1 (p + 5) b = nI (D (19 + 4 * b)) := (c.2.2.2.2.1 b hb).2.2.1
theorem chRi {h : HS} {p : Nat} {D : Nat → Nat} (c : KH h p D) {b : Nat} (hb : b < D 1) : h.1 (p + 6) b = nI (D (20 + 4 * b)) := (c.2.2.2.2.1 b hb).2.2.2
theorem chLo {h : HS} {p : Nat} {D : Nat → Nat} (c : KH h p D) {s : Nat} (hs : s < D 2) : h.1 (p + 7) s = nI (D (49 + 3 * s)) := (c.2.2.2.2.2 s hs).1
theorem chHi {h : HS} {p : Nat} {D : Nat → Nat} (c : KH h p D) {s : Nat} (hs : s < D 2) : h.1 (p + 8) s = nI (D (50 + 3 * s)) := (c.2.2.2.2.2 s hs).2.1
theorem chBr {h : HS} {p : Nat} {D : Nat → Nat} (c : KH h p D) {s : Nat} (hs : s < D 2) : h.1 (p + 9) s = nI (D (51 + 3 * s)) := (c.2.2.2.2.2 s hs).2.2
theorem hk0 {D : Nat → Nat} (k : HK D) : D 0 ≤ 6 ∧ D 1 ≤ 8 ∧ D 2 ≤ 5 ∧ D 3 ≤ 9 := ⟨k.1, k.2.1, k.2.2.1, k.2.2.2.1⟩
theorem hk4 {D : Nat → Nat} (k : HK D) : D 4 < 2 ^ D 1 ∧ D 4 < 256 := ⟨k.2.2.2.2.1, Nat.lt_of_lt_of_le k.2.2.2.2.1 (Nat.pow_le_pow_right (by decide) (hk0 k).2.1)⟩
theorem hkF {D : Nat → Nat} (k : HK D) {f : Nat} (hf : f < D 0) : D (5 + 2 * f) ≤ 20 ∧ 1 ≤ D (6 + 2 * f) ∧ D (6 + 2 * f) ≤ 9 := k.2.2.2.2.2.1 f hf
theorem hkB {D : Nat → Nat} (k : HK D) {b : Nat} (hb : b < D 1) : D (17 + 4 * b) ≤ 9 ∧ 1 ≤ D (18 + 4 * b) ∧ D (18 + 4 * b) ≤ 4 ∧ D (19 + 4 * b) < D 0 ∧ D (20 + 4 * b) ≤ 10 := k.2.2.2.2.2.2.1 b hb
theorem hkS {D : Nat → Nat} (k : HK D) {s : Nat} (hs : s < D 2) : 1 ≤ D (49 + 3 * s) ∧ D (49 + 3 * s) ≤ D (50 + 3 * s) ∧ D (50 + 3 * s) ≤ 9 ∧ 1 ≤ D (51 + 3 * s) ∧ D (51 + 3 * s) ≤ 20 := k.2.2.2.2.2.2.2 s hs
/-! an element by at() -/
theorem at_in {N : Nat} {h : HS} {k L i : Nat} (hl : ln k = L) (hL : L < 2 ^ 31) (hi : i < L) : X10_at N h k (nI i) = some (h.1 k i) := by
  subst hl
  have h2 : i < 2 ^ 31 := by omega
  unfold X10_at
  rw [if_neg (nI_pos h2), if_neg (nI_ge hi hL), if_neg (nI_in hi hL), nI_clamp h2]
theorem at_out {N : Nat} {h : HS} {k L i : Nat} (hl : ln k = L) (hL : L ≤ i) (hi : i < 2 ^ 31) : X10_at N h k (nI i) = some 0 := by
  subst hl
  unfold X10_at
  rw [if_neg (nI_pos hi), if_pos (nI_le hL hi)]
theorem at_neg {N : Nat} {h : HS} {k : Nat} {i : Int32} (hi : i < 0) : X10_at N h k i = some 0 := by
  unfold X10_at
  rw [if_pos hi]
