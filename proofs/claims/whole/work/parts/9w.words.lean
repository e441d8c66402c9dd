/-! ===== level 2: text: words ===== -/
/-- letters in base 32 -/
def cdN (f : Nat → Nat) : Nat → Nat
  | 0 => 0
  | n + 1 => 32 * cdN f n + f n
theorem cdN_inj {f g : Nat → Nat} : ∀ n m, (∀ i, i < n → 1 ≤ f i ∧ f i ≤ 31) → (∀ i, i < m → 1 ≤ g i ∧ g i ≤ 31) → cdN f n = cdN g m → n = m ∧ ∀ i, i < n → f i = g i := by
  intro n
  induction n with
  | zero =>
    intro m _ hg e
    cases m with
    | zero => exact ⟨rfl, fun i hi => absurd hi (Nat.not_lt_zero _)⟩
    | succ m =>
      have := hg m (by omega)
      rw [cdN, cdN] at e
      omega
  | succ n ih =>
    intro m hf hg e
    cases m with
    | zero =>
      have := hf n (by omega)
      rw [cdN, cdN] at e
      omega
    | succ m =>
      have h1 := hf n (by omega)
      have h2 := hg m (by omega)
      rw [cdN, cdN] at e
      obtain ⟨a, b⟩ := ih m (fun i hi => hf i (by omega)) (fun i hi => hg i (by omega)) (by omega)
      subst a
      refine ⟨rfl, fun i hi => ?_⟩
      by_cases x : i = n
      · rw [x]; omega
      · exact b i (by omega)
theorem cdN_congr {f g : Nat → Nat} : ∀ n, (∀ i, i < n → f i = g i) → cdN f n = cdN g n := by
  intro n
  induction n with
  | zero => intro _; rfl
  | succ n ih => intro h; rw [cdN, cdN, ih (fun i hi => h i (by omega)), h n (by omega)]
theorem cdN_lt {f : Nat → Nat} : ∀ n, (∀ i, i < n → f i ≤ 31) → cdN f n < 32 ^ n := by
  intro n
  induction n with
  | zero => intro _; exact Nat.one_pos
  | succ n ih =>
    intro h
    have := ih (fun i hi => h i (by omega))
    have := h n (by omega)
    rw [cdN, Nat.pow_succ]
    omega
def wLe : List Nat := [5, 3, 6, 4, 4, 4, 4, 4, 4, 5, 6, 4]
def wBy : List (List Nat) := [[102, 108, 111, 111, 114], [98, 97, 114], [115, 105, 110, 103, 101, 114], [115, 116, 101, 112], [119, 97, 108, 108], [115, 105, 110, 103], [99, 111, 108, 100], [119, 101, 108, 108], [115, 107, 105, 112], [110, 105, 103, 104, 116], [100, 114, 101, 97, 109, 116], [99, 97, 108, 109]]
def wLn (k : Nat) : Nat := wLe.getD k 0
def wCh (k i : Nat) : Nat := (wBy.getD k []).getD i 0
theorem wLn_e : ∀ k, k < 12 → sLen.getD k 0 = wLn k := by decide +kernel
theorem wCh_e : ∀ k, k < 12 → ∀ i, i < wLn k → scc k i = nI (wCh k i) := by decide +kernel
theorem wCh_in : ∀ k, k < 12 → ∀ i, i < wLn k → 97 ≤ wCh k i ∧ wCh k i ≤ 122 := by decide +kernel
theorem wLn_in : ∀ k, k < 12 → 1 ≤ wLn k ∧ wLn k ≤ 6 := by decide +kernel
abbrev wIs (t : Nat → Nat) (s n k : Nat) : Bool := decide (n = wLn k) && (List.range (wLn k)).all (fun i => decide (t (s + i) = wCh k i))
theorem wIs_iff {t : Nat → Nat} {s n k : Nat} : wIs t s n k = true ↔ n = wLn k ∧ ∀ i, i < wLn k → t (s + i) = wCh k i := by
  unfold wIs
  rw [Bool.and_eq_true, decide_eq_true_iff, List.all_eq_true]
  constructor
  · rintro ⟨a, b⟩; exact ⟨a, fun i hi => of_decide_eq_true (b i (List.mem_range.mpr hi))⟩
  · rintro ⟨a, b⟩; exact ⟨a, fun i hi => decide_eq_true (b i (List.mem_range.mp hi))⟩
/-- which word it is: 1 .. 12, or 99 -/
def wrdN (t : Nat → Nat) (s n : Nat) : Nat := match zf (wIs t s n) 12 0 with | some k => k + 1 | none => 99
def wrd (t : Nat → Nat) (z s : Nat) : Nat := wrdN t s (ten t z s - s)
theorem zf_some {p : Nat → Bool} : ∀ r i k, zf p r i = some k → i ≤ k ∧ k < i + r ∧ p k = true := by
  intro r
  induction r with
  | zero => intro i k h; cases h
  | succ r ih =>
    intro i k h
    rw [zf] at h
    by_cases z : p i = true
    · rw [if_pos z] at h
      have := Option.some.inj h
      subst this
      exact ⟨Nat.le_refl _, by omega, z⟩
    · rw [if_neg z] at h
      have := ih (i + 1) k h
      exact ⟨by omega, by omega, this.2.2⟩
theorem zf_none {p : Nat → Bool} : ∀ r i, zf p r i = none → ∀ k, i ≤ k → k < i + r → p k = false := by
  intro r
  induction r with
  | zero => intro i _ k h1 h2; omega
  | succ r ih =>
    intro i h k h1 h2
    rw [zf] at h
    by_cases z : p i = true
    · rw [if_pos z] at h; cases h
    · rw [if_neg z] at h
      by_cases e : k = i
      · rw [e]; simpa using z
      · exact ih (i + 1) h k (by omega) (by omega)
theorem wIs_uni {t : Nat → Nat} {s n k j : Nat} (hk : k < 12) (hj : j < 12) (a : wIs t s n k = true) (b : wIs t s n j = true) : k = j := by
  have a' := wIs_iff.mp a
  have b' := wIs_iff.mp b
  have dec : ∀ k, k < 12 → ∀ j, j < 12 → wLn k = wLn j → (∀ i, i < wLn k → wCh k i = wCh j i) → k = j := by decide +kernel
  refine dec k hk j hj (by omega) (fun i hi => ?_)
  rw [← a'.2 i hi, ← b'.2 i (by omega)]
theorem wrdN_k {t : Nat → Nat} {s n k : Nat} (hk : k < 12) : wrdN t s n = k + 1 ↔ wIs t s n k = true := by
  unfold wrdN
  constructor
  · intro h
    cases e : zf (wIs t s n) 12 0 with
    | none => rw [e] at h; simp only at h; omega
    | some j =>
      rw [e] at h
      simp only at h
      have := zf_some 12 0 j e
      have ej : j = k := by omega
      rw [← ej]; exact this.2.2
  · intro h
    cases e : zf (wIs t s n) 12 0 with
    | none => have := zf_none 12 0 e k (by omega) (by omega); rw [this] at h; exact Bool.noConfusion h
    | some j =>
      have := zf_some 12 0 j e
      have ej := wIs_uni (by omega) hk this.2.2 h
      simp only
      omega
theorem wrdN_in {t : Nat → Nat} {s n : Nat} : (1 ≤ wrdN t s n ∧ wrdN t s n ≤ 12) ∨ wrdN t s n = 99 := by
  unfold wrdN
  cases e : zf (wIs t s n) 12 0 with
  | none => exact Or.inr rfl
  | some j => have := zf_some 12 0 j e; left; simp only; omega
theorem wrdN_99 {t : Nat → Nat} {s n : Nat} (h : 8 < n) : wrdN t s n = 99 := by
  rcases wrdN_in (t := t) (s := s) (n := n) with h1 | h1
  · have := (wrdN_k (t := t) (s := s) (n := n) (k := wrdN t s n - 1) (by omega)).mp (by omega)
    have h2 := (wIs_iff.mp this).1
    have h3 := wLn_in (wrdN t s n - 1) (by omega)
    omega
  · exact h1
/-- the reference's word of a code -/
def wCd (k : Nat) : Nat := cdN (fun i => wCh k i - 96) (wLn k)
def wOf : Nat → Nat → Nat → Nat
  | 0, _, _ => 99
  | r + 1, k, v => if v = wCd k then k + 1 else wOf r (k + 1) v
theorem wOf_e {t : Nat → Nat} {s n : Nat} (hn : n ≤ 8) (hl : ∀ i, i < n → 97 ≤ t (s + i) ∧ t (s + i) ≤ 122) : wOf 12 0 (cdN (fun i => t (s + i) - 96) n) = wrdN t s n := by
  have iff : ∀ k, k < 12 → (cdN (fun i => t (s + i) - 96) n = wCd k ↔ wIs t s n k = true) := by
    intro k hk
    rw [wIs_iff]
    constructor
    · intro e
      have := cdN_inj (f := fun i => t (s + i) - 96) (g := fun i => wCh k i - 96) n (wLn k) (fun i hi => by have := hl i hi; show 1 ≤ t (s + i) - 96 ∧ t (s + i) - 96 ≤ 31; omega) (fun i hi => by have := wCh_in k hk i hi; show 1 ≤ wCh k i - 96 ∧ wCh k i - 96 ≤ 31; omega) e
      refine ⟨this.1, fun i hi => ?_⟩
      have h1 := this.2 i (by omega)
      have h2 := hl i (by omega)
      have h3 := wCh_in k hk i hi
      have h1' : t (s + i) - 96 = wCh k i - 96 := h1
      omega
    · rintro ⟨a, b⟩
      unfold wCd
      rw [a]
      exact cdN_congr _ (fun i hi => by show t (s + i) - 96 = wCh k i - 96; rw [b i hi])
  have key : ∀ r k, k + r = 12 → wOf r k (cdN (fun i => t (s + i) - 96) n) = match zf (wIs t s n) r k with | some j => j + 1 | none => 99 := by
    intro r
    induction r with
    | zero => intro k _; rfl
    | succ r ih =>
      intro k hk
      rw [wOf, zf]
      by_cases x : wIs t s n k = true
      · rw [if_pos ((iff k (by omega)).mpr x), if_pos x]
      · rw [if_neg (fun w => x ((iff k (by omega)).mp w)), if_neg x]
        exact ih (k + 1) (by omega)
  exact key 12 0 rfl
