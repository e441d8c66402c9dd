/-! ===== level 2: tunes: rows of notes, counted from both ends ===== -/
def sNt (f : Nat → Nat) : Nat → Nat
  | 0 => 0
  | k + 1 => sNt f k + f k
theorem sNt_congr {f g : Nat → Nat} : ∀ (k : Nat), (∀ i, i < k → f i = g i) → sNt f k = sNt g k := by
  intro k
  induction k with
  | zero => intro _; rfl
  | succ k ih =>
    intro h
    rw [sNt, sNt, ih (fun i hi => h i (by omega)), h k (by omega)]
theorem sNt_zero {f : Nat → Nat} : ∀ (k : Nat), (∀ i, i < k → f i = 0) → sNt f k = 0 := by
  intro k
  induction k with
  | zero => intro _; rfl
  | succ k ih =>
    intro h
    rw [sNt, ih (fun i hi => h i (by omega)), h k (by omega)]
theorem sNt_le {f g : Nat → Nat} : ∀ (k : Nat), (∀ i, i < k → f i ≤ g i) → sNt f k ≤ sNt g k := by
  intro k
  induction k with
  | zero => intro _; exact Nat.le_refl _
  | succ k ih =>
    intro h
    have h1 := ih (fun i hi => h i (by omega))
    have h2 := h k (by omega)
    rw [sNt, sNt]
    omega
theorem sNt_add (f g : Nat → Nat) : ∀ (k : Nat), sNt (fun i => f i + g i) k = sNt f k + sNt g k := by
  intro k
  induction k with
  | zero => rfl
  | succ k ih =>
    rw [sNt, sNt, sNt, ih]
    omega
theorem sNt_swap (f : Nat → Nat → Nat) (l : Nat) : ∀ (k : Nat), sNt (fun i => sNt (f i) l) k = sNt (fun j => sNt (fun i => f i j) k) l := by
  intro k
  induction k with
  | zero => exact (sNt_zero l (fun _ _ => rfl)).symm
  | succ k ih =>
    rw [sNt, ih, ← sNt_add]
    exact sNt_congr l (fun j _ => rfl)
theorem sNt_mul (c : Nat) (f : Nat → Nat) : ∀ (k : Nat), c * sNt f k = sNt (fun i => c * f i) k := by
  intro k
  induction k with
  | zero => rfl
  | succ k ih => rw [sNt, sNt, Nat.mul_add, ih]
theorem sNt_mulr (c : Nat) (f : Nat → Nat) : ∀ (k : Nat), sNt f k * c = sNt (fun i => f i * c) k := by
  intro k
  induction k with
  | zero => exact Nat.zero_mul c
  | succ k ih => rw [sNt, sNt, Nat.add_mul, ih]
theorem sNt_one {f : Nat → Nat} (j : Nat) : ∀ (k : Nat), j < k → (∀ i, i < k → i ≠ j → f i = 0) → sNt f k = f j := by
  intro k
  induction k with
  | zero => intro h; omega
  | succ k ih =>
    intro h h0
    rw [sNt]
    by_cases z : j = k
    · rw [sNt_zero k (fun i hi => h0 i (by omega) (by omega)), z, Nat.zero_add]
    · rw [ih (by omega) (fun i hi hn => h0 i (by omega) hn), h0 k (by omega) (by omega), Nat.add_zero]
theorem sNt_ne {f : Nat → Nat} : ∀ (k : Nat), sNt f k ≠ 0 ↔ ∃ i, i < k ∧ f i ≠ 0 := by
  intro k
  induction k with
  | zero => exact ⟨fun h => absurd rfl h, fun ⟨i, hi, _⟩ => by omega⟩
  | succ k ih =>
    rw [sNt]
    constructor
    · intro h
      by_cases z : f k = 0
      · obtain ⟨i, h1, h2⟩ := ih.mp (by omega)
        exact ⟨i, by omega, h2⟩
      · exact ⟨k, by omega, z⟩
    · rintro ⟨i, h1, h2⟩
      by_cases z : i = k
      · subst z; omega
      · have := ih.mpr ⟨i, by omega, h2⟩
        omega
abbrev nr (d n m : Nat) : Prop := n = 0 ∨ m = 0 ∨ (n ≤ m + d ∧ m ≤ n + d)
/-- ways on from note n, r bars before the end -/
def GG (d : Nat) (A : Nat → Nat → Bool) (B : Nat) : Nat → Nat → Nat
  | 0, _ => 1
  | r + 1, n => sNt (fun m => if nr d n m ∧ A (B - 1 - r) m = true then GG d A B r m else 0) 10
/-- ways to note n, b bars from the start -/
def FF (d : Nat) (A : Nat → Nat → Bool) : Nat → Nat → Nat
  | 0, n => if n = 0 then 1 else 0
  | b + 1, n => if A b n = true then sNt (fun m => if nr d m n then FF d A b m else 0) 10 else 0
section PAT
variable {d : Nat} {A : Nat → Nat → Bool} {B : Nat}
theorem FG : ∀ b, b ≤ B → sNt (fun n => FF d A b n * GG d A B (B - b) n) 10 = GG d A B B 0 := by
  intro b
  induction b with
  | zero =>
    intro _
    rw [sNt_one 0 10 (by decide) (fun i _ hi => by rw [FF, if_neg hi, Nat.zero_mul]), FF, if_pos rfl, Nat.one_mul, Nat.sub_zero]
  | succ b ih =>
    intro hb
    rw [← ih (by omega)]
    rw [show B - b = (B - (b + 1)) + 1 by omega]
    have e : B - 1 - (B - (b + 1)) = b := by omega
    have e1 : ∀ n, FF d A b n * GG d A B (B - (b + 1) + 1) n = sNt (fun m => if nr d n m ∧ A b m = true then FF d A b n * GG d A B (B - (b + 1)) m else 0) 10 := by
      intro n
      rw [GG, e, sNt_mul]
      exact sNt_congr 10 (fun m _ => by
        by_cases z : nr d n m ∧ A b m = true
        · rw [if_pos z, if_pos z]
        · rw [if_neg z, if_neg z, Nat.mul_zero])
    rw [sNt_congr 10 (fun n _ => e1 n), sNt_swap]
    refine sNt_congr 10 (fun m _ => ?_)
    rw [FF]
    by_cases z : A b m = true
    · rw [if_pos z, sNt_mulr]
      exact sNt_congr 10 (fun n _ => by
        by_cases y : nr d n m
        · rw [if_pos y, if_pos ⟨y, z⟩]
        · rw [if_neg y, if_neg (fun w => y w.1), Nat.zero_mul])
    · rw [if_neg z, Nat.zero_mul]
      exact (sNt_zero 10 (fun n _ => if_neg (fun w => z w.2))).symm
theorem FG_end : sNt (FF d A B) 10 = GG d A B B 0 := by
  rw [← FG (d := d) (A := A) (B := B) B (Nat.le_refl B), Nat.sub_self]
  exact sNt_congr 10 (fun n _ => by rw [GG, Nat.mul_one])
/-- nine notes a bar at most -/
def nine (A : Nat → Nat → Bool) : Prop := ∀ b, (A b 0 = false) ∨ (∀ n, n ≠ 0 → A b n = false)
theorem sNt9 {f : Nat → Nat} {c : Nat} (h0 : f 0 = 0) (h : ∀ i, f i ≤ c) : sNt f 10 ≤ 9 * c := by
  have h1 := h 1
  have h2 := h 2
  have h3 := h 3
  have h4 := h 4
  have h5 := h 5
  have h6 := h 6
  have h7 := h 7
  have h8 := h 8
  have h9 := h 9
  simp only [sNt]
  omega
theorem FF_le (hn : nine A) : ∀ b, sNt (FF d A b) 10 ≤ 9 ^ b := by
  intro b
  induction b with
  | zero => exact Nat.le_of_eq (sNt_one 0 10 (by decide) (fun i _ hi => if_neg hi))
  | succ b ih =>
    have ub : ∀ n, FF d A (b + 1) n ≤ 9 ^ b := by
      intro n
      rw [FF]
      by_cases z : A b n = true
      · rw [if_pos z]
        refine Nat.le_trans (sNt_le 10 (fun m _ => ?_)) ih
        by_cases y : nr d m n
        · rw [if_pos y]; exact Nat.le_refl _
        · rw [if_neg y]; exact Nat.zero_le _
      · rw [if_neg z]; exact Nat.zero_le _
    rw [Nat.pow_succ, Nat.mul_comm]
    rcases hn b with z | z
    · exact sNt9 (by rw [FF, if_neg (by rw [z]; decide)]) ub
    · rw [sNt_one 0 10 (by decide) (fun i _ hi => by rw [FF, if_neg (by rw [z i hi]; decide)])]
      have := ub 0
      omega
theorem GG_le (hn : nine A) : ∀ r n, GG d A B r n ≤ 9 ^ r := by
  intro r
  induction r with
  | zero => intro n; exact Nat.le_refl _
  | succ r ih =>
    intro n
    rw [GG, Nat.pow_succ, Nat.mul_comm]
    have ub : ∀ m, (if nr d n m ∧ A (B - 1 - r) m = true then GG d A B r m else 0) ≤ 9 ^ r := by
      intro m
      by_cases z : nr d n m ∧ A (B - 1 - r) m = true
      · rw [if_pos z]; exact ih m
      · rw [if_neg z]; exact Nat.zero_le _
    rcases hn (B - 1 - r) with z | z
    · exact sNt9 (if_neg (fun w => by rw [z] at w; exact absurd w.2 (by decide))) ub
    · rw [sNt_one 0 10 (by decide) (fun i _ hi => if_neg (fun w => by rw [z i hi] at w; exact absurd w.2 (by decide)))]
      have := ub 0
      omega
/-- bars behind a place alone count -/
theorem GG_congr {A' : Nat → Nat → Bool} : ∀ r, (∀ b, B - r ≤ b → b < B → ∀ n, A' b n = A b n) → r ≤ B → ∀ n, GG d A' B r n = GG d A B r n := by
  intro r
  induction r with
  | zero => intro _ _ n; rfl
  | succ r ih =>
    intro h hr n
    rw [GG, GG]
    refine sNt_congr 10 (fun m _ => ?_)
    rw [h (B - 1 - r) (by omega) (by omega) m, ih (fun b h1 h2 => h b (by omega) h2) (by omega) m]
theorem FF_congr {A' : Nat → Nat → Bool} : ∀ b, (∀ c, c < b → ∀ n, A' c n = A c n) → ∀ n, FF d A' b n = FF d A b n := by
  intro b
  induction b with
  | zero => intro _ n; rfl
  | succ b ih =>
    intro h n
    rw [FF, FF, h b (by omega) n, sNt_congr 10 (fun m _ => by rw [ih (fun c hc => h c (by omega)) m])]
/-- one bar fixed -/
def fixA (A : Nat → Nat → Bool) (w x : Nat) : Nat → Nat → Bool := fun b n => A b n && (decide (b ≠ w) || decide (n = x))
theorem fix_tot {w x : Nat} (hw : w < B) (hx : x < 10) : GG d (fixA A w x) B B 0 = FF d A (w + 1) x * GG d A B (B - (w + 1)) x := by
  rw [← FG (d := d) (A := fixA A w x) (B := B) (w + 1) (by omega)]
  have e1 : ∀ n, n ≠ x → FF d (fixA A w x) (w + 1) n = 0 := by
    intro n hn
    rw [FF, if_neg]
    unfold fixA
    simp [hn]
  rw [sNt_one x 10 hx (fun i _ hi => by rw [e1 i hi, Nat.zero_mul])]
  rw [GG_congr (A := A) (B - (w + 1)) (fun b h1 h2 n => by unfold fixA; simp [show b ≠ w by omega]) (by omega) x]
  congr 1
  rw [FF, FF]
  have e2 : fixA A w x w x = A w x := by unfold fixA; simp
  rw [e2, sNt_congr 10 (fun m _ => by rw [FF_congr (A := A) w (fun c hc n => by unfold fixA; simp [show c ≠ w by omega]) m])]
/-- bars before w have one note each -/
theorem one_way {w : Nat} {t : Nat → Nat} (hw : w ≤ B) (h1 : ∀ b, b < w → A b (t b) = true ∧ t b < 10 ∧ ∀ n, A b n = true → n = t b) (h2 : ∀ b, b < w → nr d (if b = 0 then 0 else t (b - 1)) (t b)) : ∀ b, b ≤ w → GG d A B B 0 = GG d A B (B - b) (if b = 0 then 0 else t (b - 1)) := by
  intro b
  induction b with
  | zero => intro _; rw [Nat.sub_zero, if_pos rfl]
  | succ b ih =>
    intro hb
    obtain ⟨a1, a2, a3⟩ := h1 b (by omega)
    rw [ih (by omega), show B - b = (B - (b + 1)) + 1 by omega, GG, show B - 1 - (B - (b + 1)) = b by omega, sNt_one (t b) 10 a2 (fun i _ hi => if_neg (fun z => hi (a3 i z.2))), if_pos ⟨h2 b (by omega), a1⟩, if_neg (by omega), Nat.add_sub_cancel]
theorem GG_sub {A' : Nat → Nat → Bool} (h : ∀ b n, A' b n = true → A b n = true) : ∀ r n, GG d A' B r n ≤ GG d A B r n := by
  intro r
  induction r with
  | zero => intro n; exact Nat.le_refl _
  | succ r ih =>
    intro n
    rw [GG, GG]
    refine sNt_le 10 (fun m _ => ?_)
    by_cases z : nr d n m ∧ A' (B - 1 - r) m = true
    · rw [if_pos z, if_pos ⟨z.1, h _ _ z.2⟩]; exact ih m
    · rw [if_neg z]; exact Nat.zero_le _
end PAT
