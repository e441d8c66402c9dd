/-! ===== level 2: tunes: the first one ===== -/
def cb (F w : Nat) : Nat := sNt (fun j => if F.testBit j = true then 1 else 0) w
theorem cb_mono (F : Nat) {a b : Nat} (h : a ≤ b) : cb F a ≤ cb F b := by
  induction b with
  | zero => rw [show a = 0 by omega]; exact Nat.le_refl _
  | succ b ih =>
    by_cases z : a = b + 1
    · rw [z]; exact Nat.le_refl _
    · have := ih (by omega)
      have e : cb F (b + 1) = cb F b + (if F.testBit b = true then 1 else 0) := rfl
      omega
theorem cb_lt {F a b : Nat} (h : a < b) (ha : F.testBit a = true) : cb F a < cb F b := by
  have h1 : cb F (a + 1) ≤ cb F b := cb_mono F h
  have e : cb F (a + 1) = cb F a + (if F.testBit a = true then 1 else 0) := rfl
  rw [if_pos ha] at e
  omega
theorem kb_cb {F k : Nat} : ∀ (r i w : Nat), kb F k r i (cb F i) = some w → F.testBit w = true ∧ cb F w = k ∧ w < i + r := by
  intro r
  induction r with
  | zero => intro i w h; cases h
  | succ r ih =>
    intro i w h
    rw [kb] at h
    have e : cb F (i + 1) = cb F i + (if F.testBit i = true then 1 else 0) := rfl
    by_cases z : F.testBit i = true
    · rw [if_pos z] at h e
      by_cases y : cb F i = k
      · rw [if_pos y] at h; cases h; exact ⟨z, y, by omega⟩
      · rw [if_neg y, ← e] at h
        obtain ⟨a1, a2, a3⟩ := ih _ _ h
        exact ⟨a1, a2, by omega⟩
    · rw [if_neg z] at h e
      have e' : cb F (i + 1) = cb F i := e
      rw [← e'] at h
      obtain ⟨a1, a2, a3⟩ := ih _ _ h
      exact ⟨a1, a2, by omega⟩
theorem kb_no {F k : Nat} : ∀ (r i : Nat), kb F k r i (cb F i) = none → k < cb F i ∨ cb F (i + r) ≤ k := by
  intro r
  induction r with
  | zero => intro i _; by_cases z : k < cb F i; exact Or.inl z; exact Or.inr (by rw [Nat.add_zero]; omega)
  | succ r ih =>
    intro i h
    rw [kb] at h
    have e : cb F (i + 1) = cb F i + (if F.testBit i = true then 1 else 0) := rfl
    by_cases z : F.testBit i = true
    · rw [if_pos z] at h e
      by_cases y : cb F i = k
      · rw [if_pos y] at h; cases h
      · rw [if_neg y, ← e] at h
        rcases ih _ h with x | x
        · left; omega
        · right; rw [show i + (r + 1) = i + 1 + r by omega]; exact x
    · rw [if_neg z] at h e
      have e' : cb F (i + 1) = cb F i := e
      rw [← e'] at h
      rcases ih _ h with x | x
      · left; omega
      · right; rw [show i + (r + 1) = i + 1 + r by omega]; exact x
theorem kb_cut {F k B : Nat} (hF : F < 2 ^ B) : ∀ (r i seen t : Nat), i + r = B → kb F k (r + t) i seen = kb F k r i seen := by
  intro r
  induction r with
  | zero =>
    intro i seen t e
    rw [Nat.zero_add]
    exact kb_high t i seen (fun j hj => Nat.testBit_lt_two_pow (Nat.lt_of_lt_of_le hF (Nat.pow_le_pow_right (n := 2) (by decide) (by omega))))
  | succ r ih =>
    intro i seen t e
    rw [show r + 1 + t = (r + t) + 1 by omega, kb, kb]
    by_cases z : F.testBit i = true
    · rw [if_pos z, if_pos z]
      by_cases y : seen = k
      · rw [if_pos y, if_pos y]
      · rw [if_neg y, if_neg y, ih (i + 1) (seen + 1) t (by omega)]
    · rw [if_neg z, if_neg z, ih (i + 1) seen t (by omega)]
theorem c_bitAtB {N : Nat} {h : HS} (hN : 100 ≤ N) {F k B : Nat} (hB : B ≤ 31) (hF : F < 2 ^ B) (hF2 : F < 2 ^ 31) (hk : k < 2 ^ 31) : X10_bitAt N h (nI F) (nI k) = some (oI (kb F k B 0 0)) := by
  have key : ∀ (r i fu seen : Nat), i + r = 31 → r < fu → seen ≤ i → X10_bitAt_l4 N h fu (nI F) (nI k) (nI seen) (nI i) = some (oI (kb F k r i seen)) := by
    intro r
    induction r with
    | zero =>
      intro i fu seen e hf hs
      obtain ⟨fu, rfl, _⟩ := fuel hf
      rw [X10_bitAt_l4, if_pos (show (31 : Int32) ≤ nI i from nI_le (a := 31) (by omega) (by omega))]
      rfl
    | succ r ih =>
      intro i fu seen e hf hs
      obtain ⟨fu, rfl, _⟩ := fuel hf
      rw [X10_bitAt_l4, if_neg (show ¬ (31 : Int32) ≤ nI i from nI_ge (b := 31) (by omega) (by decide)), bi_n (by omega) (by omega), kb]
      simp only [nB_0]
      by_cases z : F.testBit i = true
      · rw [if_neg (fun w => w z), if_pos z]
        by_cases y : seen = k
        · rw [if_pos (by rw [y]), if_pos y]; rfl
        · rw [if_neg (fun w => y ((nI_eq (by omega) hk).mp w)), if_neg y, nI_1, nI_1]
          exact ih (i + 1) fu (seen + 1) (by omega) (by omega) (by omega)
      · rw [if_pos z, if_neg z, nI_1]
        exact ih (i + 1) fu seen (by omega) (by omega) (by omega)
  have := key 31 0 N 0 (by omega) (by omega) (by omega)
  unfold X10_bitAt
  rw [show X10_bitAt_l4 N h N (nI F) (nI k) 0 0 = _ from this]
  rw [show (31 : Nat) = B + (31 - B) by omega, kb_cut hF B 0 0 (31 - B) (by omega)]
/-- the first tune's notes -/
abbrev pkP (d : Nat) (A : Nat → Nat → Bool) (B b u n : Nat) : Bool := decide (nr d u n ∧ A b n = true ∧ GG d A B (B - (b + 1)) n ≠ 0)
def pkN (d : Nat) (A : Nat → Nat → Bool) (B b u : Nat) : Nat := match zf (pkP d A B b u) 10 0 with | some n => n | none => 0
def ft (d : Nat) (A : Nat → Nat → Bool) (B : Nat) : Nat → Nat
  | 0 => pkN d A B 0 0
  | b + 1 => pkN d A B (b + 1) (ft d A B b)
abbrev pvN (d : Nat) (A : Nat → Nat → Bool) (B b : Nat) : Nat := if b = 0 then 0 else ft d A B (b - 1)
section FIR
variable {d : Nat} {A : Nat → Nat → Bool} {B : Nat}
theorem ft_eq (b : Nat) : ft d A B b = pkN d A B b (pvN d A B b) := by
  cases b with
  | zero => rfl
  | succ b => rfl
theorem ft_step {b : Nat} (hb : b < B) (h : GG d A B (B - b) (pvN d A B b) ≠ 0) : zf (pkP d A B b (pvN d A B b)) 10 0 = some (ft d A B b) ∧ nr d (pvN d A B b) (ft d A B b) ∧ A b (ft d A B b) = true ∧ GG d A B (B - (b + 1)) (ft d A B b) ≠ 0 ∧ ft d A B b < 10 := by
  rw [show B - b = (B - (b + 1)) + 1 by omega, GG, show B - 1 - (B - (b + 1)) = b by omega] at h
  obtain ⟨m, hm, h2⟩ := (sNt_ne 10).mp h
  have hm2 : nr d (pvN d A B b) m ∧ A b m = true := by
    by_cases z : nr d (pvN d A B b) m ∧ A b m = true
    · exact z
    · rw [if_neg z] at h2; exact absurd rfl h2
  rw [if_pos hm2] at h2
  rcases zf_spec (P := pkP d A B b (pvN d A B b)) 10 0 with ⟨a1, a2⟩ | ⟨s, a1, a2, a3, a4, a5⟩
  · exact absurd (decide_eq_true ⟨hm2.1, hm2.2, h2⟩) (a2 m (Nat.zero_le _) (by omega))
  · have e : ft d A B b = s := by rw [ft_eq, pkN, a1]
    rw [e]
    obtain ⟨b1, b2, b3⟩ := of_decide_eq_true a4
    exact ⟨a1, b1, b2, b3, by omega⟩
theorem ft_ok (h : GG d A B B 0 ≠ 0) : ∀ b, b ≤ B → GG d A B (B - b) (pvN d A B b) ≠ 0 := by
  intro b
  induction b with
  | zero => intro _; rw [Nat.sub_zero, pvN, if_pos rfl]; exact h
  | succ b ih =>
    intro hb
    have := (ft_step (by omega) (ih (by omega))).2.2.2.1
    rw [pvN, if_neg (by omega), Nat.add_sub_cancel]
    exact this
end FIR
section LEA
variable {N : Nat} {p : Nat} {D fx : Nat → Nat} {h : HS}
abbrev AF (D : Nat → Nat) : Nat → Nat → Bool := AC D (frD D)
abbrev fD (D : Nat → Nat) (b : Nat) : Nat := ft (D 3) (AF D) (D 1) b
def fxI (D : Nat → Nat) (i b : Nat) : Nat := if (D 4).testBit b = true ∧ cb (D 4) b < i then fD D b else frD D b
theorem AF_snd {b n : Nat} (hs : snd D b) (h : AF D b n = true) : 1 ≤ n := by
  rw [AF, AC, if_pos hs] at h
  exact (of_decide_eq_true h).1
theorem tot_fx (hG : GG (D 3) (AF D) (D 1) (D 1) 0 ≠ 0) {i w x : Nat} (hw : w < D 1) (hs : (D 4).testBit w = true) (hc : cb (D 4) w = i) (hx : x < 10) : tot D (fxI D i) w x = if nr (D 3) (pvN (D 3) (AF D) (D 1) w) x ∧ AF D w x = true then GG (D 3) (AF D) (D 1) (D 1 - (w + 1)) x else 0 := by
  have lo : ∀ b, b < w → ∀ n, (fixA (AC D (fxI D i)) w x b n = true ↔ n = fD D b) := by
    intro b hb n
    obtain ⟨_, _, f3, _, f5⟩ := ft_step (show b < D 1 by omega) (ft_ok hG b (by omega))
    have e : fixA (AC D (fxI D i)) w x b n = AC D (fxI D i) b n := by unfold fixA; simp [show b ≠ w by omega]
    rw [e]
    by_cases z : (D 4).testBit b = true
    · have h1 : 1 ≤ fD D b := AF_snd (Or.inl z) f3
      have e1 : fxI D i b = fD D b := if_pos ⟨z, by rw [← hc]; exact cb_lt hb z⟩
      rw [AC, if_pos (Or.inl z), e1, decide_eq_true_iff]
      omega
    · have e1 : fxI D i b = frD D b := if_neg (fun y => z y.1)
      have e2 : frD D b = D (17 + 4 * b) := if_neg z
      have f3' : AC D (frD D) b (fD D b) = true := f3
      by_cases y : snd D b
      · have y2 : D (17 + 4 * b) ≠ 0 := by rcases y with y | y; exact absurd y z; exact y
        rw [AC, if_pos y, decide_eq_true_iff, e2] at f3'
        rw [AC, if_pos y, e1, decide_eq_true_iff, e2]
        omega
      · rw [AC, if_neg y, decide_eq_true_iff] at f3'
        rw [AC, if_neg y, decide_eq_true_iff]
        omega
  have ow := one_way (d := D 3) (A := fixA (AC D (fxI D i)) w x) (B := D 1) (w := w) (t := fD D) (by omega) (fun b hb => ⟨(lo b hb _).mpr rfl, (ft_step (show b < D 1 by omega) (ft_ok hG b (by omega))).2.2.2.2, fun n hn => (lo b hb n).mp hn⟩) (fun b hb => (ft_step (show b < D 1 by omega) (ft_ok hG b (by omega))).2.1) w (Nat.le_refl w)
  unfold tot
  rw [ow, show D 1 - w = (D 1 - (w + 1)) + 1 by omega, GG, show D 1 - 1 - (D 1 - (w + 1)) = w by omega]
  have ew : fxI D i w = frD D w := if_neg (fun y => by have := y.2; omega)
  have ex : ∀ m, fixA (AC D (fxI D i)) w x w m = true → m = x := by
    intro m hm
    unfold fixA at hm
    simp at hm
    exact hm.2
  rw [sNt_one x 10 hx (fun m _ hm => if_neg (fun y => hm (ex m y.2)))]
  have e3 : fixA (AC D (fxI D i)) w x w x = AF D w x := by
    unfold fixA AF AC
    rw [ew]
    simp
  rw [e3, GG_congr (A := AF D) (D 1 - (w + 1)) (fun b h1 h2 n => by
    have e4 : fxI D i b = frD D b := if_neg (fun y => by have := cb_mono (D 4) (show w ≤ b by omega); have := y.2; omega)
    unfold fixA AF AC
    rw [e4]
    simp [show b ≠ w by omega]) (by omega) x]
theorem lo_fx (hG : GG (D 3) (AF D) (D 1) (D 1) 0 ≠ 0) {i w : Nat} (hw : w < D 1) (hs : (D 4).testBit w = true) (hc : cb (D 4) w = i) : loO D (fxI D i) w = some (fD D w) := by
  obtain ⟨f1, _⟩ := ft_step hw (ft_ok hG w (by omega))
  rw [zf_neg (by
    intro z
    have := AF_snd (Or.inl hs) (of_decide_eq_true z).2.1
    omega)] at f1
  rw [← f1]
  have e : ∀ (r x : Nat), x + r ≤ 10 → zf (fun x => decide (tot D (fxI D i) w x ≠ 0)) r x = zf (pkP (D 3) (AF D) (D 1) w (pvN (D 3) (AF D) (D 1) w)) r x := by
    intro r
    induction r with
    | zero => intro x _; rfl
    | succ r ih =>
      intro x hx
      have ee : decide (tot D (fxI D i) w x ≠ 0) = pkP (D 3) (AF D) (D 1) w (pvN (D 3) (AF D) (D 1) w) x := by
        rw [tot_fx hG hw hs hc (by omega)]
        apply decide_eq_decide.mpr
        by_cases z : nr (D 3) (pvN (D 3) (AF D) (D 1) w) x ∧ AF D w x = true
        · rw [if_pos z]; exact ⟨fun y => ⟨z.1, z.2, y⟩, fun y => y.2.2⟩
        · rw [if_neg z]; exact ⟨fun y => absurd rfl y, fun y => absurd ⟨y.1, y.2.1⟩ z⟩
      rw [zf, zf, ee, ih (x + 1) (by omega)]
  exact e 9 1 (by omega)
end LEA
