/-! ===== level 2: text: tokens ===== -/
def rn (P : Nat → Bool) : Nat → Nat → Nat
  | 0, p => p
  | r + 1, p => if P p = true then rn P r (p + 1) else p
theorem rnr_le {P : Nat → Bool} : ∀ r p, p ≤ rn P r p ∧ rn P r p ≤ p + r := by
  intro r
  induction r with
  | zero => intro p; exact ⟨Nat.le_refl _, Nat.le_refl _⟩
  | succ r ih =>
    intro p
    rw [rn]
    by_cases z : P p = true
    · rw [if_pos z]; have := ih (p + 1); omega
    · rw [if_neg z]; omega
theorem rnr_all {P : Nat → Bool} : ∀ r p j, p ≤ j → j < rn P r p → P j = true := by
  intro r
  induction r with
  | zero => intro p j h1 h2; rw [rn] at h2; omega
  | succ r ih =>
    intro p j h1 h2
    rw [rn] at h2
    by_cases z : P p = true
    · rw [if_pos z] at h2
      by_cases e : j = p
      · rw [e]; exact z
      · exact ih (p + 1) j (by omega) h2
    · rw [if_neg z] at h2; omega
abbrev isBl (t : Nat → Nat) (p : Nat) : Bool := decide (t p = 10 ∨ t p = 32)
abbrev isLe (t : Nat → Nat) (p : Nat) : Bool := decide (97 ≤ t p ∧ t p ≤ 122)
abbrev isDi (t : Nat → Nat) (p : Nat) : Bool := decide (48 ≤ t p ∧ t p ≤ 57)
def skp (t : Nat → Nat) (z p : Nat) : Nat := rn (isBl t) (z - p) p
def ten (t : Nat → Nat) (z s : Nat) : Nat := if z ≤ s then s else if isLe t s = true then rn (isLe t) (z - s) s else if isDi t s = true then rn (isDi t) (z - s) s else s + 1
def tkc (t : Nat → Nat) (z s : Nat) : Nat := if z ≤ s then 0 else if isLe t s = true then 1 else if isDi t s = true then (if ten t z s - s ≤ 2 then 2 else 4) else if t s = 59 then 3 else 4
def vlN (t : Nat → Nat) (n s : Nat) : Nat := if n = 0 then 0 else if n = 1 then t s - 48 else 10 * (t s - 48) + (t (s + 1) - 48)
def val (t : Nat → Nat) (z s : Nat) : Nat := vlN t (ten t z s - s) s
def nxt (t : Nat → Nat) (z s : Nat) : Nat := skp t z (ten t z s)
section TOK
variable {t : Nat → Nat} {z : Nat}
theorem skp_in {p : Nat} (h : p ≤ z) : p ≤ skp t z p ∧ skp t z p ≤ z := by
  have := rnr_le (P := isBl t) (z - p) p
  unfold skp
  omega
theorem ten_in {s : Nat} (h : s < z) : s < ten t z s ∧ ten t z s ≤ z := by
  unfold ten
  rw [if_neg (by omega)]
  have key : ∀ P : Nat → Bool, P s = true → s < rn P (z - s) s ∧ rn P (z - s) s ≤ z := by
    intro P hP
    rw [show z - s = (z - s - 1) + 1 by omega, rn, if_pos hP]
    have := rnr_le (P := P) (z - s - 1) (s + 1)
    omega
  by_cases a : isLe t s = true
  · rw [if_pos a]; exact key _ a
  · rw [if_neg a]
    by_cases b : isDi t s = true
    · rw [if_pos b]; exact key _ b
    · rw [if_neg b]; omega
theorem ten_le {s : Nat} (h : s ≤ z) : s ≤ ten t z s ∧ ten t z s ≤ z := by
  by_cases e : s = z
  · unfold ten; rw [if_pos (by omega)]; omega
  · have := ten_in (t := t) (z := z) (s := s) (by omega); omega
theorem nxt_in {s : Nat} (h : s < z) : s < nxt t z s ∧ nxt t z s ≤ z := by
  have h1 := ten_in (t := t) h
  have h2 := skp_in (t := t) (z := z) (p := ten t z s) (by omega)
  unfold nxt
  omega
theorem nxt_le {s : Nat} (h : s ≤ z) : s ≤ nxt t z s ∧ nxt t z s ≤ z := by
  have h1 := ten_le (t := t) h
  have h2 := skp_in (t := t) (z := z) (p := ten t z s) (by omega)
  unfold nxt
  omega
theorem tkc_0 {s : Nat} (h : s ≤ z) : tkc t z s = 0 ↔ s = z := by
  unfold tkc
  constructor
  · intro e
    by_cases a : z ≤ s
    · omega
    · rw [if_neg a] at e
      by_cases b : isLe t s = true
      · rw [if_pos b] at e; omega
      · rw [if_neg b] at e
        by_cases c : isDi t s = true
        · rw [if_pos c] at e
          by_cases d : ten t z s - s ≤ 2
          · rw [if_pos d] at e; omega
          · rw [if_neg d] at e; omega
        · rw [if_neg c] at e
          by_cases d : t s = 59
          · rw [if_pos d] at e; omega
          · rw [if_neg d] at e; omega
  · intro e; rw [if_pos (by omega)]
theorem tkc_lt (s : Nat) : tkc t z s ≤ 4 := by
  unfold tkc
  by_cases a : z ≤ s
  · rw [if_pos a]; omega
  · rw [if_neg a]
    by_cases b : isLe t s = true
    · rw [if_pos b]; omega
    · rw [if_neg b]
      by_cases c : isDi t s = true
      · rw [if_pos c]
        by_cases d : ten t z s - s ≤ 2
        · rw [if_pos d]; omega
        · rw [if_neg d]; omega
      · rw [if_neg c]
        by_cases d : t s = 59
        · rw [if_pos d]; omega
        · rw [if_neg d]; omega
theorem tkc_2 {s : Nat} (h : tkc t z s = 2) : s < z ∧ isDi t s = true ∧ ten t z s - s ≤ 2 := by
  unfold tkc at h
  by_cases a : z ≤ s
  · rw [if_pos a] at h; omega
  · rw [if_neg a] at h
    by_cases b : isLe t s = true
    · rw [if_pos b] at h; omega
    · rw [if_neg b] at h
      by_cases c : isDi t s = true
      · rw [if_pos c] at h
        by_cases d : ten t z s - s ≤ 2
        · exact ⟨by omega, c, d⟩
        · rw [if_neg d] at h; omega
      · rw [if_neg c] at h
        by_cases d : t s = 59
        · rw [if_pos d] at h; omega
        · rw [if_neg d] at h; omega
theorem tkc_1 {s : Nat} (h : tkc t z s = 1) : s < z ∧ isLe t s = true := by
  unfold tkc at h
  by_cases a : z ≤ s
  · rw [if_pos a] at h; omega
  · rw [if_neg a] at h
    by_cases b : isLe t s = true
    · exact ⟨by omega, b⟩
    · rw [if_neg b] at h
      by_cases c : isDi t s = true
      · rw [if_pos c] at h
        by_cases d : ten t z s - s ≤ 2
        · rw [if_pos d] at h; omega
        · rw [if_neg d] at h; omega
      · rw [if_neg c] at h
        by_cases d : t s = 59
        · rw [if_pos d] at h; omega
        · rw [if_neg d] at h; omega
theorem le_di {s : Nat} (h : isLe t s = true) : isDi t s = false := by
  have := of_decide_eq_true h
  exact decide_eq_false (by omega)
theorem ten_dig {s : Nat} (h : s < z) (d : isDi t s = true) : ten t z s = rn (isDi t) (z - s) s := by
  unfold ten
  have : ¬ isLe t s = true := fun e => by rw [le_di e] at d; exact Bool.noConfusion d
  rw [if_neg (by omega), if_neg this, if_pos d]
theorem ten_let {s : Nat} (h : s < z) (d : isLe t s = true) : ten t z s = rn (isLe t) (z - s) s := by
  unfold ten
  rw [if_neg (by omega), if_pos d]
theorem val_lt {s : Nat} (h : tkc t z s = 2) : val t z s ≤ 99 := by
  obtain ⟨h1, h2, h3⟩ := tkc_2 h
  have h4 := ten_in (t := t) h1
  have d0 := of_decide_eq_true h2
  unfold val vlN
  rw [if_neg (by omega)]
  by_cases e : ten t z s - s = 1
  · rw [if_pos e]; omega
  · rw [if_neg e]
    have h5 : isDi t (s + 1) = true := rnr_all (P := isDi t) (z - s) s (s + 1) (by omega) (by rw [← ten_dig h1 h2]; omega)
    have d1 := of_decide_eq_true h5
    omega
end TOK
/-! the class's tape and token -/
def CTp (h : HS) (t : Nat → Nat) (z : Nat) : Prop := z ≤ 600 ∧ (∀ i, t i < 256) ∧ h.2 156 = 3 ∧ h.1 156 5 = nI z ∧ ∀ i, i < z → (h.1 3 i) &&& 255 = nI (t i)
def CTok (h : HS) (t : Nat → Nat) (z s : Nat) : Prop := CTp h t z ∧ s ≤ z ∧ h.1 156 7 = nI s ∧ h.1 156 8 = nI (ten t z s) ∧ h.1 156 6 = nI (tkc t z s) ∧ (tkc t z s = 2 → h.1 156 9 = nI (val t z s))
def CAf (h h' : HS) : Prop := (∀ k, k ≠ 156 → h'.1 k = h.1 k) ∧ h'.2 = h.2 ∧ (∀ j, j < 6 → h'.1 156 j = h.1 156 j)
theorem CAf.refl (h : HS) : CAf h h := ⟨fun _ _ => rfl, rfl, fun _ _ => rfl⟩
theorem CAf.trans {a b c : HS} (x : CAf a b) (y : CAf b c) : CAf a c := ⟨fun k hk => (y.1 k hk).trans (x.1 k hk), y.2.1.trans x.2.1, fun j hj => (y.2.2 j hj).trans (x.2.2 j hj)⟩
theorem CAf_wi {h h' : HS} (x : CAf h h') {j : Nat} (hj : 6 ≤ j) (v : Int32) : CAf h (wi h' 156 j v) := ⟨fun k hk => by rw [wi_k _ _ hk]; exact x.1 k hk, x.2.1, fun i hi => by rw [wi_j _ _ (by omega)]; exact x.2.2 i hi⟩
theorem CTp_f {h h' : HS} {t : Nat → Nat} {z : Nat} (c : CTp h t z) (f : CAf h h') : CTp h' t z := ⟨c.1, c.2.1, by rw [f.2.1]; exact c.2.2.1, by rw [f.2.2 5 (by decide)]; exact c.2.2.2.1, by rw [f.1 3 (by decide)]; exact c.2.2.2.2⟩
theorem ln3 : ln 3 = 600 := by decide +kernel
section CTK
variable {N : Nat} {h : HS} {t : Nat → Nat} {z : Nat}
theorem c_byte (c : CTp h t z) {p : Nat} (hp : p < z) : X4_byteAt N h 156 (nI p) = some (nI (t p)) := by
  obtain ⟨c1, c2, c3, c4, c5⟩ := c
  unfold X4_byteAt
  rw [c3, c4, if_neg (by decide), if_neg (nI_pos (by omega)), if_neg (nI_ge hp (by omega)), if_neg (by decide), ln3, if_neg (nI_ge (by omega) (by decide)), if_neg (by decide), if_neg (nI_in (by omega) (by decide)), nI_clamp (by omega), c5 p hp]
theorem c_byteN (c : CTp h t z) {p : Nat} (hp : z ≤ p) (hp2 : p < 2 ^ 31) : X4_byteAt N h 156 (nI p) = some (-1) := by
  obtain ⟨c1, c2, c3, c4, c5⟩ := c
  unfold X4_byteAt
  rw [c3, c4, if_neg (by decide), if_neg (nI_pos (by omega)), if_pos (nI_le hp hp2)]
theorem c_let {v : Nat} (hv : v < 2 ^ 31) : X4_isLetter N h (nI v) = some (nB (97 ≤ v ∧ v ≤ 122)) := by
  unfold X4_isLetter
  by_cases a : v < 97
  · rw [if_pos (show nI v < 97 from nI_lt (b := 97) a (by decide)), nz_0, nB_f (by omega)]
  · rw [if_neg (show ¬ nI v < 97 from nI_nlt (b := 97) (by omega) hv)]
    by_cases b : 122 < v
    · rw [if_pos (show (122 : Int32) < nI v from nI_lt (a := 122) b hv), nz_0, nB_f (by omega)]
    · rw [if_neg (show ¬ (122 : Int32) < nI v from nI_nlt (a := 122) (b := v) (by omega) (by decide)), nz_1, nB_t (by omega)]
theorem c_dig {v : Nat} (hv : v < 2 ^ 31) : X4_isDigit N h (nI v) = some (nB (48 ≤ v ∧ v ≤ 57)) := by
  unfold X4_isDigit
  by_cases a : v < 48
  · rw [if_pos (show nI v < 48 from nI_lt (b := 48) a (by decide)), nz_0, nB_f (by omega)]
  · rw [if_neg (show ¬ nI v < 48 from nI_nlt (b := 48) (by omega) hv)]
    by_cases b : 57 < v
    · rw [if_pos (show (57 : Int32) < nI v from nI_lt (a := 57) b hv), nz_0, nB_f (by omega)]
    · rw [if_neg (show ¬ (57 : Int32) < nI v from nI_nlt (a := 57) (b := v) (by omega) (by decide)), nz_1, nB_t (by omega)]
theorem nI_ne {a b : Nat} (h : a ≠ b) (h1 : a < 2 ^ 31) (h2 : b < 2 ^ 31) : ¬ nI a = nI b := fun e => h ((nI_eq h1 h2).mp e)
/-- words -/
theorem c_l111 (hN : 2000 ≤ N) : ∀ (r p fu : Nat) (h : HS), p + r = z → r < fu → CTp h t z → h.1 156 8 = nI p → ∃ h', X4_advance_l111 N fu h 156 = some h' ∧ CAf h h' ∧ h'.1 156 8 = nI (rn (isLe t) r p) ∧ h'.1 156 6 = h.1 156 6 ∧ h'.1 156 7 = h.1 156 7 := by
  intro r
  induction r with
  | zero =>
    intro p fu h e hf c e8
    obtain ⟨fu, rfl, _⟩ := fuel hf
    have hz := c.1
    rw [X4_advance_l111, c.2.2.2.1, e8, if_pos (nI_le (by omega) (by omega))]
    exact ⟨h, rfl, CAf.refl h, e8, rfl, rfl⟩
  | succ r ih =>
    intro p fu h e hf c e8
    obtain ⟨fu, rfl, _⟩ := fuel hf
    have hz := c.1
    have ht := c.2.1 p
    rw [X4_advance_l111, c.2.2.2.1, e8, if_neg (nI_ge (by omega) (by omega)), c_byte c (by omega), bd1_some, c_let (by omega), bd1_some, rn]
    by_cases y : 97 ≤ t p ∧ t p ≤ 122
    · rw [nB_t y, if_neg one0, sq_eq, nI_1, if_pos (show isLe t p = true from decide_eq_true y)]
      have f1 := CAf_wi (CAf.refl h) (j := 8) (by decide) (nI (p + 1))
      obtain ⟨h', a1, a2, a3, a4, a5⟩ := ih (p + 1) fu _ (by omega) (by omega) (CTp_f c f1) (wi_s _ _ _ _)
      exact ⟨h', a1, CAf.trans f1 a2, a3, by rw [a4, wi_j _ _ (by decide)], by rw [a5, wi_j _ _ (by decide)]⟩
    · rw [nB_f y, if_pos rfl, if_neg (show ¬ isLe t p = true from fun w => y (of_decide_eq_true w))]
      exact ⟨h, rfl, CAf.refl h, e8, rfl, rfl⟩
/-- numbers -/
theorem c_l156 (hN : 2000 ≤ N) {s : Nat} (hs : s < z) : ∀ (r p fu : Nat) (h : HS), p + r = z → s ≤ p → r < fu → CTp h t z → h.1 156 7 = nI s → h.1 156 8 = nI p → (p - s ≤ 2 → h.1 156 9 = nI (vlN t (p - s) s)) → (∀ j, s ≤ j → j < p → isDi t j = true) →
    ∃ h', X4_advance_l156 N fu h 156 = some h' ∧ CAf h h' ∧ h'.1 156 7 = nI s ∧ h'.1 156 8 = nI (rn (isDi t) r p) ∧ h'.1 156 6 = nI (if rn (isDi t) r p - s ≤ 2 then 2 else 4) ∧ (rn (isDi t) r p - s ≤ 2 → h'.1 156 9 = nI (vlN t (rn (isDi t) r p - s) s)) := by
  have fin : ∀ (p : Nat) (h : HS), s ≤ p → p ≤ 600 → h.1 156 7 = nI s → h.1 156 8 = nI p → (p - s ≤ 2 → h.1 156 9 = nI (vlN t (p - s) s)) → ∃ h', X4_advance_b223 N h 156 = some h' ∧ CAf h h' ∧ h'.1 156 7 = nI s ∧ h'.1 156 8 = nI p ∧ h'.1 156 6 = nI (if p - s ≤ 2 then 2 else 4) ∧ (p - s ≤ 2 → h'.1 156 9 = nI (vlN t (p - s) s)) := by
    intro p h hp hp2 e7 e8 e9
    unfold X4_advance_b223
    rw [e7, e8, pk_sub hp]
    by_cases y : p - s ≤ 2
    · rw [if_neg (show ¬ (2 : Int32) < nI (p - s) from nI_nlt (a := 2) (b := p - s) y (by decide)), sq_eq, if_pos y]
      exact ⟨_, rfl, CAf_wi (CAf.refl h) (by decide) _, by rw [wi_j _ _ (by decide)]; exact e7, by rw [wi_j _ _ (by decide)]; exact e8, wi_s _ _ _ _, fun w => by rw [wi_j _ _ (by decide)]; exact e9 w⟩
    · rw [if_pos (show (2 : Int32) < nI (p - s) from nI_lt (a := 2) (by omega) (by omega)), sq_eq, if_neg y]
      exact ⟨_, rfl, CAf_wi (CAf.refl h) (by decide) _, by rw [wi_j _ _ (by decide)]; exact e7, by rw [wi_j _ _ (by decide)]; exact e8, wi_s _ _ _ _, fun w => absurd w y⟩
  intro r
  induction r with
  | zero =>
    intro p fu h e hp hf c e7 e8 e9 ed
    obtain ⟨fu, rfl, _⟩ := fuel hf
    have hz := c.1
    rw [X4_advance_l156, c.2.2.2.1, show h.1 156 8 = _ from e8, if_pos (nI_le (by omega) (by omega)), rn]
    exact fin p h hp (by omega) e7 e8 e9
  | succ r ih =>
    intro p fu h e hp hf c e7 e8 e9 ed
    obtain ⟨fu, rfl, _⟩ := fuel hf
    have hz := c.1
    have ht := c.2.1 p
    rw [X4_advance_l156, c.2.2.2.1, e8, if_neg (nI_ge (by omega) (by omega)), c_byte c (by omega), bd1_some, c_dig (by omega), bd1_some, rn]
    by_cases y : 48 ≤ t p ∧ t p ≤ 57
    · rw [nB_t y, if_neg one0, bd1_some, sq_eq, if_pos (show isDi t p = true from decide_eq_true y)]
      have f1 := CAf_wi (CAf.refl h) (j := 9) (by decide) (if h.1 156 9 * 10 + nI (t p) - 48 < 999 then h.1 156 9 * 10 + nI (t p) - 48 else 999)
      rw [sq_eq, show (wi h 156 9 (if h.1 156 9 * 10 + nI (t p) - 48 < 999 then h.1 156 9 * 10 + nI (t p) - 48 else 999)).1 156 8 = nI p by rw [wi_j _ _ (by decide)]; exact e8, nI_1]
      have f2 := CAf_wi f1 (j := 8) (by decide) (nI (p + 1))
      obtain ⟨h', a1, a2, a3⟩ := ih (p + 1) fu _ (by omega) (by omega) (by omega) (CTp_f c f2) (by rw [wi_j _ _ (by decide), wi_j _ _ (by decide)]; exact e7) (wi_s _ _ _ _) (by
        intro w
        rw [wi_j _ _ (by decide), wi_s, e9 (by omega)]
        have d0 : p - s = 0 ∨ (p - s = 1 ∧ 48 ≤ t s ∧ t s ≤ 57) := by
          by_cases u : p - s = 0
          · exact Or.inl u
          · exact Or.inr ⟨by omega, of_decide_eq_true (ed s (Nat.le_refl _) (by omega))⟩
        rcases d0 with d0 | ⟨d1, d2⟩
        · have ep : p = s := by omega
          subst ep
          rw [d0, show vlN t 0 p = 0 from rfl, show nI 0 * 10 + nI (t p) - 48 = nI (t p - 48) by rw [show nI 0 * 10 = nI 0 from rfl, nI_add, Nat.zero_add, zn48, pk_sub (by omega)], if_pos (show nI (t p - 48) < 999 from nI_lt (b := 999) (by omega) (by decide)), show p + 1 - p = 1 by omega]
          rfl
        · have ep : p = s + 1 := by omega
          subst ep
          rw [d1, show vlN t 1 s = t s - 48 from rfl, show nI (t s - 48) * 10 + nI (t (s + 1)) - 48 = nI (10 * (t s - 48) + (t (s + 1) - 48)) by rw [zn10, pk_mul, nI_add, zn48, pk_sub (by omega)]; congr 1; omega, if_pos (show nI (10 * (t s - 48) + (t (s + 1) - 48)) < 999 from nI_lt (b := 999) (by omega) (by decide)), show s + 1 + 1 - s = 2 by omega]
          rfl) (by
        intro j j1 j2
        by_cases u : j = p
        · rw [u]; exact decide_eq_true y
        · exact ed j j1 (by omega))
      exact ⟨h', a1, CAf.trans f2 a2, a3⟩
    · rw [nB_f y, if_pos rfl, if_neg (show ¬ isDi t p = true from fun w => y (of_decide_eq_true w))]
      exact fin p h hp (by omega) e7 e8 e9
theorem c_b58 (hN : 2000 ≤ N) {s : Nat} (c : CTp h t z) (hs : s ≤ z) (e7 : h.1 156 7 = nI s) : ∃ h', X4_advance_b58 N h 156 = some h' ∧ CTok h' t z s ∧ CAf h h' := by
  have hz := c.1
  have ht := c.2.1 s
  unfold X4_advance_b58
  rw [sq_eq, sq_eq, e7]
  have f1 := CAf_wi (CAf_wi (CAf.refl h) (j := 8) (by decide) (nI s)) (j := 9) (by decide) 0
  have c1 := CTp_f c f1
  have x7 : (wi (wi h 156 8 (nI s)) 156 9 0).1 156 7 = nI s := by rw [wi_j _ _ (by decide), wi_j _ _ (by decide)]; exact e7
  have x8 : (wi (wi h 156 8 (nI s)) 156 9 0).1 156 8 = nI s := by rw [wi_j _ _ (by decide), wi_s]
  have x9 : (wi (wi h 156 8 (nI s)) 156 9 0).1 156 9 = nI 0 := wi_s _ _ _ _
  generalize wi (wi h 156 8 (nI s)) 156 9 0 = g at f1 c1 x7 x8 x9 ⊢
  rw [x7, c1.2.2.2.1]
  by_cases y : z ≤ s
  · have es : s = z := by omega
    rw [c_byteN c1 y (by omega), bd1_some, if_neg (nI_nlt y (by omega)), sq_eq]
    have et : ten t z s = s := by unfold ten; rw [if_pos y]
    have ek : tkc t z s = 0 := by unfold tkc; rw [if_pos y]
    refine ⟨_, rfl, ⟨CTp_f c1 (CAf_wi (CAf.refl g) (by decide) _), hs, by rw [wi_j _ _ (by decide)]; exact x7, by rw [wi_j _ _ (by decide), et]; exact x8, by rw [wi_s, ek]; rfl, fun w => by rw [ek] at w; omega⟩, CAf.trans f1 (CAf_wi (CAf.refl g) (by decide) _)⟩
  · rw [c_byte c1 (by omega), bd1_some, if_pos (nI_lt (by omega) (by omega)), c_let (by omega), bd1_some]
    by_cases a : 97 ≤ t s ∧ t s ≤ 122
    · have a' : isLe t s = true := decide_eq_true a
      have ek : tkc t z s = 1 := by unfold tkc; rw [if_neg y, if_pos a']
      rw [nB_t a, if_neg one0, sq_eq]
      obtain ⟨h', b1, b2, b3, b4, b5⟩ := c_l111 (N := N) (t := t) (z := z) hN (z - s) s N (wi g 156 6 1) (by omega) (by omega) (CTp_f c1 (CAf_wi (CAf.refl g) (by decide) _)) (by rw [wi_j _ _ (by decide)]; exact x8)
      have f2 := CAf.trans (CAf_wi (CAf.refl g) (j := 6) (by decide) 1) b2
      refine ⟨h', b1, ⟨CTp_f c1 f2, hs, by rw [b5, wi_j _ _ (by decide)]; exact x7, by rw [ten_let (by omega) a']; exact b3, by rw [b4, wi_s, ek]; rfl, fun w => by rw [ek] at w; omega⟩, CAf.trans f1 f2⟩
    · have a' : ¬ isLe t s = true := fun w => a (of_decide_eq_true w)
      rw [nB_f a, if_pos rfl, c_dig (by omega), bd1_some]
      by_cases b : 48 ≤ t s ∧ t s ≤ 57
      · have b' : isDi t s = true := decide_eq_true b
        rw [nB_t b, if_neg one0]
        obtain ⟨h', d1, d2, d3, d4, d5, d6⟩ := c_l156 (N := N) (t := t) (z := z) hN (s := s) (by omega) (z - s) s N g (by omega) (Nat.le_refl _) (by omega) c1 x7 x8 (fun _ => by rw [Nat.sub_self]; exact x9) (fun j j1 j2 => by omega)
        have et : ten t z s = rn (isDi t) (z - s) s := ten_dig (by omega) b'
        have ek : tkc t z s = if ten t z s - s ≤ 2 then 2 else 4 := by unfold tkc; rw [if_neg y, if_neg a', if_pos b']
        refine ⟨h', d1, ⟨CTp_f c1 d2, hs, d3, by rw [et]; exact d4, by rw [ek, et]; exact d5, fun w => ?_⟩, CAf.trans f1 d2⟩
        have := tkc_2 w
        unfold val
        rw [et]
        exact d6 (by rw [← et]; exact this.2.2)
      · have b' : ¬ isDi t s = true := fun w => b (of_decide_eq_true w)
        have et : ten t z s = s + 1 := by unfold ten; rw [if_neg y, if_neg a', if_neg b']
        rw [nB_f b, if_pos rfl]
        by_cases d : t s = 59
        · have ek : tkc t z s = 3 := by unfold tkc; rw [if_neg y, if_neg a', if_neg b', if_pos d]
          rw [if_pos (show nI (t s) = 59 by rw [d]; rfl), sq_eq, sq_eq, show (wi g 156 6 3).1 156 8 = nI s by rw [wi_j _ _ (by decide)]; exact x8, nI_1]
          have f2 := CAf_wi (CAf_wi (CAf.refl g) (j := 6) (by decide) 3) (j := 8) (by decide) (nI (s + 1))
          refine ⟨_, rfl, ⟨CTp_f c1 f2, hs, by rw [wi_j _ _ (by decide), wi_j _ _ (by decide)]; exact x7, by rw [wi_s, et], by rw [wi_j _ _ (by decide), wi_s, ek]; rfl, fun w => by rw [ek] at w; omega⟩, CAf.trans f1 f2⟩
        · have ek : tkc t z s = 4 := by unfold tkc; rw [if_neg y, if_neg a', if_neg b', if_neg d]
          rw [if_neg (show ¬ nI (t s) = 59 from nI_ne (b := 59) d (by omega) (by decide)), sq_eq, sq_eq, show (wi g 156 6 4).1 156 8 = nI s by rw [wi_j _ _ (by decide)]; exact x8, nI_1]
          have f2 := CAf_wi (CAf_wi (CAf.refl g) (j := 6) (by decide) 4) (j := 8) (by decide) (nI (s + 1))
          refine ⟨_, rfl, ⟨CTp_f c1 f2, hs, by rw [wi_j _ _ (by decide), wi_j _ _ (by decide)]; exact x7, by rw [wi_s, et], by rw [wi_j _ _ (by decide), wi_s, ek]; rfl, fun w => by rw [ek] at w; omega⟩, CAf.trans f1 f2⟩
theorem c_l8 (hN : 2000 ≤ N) : ∀ (r p fu : Nat) (h : HS), p + r = z → r < fu → CTp h t z → h.1 156 7 = nI p → ∃ h', X4_advance_l8 N fu h 156 = some h' ∧ CTok h' t z (rn (isBl t) r p) ∧ CAf h h' := by
  intro r
  induction r with
  | zero =>
    intro p fu h e hf c e7
    obtain ⟨fu, rfl, _⟩ := fuel hf
    have hz := c.1
    rw [X4_advance_l8, c.2.2.2.1, e7, if_pos (nI_le (by omega) (by omega)), rn]
    exact c_b58 hN c (by omega) e7
  | succ r ih =>
    intro p fu h e hf c e7
    obtain ⟨fu, rfl, _⟩ := fuel hf
    have hz := c.1
    have ht := c.2.1 p
    have f1 := CAf_wi (CAf.refl h) (j := 7) (by decide) (nI (p + 1))
    rw [X4_advance_l8, c.2.2.2.1, e7, if_neg (nI_ge (by omega) (by omega)), c_byte c (by omega), bd1_some, nI_1, rn]
    by_cases a : t p = 10
    · rw [if_pos (show nI (t p) = 10 by rw [a]; rfl), sq_eq, if_pos (show isBl t p = true from decide_eq_true (Or.inl a))]
      obtain ⟨h', b1, b2, b3⟩ := ih (p + 1) fu _ (by omega) (by omega) (CTp_f c f1) (wi_s _ _ _ _)
      exact ⟨h', b1, b2, CAf.trans f1 b3⟩
    · rw [if_neg (show ¬ nI (t p) = 10 from nI_ne (b := 10) a (by omega) (by decide)), bd1_some]
      by_cases b : t p = 32
      · rw [if_pos (show nI (t p) = 32 by rw [b]; rfl), sq_eq, if_pos (show isBl t p = true from decide_eq_true (Or.inr b))]
        obtain ⟨h', b1, b2, b3⟩ := ih (p + 1) fu _ (by omega) (by omega) (CTp_f c f1) (wi_s _ _ _ _)
        exact ⟨h', b1, b2, CAf.trans f1 b3⟩
      · rw [if_neg (show ¬ nI (t p) = 32 from nI_ne (b := 32) b (by omega) (by decide)), if_neg (show ¬ isBl t p = true from fun w => by have := of_decide_eq_true w; omega)]
        exact c_b58 hN c (by omega) e7
theorem c_adv0 (hN : 2000 ≤ N) {e : Nat} (c : CTp h t z) (he : e ≤ z) (e8 : h.1 156 8 = nI e) : ∃ h', X4_advance N h 156 = some h' ∧ CTok h' t z (skp t z e) ∧ CAf h h' := by
  have hz := c.1
  unfold X4_advance
  rw [sq_eq, e8]
  have f1 := CAf_wi (CAf.refl h) (j := 7) (by decide) (nI e)
  obtain ⟨h', b1, b2, b3⟩ := c_l8 (N := N) (t := t) (z := z) hN (z - e) e N _ (by omega) (by omega) (CTp_f c f1) (wi_s _ _ _ _)
  exact ⟨h', b1, b2, CAf.trans f1 b3⟩
theorem c_adv (hN : 2000 ≤ N) {s : Nat} (c : CTok h t z s) : ∃ h', X4_advance N h 156 = some h' ∧ CTok h' t z (nxt t z s) ∧ CAf h h' := c_adv0 hN c.1 (ten_le c.2.1).2 c.2.2.2.1
end CTK
