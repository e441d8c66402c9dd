/-! ===== level 2: ease, hire ===== -/
section HIR
variable {N : Nat} {p q : Nat} {D : Nat → Nat}
theorem us_zero (D : Nat → Nat) (s : Nat) : ∀ (x : List Nat) (k : Nat), (∀ c ∈ x, c ≠ s) → us (ord D) (lenD D) s k x = 0 := by
  intro x
  induction x with
  | nil => intro k _; rfl
  | cons c x ih =>
    intro k h
    rw [us_cons, if_neg (h c (by simp)), ih (k + 1) (fun d hd => h d (by simp [hd]))]
/-- the most that anybody sings -/
abbrev mxS (D : Nat → Nat) (x : List Nat) (s a : Nat) : Nat := if us (ord D) (lenD D) s 0 x ≤ a then a else us (ord D) (lenD D) s 0 x
def mxu (D : Nat → Nat) (x : List Nat) : Nat := zl (mxS D x) (D 2) 0 0
theorem mx_le (D : Nat → Nat) (x : List Nat) (k : Nat) : mxu D x ≤ k ↔ ∀ s, s < D 2 → us (ord D) (lenD D) s 0 x ≤ k := by
  have key : ∀ (r i a : Nat), zl (mxS D x) r i a ≤ k ↔ (a ≤ k ∧ ∀ s, i ≤ s → s < i + r → us (ord D) (lenD D) s 0 x ≤ k) := by
    intro r
    induction r with
    | zero => intro i a; simp only [zl]; exact ⟨fun h => ⟨h, fun s h1 h2 => by omega⟩, fun h => h.1⟩
    | succ r ih =>
      intro i a
      simp only [zl]
      rw [ih]
      by_cases z : us (ord D) (lenD D) i 0 x ≤ a
      · rw [mxS, if_pos z]
        constructor
        · rintro ⟨h1, h2⟩
          refine ⟨h1, fun s h3 h4 => ?_⟩
          by_cases y : s = i
          · rw [y]; omega
          · exact h2 s (by omega) (by omega)
        · rintro ⟨h1, h2⟩
          exact ⟨h1, fun s h3 h4 => h2 s (by omega) (by omega)⟩
      · rw [mxS, if_neg z]
        constructor
        · rintro ⟨h1, h2⟩
          refine ⟨by omega, fun s h3 h4 => ?_⟩
          by_cases y : s = i
          · rw [y]; omega
          · exact h2 s (by omega) (by omega)
        · rintro ⟨h1, h2⟩
          exact ⟨h2 i (by omega) (by omega), fun s h3 h4 => h2 s (by omega) (by omega)⟩
  unfold mxu
  rw [key]
  exact ⟨fun h s hs => h.2 s (by omega) (by omega), fun h => ⟨Nat.zero_le _, fun s _ hs => h s (by omega)⟩⟩
abbrev FU (D : Nat → Nat) : List (List Nat) := LR D (D 1) (EV D) 0
abbrev FK (D : Nat → Nat) (k : Nat) : List (List Nat) := (FU D).filter (fun x => decide (mxu D x ≤ k))
theorem full_C (k : HK D) : LC D (D 2) (D 1) 0 (leftS D 0 20) 9 = FU D := LCR_set k (Nat.le_refl _) (fun s hs => by
    have := hkS k hs
    rw [ev_bit, if_pos (decide_eq_true hs), Nat.add_zero]
    unfold leftS
    omega) (fun s hs => by rw [ev_bit]; exact decide_eq_false (by omega))
theorem FU_use (hk : HK D) {x : List Nat} (hx : x ∈ FU D) {s : Nat} (hs : s < D 2) : us (ord D) (lenD D) s 0 x ≤ D (51 + 3 * s) := by
  have h2 := hk0 hk
  have := CL_use _ _ _ _ x hx s (by omega)
  unfold limR at this
  rw [if_pos hs] at this
  omega
theorem ease_C (hk : HK D) {k : Nat} (h20 : k ≤ 20) : LC D (D 2) (D 1) 0 (leftS D 0 k) 9 = FK D k := by
  have h2 := hk0 hk
  have e3 := CL_filter (ord := ord D) (len := lenD D) (ok := okC D (D 2)) (ctn D (D 1) - ctn D 0) (ctn D 0) (leftS D 0 20) (leftS D 0 k) 9 (fun t _ => by unfold leftS; omega)
  rw [show LC D (D 2) (D 1) 0 (leftS D 0 k) 9 = _ from e3, show CL (ord D) (lenD D) (okC D (D 2)) (ctn D (D 1) - ctn D 0) (ctn D 0) (leftS D 0 20) 9 = _ from full_C hk]
  apply List.filter_congr
  intro x hx
  rw [Bool.eq_iff_iff, decide_eq_true_iff, mx_le, show ctn D 0 = 0 from rfl, uz_iff]
  obtain ⟨l1, l2, l3⟩ := LR_ok hx
  constructor
  · intro h s hs
    have := h s (by omega)
    unfold leftS at this
    omega
  · intro h s hs
    by_cases z : s < D 2
    · have h3 := h s z
      have h4 := FU_use hk hx z
      unfold leftS
      omega
    · rw [us_zero D s x 0 (fun c hc => by have := l3 c hc; omega)]
      exact Nat.zero_le _
theorem c_easiest {h : HS} (hN : 100 ≤ N) (c : KH h p D) : ∃ h', CF h h' ∧ ((X5_easiest N h 171 p = some (-1, h') ∧ FU D = []) ∨
    (∃ k x L', k ≤ 20 ∧ KC h' p D (D 1) (D 2) ∧ X5_easiest N h 171 p = some (nI k, h') ∧ (∀ j, j < k → FK D j = []) ∧ FK D k = x :: L' ∧ RW h' D (D 1) 0 x)) := by
  have hk := hk0 c.2.1
  have key : ∀ (r i fu : Nat) (h' : HS), i + r = 21 → r < fu → CF h h' → (∀ j, j < i → FK D j = []) → ∃ h2, CF h h2 ∧ ((X5_easiest_l2 N fu h' 171 p (nI i) = some (-1, h2) ∧ FU D = []) ∨
    (∃ k x L', k ≤ 20 ∧ KC h2 p D (D 1) (D 2) ∧ X5_easiest_l2 N fu h' 171 p (nI i) = some (nI k, h2) ∧ (∀ j, j < k → FK D j = []) ∧ FK D k = x :: L' ∧ RW h2 D (D 1) 0 x)) := by
    intro r
    induction r with
    | zero =>
      intro i fu h' e hf f hj
      obtain ⟨fu, rfl, _⟩ := fuel hf
      refine ⟨h', f, Or.inl ⟨?_, ?_⟩⟩
      · rw [X5_easiest_l2, if_pos (show (20 : Int32) < nI i from nI_lt (a := 20) (by omega) (by omega))]
      · have h20 := hj 20 (by omega)
        rw [← full_C c.2.1, ease_C c.2.1 (Nat.le_refl 20)]
        exact h20
    | succ r ih =>
      intro i fu h' e hf f hj
      obtain ⟨fu, rfl, _⟩ := fuel hf
      obtain ⟨h1, e1, f1, _, e2, e3, e4⟩ := c_seat (N := N) hN (CF_kh f c) (loan := 0) (most := i) (by decide) (by omega)
      obtain ⟨h2, f2, k2, r2⟩ := c_fills (N := N) (m := D 1) (sg := D 2) (left := leftS D 0 i) (v := 8) hN (by decide) e2 (CF_kh (CF.trans f f1) c) e3 (by omega) (by omega) (fun s _ => by unfold leftS; omega) e4 (by by_cases z : 8 < D 1 <;> simp [z]; omega)
      rw [X5_easiest_l2, if_neg (show ¬ (20 : Int32) < nI i from nI_nlt (a := 20) (by omega) (by decide)), show X5_seat N h' 171 p 0 (nI i) = _ from e1, bd1_some]
      rw [ease_C c.2.1 (show i ≤ 20 by omega)] at r2
      have f3 := CF.trans f (CF.trans f1 f2)
      rcases r2 with ⟨b1, b2⟩ | ⟨x, L', b1, b2, b3, b4⟩
      · rw [show X5_fills N h1 171 8 = _ from b1, bd2_some, if_pos rfl, nI_1]
        refine ih (i + 1) fu h2 (by omega) (by omega) f3 (fun j hj2 => ?_)
        by_cases y : j = i
        · rw [y]; exact b2
        · exact hj j (by omega)
      · rw [show X5_fills N h1 171 8 = _ from b1, bd2_some, if_neg one0]
        exact ⟨h2, f3, Or.inr ⟨i, x, L', by omega, k2, rfl, hj, b2, b4⟩⟩
  exact key 21 0 N h (by omega) (by omega) (CF.refl h) (fun j hj => by omega)
def efold (D : Nat → Nat) : List (List Nat) → Option (Nat × List Nat) → Option (Nat × List Nat)
  | [], a => a
  | x :: L, none => efold D L (some (mxu D x, x))
  | x :: L, some (m, y) => if mxu D x < m then efold D L (some (mxu D x, x)) else efold D L (some (m, y))
theorem efold_some (D : Nat → Nat) : ∀ (L : List (List Nat)) (m : Nat) (y : List Nat), ∃ m' y', efold D L (some (m, y)) = some (m', y') ∧ (∀ x ∈ L, m' ≤ mxu D x) ∧ ((m' = m ∧ y' = y) ∨ (m' < m ∧ ∃ L', L.filter (fun x => decide (mxu D x ≤ m')) = y' :: L')) := by
  intro L
  induction L with
  | nil => intro m y; exact ⟨m, y, rfl, fun x hx => (by cases hx), Or.inl ⟨rfl, rfl⟩⟩
  | cons x L ih =>
    intro m y
    rw [efold]
    by_cases z : mxu D x < m
    · rw [if_pos z]
      obtain ⟨m', y', a1, a2, a3⟩ := ih (mxu D x) x
      have hm' : m' ≤ mxu D x := by rcases a3 with ⟨r, _⟩ | ⟨r, _⟩ <;> omega
      refine ⟨m', y', a1, ?_, Or.inr ⟨by omega, ?_⟩⟩
      · intro w hw
        rcases List.mem_cons.mp hw with r | r
        · rw [r]; exact hm'
        · exact a2 w r
      · rcases a3 with ⟨r1, r2⟩ | ⟨r1, L', r2⟩
        · subst r1; subst r2
          exact ⟨_, List.filter_cons_of_pos (by simp)⟩
        · exact ⟨L', by rw [List.filter_cons_of_neg (by simp; omega)]; exact r2⟩
    · rw [if_neg z]
      obtain ⟨m', y', a1, a2, a3⟩ := ih m y
      have hm' : m' ≤ m := by rcases a3 with ⟨r, _⟩ | ⟨r, _⟩ <;> omega
      refine ⟨m', y', a1, ?_, ?_⟩
      · intro w hw
        rcases List.mem_cons.mp hw with r | r
        · rw [r]; omega
        · exact a2 w r
      · rcases a3 with r | ⟨r1, L', r2⟩
        · exact Or.inl r
        · exact Or.inr ⟨r1, L', by rw [List.filter_cons_of_neg (by simp; omega)]; exact r2⟩
theorem efold_is (D : Nat → Nat) (L : List (List Nat)) : (efold D L none = none ∧ L = []) ∨ (∃ m y L', efold D L none = some (m, y) ∧ (∀ j, j < m → L.filter (fun x => decide (mxu D x ≤ j)) = []) ∧ L.filter (fun x => decide (mxu D x ≤ m)) = y :: L') := by
  cases L with
  | nil => exact Or.inl ⟨rfl, rfl⟩
  | cons x L =>
    right
    rw [efold]
    obtain ⟨m', y', a1, a2, a3⟩ := efold_some D L (mxu D x) x
    have hm' : m' ≤ mxu D x := by rcases a3 with ⟨r, _⟩ | ⟨r, _⟩ <;> omega
    have hj : ∀ j, j < m' → (x :: L).filter (fun x => decide (mxu D x ≤ j)) = [] := by
      intro j hj
      rw [List.filter_eq_nil_iff]
      intro w hw
      rcases List.mem_cons.mp hw with r | r
      · rw [r]; simp; omega
      · have := a2 w r
        simp; omega
    rcases a3 with ⟨r1, r2⟩ | ⟨r1, L', r2⟩
    · subst r1; subst r2
      exact ⟨_, _, _, a1, hj, List.filter_cons_of_pos (by simp)⟩
    · exact ⟨m', y', L', a1, hj, by rw [List.filter_cons_of_neg (by simp; omega)]; exact r2⟩
theorem CL_few {ord len : Nat → Nat} {ok : Nat → Nat → Bool} : ∀ (r k : Nat) (left : Nat → Nat) (prev : Nat), (CL ord len ok r k left prev).length ≤ 6 ^ r := by
  intro r
  induction r with
  | zero => intro k left prev; exact Nat.le_refl _
  | succ r ih =>
    intro k left prev
    rw [CL]
    have gen : ∀ (l : List Nat), (l.flatMap (fun s => if ok s (ord k) = true ∧ len (ord k) ≤ left s ∧ ¬ (adj ord k ∧ s = prev) then (CL ord len ok r (k + 1) (sb1 left s (len (ord k))) s).map (fun x => s :: x) else [])).length ≤ l.length * 6 ^ r := by
      intro l
      induction l with
      | nil => simp
      | cons s l ihl =>
        rw [List.flatMap_cons, List.length_append, List.length_cons, Nat.add_mul, Nat.one_mul]
        by_cases z : ok s (ord k) = true ∧ len (ord k) ≤ left s ∧ ¬ (adj ord k ∧ s = prev)
        · rw [if_pos z, List.length_map]
          have := ih (k + 1) (sb1 left s (len (ord k))) s
          omega
        · rw [if_neg z, List.length_nil, Nat.zero_add]; exact Nat.le_trans ihl (Nat.le_add_right _ _)
    have := gen (List.range' 0 6)
    rw [List.length_range'] at this
    rw [Nat.pow_succ]
    omega
theorem LR_few (k : HK D) (m set more : Nat) (hm : m ≤ D 1) : (LR D m set more).length ≤ 2000000 := by
  have h1 := hk0 k
  have h2 := ct_le D m
  have h3 : (LR D m set more).length ≤ 6 ^ ctn D m := CL_few _ _ _ _
  have h4 := Nat.pow_le_pow_right (n := 6) (by decide) (show ctn D m ≤ 8 by omega)
  omega
/-- writing what is no part of the search -/
theorem ES_e {h h' : HS} {n set : Nat} {lim : Nat → Nat} {L : List (List Nat)} (e : ∀ k, k ≠ 245 → h'.1 k = h.1 k) (E : ES h q D n set lim L) : ES h' q D n set lim L := by
  have gc : ∀ {n set lim}, GC h q D n set lim → GC h' q D n set lim := by
    intro n set lim g
    unfold GC RH at g ⊢
    rw [e 237 (by decide), e 238 (by decide), e 241 (by decide), e 244 (by decide)]
    exact g
  obtain ⟨g, E⟩ := E
  refine ⟨gc g, ?_⟩
  rcases E with ⟨e0, e1, e2⟩ | ⟨e0, cs, d, ⟨hd, hx⟩, r, hM⟩
  · left
    rw [e 237 (by decide), e 243 (by decide)]
    exact ⟨e0, e1, e2⟩
  · right
    refine ⟨e0, cs, d, ⟨hd, ?_⟩, r, hM⟩
    obtain ⟨x0, x1⟩ := hx
    refine ⟨gc x0, ?_⟩
    rw [e 237 (by decide), e 242 (by decide), e 243 (by decide)]
    exact x1
def SE (h h' : HS) : Prop := (∀ k, k ≠ 237 → k ≠ 241 → k ≠ 242 → k ≠ 243 → k ≠ 244 → k ≠ 245 → h'.1 k = h.1 k)
theorem SE_same {h h' : HS} (f : SE h h') : Same h h' := fun k hk => f k (by omega) (by omega) (by omega) (by omega) (by omega) (by omega)
def finE (D : Nat → Nat) (v : Int32) (o : Option (Nat × List Nat)) : Int32 := match o with | none => -1 | some (m, y) => if v = -1 then nI m else nI (singV D y v.toNatClampNeg)
def lsE (o : Option (Nat × List Nat)) : Int32 := match o with | none => 99999999 | some (m, _) => nI m
theorem r_ease {h0 : HS} (hN : 1000000000 ≤ N) (v : Int32) (hv : v = -1 ∨ ∃ b, b < D 1 ∧ v = nI b) : ∀ (L : List (List Nat)) (fu : Nat) (h : HS) (o : Option (Nat × List Nat)), L.length < fu → SE h0 h → ES h q D (ctn D (D 1)) (EV D) (limR D 0) L → (∀ m y, o = some (m, y) → m ≤ 99999998 ∧ ∀ b, b < D 1 → h.1 245 b = nI (singV D y b)) →
    ∃ h', X11_ease_l39 N fu h 237 v (lsE o) = some (finE D v (efold D L o), h') ∧ SE h0 h' := by
  intro L
  induction L with
  | nil =>
    intro fu h o hf f E ho
    obtain ⟨fu, rfl, _⟩ := fuel hf
    have hk := hk0 E.1.1.1
    rw [X11_ease_l39]
    rcases r_goesOn hN E with ⟨_, h3, b2, b3⟩ | ⟨x, L', h3, b1, _⟩
    · have f3 : SE h0 h3 := fun k k1 k2 k3 k4 k5 k6 => by rw [b3.1 k k1 k2 k3 k4 k5]; exact f k k1 k2 k3 k4 k5 k6
      refine ⟨h3, ?_, f3⟩
      rw [b2, bd2_some, if_pos rfl]
      cases o with
      | none => rfl
      | some my =>
        obtain ⟨m, y⟩ := my
        obtain ⟨m1, m2⟩ := ho m y rfl
        simp only [efold, finE]
        rw [if_neg (show ¬ lsE (some (m, y)) = 99999999 from fun w => by have := (nI_eq (b := 99999999) (by omega) (by decide)).mp w; omega)]
        by_cases z : v = -1
        · rw [if_pos z, if_pos z]; rfl
        · rw [if_neg z, if_neg z]
          rcases hv with w | ⟨b, hb, rfl⟩
          · exact absurd w z
          · rw [if_neg (nI_in (by omega) (by decide)), nI_clamp (by omega), show h3.1 (237 + 8) b = h.1 245 b by rw [b3.1 (237 + 8) (by decide) (by decide) (by decide) (by decide) (by decide)], m2 b hb]
    · cases b1
  | cons x0 L ih =>
    intro fu h o hf f E ho
    obtain ⟨fu, rfl, _⟩ := fuel hf
    have hk := hk0 E.1.1.1
    rw [X11_ease_l39]
    rcases r_goesOn hN E with ⟨b1, _⟩ | ⟨x, L', h3, b1, b2, b3, b4, b5⟩
    · cases b1
    · have hx : x0 = x := by injection b1
      have hL : L = L' := by injection b1
      subst hx; subst hL
      rw [b2, bd2_some, if_neg one0]
      have f3 : SE h0 h3 := fun k k1 k2 k3 k4 k5 k6 => by rw [b3.1 k k1 k2 k3 k4 k5]; exact f k k1 k2 k3 k4 k5 k6
      have o3 : ∀ m y, o = some (m, y) → m ≤ 99999998 ∧ ∀ b, b < D 1 → h3.1 245 b = nI (singV D y b) := by
        rw [b3.1 245 (by decide) (by decide) (by decide) (by decide) (by decide)]; exact ho
      have hml : mxu D x0 ≤ 1000 := (mx_le D x0 1000).mpr (fun s hs => by
        have := (b5.2.2.2.2 s (by omega)).1
        unfold limR at this
        rw [if_pos hs] at this
        have := hkS E.1.1.1 hs
        omega)
      have l52 : ∀ (r s f2 a : Nat) (w3 : Int32), s + r = D 2 → r < f2 → a ≤ 1000 → X11_ease_l52 N (X11_ease_l39 N fu) f2 h3 237 v w3 (nI a) (nI s) = (if nI (zl (mxS D x0) r s a) < w3 then X11_ease_l108 N (X11_ease_l39 N fu) N h3 237 v (nI (zl (mxS D x0) r s a)) 0 else X11_ease_l39 N fu h3 237 v w3) := by
        intro r
        induction r with
        | zero =>
          intro s f2 a w3 e hf2 ha
          obtain ⟨f2, rfl, _⟩ := fuel hf2
          rw [X11_ease_l52, rh2 b5.1.1, if_pos (nI_le (by omega) (by omega))]
          rfl
        | succ r ihr =>
          intro s f2 a w3 e hf2 ha
          obtain ⟨f2, rfl, _⟩ := fuel hf2
          obtain ⟨u1, u2⟩ := b5.2.2.2.2 s (by omega)
          unfold limR at u1
          rw [if_pos (by omega)] at u1
          have := hkS E.1.1.1 (show s < D 2 by omega)
          rw [X11_ease_l52, rh2 b5.1.1, if_neg (nI_ge (by omega) (by omega)), if_neg (nI_in (by omega) (by decide)), if_neg (nI_in (by omega) (by decide)), nI_clamp (by omega), show h3.1 (237 + 6) s = _ from u2, nI_1]
          rw [show zl (mxS D x0) (r + 1) s a = zl (mxS D x0) r (s + 1) (mxS D x0 s a) from rfl]
          by_cases z : us (ord D) (lenD D) s 0 x0 ≤ a
          · rw [if_pos (nI_le z (by omega)), show mxS D x0 s a = a from if_pos z]
            exact ihr (s + 1) f2 a w3 (by omega) (by omega) ha
          · rw [if_neg (nI_ge (by omega) (by omega)), show mxS D x0 s a = us (ord D) (lenD D) s 0 x0 from if_neg z]
            exact ihr (s + 1) f2 _ w3 (by omega) (by omega) (by omega)
      have l108 : ∀ (r b f2 : Nat) (h4 : HS) (w3 : Int32), b + r = D 1 → r < f2 → (∀ k, k ≠ 245 → h4.1 k = h3.1 k) → (∀ i, i < b → h4.1 245 i = nI (singV D x0 i)) → ∃ h5, X11_ease_l108 N (X11_ease_l39 N fu) f2 h4 237 v w3 (nI b) = X11_ease_l39 N fu h5 237 v w3 ∧ (∀ k, k ≠ 245 → h5.1 k = h3.1 k) ∧ (∀ i, i < D 1 → h5.1 245 i = nI (singV D x0 i)) := by
        intro r
        induction r with
        | zero =>
          intro b f2 h4 w3 e hf2 g1 g2
          obtain ⟨f2, rfl, _⟩ := fuel hf2
          refine ⟨h4, ?_, g1, fun i hi => g2 i (by omega)⟩
          rw [X11_ease_l108, g1 237 (by decide), rh1 b5.1.1, if_pos (nI_le (by omega) (by omega))]
        | succ r ihr =>
          intro b f2 h4 w3 e hf2 g1 g2
          obtain ⟨f2, rfl, _⟩ := fuel hf2
          have t4 : TD h4 q D (ctn D (D 1)) (EV D) (limR D 0) x0 := by
            obtain ⟨c0, c1⟩ := b5
            refine ⟨?_, ?_⟩
            · unfold GC RH at c0 ⊢
              rw [g1 237 (by decide), g1 238 (by decide), g1 241 (by decide), g1 244 (by decide)]
              exact c0
            · rw [g1 242 (by decide), g1 243 (by decide)]; exact c1
          rw [X11_ease_l108, g1 237 (by decide), rh1 b5.1.1, if_neg (nI_ge (by omega) (by omega)), r_singerOf (by omega) t4 (Nat.le_refl _) (by omega), bd1_some, if_neg (nI_in (by omega) (by decide)), sq_eq, nI_clamp (by omega), nI_1]
          refine ihr (b + 1) f2 _ w3 (by omega) (by omega) (fun k hk => by rw [wi_k _ _ hk]; exact g1 k hk) (fun i hi => ?_)
          by_cases y : i = b
          · subst y; exact wi_s _ _ _ _
          · rw [show (237 + 8 : Nat) = 245 from rfl, wi_j _ _ y]; exact g2 i (by omega)
      have e52 := l52 (D 2) 0 N 0 (lsE o) (by omega) (by omega) (by omega)
      rw [show zl (mxS D x0) (D 2) 0 0 = mxu D x0 from rfl] at e52
      rw [show X11_ease_l52 N (X11_ease_l39 N fu) N h3 237 v _ 0 0 = _ from e52]
      have take : (if nI (mxu D x0) < lsE o then X11_ease_l108 N (X11_ease_l39 N fu) N h3 237 v (nI (mxu D x0)) 0 else X11_ease_l39 N fu h3 237 v (lsE o)) = X11_ease_l108 N (X11_ease_l39 N fu) N h3 237 v (nI (mxu D x0)) 0 → efold D (x0 :: L) o = efold D L (some (mxu D x0, x0)) → ∃ h', (if nI (mxu D x0) < lsE o then X11_ease_l108 N (X11_ease_l39 N fu) N h3 237 v (nI (mxu D x0)) 0 else X11_ease_l39 N fu h3 237 v (lsE o)) = some (finE D v (efold D (x0 :: L) o), h') ∧ SE h0 h' := by
        intro t1 t2
        obtain ⟨h5, c1, c2, c3⟩ := l108 (D 1) 0 N h3 (nI (mxu D x0)) (by omega) (by omega) (fun _ _ => rfl) (fun i hi => by omega)
        rw [t1, t2, show X11_ease_l108 N (X11_ease_l39 N fu) N h3 237 v (nI (mxu D x0)) 0 = _ from c1]
        exact ih fu h5 (some (mxu D x0, x0)) (by simp at hf; omega) (fun k k1 k2 k3 k4 k5 k6 => by rw [c2 k k6]; exact f3 k k1 k2 k3 k4 k5 k6) (ES_e c2 b4) (fun m y hmy => by cases hmy; exact ⟨by omega, c3⟩)
      cases o with
      | none => exact take (if_pos (show nI (mxu D x0) < 99999999 from nI_lt (b := 99999999) (by omega) (by decide))) rfl
      | some my =>
        obtain ⟨m, y⟩ := my
        obtain ⟨m1, m2⟩ := o3 m y rfl
        by_cases z : mxu D x0 < m
        · exact take (if_pos (show nI (mxu D x0) < nI m from nI_lt z (by omega))) (by rw [efold, if_pos z])
        · rw [efold, if_neg z]
          rw [if_neg (show ¬ nI (mxu D x0) < lsE (some (m, y)) from nI_nlt (b := m) (by omega) (by omega))]
          exact ih fu h3 (some (m, y)) (by simp at hf; omega) f3 b4 o3
end HIR
