/-! ===== level 2: ease and hire as calls ===== -/
section HIS
variable {N : Nat} {p q : Nat} {D : Nat → Nat}
theorem c_ease28 {h : HS} (hN : 100 ≤ N) (c : KH h p D) (v : Int32) (hv : v = -1 ∨ ∃ b, b < D 1 ∧ v = nI b) : ∃ h1, CF h h1 ∧ X10_ease_b28 N h 1 v p = some (finE D v (efold D (FU D) none), h1) := by
  have hk := hk0 c.2.1
  obtain ⟨h1, f1, r1⟩ := c_easiest (N := N) hN c
  refine ⟨h1, f1, ?_⟩
  unfold X10_ease_b28
  rcases r1 with ⟨a1, a2⟩ | ⟨k, x, L', a1, a2, a3, a4, a5, a6⟩
  · rw [show X5_easiest N h (1 + 170) p = _ from a1, a2]
    rfl
  · rcases efold_is D (FU D) with ⟨_, b2⟩ | ⟨m, y, L2, b1, b2, b3⟩
    · exfalso
      rw [FK, b2] at a5
      cases a5
    · have hmk : m = k := by
        by_cases z : m < k
        · have := a4 m z
          rw [FK, b3] at this
          cases this
        · by_cases w : k < m
          · have := b2 k w
            rw [FK, this] at a5
            cases a5
          · omega
      subst hmk
      have hxy : x = y := by
        rw [FK, b3] at a5
        injection a5 with h1 _
        exact h1.symm
      subst hxy
      rw [show X5_easiest N h (1 + 170) p = _ from a3, bd2_some, if_neg (nI_m1 (by omega)), b1]
      simp only [finE]
      by_cases z : v = -1
      · rw [if_pos z, if_pos z]
      · rw [if_neg z, if_neg z]
        rcases hv with w | ⟨b, hb, rfl⟩
        · exact absurd w z
        · rw [show X5_singerOf N h1 (1 + 170) (nI b) = _ from c_singerOf a2 a6 hb, bd1_some, nI_clamp (by omega)]
end HIS
theorem q_ease {N : Nat} {h : HS} (I : INV h) (hN : 1000000000 ≤ N) (a b : Int32) : ∃ r h1 h2, X10_ease N h 1 a b = some (r, h1) ∧ X11_ease N h1 237 a b = some (r, h2) ∧ Same h h2 := by
  unfold X10_ease X11_ease
  rcases opn (N := N) I a with ⟨e1, e2⟩ | ⟨p, q, D, e1, hp, c, e2⟩
  · exact ⟨-1, h, h, by rw [e1]; rfl, by rw [e2 h (Same.refl h)]; rfl, Same.refl h⟩
  · have hk := hk0 c.2.1
    have he := ev_lt c.2.1
    rw [e1, bd1_some, if_neg hp]
    have go : (b = -1 ∨ ∃ j, j < D 1 ∧ b = nI j) → ∃ h1 h2 h3 h4, CF h h1 ∧ X10_ease_b28 N h 1 b p = some (finE D b (efold D (FU D) none), h1) ∧ X11_isHouse N h1 237 a = some (1, h2) ∧ RH h2 q D ∧ X11_laysRows N h2 237 (nI (D 1)) (nI (EV D)) 0 = some h3 ∧ X11_ease_l39 N N h3 237 b 99999999 = some (finE D b (efold D (FU D) none), h4) ∧ Same h h4 := by
      intro hv
      obtain ⟨h1, f1, a1⟩ := c_ease28 (N := N) (by omega) c b hv
      obtain ⟨h2, e3, rh, sm, _⟩ := e2 h1 (CF_same f1)
      obtain ⟨h3, b1, b2, b3⟩ := r_laysRows (N := N) (m := D 1) (set := EV D) (more := 0) (by omega) rh (Nat.le_refl _) (by decide) (by omega)
      obtain ⟨h4, c1, c2⟩ := r_ease (h0 := h3) hN b hv (FU D) N h3 none (by have : (FU D).length ≤ 2000000 := LR_few c.2.1 (D 1) (EV D) 0 (Nat.le_refl _); omega) (fun k _ _ _ _ _ _ => rfl) b3 (fun m y h => by cases h)
      exact ⟨h1, h2, h3, h4, f1, a1, e3, rh, b1, c1, Same.trans sm (Same.trans (SF_same b2) (SE_same c2))⟩
    by_cases z : b = -1
    · obtain ⟨h1, h2, h3, h4, f1, a1, e3, rh, b1, c1, s⟩ := go (Or.inl z)
      refine ⟨finE D b (efold D (FU D) none), h1, h4, ?_, ?_, s⟩
      · rw [if_pos z, a1]
      · rw [e3, bd2_some, if_neg one0, if_pos z, r_everybody rh, bd1_some, rh1 rh, b1, bd1_some, c1]
    · rcases i_cases b with w | ⟨j, hj, rfl⟩
      · obtain ⟨h2, e3, rh, sm, _⟩ := e2 h (Same.refl h)
        exact ⟨-1, h, h2, by rw [if_neg z, (c_neg w).2.1]; rfl, by rw [e3, bd2_some, if_neg one0, if_neg z, (r_neg rh w).2.1]; rfl, sm⟩
      · by_cases y : j < D 1
        · obtain ⟨h1, h2, h3, h4, f1, a1, e3, rh, b1, c1, s⟩ := go (Or.inr ⟨j, y, rfl⟩)
          refine ⟨finE D (nI j) (efold D (FU D) none), h1, h4, ?_, ?_, s⟩
          · rw [if_neg z, c_hasBar c hj, bd1_some, nB_t y, if_neg one0, a1]
          · rw [e3, bd2_some, if_neg one0, if_neg z, r_isBar rh hj, bd1_some, nB_t y, if_neg one0, r_everybody rh, bd1_some, rh1 rh, b1, bd1_some, c1]
        · obtain ⟨h2, e3, rh, sm, _⟩ := e2 h (Same.refl h)
          exact ⟨-1, h, h2, by rw [if_neg z, c_hasBar c hj, nB_f y]; rfl, by rw [e3, bd2_some, if_neg one0, if_neg z, r_isBar rh hj, nB_f y]; rfl, sm⟩
section HIT
variable {N : Nat} {p q : Nat} {D : Nat → Nat}
abbrev HSt (D : Nat → Nat) : Nat := EV D ||| 2 ^ D 2
abbrev FH (D : Nat → Nat) : List (List Nat) := LR D (D 1) (HSt D) 0
theorem hst_bit (s : Nat) : (HSt D).testBit s = decide (s ≤ D 2) := by
  rw [HSt, Nat.testBit_or, ev_bit, Nat.testBit_two_pow, Bool.eq_iff_iff]
  simp
  omega
def leftH (D : Nat → Nat) (b s : Nat) : Nat := if s < D 2 then leftS D 0 20 s else b
abbrev ud (D : Nat → Nat) (x : List Nat) : Nat := us (ord D) (lenD D) (D 2) 0 x
theorem hire_full (k : HK D) : LC D (D 2 + 1) (D 1) 0 (limR D 0) 9 = FH D := by
  have hk := hk0 k
  apply LCR k (Nat.le_refl _)
  intro s hs
  by_cases z : s ≤ D 2
  · left
    refine ⟨fun b => ?_, rfl⟩
    rw [Bool.eq_iff_iff, okC_iff]
    unfold okR
    rw [decide_eq_true_iff, hst_bit, decide_eq_true_iff]
    constructor
    · rintro ⟨_, w⟩
      exact ⟨z, fun h => w.elim (fun v => by omega) (fun v => v.2)⟩
    · rintro ⟨_, w⟩
      refine ⟨by omega, ?_⟩
      by_cases y : s = D 2
      · exact Or.inl y
      · exact Or.inr ⟨by omega, w (by omega)⟩
  · right
    refine ⟨Or.inl (fun b => ?_), Or.inl (fun b => ?_)⟩
    · unfold okC; exact decide_eq_false (fun w => by omega)
    · unfold okR; exact decide_eq_false (fun w => by have := w.1; rw [hst_bit, decide_eq_true_iff] at this; omega)
theorem FH_ok (hk : HK D) {x : List Nat} (hx : x ∈ FH D) : (∀ c ∈ x, c ≤ D 2) ∧ ∀ s, s < D 2 → us (ord D) (lenD D) s 0 x ≤ D (51 + 3 * s) := by
  have h2 := hk0 hk
  refine ⟨fun c hc => ?_, fun s hs => ?_⟩
  · obtain ⟨b, hb⟩ := CL_ok _ _ _ _ x hx c hc
    unfold okR at hb
    have := (of_decide_eq_true hb).1
    rw [hst_bit] at this
    exact of_decide_eq_true this
  · have := CL_use _ _ _ _ x hx s (by omega)
    unfold limR at this
    rw [if_pos hs] at this
    omega
theorem hire_C (hk : HK D) {b : Nat} (hb : b ≤ 20) : LC D (D 2 + 1) (D 1) 0 (leftH D b) 9 = (FH D).filter (fun x => decide (ud D x ≤ b)) := by
  have h2 := hk0 hk
  have e3 := CL_filter (ord := ord D) (len := lenD D) (ok := okC D (D 2 + 1)) (ctn D (D 1) - ctn D 0) (ctn D 0) (limR D 0) (leftH D b) 9 (fun t _ => by
    unfold leftH limR
    by_cases z : t < D 2
    · rw [if_pos z, if_pos z]; unfold leftS; omega
    · rw [if_neg z, if_neg z]; omega)
  rw [show LC D (D 2 + 1) (D 1) 0 (leftH D b) 9 = _ from e3, show CL (ord D) (lenD D) (okC D (D 2 + 1)) (ctn D (D 1) - ctn D 0) (ctn D 0) (limR D 0) 9 = _ from hire_full hk]
  apply List.filter_congr
  intro x hx
  obtain ⟨l1, l2⟩ := FH_ok hk hx
  rw [Bool.eq_iff_iff, decide_eq_true_iff, show ctn D 0 = 0 from rfl, uz_iff]
  constructor
  · intro h
    have := h (D 2) (by omega)
    unfold leftH at this
    rw [if_neg (by omega)] at this
    exact this
  · intro h s hs
    unfold leftH
    by_cases z : s < D 2
    · have := l2 s z
      have := hkS hk z
      rw [if_pos z]; unfold leftS; omega
    · rw [if_neg z]
      by_cases y : s = D 2
      · rw [y]; exact h
      · rw [us_zero D s x 0 (fun c hc => by have := l1 c hc; omega)]
        exact Nat.zero_le _
theorem c_takeIn {h : HS} (e2 : h.2 171 = p) (c : KH h p D) (es : h.1 171 2 = nI (D 2)) (b : Nat) : X5_takeIn N h 171 (nI b) = some (wi (wi h 182 (D 2) (nI b)) 171 2 (nI (D 2 + 1))) := by
  have hk := hk0 c.2.1
  unfold X5_takeIn
  rw [e2, es, ch2 c, if_pos rfl, if_neg (show ¬ (5 : Int32) < nI (D 2) from nI_nlt (a := 5) (by omega) (by decide)), if_neg (nI_in (by omega) (by decide)), sq_eq, sq_eq, nI_clamp (by omega), show (wi h (171 + 11) (D 2) (nI b)).1 171 2 = nI (D 2) by rw [wi_k _ _ (by decide)]; exact es, nI_1]
def mf (D : Nat → Nat) : List (List Nat) → Nat → Nat
  | [], a => a
  | x :: L, a => mf D L (if a ≤ ud D x then a else ud D x)
theorem mf_is (D : Nat → Nat) : ∀ (L : List (List Nat)) (a : Nat), mf D L a ≤ a ∧ (∀ x ∈ L, mf D L a ≤ ud D x) ∧ (mf D L a = a ∨ ∃ x ∈ L, ud D x = mf D L a) := by
  intro L
  induction L with
  | nil => intro a; exact ⟨Nat.le_refl _, fun x hx => (by cases hx), Or.inl rfl⟩
  | cons x L ih =>
    intro a
    rw [mf]
    by_cases z : a ≤ ud D x
    · rw [if_pos z]
      obtain ⟨h1, h2, h3⟩ := ih a
      refine ⟨h1, fun y hy => ?_, ?_⟩
      · rcases List.mem_cons.mp hy with r | r
        · rw [r]; omega
        · exact h2 y r
      · rcases h3 with r | ⟨y, r1, r2⟩
        · exact Or.inl r
        · exact Or.inr ⟨y, List.mem_cons_of_mem _ r1, r2⟩
    · rw [if_neg z]
      obtain ⟨h1, h2, h3⟩ := ih (ud D x)
      refine ⟨by omega, fun y hy => ?_, Or.inr ?_⟩
      · rcases List.mem_cons.mp hy with r | r
        · rw [r]; exact h1
        · exact h2 y r
      · rcases h3 with r | ⟨y, r1, r2⟩
        · exact ⟨x, List.mem_cons_self .., r.symm⟩
        · exact ⟨y, List.mem_cons_of_mem _ r1, r2⟩
abbrev hiV (D : Nat → Nat) : Int32 := if mf D (FH D) 99999999 ≤ 20 then nI (mf D (FH D) 99999999) else -1
theorem c_hired {h : HS} (hN : 100 ≤ N) (c : KH h p D) : ∃ h', X5_hired N h 171 p = some (hiV D, h') ∧ CF h h' := by
  have hk := hk0 c.2.1
  obtain ⟨m1, m2, m3⟩ := mf_is D (FH D) 99999999
  have key : ∀ (r i fu : Nat) (h' : HS), i + r = 21 → r < fu → CF h h' → (∀ x ∈ FH D, i ≤ ud D x) → ∃ h2, X5_hired_l2 N fu h' 171 p (nI i) = some (hiV D, h2) ∧ CF h h2 := by
    intro r
    induction r with
    | zero =>
      intro i fu h' e hf f hj
      obtain ⟨fu, rfl, _⟩ := fuel hf
      refine ⟨h', ?_, f⟩
      have : ¬ mf D (FH D) 99999999 ≤ 20 := by
        rcases m3 with r | ⟨x, r1, r2⟩
        · omega
        · have := hj x r1; omega
      rw [X5_hired_l2, if_pos (show (20 : Int32) < nI i from nI_lt (a := 20) (by omega) (by omega)), hiV, if_neg this]
    | succ r ih =>
      intro i fu h' e hf f hj
      obtain ⟨fu, rfl, _⟩ := fuel hf
      obtain ⟨h1, e1, f1, _, e2, e3, e4⟩ := c_seat (N := N) hN (CF_kh f c) (loan := 0) (most := 20) (by decide) (by omega)
      have c1 := CF_kh (CF.trans f f1) c
      have et := c_takeIn (N := N) e2 c1 e3 i
      have ft : CF h1 (wi (wi h1 182 (D 2) (nI i)) 171 2 (nI (D 2 + 1))) := CF.trans (CF_w _ (by omega)) (CF_w _ (by omega))
      obtain ⟨h2, f2, k2, r2⟩ := c_fills (N := N) (m := D 1) (sg := D 2 + 1) (left := leftH D i) (v := 8) hN (by decide) (by rw [wi_2, wi_2]; exact e2) (CF_kh (CF.trans (CF.trans f f1) ft) c) (wi_s _ _ _ _) (by omega) (by omega) (fun s _ => by
        unfold leftH
        by_cases z : s < D 2
        · rw [if_pos z]; unfold leftS; omega
        · rw [if_neg z]; omega) (fun s hs => by
        rw [wi_k _ _ (by decide)]
        unfold leftH
        by_cases z : s < D 2
        · rw [if_pos z, wi_j _ _ (by omega)]; exact e4 s z
        · rw [if_neg z, show s = D 2 by omega]; exact wi_s _ _ _ _) (by by_cases z : 8 < D 1 <;> simp [z]; omega)
      rw [hire_C c.2.1 (show i ≤ 20 by omega)] at r2
      rw [X5_hired_l2, if_neg (show ¬ (20 : Int32) < nI i from nI_nlt (a := 20) (by omega) (by decide)), show X5_seat N h' 171 p 0 20 = _ from e1, bd1_some, et, bd1_some]
      have f3 := CF.trans f (CF.trans f1 (CF.trans ft f2))
      rcases r2 with ⟨b1, b2⟩ | ⟨x, L', b1, b2, b3, b4⟩
      · rw [show X5_fills N _ 171 8 = _ from b1, bd2_some, if_pos rfl, nI_1]
        refine ih (i + 1) fu h2 (by omega) (by omega) f3 (fun x hx => ?_)
        have h5 := hj x hx
        have h6 := List.filter_eq_nil_iff.mp b2 x hx
        simp at h6
        omega
      · rw [show X5_fills N _ 171 8 = _ from b1, bd2_some, if_neg one0]
        have hx : x ∈ (FH D).filter (fun x => decide (ud D x ≤ i)) := by rw [b2]; exact List.mem_cons_self ..
        have hx2 := List.mem_filter.mp hx
        have h7 := hj x hx2.1
        have h8 := m2 x hx2.1
        have h9 : ud D x ≤ i := by simpa using hx2.2
        have : mf D (FH D) 99999999 = i := by
          rcases m3 with r | ⟨y, r1, r2⟩
          · omega
          · have := hj y r1; omega
        refine ⟨h2, ?_, f3⟩
        rw [hiV, this, if_pos (by omega)]
  exact key 21 0 N h (by omega) (by omega) (CF.refl h) (fun _ _ => Nat.zero_le _)
theorem r_hired {h : HS} (hN : 1000000000 ≤ N) (c : RH h q D) : ∃ h1 h', X11_laysRows N h 237 (nI (D 1)) (nI (EV D) ||| ((1 : Int32) <<< (nI (D 2) &&& 31))) 0 = some h1 ∧ X11_hire_l33 N N h1 237 99999999 = some (hiV D, h') ∧ SF h h' := by
  have hk := hk0 c.1
  have he := ev_lt c.1
  have hh : HSt D < 2 ^ 31 := by
    have : HSt D < 2 ^ 6 := or_lt 6 (by omega) (by omega)
    omega
  obtain ⟨h1, b1, b2, b3⟩ := r_laysRows (N := N) (m := D 1) (set := HSt D) (more := 0) (by omega) c (Nat.le_refl _) (by decide) hh
  rw [one_shl _ (by omega), nx_or]
  have key : ∀ (L : List (List Nat)) (fu a : Nat) (h' : HS), L.length < fu → SF h h' → ES h' q D (ctn D (D 1)) (HSt D) (limR D 0) L → a ≤ 99999999 → ∃ h2, X11_hire_l33 N fu h' 237 (nI a) = some (if mf D L a ≤ 20 then nI (mf D L a) else -1, h2) ∧ SF h h2 := by
    intro L
    induction L with
    | nil =>
      intro fu a h' hf f E ha
      obtain ⟨fu, rfl, _⟩ := fuel hf
      rw [X11_hire_l33]
      rcases r_goesOn hN E with ⟨_, h3, d2, d3⟩ | ⟨x, L', h3, d1, _⟩
      · refine ⟨h3, ?_, SF.trans f d3⟩
        rw [d2, bd2_some, if_pos rfl, mf]
        by_cases z : a ≤ 20
        · rw [if_pos (show nI a ≤ 20 from nI_le (b := 20) z (by decide)), if_pos z]
        · rw [if_neg (show ¬ nI a ≤ 20 from nI_ge (a := 20) (by omega) (by omega)), if_neg z]
      · cases d1
    | cons x0 L ih =>
      intro fu a h' hf f E ha
      obtain ⟨fu, rfl, _⟩ := fuel hf
      rw [X11_hire_l33]
      rcases r_goesOn hN E with ⟨d1, _⟩ | ⟨x, L', h3, d1, d2, d3, d4, d5⟩
      · cases d1
      · have hx : x0 = x := by injection d1
        have hL : L = L' := by injection d1
        subst hx; subst hL
        obtain ⟨u1, u2⟩ := d5.2.2.2.2 (D 2) (by omega)
        have u3 := (d5.1.2.2.2.2.2.2.2 (D 2) (by omega)).1
        have u4 : ud D x0 ≤ limR D 0 (D 2) := u1
        rw [d2, bd2_some, if_neg one0, rh2 d5.1.1, if_neg (nI_in (by omega) (by decide)), if_neg (nI_in (by omega) (by decide)), nI_clamp (by omega), show h3.1 (237 + 6) (D 2) = _ from u2, mf]
        by_cases z : a ≤ ud D x0
        · rw [if_pos (show nI a ≤ nI (ud D x0) from nI_le z (by omega)), if_pos z]
          exact ih fu a h3 (by simp at hf; omega) (SF.trans f d3) d4 ha
        · rw [if_neg (show ¬ nI a ≤ nI (ud D x0) from nI_ge (by omega) (by omega)), if_neg z]
          exact ih fu _ h3 (by simp at hf; omega) (SF.trans f d3) d4 (by omega)
  obtain ⟨h2, e1, e2⟩ := key (FH D) N 99999999 h1 (by have : (FH D).length ≤ 2000000 := LR_few c.1 (D 1) (HSt D) 0 (Nat.le_refl _); omega) b2 b3 (Nat.le_refl _)
  exact ⟨h1, h2, b1, e1, e2⟩
end HIT
theorem q_hire {N : Nat} {h : HS} (I : INV h) (hN : 1000000000 ≤ N) (a : Int32) : ∃ r h1 h2, X10_hire N h 1 a = some (r, h1) ∧ X11_hire N h1 237 a = some (r, h2) ∧ Same h h2 := by
  unfold X10_hire X11_hire
  rcases opn (N := N) I a with ⟨e1, e2⟩ | ⟨p, q, D, e1, hp, c, e2⟩
  · exact ⟨-1, h, h, by rw [e1]; rfl, by rw [e2 h (Same.refl h)]; rfl, Same.refl h⟩
  · rw [e1, bd1_some, if_neg hp]
    obtain ⟨h1, a1, a2⟩ := c_hired (N := N) (by omega) c
    obtain ⟨h2, e3, rh, sm, _⟩ := e2 h1 (CF_same a2)
    obtain ⟨h3, h4, b1, b2, b3⟩ := r_hired hN rh
    refine ⟨hiV D, h1, h4, ?_, ?_, Same.trans sm (SF_same b3)⟩
    · rw [show X5_hired N h (1 + 170) p = _ from a1]; rfl
    · rw [e3, bd2_some, if_neg one0, r_everybody rh, bd1_some, rh1 rh, rh2 rh, b1, bd1_some, b2]
