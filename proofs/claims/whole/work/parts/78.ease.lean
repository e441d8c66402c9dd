/-! ===== level 2: few, ease, hire ===== -/
section BST
def bst (P : Nat → Bool) (t : Nat) (o : Option Nat) : Option Nat := match o with | none => if P t = true then some t else none | some s => if cnt10 s ≤ cnt10 t then some s else if P t = true then some t else some s
def IsB (P : Nat → Bool) (M : Nat) (o : Option Nat) : Prop := (o = none → ∀ t, t < M → ¬ P t = true) ∧ ∀ s, o = some s → s < M ∧ P s = true ∧ ∀ t, t < M → P t = true → cnt10 s < cnt10 t ∨ (cnt10 s = cnt10 t ∧ s ≤ t)
theorem bst_is (P : Nat → Bool) (M : Nat) : IsB P M (zl (bst P) M 0 none) := by
  have := zl_inv (f := bst P) (fun i o => IsB P i o) M 0 none ⟨fun _ t ht => by omega, fun s h => by cases h⟩ (by
    intro j _ hj o ⟨h1, h2⟩
    cases o with
    | none =>
      simp only [bst]
      by_cases z : P j = true
      · rw [if_pos z]
        refine ⟨fun h => (by cases h), fun s h => ?_⟩
        cases h
        refine ⟨by omega, z, fun t ht pt => ?_⟩
        by_cases y : t = j
        · subst y; exact Or.inr ⟨rfl, Nat.le_refl _⟩
        · exact absurd pt (h1 rfl t (by omega))
      · rw [if_neg z]
        refine ⟨fun _ t ht => ?_, fun s h => by cases h⟩
        by_cases y : t = j
        · rw [y]; exact z
        · exact h1 rfl t (by omega)
    | some s =>
      obtain ⟨a1, a2, a3⟩ := h2 s rfl
      simp only [bst]
      by_cases z : cnt10 s ≤ cnt10 j
      · rw [if_pos z]
        refine ⟨fun h => (by cases h), fun s' h => ?_⟩
        cases h
        refine ⟨by omega, a2, fun t ht pt => ?_⟩
        by_cases y : t = j
        · subst y; omega
        · exact a3 t (by omega) pt
      · rw [if_neg z]
        by_cases x : P j = true
        · rw [if_pos x]
          refine ⟨fun h => (by cases h), fun s' h => ?_⟩
          cases h
          refine ⟨by omega, x, fun t ht pt => ?_⟩
          by_cases y : t = j
          · subst y; exact Or.inr ⟨rfl, Nat.le_refl _⟩
          · have := a3 t (by omega) pt; omega
        · rw [if_neg x]
          refine ⟨fun h => (by cases h), fun s' h => ?_⟩
          cases h
          refine ⟨by omega, a2, fun t ht pt => ?_⟩
          by_cases y : t = j
          · rw [y] at pt; exact absurd pt x
          · exact a3 t (by omega) pt)
  rw [Nat.zero_add] at this
  exact this
theorem IsB_eq {P : Nat → Bool} {M : Nat} {a b : Option Nat} (x : IsB P M a) (y : IsB P M b) : a = b := by
  cases a with
  | none =>
    cases b with
    | none => rfl
    | some s =>
      obtain ⟨b1, b2, _⟩ := y.2 s rfl
      exact absurd b2 (x.1 rfl s b1)
  | some s =>
    obtain ⟨a1, a2, a3⟩ := x.2 s rfl
    cases b with
    | none => exact absurd a2 (y.1 rfl s a1)
    | some t =>
      obtain ⟨b1, b2, b3⟩ := y.2 t rfl
      have h1 := a3 t b1 b2
      have h2 := b3 s a1 a2
      congr 1
      omega
theorem zf_spec {P : Nat → Bool} : ∀ (r i : Nat), (zf P r i = none ∧ ∀ t, i ≤ t → t < i + r → ¬ P t = true) ∨ (∃ s, zf P r i = some s ∧ i ≤ s ∧ s < i + r ∧ P s = true ∧ ∀ t, i ≤ t → t < s → ¬ P t = true) := by
  intro r
  induction r with
  | zero => intro i; exact Or.inl ⟨rfl, fun t h1 h2 => by omega⟩
  | succ r ih =>
    intro i
    by_cases z : P i = true
    · exact Or.inr ⟨i, zf_pos z, by omega, by omega, z, fun t h1 h2 => by omega⟩
    · rw [zf_neg z]
      rcases ih (i + 1) with ⟨a1, a2⟩ | ⟨s, a1, a2, a3, a4, a5⟩
      · refine Or.inl ⟨a1, fun t h1 h2 => ?_⟩
        by_cases y : t = i
        · rw [y]; exact z
        · exact a2 t (by omega) (by omega)
      · refine Or.inr ⟨s, a1, by omega, by omega, a4, fun t h1 h2 => ?_⟩
        by_cases y : t = i
        · rw [y]; exact z
        · exact a5 t (by omega) h2
def zz (P : Nat → Bool) (M : Nat) : Nat → Nat → Option Nat
  | 0, _ => none
  | r + 1, m => match zf (fun t => decide (cnt10 t = m) && P t) M 0 with | some s => some s | none => zz P M r (m + 1)
theorem zz_is (P : Nat → Bool) (M k : Nat) (hc : ∀ t, t < M → cnt10 t ≤ k) : ∀ (r m : Nat), m + r = k + 1 → (∀ t, t < M → P t = true → m ≤ cnt10 t) → IsB P M (zz P M r m) := by
  intro r
  induction r with
  | zero =>
    intro m e h
    refine ⟨fun _ t ht pt => ?_, fun s h => by cases h⟩
    have h1 := h t ht pt
    have h2 := hc t ht
    omega
  | succ r ih =>
    intro m e h
    rw [zz]
    rcases zf_spec (P := fun t => decide (cnt10 t = m) && P t) M 0 with ⟨a1, a2⟩ | ⟨s, a1, a2, a3, a4, a5⟩
    · rw [a1]
      refine ih (m + 1) (by omega) (fun t ht pt => ?_)
      have h1 := h t ht pt
      have h2 := a2 t (by omega) (by omega)
      by_cases y : cnt10 t = m
      · exact absurd (by simp [y, pt]) h2
      · omega
    · rw [a1]
      refine ⟨fun h => (by cases h), fun s' hs' => ?_⟩
      cases hs'
      simp at a4
      refine ⟨by omega, a4.2, fun t ht pt => ?_⟩
      have h1 := h t ht pt
      by_cases y : cnt10 t = m
      · right
        refine ⟨by omega, ?_⟩
        by_cases x : t < s
        · exact absurd (by simp [y, pt]) (a5 t (by omega) x)
        · omega
      · left; omega
theorem cnt_le5 : ∀ k, k < 6 → ∀ t, t < 2 ^ k → cnt10 t ≤ k := by decide +kernel
end BST
section FEW2
variable {N : Nat} {p q : Nat} {D : Nat → Nat}
abbrev fwP (D : Nat → Nat) (t : Nat) : Bool := !(LR D (D 1) t 0).isEmpty
theorem c_few12 {h : HS} (hN : 100 ≤ N) (c : KH h p D) (K : HS → Nat → Nat → Int32 → Option (Int32 × HS)) {many : Nat} (hm : many ≤ 5) : ∀ (r b fu : Nat) (h' : HS), b + r = EV D + 1 → r < fu → CF h h' →
    ∃ h2, CF h h2 ∧ X5_fewest_l12 N K fu h' 171 p (nI many) (nI b) = (match zf (fun t => decide (cnt10 t = many) && fwP D t) r b with | some s => some (nI s, h2) | none => K h2 171 p (nI (many + 1))) := by
  have hk := hk0 c.2.1
  have he := ev_lt c.2.1
  intro r
  induction r with
  | zero =>
    intro b fu h' e hf f
    obtain ⟨fu, rfl, _⟩ := fuel hf
    refine ⟨h', f, ?_⟩
    rw [X5_fewest_l12, c_everybody (CF_kh f c), bd1_some, if_pos (nI_lt (by omega) (by omega)), nI_1]
    rfl
  | succ r ih =>
    intro b fu h' e hf f
    obtain ⟨fu, rfl, _⟩ := fuel hf
    have hb := cnt10_lt b
    rw [X5_fewest_l12, c_everybody (CF_kh f c), bd1_some, if_neg (nI_nlt (by omega) (by omega)), bc_e (by omega), bd1_some]
    by_cases z : cnt10 b = many
    · rw [if_pos (by rw [z])]
      obtain ⟨ha, hb, h3, a1, a2, a3, _, a4⟩ := c_outs (N := N) hN (CF_kh f c) (nI b) (fun t => b.testBit t) (by
        intro t ht
        rw [bi_n (by omega) (by omega), nB_0]
        simp) (set := b) (fun t ht => rfl) (fun t ht => Nat.testBit_lt_two_pow (Nat.lt_of_lt_of_le (show b < 2 ^ D 2 by unfold EV at e; have := Nat.pow_pos (a := 2) (n := D 2) (by decide); omega) (Nat.pow_le_pow_right (by decide) ht)))
      rw [a1, bd1_some, a2, bd1_some]
      rcases a4 with ⟨b1, b2⟩ | ⟨b1, b2⟩
      · rw [b1, bd2_some, if_pos rfl, nI_1, zf_neg (by simp [b2])]
        exact ih (b + 1) fu h3 (by omega) (by omega) (CF.trans f a3)
      · rw [b1, bd2_some, if_neg one0, zf_pos (by simp [z, b2])]
        exact ⟨h3, CF.trans f a3, rfl⟩
    · rw [if_neg (fun w => z ((nI_eq (by omega) (by omega)).mp w)), nI_1, zf_neg (by simp [z])]
      exact ih (b + 1) fu h' (by omega) (by omega) f
theorem c_fewest {h : HS} (hN : 100 ≤ N) (c : KH h p D) : ∃ h', X5_fewest N h 171 p = some (oI (zl (bst (fwP D)) (EV D + 1) 0 none), h') ∧ CF h h' := by
  have hk := hk0 c.2.1
  have he := ev_lt c.2.1
  have key : ∀ (r m fu : Nat) (h' : HS), m + r = D 2 + 1 → r < fu → CF h h' → ∃ h2, X5_fewest_l2 N fu h' 171 p (nI m) = some (oI (zz (fwP D) (EV D + 1) r m), h2) ∧ CF h h2 := by
    intro r
    induction r with
    | zero =>
      intro m fu h' e hf f
      obtain ⟨fu, rfl, _⟩ := fuel hf
      refine ⟨h', ?_, f⟩
      rw [X5_fewest_l2, ch2 (CF_kh f c), if_pos (nI_lt (by omega) (by omega))]
      rfl
    | succ r ih =>
      intro m fu h' e hf f
      obtain ⟨fu, rfl, _⟩ := fuel hf
      rw [X5_fewest_l2, ch2 (CF_kh f c), if_neg (nI_nlt (by omega) (by omega)), zz]
      obtain ⟨h2, f2, e2⟩ := c_few12 (N := N) hN c (X5_fewest_l2 N fu) (many := m) (by omega) (EV D + 1) 0 N h' (by omega) (by omega) f
      rw [show X5_fewest_l12 N (X5_fewest_l2 N fu) N h' 171 p (nI m) 0 = _ from e2]
      rcases zf_spec (P := fun t => decide (cnt10 t = m) && fwP D t) (EV D + 1) 0 with ⟨a1, _⟩ | ⟨s, a1, _⟩
      · rw [a1]
        exact ih (m + 1) fu h2 (by omega) (by omega) f2
      · rw [a1]
        exact ⟨h2, rfl, f2⟩
  obtain ⟨h2, a1, a2⟩ := key (D 2 + 1) 0 N h (by omega) (by omega) (CF.refl h)
  refine ⟨h2, ?_, a2⟩
  unfold X5_fewest
  rw [show X5_fewest_l2 N N h 171 p 0 = _ from a1]
  have hM : EV D + 1 = 2 ^ D 2 := by unfold EV; have := Nat.pow_pos (a := 2) (n := D 2) (by decide); omega
  rw [IsB_eq (zz_is (fwP D) (EV D + 1) (D 2) (fun t ht => cnt_le5 (D 2) (by omega) t (by omega)) (D 2 + 1) 0 (by omega) (fun t _ _ => Nat.zero_le _)) (bst_is (fwP D) (EV D + 1))]
def finB (v : Int32) (o : Option Nat) : Int32 := match o with | none => -1 | some s => if v = 0 then nI (cnt10 s) else nI s
theorem r_few {h : HS} (hN : 1000000000 ≤ N) (c : RH h q D) (v : Int32) : ∃ h', X11_few_l15 N N h 237 v (-1) 0 = some (finB v (zl (bst (fwP D)) (EV D + 1) 0 none), h') ∧ SF h h' := by
  have hk := hk0 c.1
  have he := ev_lt c.1
  have key : ∀ (r t fu : Nat) (h' : HS) (o : Option Nat), t + r = EV D + 1 → r < fu → SF h h' → (∀ s, o = some s → s ≤ EV D) → ∃ h2, X11_few_l15 N fu h' 237 v (oI o) (nI t) = some (finB v (zl (bst (fwP D)) r t o), h2) ∧ SF h h2 := by
    intro r
    induction r with
    | zero =>
      intro t fu h' o e hf f ho
      obtain ⟨fu, rfl, _⟩ := fuel hf
      refine ⟨h', ?_, f⟩
      rw [X11_few_l15, r_everybody (SF_rh f c), bd1_some, if_pos (nI_lt (by omega) (by omega))]
      cases o with
      | none => rw [if_pos (by rfl)]; rfl
      | some s =>
        have hs := ho s rfl
        rw [show oI (some s) = nI s from rfl, if_neg (nI_m1 (by omega)), r_bitsOf (by omega) (by omega), bd1_some]
        simp only [zl, finB]
        by_cases z : v = 0
        · rw [if_pos z, if_pos z]
        · rw [if_neg z, if_neg z]
    | succ r ih =>
      intro t fu h' o e hf f ho
      obtain ⟨fu, rfl, _⟩ := fuel hf
      rw [X11_few_l15, r_everybody (SF_rh f c), bd1_some, if_neg (nI_nlt (by omega) (by omega)), rh1 (SF_rh f c)]
      have ir := r_isRota (N := N) (m := D 1) (set := t) (more := 0) hN (SF_rh f c) (by omega) (by omega) (by omega)
      cases o with
      | none =>
        rw [if_pos (show oI none = -1 from rfl)]
        simp only [zl, bst]
        rcases ir with ⟨b1, h3, b2, b3⟩ | ⟨x, L', h3, b1, b2, b3, _⟩
        · rw [show X11_isRota N h' 237 (nI (D 1)) (nI t) 0 = _ from b2, bd2_some, if_pos rfl, if_neg (by simp [b1]), nI_1]
          exact ih (t + 1) fu h3 none (by omega) (by omega) (SF.trans f b3) (fun s h => by cases h)
        · rw [show X11_isRota N h' 237 (nI (D 1)) (nI t) 0 = _ from b2, bd2_some, if_neg one0, if_pos (by simp [b1]), nI_1]
          exact ih (t + 1) fu h3 (some t) (by omega) (by omega) (SF.trans f b3) (fun s h => by cases h; omega)
      | some s =>
        have hs := ho s rfl
        have c1 := cnt10_lt s
        have c2 := cnt10_lt t
        rw [show oI (some s) = nI s from rfl, if_neg (nI_m1 (by omega)), r_bitsOf (by omega) (by omega), bd1_some, r_bitsOf (by omega) (by omega), bd1_some]
        simp only [zl, bst]
        by_cases z : cnt10 s ≤ cnt10 t
        · rw [if_pos (nI_le z (by omega)), if_pos z, nI_1]
          exact ih (t + 1) fu h' (some s) (by omega) (by omega) f (fun s' h => by cases h; omega)
        · rw [if_neg (nI_ge (by omega) (by omega)), if_neg z]
          rcases ir with ⟨b1, h3, b2, b3⟩ | ⟨x, L', h3, b1, b2, b3, _⟩
          · rw [show X11_isRota N h' 237 (nI (D 1)) (nI t) 0 = _ from b2, bd2_some, if_pos rfl, if_neg (by simp [b1]), nI_1]
            exact ih (t + 1) fu h3 (some s) (by omega) (by omega) (SF.trans f b3) (fun s' h => by cases h; omega)
          · rw [show X11_isRota N h' 237 (nI (D 1)) (nI t) 0 = _ from b2, bd2_some, if_neg one0, if_pos (by simp [b1]), nI_1]
            exact ih (t + 1) fu h3 (some t) (by omega) (by omega) (SF.trans f b3) (fun s h => by cases h; omega)
  exact key (EV D + 1) 0 N h none (by omega) (by omega) (SF.refl h) (fun s h => by cases h)
end FEW2
theorem q_few {N : Nat} {h : HS} (I : INV h) (hN : 1000000000 ≤ N) (a b : Int32) : ∃ r h1 h2, X10_few N h 1 a b = some (r, h1) ∧ X11_few N h1 237 a b = some (r, h2) ∧ Same h h2 := by
  unfold X10_few X11_few
  rcases opn (N := N) I a with ⟨e1, e2⟩ | ⟨p, q, D, e1, hp, c, e2⟩
  · exact ⟨-1, h, h, by rw [e1]; rfl, by rw [e2 h (Same.refl h)]; rfl, Same.refl h⟩
  · rw [e1, bd1_some, if_neg hp]
    obtain ⟨h1, a1, a2⟩ := c_fewest (N := N) (by omega) c
    obtain ⟨h2, e3, rh, sm, _⟩ := e2 h1 (CF_same a2)
    obtain ⟨h3, b1, b2⟩ := r_few hN rh b
    have he := ev_lt c.2.1
    refine ⟨finB b (zl (bst (fwP D)) (EV D + 1) 0 none), h1, h3, ?_, ?_, Same.trans sm (SF_same b2)⟩
    · rw [show X5_fewest N h (1 + 170) p = _ from a1, bd2_some]
      have hb := bst_is (fwP D) (EV D + 1)
      generalize zl (bst (fwP D)) (EV D + 1) 0 none = o at hb
      cases o with
      | none => rfl
      | some s =>
        have hs := (hb.2 s rfl).1
        rw [show oI (some s) = nI s from rfl, if_neg (nI_m1 (by omega)), bc_e (by omega), bd1_some]
        simp only [finB]
        by_cases z : b = 0
        · rw [if_pos z, if_pos z]
        · rw [if_neg z, if_neg z]
    · rw [e3, bd2_some, if_neg one0, b1]
