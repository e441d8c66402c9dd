/-! ===== level 2: fits, odds ===== -/
section ODD
variable {N : Nat} {p pm q qm : Nat} {D : Nat → Nat} {m : Nat} {K W : Nat → Nat}
def nbB (W : Nat → Nat) (B : Nat) : Nat → Nat → Bool
  | 0, _ => true
  | r + 1, k => decide (W k < B) && nbB W B r (k + 1)
theorem c_numbersBelow {h : HS} (hN : 100 ≤ N) (c : FC h pm m K W) {B : Nat} (hB : B < 2 ^ 31) : X6_numbersBelow N h pm (nI B) = some (nB (nbB W B m 0 = true)) := by
  obtain ⟨c1, c2, c3, c4, c5, c6, c7, c8⟩ := c
  have key : ∀ (r k fu : Nat), k + r = m → r < fu → X6_numbersBelow_l2 N h fu pm (nI B) (nI k) = some (nB (nbB W B r k = true)) := by
    intro r
    induction r with
    | zero =>
      intro k fu e hf
      obtain ⟨fu, rfl, _⟩ := fuel hf
      rw [X6_numbersBelow_l2, c6, if_pos (nI_le (by omega) (by omega))]
      rfl
    | succ r ih =>
      intro k fu e hf
      obtain ⟨fu, rfl, _⟩ := fuel hf
      obtain ⟨d1, d2, d3, d4⟩ := c8 k (by omega)
      rw [X6_numbersBelow_l2, c6, if_neg (nI_ge (by omega) (by omega)), c7, if_neg (show ¬ (8 : Int32) ≤ nI k from nI_ge (b := 8) (by omega) (by decide)), c3, if_neg (nI_in (by omega) (by decide)), nI_clamp (by omega), d4, nbB, nI_1, ih (k + 1) fu (by omega) (by omega)]
      by_cases z : W k < B
      · rw [if_pos (nI_lt z hB)]
        simp [z]
      · rw [if_neg (nI_nlt (by omega) (by omega))]
        simp [z, nB]
        rfl
  exact key m 0 N (by omega) (by omega)
def drR (D : Nat → Nat) (x : List Nat) (s : Nat) : Nat := if s < D 2 then dv D x s (ctn D (D 1)) else 0
theorem dr_dd (k : HK D) (x : List Nat) {s : Nat} (h : s = 5 ∨ s < D 2) : drR D x s = ddC D x s := by
  have := hk0 k
  unfold drR ddC
  rcases h with h | h
  · rw [if_neg (by omega), if_pos h]
  · rw [if_pos h, if_neg (by omega)]
theorem r_dreamsBy {h : HS} {x : List Nat} {L : List (List Nat)} {s : Nat} (hN : 1000000000 ≤ N) (c : RH h q D) (hL : LR D (D 1) (EV D) 0 = x :: L) (hs : s < 6) : ∃ h', X11_dreamsBy N h 237 (nI s) = some (nI (dv D x s (ctn D (D 1))), h') ∧ SF h h' := by
  have he := ev_lt c.1
  unfold X11_dreamsBy
  rw [r_everybody c, bd1_some, rh1 c]
  rcases r_isRota (N := N) (m := D 1) (set := EV D) (more := 0) hN c (Nat.le_refl _) (by decide) (by omega) with ⟨b1, _⟩ | ⟨y, L', h3, b1, b2, b3, b4, b5⟩
  · rw [hL] at b1; cases b1
  · rw [hL] at b1
    have : x = y := by injection b1
    subst this
    have hx := (LR_ok (D := D) (m := D 1) (more := 0) (x := x) (by rw [hL]; exact List.mem_cons_self ..)).2.2
    rw [show X11_isRota N h 237 (nI (D 1)) (nI (EV D)) 0 = _ from b2, bd2_some, if_neg one0, r_dreams (by omega) b5 (Nat.le_refl _) hx hs]
    exact ⟨h3, rfl, b3⟩
def SM (h h' : HS) : Prop := (∀ k, k ≠ 237 → k ≠ 241 → k ≠ 242 → k ≠ 243 → k ≠ 244 → k ≠ 256 → h'.1 k = h.1 k) ∧ (∀ j, j ≠ 20 → j ≠ 21 → j ≠ 22 → h'.1 237 j = h.1 237 j)
theorem SM_SF {h h' : HS} (f : SF h h') : SM h h' := ⟨fun k h1 h2 h3 h4 h5 _ => f.1 k h1 h2 h3 h4 h5, f.2.1⟩
theorem SM.trans {a b c : HS} (x : SM a b) (y : SM b c) : SM a c := ⟨fun k h1 h2 h3 h4 h5 h6 => (y.1 k h1 h2 h3 h4 h5 h6).trans (x.1 k h1 h2 h3 h4 h5 h6), fun j h1 h2 h3 => (y.2 j h1 h2 h3).trans (x.2 j h1 h2 h3)⟩
theorem SM_same {h h' : HS} (f : SM h h') : Same h h' := fun k hk => f.1 k (by omega) (by omega) (by omega) (by omega) (by omega) (by omega)
theorem SM_rh {h h' : HS} (f : SM h h') (c : RH h q D) : RH h' q D := by
  obtain ⟨c1, c2, c3, c4, c5, c6, c7⟩ := c
  refine ⟨c1, c2, ?_, ?_, ?_, ?_, ?_⟩
  · rw [f.2 _ (by decide) (by decide) (by decide)]; exact c3
  · rw [f.2 _ (by decide) (by decide) (by decide)]; exact c4
  · rw [f.2 _ (by decide) (by decide) (by decide)]; exact c5
  · rw [f.2 _ (by decide) (by decide) (by decide)]; exact c6
  · rw [f.1 238 (by decide) (by decide) (by decide) (by decide) (by decide) (by decide)]; exact c7
theorem SM_fr {h h' : HS} (f : SM h h') (c : FR h qm m K W) : FR h' qm m K W := by
  unfold FR
  rw [f.2 48 (by decide) (by decide) (by decide), f.1 238 (by decide) (by decide) (by decide) (by decide) (by decide) (by decide)]
  exact c
theorem r_areDreams {h : HS} (hN : 1000000000 ≤ N) (c : RH h q D) (fr : FR h qm m K W) :
    (∃ h', X11_areDreams N h 237 = some (0, h') ∧ SM h h' ∧ (LR D (D 1) (EV D) 0 = [] ∨ nbB W (D 0) m 0 = false)) ∨
    (∃ x L h', X11_areDreams N h 237 = some (1, h') ∧ SM h h' ∧ LR D (D 1) (EV D) 0 = x :: L ∧ nbB W (D 0) m 0 = true ∧ ∀ s, s < 6 → h'.1 256 s = nI (drR D x s)) := by
  have hk := hk0 c.1
  have he := ev_lt c.1
  have l16 : ∀ (r k fu : Nat) (h1 : HS) (b : Bool), k + r = m → r < fu → SM h h1 → X11_areDreams_l16 N fu h1 237 (nB (b = true)) (nI k) = X11_areDreams_l69 N N h1 237 (nB ((b && nbB W (D 0) r k) = true)) 0 := by
    intro r
    induction r with
    | zero =>
      intro k fu h1 b e hf f
      obtain ⟨fu, rfl, _⟩ := fuel hf
      obtain ⟨f1, f2, f3, f4, f5⟩ := SM_fr f fr
      rw [X11_areDreams_l16, f3, if_neg (nI_in (by omega) (by decide)), nI_clamp (by omega), show h1.1 (237 + 1) qm = _ from f4, if_pos (nI_le (by omega) (by omega))]
      simp [nbB]
    | succ r ih =>
      intro k fu h1 b e hf f
      obtain ⟨fu, rfl, _⟩ := fuel hf
      obtain ⟨f1, f2, f3, f4, f5⟩ := SM_fr f fr
      obtain ⟨d1, d2, d3, d4⟩ := f5 k (by omega)
      rw [X11_areDreams_l16, f3, if_neg (nI_in (by omega) (by decide)), nI_clamp (by omega), show h1.1 (237 + 1) qm = _ from f4, if_neg (nI_ge (by omega) (by omega)), show nI qm + 2 + 2 * nI k = nI (qm + 2 + 2 * k) by rw [zn2, nI_add, pk_mul, nI_add], if_neg (nI_in (by omega) (by decide)), nI_clamp (by omega), show h1.1 (237 + 1) (qm + 2 + 2 * k) = _ from d4, rh0 (SM_rh f c), nI_1]
      have i0 := ih (k + 1) fu h1 false (by omega) (by omega) f
      have i1 := ih (k + 1) fu h1 true (by omega) (by omega) f
      rw [nB_f (by decide)] at i0
      rw [nB_t rfl] at i1
      simp only [nB_0]
      cases b with
      | false => rw [if_pos (by decide), i0]; simp [nbB]
      | true =>
        rw [if_neg (by decide)]
        by_cases z : W k < D 0
        · rw [if_neg (nI_ge z (by omega)), i1]; simp [nbB, z]
        · rw [if_pos (nI_le (by omega) (by omega)), i0]; simp [nbB, z]
  unfold X11_areDreams
  rw [r_everybody c, bd1_some, rh1 c]
  rcases r_isRota (N := N) (m := D 1) (set := EV D) (more := 0) hN c (Nat.le_refl _) (by decide) (by omega) with ⟨b1, h1, b2, b3⟩ | ⟨x, L, h1, b1, b2, b3, b4, b5⟩
  · left
    obtain ⟨M, hM, _⟩ := fuel (show 0 < N by omega)
    refine ⟨h1, ?_, SM_SF b3, Or.inl b1⟩
    have e := l16 m 0 N h1 false (by omega) (by have := fr.1; omega) (SM_SF b3)
    rw [nB_f (by decide)] at e
    rw [show X11_isRota N h 237 (nI (D 1)) (nI (EV D)) 0 = _ from b2, bd2_some, show X11_areDreams_l16 N N h1 237 0 0 = _ from e, Bool.false_and, nB_f (by decide)]
    conv => lhs; rw [hM]
    rw [X11_areDreams_l69, if_neg (by decide), if_pos rfl]
    rfl
  · have e := l16 m 0 N h1 true (by omega) (by have := fr.1; omega) (SM_SF b3)
    rw [nB_t rfl, Bool.true_and] at e
    rw [show X11_isRota N h 237 (nI (D 1)) (nI (EV D)) 0 = _ from b2, bd2_some, show X11_areDreams_l16 N N h1 237 1 0 = _ from e]
    by_cases z : nbB W (D 0) m 0 = true
    · right
      rw [nB_t z]
      have key : ∀ (r s fu : Nat) (h' : HS), s + r = 6 → r < fu → SM h h' → (∀ t, t < s → h'.1 256 t = nI (drR D x t)) → ∃ h2, X11_areDreams_l69 N fu h' 237 1 (nI s) = some (1, h2) ∧ SM h h2 ∧ ∀ t, t < 6 → h2.1 256 t = nI (drR D x t) := by
        intro r
        induction r with
        | zero =>
          intro s fu h' e hf f g
          obtain ⟨fu, rfl, _⟩ := fuel hf
          refine ⟨h', ?_, f, fun t ht => g t (by omega)⟩
          rw [X11_areDreams_l69, if_pos (show (6 : Int32) ≤ nI s from nI_le (a := 6) (by omega) (by omega))]
          rfl
        | succ r ih =>
          intro s fu h' e hf f g
          obtain ⟨fu, rfl, _⟩ := fuel hf
          have step : ∀ h2 v, SM h h2 → (∀ t, t < s → h2.1 256 t = nI (drR D x t)) → v = nI (drR D x s) → ∃ h3, X11_areDreams_l69 N fu (wi h2 (237 + 19) s v) 237 1 (nI (s + 1)) = some (1, h3) ∧ SM h h3 ∧ ∀ t, t < 6 → h3.1 256 t = nI (drR D x t) := by
            intro h2 v f2 g2 hv
            refine ih (s + 1) fu _ (by omega) (by omega) (SM.trans f2 ⟨fun k h1 _ _ _ _ h6 => wi_k _ _ h6, fun j _ _ _ => by rw [wi_k _ _ (by decide)]⟩) (fun t ht => ?_)
            by_cases y : t = s
            · rw [y, ← hv]; exact wi_s _ _ _ _
            · rw [show (237 + 19 : Nat) = 256 from rfl, wi_j _ _ y]; exact g2 t (by omega)
          rw [X11_areDreams_l69, if_neg (show ¬ (6 : Int32) ≤ nI s from nI_ge (b := 6) (by omega) (by decide)), if_neg one0, rh2 (SM_rh f c), nI_1]
          by_cases y : s < D 2
          · obtain ⟨h2, c1, c2⟩ := r_dreamsBy (s := s) hN (SM_rh f c) b1 (by omega)
            rw [if_neg (nI_ge y (by omega)), c1, bd2_some, if_neg (nI_in (by omega) (by decide)), sq_eq, nI_clamp (by omega)]
            exact step h2 _ (SM.trans f (SM_SF c2)) (fun t ht => by rw [c2.1 256 (by decide) (by decide) (by decide) (by decide) (by decide)]; exact g t ht) (by unfold drR; rw [if_pos y])
          · rw [if_pos (nI_le (by omega) (by omega)), if_neg (nI_in (by omega) (by decide)), sq_eq, nI_clamp (by omega)]
            exact step h' _ f g (by unfold drR; rw [if_neg y]; rfl)
      obtain ⟨h2, c1, c2, c3⟩ := key 6 0 N h1 (by omega) (by omega) (SM_SF b3) (fun t ht => by omega)
      exact ⟨x, L, h2, c1, c2, b1, z, c3⟩
    · left
      obtain ⟨M, hM, _⟩ := fuel (show 0 < N by omega)
      refine ⟨h1, ?_, SM_SF b3, Or.inr (by simpa using z)⟩
      rw [nB_f z]
      conv => lhs; rw [hM]
      rw [X11_areDreams_l69, if_neg (by decide), if_pos rfl]
      rfl
theorem r_isSo {h : HS} {x : List Nat} (hN : 100 ≤ N) (c : RH h q D) (fr : FR h qm m K W) (hd : ∀ s, s < 6 → h.1 256 s = nI (drR D x s)) (hdl : ∀ s, s < 6 → drR D x s < 64) {s : Nat} (hs : s < 6) : X11_isSo N h 237 (nI s) = some (nB (ftB D x m K W s = true)) := by
  have hk := hk0 c.1
  obtain ⟨f1, f2, f3, f4, f5⟩ := fr
  have key : ∀ (r k fu : Nat) (b : Bool), k + r = m → r < fu → X11_isSo_l21 N h fu 237 (nI s) (nB (b = true)) (nI k) = some (nB ((b && agB K W (drR D x s) r k) = true)) := by
    intro r
    induction r with
    | zero =>
      intro k fu b e hf
      obtain ⟨fu, rfl, _⟩ := fuel hf
      rw [X11_isSo_l21, f3, if_neg (nI_in (by omega) (by decide)), nI_clamp (by omega), show h.1 (237 + 1) qm = _ from f4, if_pos (nI_le (by omega) (by omega)), nz_nB]
      simp [agB]
    | succ r ih =>
      intro k fu b e hf
      obtain ⟨fu, rfl, _⟩ := fuel hf
      obtain ⟨d1, d2, d3, d4⟩ := f5 k (by omega)
      have hl := hdl s hs
      rw [X11_isSo_l21, f3, if_neg (nI_in (by omega) (by decide)), nI_clamp (by omega), show h.1 (237 + 1) qm = _ from f4, if_neg (nI_ge (by omega) (by omega)), if_neg (nI_in (by omega) (by decide)), show nI qm + 2 + 2 * nI k = nI (qm + 2 + 2 * k) by rw [zn2, nI_add, pk_mul, nI_add], if_neg (nI_in (by omega) (by decide)), show nI qm + 1 + 2 * nI k = nI (qm + 1 + 2 * k) by rw [zn2, nI_1, pk_mul, nI_add], if_neg (nI_in (by omega) (by decide)), nI_clamp (show qm + 2 + 2 * k < 2 ^ 31 by omega), nI_clamp (show qm + 1 + 2 * k < 2 ^ 31 by omega), nI_clamp (show s < 2 ^ 31 by omega), show h.1 (237 + 1) (qm + 2 + 2 * k) = _ from d4, show h.1 (237 + 1) (qm + 1 + 2 * k) = _ from d3, show h.1 (237 + 19) s = _ from hd s hs, bi_n (by omega) (by omega), nI_1]
      have i0 := ih (k + 1) fu false (by omega) (by omega)
      have i1 := ih (k + 1) fu true (by omega) (by omega)
      rw [nB_f (by decide)] at i0
      rw [nB_t rfl] at i1
      simp only [nB_0]
      cases b with
      | false => rw [if_pos (by decide), i0]; simp [agB]
      | true =>
        rw [if_neg (by decide), i0, i1]
        have hK : K k = 0 ∨ K k = 1 := by omega
        rcases hK with z | z
        · by_cases y : (drR D x s).testBit (W k) = true
          · rw [nB_t y, z, if_pos (by decide)]; simp [agB, z, y]
          · rw [nB_f y, z, if_neg (by decide)]; simp [agB, z, y]
        · by_cases y : (drR D x s).testBit (W k) = true
          · rw [nB_t y, z, if_neg (by decide)]; simp [agB, z, y]
          · rw [nB_f y, z, if_pos (by decide)]; simp [agB, z, y]
  have k1 := key m 0 N true (by omega) (by omega)
  have k0 := key m 0 N false (by omega) (by omega)
  rw [nB_t rfl, Bool.true_and] at k1
  rw [nB_f (by decide), Bool.false_and] at k0
  unfold X11_isSo ftB
  rw [rh2 c]
  by_cases z : s = 5
  · rw [if_pos (by rw [z]; rfl), show X11_isSo_l21 N h N 237 (nI s) 1 0 = _ from k1, dr_dd c.1 x (Or.inl z)]
    simp [z]
  · rw [if_neg (show ¬ nI s = 5 from fun w => z ((nI_eq (b := 5) (by omega) (by decide)).mp w))]
    by_cases y : s < D 2
    · rw [if_neg (nI_ge y (by omega)), show X11_isSo_l21 N h N 237 (nI s) 1 0 = _ from k1, dr_dd c.1 x (Or.inr y)]
      simp [y]
    · rw [if_pos (nI_le (by omega) (by omega)), show X11_isSo_l21 N h N 237 (nI s) 0 0 = _ from k0]
      simp [y, z]
/-- all that is asked of who fits, by bits -/
theorem cnt6 : ∀ F, F < 64 → zl (fun s a => if F.testBit s = true then a + 1 else a) 6 0 0 = cnt10 F := by decide +kernel
def fst6 (F : Nat) : Nat → Nat → Nat
  | 0, i => i
  | r + 1, i => if F.testBit i = true then i else fst6 F r (i + 1)
theorem fst_kb : ∀ F, F < 64 → cnt10 F = 1 → kb F 0 6 0 0 = some (fst6 F 6 0) := by decide +kernel
theorem cnt_0 : ∀ F, F < 64 → (cnt10 F = 0 ↔ F = 0) := by decide +kernel
theorem fst6_le (F : Nat) : ∀ r i, fst6 F r i ≤ i + r := by
  intro r
  induction r with
  | zero => intro i; exact Nat.le_refl _
  | succ r ih =>
    intro i
    rw [fst6]
    by_cases z : F.testBit i = true
    · rw [if_pos z]; omega
    · rw [if_neg z]; have := ih (i + 1); omega
end ODD
