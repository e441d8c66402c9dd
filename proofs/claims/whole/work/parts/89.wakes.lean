/-! ===== level 2: wakes, sleep, census, change ===== -/
section WAK
variable {N : Nat} {p q : Nat} {D g : Nat → Nat}
abbrev gr (D : Nat → Nat) (b : Nat) : Nat := D (19 + 4 * b)
theorem c_enter {h : HS} (c : KH h p D) : ∃ h', X0_enter N h 198 p = some h' ∧ CX h' p D (gr D) ∧ (∀ k, k ≠ 209 → h'.1 k = h.1 k) := by
  have hk := hk0 c.2.1
  have hp := c.1.2.2.2.2.2.2.2.2.2.2
  refine ⟨wa (wr h 198 p) 209 (va_cpy (h.1 (p + 5)) (h.1 209) 0 0 8), rfl, ⟨?_, ?_, ?_⟩, ?_⟩
  · rw [wa_2]; exact wr_s _ _ _
  · exact KH_fr (h := h) (fun k h1 h2 => by rw [wa_k _ _ (by omega)]; rfl) c
  · intro b hb
    have hB := hkB c.2.1 hb
    refine ⟨by show D (19 + 4 * b) ≤ 5; omega, ?_⟩
    rw [wa_s, pk_cpy_in (by omega) (by omega), show 0 + (b - 0) = b by omega]
    exact chGr c hb
  · intro k hk
    rw [wa_k _ _ hk]; rfl
theorem en_same {h h' : HS} (e : ∀ k, k ≠ 209 → h'.1 k = h.1 k) : Same h h' := fun k hk => e k (by omega)
theorem r_floors {h : HS} (c : RH h q D) (hN : 100 ≤ N) : ∃ h', X11_floorsAsTold N h 237 = some h' ∧ RX h' q D (gr D) ∧ (∀ k, k ≠ 246 → h'.1 k = h.1 k) := by
  have hk := hk0 c.1
  have rhf : ∀ h' : HS, (∀ k, k ≠ 246 → h'.1 k = h.1 k) → RH h' q D := by
    intro h' e
    unfold RH at c ⊢
    rw [e 237 (by decide), e 238 (by decide)]
    exact c
  have key : ∀ (r i fu : Nat) (h' : HS), i + r = D 1 → r < fu → (∀ k, k ≠ 246 → h'.1 k = h.1 k) → (∀ b, b < i → h'.1 246 b = nI (gr D b)) → ∃ h2, X11_floorsAsTold_l2 N fu h' 237 (nI i) = some h2 ∧ (∀ k, k ≠ 246 → h2.1 k = h.1 k) ∧ ∀ b, b < D 1 → h2.1 246 b = nI (gr D b) := by
    intro r
    induction r with
    | zero =>
      intro i fu h' e hf f g
      obtain ⟨fu, rfl, _⟩ := fuel hf
      refine ⟨h', ?_, f, fun b hb => g b (by omega)⟩
      rw [X11_floorsAsTold_l2, rh1 (rhf h' f), if_pos (nI_le (by omega) (by omega))]
    | succ r ih =>
      intro i fu h' e hf f g
      obtain ⟨fu, rfl, _⟩ := fuel hf
      rw [X11_floorsAsTold_l2, rh1 (rhf h' f), if_neg (nI_ge (by omega) (by omega)), r_floorOf (rhf h' f) (by omega), bd1_some, if_neg (nI_in (by omega) (by decide)), sq_eq, nI_clamp (by omega), nI_1]
      refine ih (i + 1) fu _ (by omega) (by omega) (fun k hk => by rw [wi_k _ _ hk]; exact f k hk) (fun b hb => ?_)
      by_cases y : b = i
      · rw [y]; exact wi_s _ _ _ _
      · rw [show (237 + 9 : Nat) = 246 from rfl, wi_j _ _ y]; exact g b (by omega)
  obtain ⟨h2, a1, a2, a3⟩ := key (D 1) 0 N h (by omega) (by omega) (fun _ _ => rfl) (fun b hb => by omega)
  exact ⟨h2, a1, ⟨rhf h2 a2, fun b hb => ⟨by have := hkB c.1 hb; show D (19 + 4 * b) ≤ 5; omega, a3 b hb⟩⟩, a2⟩
theorem fl_same {h h' : HS} (e : ∀ k, k ≠ 246 → h'.1 k = h.1 k) : Same h h' := fun k hk => e k (by omega)
/-- a part, as both tell it -/
def ptV (D : Nat → Nat) (u : Nat) (v : Int32) : Int64 := lN (if v = 0 then u / Nat.gcd u (tns D) else tns D / Nat.gcd u (tns D))
theorem c_ptV {h : HS} (hN : 1000 ≤ N) (k : HK D) {u : Nat} (hu : u ≤ 54 * tns D) (v : Int32) : X0_part N h (lN (u * TT D)) v = some (ptV D u v) := by
  have hT := tt_e k
  have hx : u * TT D ≤ 54 * 100000000 := by
    rw [← hT, ← Nat.mul_assoc]
    exact Nat.mul_le_mul_right _ hu
  rw [c_part hN (by omega), (part_eq k).1, (part_eq k).2]
  rfl
theorem gcd_ok (k : HK D) (u : Nat) : 0 < Nat.gcd u (tns D) ∧ Nat.gcd u (tns D) ≤ 100000000 ∧ ¬ lN (Nat.gcd u (tns D)) = 0 := by
  have h1 : 0 < Nat.gcd u (tns D) := Nat.gcd_pos_of_pos_right _ (tn_pos D)
  have h2 : Nat.gcd u (tns D) ≤ tns D := Nat.gcd_le_right _ (tn_pos D)
  have h3 := tn_le k
  refine ⟨h1, by omega, fun w => ?_⟩
  have := (pk_lEQ (b := 0) (by omega) (by decide)).mp w
  omega
theorem r_tn {h : HS} (k : HK D) (hN : 100 ≤ N) : X11_tens N h (nI (D 1)) = some (lN (tns D)) := r_tens hN (hk0 k).2.1
theorem r_cm {h : HS} (k : HK D) (hN : 1000000000 ≤ N) {u : Nat} (hu : u < 2 ^ 62) : X11_common N h (lN u) (lN (tns D)) = some (lN (Nat.gcd u (tns D))) := r_common hN hu (tn_le k)
theorem r_dv (k : HK D) {u : Nat} (hu : u < 2 ^ 62) : lN u / lN (Nat.gcd u (tns D)) = lN (u / Nat.gcd u (tns D)) ∧ lN (tns D) / lN (Nat.gcd u (tns D)) = lN (tns D / Nat.gcd u (tns D)) := by
  obtain ⟨g1, g2, g3⟩ := gcd_ok k u
  have ht := tn_le k
  exact ⟨pk_lDiv (by omega) g1 (by omega), pk_lDiv (by omega) g1 (by omega)⟩
end WAK
theorem q_wakes {N : Nat} {h : HS} (I : INV h) (hN : 1000000000 ≤ N) (a b : Int32) : ∃ r h1 h2, X10_wakes N h 1 a b = some (r, h1) ∧ X11_wakes N h1 237 a b = some (r, h2) ∧ Same h h2 := by
  unfold X10_wakes X11_wakes
  rcases opn (N := N) I a with ⟨e1, e2⟩ | ⟨p, q, D, e1, hp, c, e2⟩
  · exact ⟨-1, h, h, by rw [e1]; rfl, by rw [e2 h (Same.refl h)]; rfl, Same.refl h⟩
  · have hk := hk0 c.2.1
    have hw := wk_le c.2.1 (gr D)
    have ht := tn_le c.2.1
    obtain ⟨g1, g2, g3⟩ := gcd_ok c.2.1 (wkV D (gr D))
    rw [e1, bd1_some, if_neg hp]
    obtain ⟨h1, a1, a2, a3⟩ := c_enter (N := N) c
    obtain ⟨h2, e3, rh, sm, _⟩ := e2 h1 (en_same a3)
    obtain ⟨h3, b1, b2, b3⟩ := r_floors (N := N) rh (by omega)
    refine ⟨ptV D (wkV D (gr D)) b, h1, h3, ?_, ?_, Same.trans sm (fl_same b3)⟩
    · rw [show X0_enter N h (1 + 197) p = _ from a1, bd1_some, show X0_mean N h1 (1 + 197) = _ from c_mean a2 (by omega), bd1_some, c_ptV (by omega) c.2.1 hw, bd1_some]
    · rw [e3, bd2_some, if_neg one0, b1, bd1_some, r_wakesOf b2 (by omega), bd1_some, rh1 b2.1]
      simp only [r_tn c.2.1 (show 100 ≤ N by omega), r_cm c.2.1 hN (show wkV D (gr D) < 2 ^ 62 by omega), bd1_some, if_neg g3, (r_dv c.2.1 (show wkV D (gr D) < 2 ^ 62 by omega)).1, (r_dv c.2.1 (show wkV D (gr D) < 2 ^ 62 by omega)).2]
      unfold ptV
      by_cases z : b = 0
      · rw [if_pos z, if_pos z]
      · rw [if_neg z, if_neg z]
theorem q_sleep {N : Nat} {h : HS} (I : INV h) (hN : 1000000000 ≤ N) (a b d : Int32) : ∃ r h1 h2, X10_sleep N h 1 a b d = some (r, h1) ∧ X11_sleep N h1 237 a b d = some (r, h2) ∧ Same h h2 := by
  unfold X10_sleep X11_sleep
  rcases opn (N := N) I a with ⟨e1, e2⟩ | ⟨p, q, D, e1, hp, c, e2⟩
  · exact ⟨-1, h, h, by rw [e1]; rfl, by rw [e2 h (Same.refl h)]; rfl, Same.refl h⟩
  · have hk := hk0 c.2.1
    have ht := tn_le c.2.1
    rw [e1, bd1_some, if_neg hp]
    by_cases hb : ∃ f, f < D 0 ∧ b = nI f
    · obtain ⟨f, hf, rfl⟩ := hb
      have hw := as_le D (gr D) f
      obtain ⟨g1, g2, g3⟩ := gcd_ok c.2.1 (asV D (gr D) f)
      rw [c_hasFloor c (by omega), bd1_some, nB_t hf, if_neg one0]
      obtain ⟨h1, a1, a2, a3⟩ := c_enter (N := N) c
      obtain ⟨h2, e3, rh, sm, _⟩ := e2 h1 (en_same a3)
      obtain ⟨h3, b1, b2, b3⟩ := r_floors (N := N) rh (by omega)
      refine ⟨ptV D (asV D (gr D) f) d, h1, h3, ?_, ?_, Same.trans sm (fl_same b3)⟩
      · rw [show X0_enter N h (1 + 197) p = _ from a1, bd1_some, show X0_asleep N h1 (1 + 197) (nI f) = _ from c_asleep a2 (by omega) (by omega), bd1_some, c_ptV (by omega) c.2.1 (by omega), bd1_some]
      · rw [e3, bd2_some, if_neg one0, r_isFloor rh (by omega), bd1_some, nB_t hf, if_neg one0, b1, bd1_some, r_asleep b2 (by omega) (by omega), bd1_some, rh1 b2.1]
        simp only [r_tn c.2.1 (show 100 ≤ N by omega), r_cm c.2.1 hN (show asV D (gr D) f < 2 ^ 62 by omega), bd1_some, if_neg g3, (r_dv c.2.1 (show asV D (gr D) f < 2 ^ 62 by omega)).1, (r_dv c.2.1 (show asV D (gr D) f < 2 ^ 62 by omega)).2]
        unfold ptV
        by_cases z : d = 0
        · rw [if_pos z, if_pos z]
        · rw [if_neg z, if_neg z]
    · obtain ⟨h2, e3, rh, sm, _⟩ := e2 h (Same.refl h)
      have n1 : X1_hasFloor N h p b = some 0 := by
        rcases i_cases b with z | ⟨j, hj, rfl⟩
        · exact (c_neg z).1
        · rw [c_hasFloor c hj, nB_f (fun w => hb ⟨j, w, rfl⟩)]
      have n2 : X11_isFloor N h2 237 b = some 0 := by
        rcases i_cases b with z | ⟨j, hj, rfl⟩
        · exact (r_neg rh z).1
        · rw [r_isFloor rh hj, nB_f (fun w => hb ⟨j, w, rfl⟩)]
      exact ⟨-1, h, h2, by rw [n1]; rfl, by rw [e3, bd2_some, if_neg one0, n2]; rfl, sm⟩
section CEN
variable {N : Nat} {p q : Nat} {D g : Nat → Nat}
/-- the highest floor from which there are so many -/
def tp (D : Nat → Nat) (v : Int32) : Nat → Option Nat
  | 0 => none
  | f + 1 => if up D f < v then tp D v f else some f
theorem zl_end {α : Type} {f : Nat → α → α} (r : Nat) (a : α) : zl f (r + 1) 0 a = f r (zl f r 0 a) := by
  rw [zl_add, Nat.zero_add]
  rfl
theorem tp_zl (D : Nat → Nat) (v : Int32) : ∀ r, zl (fun f o => if up D f < v then o else some f) r 0 none = tp D v r := by
  intro r
  induction r with
  | zero => rfl
  | succ r ih => rw [zl_end, ih, tp]
theorem tp_lt {v : Int32} : ∀ r f, tp D v r = some f → f < r := by
  intro r
  induction r with
  | zero => intro f h; cases h
  | succ r ih =>
    intro f h
    rw [tp] at h
    by_cases z : up D r < v
    · rw [if_pos z] at h; have := ih f h; omega
    · rw [if_neg z] at h; cases h; omega
def cenU (D : Nat → Nat) (n : Nat) : Nat := if n = 0 then tns D else match tp D (nI n) (D 0) with | none => 0 | some f => tns D - asV D (gr D) f
theorem cen_le (D : Nat → Nat) (n : Nat) : cenU D n ≤ tns D := by
  unfold cenU
  by_cases z : n = 0
  · rw [if_pos z]; exact Nat.le_refl _
  · rw [if_neg z]
    cases tp D (nI n) (D 0) with
    | none => exact Nat.zero_le _
    | some f => exact Nat.sub_le _ _
theorem c_atLeast {h : HS} (c : CX h p D (gr D)) (hN : 100 ≤ N) {n : Nat} (hn : n < 2 ^ 31) : X0_atLeast N h 198 (nI n) = some (lN (cenU D n * TT D)) := by
  have hk := hk0 c.2.1.2.1
  have hT := tt_e c.2.1.2.1
  unfold X0_atLeast cenU
  by_cases z : n = 0
  · rw [if_neg (by rw [z]; decide), if_pos z, hT]; rfl
  · rw [if_pos (show (0 : Int32) < nI n from nI_lt (a := 0) (by omega) hn), if_neg z, c.1, ch0 c.2.1]
    have key : ∀ (r fu : Nat), r ≤ D 0 → r < fu → X0_atLeast_l18 N h fu 198 (nI n) (nI r - 1) = some (lN ((match tp D (nI n) r with | none => 0 | some f => tns D - asV D (gr D) f) * TT D)) := by
      intro r
      induction r with
      | zero =>
        intro fu _ hf
        obtain ⟨fu, rfl, _⟩ := fuel hf
        rw [X0_atLeast_l18, if_pos (by decide)]
        simp only [tp]
        rw [Nat.zero_mul]; rfl
      | succ r ih =>
        intro fu hr hf
        obtain ⟨fu, rfl, _⟩ := fuel hf
        have ha := as_le D (gr D) r
        have hle : asV D (gr D) r * TT D ≤ 100000000 := by rw [← hT]; exact Nat.mul_le_mul_right _ ha
        rw [X0_atLeast_l18, nI_pred, if_neg (nI_pos (by omega)), c.1, c_from c.2.1, bd1_some, c_up c.2.1 hN (by omega), bd1_some, tp, c_asleep c hN (by omega), bd1_some]
        by_cases y : up D r < nI n
        · rw [if_pos y, if_pos y, show nI r + (-1) = nI r - 1 from (Int32.sub_eq_add_neg _ _).symm]
          exact ih fu (by omega) (by omega)
        · rw [if_neg y, if_neg y, show (100000000 : Int64) = lN 100000000 from rfl, lN_sub hle]
          simp only
          rw [Nat.sub_mul, hT]
    exact key (D 0) N (Nat.le_refl _) (by omega)
theorem r_census {h : HS} (c : RX h q D (gr D)) (hN : 1000000000 ≤ N) {n : Nat} (hn : n < 2 ^ 31) (v : Int32) : X11_census_l32 N N h 237 (nI n) v (-1) 0 = some (ptV D (cenU D n) v, h) := by
  have hk := hk0 c.1.1
  have ht := tn_le c.1.1
  have hc := cen_le D n
  have b104 : ∀ u : Nat, u ≤ tns D → X11_census_b104 N h 237 v (lN u) = some (ptV D u v, h) := by
    intro u hu
    obtain ⟨g1, g2, g3⟩ := gcd_ok c.1.1 u
    unfold X11_census_b104
    rw [rh1 c.1]
    simp only [r_tn c.1.1 (show 100 ≤ N by omega), r_cm c.1.1 hN (show u < 2 ^ 62 by omega), bd1_some, if_neg g3, (r_dv c.1.1 (show u < 2 ^ 62 by omega)).1, (r_dv c.1.1 (show u < 2 ^ 62 by omega)).2]
    unfold ptV
    by_cases z : v = 0
    · rw [if_pos z, if_pos z]
    · rw [if_neg z, if_neg z]
  have key := lpI (F := fun k i (o : Option Nat) => X11_census_l32 N k h 237 (nI n) v (oI o) (nI i)) (f := fun f o => if up D f < nI n then o else some f) (g := fun o => (if nI n = 0 then bd1 (X11_tens N h (h.1 237 14)) fun r40 => X11_census_b104 N h 237 v r40 else (if oI o = ((-1) : Int32) then X11_census_b104 N h 237 v 0 else bd1 (X11_tens N h (h.1 237 14)) fun r16 => bd1 (X11_asleep N h 237 (oI o)) fun r19 => X11_census_b104 N h 237 v (r16 - r19)))) (M := D 0) (fun _ _ => True) (by
    intro k i o hi _
    refine ⟨?_, trivial⟩
    show X11_census_l32 N (k + 1) h 237 (nI n) v (oI o) (nI i) = X11_census_l32 N k h 237 (nI n) v (oI (if up D i < nI n then o else some i)) (nI (i + 1))
    rw [X11_census_l32, rh0 c.1, if_neg (nI_ge hi (by omega)), r_upFrom c.1 (by omega) (by omega), bd1_some, nI_1, show zl (fun f a => a + nI (D (6 + 2 * f))) (D 0 - i) i 0 = up D i from rfl]
    by_cases y : up D i < nI n
    · rw [if_pos y, if_pos y]
    · rw [if_neg y, if_neg y]; rfl) (by
    intro k o _
    show X11_census_l32 N (k + 1) h 237 (nI n) v (oI o) (nI (D 0)) = _
    rw [X11_census_l32, rh0 c.1, if_pos (nI_le (by omega) (by omega))]) (D 0) 0 N none trivial (by omega) (by omega)
  rw [show X11_census_l32 N N h 237 (nI n) v (-1) 0 = _ from key.1, tp_zl, rh1 c.1, r_tn c.1.1 (by omega), bd1_some, bd1_some]
  unfold cenU
  by_cases z : n = 0
  · rw [if_pos (by rw [z]; rfl), if_pos z]
    exact b104 (tns D) (Nat.le_refl _)
  · rw [if_neg (nI_ne0 (by omega) hn), if_neg z]
    cases hf : tp D (nI n) (D 0) with
    | none =>
      rw [if_pos (show oI none = -1 from rfl)]
      exact b104 0 (Nat.zero_le _)
    | some f =>
      have hlt := tp_lt _ _ hf
      rw [show oI (some f) = nI f from rfl, if_neg (nI_m1 (by omega)), r_asleep c (by omega) (by omega), bd1_some, lN_sub (as_le D (gr D) f)]
      exact b104 _ (Nat.sub_le _ _)
end CEN
theorem q_census {N : Nat} {h : HS} (I : INV h) (hN : 1000000000 ≤ N) (a b d : Int32) : ∃ r h1 h2, X10_census N h 1 a b d = some (r, h1) ∧ X11_census N h1 237 a b d = some (r, h2) ∧ Same h h2 := by
  unfold X10_census X11_census
  rcases opn (N := N) I a with ⟨e1, e2⟩ | ⟨p, q, D, e1, hp, c, e2⟩
  · exact ⟨-1, h, h, by rw [e1]; rfl, by rw [e2 h (Same.refl h)]; rfl, Same.refl h⟩
  · have ht := tn_le c.2.1
    rw [e1, bd1_some, if_neg hp]
    rcases i_cases b with z | ⟨n, hn, rfl⟩
    · obtain ⟨h2, e3, rh, sm, _⟩ := e2 h (Same.refl h)
      exact ⟨-1, h, h2, by rw [if_pos z], by rw [e3, bd2_some, if_neg one0, r_isIn, bd1_some, inneg z]; rfl, sm⟩
    · rw [if_neg (nI_pos hn)]
      by_cases z : n ≤ 54
      · rw [if_pos (show nI n ≤ 54 from nI_le (b := 54) z (by decide))]
        obtain ⟨h1, a1, a2, a3⟩ := c_enter (N := N) c
        obtain ⟨h2, e3, rh, sm, _⟩ := e2 h1 (en_same a3)
        obtain ⟨h3, b1, b2, b3⟩ := r_floors (N := N) rh (by omega)
        have hc := cen_le D n
        refine ⟨ptV D (cenU D n) d, h1, h3, ?_, ?_, Same.trans sm (fl_same b3)⟩
        · rw [show X0_enter N h (1 + 197) p = _ from a1, bd1_some, show X0_atLeast N h1 (1 + 197) (nI n) = _ from c_atLeast a2 (by omega) hn, bd1_some, c_ptV (by omega) c.2.1 (by omega), bd1_some]
        · rw [e3, bd2_some, if_neg one0, r_isIn, bd1_some, nB_t (show 0 ≤ nI n ∧ nI n ≤ 54 from ⟨nI_pos' hn, nI_le (b := 54) z (by decide)⟩), if_neg one0, b1, bd1_some, r_census b2 hN hn]
      · obtain ⟨h2, e3, rh, sm, _⟩ := e2 h (Same.refl h)
        have nz : ¬ nI n ≤ 54 := nI_ge (a := 54) (by omega) hn
        exact ⟨-1, h, h2, by rw [if_neg nz], by rw [e3, bd2_some, if_neg one0, r_isIn, bd1_some, nB_f (fun w => nz w.2)]; rfl, sm⟩
