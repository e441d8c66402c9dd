/-! ===== level 2: rota, sung ===== -/
section ROT
variable {N : Nat} {p q : Nat} {D : Nat → Nat}
def leftS (D : Nat → Nat) (loan most s : Nat) : Nat := min (D (51 + 3 * s) + loan) most
theorem c_seat {h : HS} (hN : 100 ≤ N) (c : KH h p D) {loan most : Nat} (hl : loan ≤ 100) (hm : most ≤ 200) : ∃ h', X5_seat N h 171 p (nI loan) (nI most) = some h' ∧ CF h h' ∧ (∀ k, k ≠ 171 → k ≠ 182 → h'.1 k = h.1 k) ∧ h'.2 171 = p ∧ h'.1 171 2 = nI (D 2) ∧ ∀ s, s < D 2 → h'.1 182 s = nI (leftS D loan most s) := by
  have hk := hk0 c.2.1
  have hp := c.1.2.2.2.2.2.2.2.2.2.2
  have key : ∀ (r s fu : Nat) (h' : HS), s + r = D 2 → r < fu → CF h h' → (∀ k, k ≠ 171 → k ≠ 182 → h'.1 k = h.1 k) → h'.2 171 = p → h'.1 171 2 = nI (D 2) → (∀ t, t < s → h'.1 182 t = nI (leftS D loan most t)) →
      ∃ h2, X5_seat_l20 N fu h' 171 p (nI loan) (nI most) (nI s) = some h2 ∧ CF h h2 ∧ (∀ k, k ≠ 171 → k ≠ 182 → h2.1 k = h.1 k) ∧ h2.2 171 = p ∧ h2.1 171 2 = nI (D 2) ∧ ∀ t, t < D 2 → h2.1 182 t = nI (leftS D loan most t) := by
    intro r
    induction r with
    | zero =>
      intro s fu h' e hf f fk e2 e3 e4
      obtain ⟨fu, rfl, _⟩ := fuel hf
      refine ⟨h', ?_, f, fk, e2, e3, fun t ht => e4 t (by omega)⟩
      rw [X5_seat_l20, e3, if_pos (nI_le (by omega) (by omega))]
    | succ r ih =>
      intro s fu h' e hf f fk e2 e3 e4
      obtain ⟨fu, rfl, _⟩ := fuel hf
      have hS := hkS c.2.1 (show s < D 2 by omega)
      have c' := CF_kh f c
      rw [X5_seat_l20, e3, if_neg (nI_ge (by omega) (by omega)), at_in c'.1.2.2.2.2.2.2.2.2.1 (by decide) (by omega), bd1_some, chBr c' (by omega), if_neg (nI_in (by omega) (by decide)), sq_eq, nI_clamp (by omega), nI_1, nI_add]
      have ev : (if nI (D (51 + 3 * s) + loan) < nI most then nI (D (51 + 3 * s) + loan) else nI most) = nI (leftS D loan most s) := by
        unfold leftS
        by_cases z : D (51 + 3 * s) + loan < most
        · rw [if_pos (nI_lt z (by omega)), Nat.min_eq_left (by omega)]
        · rw [if_neg (nI_nlt (by omega) (by omega)), Nat.min_eq_right (by omega)]
      rw [ev]
      refine ih (s + 1) fu _ (by omega) (by omega) (CF.trans f (CF_w _ (by omega))) (fun k h1 h2 => by rw [wi_k _ _ h2]; exact fk k h1 h2) e2 (by rw [wi_k _ _ (by decide)]; exact e3) ?_
      intro t ht
      by_cases y : t = s
      · subst y; exact wi_s _ _ _ _
      · rw [show (171 + 11 : Nat) = 182 from rfl, wi_j _ _ y]; exact e4 t (by omega)
  unfold X5_seat
  rw [sq_eq, sq_eq, wr_1, ch2 c, if_neg (show ¬ (5 : Int32) < nI (D 2) from nI_nlt (a := 5) (by omega) (by decide))]
  refine key (D 2) 0 N _ (by omega) (by omega) ⟨fun k h1 _ _ _ => by rw [wi_k _ _ h1]; rfl, fun k hk => wr_k _ _ hk⟩ (fun k h1 _ => by rw [wi_k _ _ h1]; rfl) (by rw [wi_2]; exact wr_s _ _ _) (wi_s _ _ _ _) (fun t ht => by omega)
theorem c_send {h : HS} (hN : 100 ≤ N) (v : Int32) (P : Nat → Bool) (hP : ∀ s, s < 6 → ((v >>> (nI s &&& 31)) &&& 1 = 0 ↔ P s = false)) {sg : Nat} (h6 : sg ≤ 6) (es : h.1 171 2 = nI sg) {left : Nat → Nat} (hl : ∀ s, s < sg → h.1 182 s = nI (left s)) :
    ∃ h', X5_sendOutAllBut N h 171 v = some h' ∧ (∀ k, k ≠ 182 → h'.1 k = h.1 k) ∧ h'.2 = h.2 ∧ ∀ s, s < sg → h'.1 182 s = nI (if P s = true then left s else 0) := by
  have key : ∀ (r s fu : Nat) (h' : HS), s + r = sg → r < fu → (∀ k, k ≠ 182 → h'.1 k = h.1 k) → h'.2 = h.2 → (∀ t, t < s → h'.1 182 t = nI (if P t = true then left t else 0)) → (∀ t, s ≤ t → t < sg → h'.1 182 t = nI (left t)) →
      ∃ h2, X5_sendOutAllBut_l2 N fu h' 171 v (nI s) = some h2 ∧ (∀ k, k ≠ 182 → h2.1 k = h.1 k) ∧ h2.2 = h.2 ∧ ∀ t, t < sg → h2.1 182 t = nI (if P t = true then left t else 0) := by
    intro r
    induction r with
    | zero =>
      intro s fu h' e hf fk e2 e4 e5
      obtain ⟨fu, rfl, _⟩ := fuel hf
      refine ⟨h', ?_, fk, e2, fun t ht => e4 t (by omega)⟩
      rw [X5_sendOutAllBut_l2, fk _ (by decide), es, if_pos (nI_le (by omega) (by omega))]
    | succ r ih =>
      intro s fu h' e hf fk e2 e4 e5
      obtain ⟨fu, rfl, _⟩ := fuel hf
      rw [X5_sendOutAllBut_l2, fk _ (by decide), es, if_neg (nI_ge (by omega) (by omega)), nI_1]
      by_cases z : P s = false
      · rw [if_pos ((hP s (by omega)).mpr z), if_neg (nI_in (by omega) (by decide)), sq_eq, nI_clamp (by omega)]
        refine ih (s + 1) fu _ (by omega) (by omega) (fun k hk => by rw [wi_k _ _ hk]; exact fk k hk) e2 ?_ ?_
        · intro t ht
          by_cases y : t = s
          · subst y
            rw [z]
            exact wi_s _ _ _ _
          · rw [show (171 + 11 : Nat) = 182 from rfl, wi_j _ _ y]; exact e4 t (by omega)
        · intro t h1 h2
          rw [show (171 + 11 : Nat) = 182 from rfl, wi_j _ _ (by omega)]; exact e5 t (by omega) h2
      · rw [if_neg (fun w => z ((hP s (by omega)).mp w))]
        refine ih (s + 1) fu _ (by omega) (by omega) fk e2 ?_ (fun t h1 h2 => e5 t (by omega) h2)
        intro t ht
        by_cases y : t = s
        · subst y
          rw [if_pos (by simpa using z)]
          exact e5 t (by omega) (by omega)
        · exact e4 t (by omega)
  exact key sg 0 N h (by omega) (by omega) (fun _ _ => rfl) rfl (fun t ht => by omega) (fun t _ ht => hl t ht)
theorem LCR {sg m set more : Nat} {left : Nat → Nat} (k : HK D) (hm : m ≤ D 1) (h : ∀ s, s < 6 → ((∀ b, okC D sg s b = okR D set s b) ∧ left s = limR D more s) ∨ (((∀ b, okC D sg s b = false) ∨ left s = 0) ∧ ((∀ b, okR D set s b = false) ∨ limR D more s = 0))) : LC D sg m 0 left 9 = LR D m set more := by
  have hk := hk0 k
  exact CL_dead (ctn D m) (fun i hi => by
    have := (ord_lt (D := D) (b := m) (by omega) hi).1
    have := hkB k (show ord D i < D 1 by omega)
    unfold lenD
    omega) (ctn D m) 0 left (limR D more) 9 (by omega) h
/-- the class's rows with these singers, the others without breath -/
theorem LCR_set {m set more : Nat} {left : Nat → Nat} (k : HK D) (hm : m ≤ D 1) (h1 : ∀ s, s < D 2 → left s = if set.testBit s = true then D (51 + 3 * s) + more else 0) (h2 : ∀ s, D 2 ≤ s → set.testBit s = false) : LC D (D 2) m 0 left 9 = LR D m set more := by
  apply LCR k hm
  intro s hs
  by_cases z : s < D 2
  · by_cases y : set.testBit s = true
    · left
      refine ⟨fun b => ?_, ?_⟩
      · rw [Bool.eq_iff_iff, okC_iff]
        unfold okR
        rw [decide_eq_true_iff]
        exact ⟨fun w => ⟨y, fun _ => w.2.elim (fun v => by omega) (fun v => v.2)⟩, fun w => ⟨z, Or.inr ⟨z, w.2 z⟩⟩⟩
      · rw [h1 s z, if_pos y]
        unfold limR
        rw [if_pos z]
    · right
      refine ⟨Or.inr (by rw [h1 s z, if_neg y]), Or.inl (fun b => ?_)⟩
      unfold okR
      exact decide_eq_false (fun w => y w.1)
  · right
    refine ⟨Or.inl (fun b => ?_), Or.inl (fun b => ?_)⟩
    · unfold okC; exact decide_eq_false (fun w => z w.1)
    · unfold okR; exact decide_eq_false (fun w => by rw [h2 s (by omega)] at w; exact Bool.noConfusion w.1)
abbrev EV (D : Nat → Nat) : Nat := 2 ^ D 2 - 1
theorem ev_bit (s : Nat) : (EV D).testBit s = decide (s < D 2) := Nat.testBit_two_pow_sub_one ..
theorem ev_lt (k : HK D) : EV D < 32 := by
  have := hk0 k
  have := Nat.pow_le_pow_right (n := 2) (by decide) (show D 2 ≤ 5 by omega)
  unfold EV
  omega
theorem c_everybody {h : HS} (c : KH h p D) : X1_everybody N h p = some (nI (EV D)) := by
  have := hk0 c.2.1
  unfold X1_everybody
  rw [ch2 c, ev_e (D 2) (by omega)]
theorem r_everybody {h : HS} (c : RH h q D) : X11_everybody N h 237 = some (nI (EV D)) := by
  have := hk0 c.1
  unfold X11_everybody
  rw [rh2 c, ev_e (D 2) (by omega)]
theorem c_finds {h : HS} (hN : 100 ≤ N) (c : KH h p D) : ∃ h', CF h h' ∧ KC h' p D (D 1) (D 2) ∧ ((X5_finds N h 171 p = some (0, h') ∧ LR D (D 1) (EV D) 0 = []) ∨
    (∃ x L', X5_finds N h 171 p = some (1, h') ∧ LR D (D 1) (EV D) 0 = x :: L' ∧ (∀ s, s < D 2 → h'.1 182 s = nI (D (51 + 3 * s) - us (ord D) (lenD D) s 0 x)) ∧ RW h' D (D 1) 0 x)) := by
  have hk := hk0 c.2.1
  obtain ⟨h1, e1, f1, _, e2, e3, e4⟩ := c_seat (N := N) hN c (loan := 0) (most := 20) (by decide) (by decide)
  have hle : ∀ s, s < D 2 → leftS D 0 20 s = D (51 + 3 * s) := by
    intro s hs
    have := hkS c.2.1 hs
    unfold leftS
    omega
  obtain ⟨h2, f2, k2, r2⟩ := c_fills (N := N) (m := D 1) (sg := D 2) (left := leftS D 0 20) (v := 8) hN (by decide) e2 (CF_kh f1 c) e3 (by omega) (by omega) (fun s _ => by unfold leftS; omega) e4 (by by_cases z : 8 < D 1 <;> simp [z]; omega)
  have eL : LC D (D 2) (D 1) 0 (leftS D 0 20) 9 = LR D (D 1) (EV D) 0 := LCR_set c.2.1 (Nat.le_refl _) (fun s hs => by rw [hle s hs, ev_bit, if_pos (decide_eq_true hs), Nat.add_zero]) (fun s hs => by rw [ev_bit]; exact decide_eq_false (by omega))
  rw [eL] at r2
  refine ⟨h2, CF.trans f1 f2, k2, ?_⟩
  unfold X5_finds
  rw [show X5_seat N h 171 p 0 20 = _ from e1, bd1_some]
  rcases r2 with ⟨a1, a2⟩ | ⟨x, L', a1, a2, a3, a4⟩
  · left
    exact ⟨by rw [show X5_fills N h1 171 8 = _ from a1, bd2_some]; rfl, a2⟩
  · right
    refine ⟨x, L', by rw [show X5_fills N h1 171 8 = _ from a1, bd2_some]; rfl, a2, ?_, a4⟩
    intro s hs
    rw [a3 s hs, hle s hs]
theorem ct_ord : ∀ (b : Nat), b ≤ 8 → ∀ k, k < ctn D b → ctn D (ord D k) = k := by
  intro b
  induction b with
  | zero => intro _ k hk; rw [ct_0] at hk; omega
  | succ b ih =>
    intro hb k hk
    by_cases z : D (17 + 4 * b) = 0
    · rw [ct_rest z] at hk; exact ih (by omega) k hk
    · rw [ct_note z] at hk
      by_cases y : k = ctn D b
      · rw [y, ord_ct (by omega) z]
      · exact ih (by omega) k (by omega)
def singV (D : Nat → Nat) (x : List Nat) (b : Nat) : Nat := if D (17 + 4 * b) = 0 then 5 else x.getD (ctn D b) 0
theorem c_singerOf {h : HS} {m sg b : Nat} {x : List Nat} (c : KC h p D m sg) (r : RW h D m 0 x) (hb : b < m) : X5_singerOf N h 171 (nI b) = some (nI (singV D x b)) := by
  have hk := hk0 c.2.1.2.1
  have hm := c.2.2.1
  unfold X5_singerOf singV
  rw [c.1, c_sounds c.2.1 (by omega), bd1_some]
  simp only [nB_0]
  by_cases z : D (17 + 4 * b) = 0
  · rw [if_pos (fun w : zsn D b => w.2 z), if_pos z]; rfl
  · have e3 := ord_ct (D := D) (b := b) (by omega) z
    have e1 := ct_note z
    have e2 := ct_mono (D := D) (show b + 1 ≤ m by omega)
    have hz : zsn D b := ⟨by omega, z⟩
    rw [if_neg (fun w => w hz), if_neg z, at_in ln183 (by decide) (by omega), bd1_some]
    have := r.1 (ctn D b) (by rw [ct_0]; omega)
    rw [ct_0, Nat.zero_add, e3] at this
    exact congrArg some this
theorem r_singerOf {h : HS} {m set b : Nat} {lim : Nat → Nat} {x : List Nat} (hN : 100 ≤ N) (t : TD h q D (ctn D m) set lim x) (hm : m ≤ D 1) (hb : b < m) : X11_singerOf N h 237 (nI b) = some (nI (singV D x b)) := by
  obtain ⟨g, t1, t2, t3, t4⟩ := t
  have hk := hk0 g.1.1
  have hn := g.2.1
  have key : ∀ (r k fu w : Nat), k + r = ctn D m → r < fu → X11_singerOf_l4 N h fu 237 (nI b) (nI w) (nI k) = some (nI (if ¬ D (17 + 4 * b) = 0 ∧ k ≤ ctn D b then x.getD (ctn D b) 0 else w)) := by
    intro r
    induction r with
    | zero =>
      intro k fu w e hf
      obtain ⟨fu, rfl, _⟩ := fuel hf
      rw [X11_singerOf_l4, g.2.2.2.1, if_pos (nI_le (by omega) (by omega))]
      by_cases z : ¬ D (17 + 4 * b) = 0 ∧ k ≤ ctn D b
      · have := ct_note z.1
        have := ct_mono (D := D) (show b + 1 ≤ m by omega)
        omega
      · rw [if_neg z]
    | succ r ih =>
      intro k fu w e hf
      obtain ⟨fu, rfl, _⟩ := fuel hf
      have ho := g.2.2.1 k (by omega)
      rw [X11_singerOf_l4, g.2.2.2.1, if_neg (nI_ge (by omega) (by omega)), if_neg (nI_in (by omega) (by decide)), nI_clamp (by omega), show h.1 (237 + 4) k = _ from g.2.2.2.2.2.2.1 k (by omega), if_neg (nI_ic (by omega) (by omega)), show h.1 (237 + 5) k = _ from t3 k (by omega), nI_1]
      have eo := ct_ord (D := D) m (by omega) k (by omega)
      by_cases z : ord D k = b
      · rw [if_pos (by rw [z]), ih (k + 1) fu _ (by omega) (by omega)]
        rw [z] at eo
        have hs := (ord_lt (D := D) (b := m) (k := k) (by omega) (by omega)).2
        rw [z] at hs
        rw [if_neg (fun w => by omega), if_pos ⟨hs, by omega⟩, eo]
      · rw [if_neg (fun w => z ((nI_eq (by omega) (by omega)).mp w)), ih (k + 1) fu _ (by omega) (by omega)]
        congr 2
        by_cases y : ¬ D (17 + 4 * b) = 0 ∧ k + 1 ≤ ctn D b
        · rw [if_pos y, if_pos ⟨y.1, by omega⟩]
        · rw [if_neg y, if_neg]
          rintro ⟨y1, y2⟩
          have : k = ctn D b := by
            by_cases v : k + 1 ≤ ctn D b
            · exact absurd ⟨y1, v⟩ y
            · omega
          rw [this, ord_ct (by omega) y1] at z
          exact z rfl
  have := key (ctn D m) 0 N 5 (by omega) (by have := ct_le D m; omega)
  unfold X11_singerOf
  rw [show (5 : Int32) = nI 5 from rfl, show (0 : Int32) = nI 0 from rfl, this]
  unfold singV
  by_cases z : D (17 + 4 * b) = 0
  · rw [if_neg (fun w => w.1 z), if_pos z]
  · rw [if_pos ⟨z, Nat.zero_le _⟩, if_neg z]
theorem sing_lt {x : List Nat} (hx : ∀ c ∈ x, c < 6) (b : Nat) : singV D x b < 6 := by
  unfold singV
  by_cases z : D (17 + 4 * b) = 0
  · rw [if_pos z]; omega
  · rw [if_neg z, List.getD_eq_getElem?_getD]
    by_cases y : ctn D b < x.length
    · rw [List.getElem?_eq_getElem y]; exact hx _ (List.getElem_mem y)
    · rw [List.getElem?_eq_none (by omega)]; decide
end ROT
theorem q_rota {N : Nat} {h : HS} (I : INV h) (hN : 1000000000 ≤ N) (a b : Int32) : ∃ r h1 h2, X10_rota N h 1 a b = some (r, h1) ∧ X11_rota N h1 237 a b = some (r, h2) ∧ Same h h2 := by
  unfold X10_rota X11_rota
  rcases opn (N := N) I a with ⟨e1, e2⟩ | ⟨p, q, D, e1, hp, c, e2⟩
  · exact ⟨-1, h, h, by rw [e1]; rfl, by rw [e2 h (Same.refl h)]; rfl, Same.refl h⟩
  · have hk := hk0 c.2.1
    rw [e1, bd1_some, if_neg hp]
    have neg : ∀ h1, Same h h1 → X1_hasBar N h p b = some 0 → (∀ h3, RH h3 q D → X11_isBar N h3 237 b = some 0) → ∃ r h1 h2, (bd1 (X1_hasBar N h p b) fun r7 => (if r7 = 0 then some ((-1 : Int32), h) else bd2 (X5_finds N h (1 + 170) p) fun r11 h12 => (if r11 = 0 then some ((-1), h12) else bd1 (X5_singerOf N h12 (1 + 170) b) fun r15 => some (r15, h12)))) = some (r, h1) ∧ (bd2 (X11_isHouse N h1 237 a) fun r2 h3 => (if r2 = 0 then some ((-1 : Int32), h3) else bd1 (X11_isBar N h3 237 b) fun r6 => (if r6 = 0 then some ((-1), h3) else bd1 (X11_everybody N h3 237) fun r10 => bd2 (X11_isRota N h3 237 (h3.1 237 14) r10 0) fun r13 h14 => (if r13 = 0 then some ((-1), h14) else bd1 (X11_singerOf N h14 237 b) fun r17 => some (r17, h14))))) = some (r, h2) ∧ Same h h2 := by
      intro _ _ n1 n2
      obtain ⟨h2, e3, rh, sm, _⟩ := e2 h (Same.refl h)
      exact ⟨-1, h, h2, by rw [n1]; rfl, by rw [e3, bd2_some, if_neg one0, n2 h2 rh]; rfl, sm⟩
    rcases i_cases b with z | ⟨j, hj, rfl⟩
    · exact neg h (Same.refl h) (c_neg z).2.1 (fun h3 rh => (r_neg rh z).2.1)
    · by_cases z : j < D 1
      · rw [c_hasBar c hj, bd1_some, nB_t z, if_neg one0]
        obtain ⟨h1, f1, k1, r1⟩ := c_finds (N := N) (by omega) c
        obtain ⟨h2, e3, rh, sm, _⟩ := e2 h1 (CF_same f1)
        have eq := r_isRota (N := N) (m := D 1) (set := EV D) (more := 0) hN rh (Nat.le_refl _) (by decide) (by have := ev_lt c.2.1; omega)
        rcases r1 with ⟨a1, a2⟩ | ⟨x, L', a1, a2, a3, a4⟩
        · rcases eq with ⟨b1, h3, b2, b3⟩ | ⟨x, L', h3, b1, _⟩
          · refine ⟨-1, h1, h3, by rw [show X5_finds N h (1 + 170) p = _ from a1]; rfl, ?_, Same.trans sm (SF_same b3)⟩
            rw [e3, bd2_some, if_neg one0, r_isBar rh hj, bd1_some, nB_t z, if_neg one0, r_everybody rh, bd1_some, rh1 rh, show X11_isRota N h2 237 (nI (D 1)) (nI (EV D)) 0 = _ from b2]
            rfl
          · rw [a2] at b1; cases b1
        · rcases eq with ⟨b1, h3, b2, b3⟩ | ⟨y, L2, h3, b1, b2, b3, b4, b5⟩
          · rw [a2] at b1; cases b1
          · rw [a2] at b1
            have : x = y := by injection b1
            subst this
            refine ⟨nI (singV D x j), h1, h3, ?_, ?_, Same.trans sm (SF_same b3)⟩
            · rw [show X5_finds N h (1 + 170) p = _ from a1, bd2_some, if_neg one0, c_singerOf k1 a4 z]
              rfl
            · rw [e3, bd2_some, if_neg one0, r_isBar rh hj, bd1_some, nB_t z, if_neg one0, r_everybody rh, bd1_some, rh1 rh, show X11_isRota N h2 237 (nI (D 1)) (nI (EV D)) 0 = _ from b2, bd2_some, if_neg one0, r_singerOf (by omega) b5 (Nat.le_refl _) z]
              rfl
      · exact neg h (Same.refl h) (by rw [c_hasBar c hj, nB_f z]) (fun h3 rh => by rw [r_isBar rh hj, nB_f z])
