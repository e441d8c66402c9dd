/-! ===== level 2: places and counts ===== -/
section PLD
variable {N : Nat} {p : Nat} {D : Nat → Nat} {m sg : Nat}
theorem us_cons (D : Nat → Nat) (s k c : Nat) (x : List Nat) : us (ord D) (lenD D) s k (c :: x) = (if c = s then lenD D (ord D k) else 0) + us (ord D) (lenD D) s (k + 1) x := rfl
theorem fm_head {f : Nat → List (List Nat)} {x : List Nat} {L : List (List Nat)} {s : Nat} (hs : s < 6) (h : f s = x :: L) : ∃ L', (List.range' s (6 - s)).flatMap f = x :: L' := by
  rw [rg_cons f hs, h]
  exact ⟨_, rfl⟩
theorem c_places {left0 : Nat → Nat} (hN : 100 ≤ N) (h0 : ∀ s, s < 6 → left0 s ≤ 1000) : ∀ (r d b : Nat) (h : HS) (left : Nat → Nat) (prev : Nat), b + r = m → r < d → KC h p D m sg → OF h D sg m left0 0 → (∀ s, s < sg → h.1 182 s = nI (left s)) → (∀ s, s < 6 → left s ≤ left0 s) → (0 < b → h.1 183 (b - 1) = if D (17 + 4 * (b - 1)) = 0 then -1 else nI prev) → prev < 10 →
    ∃ h', PF h h' b ∧ ((X5_places_r N d h 171 (nI b) = some (0, h') ∧ LC D sg m b left prev = [] ∧ ∀ s, s < sg → h'.1 182 s = nI (left s)) ∨
      (∃ x L', X5_places_r N d h 171 (nI b) = some (1, h') ∧ LC D sg m b left prev = x :: L' ∧ (∀ s, s < sg → h'.1 182 s = nI (left s - us (ord D) (lenD D) s (ctn D b) x)) ∧ RW h' D m b x)) := by
  intro r
  induction r with
  | zero =>
    intro d b h left prev e hd c o hl hle pr hp
    obtain ⟨d, rfl, _⟩ := fuel hd
    have hk := hk0 c.2.1.2.1
    have hm := c.2.2.1
    have : b = m := by omega
    subst this
    refine ⟨h, PF.refl h b, Or.inr ⟨[], [], ?_, LC_end left prev, fun s hs => hl s hs, fun j hj => by omega, fun i h1 h2 => by omega⟩⟩
    rw [X5_places_r, X5_places_B, if_neg (nI_pos (by omega)), c.2.2.2.1, if_pos (nI_le (by omega) (by omega))]
    rfl
  | succ r ih =>
    intro d b h left prev e hd c o hl hle pr hp
    obtain ⟨d, rfl, _⟩ := fuel hd
    have hk := hk0 c.2.1.2.1
    have hm := c.2.2.1
    have hB := hkB c.2.1.2.1 (show b < D 1 by omega)
    have hsg := c.2.2.2.2.2.1
    rw [X5_places_r, X5_places_B, if_neg (nI_pos (by omega)), c.2.2.2.1, if_neg (nI_ge (by omega) (by omega)), if_pos (show nI b < 8 from nI_lt (b := 8) (by omega) (by decide)), if_neg (nI_in (by omega) (by decide)), sq_eq, nI_clamp (by omega)]
    have f5 : PF h (wi h (171 + 12) b (-1)) b := PF_r _ (Nat.le_refl _)
    have c5 := PF_kc f5 c
    have o5 := PF_of f5 o
    have l5 : ∀ s, s < sg → (wi h (171 + 12) b (-1)).1 182 s = nI (left s) := by rw [wi_k _ _ (by decide)]; exact hl
    have r5 : (wi h (171 + 12) b (-1)).1 183 b = -1 := wi_s _ _ _ _
    generalize wi h (171 + 12) b (-1) = h5 at f5 c5 o5 l5 r5 ⊢
    rw [c5.1, c_sounds c5.2.1 (by omega), bd1_some]
    simp only [nB_0]
    by_cases z : D (17 + 4 * b) = 0
    · rw [if_pos (fun w : zsn D b => w.2 z), nI_1, LC_rest z]
      obtain ⟨h', a1, a2⟩ := ih d (b + 1) h5 left prev (by omega) (by omega) c5 o5 l5 hle (by intro _; rw [Nat.add_sub_cancel, if_pos z]; exact r5) hp
      refine ⟨h', PF.trans f5 (PF.weak a1 (by omega)), ?_⟩
      rcases a2 with ⟨b1, b2, b3⟩ | ⟨x, L', b1, b2, b3, b4, b5⟩
      · left
        exact ⟨by rw [b1, bd2_some]; rfl, b2, b3⟩
      · right
        refine ⟨x, L', by rw [b1, bd2_some]; rfl, b2, by rw [← ct_rest z]; exact b3, by rw [← ct_rest z]; exact b4, ?_⟩
        intro i h1 h2 h3
        by_cases y : i = b
        · subst y
          rw [a1.2.1 i (by omega)]; exact r5
        · exact b5 i (by omega) h2 h3
    · have hz : zsn D b := ⟨by omega, z⟩
      have e1 := ct_note z
      have e3 := ord_ct (D := D) (b := b) (by omega) z
      rw [if_neg (fun w => w hz), at_in c5.2.1.1.2.2.2.1 (by decide) (by omega), bd1_some, chLe c5.2.1 (by omega)]
      obtain ⟨ob, ob1, ob2, obP, obQ⟩ := o5 b (by omega) (by omega)
      have hrow : 0 < b → h5.1 183 (b - 1) = h.1 183 (b - 1) := fun b0 => f5.2.1 _ (by omega)
      have key : ∀ (t s fu : Nat) (h2 : HS), s + t = 6 → t < fu → PF h5 h2 b → (∀ s, s < sg → h2.1 182 s = nI (left s)) → (∀ j, j < s → BR D sg m b left prev j = []) →
          ∃ h', PF h5 h' b ∧ ((X5_places_l60 N (X5_places_r N d) fu h2 171 (nI b) (nI (D (18 + 4 * b))) (nI s) = some (0, h') ∧ LC D sg m b left prev = [] ∧ ∀ s, s < sg → h'.1 182 s = nI (left s)) ∨
            (∃ x L', X5_places_l60 N (X5_places_r N d) fu h2 171 (nI b) (nI (D (18 + 4 * b))) (nI s) = some (1, h') ∧ LC D sg m b left prev = x :: L' ∧ (∀ s, s < sg → h'.1 182 s = nI (left s - us (ord D) (lenD D) s (ctn D b) x)) ∧ RW h' D m b x)) := by
        intro t
        induction t with
        | zero =>
          intro s fu h2 es hf f2 l2 hj
          obtain ⟨fu, rfl, _⟩ := fuel hf
          have c2 := PF_kc f2 c5
          refine ⟨wi h2 (171 + 12) b (-1), PF.trans f2 (PF_r _ (Nat.le_refl _)), Or.inl ⟨?_, ?_, by rw [wi_k _ _ (by decide)]; exact l2⟩⟩
          · rw [X5_places_l60, c2.2.2.2.2.1, if_pos (nI_le (by omega) (by omega)), if_neg (nI_in (by omega) (by decide)), sq_eq, nI_clamp (by omega)]
            rfl
          · rw [LC_note (by omega) (by omega) z]
            rw [show (6 : Nat) = 6 - 0 from rfl, rg_skip _ 6 0 6 (by omega) (by omega) (fun j _ h2 => hj j (by omega))]
            rfl
        | succ t iht =>
          intro s fu h2 es hf f2 l2 hj
          obtain ⟨fu, rfl, _⟩ := fuel hf
          have c2 := PF_kc f2 c5
          have hL : LC D sg m b left prev = (List.range' s (6 - s)).flatMap (BR D sg m b left prev) := by
            rw [LC_note (by omega) (by omega) z]
            rw [show (6 : Nat) = 6 - 0 from rfl, rg_skip _ s 0 s (by omega) (by omega) (fun j _ h2 => hj j h2)]
          by_cases y : s < sg
          · have row2 : 0 < b → h2.1 183 (b - 1) = if D (17 + 4 * (b - 1)) = 0 then -1 else nI prev := fun b0 => by rw [f2.2.1 _ (by omega), hrow b0]; exact pr b0
            have lq : ∀ s, s < sg → left s ≤ 1000 ∧ h2.1 182 s = nI (left s) := fun s hs => ⟨Nat.le_trans (hle s (by omega)) (h0 s (by omega)), l2 s hs⟩
            rw [X5_places_l60, c2.2.2.2.2.1, if_neg (nI_ge y (by omega)), ln182, if_neg (nI_ge (by omega) (by omega)), c_maySing c2 lq y (by omega) (by rw [f2.1 _ (by decide) (by decide)]; exact ob2) ob1, bd1_some]
            simp only [nB_0]
            by_cases x : ob.testBit s = true ∧ lenD D b ≤ left s ∧ ¬ (0 < b ∧ h2.1 183 (b - 1) = nI s)
            · have hbr := BR_yes (sg := sg) (m := m) (left0 := left0) (by omega) z (by omega) obQ row2 x
              rw [if_neg (fun w => w x), if_neg (nI_in (by omega) (by decide)), sq_eq, if_neg (nI_in (by omega) (by decide)), if_neg (nI_in (by omega) (by decide)), sq_eq, nI_clamp (by omega), nI_clamp (by omega), nI_1]
              have ev : (wi h2 (171 + 12) b (nI s)).1 (171 + 11) s - nI (D (18 + 4 * b)) = nI (left s - lenD D b) := by
                rw [wi_k _ _ (by decide), show h2.1 (171 + 11) s = _ from l2 s y]
                unfold lenD at x ⊢
                rw [pk_sub x.2.1]
              rw [ev]
              have f6 : PF h2 (wi (wi h2 (171 + 12) b (nI s)) (171 + 11) s (nI (left s - lenD D b))) b := PF.trans (PF_r _ (Nat.le_refl _)) (PF_w _)
              have l6 : ∀ t, t < sg → (wi (wi h2 (171 + 12) b (nI s)) (171 + 11) s (nI (left s - lenD D b))).1 182 t = nI (sb1 left s (lenD D b) t) := by
                intro t ht
                unfold sb1
                by_cases w : t = s
                · subst w
                  rw [if_pos rfl]; exact wi_s _ _ _ _
                · rw [if_neg w, show (171 + 11 : Nat) = 182 from rfl, wi_j _ _ w, wi_k _ _ (by decide)]; exact l2 t ht
              have w6 : (wi (wi h2 (171 + 12) b (nI s)) (171 + 11) s (nI (left s - lenD D b))).1 183 b = nI s := by rw [wi_k _ _ (by decide)]; exact wi_s _ _ _ _
              generalize wi (wi h2 (171 + 12) b (nI s)) (171 + 11) s (nI (left s - lenD D b)) = h6 at f6 l6 w6 ⊢
              obtain ⟨h7, a1, a2⟩ := ih d (b + 1) h6 (sb1 left s (lenD D b)) s (by omega) (by omega) (PF_kc f6 c2) (PF_of f6 (PF_of f2 o5)) l6 (sb1_le hle s _) (by intro _; rw [Nat.add_sub_cancel, if_neg z]; exact w6) (by omega)
              have f7 : PF h5 h7 b := PF.trans f2 (PF.trans f6 (PF.weak a1 (by omega)))
              rcases a2 with ⟨b1, b2, b3⟩ | ⟨xx, L', b1, b2, b3, b4, b5⟩
              · rw [b1, bd2_some, if_pos rfl, if_neg (nI_ic (by omega) (by omega)), if_neg (nI_ic (by omega) (by omega)), sq_eq, nI_1]
                have ev2 : h7.1 (171 + 11) s + nI (D (18 + 4 * b)) = nI (left s) := by
                  rw [show h7.1 (171 + 11) s = _ from b3 s y]
                  unfold sb1 lenD
                  unfold lenD at x
                  rw [if_pos rfl, nI_add]
                  congr 1
                  omega
                rw [ev2]
                have := iht (s + 1) fu (wi h7 (171 + 11) s (nI (left s))) (by omega) (by omega) (PF.trans f7 (PF_w _)) (by
                  intro t ht
                  by_cases w : t = s
                  · subst w; exact wi_s _ _ _ _
                  · rw [show (171 + 11 : Nat) = 182 from rfl, wi_j _ _ w, b3 t ht]
                    unfold sb1
                    rw [if_neg w]) (by
                  intro j hjs
                  by_cases w : j = s
                  · subst w
                    rw [hbr, b2]; rfl
                  · exact hj j (by omega))
                exact this
              · rw [b1, bd2_some, if_neg one0]
                rw [b2] at hbr
                obtain ⟨L2, hL2⟩ := fm_head (f := BR D sg m b left prev) (s := s) (by omega) hbr
                refine ⟨h7, f7, Or.inr ⟨s :: xx, L2, rfl, by rw [hL, hL2], ?_, ?_, ?_⟩⟩
                · intro t ht
                  rw [b3 t ht, us_cons, e1]
                  unfold sb1
                  by_cases w : t = s
                  · subst w
                    rw [if_pos rfl, if_pos rfl, e3]
                    congr 1
                    omega
                  · rw [if_neg w, if_neg (fun v => w v.symm), Nat.zero_add]
                · intro j hj2
                  match j with
                  | 0 =>
                    rw [Nat.add_zero, e3, a1.2.1 b (by omega)]
                    exact w6
                  | j + 1 =>
                    have := b4 j (by omega)
                    rw [e1, show ctn D b + 1 + j = ctn D b + (j + 1) by omega] at this
                    rw [this]
                    rfl
                · intro i h1 h2 h3
                  by_cases w : i = b
                  · subst w; exact absurd h3 z
                  · exact b5 i (by omega) h2 h3
            · rw [if_pos x, nI_1]
              exact iht (s + 1) fu h2 (by omega) (by omega) f2 l2 (by
                intro j hjs
                by_cases w : j = s
                · subst w
                  exact BR_no hm hk.2.1 (by omega) z (by omega) hle obQ row2 (by omega) x
                · exact hj j (by omega))
          · refine ⟨wi h2 (171 + 12) b (-1), PF.trans f2 (PF_r _ (Nat.le_refl _)), Or.inl ⟨?_, ?_, by rw [wi_k _ _ (by decide)]; exact l2⟩⟩
            · rw [X5_places_l60, c2.2.2.2.2.1, if_pos (nI_le (by omega) (by omega)), if_neg (nI_in (by omega) (by decide)), sq_eq, nI_clamp (by omega)]
              rfl
            · rw [hL, rg_skip _ (6 - s) s 6 (by omega) (by omega) (fun j h1 h2 => if_neg (fun w => by have := (okC_iff.mp w.1).1; omega))]
              rfl
      obtain ⟨h', a1, a2⟩ := key 6 0 N h5 (by omega) (by omega) (PF.refl h5 b) l5 (fun j hj => by omega)
      exact ⟨h', PF.trans f5 a1, a2⟩
theorem fm_len {f : Nat → List (List Nat)} {s : Nat} (hs : s < 6) : ((List.range' s (6 - s)).flatMap f).length = (f s).length + ((List.range' (s + 1) (6 - (s + 1))).flatMap f).length := by
  rw [rg_cons f hs, List.length_append]
theorem c_counts {left0 : Nat → Nat} (hN : 100 ≤ N) (h0 : ∀ s, s < 6 → left0 s ≤ 1000) : ∀ (r d b : Nat) (h : HS) (left : Nat → Nat) (prev : Nat), b + r = m → r < d → KC h p D m sg → OF h D sg m left0 0 → (∀ s, s < sg → h.1 182 s = nI (left s)) → (∀ s, s < 6 → left s ≤ left0 s) → (0 < b → h.1 183 (b - 1) = if D (17 + 4 * (b - 1)) = 0 then -1 else nI prev) → prev < 10 →
    ∃ h', PF h h' b ∧ X5_counts_r N d h 171 (nI b) = some (nI (min 999999 (LC D sg m b left prev).length), h') ∧ ∀ s, s < sg → h'.1 182 s = nI (left s) := by
  intro r
  induction r with
  | zero =>
    intro d b h left prev e hd c o hl hle pr hp
    obtain ⟨d, rfl, _⟩ := fuel hd
    have hk := hk0 c.2.1.2.1
    have hm := c.2.2.1
    have : b = m := by omega
    subst this
    refine ⟨h, PF.refl h b, ?_, hl⟩
    rw [X5_counts_r, X5_counts_B, if_neg (nI_pos (by omega)), c.2.2.2.1, if_pos (nI_le (by omega) (by omega)), LC_end]
    rfl
  | succ r ih =>
    intro d b h left prev e hd c o hl hle pr hp
    obtain ⟨d, rfl, _⟩ := fuel hd
    have hk := hk0 c.2.1.2.1
    have hm := c.2.2.1
    have hB := hkB c.2.1.2.1 (show b < D 1 by omega)
    have hsg := c.2.2.2.2.2.1
    rw [X5_counts_r, X5_counts_B, if_neg (nI_pos (by omega)), c.2.2.2.1, if_neg (nI_ge (by omega) (by omega)), if_pos (show nI b < 8 from nI_lt (b := 8) (by omega) (by decide)), if_neg (nI_in (by omega) (by decide)), sq_eq, nI_clamp (by omega)]
    have f5 : PF h (wi h (171 + 12) b (-1)) b := PF_r _ (Nat.le_refl _)
    have c5 := PF_kc f5 c
    have o5 := PF_of f5 o
    have l5 : ∀ s, s < sg → (wi h (171 + 12) b (-1)).1 182 s = nI (left s) := by rw [wi_k _ _ (by decide)]; exact hl
    have r5 : (wi h (171 + 12) b (-1)).1 183 b = -1 := wi_s _ _ _ _
    generalize wi h (171 + 12) b (-1) = h5 at f5 c5 o5 l5 r5 ⊢
    rw [c5.1, c_sounds c5.2.1 (by omega), bd1_some]
    simp only [nB_0]
    by_cases z : D (17 + 4 * b) = 0
    · rw [if_pos (fun w : zsn D b => w.2 z), nI_1, LC_rest z]
      obtain ⟨h', a1, a2, a3⟩ := ih d (b + 1) h5 left prev (by omega) (by omega) c5 o5 l5 hle (by intro _; rw [Nat.add_sub_cancel, if_pos z]; exact r5) hp
      exact ⟨h', PF.trans f5 (PF.weak a1 (by omega)), by rw [a2, bd2_some], a3⟩
    · have hz : zsn D b := ⟨by omega, z⟩
      rw [if_neg (fun w => w hz), at_in c5.2.1.1.2.2.2.1 (by decide) (by omega), bd1_some, chLe c5.2.1 (by omega)]
      obtain ⟨ob, ob1, ob2, obP, obQ⟩ := o5 b (by omega) (by omega)
      have hrow : 0 < b → h5.1 183 (b - 1) = h.1 183 (b - 1) := fun b0 => f5.2.1 _ (by omega)
      have key : ∀ (t s fu : Nat) (h2 : HS) (a : Nat), s + t = 6 → t < fu → PF h5 h2 b → (∀ s, s < sg → h2.1 182 s = nI (left s)) → a ≤ 999999 →
          ∃ h', PF h5 h' b ∧ X5_counts_l63 N (X5_counts_r N d) fu h2 171 (nI b) (nI a) (nI (D (18 + 4 * b))) (nI s) = some (nI (min 999999 (a + ((List.range' s (6 - s)).flatMap (BR D sg m b left prev)).length)), h') ∧ ∀ s, s < sg → h'.1 182 s = nI (left s) := by
        intro t
        induction t with
        | zero =>
          intro s fu h2 a es hf f2 l2 ha
          obtain ⟨fu, rfl, _⟩ := fuel hf
          have c2 := PF_kc f2 c5
          refine ⟨h2, f2, ?_, l2⟩
          have : s = 6 := by omega
          subst this
          rw [X5_counts_l63, c2.2.2.2.2.1, if_pos (nI_le (by omega) (by omega))]
          simp [ha]
        | succ t iht =>
          intro s fu h2 a es hf f2 l2 ha
          obtain ⟨fu, rfl, _⟩ := fuel hf
          have c2 := PF_kc f2 c5
          by_cases y : s < sg
          · have row2 : 0 < b → h2.1 183 (b - 1) = if D (17 + 4 * (b - 1)) = 0 then -1 else nI prev := fun b0 => by rw [f2.2.1 _ (by omega), hrow b0]; exact pr b0
            have lq : ∀ s, s < sg → left s ≤ 1000 ∧ h2.1 182 s = nI (left s) := fun s hs => ⟨Nat.le_trans (hle s (by omega)) (h0 s (by omega)), l2 s hs⟩
            rw [X5_counts_l63, c2.2.2.2.2.1, if_neg (nI_ge y (by omega)), ln182, if_neg (nI_ge (by omega) (by omega)), c_maySing c2 lq y (by omega) (by rw [f2.1 _ (by decide) (by decide)]; exact ob2) ob1, bd1_some]
            simp only [nB_0]
            rw [fm_len (s := s) (by omega)]
            by_cases x : ob.testBit s = true ∧ lenD D b ≤ left s ∧ ¬ (0 < b ∧ h2.1 183 (b - 1) = nI s)
            · have hbr := BR_yes (sg := sg) (m := m) (left0 := left0) (by omega) z (by omega) obQ row2 x
              rw [if_neg (fun w => w x), if_neg (nI_in (by omega) (by decide)), sq_eq, if_neg (nI_in (by omega) (by decide)), if_neg (nI_in (by omega) (by decide)), sq_eq, nI_clamp (by omega), nI_clamp (by omega), nI_1]
              have ev : (wi h2 (171 + 12) b (nI s)).1 (171 + 11) s - nI (D (18 + 4 * b)) = nI (left s - lenD D b) := by
                rw [wi_k _ _ (by decide), show h2.1 (171 + 11) s = _ from l2 s y]
                unfold lenD at x ⊢
                rw [pk_sub x.2.1]
              rw [ev]
              have f6 : PF h2 (wi (wi h2 (171 + 12) b (nI s)) (171 + 11) s (nI (left s - lenD D b))) b := PF.trans (PF_r _ (Nat.le_refl _)) (PF_w _)
              have l6 : ∀ t, t < sg → (wi (wi h2 (171 + 12) b (nI s)) (171 + 11) s (nI (left s - lenD D b))).1 182 t = nI (sb1 left s (lenD D b) t) := by
                intro t ht
                unfold sb1
                by_cases w : t = s
                · subst w
                  rw [if_pos rfl]; exact wi_s _ _ _ _
                · rw [if_neg w, show (171 + 11 : Nat) = 182 from rfl, wi_j _ _ w, wi_k _ _ (by decide)]; exact l2 t ht
              have w6 : (wi (wi h2 (171 + 12) b (nI s)) (171 + 11) s (nI (left s - lenD D b))).1 183 b = nI s := by rw [wi_k _ _ (by decide)]; exact wi_s _ _ _ _
              generalize wi (wi h2 (171 + 12) b (nI s)) (171 + 11) s (nI (left s - lenD D b)) = h6 at f6 l6 w6 ⊢
              obtain ⟨h7, a1, a2, a3⟩ := ih d (b + 1) h6 (sb1 left s (lenD D b)) s (by omega) (by omega) (PF_kc f6 c2) (PF_of f6 (PF_of f2 o5)) l6 (sb1_le hle s _) (by intro _; rw [Nat.add_sub_cancel, if_neg z]; exact w6) (by omega)
              have f7 : PF h5 h7 b := PF.trans f2 (PF.trans f6 (PF.weak a1 (by omega)))
              rw [a2, bd2_some, if_neg (nI_ic (by omega) (by omega)), if_neg (nI_ic (by omega) (by omega)), sq_eq, nI_1]
              have ev2 : h7.1 (171 + 11) s + nI (D (18 + 4 * b)) = nI (left s) := by
                rw [show h7.1 (171 + 11) s = _ from a3 s y]
                unfold sb1 lenD
                unfold lenD at x
                rw [if_pos rfl, nI_add]
                congr 1
                omega
              rw [ev2, hbr, List.length_map]
              generalize (LC D sg m (b + 1) (sb1 left s (lenD D b)) s).length = n1
              have ev3 : (if nI a + nI (min 999999 n1) < 999999 then nI a + nI (min 999999 n1) else (999999 : Int32)) = nI (min 999999 (a + n1)) := by
                rw [nI_add]
                by_cases w : a + min 999999 n1 < 999999
                · rw [if_pos (show nI (a + min 999999 n1) < 999999 from nI_lt (b := 999999) w (by decide))]
                  congr 1
                  omega
                · rw [if_neg (show ¬ nI (a + min 999999 n1) < 999999 from nI_nlt (b := 999999) (by omega) (by omega)), show min 999999 (a + n1) = 999999 by omega]
                  rfl
              rw [ev3]
              obtain ⟨h', d1, d2, d3⟩ := iht (s + 1) fu (wi h7 (171 + 11) s (nI (left s))) (min 999999 (a + n1)) (by omega) (by omega) (PF.trans f7 (PF_w _)) (by
                  intro t ht
                  by_cases w : t = s
                  · subst w; exact wi_s _ _ _ _
                  · rw [show (171 + 11 : Nat) = 182 from rfl, wi_j _ _ w, a3 t ht]
                    unfold sb1
                    rw [if_neg w]) (by omega)
              refine ⟨h', d1, ?_, d3⟩
              rw [d2]
              congr 3
              omega
            · rw [if_pos x, nI_1, BR_no hm hk.2.1 (by omega) z (by omega) hle obQ row2 (by omega) x, List.length_nil, Nat.zero_add]
              exact iht (s + 1) fu h2 a (by omega) (by omega) f2 l2 ha
          · refine ⟨h2, f2, ?_, l2⟩
            rw [X5_counts_l63, c2.2.2.2.2.1, if_pos (nI_le (by omega) (by omega)), rg_skip _ (6 - s) s 6 (by omega) (by omega) (fun j h1 h2 => if_neg (fun w => by have := (okC_iff.mp w.1).1; omega))]
            simp [ha]
      obtain ⟨h', a1, a2, a3⟩ := key 6 0 N h5 0 (by omega) (by omega) (PF.refl h5 b) l5 (by omega)
      refine ⟨h', PF.trans f5 a1, ?_, a3⟩
      rw [show X5_counts_l63 N (X5_counts_r N d) N h5 171 (nI b) 0 (nI (D (18 + 4 * b))) 0 = _ from a2, LC_note (by omega) (by omega) z, Nat.zero_add]
/-- fills: the first rota, if there is one -/
theorem c_fills {h : HS} (hN : 100 ≤ N) {left : Nat → Nat} {v : Nat} (hv : v < 2 ^ 31) (e2 : h.2 171 = p) (c : KH h p D) (es : h.1 171 2 = nI sg) (h6 : sg ≤ 6) (h2 : sg ≤ D 2 + 1) (h0 : ∀ s, s < 6 → left s ≤ 1000) (hl : ∀ s, s < sg → h.1 182 s = nI (left s)) (hm : m = if v < D 1 then v else D 1) :
    ∃ h', CF h h' ∧ KC h' p D m sg ∧ ((X5_fills N h 171 (nI v) = some (0, h') ∧ LC D sg m 0 left 9 = []) ∨
      (∃ x L', X5_fills N h 171 (nI v) = some (1, h') ∧ LC D sg m 0 left 9 = x :: L' ∧ (∀ s, s < sg → h'.1 182 s = nI (left s - us (ord D) (lenD D) s 0 x)) ∧ RW h' D m 0 x)) := by
  obtain ⟨h1, k1, k2, k3, k4, k5⟩ := c_prepares (N := N) (m := m) hN hv e2 c es h6 h2 (fun s hs => ⟨h0 s (by omega), hl s hs⟩) hm
  have hk := hk0 c.2.1
  have hm8 := k1.2.2.1
  have f1 : CF h h1 := ⟨fun k a1 _ _ a4 => k2 k a4 a1, fun k _ => by rw [k3]⟩
  unfold X5_fills
  rcases k5 with ⟨a1, a2⟩ | a1
  · exact ⟨h1, f1, k1, Or.inl ⟨by rw [a1, bd2_some]; rfl, a2⟩⟩
  · rw [a1, bd2_some, if_neg one0]
    unfold X5_places
    obtain ⟨h', b1, b2⟩ := c_places (N := N) (left0 := left) hN h0 m 12 0 h1 left 9 (by omega) (by omega) k1 k4 (by rw [k2 _ (by decide) (by decide)]; exact hl) (fun s _ => Nat.le_refl _) (fun h => by omega) (by omega)
    have f2 : CF h h' := CF.trans f1 ⟨fun k _ a2 a3 _ => b1.1 k a2 a3, fun k _ => by rw [b1.2.2]⟩
    refine ⟨h', f2, PF_kc b1 k1, ?_⟩
    rw [show (0 : Int32) = nI 0 from rfl]
    rcases b2 with ⟨d1, d2, d3⟩ | ⟨x, L', d1, d2, d3, d4⟩
    · left
      exact ⟨by rw [d1, bd2_some]; rfl, d2⟩
    · right
      exact ⟨x, L', by rw [d1, bd2_some]; rfl, d2, d3, d4⟩
end PLD
