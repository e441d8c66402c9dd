/-! ===== level 2: text: the reference's tape and token ===== -/
def RTp (h : HS) (t : Nat → Nat) (z : Nat) : Prop := z ≤ 600 ∧ (∀ i, t i < 256) ∧ h.1 237 2 = nI z ∧ ∀ i, i < z → h.1 238 (10 + i) = nI (t i)
def rkc (t : Nat → Nat) (z s : Nat) : Nat := if tkc t z s = 0 then 0 else if tkc t z s = 1 then (if wrd t z s = 99 then 4 else 3) else if tkc t z s = 2 then 1 else if tkc t z s = 3 then 2 else 4
def RTok (h : HS) (t : Nat → Nat) (z s : Nat) : Prop := RTp h t z ∧ s ≤ z ∧ h.1 237 4 = nI s ∧ h.1 237 3 = nI (ten t z s) ∧ h.1 237 5 = nI (rkc t z s) ∧ (tkc t z s = 2 → h.1 237 6 = nI (val t z s)) ∧ (tkc t z s = 1 → h.1 237 7 = nI (wrd t z s))
def RAf (h h' : HS) : Prop := (∀ k, k ≠ 237 → h'.1 k = h.1 k) ∧ h'.2 = h.2 ∧ (∀ j, (j < 3 ∨ 8 ≤ j) → h'.1 237 j = h.1 237 j)
theorem RAf.refl (h : HS) : RAf h h := ⟨fun _ _ => rfl, rfl, fun _ _ => rfl⟩
theorem RAf.trans {a b c : HS} (x : RAf a b) (y : RAf b c) : RAf a c := ⟨fun k hk => (y.1 k hk).trans (x.1 k hk), y.2.1.trans x.2.1, fun j hj => (y.2.2 j hj).trans (x.2.2 j hj)⟩
theorem RAf_wi {h h' : HS} (x : RAf h h') {j : Nat} (hj : 3 ≤ j ∧ j < 8) (v : Int32) : RAf h (wi h' 237 j v) := ⟨fun k hk => by rw [wi_k _ _ hk]; exact x.1 k hk, x.2.1, fun i hi => by rw [wi_j _ _ (by omega)]; exact x.2.2 i hi⟩
theorem RTp_f {h h' : HS} {t : Nat → Nat} {z : Nat} (c : RTp h t z) (f : RAf h h') : RTp h' t z := ⟨c.1, c.2.1, by rw [f.2.2 2 (by decide)]; exact c.2.2.1, by rw [f.1 238 (by decide)]; exact c.2.2.2⟩
section RTK
variable {N : Nat} {h : HS} {t : Nat → Nat} {z : Nat}
theorem r_byte (c : RTp h t z) {p : Nat} (hp : p < z) : X11_byteAt N h 237 (nI p) = some (nI (t p)) := by
  obtain ⟨c1, c2, c3, c4⟩ := c
  unfold X11_byteAt
  rw [c3, if_neg (nI_ge hp (by omega)), show (10 : Int32) + nI p = nI (10 + p) by rw [zn10, nI_add], if_neg (nI_in (by omega) (by decide)), nI_clamp (by omega)]
  exact congrArg some (c4 p hp)
theorem r_byteN (c : RTp h t z) {p : Nat} (hp : z ≤ p) (hp2 : p < 2 ^ 31) : X11_byteAt N h 237 (nI p) = some (-1) := by
  unfold X11_byteAt
  rw [c.2.2.1, if_pos (nI_le hp hp2)]
theorem r_let {v : Nat} (hv : v < 2 ^ 31) : X11_isLetter N h (nI v) = some (nB (97 ≤ v ∧ v ≤ 122)) := c_let (N := N) (h := h) hv
theorem r_dig {v : Nat} (hv : v < 2 ^ 31) : X11_isDigit N h (nI v) = some (nB (48 ≤ v ∧ v ≤ 57)) := c_dig (N := N) (h := h) hv
theorem r_letN : X11_isLetter N h (-1) = some 0 := by unfold X11_isLetter; rw [if_pos (by decide), nz_0]
theorem r_digN : X11_isDigit N h (-1) = some 0 := by unfold X11_isDigit; rw [if_pos (by decide), nz_0]
theorem r_wordOf {v : Nat} (hv : v < 2 ^ 60) : X11_wordOf N h (lN v) = some (nI (wOf 12 0 v)) := by
  have lc : ∀ c : Nat, c < 2 ^ 60 → ((lg_cmp (lN v) (lN c) = 0) ↔ v = c) := fun c hc => (lg_cmp_eq _ _).trans (pk_lEQ (by omega) (by omega))
  have w : ∀ k, k < 12 → wCd k < 2 ^ 60 := by decide +kernel
  have step : ∀ (k r : Nat) (B : Option Int32), k < 12 → B = some (nI (wOf r (k + 1) v)) → (if lg_cmp (lN v) (lN (wCd k)) = 0 then some (nI (k + 1)) else B) = some (nI (wOf (r + 1) k v)) := by
    intro k r B hk hB
    rw [wOf]
    by_cases x : v = wCd k
    · rw [if_pos ((lc _ (w k hk)).mpr x), if_pos x]
    · rw [if_neg (fun u => x ((lc _ (w k hk)).mp u)), if_neg x, hB]
  have f8 : ∀ a b c d e f g i : Int32, X11_eight N h a b c d e f g i = some (((((a * 32 + b) * 32 + c) * 32 + d).toInt64 * 1048576) + (((e * 32 + f) * 32 + g) * 32 + i).toInt64) := fun _ _ _ _ _ _ _ _ => rfl
  have f4 : ∀ a b c d : Int32, X11_four N h a b c d = some ((((a * 32 + b) * 32 + c) * 32 + d).toInt64) := fun _ _ _ _ => rfl
  unfold X11_wordOf
  rw [f8, bd1_some, show (((((0 : Int32) * 32 + 0) * 32 + 0) * 32 + 6).toInt64 * 1048576) + ((((12 : Int32) * 32 + 15) * 32 + 15) * 32 + 18).toInt64 = lN (wCd 0) by decide +kernel]
  refine step 0 11 _ (by decide) ?_
  rw [f4, bd1_some, show ((((0 : Int32) * 32 + 2) * 32 + 1) * 32 + 18).toInt64 = lN (wCd 1) by decide +kernel]
  refine step 1 10 _ (by decide) ?_
  rw [f8, bd1_some, show (((((0 : Int32) * 32 + 0) * 32 + 19) * 32 + 9).toInt64 * 1048576) + ((((14 : Int32) * 32 + 7) * 32 + 5) * 32 + 18).toInt64 = lN (wCd 2) by decide +kernel]
  refine step 2 9 _ (by decide) ?_
  rw [f4, bd1_some, show ((((19 : Int32) * 32 + 20) * 32 + 5) * 32 + 16).toInt64 = lN (wCd 3) by decide +kernel]
  refine step 3 8 _ (by decide) ?_
  rw [f4, bd1_some, show ((((23 : Int32) * 32 + 1) * 32 + 12) * 32 + 12).toInt64 = lN (wCd 4) by decide +kernel]
  refine step 4 7 _ (by decide) ?_
  rw [f4, bd1_some, show ((((19 : Int32) * 32 + 9) * 32 + 14) * 32 + 7).toInt64 = lN (wCd 5) by decide +kernel]
  refine step 5 6 _ (by decide) ?_
  rw [f4, bd1_some, show ((((3 : Int32) * 32 + 15) * 32 + 12) * 32 + 4).toInt64 = lN (wCd 6) by decide +kernel]
  refine step 6 5 _ (by decide) ?_
  rw [f4, bd1_some, show ((((23 : Int32) * 32 + 5) * 32 + 12) * 32 + 12).toInt64 = lN (wCd 7) by decide +kernel]
  refine step 7 4 _ (by decide) ?_
  rw [f4, bd1_some, show ((((19 : Int32) * 32 + 11) * 32 + 9) * 32 + 16).toInt64 = lN (wCd 8) by decide +kernel]
  refine step 8 3 _ (by decide) ?_
  rw [f8, bd1_some, show (((((0 : Int32) * 32 + 0) * 32 + 0) * 32 + 14).toInt64 * 1048576) + ((((9 : Int32) * 32 + 7) * 32 + 8) * 32 + 20).toInt64 = lN (wCd 9) by decide +kernel]
  refine step 9 2 _ (by decide) ?_
  rw [f8, bd1_some, show (((((0 : Int32) * 32 + 0) * 32 + 4) * 32 + 18).toInt64 * 1048576) + ((((5 : Int32) * 32 + 1) * 32 + 13) * 32 + 20).toInt64 = lN (wCd 10) by decide +kernel]
  refine step 10 1 _ (by decide) ?_
  rw [f4, bd1_some, show ((((3 : Int32) * 32 + 1) * 32 + 12) * 32 + 13).toInt64 = lN (wCd 11) by decide +kernel]
  exact step 11 0 _ (by decide) rfl
/-- words -/
theorem r_l77 (hN : 2000 ≤ N) {s : Nat} (hs : s < z) : ∀ (r p fu : Nat) (h : HS) (v : Nat), p + r = z → s ≤ p → r < fu → RTp h t z → h.1 237 4 = nI s → h.1 237 3 = nI p → v = cdN (fun i => t (s + i) - 96) (min (p - s) 8) → (∀ j, s ≤ j → j < p → isLe t j = true) →
    ∃ h', X11_advance_l77 N fu h 237 (lN v) = some h' ∧ RAf h h' ∧ h'.1 237 4 = nI s ∧ h'.1 237 3 = nI (rn (isLe t) r p) ∧ h'.1 237 7 = nI (wrdN t s (rn (isLe t) r p - s)) ∧ h'.1 237 5 = nI (if wrdN t s (rn (isLe t) r p - s) = 99 then 4 else 3) := by
  have fin : ∀ (p : Nat) (h : HS) (v : Nat), s ≤ p → p ≤ 600 → h.1 237 4 = nI s → h.1 237 3 = nI p → v = cdN (fun i => t (s + i) - 96) (min (p - s) 8) → (∀ j, s ≤ j → j < p → isLe t j = true) →
      ∃ h', (if ((h.1 237 3) - (h.1 237 4)) ≤ (8 : Int32) then bd1 (X11_wordOf N h (lN v)) fun r54 => sq (wi h 237 7 r54) fun h56 => (if (h56.1 237 7) = (99 : Int32) then sq (wi h56 237 5 4) fun h59 => some h59 else sq (wi h56 237 5 3) fun h58 => some h58) else sq (wi h 237 7 99) fun h60 => (if (h60.1 237 7) = (99 : Int32) then sq (wi h60 237 5 4) fun h63 => some h63 else sq (wi h60 237 5 3) fun h62 => some h62)) = some h' ∧ RAf h h' ∧ h'.1 237 4 = nI s ∧ h'.1 237 3 = nI p ∧ h'.1 237 7 = nI (wrdN t s (p - s)) ∧ h'.1 237 5 = nI (if wrdN t s (p - s) = 99 then 4 else 3) := by
    intro p h v hp hp2 e4 e3 ev el
    have hl : ∀ i, i < p - s → 97 ≤ t (s + i) ∧ t (s + i) ≤ 122 := fun i hi => of_decide_eq_true (el (s + i) (by omega) (by omega))
    have tail : ∀ w : Nat, (w ≤ 12 ∨ w = 99) → w = wrdN t s (p - s) → ∃ h', (sq (wi h 237 7 (nI w)) fun h56 => (if (h56.1 237 7) = (99 : Int32) then sq (wi h56 237 5 4) fun h59 => some h59 else sq (wi h56 237 5 3) fun h58 => some h58)) = some h' ∧ RAf h h' ∧ h'.1 237 4 = nI s ∧ h'.1 237 3 = nI p ∧ h'.1 237 7 = nI (wrdN t s (p - s)) ∧ h'.1 237 5 = nI (if wrdN t s (p - s) = 99 then 4 else 3) := by
      intro w hw ew
      rw [sq_eq, wi_s, ← ew]
      by_cases x : w = 99
      · rw [if_pos (show nI w = 99 by rw [x]; rfl), sq_eq, if_pos x]
        exact ⟨_, rfl, RAf_wi (RAf_wi (RAf.refl h) (by decide) _) (by decide) _, by rw [wi_j _ _ (by decide), wi_j _ _ (by decide)]; exact e4, by rw [wi_j _ _ (by decide), wi_j _ _ (by decide)]; exact e3, by rw [wi_j _ _ (by decide), wi_s], wi_s _ _ _ _⟩
      · rw [if_neg (show ¬ nI w = 99 from nI_ne (b := 99) x (by omega) (by decide)), sq_eq, if_neg x]
        exact ⟨_, rfl, RAf_wi (RAf_wi (RAf.refl h) (by decide) _) (by decide) _, by rw [wi_j _ _ (by decide), wi_j _ _ (by decide)]; exact e4, by rw [wi_j _ _ (by decide), wi_j _ _ (by decide)]; exact e3, by rw [wi_j _ _ (by decide), wi_s], wi_s _ _ _ _⟩
    have win := wrdN_in (t := t) (s := s) (n := p - s)
    rw [e3, e4, pk_sub hp]
    by_cases y : p - s ≤ 8
    · have em : min (p - s) 8 = p - s := by omega
      rw [em] at ev
      have hv : v < 2 ^ 60 := by
        have h1 := cdN_lt (f := fun i => t (s + i) - 96) (p - s) (fun i hi => by have := hl i hi; show t (s + i) - 96 ≤ 31; omega)
        have h2 : 32 ^ (p - s) ≤ 32 ^ 8 := Nat.pow_le_pow_right (by decide) y
        have h3 : 32 ^ 8 < 2 ^ 60 := by decide
        omega
      rw [if_pos (show nI (p - s) ≤ 8 from nI_le (b := 8) y (by decide)), r_wordOf hv, bd1_some]
      have e1 : wOf 12 0 v = wrdN t s (p - s) := by rw [ev]; exact wOf_e y hl
      exact tail _ (by rw [e1]; omega) e1
    · rw [if_neg (show ¬ nI (p - s) ≤ 8 from nI_ge (a := 8) (b := p - s) (by omega) (by omega))]
      exact tail 99 (Or.inr rfl) (wrdN_99 (by omega)).symm
  intro r
  induction r with
  | zero =>
    intro p fu h v e hp hf c e4 e3 ev el
    obtain ⟨fu, rfl, _⟩ := fuel hf
    have hz := c.1
    rw [X11_advance_l77, show X11_byteAt N h 237 (h.1 237 3) = some (-1) by rw [e3]; exact r_byteN c (by omega) (by omega), bd1_some, r_letN, bd1_some, if_pos rfl, rn]
    exact fin p h v hp (by omega) e4 e3 ev el
  | succ r ih =>
    intro p fu h v e hp hf c e4 e3 ev el
    obtain ⟨fu, rfl, _⟩ := fuel hf
    have hz := c.1
    have ht := c.2.1 p
    have eb : X11_byteAt N h 237 (h.1 237 3) = some (nI (t p)) := by rw [e3]; exact r_byte c (by omega)
    rw [X11_advance_l77, eb, bd1_some, r_let (by omega), bd1_some, rn]
    by_cases y : 97 ≤ t p ∧ t p ≤ 122
    · have y' : isLe t p = true := decide_eq_true y
      have el' : ∀ j, s ≤ j → j < p + 1 → isLe t j = true := by
        intro j j1 j2
        by_cases u : j = p
        · rw [u]; exact y'
        · exact el j j1 (by omega)
      have f1 := RAf_wi (RAf.refl h) (j := 3) (by decide) (nI (p + 1))
      rw [nB_t y, if_neg one0, if_pos y', e3, e4, pk_sub hp, nI_1]
      by_cases w : 8 ≤ p - s
      · rw [if_pos (show (8 : Int32) ≤ nI (p - s) from nI_le (a := 8) w (by omega)), sq_eq]
        obtain ⟨h', a1, a2, a3⟩ := ih (p + 1) fu _ v (by omega) (by omega) (by omega) (RTp_f c f1) (by rw [wi_j _ _ (by decide)]; exact e4) (wi_s _ _ _ _) (by rw [ev]; congr 1; omega) el'
        exact ⟨h', a1, RAf.trans f1 a2, a3⟩
      · rw [if_neg (show ¬ (8 : Int32) ≤ nI (p - s) from nI_ge (b := 8) (by omega) (by decide)), bd1_some, sq_eq]
        have ec : (32 : Int64) * lN v + (nI (t p)).toInt64 - 96 = lN (32 * v + (t p - 96)) := by
          rw [nI_l (by omega), show (32 : Int64) = lN 32 from rfl, lN_mul, lN_add, show (96 : Int64) = lN 96 from rfl, lN_sub (by omega)]
          congr 1
          omega
        rw [ec]
        obtain ⟨h', a1, a2, a3⟩ := ih (p + 1) fu _ (32 * v + (t p - 96)) (by omega) (by omega) (by omega) (RTp_f c f1) (by rw [wi_j _ _ (by decide)]; exact e4) (wi_s _ _ _ _) (by
          rw [ev, show min (p - s) 8 = p - s by omega, show min (p + 1 - s) 8 = (p - s) + 1 by omega, cdN, show s + (p - s) = p by omega]) el'
        exact ⟨h', a1, RAf.trans f1 a2, a3⟩
    · rw [nB_f y, if_pos rfl, if_neg (show ¬ isLe t p = true from fun w => y (of_decide_eq_true w))]
      exact fin p h v hp (by omega) e4 e3 ev el
/-- numbers -/
theorem r_l198 (hN : 2000 ≤ N) {s : Nat} (hs : s < z) : ∀ (r p fu : Nat) (h : HS), p + r = z → s ≤ p → r < fu → RTp h t z → h.1 237 4 = nI s → h.1 237 3 = nI p → (p - s ≤ 2 → h.1 237 6 = nI (vlN t (p - s) s)) → (∀ j, s ≤ j → j < p → isDi t j = true) →
    ∃ h', X11_advance_l198 N fu h 237 = some h' ∧ RAf h h' ∧ h'.1 237 4 = nI s ∧ h'.1 237 3 = nI (rn (isDi t) r p) ∧ h'.1 237 5 = nI (if rn (isDi t) r p - s ≤ 2 then 1 else 4) ∧ (rn (isDi t) r p - s ≤ 2 → h'.1 237 6 = nI (vlN t (rn (isDi t) r p - s) s)) := by
  have fin : ∀ (p : Nat) (h : HS), s ≤ p → p ≤ 600 → h.1 237 4 = nI s → h.1 237 3 = nI p → (p - s ≤ 2 → h.1 237 6 = nI (vlN t (p - s) s)) → ∃ h', (if ((h.1 237 3) - (h.1 237 4)) ≤ (2 : Int32) then sq (wi h 237 5 1) fun h36 => some h36 else sq (wi h 237 5 4) fun h37 => some h37) = some h' ∧ RAf h h' ∧ h'.1 237 4 = nI s ∧ h'.1 237 3 = nI p ∧ h'.1 237 5 = nI (if p - s ≤ 2 then 1 else 4) ∧ (p - s ≤ 2 → h'.1 237 6 = nI (vlN t (p - s) s)) := by
    intro p h hp hp2 e4 e3 e6
    rw [e3, e4, pk_sub hp]
    by_cases y : p - s ≤ 2
    · rw [if_pos (show nI (p - s) ≤ 2 from nI_le (b := 2) y (by decide)), sq_eq, if_pos y]
      exact ⟨_, rfl, RAf_wi (RAf.refl h) (by decide) _, by rw [wi_j _ _ (by decide)]; exact e4, by rw [wi_j _ _ (by decide)]; exact e3, wi_s _ _ _ _, fun w => by rw [wi_j _ _ (by decide)]; exact e6 w⟩
    · rw [if_neg (show ¬ nI (p - s) ≤ 2 from nI_ge (a := 2) (b := p - s) (by omega) (by omega)), sq_eq, if_neg y]
      exact ⟨_, rfl, RAf_wi (RAf.refl h) (by decide) _, by rw [wi_j _ _ (by decide)]; exact e4, by rw [wi_j _ _ (by decide)]; exact e3, wi_s _ _ _ _, fun w => absurd w y⟩
  intro r
  induction r with
  | zero =>
    intro p fu h e hp hf c e4 e3 e6 ed
    obtain ⟨fu, rfl, _⟩ := fuel hf
    have hz := c.1
    rw [X11_advance_l198, show X11_byteAt N h 237 (h.1 237 3) = some (-1) by rw [e3]; exact r_byteN c (by omega) (by omega), bd1_some, r_digN, bd1_some, if_pos rfl, rn]
    exact fin p h hp (by omega) e4 e3 e6
  | succ r ih =>
    intro p fu h e hp hf c e4 e3 e6 ed
    obtain ⟨fu, rfl, _⟩ := fuel hf
    have hz := c.1
    have ht := c.2.1 p
    have eb : X11_byteAt N h 237 (h.1 237 3) = some (nI (t p)) := by rw [e3]; exact r_byte c (by omega)
    rw [X11_advance_l198, eb, bd1_some, r_dig (by omega), bd1_some, rn]
    by_cases y : 48 ≤ t p ∧ t p ≤ 57
    · have y' : isDi t p = true := decide_eq_true y
      have ed' : ∀ j, s ≤ j → j < p + 1 → isDi t j = true := by
        intro j j1 j2
        by_cases u : j = p
        · rw [u]; exact y'
        · exact ed j j1 (by omega)
      rw [nB_t y, if_neg one0, if_pos y', show h.1 237 3 - h.1 237 4 = nI (p - s) by rw [e3, e4, pk_sub hp]]
      by_cases w : 2 ≤ p - s
      · have f1 := RAf_wi (RAf.refl h) (j := 3) (by decide) (nI (p + 1))
        rw [if_pos (show (2 : Int32) ≤ nI (p - s) from nI_le (a := 2) w (by omega)), sq_eq, e3, nI_1]
        obtain ⟨h', a1, a2, a3⟩ := ih (p + 1) fu _ (by omega) (by omega) (by omega) (RTp_f c f1) (by rw [wi_j _ _ (by decide)]; exact e4) (wi_s _ _ _ _) (fun u => by omega) ed'
        exact ⟨h', a1, RAf.trans f1 a2, a3⟩
      · rw [if_neg (show ¬ (2 : Int32) ≤ nI (p - s) from nI_ge (b := 2) (by omega) (by decide)), bd1_some, sq_eq, sq_eq, e6 (by omega)]
        have d0 : p - s = 0 ∨ (p - s = 1 ∧ 48 ≤ t s ∧ t s ≤ 57) := by
          by_cases u : p - s = 0
          · exact Or.inl u
          · exact Or.inr ⟨by omega, of_decide_eq_true (ed s (Nat.le_refl _) (by omega))⟩
        have ev : (10 : Int32) * nI (vlN t (p - s) s) + nI (t p) - 48 = nI (vlN t (p + 1 - s) s) := by
          rcases d0 with d0 | ⟨d1, d2⟩
          · have ep : p = s := by omega
            subst ep
            rw [d0, show vlN t 0 p = 0 from rfl, show (10 : Int32) * nI 0 = nI 0 from rfl, nI_add, Nat.zero_add, zn48, pk_sub (by omega), show p + 1 - p = 1 by omega]
            rfl
          · have ep : p = s + 1 := by omega
            subst ep
            rw [d1, show vlN t 1 s = t s - 48 from rfl, zn10, pk_mul, nI_add, zn48, pk_sub (by omega), show s + 1 + 1 - s = 2 by omega, show vlN t 2 s = 10 * (t s - 48) + (t (s + 1) - 48) from rfl]
            congr 1
            omega
        rw [ev, show (wi h 237 6 (nI (vlN t (p + 1 - s) s))).1 237 3 = nI p by rw [wi_j _ _ (by decide)]; exact e3, nI_1]
        have f2 := RAf_wi (RAf_wi (RAf.refl h) (j := 6) (by decide) (nI (vlN t (p + 1 - s) s))) (j := 3) (by decide) (nI (p + 1))
        obtain ⟨h', a1, a2, a3⟩ := ih (p + 1) fu _ (by omega) (by omega) (by omega) (RTp_f c f2) (by rw [wi_j _ _ (by decide), wi_j _ _ (by decide)]; exact e4) (wi_s _ _ _ _) (fun u => by rw [wi_j _ _ (by decide), wi_s]) ed'
        exact ⟨h', a1, RAf.trans f2 a2, a3⟩
    · rw [nB_f y, if_pos rfl, if_neg (show ¬ isDi t p = true from fun w => y (of_decide_eq_true w))]
      exact fin p h hp (by omega) e4 e3 e6
/-- the token behind the blanks -/
theorem r_tok (hN : 2000 ≤ N) {s : Nat} {c0 : Int32} (c : RTp h t z) (hs : s ≤ z) (e3 : h.1 237 3 = nI s) (hc : X11_byteAt N h 237 (nI s) = some c0) : ∃ h', (sq (wi h 237 4 (h.1 237 3)) fun h10 => bd1 (X11_byteAt N h10 237 (h10.1 237 3)) fun r12 => (if 0 ≤ r12 then bd1 (X11_isLetter N h10 r12) fun r16 => (if r16 = 0 then bd1 (X11_isDigit N h10 r12) fun r20 => (if r20 = 0 then sq (wi h10 237 3 ((h10.1 237 3) + 1)) fun h23 => (if r12 = (59 : Int32) then sq (wi h23 237 5 2) fun h26 => some h26 else sq (wi h23 237 5 4) fun h25 => some h25) else sq (wi h10 237 6 0) fun h27 => X11_advance_l198 N N h27 237) else X11_advance_l77 N N h10 237 0) else sq (wi h10 237 5 0) fun h70 => some h70)) = some h' ∧ RTok h' t z s ∧ RAf h h' := by
  have hz := c.1
  have ht := c.2.1 s
  rw [sq_eq, e3]
  have f1 := RAf_wi (RAf.refl h) (j := 4) (by decide) (nI s)
  have c1 := RTp_f c f1
  have x4 : (wi h 237 4 (nI s)).1 237 4 = nI s := wi_s _ _ _ _
  have x3 : (wi h 237 4 (nI s)).1 237 3 = nI s := by rw [wi_j _ _ (by decide)]; exact e3
  generalize wi h 237 4 (nI s) = g at f1 c1 x4 x3 ⊢
  rw [x3]
  by_cases y : z ≤ s
  · rw [r_byteN c1 y (by omega), bd1_some, if_neg (by decide), sq_eq]
    have et : ten t z s = s := by unfold ten; rw [if_pos y]
    have ek : tkc t z s = 0 := by unfold tkc; rw [if_pos y]
    have er : rkc t z s = 0 := by unfold rkc; rw [if_pos ek]
    refine ⟨_, rfl, ⟨RTp_f c1 (RAf_wi (RAf.refl g) (by decide) _), hs, by rw [wi_j _ _ (by decide)]; exact x4, by rw [wi_j _ _ (by decide), et]; exact x3, by rw [wi_s, er]; rfl, fun w => by rw [ek] at w; omega, fun w => by rw [ek] at w; omega⟩, RAf.trans f1 (RAf_wi (RAf.refl g) (by decide) _)⟩
  · rw [r_byte c1 (by omega), bd1_some, if_pos (nI_pos' (by omega)), r_let (by omega), bd1_some]
    by_cases a : 97 ≤ t s ∧ t s ≤ 122
    · have a' : isLe t s = true := decide_eq_true a
      have ek : tkc t z s = 1 := by unfold tkc; rw [if_neg y, if_pos a']
      have et : ten t z s = rn (isLe t) (z - s) s := ten_let (by omega) a'
      rw [nB_t a, if_neg one0]
      obtain ⟨h', b1, b2, b3, b4, b5, b6⟩ := r_l77 (N := N) (t := t) (z := z) hN (s := s) (by omega) (z - s) s N g 0 (by omega) (Nat.le_refl _) (by omega) c1 x4 x3 (by rw [Nat.sub_self]; rfl) (fun j j1 j2 => by omega)
      rw [← et] at b4 b5 b6
      refine ⟨h', b1, ⟨RTp_f c1 b2, hs, b3, b4, ?_, fun w => by rw [ek] at w; omega, fun _ => b5⟩, RAf.trans f1 b2⟩
      unfold rkc
      rw [if_neg (by rw [ek]; decide), if_pos ek]
      exact b6
    · have a' : ¬ isLe t s = true := fun w => a (of_decide_eq_true w)
      rw [nB_f a, if_pos rfl, r_dig (by omega), bd1_some]
      by_cases b : 48 ≤ t s ∧ t s ≤ 57
      · have b' : isDi t s = true := decide_eq_true b
        rw [nB_t b, if_neg one0, sq_eq]
        have f2 := RAf_wi (RAf.refl g) (j := 6) (by decide) 0
        obtain ⟨h', d1, d2, d3, d4, d5, d6⟩ := r_l198 (N := N) (t := t) (z := z) hN (s := s) (by omega) (z - s) s N (wi g 237 6 0) (by omega) (Nat.le_refl _) (by omega) (RTp_f c1 f2) (by rw [wi_j _ _ (by decide)]; exact x4) (by rw [wi_j _ _ (by decide)]; exact x3) (fun _ => by rw [Nat.sub_self, wi_s]; rfl) (fun j j1 j2 => by omega)
        have et : ten t z s = rn (isDi t) (z - s) s := ten_dig (by omega) b'
        have ek : tkc t z s = if ten t z s - s ≤ 2 then 2 else 4 := by unfold tkc; rw [if_neg y, if_neg a', if_pos b']
        rw [← et] at d4 d5 d6
        have f3 := RAf.trans f2 d2
        refine ⟨h', d1, ⟨RTp_f c1 f3, hs, d3, d4, ?_, fun w => ?_, fun w => ?_⟩, RAf.trans f1 f3⟩
        · rw [d5]
          unfold rkc
          by_cases u : ten t z s - s ≤ 2
          · rw [if_pos u] at ek
            rw [if_pos u, ek]
            rfl
          · rw [if_neg u] at ek
            rw [if_neg u, ek]
            rfl
        · exact d6 (tkc_2 w).2.2
        · by_cases u : ten t z s - s ≤ 2
          · rw [if_pos u] at ek; omega
          · rw [if_neg u] at ek; omega
      · have b' : ¬ isDi t s = true := fun w => b (of_decide_eq_true w)
        have et : ten t z s = s + 1 := by unfold ten; rw [if_neg y, if_neg a', if_neg b']
        rw [nB_f b, if_pos rfl, sq_eq, nI_1]
        by_cases d : t s = 59
        · have ek : tkc t z s = 3 := by unfold tkc; rw [if_neg y, if_neg a', if_neg b', if_pos d]
          have er : rkc t z s = 2 := by unfold rkc; rw [ek]; rfl
          rw [if_pos (show nI (t s) = 59 by rw [d]; rfl), sq_eq]
          have f2 := RAf_wi (RAf_wi (RAf.refl g) (j := 3) (by decide) (nI (s + 1))) (j := 5) (by decide) 2
          refine ⟨_, rfl, ⟨RTp_f c1 f2, hs, by rw [wi_j _ _ (by decide), wi_j _ _ (by decide)]; exact x4, by rw [wi_j _ _ (by decide), wi_s, et], by rw [wi_s, er]; rfl, fun w => by rw [ek] at w; omega, fun w => by rw [ek] at w; omega⟩, RAf.trans f1 f2⟩
        · have ek : tkc t z s = 4 := by unfold tkc; rw [if_neg y, if_neg a', if_neg b', if_neg d]
          have er : rkc t z s = 4 := by unfold rkc; rw [ek]; rfl
          rw [if_neg (show ¬ nI (t s) = 59 from nI_ne (b := 59) d (by omega) (by decide)), sq_eq]
          have f2 := RAf_wi (RAf_wi (RAf.refl g) (j := 3) (by decide) (nI (s + 1))) (j := 5) (by decide) 4
          refine ⟨_, rfl, ⟨RTp_f c1 f2, hs, by rw [wi_j _ _ (by decide), wi_j _ _ (by decide)]; exact x4, by rw [wi_j _ _ (by decide), wi_s, et], by rw [wi_s, er]; rfl, fun w => by rw [ek] at w; omega, fun w => by rw [ek] at w; omega⟩, RAf.trans f1 f2⟩
theorem r_l0 (hN : 2000 ≤ N) : ∀ (r p fu : Nat) (h : HS), p + r = z → r < fu → RTp h t z → h.1 237 3 = nI p → ∃ h', X11_advance_l0 N fu h 237 = some h' ∧ RTok h' t z (rn (isBl t) r p) ∧ RAf h h' := by
  intro r
  induction r with
  | zero =>
    intro p fu h e hf c e3
    obtain ⟨fu, rfl, _⟩ := fuel hf
    have hz := c.1
    have eb : X11_byteAt N h 237 (nI p) = some (-1) := r_byteN c (by omega) (by omega)
    rw [X11_advance_l0, show X11_byteAt N h 237 (h.1 237 3) = some (-1) by rw [e3]; exact eb, bd1_some, if_neg (by decide), bd1_some, if_neg (by decide), rn]
    exact r_tok hN c (by omega) e3 eb
  | succ r ih =>
    intro p fu h e hf c e3
    obtain ⟨fu, rfl, _⟩ := fuel hf
    have hz := c.1
    have ht := c.2.1 p
    have eb : X11_byteAt N h 237 (nI p) = some (nI (t p)) := r_byte c (by omega)
    have f1 := RAf_wi (RAf.refl h) (j := 3) (by decide) (nI (p + 1))
    rw [X11_advance_l0, show X11_byteAt N h 237 (h.1 237 3) = some (nI (t p)) by rw [e3]; exact eb, bd1_some, rn]
    by_cases a : t p = 10
    · rw [if_pos (show nI (t p) = 10 by rw [a]; rfl), sq_eq, if_pos (show isBl t p = true from decide_eq_true (Or.inl a)), e3, nI_1]
      obtain ⟨h', b1, b2, b3⟩ := ih (p + 1) fu _ (by omega) (by omega) (RTp_f c f1) (wi_s _ _ _ _)
      exact ⟨h', b1, b2, RAf.trans f1 b3⟩
    · rw [if_neg (show ¬ nI (t p) = 10 from nI_ne (b := 10) a (by omega) (by decide)), bd1_some]
      by_cases b : t p = 32
      · rw [if_pos (show nI (t p) = 32 by rw [b]; rfl), sq_eq, if_pos (show isBl t p = true from decide_eq_true (Or.inr b)), e3, nI_1]
        obtain ⟨h', b1, b2, b3⟩ := ih (p + 1) fu _ (by omega) (by omega) (RTp_f c f1) (wi_s _ _ _ _)
        exact ⟨h', b1, b2, RAf.trans f1 b3⟩
      · rw [if_neg (show ¬ nI (t p) = 32 from nI_ne (b := 32) b (by omega) (by decide)), if_neg (show ¬ isBl t p = true from fun w => by have := of_decide_eq_true w; omega)]
        exact r_tok hN c (by omega) e3 eb
theorem r_adv0 (hN : 2000 ≤ N) {e : Nat} (c : RTp h t z) (he : e ≤ z) (e3 : h.1 237 3 = nI e) : ∃ h', X11_advance N h 237 = some h' ∧ RTok h' t z (skp t z e) ∧ RAf h h' := by
  have hz := c.1
  unfold X11_advance
  exact r_l0 (N := N) (t := t) (z := z) hN (z - e) e N h (by omega) (by omega) c e3
theorem r_adv (hN : 2000 ≤ N) {s : Nat} (c : RTok h t z s) : ∃ h', X11_advance N h 237 = some h' ∧ RTok h' t z (nxt t z s) ∧ RAf h h' := r_adv0 hN c.1 (ten_le c.2.1).2 c.2.2.2.1
end RTK
