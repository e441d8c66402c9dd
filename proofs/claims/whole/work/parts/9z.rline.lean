/-! ===== level 2: text: the reference's numbers and words ===== -/
def fOK (x : Nat × Int32) (p : Nat) : Prop := (x.1 = 0 ∧ x.2 = -1) ∨ ((x.1 = 2 ∨ x.1 = 3) ∧ ∃ a, a < p ∧ x.2 = nI a)
def RSg (h : HS) (t : Nat → Nat) (z p : Nat) (x : Nat × Int32) : Prop := RTok h t z p ∧ h.1 237 8 = 0 ∧ h.1 238 5 = nI x.1 ∧ h.1 238 6 = x.2 ∧ fOK x p
def RSb (h : HS) (y : Nat) : Prop := h.1 237 8 = 1 ∧ h.1 238 5 = 1 ∧ h.1 238 6 = nI y
def RSt (h : HS) (t : Nat → Nat) (z : Nat) : PSt → Prop
  | .inl (p, x) => RSg h t z p x
  | .inr y => RSb h y
def UNf (h h' : HS) : Prop := (∀ k, k ≠ 237 → k ≠ 238 → h'.1 k = h.1 k) ∧ h'.2 = h.2 ∧ (∀ j, (j < 3 ∨ 9 ≤ j) → h'.1 237 j = h.1 237 j) ∧ (∀ i, i ≠ 5 → i ≠ 6 → h'.1 238 i = h.1 238 i)
theorem UNf.refl (h : HS) : UNf h h := ⟨fun _ _ _ => rfl, rfl, fun _ _ => rfl, fun _ _ _ => rfl⟩
theorem UNf.trans {a b c : HS} (x : UNf a b) (y : UNf b c) : UNf a c := ⟨fun k h1 h2 => (y.1 k h1 h2).trans (x.1 k h1 h2), y.2.1.trans x.2.1, fun j hj => (y.2.2.1 j hj).trans (x.2.2.1 j hj), fun i h1 h2 => (y.2.2.2 i h1 h2).trans (x.2.2.2 i h1 h2)⟩
theorem UNf_a {a b : HS} (x : RAf a b) : UNf a b := ⟨fun k h1 _ => x.1 k h1, x.2.1, fun j hj => x.2.2 j (by omega), fun i _ _ => by rw [x.1 238 (by decide)]⟩
theorem fOK_mono {x : Nat × Int32} {p q : Nat} (f : fOK x p) (h : p ≤ q) : fOK x q := by
  rcases f with f | ⟨f, a, ha, e⟩
  · exact Or.inl f
  · exact Or.inr ⟨f, a, by omega, e⟩
theorem fOK_blm {x : Nat × Int32} {p q : Nat} (f : fOK x q) (h : p < q) (ok : Bool) {kind : Nat} (hk : kind = 2 ∨ kind = 3) : fOK (blm x ok kind p) q := by
  by_cases y : (ok || decide (x.1 ≠ 0)) = true
  · rw [show blm x ok kind p = x from if_pos y]; exact f
  · rw [show blm x ok kind p = (kind, nI p) from if_neg y]; exact Or.inr ⟨hk, p, h, rfl⟩
section RLN
variable {N : Nat} {h : HS} {t : Nat → Nat} {z : Nat}
theorem RTok_s {p : Nat} (c : RTok h t z p) {h' : HS} (e7 : ∀ j, j < 8 → h'.1 237 j = h.1 237 j) (e8 : ∀ i, 10 ≤ i → i < 610 → h'.1 238 i = h.1 238 i) : RTok h' t z p := by
  obtain ⟨⟨c1, c2, c3, c4⟩, d1, d2, d3, d4, d5, d6⟩ := c
  refine ⟨⟨c1, c2, ?_, ?_⟩, d1, ?_, ?_, ?_, ?_, ?_⟩
  · rw [e7 2 (by decide)]; exact c3
  · intro i hi; rw [e8 _ (by omega) (by omega)]; exact c4 i hi
  · rw [e7 4 (by decide)]; exact d2
  · rw [e7 3 (by decide)]; exact d3
  · rw [e7 5 (by decide)]; exact d4
  · intro w; rw [e7 6 (by decide)]; exact d5 w
  · intro w; rw [e7 7 (by decide)]; exact d6 w
/-- what is written elsewhere leaves the state -/
theorem RSt_w {st : PSt} (c : RSt h t z st) {h' : HS} (e7 : ∀ j, j < 9 → h'.1 237 j = h.1 237 j) (e8 : h'.1 238 = h.1 238) : RSt h' t z st := by
  cases st with
  | inl q =>
    obtain ⟨c1, c2, c3, c4, c5⟩ := c
    exact ⟨RTok_s c1 (fun j hj => e7 j (by omega)) (fun i _ _ => by rw [e8]), by rw [e7 8 (by decide)]; exact c2, by rw [e8]; exact c3, by rw [e8]; exact c4, c5⟩
  | inr y =>
    obtain ⟨c1, c2, c3⟩ := c
    exact ⟨by rw [e7 8 (by decide)]; exact c1, by rw [e8]; exact c2, by rw [e8]; exact c3⟩
theorem r_ends {p : Nat} {x : Nat × Int32} (c : RSg h t z p x) : ∃ h', X11_ends N h 237 = some h' ∧ RSb h' p ∧ UNf h h' := by
  unfold X11_ends
  rw [if_pos c.2.1, sq_eq, if_neg (by decide), sq_eq, if_neg (by decide), sq_eq]
  refine ⟨_, rfl, ⟨rfl, rfl, ?_⟩, ⟨?_, rfl, ?_, ?_⟩⟩
  · rw [show (237 + 1 : Nat) = 238 from rfl, show (6 : Int32).toNatClampNeg = 6 from rfl, wi_s, wi_k _ _ (by decide), wi_j _ _ (by decide)]; exact c.1.2.2.1
  · intro k h1 h2; rw [wi_k _ _ h2, wi_k _ _ h2, wi_k _ _ h1]
  · intro j hj; rw [wi_k _ _ (by decide), wi_k _ _ (by decide), wi_j _ _ (by omega)]
  · intro i h1 h2
    rw [show (237 + 1 : Nat) = 238 from rfl, show (6 : Int32).toNatClampNeg = 6 from rfl, show (5 : Int32).toNatClampNeg = 5 from rfl, wi_j _ _ h2, wi_j _ _ h1, wi_k _ _ (by decide)]
theorem r_endsB {y : Nat} (c : RSb h y) : X11_ends N h 237 = some h := by
  unfold X11_ends
  rw [c.1, if_neg one0]
def RFl (h h' : HS) : Prop := (∀ k, k ≠ 238 → h'.1 k = h.1 k) ∧ h'.2 = h.2 ∧ (∀ i, i ≠ 5 → i ≠ 6 → h'.1 238 i = h.1 238 i)
theorem UNf_l {a b : HS} (x : RFl a b) : UNf a b := ⟨fun k _ h2 => x.1 k h2, x.2.1, fun j _ => by rw [x.1 237 (by decide)], x.2.2⟩
theorem r_also {p kind : Nat} {x : Nat × Int32} (hk : kind ≤ 4) (hp : p < 2 ^ 30) (w0 : h.1 237 8 = 0) (e5 : h.1 238 5 = nI x.1) (e6 : h.1 238 6 = x.2) (ok : x.1 = 0 ∨ ((x.1 = 2 ∨ x.1 = 3) ∧ ∃ a, x.2 = nI a ∧ (a < p ∨ (a = p ∧ x.1 ≤ kind)))) : ∃ h', X11_also N h 237 (nI kind) (nI p) = some h' ∧ h'.1 238 5 = nI (blm x false kind p).1 ∧ h'.1 238 6 = (blm x false kind p).2 ∧ RFl h h' := by
  unfold X11_also
  rw [if_pos w0, if_neg (by decide), show h.1 (237 + 1) (5 : Int32).toNatClampNeg = _ from e5]
  by_cases y : x.1 = 0
  · rw [if_pos (by rw [y]; rfl), if_neg (by decide), sq_eq, if_neg (by decide), sq_eq, show blm x false kind p = (kind, nI p) from if_neg (by simp [y])]
    refine ⟨_, rfl, rfl, rfl, ?_, rfl, ?_⟩
    · intro k h2; rw [wi_k _ _ h2, wi_k _ _ h2]
    · intro i h1 h2
      rw [show (237 + 1 : Nat) = 238 from rfl, show (6 : Int32).toNatClampNeg = 6 from rfl, show (5 : Int32).toNatClampNeg = 5 from rfl, wi_j _ _ h2, wi_j _ _ h1]
  · rcases ok with w | ⟨w, a, ea, wa⟩
    · exact absurd w y
    · have bl : blm x false kind p = x := if_pos (by simp [y])
      rw [if_neg (nI_ne0 (by omega) (by omega)), if_neg (by decide), show h.1 (237 + 1) (6 : Int32).toNatClampNeg = _ from e6, ea, bl]
      by_cases v : a < p
      · rw [if_pos (nI_lt v (by omega))]
        exact ⟨h, rfl, e5, e6, fun _ _ => rfl, rfl, fun _ _ _ => rfl⟩
      · have wa' : a = p ∧ x.1 ≤ kind := by omega
        rw [if_neg (nI_nlt (by omega) (by omega)), if_neg (by decide), if_pos (by rw [wa'.1]), if_neg (by decide), if_neg (nI_nlt wa'.2 (by omega))]
        exact ⟨h, rfl, e5, e6, fun _ _ => rfl, rfl, fun _ _ _ => rfl⟩
def nmS (t : Nat → Nat) (z lo hi : Nat) : PSt → PSt
  | .inl (p, x) => nmO t z (decide (lo ≤ val t z p ∧ val t z p ≤ hi)) (.inl (p, x))
  | .inr y => .inr y
def nmV (t : Nat → Nat) (z lo hi : Nat) : PSt → Nat
  | .inl (p, _) => if tkc t z p = 2 ∧ lo ≤ val t z p ∧ val t z p ≤ hi then val t z p else lo
  | .inr _ => lo
theorem rkc_1 {p : Nat} : (rkc t z p = 1) ↔ tkc t z p = 2 := by
  unfold rkc
  by_cases a : tkc t z p = 0
  · rw [if_pos a]; omega
  · rw [if_neg a]
    by_cases b : tkc t z p = 1
    · rw [if_pos b]
      by_cases c : wrd t z p = 99
      · rw [if_pos c]; omega
      · rw [if_neg c]; omega
    · rw [if_neg b]
      by_cases c : tkc t z p = 2
      · rw [if_pos c]; omega
      · rw [if_neg c]
        by_cases d : tkc t z p = 3
        · rw [if_pos d]; omega
        · rw [if_neg d]; omega
theorem rkc_3 {p : Nat} : (rkc t z p = 3) ↔ (tkc t z p = 1 ∧ wrd t z p ≠ 99) := by
  unfold rkc
  by_cases a : tkc t z p = 0
  · rw [if_pos a]; omega
  · rw [if_neg a]
    by_cases b : tkc t z p = 1
    · rw [if_pos b]
      by_cases c : wrd t z p = 99
      · rw [if_pos c]; omega
      · rw [if_neg c]; omega
    · rw [if_neg b]
      by_cases c : tkc t z p = 2
      · rw [if_pos c]; omega
      · rw [if_neg c]
        by_cases d : tkc t z p = 3
        · rw [if_pos d]; omega
        · rw [if_neg d]; omega
theorem rkc_2 {p : Nat} : (rkc t z p = 2) ↔ tkc t z p = 3 := by
  unfold rkc
  by_cases a : tkc t z p = 0
  · rw [if_pos a]; omega
  · rw [if_neg a]
    by_cases b : tkc t z p = 1
    · rw [if_pos b]
      by_cases c : wrd t z p = 99
      · rw [if_pos c]; omega
      · rw [if_neg c]; omega
    · rw [if_neg b]
      by_cases c : tkc t z p = 2
      · rw [if_pos c]; omega
      · rw [if_neg c]
        by_cases d : tkc t z p = 3
        · rw [if_pos d]; omega
        · rw [if_neg d]; omega
theorem rkc_0 {p : Nat} : (rkc t z p = 0) ↔ tkc t z p = 0 := by
  unfold rkc
  by_cases a : tkc t z p = 0
  · rw [if_pos a]; omega
  · rw [if_neg a]
    by_cases b : tkc t z p = 1
    · rw [if_pos b]
      by_cases c : wrd t z p = 99
      · rw [if_pos c]; omega
      · rw [if_neg c]; omega
    · rw [if_neg b]
      by_cases c : tkc t z p = 2
      · rw [if_pos c]; omega
      · rw [if_neg c]
        by_cases d : tkc t z p = 3
        · rw [if_pos d]; omega
        · rw [if_neg d]; omega
theorem rkc_lt (p : Nat) : rkc t z p ≤ 4 := by
  unfold rkc
  by_cases a : tkc t z p = 0
  · rw [if_pos a]; omega
  · rw [if_neg a]
    by_cases b : tkc t z p = 1
    · rw [if_pos b]
      by_cases c : wrd t z p = 99
      · rw [if_pos c]; omega
      · rw [if_neg c]; omega
    · rw [if_neg b]
      by_cases c : tkc t z p = 2
      · rw [if_pos c]; omega
      · rw [if_neg c]
        by_cases d : tkc t z p = 3
        · rw [if_pos d]; omega
        · rw [if_neg d]; omega
theorem inNN {v lo hi : Nat} (hv : v < 2 ^ 31) (h1 : lo < 2 ^ 31) (h2 : hi < 2 ^ 31) : (nI lo ≤ nI v ∧ nI v ≤ nI hi) ↔ (lo ≤ v ∧ v ≤ hi) := by
  rw [nI_leI h1 hv, nI_leI hv h2]
theorem r_numbered (hN : 2000 ≤ N) {st : PSt} {lo hi : Nat} (c : RSt h t z st) (h1 : lo ≤ 20) (h2 : hi ≤ 20) : ∃ h', X11_numbered N h 237 (nI lo) (nI hi) = some (nI (nmV t z lo hi st), h') ∧ RSt h' t z (nmS t z lo hi st) ∧ UNf h h' := by
  cases st with
  | inr y =>
    unfold X11_numbered
    rw [c.1, if_neg one0, r_endsB c, bd1_some]
    exact ⟨h, rfl, c, UNf.refl h⟩
  | inl q =>
    obtain ⟨p, x⟩ := q
    have c0 : RSg h t z p x := c
    obtain ⟨c1, c2, c3, c4, c5⟩ := c
    have rl := rkc_lt (t := t) (z := z) p
    have hz := c1.1.1
    unfold X11_numbered
    rw [if_pos c2, c1.2.2.2.2.1]
    by_cases y : tkc t z p = 2
    · have hp := (tkc_2 y).1
      have nx := nxt_in (t := t) hp
      have v9 := val_lt y
      rw [if_pos (show nI (rkc t z p) = 1 by rw [rkc_1.mpr y]; rfl), c1.2.2.2.2.2.1 y, r_isIn, bd1_some, nmS, nmO, if_pos y, nmV]
      by_cases w : lo ≤ val t z p ∧ val t z p ≤ hi
      · have w' := (inNN (by omega) (by omega) (by omega)).mpr w
        rw [nB_t w', if_neg one0, decide_eq_true w, if_pos ⟨y, w⟩]
        obtain ⟨h1, a1, a2, a3⟩ := r_adv (N := N) hN c1
        rw [a1, bd1_some, r_isIn, bd1_some, nB_t w', if_neg one0, show blm x true 2 p = x from if_pos rfl]
        exact ⟨h1, rfl, ⟨a2, by rw [a3.2.2 8 (by decide)]; exact c2, by rw [a3.1 238 (by decide)]; exact c3, by rw [a3.1 238 (by decide)]; exact c4, fOK_mono c5 (by omega)⟩, UNf_a a3⟩
      · have w' : ¬ (nI lo ≤ nI (val t z p) ∧ nI (val t z p) ≤ nI hi) := fun u => w ((inNN (by omega) (by omega) (by omega)).mp u)
        rw [nB_f w', if_pos rfl, decide_eq_false w, if_neg (fun u => w u.2), c1.2.2.1]
        obtain ⟨h0, b1, b2, b3, b4⟩ := r_also (N := N) (h := h) (p := p) (kind := 2) (x := x) (by decide) (by omega) c2 c3 c4 (by
          rcases c5 with f | ⟨f, a, ha, e⟩
          · exact Or.inl f.1
          · exact Or.inr ⟨f, a, e, Or.inl ha⟩)
        have c1' : RTok h0 t z p := RTok_s c1 (fun j _ => by rw [b4.1 237 (by decide)]) (fun i _ _ => b4.2.2 i (by omega) (by omega))
        obtain ⟨h1, a1, a2, a3⟩ := r_adv (N := N) hN c1'
        rw [show X11_also N h 237 2 (nI p) = _ from b1, bd1_some, a1, bd1_some, r_isIn, bd1_some, nB_f w', if_pos rfl]
        refine ⟨h1, rfl, ⟨a2, ?_, ?_, ?_, ?_⟩, UNf.trans (UNf_l b4) (UNf_a a3)⟩
        · rw [a3.2.2 8 (by decide), b4.1 237 (by decide)]; exact c2
        · rw [a3.1 238 (by decide)]; exact b2
        · rw [a3.1 238 (by decide)]; exact b3
        · exact fOK_blm (fOK_mono c5 (by omega)) (by omega) false (Or.inl rfl)
    · rw [if_neg (show ¬ nI (rkc t z p) = 1 from nI_ne (b := 1) (fun u => y (rkc_1.mp u)) (by omega) (by decide)), nmS, nmO, if_neg y, nmV, if_neg (fun u => y u.1)]
      obtain ⟨h', a1, a2, a3⟩ := r_ends (N := N) c0
      rw [a1, bd1_some]
      exact ⟨h', rfl, a2, a3⟩
def nmA (t : Nat → Nat) (z low : Nat) : PSt → PSt
  | .inl (p, x) => nmO t z (decide (1 ≤ val t z p ∧ val t z p ≤ 9) && decide (low ≤ val t z p)) (.inl (p, x))
  | .inr y => .inr y
theorem r_above (hN : 2000 ≤ N) {st : PSt} {low : Nat} (c : RSt h t z st) (h1 : low ≤ 20) : ∃ h', X11_above N h 237 (nI low) 9 = some (nI (nmV t z 1 9 st), h') ∧ RSt h' t z (nmA t z low st) ∧ UNf h h' := by
  obtain ⟨h', a1, a2, a3⟩ := r_numbered (N := N) hN (st := st) (lo := 1) (hi := 9) c (by decide) (by decide)
  have b32 : ∀ u : Int32, X11_above_b32 N h 237 9 u = some (nI (nmV t z 1 9 st), h') := by
    intro u
    unfold X11_above_b32
    rw [show X11_numbered N h 237 1 9 = _ from a1, bd2_some, if_pos rfl]
  unfold X11_above
  cases st with
  | inr y =>
    rw [c.1, if_neg one0, b32]
    exact ⟨h', rfl, a2, a3⟩
  | inl q =>
    obtain ⟨p, x⟩ := q
    have c0 : RSg h t z p x := c
    obtain ⟨c1, c2, c3, c4, c5⟩ := c
    have rl := rkc_lt (t := t) (z := z) p
    have hz := c1.1.1
    have hpz := c1.2.1
    rw [if_pos c2, c1.2.2.2.2.1]
    by_cases y : tkc t z p = 2
    · have v9 := val_lt y
      have hp := (tkc_2 y).1
      have nx := nxt_in (t := t) hp
      rw [if_pos (show nI (rkc t z p) = 1 by rw [rkc_1.mpr y]; rfl), c1.2.2.2.2.2.1 y]
      rw [nmS, nmO, if_pos y] at a2
      rw [nmA, nmO, if_pos y]
      by_cases w : low ≤ val t z p
      · rw [if_pos (nI_le w (by omega)), b32, decide_eq_true w, Bool.and_true]
        exact ⟨h', rfl, a2, a3⟩
      · rw [if_neg (nI_ge (by omega) (by omega)), show X11_numbered N h 237 1 9 = _ from a1, bd2_some, if_neg one0, c1.2.2.1, decide_eq_false w, Bool.and_false]
        generalize hb : decide (1 ≤ val t z p ∧ val t z p ≤ 9) = b at a2
        have a2' : RSg h' t z (nxt t z p) (blm x b 2 p) := a2
        obtain ⟨d1, d2, d3, d4, d5⟩ := a2'
        obtain ⟨h0, b1, b2, b3, b4⟩ := r_also (N := N) (h := h') (p := p) (kind := 2) (x := blm x b 2 p) (by decide) (by omega) d2 d3 d4 (by
          by_cases u : (b || decide (x.1 ≠ 0)) = true
          · rw [show blm x b 2 p = x from if_pos u]
            rcases c5 with f | ⟨f, a, ha, e⟩
            · exact Or.inl f.1
            · exact Or.inr ⟨f, a, e, Or.inl ha⟩
          · rw [show blm x b 2 p = (2, nI p) from if_neg u]
            exact Or.inr ⟨Or.inl rfl, p, rfl, Or.inr ⟨rfl, Nat.le_refl _⟩⟩)
        have eb : blm (blm x b 2 p) false 2 p = blm x false 2 p := by
          by_cases u : x.1 = 0
          · cases b with
            | true => rw [show blm x true 2 p = x from if_pos rfl]
            | false => rw [show blm x false 2 p = (2, nI p) from if_neg (by simp [u])]; exact if_pos (by simp)
          · rw [show blm x b 2 p = x from if_pos (by simp [u])]
        rw [eb] at b2 b3
        rw [show X11_also N h' 237 2 (nI p) = _ from b1, bd1_some]
        refine ⟨h0, rfl, ⟨RTok_s d1 (fun j _ => by rw [b4.1 237 (by decide)]) (fun i _ _ => b4.2.2 i (by omega) (by omega)), by rw [b4.1 237 (by decide)]; exact d2, b2, b3, fOK_blm (fOK_mono c5 (by omega)) (by omega) false (Or.inl rfl)⟩, UNf.trans a3 (UNf_l b4)⟩
    · rw [if_neg (show ¬ nI (rkc t z p) = 1 from nI_ne (b := 1) (fun u => y (rkc_1.mp u)) (by omega) (by decide)), b32]
      rw [nmS, nmO, if_neg y] at a2
      rw [nmA, nmO, if_neg y]
      exact ⟨h', rfl, a2, a3⟩
theorem r_endsLine (hN : 2000 ≤ N) {st : PSt} (c : RSt h t z st) : ∃ h', X11_endsLine N h 237 = some h' ∧ RSt h' t z (enS t z st) ∧ UNf h h' := by
  unfold X11_endsLine
  cases st with
  | inr y =>
    rw [c.1, if_neg one0, r_endsB c, bd1_some]
    exact ⟨h, rfl, c, UNf.refl h⟩
  | inl q =>
    obtain ⟨p, x⟩ := q
    have c0 : RSg h t z p x := c
    obtain ⟨c1, c2, c3, c4, c5⟩ := c
    have rl := rkc_lt (t := t) (z := z) p
    rw [if_pos c2, c1.2.2.2.2.1, enS]
    by_cases y : tkc t z p = 3
    · rw [if_pos (show nI (rkc t z p) = 2 by rw [rkc_2.mpr y]; rfl), if_pos y]
      obtain ⟨h1, a1, a2, a3⟩ := r_adv (N := N) hN c1
      have nx := nxt_le (t := t) c1.2.1
      rw [a1, bd1_some]
      exact ⟨h1, rfl, ⟨a2, by rw [a3.2.2 8 (by decide)]; exact c2, by rw [a3.1 238 (by decide)]; exact c3, by rw [a3.1 238 (by decide)]; exact c4, fOK_mono c5 (by omega)⟩, UNf_a a3⟩
    · rw [if_neg (show ¬ nI (rkc t z p) = 2 from nI_ne (b := 2) (fun u => y (rkc_2.mp u)) (by omega) (by decide)), if_neg y]
      obtain ⟨h', a1, a2, a3⟩ := r_ends (N := N) c0
      rw [a1, bd1_some]
      exact ⟨h', rfl, a2, a3⟩
theorem r_wordIn (hN : 2000 ≤ N) {p lo hi : Nat} {x : Nat × Int32} (c : RSg h t z p x) (h0 : 1 ≤ lo) (h1 : lo ≤ 12) (h2 : hi ≤ 12) : ∃ h', X11_wordIn N h 237 (nI lo) (nI hi) = some (if lo ≤ wdk t z p ∧ wdk t z p ≤ hi then nI (wdk t z p) else 0, h') ∧ RSt h' t z (if lo ≤ wdk t z p ∧ wdk t z p ≤ hi then .inl (nxt t z p, x) else .inr p) ∧ UNf h h' := by
  have c0 := c
  obtain ⟨c1, c2, c3, c4, c5⟩ := c
  have rl := rkc_lt (t := t) (z := z) p
  obtain ⟨hb, a1, a2, a3⟩ := r_ends (N := N) c0
  unfold X11_wordIn
  rw [if_pos c2, c1.2.2.2.2.1]
  by_cases y : tkc t z p = 1
  · have ew : wdk t z p = wrd t z p := by unfold wdk; rw [if_pos y]
    have win := wrdN_in (t := t) (s := p) (n := ten t z p - p)
    have win' : (1 ≤ wrd t z p ∧ wrd t z p ≤ 12) ∨ wrd t z p = 99 := win
    rw [ew]
    by_cases w : wrd t z p = 99
    · rw [if_neg (show ¬ nI (rkc t z p) = 3 from nI_ne (b := 3) (fun u => (rkc_3.mp u).2 w) (by omega) (by decide)), if_neg (by omega), if_neg (by omega), a1, bd1_some]
      exact ⟨hb, rfl, a2, a3⟩
    · rw [if_pos (show nI (rkc t z p) = 3 by rw [rkc_3.mpr ⟨y, w⟩]; rfl), c1.2.2.2.2.2.2 y, r_isIn, bd1_some]
      by_cases v : lo ≤ wrd t z p ∧ wrd t z p ≤ hi
      · rw [nB_t ((inNN (by omega) (by omega) (by omega)).mpr v), if_neg one0, if_pos v, if_pos v]
        obtain ⟨h1, b1, b2, b3⟩ := r_adv (N := N) hN c1
        have nx := nxt_le (t := t) c1.2.1
        rw [b1, bd1_some]
        exact ⟨h1, rfl, ⟨b2, by rw [b3.2.2 8 (by decide)]; exact c2, by rw [b3.1 238 (by decide)]; exact c3, by rw [b3.1 238 (by decide)]; exact c4, fOK_mono c5 (by omega)⟩, UNf_a b3⟩
      · rw [nB_f (fun u => v ((inNN (by omega) (by omega) (by omega)).mp u)), if_pos rfl, if_neg v, if_neg v, a1, bd1_some]
        exact ⟨hb, rfl, a2, a3⟩
  · have ew : wdk t z p = 99 := by unfold wdk; rw [if_neg y]
    rw [ew, if_neg (show ¬ nI (rkc t z p) = 3 from nI_ne (b := 3) (fun u => y (rkc_3.mp u).1) (by omega) (by decide)), if_neg (by omega), if_neg (by omega), a1, bd1_some]
    exact ⟨hb, rfl, a2, a3⟩
end RLN
