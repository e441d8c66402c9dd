/-! ===== level 2: nights are played ===== -/
section PLA
variable {N : Nat} {p q : Nat} {D : Nat → Nat} {S : NS} {h : HS}
abbrev S0 (D : Nat → Nat) : NS := (fun _ => 0, brF D, fun _ => 0, none, none, none)
theorem w_S0 (k : HK D) : WS D (S0 D) := by
  have hk := hk0 k
  exact ⟨Nat.zero_le _, Nat.zero_le _, by show 0 < 64; omega, Nat.le_refl _, by show 0 < 32; omega, by show 0 < 64; omega, Nat.zero_le _, fun s hs => (hkS k hs).2.2.2.2, fun _ _ => Nat.le_refl _, fun _ => rfl, fun b o e => (by cases e), fun n m e => (by cases e), ⟨fun _ => rfl, fun _ => rfl⟩, fun j e => (by cases e)⟩
theorem fill197 (hN : 100 ≤ N) : ∃ h', J7_fill_53178 N h (185 + 12) 0 = some h' ∧ h'.2 = h.2 ∧ (∀ k, k ≠ 197 → h'.1 k = h.1 k) ∧ ∀ t, t < 5 → h'.1 197 t = 0 := by
  have key : ∀ (r s fu : Nat) (h' : HS), s + r = 5 → r < fu → h'.2 = h.2 → (∀ k, k ≠ 197 → h'.1 k = h.1 k) → (∀ t, t < s → h'.1 197 t = 0) → ∃ h2, J7_fill_53178_l5 N fu h' 197 0 (nI s) (nI 5) = some h2 ∧ h2.2 = h.2 ∧ (∀ k, k ≠ 197 → h2.1 k = h.1 k) ∧ ∀ t, t < 5 → h2.1 197 t = 0 := by
    intro r
    induction r with
    | zero =>
      intro s fu h' e hf f2 fk fl
      obtain ⟨fu, rfl, _⟩ := fuel hf
      exact ⟨h', by rw [J7_fill_53178_l5, if_pos (nI_le (by omega) (by omega))], f2, fk, fun t ht => fl t (by omega)⟩
    | succ r ih =>
      intro s fu h' e hf f2 fk fl
      obtain ⟨fu, rfl, _⟩ := fuel hf
      rw [J7_fill_53178_l5, if_neg (nI_ge (by omega) (by omega)), show ln 197 = 5 from ln197, if_neg (nI_in (by omega) (by decide)), sq_eq, nI_clamp (by omega), nI_1]
      refine ih (s + 1) fu _ (by omega) (by omega) f2 (fun k hk => by rw [wi_k _ _ hk]; exact fk k hk) (fun t ht => ?_)
      by_cases y : t = s
      · subst y; exact wi_s _ _ _ _
      · rw [wi_j _ _ y]; exact fl t (by omega)
  unfold J7_fill_53178
  rw [ln197]
  exact key 5 0 N h (by omega) (by omega) rfl (fun _ _ => rfl) (fun t ht => by omega)
theorem c_enterN (c : KH h p D) (hN : 100 ≤ N) : ∃ h', X3_enter N h 185 p = some h' ∧ CNs h' p D (S0 D) ∧ (∀ k, k ≠ 185 → k ≠ 196 → k ≠ 197 → h'.1 k = h.1 k) := by
  unfold X3_enter
  rw [sq_eq, sq_eq, sq_eq, sq_eq, sq_eq, sq_eq, sq_eq, sq_eq, sq_eq, sq_eq, sq_eq]
  generalize hg : wi (wi (wi (wi (wi (wi (wi (wi (wi (wi (wr h 185 p) 185 1 0) 185 4 0) 185 5 0) 185 6 0) 185 7 0) 185 14 0) 185 15 0) 185 16 (-1)) 185 17 (-1)) 185 18 0 = g
  have gk : ∀ k, k ≠ 185 → g.1 k = h.1 k := fun k hk => by rw [← hg, wi_k _ _ hk, wi_k _ _ hk, wi_k _ _ hk, wi_k _ _ hk, wi_k _ _ hk, wi_k _ _ hk, wi_k _ _ hk, wi_k _ _ hk, wi_k _ _ hk, wi_k _ _ hk, wr_1]
  have g1 : g.1 185 1 = 0 := by rw [← hg]; rfl
  have g4 : g.1 185 4 = 0 := by rw [← hg]; rfl
  have g5 : g.1 185 5 = 0 := by rw [← hg]; rfl
  have g6 : g.1 185 6 = 0 := by rw [← hg]; rfl
  have g7 : g.1 185 7 = 0 := by rw [← hg]; rfl
  have g14 : g.1 185 14 = 0 := by rw [← hg]; rfl
  have g16 : g.1 185 16 = -1 := by rw [← hg]; rfl
  have g17 : g.1 185 17 = -1 := by rw [← hg]; rfl
  have g18 : g.1 185 18 = 0 := by rw [← hg]; rfl
  have gs : g.2 185 = p := by rw [← hg]; exact wr_s h 185 p
  obtain ⟨h1, a1, a2, a3, a4⟩ := fill197 (N := N) (h := g) hN
  rw [a1, bd1_some]
  have k1 : KH h1 p D := KH_n (fun k hk => by rw [a3 k (by omega), gk k (by omega)]) c
  obtain ⟨h2, b1, b2, b3, b4, b5, b6, b7, b8, b9, b10⟩ := c_begin (N := N) (h := h1) (p := p) (D := D) (by rw [a2]; exact gs) k1 hN
  rw [b1, bd1_some]
  have z := a3 185 (by decide)
  have jj : ∀ j, j ≠ 2 → j ≠ 3 → j ≠ 8 → j ≠ 9 → j ≠ 10 → h2.1 185 j = g.1 185 j := fun j c1 c2 c3 c4 c5 => by rw [b4 j c1 c2 c3 c4 c5, z]
  refine ⟨h2, rfl, ⟨by rw [b2, a2]; exact gs, KH_n (fun k hk => b3 k (by omega) (by omega)) k1, ?_, b5, b6, ?_, ?_, ?_, ?_, b7, b8, b9, b10, ?_, ?_, fun n m e => (by cases e), ?_, ?_, ?_⟩, fun k c1 c2 c3 => by rw [b3 k c1 c2, a3 k c3, gk k c1]⟩
  · exact (jj 1 (by decide) (by decide) (by decide) (by decide) (by decide)).trans g1
  · exact (jj 4 (by decide) (by decide) (by decide) (by decide) (by decide)).trans g4
  · exact (jj 5 (by decide) (by decide) (by decide) (by decide) (by decide)).trans g5
  · exact (jj 6 (by decide) (by decide) (by decide) (by decide) (by decide)).trans g6
  · exact (jj 7 (by decide) (by decide) (by decide) (by decide) (by decide)).trans g7
  · intro s hs
    rw [b3 197 (by decide) (by decide)]; exact a4 s hs
  · exact (jj 14 (by decide) (by decide) (by decide) (by decide) (by decide)).trans g14
  · exact (jj 16 (by decide) (by decide) (by decide) (by decide) (by decide)).trans g16
  · exact (jj 17 (by decide) (by decide) (by decide) (by decide) (by decide)).trans g17
  · exact (jj 18 (by decide) (by decide) (by decide) (by decide) (by decide)).trans g18
def RNg (h h' : HS) : Prop := (∀ k, k ≠ 237 → k ≠ 253 → k ≠ 254 → k ≠ 255 → h'.1 k = h.1 k) ∧ h'.1 237 32 = h.1 237 32 ∧ h'.1 237 50 = h.1 237 50
theorem RNg.trans {a b c : HS} (x : RNg a b) (y : RNg b c) : RNg a c := ⟨fun k h1 h2 h3 h4 => (y.1 k h1 h2 h3 h4).trans (x.1 k h1 h2 h3 h4), y.2.1.trans x.2.1, y.2.2.trans x.2.2⟩
theorem RNg_same {h h' : HS} (f : RNg h h') : Same h h' := fun k hk => f.1 k (by omega) (by omega) (by omega) (by omega)
theorem RNg_f {h h' : HS} (f : RNf h h') : RNg h h' := ⟨f.1, f.2.1, f.2.2.1⟩
theorem r_beginsN (c : RH h q D) (hN : 100 ≤ N) : ∃ h', X11_begins N h 237 = some h' ∧ RNs h' q D (S0 D) ∧ RNg h h' ∧ h'.1 237 41 = 0 := by
  unfold X11_begins
  rw [sq_eq, sq_eq, sq_eq, sq_eq, sq_eq, sq_eq, sq_eq, sq_eq, sq_eq]
  generalize hg : wi (wi (wi (wi (wi (wi (wi (wi (wi h 237 33 0) 237 36 0) 237 37 0) 237 38 0) 237 39 0) 237 41 0) 237 42 (-1)) 237 43 (-1)) 237 44 0 = g
  have gk : ∀ k, k ≠ 237 → g.1 k = h.1 k := fun k hk => by rw [← hg, wi_k _ _ hk, wi_k _ _ hk, wi_k _ _ hk, wi_k _ _ hk, wi_k _ _ hk, wi_k _ _ hk, wi_k _ _ hk, wi_k _ _ hk, wi_k _ _ hk]
  have gj : ∀ j, j ≠ 33 → j ≠ 36 → j ≠ 37 → j ≠ 38 → j ≠ 39 → j ≠ 41 → j ≠ 42 → j ≠ 43 → j ≠ 44 → g.1 237 j = h.1 237 j := fun j c1 c2 c3 c4 c5 c6 c7 c8 c9 => by rw [← hg, wi_j _ _ c9, wi_j _ _ c8, wi_j _ _ c7, wi_j _ _ c6, wi_j _ _ c5, wi_j _ _ c4, wi_j _ _ c3, wi_j _ _ c2, wi_j _ _ c1]
  have g33 : g.1 237 33 = 0 := by rw [← hg]; rfl
  have g36 : g.1 237 36 = 0 := by rw [← hg]; rfl
  have g37 : g.1 237 37 = 0 := by rw [← hg]; rfl
  have g38 : g.1 237 38 = 0 := by rw [← hg]; rfl
  have g39 : g.1 237 39 = 0 := by rw [← hg]; rfl
  have g41 : g.1 237 41 = 0 := by rw [← hg]; rfl
  have g42 : g.1 237 42 = -1 := by rw [← hg]; rfl
  have g43 : g.1 237 43 = -1 := by rw [← hg]; rfl
  have g44 : g.1 237 44 = 0 := by rw [← hg]; rfl
  have rg : RH g q D := RH_n (gk 238 (by decide)) (fun j a1 a2 => gj j (by omega) (by omega) (by omega) (by omega) (by omega) (by omega) (by omega) (by omega) (by omega)) c
  have key : ∀ (r s fu : Nat) (h' : HS), s + r = 5 → r < fu → (∀ k, k ≠ 254 → h'.1 k = g.1 k) → (∀ t, t < s → h'.1 254 t = 0) → ∃ h2 h3, X11_begins_l47 N fu h' 237 (nI s) = some h3 ∧ X11_falls N h2 237 = some h3 ∧ (∀ k, k ≠ 254 → h2.1 k = g.1 k) ∧ ∀ t, t < 5 → h2.1 254 t = 0 := by
    intro r
    induction r with
    | zero =>
      intro s fu h' e hf fk fl
      obtain ⟨fu, rfl, _⟩ := fuel hf
      obtain ⟨h3, b1, _⟩ := r_falls (N := N) (h := h') (q := q) (D := D) (RH_n (fk 238 (by decide)) (fun j _ _ => congrFun (fk 237 (by decide)) j) rg) hN
      exact ⟨h', h3, by rw [X11_begins_l47, if_pos (show (5 : Int32) ≤ nI s from nI_le (a := 5) (by omega) (by omega)), b1, bd1_some], b1, fk, fun t ht => fl t (by omega)⟩
    | succ r ih =>
      intro s fu h' e hf fk fl
      obtain ⟨fu, rfl, _⟩ := fuel hf
      rw [X11_begins_l47, if_neg (show ¬ (5 : Int32) ≤ nI s from nI_ge (b := 5) (by omega) (by decide)), if_neg (nI_in (by omega) (by decide)), sq_eq, nI_clamp (by omega), nI_1]
      refine ih (s + 1) fu _ (by omega) (by omega) (fun k hk => by rw [wi_k _ _ hk]; exact fk k hk) (fun t ht => ?_)
      by_cases y : t = s
      · subst y; exact wi_s _ _ _ _
      · rw [show (237 + 17 : Nat) = 254 from rfl, wi_j _ _ y]; exact fl t (by omega)
  obtain ⟨h2, h3, a1, a2, a3, a4⟩ := key 5 0 N g (by omega) (by omega) (fun _ _ => rfl) (fun t ht => by omega)
  have z := a3 237 (by decide)
  obtain ⟨h4, b1, b2, b3, b4, b5, b6, b7, b8⟩ := r_falls (N := N) (h := h2) (q := q) (D := D) (RH_n (a3 238 (by decide)) (fun j _ _ => congrFun z j) rg) hN
  have e : h3 = h4 := Option.some.inj (a2.symm.trans b1)
  subst e
  have jj : ∀ j, j ≠ 34 → j ≠ 35 → j ≠ 40 → h3.1 237 j = g.1 237 j := fun j c1 c2 c3 => by rw [b3 j c1 c2 c3, z]
  refine ⟨h3, a1, ⟨RH_n (by rw [b2 238 (by decide) (by decide) (by decide), a3 238 (by decide)]) (fun j _ _ => jj j (by omega) (by omega) (by omega)) rg, ?_, b4, b5, ?_, ?_, ?_, ?_, b6, b7, ?_, fun i _ hi => b8 i hi, fun b o e => (by cases e), ?_, ?_, ?_⟩, ⟨fun k c1 c2 c3 c4 => by rw [b2 k c1 c2 c4, a3 k c3, gk k c1], ?_, ?_⟩, ?_⟩
  · exact (jj 33 (by decide) (by decide) (by decide)).trans g33
  · exact (jj 36 (by decide) (by decide) (by decide)).trans g36
  · exact (jj 37 (by decide) (by decide) (by decide)).trans g37
  · exact (jj 38 (by decide) (by decide) (by decide)).trans g38
  · exact (jj 39 (by decide) (by decide) (by decide)).trans g39
  · intro s hs
    rw [b2 254 (by decide) (by decide) (by decide)]; exact a4 s hs
  · exact (jj 42 (by decide) (by decide) (by decide)).trans g42
  · exact (jj 43 (by decide) (by decide) (by decide)).trans g43
  · exact (jj 44 (by decide) (by decide) (by decide)).trans g44
  · exact (jj 32 (by decide) (by decide) (by decide)).trans (gj 32 (by decide) (by decide) (by decide) (by decide) (by decide) (by decide) (by decide) (by decide) (by decide))
  · exact (jj 50 (by decide) (by decide) (by decide)).trans (gj 50 (by decide) (by decide) (by decide) (by decide) (by decide) (by decide) (by decide) (by decide) (by decide))
  · exact (jj 41 (by decide) (by decide) (by decide)).trans g41
/-- deeds, one after another, till one fails -/
def pl (D : Nat → Nat) (K : Nat → Nat) (V : Nat → Int32) : Nat → Nat → NS → Nat × NS
  | 0, i, S => (i, S)
  | r + 1, i, S => match dN D S (K i) (V i) with
    | none => (i, S)
    | some S' => pl D K V r (i + 1) S'
theorem pl_le (K : Nat → Nat) (V : Nat → Int32) : ∀ (r i : Nat) (S : NS), (pl D K V r i S).1 ≤ i + r := by
  intro r
  induction r with
  | zero => intro i S; exact Nat.le_refl _
  | succ r ih =>
    intro i S
    rw [pl]
    cases hd : dN D S (K i) (V i) with
    | none => show i ≤ i + (r + 1); omega
    | some S' =>
      have := ih (i + 1) S'
      show (pl D K V r (i + 1) S').1 ≤ i + (r + 1)
      omega
theorem w_pl (k : HK D) {K : Nat → Nat} {V : Nat → Int32} : ∀ (r i : Nat) (S : NS), (∀ j, i ≤ j → j < i + r → K j < 5) → WS D S → S.1 9 = i → i + r ≤ 100 → WS D (pl D K V r i S).2 := by
  intro r
  induction r with
  | zero => intro i S _ w _ _; exact w
  | succ r ih =>
    intro i S hK w e hr
    rw [pl]
    cases hd : dN D S (K i) (V i) with
    | none => exact w
    | some S' =>
      obtain ⟨w1, w2, _⟩ := w_does k w (by omega) (hK i (Nat.le_refl _) (by omega)) hd
      exact ih (i + 1) S' (fun j h1 h2 => hK j (by omega) (by omega)) w1 (by omega) (by omega)
theorem c_play {m pn : Nat} {K : Nat → Nat} {V : Nat → Int32} (hN : 100 ≤ N) {n : Nat} (hn : n ≤ m) : ∀ (r i fu : Nat) (h : HS) (S : NS), i + r = n → r < fu → S.1 9 = i → CNs h p D S → WS D S → CR h pn 40 5 m K V →
    ∃ h', X3_play_l8 N fu h 185 pn (nI n) (nI i) = some (nI (pl D K V r i S).1, h') ∧ CNs h' p D (pl D K V r i S).2 ∧ CNf h h' := by
  intro r
  induction r with
  | zero =>
    intro i fu h S e hf e9 c w cr
    obtain ⟨fu, rfl, _⟩ := fuel hf
    have hm := cr.1
    have hm2 := cr.2.1
    refine ⟨h, ?_, c, CNf.refl h⟩
    rw [X3_play_l8, if_pos (nI_le (by omega) (by omega)), show i = n by omega]
    rfl
  | succ r ih =>
    intro i fu h S e hf e9 c w cr
    obtain ⟨fu, rfl, _⟩ := fuel hf
    obtain ⟨c1, c2, c3, c4, c5, c6, c7, c8⟩ := cr
    obtain ⟨s1, s2, s3, s4⟩ := c8 i (by omega)
    rw [X3_play_l8, if_neg (nI_ge (by omega) (by omega)), c7, if_neg (nI_ge (by omega) (by omega)), at_in c3 (by omega) (by omega), bd1_some, at_in c4 (by omega) (by omega), bd1_some, s2, s3, pl]
    rcases c_does c w hN s1 (V i) with ⟨d1, d2⟩ | ⟨S', h', d1, d2, d3, d4⟩
    · rw [d2, d1, bd2_some, if_pos rfl]
      exact ⟨h, rfl, c, CNf.refl h⟩
    · obtain ⟨w1, w2, _⟩ := w_does c.2.1.2.1 w (by omega) s1 d1
      rw [d2, d1, bd2_some, if_neg one0, nI_1]
      obtain ⟨h2, a1, a2, a3⟩ := ih (i + 1) fu h' S' (by omega) (by omega) (by omega) d3 w1 (CR_same (CNf_same d4) ⟨c1, c2, c3, c4, c5, c6, c7, c8⟩)
      exact ⟨h2, a1, a2, CNf.trans d4 a3⟩
theorem r_told {m qn : Nat} {K : Nat → Nat} {V : Nat → Int32} (rr : RR h qn m K V) (hq : qn + 2 * 40 < 934) (hm : m ≤ 40) (e : h.1 237 32 = nI qn) {i : Nat} (hi : i < m) : X11_doesTold N h 237 (nI i) = bd2 (X11_does N h 237 (nI (K i)) (V i)) fun r4 h5 => some (nz r4, h5) := by
  obtain ⟨s1, s2⟩ := rr.2 i hi
  unfold X11_doesTold
  rw [e, show (nI qn + 1) + 2 * nI i = nI (qn + 1 + 2 * i) by rw [nI_1, zn2, pk_mul, nI_add], show (nI qn + 2) + 2 * nI i = nI (qn + 2 + 2 * i) by rw [zn2, pk_mul, nI_add, nI_add], if_neg (nI_in (by omega) (by decide)), if_neg (nI_in (by omega) (by decide)), nI_clamp (by omega), nI_clamp (by omega), show h.1 (237 + 1) (qn + 1 + 2 * i) = _ from s1, show h.1 (237 + 1) (qn + 2 + 2 * i) = _ from s2]
theorem r_set41 (c : RNs h q D S) (x : Int32) : RNs (wi h 237 41 x) q D S ∧ RNg h (wi h 237 41 x) := by
  obtain ⟨d1, d2, d3, d4, d5, d6, d7, d8, d9, d10, d11, d12, d13, d14, d15, d16⟩ := c
  exact ⟨⟨RH_n (wi_k _ _ (by decide)) (fun j a1 a2 => wi_j _ _ (by omega)) d1, d2, d3, d4, d5, d6, d7, d8, d9, d10, d11, d12, d13, d14, d15, d16⟩, fun k a1 _ _ _ => wi_k _ _ a1, rfl, rfl⟩
theorem RNg.refl (h : HS) : RNg h h := ⟨fun _ _ _ _ _ => rfl, rfl, rfl⟩
theorem r_play {m qn lim : Nat} {K : Nat → Nat} {V : Nat → Int32} (hN : 100 ≤ N) (hq : qn + 2 * 40 < 934) (hm : m ≤ 40) (hK : ∀ i, i < m → K i < 5) {n : Nat} (hn : n ≤ m) (hl : n ≤ lim) (hl2 : lim < 2 ^ 31) (ho : n = m ∨ n = lim) : ∀ (r i fu : Nat) (h : HS) (S : NS), i + r = n → r < fu → S.1 9 = i → RNs h q D S → WS D S → RR h qn m K V → h.1 237 32 = nI qn → h.1 237 41 = nI i →
    ∃ h', X11_runs_l4 N fu h 237 (nI lim) = some h' ∧ h'.1 237 41 = nI (pl D K V r i S).1 ∧ RNs h' q D (pl D K V r i S).2 ∧ RNg h h' := by
  intro r
  induction r with
  | zero =>
    intro i fu h S e hf e9 c w rr e32 e41
    obtain ⟨fu, rfl, _⟩ := fuel hf
    refine ⟨h, ?_, e41, c, RNg.refl h⟩
    rw [X11_runs_l4, e41]
    rcases ho with ho | ho
    · by_cases z : lim ≤ i
      · rw [if_pos (nI_le z (by omega))]
      · rw [if_neg (nI_ge (by omega) (by omega)), e32, if_neg (nI_in (by omega) (by decide)), nI_clamp (by omega), show h.1 (237 + 1) qn = _ from rr.1, if_pos (nI_le (by omega) (by omega))]
    · rw [if_pos (nI_le (by omega) (by omega))]
  | succ r ih =>
    intro i fu h S e hf e9 c w rr e32 e41
    obtain ⟨fu, rfl, _⟩ := fuel hf
    rw [X11_runs_l4, e41, if_neg (nI_ge (by omega) (by omega)), e32, if_neg (nI_in (by omega) (by decide)), nI_clamp (by omega), show h.1 (237 + 1) qn = _ from rr.1, if_neg (nI_ge (by omega) (by omega)), r_told rr hq hm e32 (by omega), pl]
    rcases r_does c w hN (hK i (by omega)) (V i) with ⟨d1, d2⟩ | ⟨S', h', d1, d2, d3, d4⟩
    · rw [d2, d1, bd2_some, bd2_some, nz_0, if_pos rfl]
      exact ⟨h, rfl, e41, c, RNg.refl h⟩
    · obtain ⟨w1, w2, _⟩ := w_does c.1.1 w (by omega) (hK i (by omega)) d1
      rw [d2, d1, bd2_some, bd2_some, nz_1, if_neg one0, sq_eq, d4.2.2.2, e41, nI_1]
      obtain ⟨s1, s2⟩ := r_set41 d3 (nI (i + 1))
      have fr := RNg.trans (RNg_f d4) s2
      obtain ⟨h2, a1, a2, a3, a4⟩ := ih (i + 1) fu _ S' (by omega) (by omega) (by omega) s1 w1 (RR_same (RNg_same fr) rr) (by rw [fr.2.1]; exact e32) (wi_s _ _ _ _)
      exact ⟨h2, a1, a2, a3, RNg.trans fr a4⟩
theorem r_afterW {m qn : Nat} {K : Nat → Nat} {V : Nat → Int32} (hN : 100 ≤ N) (hq : qn + 2 * 40 < 934) (hm : m ≤ 40) (hK : ∀ i, i < m → K i < 5) (v : Int32) : ∀ (r i fu : Nat) (h : HS) (S : NS), i + r = m → r < fu → S.1 9 = i → RNs h q D S → WS D S → RR h qn m K V → h.1 237 32 = nI qn →
    ∃ h', X11_after_l38 N fu h 237 v (oI S.2.2.2.2.2) (nI i) = X11_after_l90 N N h' 237 v (oI (pl D K V r i S).2.2.2.2.2.2) 0 1 ∧ RNs h' q D (pl D K V r i S).2 ∧ RNg h h' := by
  intro r
  induction r with
  | zero =>
    intro i fu h S e hf e9 c w rr e32
    obtain ⟨fu, rfl, _⟩ := fuel hf
    refine ⟨h, ?_, c, RNg.refl h⟩
    rw [X11_after_l38, e32, if_neg (nI_in (by omega) (by decide)), nI_clamp (by omega), show h.1 (237 + 1) qn = _ from rr.1, if_pos (nI_le (by omega) (by omega))]
    rfl
  | succ r ih =>
    intro i fu h S e hf e9 c w rr e32
    obtain ⟨fu, rfl, _⟩ := fuel hf
    rw [X11_after_l38, e32, if_neg (nI_in (by omega) (by decide)), nI_clamp (by omega), show h.1 (237 + 1) qn = _ from rr.1, if_neg (nI_ge (by omega) (by omega)), r_told rr hq hm e32 (by omega), pl]
    rcases r_does c w hN (hK i (by omega)) (V i) with ⟨d1, d2⟩ | ⟨S', h', d1, d2, d3, d4⟩
    · rw [d2, d1, bd2_some, bd2_some, nz_0, if_pos rfl]
      exact ⟨h, rfl, c, RNg.refl h⟩
    · obtain ⟨w1, w2, w3⟩ := w_does c.1.1 w (by omega) (hK i (by omega)) d1
      rw [d2, d1, bd2_some, bd2_some, nz_1, if_neg one0, nI_1]
      have fr := RNg_f d4
      obtain ⟨h2, a1, a2, a3⟩ := ih (i + 1) fu h' S' (by omega) (by omega) (by omega) d3 w1 (RR_same (RNg_same fr) rr) (by rw [fr.2.1]; exact e32)
      refine ⟨h2, ?_, a2, RNg.trans fr a3⟩
      refine Eq.trans ?_ a1
      have e38 : h'.1 237 38 = nI (S'.1 5) := d3.2.2.2.2.2.2.1
      have h5 : S'.1 5 ≤ 100 := by have := w1.2.2.2.1; have := w1.2.2.2.2.2.2.1; omega
      unfold fR at w3
      cases hf : S.2.2.2.2.2 with
      | some j =>
        rw [hf] at w3
        have hj := w.2.2.2.2.2.2.2.2.2.2.2.2.2 j hf
        rw [if_neg (show ¬ oI (some j) = -1 from nI_m1 (by omega)), w3]
      | none =>
        rw [hf] at w3
        simp only at w3
        rw [if_pos (show oI none = -1 from rfl), e38, w3]
        by_cases z : S'.1 5 = 0
        · rw [z, if_pos (show nI 0 ≤ 0 by decide), if_pos rfl]
        · rw [if_neg (nI_nle (by omega) (by omega)), if_neg z, e9]
          rfl
end PLA
