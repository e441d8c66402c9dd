/-! ===== level 2: stop, state, after ===== -/
section STO
variable {N : Nat} {p q : Nat} {D : Nat → Nat} {S : NS} {h : HS}
abbrev hoF (t : Nat → Nat) (i b : Nat) : Nat := if t i ≤ t b then b else i
def hoB (t : Nat → Nat) : Nat := zl (hoF t) 4 1 0
abbrev hoI (t : Nat → Nat) (b : Nat) : Int32 := if t b = 0 then -1 else nI b
theorem hoF_lt {t : Nat → Nat} : ∀ (r i b : Nat), i + r ≤ 5 → b < 5 → zl (hoF t) r i b < 5 := by
  intro r
  induction r with
  | zero => intro i b _ hb; exact hb
  | succ r ih =>
    intro i b h hb
    refine ih (i + 1) _ (by omega) ?_
    show (if t i ≤ t b then b else i) < 5
    by_cases z : t i ≤ t b
    · rw [if_pos z]; exact hb
    · rw [if_neg z]; omega
theorem c_hoarsest (c : CNs h p D S) (w : WS D S) (hN : 100 ≤ N) : X3_hoarsest N h 185 = some (hoI S.2.2.1 (hoB S.2.2.1)) := by
  have ht : ∀ s, s < 5 → S.2.2.1 s ≤ 100 := fun s hs => Nat.le_trans (w.2.2.2.2.2.2.2.2.1 s hs) w.2.2.2.2.2.2.1
  have he : ∀ s, s < 5 → h.1 197 s = nI (S.2.2.1 s) := c.2.2.2.2.2.2.2.2.2.2.2.2.2.1
  generalize S.2.2.1 = t at ht he ⊢
  have key : ∀ (r i fu b : Nat), i + r = 5 → r < fu → b < 5 → X3_hoarsest_l4 N h fu 185 (hoI t b) (nI i) = some (hoI t (zl (hoF t) r i b)) := by
    intro r
    induction r with
    | zero =>
      intro i fu b e hf hb
      obtain ⟨fu, rfl, _⟩ := fuel hf
      rw [X3_hoarsest_l4, if_pos (show (5 : Int32) ≤ nI i from nI_le (a := 5) (by omega) (by omega))]
      rfl
    | succ r ih =>
      intro i fu b e hf hb
      obtain ⟨fu, rfl, _⟩ := fuel hf
      have h1 := ht i (by omega)
      have h2 := ht b hb
      rw [show zl (hoF t) (r + 1) i b = zl (hoF t) r (i + 1) (hoF t i b) from rfl]
      rw [X3_hoarsest_l4, if_neg (show ¬ (5 : Int32) ≤ nI i from nI_ge (b := 5) (by omega) (by decide)), if_neg (nI_in (by omega) (by decide)), nI_clamp (by omega), show h.1 (185 + 12) i = _ from he i (by omega), nI_1]
      by_cases z : t i = 0
      · rw [z, if_pos (show nI 0 ≤ 0 by decide), show hoF t i b = b from if_pos (by omega)]
        exact ih (i + 1) fu b (by omega) (by omega) hb
      · rw [if_neg (show ¬ nI (t i) ≤ 0 from nI_nle (by omega) (by omega))]
        have hi : hoI t i = nI i := if_neg z
        by_cases y : t b = 0
        · rw [show hoI t b = -1 from if_pos y, if_pos rfl, show hoF t i b = i from if_neg (by omega), ← hi]
          have := ih (i + 1) fu i (by omega) (by omega) (by omega)
          exact this
        · rw [show hoI t b = nI b from if_neg y, if_neg (show ¬ nI b = -1 from nI_m1 (by omega)), if_neg (nI_ic (by omega) (by omega)), at_in ln197 (by decide) hb, bd1_some, show h.1 (185 + 12) b = _ from he b hb]
          by_cases x : t i ≤ t b
          · rw [if_pos (nI_le x (by omega)), show hoF t i b = b from if_pos x, ← show hoI t b = nI b from if_neg y]
            exact ih (i + 1) fu b (by omega) (by omega) hb
          · rw [if_neg (nI_ge (by omega) (by omega)), show hoF t i b = i from if_neg x, ← hi]
            exact ih (i + 1) fu i (by omega) (by omega) (by omega)
  have h0 := ht 0 (by decide)
  have k0 := key 4 1
  unfold X3_hoarsest
  obtain ⟨M, rfl, hM⟩ := fuel (show 50 < N by omega)
  rw [X3_hoarsest_l4, if_neg (show ¬ (5 : Int32) ≤ 0 by decide), if_neg (show ¬ ((0 : Int32) < 0 ∨ 5 ≤ (0 : Int32).toNatClampNeg) by decide), show h.1 (185 + 12) (0 : Int32).toNatClampNeg = _ from he 0 (by decide), if_pos (show (-1 : Int32) = -1 from rfl)]
  have k1 := key 4 1 M 0 (by omega) (by omega) (by omega)
  by_cases z : t 0 = 0
  · rw [z, if_pos (show nI 0 ≤ 0 by decide)]
    rw [show hoI t 0 = -1 from if_pos z] at k1
    exact k1
  · rw [if_neg (show ¬ nI (t 0) ≤ 0 from nI_nle (by omega) (by omega))]
    rw [show hoI t 0 = nI 0 from if_neg z] at k1
    exact k1
def afV (S : NS) (v : Int32) : Int32 := if v = 0 then oI S.2.2.2.2.2 else if v = 1 then hoI S.2.2.1 (hoB S.2.2.1) else if v = 2 then wn S.2.2.2.2.1 else nI (S.1 8)
theorem r_after90 (c : RNs h q D S) (w : WS D S) (hN : 100 ≤ N) (v : Int32) : X11_after_l90 N N h 237 v (oI S.2.2.2.2.2) 0 1 = some (afV S v, h) := by
  have ht : ∀ s, s < 5 → S.2.2.1 s ≤ 100 := fun s hs => Nat.le_trans (w.2.2.2.2.2.2.2.2.1 s hs) w.2.2.2.2.2.2.1
  have he : ∀ s, s < 5 → h.1 254 s = nI (S.2.2.1 s) := c.2.2.2.2.2.2.2.2.2.2.1
  have e42 : h.1 237 42 = wn S.2.2.2.2.1 := c.2.2.2.2.2.2.2.2.2.2.2.2.2.1
  have e44 : h.1 237 44 = nI (S.1 8) := c.2.2.2.2.2.2.2.2.2.2.2.2.2.2.2
  have key : ∀ (r i fu b : Nat), i + r = 5 → r < fu → b < 5 → X11_after_l90 N fu h 237 v (oI S.2.2.2.2.2) (nI b) (nI i) = some (afV S v, h) ∨ ¬ zl (hoF S.2.2.1) r i b = hoB S.2.2.1 := by
    intro r
    induction r with
    | zero =>
      intro i fu b e hf hb
      obtain ⟨fu, rfl, _⟩ := fuel hf
      by_cases hz : b = hoB S.2.2.1
      · left
        have hb2 := ht b hb
        rw [X11_after_l90, if_pos (show (5 : Int32) ≤ nI i from nI_le (a := 5) (by omega) (by omega))]
        unfold afV
        by_cases v0 : v = 0
        · rw [if_pos v0, if_pos v0]
        rw [if_neg v0, if_neg v0]
        by_cases v1 : v = 1
        · rw [if_pos v1, if_pos v1, if_neg (nI_in (by omega) (by decide)), nI_clamp (by omega), show h.1 (237 + 17) b = _ from he b hb, ← hz]
          by_cases y : S.2.2.1 b = 0
          · rw [if_pos (by rw [y]; rfl), show hoI S.2.2.1 b = -1 from if_pos y]
          · rw [if_neg (nI_ne0 (by omega) (by omega)), show hoI S.2.2.1 b = nI b from if_neg y]
        rw [if_neg v1, if_neg v1]
        by_cases v2 : v = 2
        · rw [if_pos v2, if_pos v2, e42]
        rw [if_neg v2, if_neg v2, e44]
      · exact Or.inr hz
    | succ r ih =>
      intro i fu b e hf hb
      obtain ⟨fu, rfl, _⟩ := fuel hf
      have h1 := ht i (by omega)
      have h2 := ht b hb
      rw [show zl (hoF S.2.2.1) (r + 1) i b = zl (hoF S.2.2.1) r (i + 1) (hoF S.2.2.1 i b) from rfl]
      rw [X11_after_l90, if_neg (show ¬ (5 : Int32) ≤ nI i from nI_ge (b := 5) (by omega) (by decide)), if_neg (show ¬ (nI i < 0 ∨ 5 ≤ (nI i).toNatClampNeg) from nI_in (by omega) (by decide)), if_neg (show ¬ (nI b < 0 ∨ 5 ≤ (nI b).toNatClampNeg) from nI_in (by omega) (by decide)), nI_clamp (by omega), nI_clamp (by omega), show h.1 (237 + 17) i = _ from he i (by omega), show h.1 (237 + 17) b = _ from he b hb, nI_1]
      by_cases x : S.2.2.1 i ≤ S.2.2.1 b
      · rw [if_pos (nI_le x (by omega)), show hoF S.2.2.1 i b = b from if_pos x]
        exact ih (i + 1) fu b (by omega) (by omega) hb
      · rw [if_neg (nI_ge (by omega) (by omega)), show hoF S.2.2.1 i b = i from if_neg x]
        exact ih (i + 1) fu i (by omega) (by omega) (by omega)
  rcases key 4 1 N 0 (by omega) (by omega) (by omega) with z | z
  · exact z
  · exact absurd rfl z
def loV (D : Nat → Nat) (S : NS) (v : Int32) : Int32 :=
  if v = 0 then nI (S.1 0) else if v = 1 then oI (nx D (S.1 1)) else if v = 2 then nI (S.1 2) else if v = 3 then nI (S.1 3) else if v = 4 then nI (S.1 4) else if v = 5 then nI (S.1 5) else if v = 6 then nI (S.1 6) else if v = 7 then (match nx D (S.1 1) with | none => -1 | some b => oI (lst S b)) else if v = 8 then nI (S.1 7) else if 10 ≤ v ∧ (v - 10).toNatClampNeg < D 2 then nI (S.2.1 (v - 10).toNatClampNeg) else -2
theorem c_look (c : CNs h p D S) (w : WS D S) (v : Int32) : X3_look N h 185 v = some (loV D S v) := by
  have hsa := c_sangAhead (N := N) c w
  obtain ⟨d1, d2, d3, d4, d5, d6, d7, d8, d9, d10, d11, d12, d13, d14, d15, d16, d17, d18, d19⟩ := c
  have hk := hk0 d2.2.1
  unfold X3_look loV
  by_cases v0 : v = 0
  · rw [if_pos v0, if_pos v0, d3]
  rw [if_neg v0, if_neg v0]
  by_cases v1 : v = 1
  · rw [if_pos v1, if_pos v1, d4]
  rw [if_neg v1, if_neg v1]
  by_cases v2 : v = 2
  · rw [if_pos v2, if_pos v2, d5]
  rw [if_neg v2, if_neg v2]
  by_cases v3 : v = 3
  · rw [if_pos v3, if_pos v3, d6]
  rw [if_neg v3, if_neg v3]
  by_cases v4 : v = 4
  · rw [if_pos v4, if_pos v4, d7]
  rw [if_neg v4, if_neg v4]
  by_cases v5 : v = 5
  · rw [if_pos v5, if_pos v5, d8]
  rw [if_neg v5, if_neg v5]
  by_cases v6 : v = 6
  · rw [if_pos v6, if_pos v6, d9]
  rw [if_neg v6, if_neg v6]
  by_cases v7 : v = 7
  · rw [if_pos v7, if_pos v7, hsa, bd1_some]
    cases nx D (S.1 1) <;> rfl
  rw [if_neg v7, if_neg v7]
  by_cases v8 : v = 8
  · rw [if_pos v8, if_pos v8, d10]
  rw [if_neg v8, if_neg v8]
  by_cases y : (10 : Int32) ≤ v
  · obtain ⟨k, k1, k2, _⟩ := sub10 y
    rw [if_neg (show ¬ v < 10 from Int32.not_lt.mpr y), k2, d1, c_hasSinger d2 k1, bd1_some, nI_clamp k1]
    by_cases x : k < D 2
    · rw [nB_t x, if_neg one0, at_in ln196 (by decide) (by omega), bd1_some, show h.1 (185 + 11) k = _ from d13 k x, if_pos ⟨y, x⟩]
    · rw [nB_f x, if_pos rfl, if_neg (fun z => x z.2)]
  · rw [if_pos (show v < 10 from Int32.not_le.mp y), if_neg (fun z => y z.1)]
theorem r_nowOf (c : RNs h q D S) (w : WS D S) (hN : 100 ≤ N) (v : Int32) : X11_nowOf N h 237 v = some (loV D S v) := by
  have hsa := r_lastSinger (N := N) c w hN
  obtain ⟨d1, d2, d3, d4, d5, d6, d7, d8, d9, d10, d11, d12, d13, d14, d15, d16⟩ := c
  have hk := hk0 d1.1
  have hnb := r_nextBar (N := N) d1 hN (a := S.1 1) (by have := w.2.1; omega) d3
  unfold X11_nowOf loV
  by_cases v0 : v = 0
  · rw [if_pos v0, if_pos v0, d2]
  rw [if_neg v0, if_neg v0]
  by_cases v1 : v = 1
  · rw [if_pos v1, if_pos v1, hnb, bd1_some]
  rw [if_neg v1, if_neg v1]
  by_cases v2 : v = 2
  · rw [if_pos v2, if_pos v2, d4]
  rw [if_neg v2, if_neg v2]
  by_cases v3 : v = 3
  · rw [if_pos v3, if_pos v3, d5]
  rw [if_neg v3, if_neg v3]
  by_cases v4 : v = 4
  · rw [if_pos v4, if_pos v4, d6]
  rw [if_neg v4, if_neg v4]
  by_cases v5 : v = 5
  · rw [if_pos v5, if_pos v5, d7]
  rw [if_neg v5, if_neg v5]
  by_cases v6 : v = 6
  · rw [if_pos v6, if_pos v6, d8]
  rw [if_neg v6, if_neg v6]
  by_cases v7 : v = 7
  · rw [if_pos v7, if_pos v7, hsa, bd1_some]
    cases nx D (S.1 1) <;> rfl
  rw [if_neg v7, if_neg v7]
  by_cases v8 : v = 8
  · rw [if_pos v8, if_pos v8, d9]
  rw [if_neg v8, if_neg v8]
  by_cases y : (10 : Int32) ≤ v
  · obtain ⟨k, k1, k2, _⟩ := sub10 y
    rw [k2, r_isSinger d1 k1, bd1_some]
    by_cases x : k < D 2
    · rw [nB_t x, if_neg one0, if_neg (nI_in (by omega) (by decide)), nI_clamp k1, show h.1 (237 + 16) k = _ from d10 k x, if_pos ⟨y, x⟩]
    · rw [nB_f x, if_pos rfl, nI_clamp k1, if_neg (fun z => x z.2)]
  · rw [if_neg (show ¬ (10 ≤ v ∧ (v - 10).toNatClampNeg < D 2) from fun z => y z.1)]
    rcases i_cases (v - 10) with z | ⟨k, k1, k2⟩
    · rw [(r_neg d1 z).2.2, bd1_some, if_pos rfl]
    · rw [k2, r_isSinger d1 k1, bd1_some]
      by_cases x : k < D 2
      · exfalso
        apply y
        have e : v = nI (k + 10) := by
          rw [← Int32.sub_add_cancel v 10, k2, zn10, nI_add]
        rw [e]
        exact nI_le (a := 10) (by omega) (by omega)
      · rw [nB_f x, if_pos rfl]
theorem en_same3 {h h' : HS} (e : ∀ k, k ≠ 185 → k ≠ 196 → k ≠ 197 → h'.1 k = h.1 k) : Same h h' := fun k hk => e k (by omega) (by omega) (by omega)
/-- what the class's night does with n rows -/
theorem c_plays {m pn : Nat} {K : Nat → Nat} {V : Nat → Int32} (c : KH h p D) (cr : CR h pn 40 5 m K V) (hN : 100 ≤ N) {n : Nat} (hn : n ≤ m) : ∃ h', X3_play N h 185 p pn (nI n) = some (nI (pl D K V n 0 (S0 D)).1, h') ∧ CNs h' p D (pl D K V n 0 (S0 D)).2 ∧ Same h h' := by
  obtain ⟨h1, a1, a2, a3⟩ := c_enterN (N := N) c hN
  have sm := en_same3 a3
  have hm := cr.1
  obtain ⟨h2, b1, b2, b3⟩ := c_play (N := N) (p := p) (D := D) hN hn n 0 N h1 (S0 D) (by omega) (by omega) rfl a2 (w_S0 c.2.1) (CR_same sm cr)
  refine ⟨h2, ?_, b2, Same.trans sm (CNf_same b3)⟩
  unfold X3_play
  rw [a1, bd1_some]
  exact b1
theorem r_plays {m qn lim : Nat} {K : Nat → Nat} {V : Nat → Int32} (c : RH h q D) (rr : RR h qn m K V) (e32 : h.1 237 32 = nI qn) (hN : 100 ≤ N) (hq : qn + 2 * 40 < 934) (hm : m ≤ 40) (hK : ∀ i, i < m → K i < 5) {n : Nat} (hn : n ≤ m) (hl : n ≤ lim) (hl2 : lim < 2 ^ 31) (ho : n = m ∨ n = lim) :
    ∃ h', X11_runs N h 237 (nI lim) = some h' ∧ h'.1 237 41 = nI (pl D K V n 0 (S0 D)).1 ∧ RNs h' q D (pl D K V n 0 (S0 D)).2 ∧ Same h h' := by
  obtain ⟨h1, a1, a2, a3, a4⟩ := r_beginsN (N := N) c hN
  obtain ⟨h2, b1, b2, b3, b4⟩ := r_play (N := N) (q := q) (D := D) hN hq hm hK hn hl hl2 ho n 0 N h1 (S0 D) (by omega) (by omega) rfl a2 (w_S0 c.1) (RR_same (RNg_same a3) rr) (by rw [a3.2.1]; exact e32) a4
  refine ⟨h2, ?_, b2, b3, Same.trans (RNg_same a3) (RNg_same b4)⟩
  unfold X11_runs
  rw [a1, bd1_some]
  exact b1
theorem q_stop {N : Nat} {h : HS} (I : INV h) (hN : 100 ≤ N) (a b : Int32) : ∃ r h1 h2, X10_stop N h 1 a b = some (r, h1) ∧ X11_stop N h1 237 a b = some (r, h2) ∧ Same h h2 := by
  unfold X10_stop X11_stop
  rcases opn (N := N) I a with ⟨e1, e2⟩ | ⟨p, q, D, e1, hp, c, e2⟩
  · refine ⟨-1, h, h, ?_, by rw [e2 h (Same.refl h)]; rfl, Same.refl h⟩
    rw [e1, bd1_some, if_pos rfl]
    rcases opnN (N := N) I b with ⟨g1, _⟩ | ⟨pm, qm, m, K, V, g1, hpm, _⟩
    · rw [g1, bd1_some, if_pos rfl]
    · rw [g1, bd1_some, if_neg hpm]
  · rw [e1, bd1_some, if_neg hp]
    rcases opnN (N := N) I b with ⟨g1, g2⟩ | ⟨pn, qn, m, K, V, g1, hpn, cr, hq, em⟩
    · obtain ⟨h2, e3, rh, sm, _⟩ := e2 h (Same.refl h)
      refine ⟨-1, h, h2, ?_, ?_, sm⟩
      · rw [g1, bd1_some, if_pos rfl]
      · rw [e3, bd2_some, if_neg one0, g2 h2 sm]; rfl
    · have hm := cr.1
      obtain ⟨h1, a1, a2, a3⟩ := c_plays (N := N) c cr hN (Nat.le_refl m)
      obtain ⟨h2, e3, rh, sm, _⟩ := e2 h1 a3
      obtain ⟨h3, f1, f2, f3, f4, f5, f6, _⟩ := em h2 sm
      obtain ⟨h4, b1, b2, b3, b4⟩ := r_plays (N := N) (h := h3) (q := q) (D := D) (lim := 40) (RH_n (f5 238 (by decide)) (fun j _ _ => f6 j (by omega)) rh) f3 f2 hN hq hm (fun i hi => (cr.2.2.2.2.2.2.2 i hi).1) (Nat.le_refl m) hm (by decide) (Or.inl rfl)
      refine ⟨nI (pl D K V m 0 (S0 D)).1, h1, h4, ?_, ?_, Same.trans f4 b4⟩
      · rw [g1, bd1_some, if_neg hpn, cr.2.2.2.2.2.2.1, show X3_play N h (1 + 184) p pn (nI m) = _ from a1, bd2_some]
      · rw [e3, bd2_some, if_neg one0, f1, bd2_some, if_neg one0, show X11_runs N h3 237 40 = _ from b1, bd1_some, b2]
theorem q_state {N : Nat} {h : HS} (I : INV h) (hN : 100 ≤ N) (a b d e : Int32) : ∃ r h1 h2, X10_state N h 1 a b d e = some (r, h1) ∧ X11_state N h1 237 a b d e = some (r, h2) ∧ Same h h2 := by
  unfold X10_state X11_state
  rcases opn (N := N) I a with ⟨e1, e2⟩ | ⟨p, q, D, e1, hp, c, e2⟩
  · refine ⟨-2, h, h, ?_, by rw [e2 h (Same.refl h)]; rfl, Same.refl h⟩
    rw [e1, bd1_some, if_pos rfl]
    rcases opnN (N := N) I b with ⟨g1, _⟩ | ⟨pm, qm, m, K, V, g1, hpm, _⟩
    · rw [g1, bd1_some, if_pos rfl]
    · rw [g1, bd1_some, if_neg hpm]
  · rw [e1, bd1_some, if_neg hp]
    rcases opnN (N := N) I b with ⟨g1, g2⟩ | ⟨pn, qn, m, K, V, g1, hpn, cr, hq, em⟩
    · obtain ⟨h2, e3, rh, sm, _⟩ := e2 h (Same.refl h)
      refine ⟨-2, h, h2, ?_, ?_, sm⟩
      · rw [g1, bd1_some, if_pos rfl]
      · rw [e3, bd2_some, if_neg one0, g2 h2 sm]; rfl
    · have hm := cr.1
      rw [g1, bd1_some, if_neg hpn, cr.2.2.2.2.2.2.1]
      rcases i_cases d with z | ⟨n, hn, rfl⟩
      · obtain ⟨h2, e3, rh, sm, _⟩ := e2 h (Same.refl h)
        obtain ⟨h3, f1, f2, f3, f4, f5, f6, _⟩ := em h2 sm
        refine ⟨-2, h, h3, by rw [if_pos z], ?_, f4⟩
        rw [e3, bd2_some, if_neg one0, f1, bd2_some, if_neg one0, if_neg (Int32.not_le.mpr z)]
      · rw [if_neg (nI_pos hn)]
        have h0 : (0 : Int32) ≤ nI n := nI_pos' hn
        have hKK : ∀ i, i < m → K i < 5 := fun i hi => (cr.2.2.2.2.2.2.2 i hi).1
        by_cases z : n ≤ m
        · obtain ⟨h1, a1, a2, a3⟩ := c_plays (N := N) c cr hN z
          obtain ⟨h2, e3, rh, sm, _⟩ := e2 h1 a3
          obtain ⟨h3, f1, f2, f3, f4, f5, f6, _⟩ := em h2 sm
          obtain ⟨h4, b1, b2, b3, b4⟩ := r_plays (N := N) (h := h3) (q := q) (D := D) (lim := n) (RH_n (f5 238 (by decide)) (fun j _ _ => f6 j (by omega)) rh) f3 f2 hN hq hm hKK z (Nat.le_refl n) hn (Or.inr rfl)
          have ww := w_pl c.2.1 (K := K) (V := V) n 0 (S0 D) (fun j _ hj => hKK j (by omega)) (w_S0 c.2.1) rfl (by omega)
          have hle := pl_le (D := D) K V n 0 (S0 D)
          rw [if_pos (nI_le z (by omega)), show X3_play N h (1 + 184) p pn (nI n) = _ from a1, bd2_some]
          by_cases y : (pl D K V n 0 (S0 D)).1 = n
          · refine ⟨loV D (pl D K V n 0 (S0 D)).2 e, h1, h4, ?_, ?_, Same.trans f4 b4⟩
            · rw [y, if_pos (nI_le (Nat.le_refl n) (by omega)), show X3_look N h1 (1 + 184) e = _ from c_look a2 ww e, bd1_some]
            · rw [e3, bd2_some, if_neg one0, f1, bd2_some, if_neg one0, if_pos h0, b1, bd1_some, b2, y, if_pos rfl, r_nowOf b3 ww hN, bd1_some]
          · refine ⟨-2, h1, h4, ?_, ?_, Same.trans f4 b4⟩
            · rw [if_neg (nI_ge (by omega) (by omega))]
            · rw [e3, bd2_some, if_neg one0, f1, bd2_some, if_neg one0, if_pos h0, b1, bd1_some, b2, if_neg (fun v => y ((nI_eq (by omega) (by omega)).mp v))]
        · obtain ⟨h2, e3, rh, sm, _⟩ := e2 h (Same.refl h)
          obtain ⟨h3, f1, f2, f3, f4, f5, f6, _⟩ := em h2 sm
          obtain ⟨h4, b1, b2, b3, b4⟩ := r_plays (N := N) (h := h3) (q := q) (D := D) (lim := n) (RH_n (f5 238 (by decide)) (fun j _ _ => f6 j (by omega)) rh) f3 f2 hN hq hm hKK (Nat.le_refl m) (by omega) hn (Or.inl rfl)
          have hle := pl_le (D := D) K V m 0 (S0 D)
          refine ⟨-2, h, h4, ?_, ?_, Same.trans f4 b4⟩
          · rw [if_neg (nI_ge (by omega) (by omega))]
          · rw [e3, bd2_some, if_neg one0, f1, bd2_some, if_neg one0, if_pos h0, b1, bd1_some, b2, if_neg (fun v => by have := (nI_eq (by omega) (by omega)).mp v; omega)]
theorem q_after {N : Nat} {h : HS} (I : INV h) (hN : 100 ≤ N) (a b d : Int32) : ∃ r h1 h2, X10_after N h 1 a b d = some (r, h1) ∧ X11_after N h1 237 a b d = some (r, h2) ∧ Same h h2 := by
  unfold X10_after X11_after
  rcases opn (N := N) I a with ⟨e1, e2⟩ | ⟨p, q, D, e1, hp, c, e2⟩
  · refine ⟨-2, h, h, ?_, by rw [e2 h (Same.refl h)]; rfl, Same.refl h⟩
    rw [e1, bd1_some, if_pos rfl]
    rcases opnN (N := N) I b with ⟨g1, _⟩ | ⟨pm, qm, m, K, V, g1, hpm, _⟩
    · rw [g1, bd1_some, if_pos rfl]
    · rw [g1, bd1_some, if_neg hpm]
  · rw [e1, bd1_some, if_neg hp]
    rcases opnN (N := N) I b with ⟨g1, g2⟩ | ⟨pn, qn, m, K, V, g1, hpn, cr, hq, em⟩
    · obtain ⟨h2, e3, rh, sm, _⟩ := e2 h (Same.refl h)
      refine ⟨-2, h, h2, ?_, ?_, sm⟩
      · rw [g1, bd1_some, if_pos rfl]
      · rw [e3, bd2_some, if_neg one0, g2 h2 sm]; rfl
    · have hm := cr.1
      have hKK : ∀ i, i < m → K i < 5 := fun i hi => (cr.2.2.2.2.2.2.2 i hi).1
      obtain ⟨h1, a1, a2, a3⟩ := c_plays (N := N) c cr hN (Nat.le_refl m)
      obtain ⟨h2, e3, rh, sm, _⟩ := e2 h1 a3
      obtain ⟨h3, f1, f2, f3, f4, f5, f6, _⟩ := em h2 sm
      have ww := w_pl c.2.1 (K := K) (V := V) m 0 (S0 D) (fun j _ hj => hKK j (by omega)) (w_S0 c.2.1) rfl (by omega)
      rw [g1, bd1_some, if_neg hpn, cr.2.2.2.2.2.2.1, show X3_play N h (1 + 184) p pn (nI m) = _ from a1, bd2_some]
      have inside : (0 : Int32) ≤ d ∧ d ≤ 3 → ∃ h4, (bd1 (X11_begins N h3 237) fun h15 => X11_after_l38 N N h15 237 d (-1) 0) = some (afV (pl D K V m 0 (S0 D)).2 d, h4) ∧ Same h h4 := by
        intro _
        obtain ⟨h5, b1, b2, b3, b4⟩ := r_beginsN (N := N) (h := h3) (q := q) (D := D) (RH_n (f5 238 (by decide)) (fun j _ _ => f6 j (by omega)) rh) hN
        obtain ⟨h6, x1, x2, x3⟩ := r_afterW (N := N) (q := q) (D := D) hN hq hm hKK d m 0 N h5 (S0 D) (by omega) (by omega) rfl b2 (w_S0 c.2.1) (RR_same (RNg_same b3) f3) (by rw [b3.2.1]; exact f2)
        refine ⟨h6, ?_, Same.trans f4 (Same.trans (RNg_same b3) (RNg_same x3))⟩
        rw [b1, bd1_some, show X11_after_l38 N N h5 237 d (-1) 0 = _ from x1, r_after90 x2 ww hN]
      have e16 : h1.1 (1 + 184) 16 = oI (pl D K V m 0 (S0 D)).2.2.2.2.2.2 := a2.2.2.2.2.2.2.2.2.2.2.2.2.2.2.2.2.1
      have e17 : h1.1 (1 + 184) 17 = wn (pl D K V m 0 (S0 D)).2.2.2.2.2.1 := a2.2.2.2.2.2.2.2.2.2.2.2.2.2.2.2.2.2.1
      have e18 : h1.1 (1 + 184) 18 = nI ((pl D K V m 0 (S0 D)).2.1 8) := a2.2.2.2.2.2.2.2.2.2.2.2.2.2.2.2.2.2.2
      by_cases v0 : d = 0
      · subst v0
        obtain ⟨h4, y1, y2⟩ := inside (by decide)
        exact ⟨afV (pl D K V m 0 (S0 D)).2 0, h1, h4, by rw [if_pos rfl, e16]; rfl, by rw [e3, bd2_some, if_neg one0, f1, bd2_some, if_neg one0, r_isIn, bd1_some, nB_t (by decide), if_neg one0, y1], y2⟩
      by_cases v1 : d = 1
      · subst v1
        obtain ⟨h4, y1, y2⟩ := inside (by decide)
        exact ⟨afV (pl D K V m 0 (S0 D)).2 1, h1, h4, by rw [if_neg (by decide), if_pos rfl, show X3_hoarsest N h1 (1 + 184) = _ from c_hoarsest a2 ww hN, bd1_some]; rfl, by rw [e3, bd2_some, if_neg one0, f1, bd2_some, if_neg one0, r_isIn, bd1_some, nB_t (by decide), if_neg one0, y1], y2⟩
      by_cases v2 : d = 2
      · subst v2
        obtain ⟨h4, y1, y2⟩ := inside (by decide)
        exact ⟨afV (pl D K V m 0 (S0 D)).2 2, h1, h4, by rw [if_neg (by decide), if_neg (by decide), if_pos rfl, e17]; rfl, by rw [e3, bd2_some, if_neg one0, f1, bd2_some, if_neg one0, r_isIn, bd1_some, nB_t (by decide), if_neg one0, y1], y2⟩
      by_cases v3 : d = 3
      · subst v3
        obtain ⟨h4, y1, y2⟩ := inside (by decide)
        exact ⟨afV (pl D K V m 0 (S0 D)).2 3, h1, h4, by rw [if_neg (by decide), if_neg (by decide), if_neg (by decide), if_pos rfl, e18]; rfl, by rw [e3, bd2_some, if_neg one0, f1, bd2_some, if_neg one0, r_isIn, bd1_some, nB_t (by decide), if_neg one0, y1], y2⟩
      refine ⟨-2, h1, h3, by rw [if_neg v0, if_neg v1, if_neg v2, if_neg v3], ?_, f4⟩
      have no : ¬ ((0 : Int32) ≤ d ∧ d ≤ 3) := by
        rintro ⟨y1, y2⟩
        rcases i_cases d with z | ⟨n, hn, rfl⟩
        · exact Int32.not_le.mpr z y1
        · have hn3 : n ≤ 3 := by
            by_cases x : n ≤ 3
            · exact x
            · exact absurd y2 (nI_ge (a := 3) (by omega) hn)
          match n, hn3 with
          | 0, _ => exact v0 rfl
          | 1, _ => exact v1 rfl
          | 2, _ => exact v2 rfl
          | 3, _ => exact v3 rfl
      rw [e3, bd2_some, if_neg one0, f1, bd2_some, if_neg one0, r_isIn, bd1_some, nB_f no, if_pos rfl]
end STO
