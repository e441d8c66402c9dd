/-! ===== level 2: nights: states and deeds ===== -/
def st (f : Nat → Nat) (i x : Nat) : Nat → Nat := fun j => if j = i then x else f j
theorem st_s (f : Nat → Nat) (i x : Nat) : st f i x i = x := if_pos rfl
theorem st_n (f : Nat → Nat) {i j : Nat} (x : Nat) (h : j ≠ i) : st f i x j = f j := if_neg h
/-- a night's state: numbers (0 night, 1 at, 2 awake, 3 woken, 4 paid, 5 dreams, 6 colds, 7 dreaming, 8 calms, 9 done), breath left, times sung, the last bar and who sang it, the worst night and how many it woke, the first dream -/
abbrev NS : Type := (Nat → Nat) × (Nat → Nat) × (Nat → Nat) × Option (Nat × Option Nat) × Option (Nat × Nat) × Option Nat
def lb (o : Option (Nat × Option Nat)) : Int32 := match o with | none => -1 | some (b, _) => nI b
def lsg (o : Option (Nat × Option Nat)) : Int32 := match o with | none => -1 | some (_, s) => oI s
def wn (o : Option (Nat × Nat)) : Int32 := match o with | none => -1 | some (n, _) => nI n
def wm (o : Option (Nat × Nat)) : Int32 := match o with | none => -1 | some (_, m) => nI m
def CNs (h : HS) (p : Nat) (D : Nat → Nat) (S : NS) : Prop := h.2 185 = p ∧ KH h p D ∧ h.1 185 1 = nI (S.1 0) ∧ h.1 185 2 = oI (nx D (S.1 1)) ∧ h.1 185 3 = nI (S.1 2) ∧ h.1 185 4 = nI (S.1 3) ∧ h.1 185 5 = nI (S.1 4) ∧ h.1 185 6 = nI (S.1 5) ∧ h.1 185 7 = nI (S.1 6) ∧ h.1 185 8 = nI (S.1 7) ∧ h.1 185 9 = lb S.2.2.2.1 ∧ h.1 185 10 = lsg S.2.2.2.1 ∧
  (∀ s, s < D 2 → h.1 196 s = nI (S.2.1 s)) ∧ (∀ s, s < 5 → h.1 197 s = nI (S.2.2.1 s)) ∧ h.1 185 14 = nI (S.1 9) ∧ (∀ n m, S.2.2.2.2.1 = some (n, m) → h.1 185 15 = nI m) ∧ h.1 185 16 = oI S.2.2.2.2.2 ∧ h.1 185 17 = wn S.2.2.2.2.1 ∧ h.1 185 18 = nI (S.1 8)
def RNs (h : HS) (q : Nat) (D : Nat → Nat) (S : NS) : Prop := RH h q D ∧ h.1 237 33 = nI (S.1 0) ∧ h.1 237 34 = nI (S.1 1) ∧ h.1 237 35 = nI (S.1 2) ∧ h.1 237 36 = nI (S.1 3) ∧ h.1 237 37 = nI (S.1 4) ∧ h.1 237 38 = nI (S.1 5) ∧ h.1 237 39 = nI (S.1 6) ∧ h.1 237 40 = nI (S.1 7) ∧
  (∀ s, s < D 2 → h.1 253 s = nI (S.2.1 s)) ∧ (∀ s, s < 5 → h.1 254 s = nI (S.2.2.1 s)) ∧ (∀ i, S.1 1 ≤ i → i < 8 → h.1 255 i = -1) ∧ (∀ b o, S.2.2.2.1 = some (b, o) → h.1 255 b = oI o) ∧ h.1 237 42 = wn S.2.2.2.2.1 ∧ h.1 237 43 = wm S.2.2.2.2.1 ∧ h.1 237 44 = nI (S.1 8)
def WS (D : Nat → Nat) (S : NS) : Prop := S.1 0 ≤ 99 ∧ S.1 1 ≤ D 1 ∧ S.1 2 < 64 ∧ S.1 5 ≤ S.1 9 ∧ S.1 6 < 32 ∧ S.1 7 < 64 ∧ S.1 9 ≤ 100 ∧ (∀ s, s < D 2 → S.2.1 s ≤ 20) ∧ (∀ s, s < 5 → S.2.2.1 s ≤ S.1 9) ∧
  (S.2.2.2.1 = none → S.1 1 = 0) ∧ (∀ b o, S.2.2.2.1 = some (b, o) → S.1 1 = b + 1 ∧ ∀ s, o = some s → s < 5) ∧ (∀ n m, S.2.2.2.2.1 = some (n, m) → n ≤ 99 ∧ m ≤ 54) ∧ (S.2.2.2.2.2 = none ↔ S.1 5 = 0) ∧ (∀ j, S.2.2.2.2.2 = some j → j ≤ 100)
/-- who sang just ahead of bar b -/
def lst (S : NS) (b : Nat) : Option Nat := match S.2.2.2.1 with | none => none | some (b0, o) => if b = b0 + 1 then o else none
def CNf (h h' : HS) : Prop := (∀ k, k ≠ 185 → k ≠ 196 → k ≠ 197 → h'.1 k = h.1 k) ∧ h'.1 185 13 = h.1 185 13
def RNf (h h' : HS) : Prop := (∀ k, k ≠ 237 → k ≠ 253 → k ≠ 254 → k ≠ 255 → h'.1 k = h.1 k) ∧ h'.1 237 32 = h.1 237 32 ∧ h'.1 237 50 = h.1 237 50 ∧ h'.1 237 41 = h.1 237 41
theorem CNf.refl (h : HS) : CNf h h := ⟨fun _ _ _ _ => rfl, rfl⟩
theorem RNf.refl (h : HS) : RNf h h := ⟨fun _ _ _ _ _ => rfl, rfl, rfl, rfl⟩
theorem CNf.trans {a b c : HS} (x : CNf a b) (y : CNf b c) : CNf a c := ⟨fun k h1 h2 h3 => (y.1 k h1 h2 h3).trans (x.1 k h1 h2 h3), y.2.trans x.2⟩
theorem RNf.trans {a b c : HS} (x : RNf a b) (y : RNf b c) : RNf a c := ⟨fun k h1 h2 h3 h4 => (y.1 k h1 h2 h3 h4).trans (x.1 k h1 h2 h3 h4), y.2.1.trans x.2.1, y.2.2.1.trans x.2.2.1, y.2.2.2.trans x.2.2.2⟩
theorem CNf_same {h h' : HS} (f : CNf h h') : Same h h' := fun k hk => f.1 k (by omega) (by omega) (by omega)
theorem RNf_same {h h' : HS} (f : RNf h h') : Same h h' := fun k hk => f.1 k (by omega) (by omega) (by omega) (by omega)
section DEE
variable {N : Nat} {p q : Nat} {D : Nat → Nat} {S : NS} {h : HS}
theorem KH_n {h' : HS} (e : ∀ k, k < 156 → h'.1 k = h.1 k) (c : KH h p D) : KH h' p D := KH_fr (fun k h1 h2 => e k (by have := c.1.2.2.2.2.2.2.2.2.2.2; omega)) c
theorem RH_n {h' : HS} (e1 : h'.1 238 = h.1 238) (e2 : ∀ j, 12 ≤ j → j ≤ 15 → h'.1 237 j = h.1 237 j) (c : RH h q D) : RH h' q D := by
  obtain ⟨c1, c2, c3, c4, c5, c6, c7⟩ := c
  refine ⟨c1, c2, ?_, ?_, ?_, ?_, ?_⟩
  · rw [e2 _ (by decide) (by decide)]; exact c3
  · rw [e2 _ (by decide) (by decide)]; exact c4
  · rw [e2 _ (by decide) (by decide)]; exact c5
  · rw [e2 _ (by decide) (by decide)]; exact c6
  · rw [e1]; exact c7
theorem c_sangAhead (c : CNs h p D S) (w : WS D S) : X3_sangAhead N h 185 = some (match nx D (S.1 1) with | none => -1 | some b => oI (lst S b)) := by
  obtain ⟨_, ckh, _, c2, _, _, _, _, _, _, c9, c10, _⟩ := c
  have hw := w.2.2.2.2.2.2.2.2.2.2.1
  unfold X3_sangAhead
  rw [c2, c9, c10]
  unfold lst
  cases hn : nx D (S.1 1) with
  | none => rw [if_pos (show oI none = -1 from rfl)]
  | some b =>
    obtain ⟨n1, n2, _⟩ := nx_some hn
    rw [show oI (some b) = nI b from rfl]
    have hb := n2.1
    have hk := hk0 ckh.2.1
    cases hl : S.2.2.2.1 with
    | none => rw [if_neg (nI_m1 (by omega)), if_pos (show lb none = -1 from rfl)]; rfl
    | some bo =>
      obtain ⟨b0, o⟩ := bo
      have := (hw b0 o hl).1
      simp only
      rw [if_neg (nI_m1 (by omega)), show lb (some (b0, o)) = nI b0 from rfl, if_neg (nI_m1 (by omega)), nI_1]
      by_cases z : b = b0 + 1
      · rw [if_pos (by rw [z]), if_pos z]; rfl
      · rw [if_neg (fun v => z ((nI_eq (by omega) (by omega)).mp v)), if_neg z]; rfl
theorem r_lastSinger (c : RNs h q D S) (w : WS D S) (hN : 100 ≤ N) : X11_lastSinger N h 237 = some (match nx D (S.1 1) with | none => -1 | some b => oI (lst S b)) := by
  obtain ⟨c0, _, c2, _, _, _, _, _, _, _, _, c11, c12, _⟩ := c
  have hk := hk0 c0.1
  have hw := w.2.2.2.2.2.2.2.2.2.2.1
  have hw0 := w.2.2.2.2.2.2.2.2.2.1
  unfold X11_lastSinger
  rw [r_nextBar c0 hN (by have := w.2.1; omega) c2, bd1_some]
  unfold lst
  cases hn : nx D (S.1 1) with
  | none => rw [if_pos (show oI none ≤ 0 by decide)]
  | some b =>
    obtain ⟨n1, n2, _⟩ := nx_some hn
    have hb := n2.1
    rw [show oI (some b) = nI b from rfl]
    by_cases z : b = 0
    · rw [if_pos (by rw [z]; decide)]
      cases hl : S.2.2.2.1 with
      | none => rfl
      | some bo =>
        obtain ⟨b0, o⟩ := bo
        simp only
        rw [if_neg (by omega)]; rfl
    · rw [if_neg (nI_nle (by omega) (by omega)), show nI b - 1 = nI (b - 1) from pk_sub (b := 1) (by omega), if_neg (nI_in (by omega) (by decide)), nI_clamp (by omega), show (237 + 18 : Nat) = 255 from rfl]
      cases hl : S.2.2.2.1 with
      | none =>
        have := hw0 hl
        rw [c11 (b - 1) (by omega) (by omega)]; rfl
      | some bo =>
        obtain ⟨b0, o⟩ := bo
        have := (hw b0 o hl).1
        simp only
        by_cases y : b = b0 + 1
        · rw [if_pos y, show b - 1 = b0 by omega, c12 b0 o hl]
        · rw [if_neg y, c11 (b - 1) (by omega) (by omega)]; rfl
theorem c_goOn (e2 : h.2 185 = p) (c : KH h p D) (hN : 100 ≤ N) {b : Nat} (hb : b < D 1) (eb : h.1 185 2 = nI b) (v : Int32) : X3_goOn N h 185 v = some (wi (wi (wi h 185 9 (nI b)) 185 10 v) 185 2 (oI (nx D (b + 1)))) := by
  have hk := hk0 c.2.1
  unfold X3_goOn
  rw [sq_eq, sq_eq, eb, show (wi (wi h 185 9 (nI b)) 185 10 v).1 185 2 = nI b from eb, show (wi (wi h 185 9 (nI b)) 185 10 v).2 185 = p from e2, nI_1, c_nextFrom (KH_n (fun k hk => by rw [wi_k _ _ (by omega), wi_k _ _ (by omega)]) c) hN (by omega), bd1_some, sq_eq]
theorem st_arr (f : Nat → Nat) (n s x : Nat) {g : Nat → Int32} (h1 : ∀ t, t < n → g t = nI (f t)) (y : Int32) (hy : y = nI x) : ∀ t, t < n → (if t = s then y else g t) = nI (st f s x t) := by
  intro t ht
  unfold st
  by_cases z : t = s
  · rw [if_pos z, if_pos z]; exact hy
  · rw [if_neg z, if_neg z]; exact h1 t ht
abbrev sgS (D : Nat → Nat) (S : NS) (b s x5 x7 : Nat) (f' : Option Nat) : NS := (st (st (st (st S.1 1 (b + 1)) 5 x5) 7 x7) 9 (S.1 9 + 1), st S.2.1 s (S.2.1 s - lenD D b), st S.2.2.1 s (S.2.2.1 s + 1), some (b, some s), S.2.2.2.2.1, f')
abbrev dre (D : Nat → Nat) (S : NS) (b s : Nat) : Prop := ¬ zre D s (D (17 + 4 * b)) (if (S.1 6).testBit s = true then 2 else 0)
abbrev sgN (D : Nat → Nat) (S : NS) (b s : Nat) : NS := if dre D S b s then sgS D S b s (S.1 5 + 1) (S.1 7 ||| 2 ^ D (19 + 4 * b)) (match S.2.2.2.2.2 with | none => some (S.1 9) | some j => some j) else sgS D S b s (S.1 5) (S.1 7) S.2.2.2.2.2
theorem c_sing (c : CNs h p D S) (w : WS D S) (hN : 100 ≤ N) {b s : Nat} (hs : s < D 2) (hn : nx D (S.1 1) = some b) (hl : lst S b ≠ some s) (hb : lenD D b ≤ S.2.1 s) : ∃ h', X3_does N h 185 0 (nI s) = some (1, h') ∧ CNs h' p D (sgN D S b s) ∧ CNf h h' := by
  have hsa := c_sangAhead (N := N) c w
  obtain ⟨d1, d2, d3, d4, d5, d6, d7, d8, d9, d10, d11, d12, d13, d14, d15, d16, d17, d18, d19⟩ := c
  obtain ⟨n1, n2, _⟩ := nx_some hn
  have hb1 := n2.1
  have hk := hk0 d2.2.1
  have hB := hkB d2.2.1 hb1
  have hP := d2.1
  have hls := w.2.2.2.2.2.2.2.1 s hs
  have ht := w.2.2.2.2.2.2.2.2.1 s (by omega)
  have hd := w.2.2.2.2.2.2.1
  rw [hn] at d4 hsa
  simp only at hsa
  have nl : ¬ nI s = oI (lst S b) := by
    intro e
    cases hls2 : lst S b with
    | none => rw [hls2] at e; exact nI_m1 (show s < 2 ^ 31 by omega) e
    | some t =>
      rw [hls2] at e
      have ht5 : t < 5 := by
        unfold lst at hls2
        cases hl3 : S.2.2.2.1 with
        | none => rw [hl3] at hls2; cases hls2
        | some bo =>
          obtain ⟨b0, o⟩ := bo
          rw [hl3] at hls2
          simp only at hls2
          by_cases z : b = b0 + 1
          · rw [if_pos z] at hls2
            exact (w.2.2.2.2.2.2.2.2.2.2.1 b0 o hl3).2 t hls2
          · rw [if_neg z] at hls2; cases hls2
      have : s = t := (nI_eq (by omega) (by omega)).mp e
      rw [hls2, this] at hl
      exact hl rfl
  have may : X3_may N h 185 0 (nI s) = some 1 := by
    unfold X3_may
    rw [if_pos rfl, d4, show oI (some b) = nI b from rfl, if_neg (nI_m1 (by omega)), d1, c_hasSinger d2 (by omega), bd1_some, nB_t hs, if_neg one0, hsa, bd1_some, if_neg nl, at_in ln196 (by decide) (by omega), bd1_some, at_in hP.2.2.2.1 (by decide) (by omega), bd1_some, show h.1 (185 + 11) s = _ from d13 s hs, chLe d2 hb1]
    unfold lenD at hb
    rw [if_neg (nI_nlt hb (by omega))]
    rfl
  unfold X3_does
  rw [may, bd1_some, if_neg one0, if_pos rfl]
  unfold X3_singNext
  rw [if_neg (nI_pos (by omega)), if_pos (show nI s < 5 from nI_lt (b := 5) (by omega) (by decide)), if_neg (nI_in (by omega) (by decide)), d1, d4, show oI (some b) = nI b from rfl, at_in hP.2.2.2.1 (by decide) (by omega), bd1_some, if_neg (nI_in (by omega) (by decide)), sq_eq, if_neg (nI_in (by omega) (by decide)), if_neg (nI_in (by omega) (by decide)), sq_eq, nI_clamp (by omega), chLe d2 hb1, show h.1 (185 + 11) s = _ from d13 s hs, show (185 + 11 : Nat) = 196 from rfl, show (185 + 12 : Nat) = 197 from rfl]
  rw [show nI (S.2.1 s) - nI (D (18 + 4 * b)) = nI (S.2.1 s - lenD D b) from pk_sub hb, wi_k (a := 197) _ _ (by decide), d14 s (by omega), nI_1]
  generalize hw1 : wi (wi h 196 s (nI (S.2.1 s - lenD D b))) 197 s (nI (S.2.2.1 s + 1)) = h1
  have k1 : ∀ k, k ≠ 196 → k ≠ 197 → h1.1 k = h.1 k := fun k k1 k2 => by rw [← hw1, wi_k _ _ k2, wi_k _ _ k1]
  have e2 : h1.2 185 = p := by rw [← hw1]; exact d1
  have kh1 : KH h1 p D := KH_n (fun k hk => k1 k (by omega) (by omega)) d2
  have l1 : ∀ t, t < D 2 → h1.1 196 t = nI (st S.2.1 s (S.2.1 s - lenD D b) t) := by
    intro t ht
    rw [← hw1, wi_k (a := 196) _ _ (by decide)]
    exact st_arr S.2.1 (D 2) s _ d13 _ rfl t ht
  have t1 : ∀ t, t < 5 → h1.1 197 t = nI (st S.2.2.1 s (S.2.2.1 s + 1) t) := by
    intro t ht
    rw [← hw1]
    exact st_arr S.2.2.1 5 s _ (g := (wi h 196 s (nI (S.2.1 s - lenD D b))).1 197) (by rw [wi_k (a := 197) _ _ (by decide)]; exact d14) _ rfl t ht
  have z5 := k1 185 (by decide) (by decide)
  rw [z5, d4, e2, show oI (some b) = nI b from rfl, at_in kh1.1.2.2.1 (by decide) (by omega), bd1_some, chNo kh1 hb1, d9, bi_n (by have := w.2.2.2.2.1; omega) (by omega)]
  have rc := c_reaches (N := N) kh1 (s := s) (n := D (17 + 4 * b)) (by omega) (by omega)
  have e78 : ∀ u : Int32, X1_reaches N h1 p (nI s) (nI (D (17 + 4 * b))) u = some (nB (¬ dre D S b s)) → ∃ h', (bd1 (X3_singNext_b78 N h1 185 (nI s) u (nI (D (17 + 4 * b))) (nI s) p) fun h8 => sq (wi h8 185 14 (h8.1 185 14 + 1)) fun h9 => some (nz 1, h9)) = some (1, h') ∧ CNs h' p D (sgN D S b s) ∧ CNf h h' := by
    intro u hu
    unfold X3_singNext_b78
    rw [hu, bd1_some, z5, d4, d10, e2, show oI (some b) = nI b from rfl, at_in kh1.1.2.2.2.2.1 (by decide) (by omega), bd1_some, chGr kh1 hb1, one_shl _ (by omega), nx_or, sq_eq, sq_eq]
    by_cases z : dre D S b s
    · rw [nB_f (fun v => v z), if_pos rfl, show (wi h1 185 8 (nI (S.1 7 ||| 2 ^ D (19 + 4 * b)))).1 185 6 = nI (S.1 5) by rw [wi_j _ _ (by decide), z5]; exact d8, nI_1]
      generalize hw2 : wi (wi h1 185 8 (nI (S.1 7 ||| 2 ^ D (19 + 4 * b)))) 185 6 (nI (S.1 5 + 1)) = h2
      have k2 : ∀ k, k ≠ 185 → h2.1 k = h1.1 k := fun k hk => by rw [← hw2, wi_k _ _ hk, wi_k _ _ hk]
      have j2 : ∀ j, j ≠ 6 → j ≠ 8 → h2.1 185 j = h.1 185 j := fun j h6 h8 => by rw [← hw2, wi_j _ _ h6, wi_j _ _ h8, z5]
      have j6 : h2.1 185 6 = nI (S.1 5 + 1) := by rw [← hw2]; exact wi_s _ _ _ _
      have j8 : h2.1 185 8 = nI (S.1 7 ||| 2 ^ D (19 + 4 * b)) := by rw [← hw2, wi_j _ _ (by decide)]; exact wi_s _ _ _ _
      have e22 : h2.2 185 = p := by rw [← hw2]; exact e2
      have kh2 : KH h2 p D := KH_n (fun k hk => k2 k (by omega)) kh1
      have fin : ∀ fd : Option Nat, ∃ h', (bd1 (sq (wi h2 185 16 (oI fd)) fun h37 => bd1 (X3_goOn N h37 185 (nI s)) fun h40 => some h40) fun h8 => sq (wi h8 185 14 (h8.1 185 14 + 1)) fun h9 => some (nz 1, h9)) = some (1, h') ∧ CNs h' p D (sgS D S b s (S.1 5 + 1) (S.1 7 ||| 2 ^ D (19 + 4 * b)) fd) ∧ CNf h h' := by
        intro fd
        rw [sq_eq, c_goOn (h := wi h2 185 16 (oI fd)) (p := p) (D := D) e22 (KH_n (fun k hk => wi_k _ _ (by omega)) kh2) hN hb1 (by rw [wi_j _ _ (by decide), j2 _ (by decide) (by decide), d4]; rfl), bd1_some, bd1_some, sq_eq]
        refine ⟨_, rfl, ?_, ?_⟩
        · refine ⟨e22, KH_n (fun k hk => by rw [wi_k _ _ (by omega), wi_k _ _ (by omega), wi_k _ _ (by omega), wi_k _ _ (by omega), wi_k _ _ (by omega)]) kh2, ?_, rfl, ?_, ?_, ?_, ?_, ?_, ?_, rfl, rfl, ?_, ?_, ?_, ?_, rfl, ?_, ?_⟩
          · exact (j2 1 (by decide) (by decide)).trans d3
          · exact (j2 3 (by decide) (by decide)).trans d5
          · exact (j2 4 (by decide) (by decide)).trans d6
          · exact (j2 5 (by decide) (by decide)).trans d7
          · exact j6
          · exact (j2 7 (by decide) (by decide)).trans d9
          · exact j8
          · exact fun t ht => (congrFun (k2 196 (by decide)) t).trans (l1 t ht)
          · exact fun t ht => (congrFun (k2 197 (by decide)) t).trans (t1 t ht)
          · show h2.1 185 14 + 1 = nI (S.1 9 + 1)
            rw [j2 14 (by decide) (by decide), d15, nI_1]
          · exact fun n m hnm => (j2 15 (by decide) (by decide)).trans (d16 n m hnm)
          · exact (j2 17 (by decide) (by decide)).trans d18
          · exact (j2 18 (by decide) (by decide)).trans d19
        · refine ⟨fun k a1 a2 a3 => ?_, ?_⟩
          · rw [wi_k _ _ a1, wi_k _ _ a1, wi_k _ _ a1, wi_k _ _ a1, wi_k _ _ a1, k2 k a1, k1 k a2 a3]
          · exact j2 13 (by decide) (by decide)
      rw [sgN, if_pos z, j2 16 (by decide) (by decide), j2 14 (by decide) (by decide), d17, d15]
      cases hfd : S.2.2.2.2.2 with
      | none => rw [if_pos (show oI none = -1 from rfl)]; exact fin (some (S.1 9))
      | some j =>
        have := w.2.2.2.2.2.2.2.2.2.2.2.2.2 j hfd
        rw [if_neg (show ¬ oI (some j) = -1 from nI_m1 (by omega))]; exact fin (some j)
    · rw [nB_t z, if_neg one0, c_goOn (h := h1) (p := p) (D := D) e2 kh1 hN hb1 (by rw [z5, d4]; rfl), bd1_some, bd1_some, sq_eq, sgN, if_neg z]
      refine ⟨_, rfl, ?_, ?_⟩
      · refine ⟨e2, KH_n (fun k hk => by rw [wi_k _ _ (by omega), wi_k _ _ (by omega), wi_k _ _ (by omega), wi_k _ _ (by omega)]) kh1, ?_, rfl, ?_, ?_, ?_, ?_, ?_, ?_, rfl, rfl, ?_, ?_, ?_, ?_, ?_, ?_, ?_⟩
        · exact (congrFun z5 1).trans d3
        · exact (congrFun z5 3).trans d5
        · exact (congrFun z5 4).trans d6
        · exact (congrFun z5 5).trans d7
        · exact (congrFun z5 6).trans d8
        · exact (congrFun z5 7).trans d9
        · exact (congrFun z5 8).trans d10
        · exact l1
        · exact t1
        · show h1.1 185 14 + 1 = nI (S.1 9 + 1)
          rw [z5, d15, nI_1]
        · exact fun n m hnm => (congrFun z5 15).trans (d16 n m hnm)
        · exact (congrFun z5 16).trans d17
        · exact (congrFun z5 17).trans d18
        · exact (congrFun z5 18).trans d19
      · refine ⟨fun k a1 a2 a3 => ?_, ?_⟩
        · rw [wi_k _ _ a1, wi_k _ _ a1, wi_k _ _ a1, wi_k _ _ a1, k1 k a2 a3]
        · exact congrFun z5 13
  by_cases y : (S.1 6).testBit s = true
  · rw [nB_t y, if_neg one0]
    refine e78 1 ?_
    rw [rc.2]
    refine congrArg some (nB_eq ?_)
    unfold dre
    rw [if_pos y]
    exact ⟨fun v u => u v.2, fun v => ⟨hs, Classical.not_not.mp v⟩⟩
  · rw [nB_f y, if_pos rfl]
    refine e78 0 ?_
    rw [rc.1]
    refine congrArg some (nB_eq ?_)
    unfold dre
    rw [if_neg y]
    exact ⟨fun v u => u v.2, fun v => ⟨hs, Classical.not_not.mp v⟩⟩
end DEE
