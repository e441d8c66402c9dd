/-! ===== level 2: nights: the other deeds ===== -/
section DEF
variable {N : Nat} {p q : Nat} {D : Nat → Nat} {S : NS} {h : HS}
theorem lst_lt (w : WS D S) {b t : Nat} (h : lst S b = some t) : t < 5 := by
  unfold lst at h
  cases hl3 : S.2.2.2.1 with
  | none => rw [hl3] at h; cases h
  | some bo =>
    obtain ⟨b0, o⟩ := bo
    rw [hl3] at h
    simp only at h
    by_cases z : b = b0 + 1
    · rw [if_pos z] at h
      exact (w.2.2.2.2.2.2.2.2.2.2.1 b0 o hl3).2 t h
    · rw [if_neg z] at h; cases h
theorem oI_ne {o : Option Nat} {s : Nat} (hs : s < 2 ^ 31) (ho : ∀ t, o = some t → t < 2 ^ 31) (h : o ≠ some s) : ¬ oI o = nI s := by
  intro e
  cases o with
  | none => exact nI_m1 hs e.symm
  | some t =>
    have : t = s := (nI_eq (ho t rfl) hs).mp e
    rw [this] at h
    exact h rfl
theorem r_sing (c : RNs h q D S) (w : WS D S) (hN : 100 ≤ N) {b s : Nat} (hs : s < D 2) (hn : nx D (S.1 1) = some b) (hl : lst S b ≠ some s) (hb : lenD D b ≤ S.2.1 s) : ∃ h', X11_does N h 237 0 (nI s) = some (1, h') ∧ RNs h' q D (sgN D S b s) ∧ RNf h h' := by
  have hls2 := r_lastSinger c w hN
  obtain ⟨d1, d2, d3, d4, d5, d6, d7, d8, d9, d10, d11, d12, d13, d14, d15, d16⟩ := c
  obtain ⟨n1, n2, _⟩ := nx_some hn
  have hb1 := n2.1
  have hk := hk0 d1.1
  have hB := hkB d1.1 hb1
  have hls := w.2.2.2.2.2.2.2.1 s hs
  have ht := w.2.2.2.2.2.2.2.2.1 s (by omega)
  have hd := w.2.2.2.2.2.2.1
  have hnb := r_nextBar (N := N) d1 hN (by have := w.2.1; omega) d3
  rw [hn] at hls2 hnb
  simp only at hls2
  have nl : ¬ oI (lst S b) = nI s := oI_ne (by omega) (fun t ht => by have := lst_lt w ht; omega) hl
  unfold X11_does
  rw [if_pos rfl]
  unfold X11_sings
  rw [hnb, bd1_some, r_isSinger d1 (by omega), bd1_some, nB_t hs, if_neg one0, show oI (some b) = nI b from rfl, if_neg (nI_m1 (by omega)), hls2, bd1_some, if_neg nl, if_neg (nI_in (by omega) (by decide)), r_longOf d1 (by omega), bd1_some, nI_clamp (by omega), show h.1 (237 + 16) s = _ from d10 s hs]
  unfold lenD at hb
  rw [if_pos (nI_le hb (by omega)), if_neg (nI_ic (by omega) (by omega)), bd1_some, if_neg (nI_ic (by omega) (by omega)), sq_eq, if_neg (nI_ic (by omega) (by omega)), if_neg (nI_ic (by omega) (by omega)), sq_eq, pk_sub hb, show (237 + 16 : Nat) = 253 from rfl, show (237 + 17 : Nat) = 254 from rfl, wi_k (a := 254) _ _ (by decide), d11 s (by omega), nI_1]
  generalize hw1 : wi (wi h 253 s (nI (S.2.1 s - D (18 + 4 * b)))) 254 s (nI (S.2.2.1 s + 1)) = h1
  have k1 : ∀ k, k ≠ 253 → k ≠ 254 → h1.1 k = h.1 k := fun k k1 k2 => by rw [← hw1, wi_k _ _ k2, wi_k _ _ k1]
  have z7 := k1 237 (by decide) (by decide)
  have rh1' : RH h1 q D := RH_n (k1 238 (by decide) (by decide)) (fun j _ _ => congrFun z7 j) d1
  have l1 : ∀ t, t < D 2 → h1.1 253 t = nI (st S.2.1 s (S.2.1 s - lenD D b) t) := by
    intro t ht
    rw [← hw1, wi_k (a := 253) _ _ (by decide)]
    exact st_arr S.2.1 (D 2) s _ d10 _ rfl t ht
  have t1 : ∀ t, t < 5 → h1.1 254 t = nI (st S.2.2.1 s (S.2.2.1 s + 1) t) := by
    intro t ht
    rw [← hw1]
    exact st_arr S.2.2.1 5 s _ (g := (wi h 253 s (nI (S.2.1 s - D (18 + 4 * b)))).1 254) (by rw [wi_k (a := 254) _ _ (by decide)]; exact d11) _ rfl t ht
  have hr : X11_reaches N h1 237 (nI s) (nI (D (17 + 4 * b))) ((((h1.1 237 39) >>> (nI s &&& 31)) &&& 1) * 2) = some (nB (¬ dre D S b s)) := by
    rw [z7, d8, bi_n (by have := w.2.2.2.2.1; omega) (by omega)]
    unfold dre
    by_cases y : (S.1 6).testBit s = true
    · rw [nB_t y, if_pos y, show (1 : Int32) * 2 = nI 2 from rfl, r_reachesN rh1' hs (by omega) (by decide)]
      exact congrArg some (nB_eq ⟨fun v u => u v, fun v => Classical.not_not.mp v⟩)
    · rw [nB_f y, if_neg y, show (0 : Int32) * 2 = nI 0 from rfl, r_reachesN rh1' hs (by omega) (by decide)]
      exact congrArg some (nB_eq ⟨fun v u => u v, fun v => Classical.not_not.mp v⟩)
  rw [r_noteOf rh1' (by omega), bd1_some, hr, bd1_some]
  have sang : ∀ i, b + 1 ≤ i → i < 8 → h1.1 255 i = -1 := fun i h1' h2' => by rw [k1 255 (by decide) (by decide)]; exact d12 i (by omega) h2'
  by_cases z : dre D S b s
  · rw [nB_f (fun v => v z), if_pos rfl, sq_eq, z7, d7, nI_1]
    have rh2' : RH (wi h1 237 38 (nI (S.1 5 + 1))) q D := RH_n (wi_k _ _ (by decide)) (fun j a1 a2 => wi_j _ _ (by omega)) rh1'
    rw [r_floorOf rh2' (by omega), bd1_some, sq_eq, if_neg (nI_in (by omega) (by decide)), sq_eq, sq_eq, nI_clamp (by omega), show (wi h1 237 38 (nI (S.1 5 + 1))).1 237 40 = nI (S.1 7) by rw [wi_j _ _ (by decide), z7]; exact d9, one_shl _ (by omega), nx_or, nI_1, bd2_some, nz_1, nz_1, sgN, if_pos z]
    refine ⟨_, rfl, ?_, ?_⟩
    · refine ⟨RH_n ?_ ?_ rh2', ?_, rfl, ?_, ?_, ?_, rfl, ?_, rfl, ?_, ?_, ?_, ?_, ?_, ?_, ?_⟩
      · rw [wi_k _ _ (by decide), wi_k _ _ (by decide), wi_k _ _ (by decide)]
      · intro j a1 a2
        rw [wi_j _ _ (by omega), wi_k _ _ (by decide), wi_j _ _ (by omega)]
      · exact (congrFun z7 33).trans d2
      · exact (congrFun z7 35).trans d4
      · exact (congrFun z7 36).trans d5
      · exact (congrFun z7 37).trans d6
      · exact (congrFun z7 39).trans d8
      · exact l1
      · exact t1
      · intro i h1' h2'
        rw [wi_k _ _ (by decide), show (237 + 18 : Nat) = 255 from rfl, wi_j _ _ (by have : b + 1 ≤ i := h1'; omega), wi_k _ _ (by decide), wi_k _ _ (by decide)]
        exact sang i h1' h2'
      · intro b' o hbo
        cases hbo
        rw [wi_k _ _ (by decide)]
        exact wi_s _ _ _ _
      · exact (congrFun z7 42).trans d14
      · exact (congrFun z7 43).trans d15
      · exact (congrFun z7 44).trans d16
    · refine ⟨fun k a1 a2 a3 a4 => ?_, ?_, ?_, ?_⟩
      · rw [wi_k _ _ a1, wi_k _ _ a4, wi_k _ _ a1, wi_k _ _ a1, k1 k a2 a3]
      · exact congrFun z7 32
      · exact congrFun z7 50
      · exact congrFun z7 41
  · rw [nB_t z, if_neg one0, if_neg (nI_in (by omega) (by decide)), sq_eq, sq_eq, nI_clamp (by omega), nI_1, bd2_some, nz_1, nz_1, sgN, if_neg z]
    refine ⟨_, rfl, ?_, ?_⟩
    · refine ⟨RH_n ?_ ?_ rh1', ?_, rfl, ?_, ?_, ?_, ?_, ?_, ?_, ?_, ?_, ?_, ?_, ?_, ?_, ?_⟩
      · rw [wi_k _ _ (by decide), wi_k _ _ (by decide)]
      · intro j a1 a2
        rw [wi_j _ _ (by omega), wi_k _ _ (by decide)]
      · exact (congrFun z7 33).trans d2
      · exact (congrFun z7 35).trans d4
      · exact (congrFun z7 36).trans d5
      · exact (congrFun z7 37).trans d6
      · exact (congrFun z7 38).trans d7
      · exact (congrFun z7 39).trans d8
      · exact (congrFun z7 40).trans d9
      · exact l1
      · exact t1
      · intro i h1' h2'
        rw [wi_k _ _ (by decide), show (237 + 18 : Nat) = 255 from rfl, wi_j _ _ (by have : b + 1 ≤ i := h1'; omega)]
        exact sang i h1' h2'
      · intro b' o hbo
        cases hbo
        rw [wi_k _ _ (by decide)]
        exact wi_s _ _ _ _
      · exact (congrFun z7 42).trans d14
      · exact (congrFun z7 43).trans d15
      · exact (congrFun z7 44).trans d16
    · refine ⟨fun k a1 a2 a3 a4 => ?_, ?_, ?_, ?_⟩
      · rw [wi_k _ _ a1, wi_k _ _ a4, k1 k a2 a3]
      · exact congrFun z7 32
      · exact congrFun z7 50
      · exact congrFun z7 41
theorem w_sing (k : HK D) (w : WS D S) (h9 : S.1 9 < 100) {b s : Nat} (hs : s < D 2) (hn : nx D (S.1 1) = some b) : WS D (sgN D S b s) := by
  have hk := hk0 k
  obtain ⟨n1, n2, _⟩ := nx_some hn
  have hb1 := n2.1
  have hB := hkB k hb1
  obtain ⟨w1, w2, w3, w4, w5, w6, w7, w8, w9, w10, w11, w12, w13, w14⟩ := w
  have gen : ∀ x5 x7 f', x5 ≤ S.1 9 + 1 → x7 < 64 → ((f' = none) ↔ x5 = 0) → (∀ j, f' = some j → j ≤ 100) → WS D (sgS D S b s x5 x7 f') := by
    intro x5 x7 f' g1 g2 g3 g4
    refine ⟨w1, by show b + 1 ≤ D 1; omega, w3, g1, w5, g2, by show S.1 9 + 1 ≤ 100; omega, ?_, ?_, fun h => (by cases h), ?_, w12, g3, g4⟩
    · intro t ht
      show st S.2.1 s (S.2.1 s - lenD D b) t ≤ 20
      have := w8 t ht
      have := w8 s hs
      unfold st
      by_cases z : t = s
      · rw [if_pos z]; omega
      · rw [if_neg z]; omega
    · intro t ht
      show st S.2.2.1 s (S.2.2.1 s + 1) t ≤ S.1 9 + 1
      have := w9 t ht
      have := w9 s (by omega)
      unfold st
      by_cases z : t = s
      · rw [if_pos z]; omega
      · rw [if_neg z]; omega
    · intro b' o hbo
      cases hbo
      exact ⟨rfl, fun t ht => by cases ht; omega⟩
  by_cases z : dre D S b s
  · rw [sgN, if_pos z]
    refine gen _ _ _ (by omega) (or_lt 6 w6 (by omega)) ?_ ?_
    · cases hf : S.2.2.2.2.2 with
      | none => exact ⟨fun h => (by cases h), fun h => by omega⟩
      | some j => exact ⟨fun h => (by cases h), fun h => by omega⟩
    · intro j hj
      cases hf : S.2.2.2.2.2 with
      | none => rw [hf] at hj; cases hj; omega
      | some i => rw [hf] at hj; cases hj; exact w14 _ hf
  · rw [sgN, if_neg z]
    exact gen _ _ _ (by omega) w6 w13 w14
/-- nobody sings so -/
theorem c_sing0 (c : CNs h p D S) (w : WS D S) (hN : 100 ≤ N) {v : Int32} (hno : ¬ ∃ b s, v = nI s ∧ s < D 2 ∧ nx D (S.1 1) = some b ∧ lst S b ≠ some s ∧ lenD D b ≤ S.2.1 s) : X3_does N h 185 0 v = some (0, h) := by
  have hsa := c_sangAhead (N := N) c w
  obtain ⟨d1, d2, d3, d4, d5, d6, d7, d8, d9, d10, d11, d12, d13, _⟩ := c
  have hk := hk0 d2.2.1
  have may : X3_may N h 185 0 v = some 0 := by
    unfold X3_may
    rw [if_pos rfl, d4]
    cases hn : nx D (S.1 1) with
    | none => rw [if_pos (show oI none = -1 from rfl)]; rfl
    | some b =>
      obtain ⟨n1, n2, _⟩ := nx_some hn
      have hb1 := n2.1
      have hB := hkB d2.2.1 hb1
      rw [hn] at hsa
      simp only at hsa
      rw [show oI (some b) = nI b from rfl, if_neg (nI_m1 (by omega)), d1]
      rcases i_cases v with z | ⟨s, hs, rfl⟩
      · rw [(c_neg z).2.2]; rfl
      · rw [c_hasSinger d2 hs, bd1_some]
        by_cases y : s < D 2
        · have hls := w.2.2.2.2.2.2.2.1 s y
          rw [nB_t y, if_neg one0, hsa, bd1_some]
          by_cases x : lst S b = some s
          · rw [if_pos (by rw [x]; rfl)]; rfl
          · rw [if_neg (fun e => oI_ne hs (fun t ht => by have := lst_lt w ht; omega) x e.symm), at_in ln196 (by decide) (by omega), bd1_some, at_in d2.1.2.2.2.1 (by decide) (by omega), bd1_some, show h.1 (185 + 11) s = _ from d13 s y, chLe d2 hb1]
            by_cases u : lenD D b ≤ S.2.1 s
            · exact absurd ⟨b, s, rfl, y, hn, x, u⟩ hno
            · unfold lenD at u
              rw [if_pos (nI_lt (by omega) (by omega))]; rfl
        · rw [nB_f y]; rfl
  unfold X3_does
  rw [may, bd1_some, if_pos rfl]
  rfl
theorem r_sing0 (c : RNs h q D S) (w : WS D S) (hN : 100 ≤ N) {v : Int32} (hno : ¬ ∃ b s, v = nI s ∧ s < D 2 ∧ nx D (S.1 1) = some b ∧ lst S b ≠ some s ∧ lenD D b ≤ S.2.1 s) : X11_does N h 237 0 v = some (0, h) := by
  have hls2 := r_lastSinger c w hN
  obtain ⟨d1, d2, d3, d4, d5, d6, d7, d8, d9, d10, _⟩ := c
  have hk := hk0 d1.1
  have hnb := r_nextBar (N := N) d1 hN (by have := w.2.1; omega) d3
  unfold X11_does
  rw [if_pos rfl]
  unfold X11_sings
  rw [hnb, bd1_some]
  rcases i_cases v with z | ⟨s, hs, rfl⟩
  · rw [(r_neg d1 z).2.2, bd1_some, if_pos rfl, bd2_some, nz_0, nz_0]
  · rw [r_isSinger d1 hs, bd1_some]
    by_cases y : s < D 2
    · have hls := w.2.2.2.2.2.2.2.1 s y
      rw [nB_t y, if_neg one0]
      cases hn : nx D (S.1 1) with
      | none => rw [if_pos (show oI none = -1 from rfl), bd2_some, nz_0, nz_0]
      | some b =>
        obtain ⟨n1, n2, _⟩ := nx_some hn
        have hb1 := n2.1
        have hB := hkB d1.1 hb1
        rw [hn] at hls2
        simp only at hls2
        rw [show oI (some b) = nI b from rfl, if_neg (nI_m1 (by omega)), hls2, bd1_some]
        by_cases x : lst S b = some s
        · rw [if_pos (by rw [x]; rfl), bd2_some, nz_0, nz_0]
        · rw [if_neg (oI_ne hs (fun t ht => by have := lst_lt w ht; omega) x), if_neg (nI_in (by omega) (by decide)), r_longOf d1 (by omega), bd1_some, nI_clamp (by omega), show h.1 (237 + 16) s = _ from d10 s y]
          by_cases u : lenD D b ≤ S.2.1 s
          · exact absurd ⟨b, s, rfl, y, hn, x, u⟩ hno
          · unfold lenD at u
            rw [if_neg (nI_ge (by omega) (by omega)), bd2_some, nz_0, nz_0]
    · rw [nB_f y, if_pos rfl, bd2_some, nz_0, nz_0]
/-- colds come and go -/
abbrev coS (S : NS) (x : Nat) : NS := (st (st S.1 6 x) 9 (S.1 9 + 1), S.2.1, S.2.2.1, S.2.2.2.1, S.2.2.2.2.1, S.2.2.2.2.2)
theorem c_setc (c : CNs h p D S) (x : Nat) : CNs (wi (wi h 185 7 (nI x)) 185 14 (nI (S.1 9 + 1))) p D (coS S x) ∧ CNf h (wi (wi h 185 7 (nI x)) 185 14 (nI (S.1 9 + 1))) := by
  obtain ⟨d1, d2, d3, d4, d5, d6, d7, d8, d9, d10, d11, d12, d13, d14, d15, d16, d17, d18, d19⟩ := c
  refine ⟨⟨d1, KH_n (fun k hk => by rw [wi_k _ _ (by omega), wi_k _ _ (by omega)]) d2, d3, d4, d5, d6, d7, d8, rfl, d10, d11, d12, d13, d14, rfl, d16, d17, d18, d19⟩, fun k a1 _ _ => by rw [wi_k _ _ a1, wi_k _ _ a1], rfl⟩
theorem r_setc (c : RNs h q D S) (x : Nat) : RNs (wi h 237 39 (nI x)) q D (coS S x) ∧ RNf h (wi h 237 39 (nI x)) := by
  obtain ⟨d1, d2, d3, d4, d5, d6, d7, d8, d9, d10, d11, d12, d13, d14, d15, d16⟩ := c
  refine ⟨⟨RH_n (wi_k _ _ (by decide)) (fun j a1 a2 => wi_j _ _ (by omega)) d1, d2, d3, d4, d5, d6, d7, rfl, d9, d10, d11, d12, d13, d14, d15, d16⟩, fun k a1 _ _ _ => wi_k _ _ a1, rfl, rfl, rfl⟩
theorem w_setc (w : WS D S) (h9 : S.1 9 < 100) {x : Nat} (hx : x < 32) : WS D (coS S x) := by
  obtain ⟨w1, w2, w3, w4, w5, w6, w7, w8, w9, w10, w11, w12, w13, w14⟩ := w
  exact ⟨w1, w2, w3, by show S.1 5 ≤ S.1 9 + 1; omega, hx, w6, by show S.1 9 + 1 ≤ 100; omega, w8, fun s hs => (by have := w9 s hs; show S.2.2.1 s ≤ S.1 9 + 1; omega), w10, w11, w12, w13, w14⟩
/-- the next bar is skipped -/
abbrev skS (D : Nat → Nat) (S : NS) (b : Nat) : NS := (st (st (st S.1 1 (b + 1)) 2 (S.1 2 ||| fN D b)) 9 (S.1 9 + 1), S.2.1, S.2.2.1, some (b, none), S.2.2.2.2.1, S.2.2.2.2.2)
theorem c_skip (c : CNs h p D S) (w : WS D S) (hN : 100 ≤ N) {b : Nat} (hn : nx D (S.1 1) = some b) (v : Int32) : ∃ h', X3_does N h 185 3 v = some (1, h') ∧ CNs h' p D (skS D S b) ∧ CNf h h' := by
  obtain ⟨d1, d2, d3, d4, d5, d6, d7, d8, d9, d10, d11, d12, d13, d14, d15, d16, d17, d18, d19⟩ := c
  obtain ⟨n1, n2, _⟩ := nx_some hn
  have hb1 := n2.1
  have hk := hk0 d2.2.1
  rw [hn] at d4
  have may : X3_may N h 185 3 v = some 1 := by
    unfold X3_may
    rw [if_neg (by decide), if_neg (by decide), if_neg (by decide), if_pos rfl, d4, if_neg (show ¬ oI (some b) = -1 from nI_m1 (by omega))]
    rfl
  unfold X3_does
  rw [may, bd1_some, if_neg one0, if_neg (by decide), if_neg (by decide), if_neg (by decide), if_pos rfl, d1, d4, show oI (some b) = nI b from rfl, at_in d2.1.2.2.2.2.1 (by decide) (by omega), bd1_some, chGr d2 hb1, c_from d2, bd1_some, (fN_e d2.2.1 hb1).1, sq_eq, d5, nx_or, c_goOn (h := wi h 185 3 (nI (S.1 2 ||| fN D b))) (p := p) (D := D) d1 (KH_n (fun k hk => wi_k _ _ (by omega)) d2) hN hb1 (by rw [wi_j _ _ (by decide), d4]; rfl), bd1_some, sq_eq]
  refine ⟨_, rfl, ⟨d1, KH_n (fun k hk => by rw [wi_k _ _ (by omega), wi_k _ _ (by omega), wi_k _ _ (by omega), wi_k _ _ (by omega), wi_k _ _ (by omega)]) d2, d3, rfl, rfl, d6, d7, d8, d9, d10, rfl, rfl, d13, d14, ?_, d16, d17, d18, d19⟩, fun k a1 _ _ => by rw [wi_k _ _ a1, wi_k _ _ a1, wi_k _ _ a1, wi_k _ _ a1, wi_k _ _ a1], rfl⟩
  show h.1 185 14 + 1 = nI (S.1 9 + 1)
  rw [d15, nI_1]
theorem r_skip (c : RNs h q D S) (w : WS D S) (hN : 100 ≤ N) {b : Nat} (hn : nx D (S.1 1) = some b) (v : Int32) : ∃ h', X11_does N h 237 3 v = some (1, h') ∧ RNs h' q D (skS D S b) ∧ RNf h h' := by
  obtain ⟨d1, d2, d3, d4, d5, d6, d7, d8, d9, d10, d11, d12, d13, d14, d15, d16⟩ := c
  obtain ⟨n1, n2, _⟩ := nx_some hn
  have hb1 := n2.1
  have hk := hk0 d1.1
  have hnb := r_nextBar (N := N) d1 hN (by have := w.2.1; omega) d3
  rw [hn] at hnb
  unfold X11_does
  rw [if_neg (by decide), if_neg (by decide), if_neg (by decide), if_pos rfl]
  unfold X11_skips
  rw [hnb, bd1_some, show oI (some b) = nI b from rfl, if_neg (nI_m1 (by omega)), r_floorOf d1 (by omega), bd1_some]
  unfold X11_wakesFrom
  rw [sq_eq, d4, rh0 d1, (fN_e d1.1 hb1).2.1, nx_or, bd1_some, sq_eq, nI_1, bd2_some, nz_1, nz_1]
  refine ⟨_, rfl, ⟨RH_n (by rw [wi_k _ _ (by decide), wi_k _ _ (by decide)]) (fun j a1 a2 => by rw [wi_j _ _ (by omega), wi_j _ _ (by omega)]) d1, d2, rfl, rfl, d5, d6, d7, d8, d9, d10, d11, ?_, ?_, d14, d15, d16⟩, fun k a1 _ _ _ => by rw [wi_k _ _ a1, wi_k _ _ a1], rfl, rfl, rfl⟩
  · intro i h1 h2
    exact d12 i (by have : b + 1 ≤ i := h1; omega) h2
  · intro b' o hbo
    cases hbo
    exact d12 b n1 (by omega)
theorem w_skip (k : HK D) (w : WS D S) (h9 : S.1 9 < 100) {b : Nat} (hn : nx D (S.1 1) = some b) : WS D (skS D S b) := by
  have hk := hk0 k
  obtain ⟨n1, n2, _⟩ := nx_some hn
  have hb1 := n2.1
  obtain ⟨w1, w2, w3, w4, w5, w6, w7, w8, w9, w10, w11, w12, w13, w14⟩ := w
  exact ⟨w1, by show b + 1 ≤ D 1; omega, or64 w3 (fN_e k hb1).2.2, by show S.1 5 ≤ S.1 9 + 1; omega, w5, w6, by show S.1 9 + 1 ≤ 100; omega, w8, fun s hs => (by have := w9 s hs; show S.2.2.1 s ≤ S.1 9 + 1; omega), fun h => (by cases h), fun b' o hbo => (by cases hbo; exact ⟨rfl, fun s hs => (by cases hs)⟩), w12, w13, w14⟩
end DEF
