/-! ===== level 2: text ===== -/
def mixH (hF hG : HS) : HS := (fun k => if k < 171 then hF.1 k else hG.1 k, hG.2)
theorem mix_l {hF hG : HS} {k : Nat} (h : k < 171) : (mixH hF hG).1 k = hF.1 k := if_pos h
theorem mix_h {hF hG : HS} {k : Nat} (h : 171 ≤ k) : (mixH hF hG).1 k = hG.1 k := if_neg (by omega)
theorem INX_mix {h hF hG : HS} (I : INX h) (fk : ∀ k, 40 ≤ k → k < 156 → hF.1 k = h.1 k) (f7 : hF.1 167 0 = h.1 167 0) (g9 : hG.1 239 = h.1 239) (g8 : ∀ i, 934 ≤ i → hG.1 238 i = h.1 238 i) (mo : MO hF 2) (sz : SZ hF 2) (t : ∃ c, TR (mixH hF hG) 2 0 c) : INX (mixH hF hG) := by
  refine ⟨INV_now I.1 (fun k h1 h2 => by rw [mix_l (by omega)]; exact fk k h1 h2) (by rw [mix_h (by decide)]; exact g9) (by rw [mix_l (by decide)]; exact f7) (fun i hi => by rw [mix_h (by decide)]; exact g8 i hi) (MO_fr (fun k h1 h2 => mix_l (by omega)) mo) t, SZ_fr (fun k h1 h2 => mix_l (by omega)) sz, fun k hk => SZ_fr (fun j h1 h2 => by rw [mix_l (by omega)]; exact fk j (by omega) (by omega)) (I.2.2 k hk)⟩
/-- no text is kept: tape, fault and place alone are other ones -/
theorem INX_tape {h hF hG : HS} (I : INX h) (fk : ∀ k, k ≠ 2 → k < 156 → hF.1 k = h.1 k) (f7 : hF.1 167 0 = h.1 167 0) (g9 : hG.1 239 = h.1 239) (g8 : ∀ i, i ≠ 4 → i ≠ 5 → i ≠ 6 → hG.1 238 i = h.1 238 i) (e1 : hF.1 2 1 = 0) (e4 : hG.1 238 4 = 0) (e2 : hF.1 2 2 = hG.1 238 5) (e3 : hF.1 2 3 = hG.1 238 6) : INX (mixH hF hG) := by
  obtain ⟨⟨c, t⟩, i2, i3, i4, i5⟩ := I.1
  refine INX_mix I (fun k h1 h2 => fk k (by omega) h2) f7 g9 (fun i hi => g8 i (by omega) (by omega) (by omega)) (MO_fr (fun k h1 h2 => fk k (by omega) (by omega)) i3) (SZ_fr (fun k h1 h2 => fk k (by omega) (by omega)) I.2.1) ⟨c, TR_tape (fun k h1 h2 => by rw [mix_l (by omega)]; exact fk k (by omega) (by omega)) (fun s hs => by rw [mix_h (by decide)]; exact g8 _ (by omega) (by omega) (by omega)) (fun i h1 h2 => by rw [mix_h (by decide)]; exact g8 _ (by omega) (by omega) (by omega)) ⟨0, by decide, ?_, ?_, fun i hi => absurd hi (Nat.not_lt_zero _)⟩ ?_ ?_ t⟩
  · rw [mix_l (by decide)]; exact e1
  · rw [mix_h (by decide)]; exact e4
  · rw [mix_l (by decide), mix_h (by decide)]; exact e2
  · rw [mix_l (by decide), mix_h (by decide)]; exact e3
/-- a text is kept -/
theorem INX_kept {h hF hG hR : HS} {g k cg : Nat} (I : INX h) (hg : g < 3) (hk : k < 2) (hcg : h.1 4 g = nI cg) (hkc : k ≤ cg) (hc2 : cg ≤ 2) (fk : ∀ i, i ≠ 2 → i ≠ 4 → ¬ (plC g k ≤ i ∧ i < plC g k + wdC g) → i < 156 → hF.1 i = h.1 i) (f7 : hF.1 167 0 = h.1 167 0) (g9 : hG.1 239 = h.1 239)
    (g8 : ∀ i, i ≠ 4 → i ≠ 5 → i ≠ 6 → i ≠ g → ¬ (plR g k ≤ i ∧ i < plR g k + wdR g) → hG.1 238 i = h.1 238 i) (e1 : hF.1 2 1 = 0) (e4 : hG.1 238 4 = 0) (e2 : hF.1 2 2 = hG.1 238 5) (e3 : hF.1 2 3 = hG.1 238 6)
    (f4 : hF.1 4 g = nI (if cg < k + 1 then k + 1 else cg)) (f4' : ∀ j, j ≠ g → hF.1 4 j = h.1 4 j) (gg : hG.1 238 g = nI (if cg < k + 1 then k + 1 else cg)) (mo : MO hF 2) (sz : SZ hF 2) (K : KpT hF hR g k) (gr : ∀ j, j < wdR g → hG.1 238 (plR g k + j) = hR.1 240 j) : INX (mixH hF hG) := by
  obtain ⟨⟨c, t⟩, i2, i3, i4, i5⟩ := I.1
  obtain ⟨t1, t2, t3, t4, t5, t6, t7⟩ := t
  have pb := plR_b hg hk
  have ecg : c g = cg := by
    have := (t4 g hg).2.1
    rw [show h.1 (2 + 2) g = nI cg from hcg, nI_eq (by omega) (by have := (t4 g hg).1; omega)] at this
    exact this.symm
  have pc : 6 ≤ plC g k ∧ plC g k + wdC g ≤ 40 := by
    unfold wdC plC
    match g, hg with
    | 0, _ => rw [if_pos rfl, if_pos rfl]; omega
    | 1, _ => rw [if_neg (by decide), if_pos rfl, if_neg (by decide)]; omega
    | 2, _ => rw [if_neg (by decide), if_neg (by decide), if_neg (by decide)]; omega
  refine INX_mix I (fun i h1 h2 => fk i (by omega) (by omega) (by omega) h2) f7 g9 (fun i hi => g8 i (by omega) (by omega) (by omega) (by omega) (by omega)) mo sz ⟨fun j => if j = g then (if cg < k + 1 then k + 1 else cg) else c j, ?_⟩
  have lim : (if cg < k + 1 then k + 1 else cg) ≤ 2 := by
    by_cases y : cg < k + 1
    · rw [if_pos y]; omega
    · rw [if_neg y]; omega
  have lt : ∀ j, j < (if cg < k + 1 then k + 1 else cg) → j ≠ k → j < cg := by
    intro j h1 h2
    by_cases y : cg < k + 1
    · rw [if_pos y] at h1; omega
    · rw [if_neg y] at h1; exact h1
  refine ⟨⟨0, by decide, by rw [mix_l (by decide)]; exact e1, by rw [mix_h (by decide)]; exact e4, fun i hi => absurd hi (Nat.not_lt_zero _)⟩, by rw [mix_l (by decide), mix_h (by decide)]; exact e2, by rw [mix_l (by decide), mix_h (by decide)]; exact e3, ?_, ?_, ?_, ?_⟩
  · intro s hs
    dsimp only
    rw [mix_l (by decide), mix_h (by decide), Nat.zero_add]
    by_cases y : s = g
    · subst y
      rw [if_pos rfl]
      exact ⟨lim, f4, gg⟩
    · rw [if_neg y, show hF.1 (2 + 2) s = h.1 4 s from f4' s y, g8 s (by omega) (by omega) (by omega) y (by omega)]
      have := t4 s hs
      rw [Nat.zero_add] at this
      exact this
  · intro j hj
    dsimp only at hj
    have oldH : j < c 0 → ¬ (g = 0 ∧ j = k) → ∃ D, KH (mixH hF hG) (2 + 4 + 10 * j) D ∧ ∀ i, i < 64 → (mixH hF hG).1 238 (0 + 610 + 64 * j + i) = nI (D i) := by
      intro hj hn
      obtain ⟨D, a, b⟩ := t5 j hj
      have hj2 := (t4 0 (by decide)).1
      have dj : ¬ (g = 0 ∧ j = k) → ∀ i, 2 + 4 + 10 * j ≤ i → i < 2 + 4 + 10 * j + 10 → ¬ (plC g k ≤ i ∧ i < plC g k + wdC g) := by
        intro n i h1 h2 h3
        unfold plC wdC at h3
        by_cases y : g = 0
        · rw [if_pos y, if_pos y] at h3; omega
        · rw [if_neg y, if_neg y] at h3
          by_cases w : g = 1
          · rw [if_pos w] at h3; omega
          · rw [if_neg w] at h3; omega
      refine ⟨D, KH_fr (fun i h1 h2 => by rw [mix_l (by omega)]; exact fk i (by omega) (by omega) (dj hn i h1 h2) (by omega)) a, fun i hi => ?_⟩
      rw [mix_h (by decide), g8 _ (by omega) (by omega) (by omega) (by omega) (by
        intro h3
        unfold plR wdR at h3
        by_cases y : g = 0
        · rw [if_pos y, if_pos y] at h3; omega
        · rw [if_neg y, if_neg y] at h3
          by_cases w : g = 1
          · rw [if_pos w, if_pos w] at h3; omega
          · rw [if_neg w, if_neg w] at h3; omega)]
      exact b i hi
    by_cases y : g = 0
    · subst y
      rw [if_pos rfl] at hj
      by_cases w : j = k
      · subst w
        unfold KpT at K
        rw [if_pos rfl] at K
        obtain ⟨D, K1, K2⟩ := K
        refine ⟨D, KH_fr (fun i h1 h2 => mix_l (by omega)) K1, fun i hi => ?_⟩
        have := gr i hi
        unfold plR at this
        rw [if_pos rfl] at this
        rw [mix_h (by decide), Nat.zero_add, this]
        exact K2 i (by omega)
      · exact oldH (by rw [ecg]; exact lt j hj w) (fun u => w u.2)
    · rw [if_neg (fun u => y u.symm)] at hj
      exact oldH hj (fun u => y u.1)
  · intro j hj
    dsimp only at hj
    have oldN : j < c 1 → ¬ (g = 1 ∧ j = k) → ∃ m K V, CR (mixH hF hG) (2 + 25 + 3 * j) 40 5 m K V ∧ RR (mixH hF hG) (0 + 738 + 81 * j) m K V := by
      intro hj hn
      obtain ⟨m, K', V, a, b⟩ := t6 j hj
      have hj2 := (t4 1 (by decide)).1
      have hm := a.1
      have dj : ∀ i, 2 + 25 + 3 * j ≤ i → i < 2 + 25 + 3 * j + 3 → ¬ (plC g k ≤ i ∧ i < plC g k + wdC g) := by
        intro i h1 h2 h3
        unfold plC wdC at h3
        by_cases y : g = 0
        · rw [if_pos y, if_pos y] at h3; omega
        · rw [if_neg y, if_neg y] at h3
          by_cases w : g = 1
          · rw [if_pos w] at h3; omega
          · rw [if_neg w] at h3; omega
      refine ⟨m, K', V, CR_fr (fun i h1 h2 => by rw [mix_l (by omega)]; exact fk i (by omega) (by omega) (dj i h1 h2) (by omega)) a, RR_fr (fun i h1 h2 => ?_) b⟩
      rw [mix_h (by decide), g8 _ (by omega) (by omega) (by omega) (by omega) (by
        intro h3
        unfold plR wdR at h3
        by_cases y : g = 0
        · rw [if_pos y, if_pos y] at h3; omega
        · rw [if_neg y, if_neg y] at h3
          by_cases w : g = 1
          · rw [if_pos w, if_pos w] at h3; omega
          · rw [if_neg w, if_neg w] at h3; omega)]
    by_cases y : g = 1
    · subst y
      rw [if_pos rfl] at hj
      by_cases w : j = k
      · subst w
        unfold KpT at K
        rw [if_neg (by decide), if_pos rfl] at K
        obtain ⟨m, K', V, K1, K2, K3, K4⟩ := K
        have gr' : ∀ i, i < 81 → hG.1 238 (738 + 81 * j + i) = hR.1 240 i := fun i hi => gr i hi
        refine ⟨m, K', V, CR_fr (fun i h1 h2 => mix_l (by omega)) K1, ?_, fun i hi => ?_⟩
        · rw [mix_h (by decide), Nat.zero_add, show 738 + 81 * j = 738 + 81 * j + 0 from rfl, gr' 0 (by decide)]; exact K3
        · rw [mix_h (by decide), Nat.zero_add, show 738 + 81 * j + 1 + 2 * i = 738 + 81 * j + (1 + 2 * i) by omega, show 738 + 81 * j + 2 + 2 * i = 738 + 81 * j + (2 + 2 * i) by omega, gr' _ (by omega), gr' _ (by omega)]
          exact K4 i hi
      · exact oldN (by rw [ecg]; exact lt j hj w) (fun u => w u.2)
    · rw [if_neg (fun u => y u.symm)] at hj
      exact oldN hj (fun u => y u.1)
  · intro j hj
    dsimp only at hj
    have oldM : j < c 2 → ¬ (g = 2 ∧ j = k) → ∃ m K V, CR (mixH hF hG) (2 + 32 + 3 * j) 8 2 m K V ∧ RR (mixH hF hG) (0 + 900 + 17 * j) m K V := by
      intro hj hn
      obtain ⟨m, K', V, a, b⟩ := t7 j hj
      have hj2 := (t4 2 (by decide)).1
      have hm := a.1
      have dj : ∀ i, 2 + 32 + 3 * j ≤ i → i < 2 + 32 + 3 * j + 3 → ¬ (plC g k ≤ i ∧ i < plC g k + wdC g) := by
        intro i h1 h2 h3
        unfold plC wdC at h3
        by_cases y : g = 0
        · rw [if_pos y, if_pos y] at h3; omega
        · rw [if_neg y, if_neg y] at h3
          by_cases w : g = 1
          · rw [if_pos w] at h3; omega
          · rw [if_neg w] at h3; omega
      refine ⟨m, K', V, CR_fr (fun i h1 h2 => by rw [mix_l (by omega)]; exact fk i (by omega) (by omega) (dj i h1 h2) (by omega)) a, RR_fr (fun i h1 h2 => ?_) b⟩
      rw [mix_h (by decide), g8 _ (by omega) (by omega) (by omega) (by omega) (by
        intro h3
        unfold plR wdR at h3
        by_cases y : g = 0
        · rw [if_pos y, if_pos y] at h3; omega
        · rw [if_neg y, if_neg y] at h3
          by_cases w : g = 1
          · rw [if_pos w, if_pos w] at h3; omega
          · rw [if_neg w, if_neg w] at h3; omega)]
    by_cases y : g = 2
    · subst y
      rw [if_pos rfl] at hj
      by_cases w : j = k
      · subst w
        unfold KpT at K
        rw [if_neg (by decide), if_neg (by decide)] at K
        obtain ⟨m, K', V, K1, K2, K3, K4⟩ := K
        have gr' : ∀ i, i < 17 → hG.1 238 (900 + 17 * j + i) = hR.1 240 i := fun i hi => gr i hi
        refine ⟨m, K', V, CR_fr (fun i h1 h2 => mix_l (by omega)) K1, ?_, fun i hi => ?_⟩
        · rw [mix_h (by decide), Nat.zero_add, show 900 + 17 * j = 900 + 17 * j + 0 from rfl, gr' 0 (by decide)]; exact K3
        · rw [mix_h (by decide), Nat.zero_add, show 900 + 17 * j + 1 + 2 * i = 900 + 17 * j + (1 + 2 * i) by omega, show 900 + 17 * j + 2 + 2 * i = 900 + 17 * j + (2 + 2 * i) by omega, gr' _ (by omega), gr' _ (by omega)]
          exact K4 i hi
      · exact oldM (by rw [ecg]; exact lt j hj w) (fun u => w u.2)
    · rw [if_neg (fun u => y u.symm)] at hj
      exact oldM hj (fun u => y u.1)
/-- both sides take a text with a number -/
theorem q_textG {N : Nat} {h hq : HS} (I : INX h) (hN : 1000000000 ≤ N) (e8 : hq.1 238 = h.1 238) (e9 : hq.1 239 = h.1 239) {z g k cg : Nat} {b : Int32} {h3 q9 : HS} (hg : g < 3) (hk : k < 2) (hcg : h.1 4 g = nI cg) (hcr : h.1 238 g = nI cg) (hc2 : cg ≤ 2) (nb : (b = -1 ∧ k = cg) ∨ (b = nI k ∧ k < cg)) (hz : z ≤ 600) (hb : ∀ i, i < z → (h.1 3 i) &&& 255 = h.1 238 (10 + i))
    (c1 : h3.1 2 1 = 0) (ck : ∀ i, i ≠ 2 → h3.1 i = h.1 i) (q2 : q9.1 237 2 = nI z) (q3 : q9.1 237 3 = 0) (q8 : q9.1 237 8 = 0) (qa : q9.1 237 9 = -1) (qb : q9.1 237 10 = -1) (q4 : q9.1 238 4 = 0) (q5 : q9.1 238 5 = 0) (q6 : q9.1 238 6 = -1) (qk : ∀ i, i ≠ 4 → i ≠ 5 → i ≠ 6 → q9.1 238 i = hq.1 238 i) (qr : ∀ i, i ≠ 237 → i ≠ 238 → q9.1 i = hq.1 i) :
    ∃ r hF hG, (bd1 (X4_read N h3 156 3 (nI z) (nI g)) fun h10 => sq (wi h10 2 2 (h10.1 156 2)) fun h11 => sq (wi h11 2 3 (h11.1 156 3)) fun h12 => (if (h12.1 156 2) = 0 then bd1 (X7_keep N h12 2 (nI g) (nI k) 157 167) fun h16 => some (nI k, h16) else some ((-1), h12))) = some (r, hF) ∧ X11_text_l93 N N q9 237 (nI g) b 0 = some (r, hG) ∧ hF.1 238 = h.1 238 ∧ hF.1 239 = h.1 239 ∧ (∀ k, k < 171 → hG.1 k = hq.1 k) ∧ INX (mixH hF hG) := by
  obtain ⟨⟨c, t⟩, i2, i3, i4, i5⟩ := id I.1
  obtain ⟨hc, hr, a1, a2, a3, a4, a5⟩ := rd_all (N := N) (t := fun i => byN (h.1 3 i)) (z := z) (h := h3) (hq := q9) (g := g) (by omega) hg b hz (fun i => byN_lt _) (fun i hi => by rw [ck 3 (by decide)]; exact byN_e _) (by rw [ck 167 (by decide)]; exact i5) q2 q3 q8 qa qb q5 q6 (fun i hi => by rw [qk _ (by omega) (by omega) (by omega), e8, ← hb i hi]; exact byN_e _)
  have hcl : ∀ i, i ≠ 2 → (i < 156 ∨ 171 ≤ i) → hc.1 i = h.1 i := fun i h1 h2 => by rw [a3.1 i h2, ck i h1]
  rcases rd_end (N := N) (by omega) hg b a5 with ⟨hC, hR, d1, d2, d3, d4, d5, d6, d7⟩ | ⟨d1, d2, d3, d4, d5, d6, d7⟩
  · refine ⟨-1, wi (wi hC 2 2 (hC.1 156 2)) 2 3 (hC.1 156 3), hR, ?_, ?_, ?_, ?_, ?_, ?_⟩
    · rw [a1, d1, bd1_some, sq_eq, sq_eq, show (wi hC 2 2 (hC.1 156 2)).1 156 3 = hC.1 156 3 by rw [wi_k _ _ (by decide)], show (wi (wi hC 2 2 (hC.1 156 2)) 2 3 (hC.1 156 3)).1 156 2 = hC.1 156 2 by rw [wi_k _ _ (by decide), wi_k _ _ (by decide)], if_neg d5]
    · rw [a2, d2]
    · rw [wi_k _ _ (by decide), wi_k _ _ (by decide), d3.1 238 (by decide), hcl 238 (by decide) (by decide)]
    · rw [wi_k _ _ (by decide), wi_k _ _ (by decide), d3.1 239 (by decide), hcl 239 (by decide) (by decide)]
    · intro i hi; rw [d4.1 i (by omega) (by omega) (by omega), a4.1 i (by omega) (by omega) (by omega), qr i (by omega) (by omega)]
    · refine INX_tape I (fun i h1 h2 => by rw [wi_k _ _ h1, wi_k _ _ h1, d3.1 i (by omega), hcl i h1 (by omega)]) (by rw [wi_k _ _ (by decide), wi_k _ _ (by decide), d3.2, a3.2, ck 167 (by decide)]) (by rw [d4.1 239 (by decide) (by decide) (by decide), a4.1 239 (by decide) (by decide) (by decide), qr 239 (by decide) (by decide), e9]) (fun i h1 h2 h3 => by rw [d4.2 i h2 h3, a4.2 i h2 h3, qk i h1 h2 h3, e8]) ?_ ?_ ?_ ?_
      · rw [wi_j _ _ (by decide), wi_j _ _ (by decide), d3.1 2 (by decide), a3.1 2 (by decide)]; exact c1
      · rw [d4.2 4 (by decide) (by decide), a4.2 4 (by decide) (by decide)]; exact q4
      · rw [wi_j _ _ (by decide), wi_s]; exact d6
      · rw [wi_s]; exact d7
  · have hkc : k ≤ cg := by omega
    generalize hg12 : wi (wi hc 2 2 (hc.1 156 2)) 2 3 (hc.1 156 3) = h12
    have k12 : ∀ i, i ≠ 2 → h12.1 i = hc.1 i := fun i h1 => by rw [← hg12, wi_k _ _ h1, wi_k _ _ h1]
    have n12 : h12.1 2 1 = 0 ∧ h12.1 2 2 = 0 ∧ h12.1 2 3 = -1 := by
      rw [← hg12]
      refine ⟨?_, ?_, ?_⟩
      · rw [wi_j _ _ (by decide), wi_j _ _ (by decide), a3.1 2 (by decide)]; exact c1
      · rw [wi_j _ _ (by decide), wi_s]; exact d3
      · rw [wi_s]; exact d4
    have KD : KpD h12 hr g := by
      unfold KpD at d7 ⊢
      by_cases y : g = 0
      · rw [if_pos y] at d7 ⊢
        obtain ⟨D, x1, x2, x3⟩ := d7
        exact ⟨D, CHD_n x1 (fun j h1 h2 => k12 j (by omega)), x2, x3⟩
      · rw [if_neg y] at d7 ⊢
        obtain ⟨m, K, V, x1, x2, x3⟩ := d7
        refine ⟨m, K, V, ⟨⟨x1.1.1, by rw [k12 167 (by decide)]; exact x1.1.2.1, by rw [k12 167 (by decide)]; exact x1.1.2.2⟩, fun i hi => by rw [k12 168 (by decide), k12 169 (by decide)]; exact x1.2 i hi⟩, x2, x3⟩
    have mo12 : MO h12 2 := MO_fr (fun i h1 h2 => by rw [k12 i (by omega), hcl i (by omega) (by omega)]) i3
    have sz12 : SZ h12 2 := SZ_fr (fun i h1 h2 => by rw [k12 i (by omega), hcl i (by omega) (by omega)]) I.2.1
    obtain ⟨h16, f1, f2, f3, f4, f5, f6, f7⟩ := c_keepT (N := N) (h := h12) (hr := hr) (g := g) (k := k) (c := cg) (by omega) hg hk hc2 (by rw [k12 4 (by decide), hcl 4 (by decide) (by decide)]; exact hcg) mo12 KD
    obtain ⟨hG, g1, g2, g3, g4, g5⟩ := r_keepT (N := N) (h := hr) (g := g) (k := k) (c := cg) (b := b) (by omega) hg hk hc2 (by rw [a4.2 g (by omega) (by omega), qk g (by omega) (by omega) (by omega), e8]; exact hcr) d5 nb
    have pb := plR_b hg hk
    have pc : 6 ≤ plC g k ∧ plC g k + wdC g ≤ 40 := by
      unfold wdC plC
      match g, hg with
      | 0, _ => rw [if_pos rfl, if_pos rfl]; omega
      | 1, _ => rw [if_neg (by decide), if_pos rfl, if_neg (by decide)]; omega
      | 2, _ => rw [if_neg (by decide), if_neg (by decide), if_neg (by decide)]; omega
    refine ⟨nI k, h16, hG, ?_, ?_, ?_, ?_, ?_, ?_⟩
    · rw [a1, d1, bd1_some, sq_eq, sq_eq, show (wi hc 2 2 (hc.1 156 2)).1 156 3 = hc.1 156 3 by rw [wi_k _ _ (by decide)], hg12, show h12.1 156 2 = 0 by rw [k12 156 (by decide)]; exact d3, if_pos rfl, f1, bd1_some]
    · rw [a2, d2, g1]
    · rw [f4 238 (by decide) (by omega), k12 238 (by decide), hcl 238 (by decide) (by decide)]
    · rw [f4 239 (by decide) (by omega), k12 239 (by decide), hcl 239 (by decide) (by decide)]
    · intro i hi; rw [g5 i (by omega), a4.1 i (by omega) (by omega) (by omega), qr i (by omega) (by omega)]
    · have szF : SZ h16 2 := by
        have one : ∀ p M, (p = 27 ∨ p = 30 ∨ p = 34 ∨ p = 37) → (if p < 34 then 40 else 8) = M → SZr h12 p M → SZr h16 p M := by
          intro p M hp hM s
          rcases f7 p hp with w | ⟨m, w1, w2⟩
          · unfold SZr; rw [w]; exact s
          · exact ⟨m, by rw [← hM]; exact w1, w2⟩
        exact ⟨one 27 40 (by decide) rfl sz12.1, one 30 40 (by decide) rfl sz12.2.1, one 34 8 (by decide) rfl sz12.2.2.1, one 37 8 (by decide) rfl sz12.2.2.2⟩
      refine INX_kept (hR := hr) I hg hk hcg hkc hc2 (fun i h1 h2 h3 h4 => by rw [f4 i h2 h3, k12 i h1, hcl i h1 (Or.inl h4)]) (by rw [f4 167 (by decide) (by omega), k12 167 (by decide), a3.2, ck 167 (by decide)]) (by rw [g5 239 (by decide), a4.1 239 (by decide) (by decide) (by decide), qr 239 (by decide) (by decide), e9]) (fun i h1 h2 h3 h4 h5 => by rw [g4 i h4 h5, a4.2 i h2 h3, qk i h1 h2 h3, e8]) ?_ ?_ ?_ ?_ f2 (fun j hj => by rw [f3 j hj, k12 4 (by decide), hcl 4 (by decide) (by decide)]) g2 f5 szF f6 g3
      · rw [f4 2 (by decide) (by omega)]; exact n12.1
      · rw [g4 4 (by omega) (by omega), a4.2 4 (by decide) (by decide)]; exact q4
      · rw [f4 2 (by decide) (by omega), g4 5 (by omega) (by omega), d5]; exact n12.2.1
      · rw [f4 2 (by decide) (by omega), g4 6 (by omega) (by omega), d6]; exact n12.2.2
