/-! ===== level 2: text: what was read is kept ===== -/
def CF2 (h h' : HS) : Prop := (∀ k, k < 156 ∨ 171 ≤ k → h'.1 k = h.1 k) ∧ h'.1 167 0 = h.1 167 0
def RF2 (h h' : HS) : Prop := (∀ k, k ≠ 237 → k ≠ 238 → k ≠ 240 → h'.1 k = h.1 k) ∧ (∀ i, i ≠ 5 → i ≠ 6 → h'.1 238 i = h.1 238 i)
section TKP
variable {N : Nat} {t : Nat → Nat} {z : Nat}
theorem rd_all (hN : 2000 ≤ N) {h hq : HS} {g : Nat} (hg : g < 3) (b : Int32) (hz : z ≤ 600) (ht : ∀ i, t i < 256) (hb : ∀ i, i < z → (h.1 3 i) &&& 255 = nI (t i)) (h40 : h.1 167 0 = 40)
    (e2 : hq.1 237 2 = nI z) (e3 : hq.1 237 3 = 0) (e8 : hq.1 237 8 = 0) (e9 : hq.1 237 9 = -1) (e10 : hq.1 237 10 = -1) (f5 : hq.1 238 5 = 0) (f6 : hq.1 238 6 = -1) (hb2 : ∀ i, i < z → hq.1 238 (10 + i) = nI (t i)) :
    ∃ hc' hr', X4_read N h 156 3 (nI z) (nI g) = finC N hc' ∧ X11_text_l93 N N hq 237 (nI g) b 0 = X11_text_b189 N hr' 237 (nI g) b ∧ CF2 h hc' ∧ RF2 hq hr' ∧ ((∃ y, CBr hc' y ∧ RSb hr' y) ∨ ∃ x', Sm hc' hr' t z g z x') := by
  obtain ⟨hc, a1, a2, a3, a4, a5, a6⟩ := c_tbegin (N := N) (h := h) (g := g) hN hz ht hb h40
  obtain ⟨hr, b1, b2, b3, b4, b5, b6, b7⟩ := r_begin (N := N) (h := hq) hN hg b hz ht e2 e3 e8 e9 e10 f5 f6 hb2
  have sk := skp_in (t := t) (z := z) (p := 0) (Nat.zero_le _)
  have S := sm_begin hg a2 a3 a4 b2 b3 b4 b5
  obtain ⟨hc', hr', d1, d2, d3, d4, d5⟩ := all_lines (N := N) hN hg b (z + 1) (skp t z 0) 0 N N (0, -1) hc hr (by omega) S (by omega) (by omega) (by omega)
  refine ⟨hc', hr', by rw [a1]; exact d1, by rw [b1]; exact d2, ⟨fun k hk => by rw [d3.1 k hk, a5 k hk], by rw [d3.2.2, a6]⟩, ⟨fun k h1 h2 h3 => by rw [d4.1 k h1 h2 h3, b6 k h1 h3], fun i h1 h2 => by rw [d4.2.2.2 i h1 h2, b6 238 (by decide) (by decide)]⟩, d5⟩
def KpD (hc hr : HS) (g : Nat) : Prop := if g = 0 then ∃ D, CHD hc D ∧ RHv hr D ∧ HK D else ∃ m K V, CRD hc m K V ∧ RRD hr g m K V ∧ RKx g m K V
theorem b237_f {h : HS} {g : Nat} {b : Int32} (h5 : ¬ h.1 238 5 = 0) : X11_text_b237 N h 237 (nI g) b = some (-1, h) := by
  unfold X11_text_b237
  rw [if_neg (by decide), if_neg (show ¬ h.1 (237 + 1) (5 : Int32).toNatClampNeg = 0 from h5)]
theorem b189_f {h : HS} {g : Nat} {b : Int32} (h5 : ¬ h.1 238 5 = 0) : X11_text_b189 N h 237 (nI g) b = some (-1, h) := by
  unfold X11_text_b189
  by_cases y : nI g = 0
  · rw [if_pos y, if_neg (by decide), if_neg (show ¬ h.1 (237 + 1) (5 : Int32).toNatClampNeg = 0 from h5), b237_f h5]
  · rw [if_neg y, b237_f h5]
theorem rd_end (hN : 2000 ≤ N) {hc hr : HS} {g : Nat} (hg : g < 3) (b : Int32) (o : (∃ y, CBr hc y ∧ RSb hr y) ∨ ∃ x', Sm hc hr t z g z x') :
    (∃ hC hR, finC N hc = some hC ∧ X11_text_b189 N hr 237 (nI g) b = some (-1, hR) ∧ CF2 hc hC ∧ RF2 hr hR ∧ ¬ hC.1 156 2 = 0 ∧ hC.1 156 2 = hR.1 238 5 ∧ hC.1 156 3 = hR.1 238 6) ∨
    (finC N hc = some hc ∧ X11_text_b189 N hr 237 (nI g) b = X11_text_b237 N hr 237 (nI g) b ∧ hc.1 156 2 = 0 ∧ hc.1 156 3 = -1 ∧ hr.1 238 5 = 0 ∧ hr.1 238 6 = -1 ∧ KpD hc hr g) := by
  rcases o with ⟨y, c, r⟩ | ⟨x, S⟩
  · left
    refine ⟨hc, hr, ?_, b189_f (by rw [r.2.1]; exact one0), ⟨fun _ _ => rfl, rfl⟩, ⟨fun _ _ _ _ => rfl, fun _ _ _ => rfl⟩, by rw [c.1]; exact one0, by rw [c.1, r.2.1], by rw [c.2, r.2.2]⟩
    unfold finC
    rw [c.1, if_neg one0]
  · obtain ⟨S1, S2⟩ := Sm_c S
    have x3 := S1.2.2.2
    by_cases y : x.1 = 0
    · have x2 : x.2 = -1 := by
        rcases S2.2.2.2.2 with w | ⟨w, _⟩
        · exact w.2
        · omega
      have c2 : hc.1 156 2 = 0 := by rw [S1.2.1, y]; rfl
      have c3 : hc.1 156 3 = -1 := by rw [S1.2.2.1, x2]
      have r5 : hr.1 238 5 = 0 := by rw [S2.2.2.1, y]; rfl
      have r6 : hr.1 238 6 = -1 := by rw [S2.2.2.2.1, x2]
      unfold Sm at S
      by_cases w : g = 0
      · subst w
        rw [if_pos rfl] at S
        obtain ⟨Dc, Dr, H1, H2, H3, H4, H5⟩ := S
        obtain ⟨ed, f, fb, l⟩ := H5 y
        subst ed
        have hw := c_isWhole (N := N) hN H2 (fun b hb => by have := (H4.2.2.2.2.2.2.2.1 b hb).2.2.2.1; omega)
        have far := far_w H4.2 f fb
        have e0 : hr.1 (237 + 3) (0 : Int32).toNatClampNeg = nI (Dc 0) := H4.1 0 (by decide)
        have e1 : hr.1 (237 + 3) (1 : Int32).toNatClampNeg = nI (Dc 1) := H4.1 1 (by decide)
        by_cases v : whl Dc = true
        · right
          have nf : ¬ (nI (Dc 0) ≤ hr.1 237 9 ∨ ¬ hr.1 237 10 < nI (Dc 1)) := fun u => far.mp u v
          refine ⟨?_, ?_, c2, c3, r5, r6, ?_⟩
          · unfold finC
            rw [if_pos c2, hw, bd1_some, nB_t v, if_neg one0]
          · unfold X11_text_b189
            rw [if_pos (show nI 0 = 0 from rfl), if_neg (by decide), if_pos (show hr.1 (237 + 1) (5 : Int32).toNatClampNeg = 0 from r5), if_neg (by decide), e0, if_neg (fun u => nf (Or.inl u)), if_neg (by decide), e1, if_pos (Classical.byContradiction (fun u => nf (Or.inr u)))]
          · unfold KpD
            rw [if_pos rfl]
            obtain ⟨k0, k1, k2, k3, k4, kF, kB, kS⟩ := H4.2
            have vv := whl_iff.mp v
            refine ⟨Dc, H2, H4.1, k0, k1, k2, k3, vv.2, kF, fun b hb => ?_, fun s hs => ?_⟩
            · have := kB b hb; have := vv.1 b hb; omega
            · have := kS s hs; have := l s hs; omega
        · left
          have fr := far.mpr v
          have hz := S2.1.1.1
          obtain ⟨hR, d1, d2, d3, d4⟩ := r_also (N := N) (h := hr) (p := z) (kind := 4) (x := x) (by decide) (by omega) S2.2.1 S2.2.2.1 S2.2.2.2.1 (Or.inl y)
          have eb : blm x false 4 z = (4, nI z) := if_neg (by simp [y])
          rw [eb] at d2 d3
          have n5 : ¬ hR.1 238 5 = 0 := by rw [d2]; exact (show ¬ nI 4 = 0 by decide)
          have al : X11_also N hr 237 4 (hr.1 237 4) = some hR := by rw [S2.1.2.2.1]; exact d1
          refine ⟨wi (wi hc 156 2 4) 156 3 (nI z), hR, ?_, ?_, ⟨fun k hk => by rw [wi_k _ _ (by omega), wi_k _ _ (by omega)], rfl⟩, ⟨fun k h1 h2 h3 => d4.1 k h2, d4.2.2⟩, ?_, ?_, ?_⟩
          · unfold finC
            rw [if_pos c2, hw, bd1_some, nB_f v, if_pos rfl]
            unfold X4_blame
            rw [if_pos c2, sq_eq, sq_eq, bd1_some, S1.1.1.2.2.2.1]
          · unfold X11_text_b189
            rw [if_pos (show nI 0 = 0 from rfl), if_neg (by decide), if_pos (show hr.1 (237 + 1) (5 : Int32).toNatClampNeg = 0 from r5), if_neg (by decide), e0]
            by_cases u : nI (Dc 0) ≤ hr.1 237 9
            · rw [if_pos u, al, bd1_some]
              exact b237_f (g := 0) n5
            · rw [if_neg u, if_neg (by decide), e1, if_neg (fun q => by rcases fr with a | a; exact u a; exact a q), al, bd1_some]
              exact b237_f (g := 0) n5
          · rw [wi_j _ _ (by decide), wi_s]; decide
          · rw [wi_j _ _ (by decide), wi_s, d2]; rfl
          · rw [wi_s, d3]
      · rw [if_neg w] at S
        obtain ⟨H1, H2, H3, mc, mr, H4, H5, H6⟩ := S
        obtain ⟨em, K, V, d1, d2, d3⟩ := H6 y
        subst em
        right
        refine ⟨?_, ?_, c2, c3, r5, r6, ?_⟩
        · unfold finC
          rw [if_pos c2, c_whole0 hN H3.1 H3.2, bd1_some, if_neg one0]
        · unfold X11_text_b189
          rw [if_neg (nI_ne0 (by omega) (by omega))]
        · unfold KpD
          rw [if_neg w]
          exact ⟨mc, K, V, d1, d2, d3⟩
    · left
      have n5 : ¬ hr.1 238 5 = 0 := by rw [S2.2.2.1]; exact nI_ne0 (by omega) (by omega)
      have n2 : ¬ hc.1 156 2 = 0 := by rw [S1.2.1]; exact nI_ne0 (by omega) (by omega)
      refine ⟨hc, hr, ?_, b189_f n5, ⟨fun _ _ => rfl, rfl⟩, ⟨fun _ _ _ _ => rfl, fun _ _ _ => rfl⟩, n2, by rw [S1.2.1, S2.2.2.1], by rw [S1.2.2.1, S2.2.2.2.1]⟩
      unfold finC
      rw [if_neg n2]
/-! places -/
def plC (g k : Nat) : Nat := if g = 0 then 6 + 10 * k else if g = 1 then 27 + 3 * k else 34 + 3 * k
def wdC (g : Nat) : Nat := if g = 0 then 10 else 3
def plR (g k : Nat) : Nat := if g = 0 then 610 + 64 * k else if g = 1 then 738 + 81 * k else 900 + 17 * k
def wdR (g : Nat) : Nat := if g = 0 then 64 else if g = 1 then 81 else 17
theorem ra2 : ∀ k, k < 2 → ra 5 k = 6 + 10 * k ∧ ra 26 k = 27 + 3 * k ∧ ra 33 k = 34 + 3 * k ∧ ln (27 + 3 * k + 1) = 40 ∧ ln (27 + 3 * k + 2) = 40 ∧ ln (34 + 3 * k + 1) = 8 ∧ ln (34 + 3 * k + 2) = 8 ∧ ln (6 + 10 * k + 1) = 6 ∧ ln (6 + 10 * k + 2) = 6 ∧ ln (6 + 10 * k + 3) = 8 ∧ ln (6 + 10 * k + 4) = 8 ∧ ln (6 + 10 * k + 5) = 8 ∧ ln (6 + 10 * k + 6) = 8 ∧ ln (6 + 10 * k + 7) = 5 ∧ ln (6 + 10 * k + 8) = 5 ∧ ln (6 + 10 * k + 9) = 5 := by decide +kernel
def KpT (hF hR : HS) (g k : Nat) : Prop := if g = 0 then ∃ D, KH hF (6 + 10 * k) D ∧ RHv hR D else if g = 1 then ∃ m K V, CR hF (27 + 3 * k) 40 5 m K V ∧ m ≤ 40 ∧ hR.1 240 0 = nI m ∧ ∀ i, i < m → hR.1 240 (1 + 2 * i) = nI (K i) ∧ hR.1 240 (2 + 2 * i) = V i else ∃ m K V, CR hF (34 + 3 * k) 8 2 m K V ∧ m ≤ 8 ∧ hR.1 240 0 = nI m ∧ ∀ i, i < m → hR.1 240 (1 + 2 * i) = nI (K i) ∧ hR.1 240 (2 + 2 * i) = V i
theorem c_keepT (hN : 2000 ≤ N) {h hr : HS} {g k c : Nat} (hg : g < 3) (hk : k < 2) (hc : c ≤ 2) (ec : h.1 4 g = nI c) (mo : MO h 2) (K : KpD h hr g) : ∃ h', X7_keep N h 2 (nI g) (nI k) 157 167 = some h' ∧ h'.1 4 g = nI (if c < k + 1 then k + 1 else c) ∧ (∀ j, j ≠ g → h'.1 4 j = h.1 4 j) ∧ (∀ i, i ≠ 4 → ¬ (plC g k ≤ i ∧ i < plC g k + wdC g) → h'.1 i = h.1 i) ∧ MO h' 2 ∧ KpT h' hr g k ∧ (∀ p, (p = 27 ∨ p = 30 ∨ p = 34 ∨ p = 37) → h'.1 p 3 = h.1 p 3 ∨ ∃ m, m ≤ (if p < 34 then 40 else 8) ∧ h'.1 p 3 = nI m) := by
  obtain ⟨q1, q2, q3, l1, l2, l3, l4, l5⟩ := ra2 k hk
  have tail : ∀ h2 : HS, h2.1 4 = h.1 4 → (if nI g < 0 ∨ 3 ≤ (nI g).toNatClampNeg then none else (if nI g < 0 ∨ 3 ≤ (nI g).toNatClampNeg then none else sq (wi h2 (2 + 2) (nI g).toNatClampNeg (if (h2.1 (2 + 2) (nI g).toNatClampNeg) < (nI k + 1) then (nI k + 1) else (h2.1 (2 + 2) (nI g).toNatClampNeg))) fun h30 => some h30)) = some (wi h2 4 g (nI (if c < k + 1 then k + 1 else c))) := by
    intro h2 e4
    rw [if_neg (nI_in (by omega) (by decide)), if_neg (nI_in (by omega) (by decide)), sq_eq, nI_clamp (by omega), nI_1, show h2.1 (2 + 2) g = nI c by rw [show (2 + 2 : Nat) = 4 from rfl, e4]; exact ec]
    by_cases y : c < k + 1
    · rw [if_pos (nI_lt y (by omega)), if_pos y]
    · rw [if_neg (nI_nlt (by omega) (by omega)), if_neg y]
  unfold X7_keep
  rw [if_neg (nI_pos (by omega)), if_neg (show ¬ (3 : Int32) ≤ nI g from nI_ge (b := 3) (by omega) (by decide)), if_neg (nI_pos (by omega)), if_pos (show nI k < 2 from nI_lt (b := 2) hk (by decide))]
  unfold plC wdC KpT
  unfold KpD at K
  by_cases g0 : g = 0
  · subst g0
    rw [if_pos rfl] at K
    obtain ⟨D, K1, K2, K3⟩ := K
    obtain ⟨h2, a1, a2, a3, a4, a5, a6, a7⟩ := c_hcopy (N := N) (h := h) (d := 6 + 10 * k) (s := 157) (by omega)
    rw [if_pos (show nI 0 = 0 from rfl), if_neg (nI_in hk (by decide)), nI_clamp (by omega), show ra (2 + 3) k = _ from q1, a1, bd1_some, tail h2 (a6 4 (by omega))]
    refine ⟨_, rfl, wi_s _ _ _ _, fun j hj => by rw [wi_j _ _ hj, a6 4 (by omega)], fun i h1 h2 => ?_, ?_, ?_, ?_⟩
    · rw [if_pos rfl, if_pos rfl] at h2
      rw [wi_k _ _ h1, a6 i (by omega)]
    · exact MO_fr (fun i h1 h2 => by rw [wi_k _ _ (by omega), a6 i (by omega)]) mo
    · rw [if_pos rfl]
      refine ⟨D, KH_fr (fun i h1 h2 => wi_k _ _ (by omega)) ?_, K2⟩
      obtain ⟨d0, d1, d2, d4, e, eF, eB, eS⟩ := K1
      refine ⟨⟨l5.1, l5.2.1, l5.2.2.1, l5.2.2.2.1, l5.2.2.2.2.1, l5.2.2.2.2.2.1, l5.2.2.2.2.2.2.1, l5.2.2.2.2.2.2.2.1, l5.2.2.2.2.2.2.2.2, by omega, by omega⟩, K3, ?_, ?_, ?_, ?_⟩
      · intro j hj; rw [a2 j hj]; exact e j hj
      · intro f hf; rw [(a3 f (by omega)).1, (a3 f (by omega)).2]; exact eF f hf
      · intro b hb; have := a4 b (by omega); rw [this.1, this.2.1, this.2.2.1, this.2.2.2]; exact eB b hb
      · intro s hs; have := a5 s (by omega); rw [this.1, this.2.1, this.2.2]; exact eS s hs
    · intro p hp
      exact Or.inl (by rw [wi_k _ _ (by omega), a6 p (by omega)])
  · rw [if_neg g0] at K
    obtain ⟨m, Kf, V, K1, K2, K3⟩ := K
    by_cases g1 : g = 1
    · subst g1
      have hm : m ≤ 40 := K2.1.1
      have o1 : h.1 (27 + 3 * k) 0 = nI 40 := by
        match k, hk with
        | 0, _ => exact mo.1
        | 1, _ => exact mo.2.1
      obtain ⟨h2, a1, a2, a3, a4, a5, a6⟩ := c_rcopy (N := N) (h := h) (d := 27 + 3 * k) (s := 167) (M := 40) (M' := 40) (m := m) (by omega) (by omega) (by decide) (by decide) o1 l1 l2 ln168.1 ln168.2 hm hm K1.1.2.1
      rw [if_neg (show ¬ nI 1 = 0 by decide), if_pos (show nI 1 = 1 from rfl), if_neg (nI_in hk (by decide)), nI_clamp (by omega), show ra (2 + 24) k = _ from q2, a1, bd1_some, tail h2 (a5 4 (by omega))]
      refine ⟨_, rfl, wi_s _ _ _ _, fun j hj => by rw [wi_j _ _ hj, a5 4 (by omega)], fun i h1 h2 => ?_, ?_, ?_, ?_⟩
      · rw [if_neg (by decide), if_pos rfl, if_neg (by decide)] at h2
        rw [wi_k _ _ h1, a5 i (by omega)]
      · have all : ∀ p, (p = 2 + 25 ∨ p = 2 + 28 ∨ p = 2 + 32 ∨ p = 2 + 35) → (wi h2 4 1 (nI (if c < k + 1 then k + 1 else c))).1 p 0 = h.1 p 0 := by
          intro p hp
          rw [wi_k _ _ (by omega)]
          by_cases w : p = 27 + 3 * k
          · subst w; rw [a4 0 (by decide)]
          · rw [a5 p (by omega)]
        unfold MO
        rw [all _ (by omega), all _ (by omega), all _ (by omega), all _ (by omega)]
        exact mo
      · rw [if_neg (by decide), if_pos rfl]
        refine ⟨m, Kf, V, ⟨hm, by decide, l1, l2, by omega, by omega, by rw [wi_k _ _ (by omega)]; exact a2, fun i hi => ?_⟩, hm, K2.1.2, K2.2⟩
        rw [wi_k _ _ (by omega), wi_k _ _ (by omega), (a3 i hi).1, (a3 i hi).2]
        have x1 := K1.2 i hi
        have x2 := K3 i hi
        rw [if_pos rfl] at x2
        exact ⟨x2.1, x1.1, x1.2, x2.2.1, fun w => by omega⟩
      · intro p hp
        by_cases w : p = 27 + 3 * k
        · subst w
          exact Or.inr ⟨m, by rw [if_pos (by omega)]; exact hm, by rw [wi_k _ _ (by omega)]; exact a2⟩
        · exact Or.inl (by rw [wi_k _ _ (by omega), a5 p (by omega)])
    · have g2 : g = 2 := by omega
      subst g2
      have hm : m ≤ 8 := K2.1.1
      have o1 : h.1 (34 + 3 * k) 0 = nI 8 := by
        match k, hk with
        | 0, _ => exact mo.2.2.1
        | 1, _ => exact mo.2.2.2
      obtain ⟨h2, a1, a2, a3, a4, a5, a6⟩ := c_rcopy (N := N) (h := h) (d := 34 + 3 * k) (s := 167) (M := 8) (M' := 40) (m := m) (by omega) (by omega) (by decide) (by decide) o1 l3 l4 ln168.1 ln168.2 hm (by omega) K1.1.2.1
      rw [if_neg (show ¬ nI 2 = 0 by decide), if_neg (show ¬ nI 2 = 1 by decide), if_neg (nI_in hk (by decide)), nI_clamp (by omega), show ra (2 + 31) k = _ from q3, a1, bd1_some, tail h2 (a5 4 (by omega))]
      refine ⟨_, rfl, wi_s _ _ _ _, fun j hj => by rw [wi_j _ _ hj, a5 4 (by omega)], fun i h1 h2 => ?_, ?_, ?_, ?_⟩
      · rw [if_neg (by decide), if_neg (by decide), if_neg (by decide)] at h2
        rw [wi_k _ _ h1, a5 i (by omega)]
      · have all : ∀ p, (p = 2 + 25 ∨ p = 2 + 28 ∨ p = 2 + 32 ∨ p = 2 + 35) → (wi h2 4 2 (nI (if c < k + 1 then k + 1 else c))).1 p 0 = h.1 p 0 := by
          intro p hp
          rw [wi_k _ _ (by omega)]
          by_cases w : p = 34 + 3 * k
          · subst w; rw [a4 0 (by decide)]
          · rw [a5 p (by omega)]
        unfold MO
        rw [all _ (by omega), all _ (by omega), all _ (by omega), all _ (by omega)]
        exact mo
      · rw [if_neg (by decide), if_neg (by decide)]
        refine ⟨m, Kf, V, ⟨hm, by decide, l3, l4, by omega, by omega, by rw [wi_k _ _ (by omega)]; exact a2, fun i hi => ?_⟩, hm, K2.1.2, K2.2⟩
        rw [wi_k _ _ (by omega), wi_k _ _ (by omega), (a3 i hi).1, (a3 i hi).2]
        have x1 := K1.2 i hi
        have x2 := K3 i hi
        rw [if_neg (by decide)] at x2
        exact ⟨x2.1, x1.1, x1.2, x2.2.1, fun _ => x2.2.2 rfl⟩
      · intro p hp
        by_cases w : p = 34 + 3 * k
        · subst w
          exact Or.inr ⟨m, by rw [if_neg (by omega)]; exact hm, by rw [wi_k _ _ (by omega)]; exact a2⟩
        · exact Or.inl (by rw [wi_k _ _ (by omega), a5 p (by omega)])
/-- the reference keeps what it read -/
theorem r_l282 {h0 : HS} {g k : Nat} (hg : g < 3) (hk : k < 2) : ∀ (r i fu : Nat) (h : HS), i + r = wdR g → r < fu → (∀ j, j < i → h.1 238 (plR g k + j) = h0.1 240 j) → (∀ j, ¬ (plR g k ≤ j ∧ j < plR g k + wdR g) → h.1 238 j = h0.1 238 j) → (∀ a, a ≠ 238 → h.1 a = h0.1 a) →
    ∃ h', X11_text_l282 N fu h 237 (nI g) (nI k) (nI i) = some (nI k, h') ∧ (∀ j, j < wdR g → h'.1 238 (plR g k + j) = h0.1 240 j) ∧ (∀ j, ¬ (plR g k ≤ j ∧ j < plR g k + wdR g) → h'.1 238 j = h0.1 238 j) ∧ (∀ a, a ≠ 238 → h'.1 a = h0.1 a) := by
  have sz : ∀ h : HS, X11_sizeOf N h (nI g) = some (nI (wdR g)) := by
    intro h
    unfold X11_sizeOf wdR
    match g, hg with
    | 0, _ => rfl
    | 1, _ => rfl
    | 2, _ => rfl
  have pl : ∀ h : HS, X11_placeOf N h (nI g) (nI k) = some (nI (plR g k)) := by
    intro h
    unfold X11_placeOf plR
    match g, hg with
    | 0, _ => rw [if_pos (show nI 0 = 0 from rfl), if_pos rfl, zn610, zn64, pk_mul, nI_add]
    | 1, _ => rw [if_neg (show ¬ nI 1 = 0 by decide), if_pos (show nI 1 = 1 from rfl), if_neg (by decide), if_pos rfl, zn738, zn81, pk_mul, nI_add]
    | 2, _ => rw [if_neg (show ¬ nI 2 = 0 by decide), if_neg (show ¬ nI 2 = 1 by decide), if_neg (by decide), if_neg (by decide), zn900, zn17, pk_mul, nI_add]
  have bw : wdR g ≤ 81 ∧ plR g k + wdR g ≤ 934 := by
    unfold wdR plR
    match g, hg with
    | 0, _ => rw [if_pos rfl, if_pos rfl]; omega
    | 1, _ => rw [if_neg (by decide), if_pos rfl, if_neg (by decide), if_pos rfl]; omega
    | 2, _ => rw [if_neg (by decide), if_neg (by decide), if_neg (by decide), if_neg (by decide)]; omega
  intro r
  induction r with
  | zero =>
    intro i fu h e hf g1 g2 g3
    obtain ⟨fu, rfl, _⟩ := fuel hf
    have ei : i = wdR g := by omega
    subst ei
    rw [X11_text_l282, sz, bd1_some, if_pos (nI_le (Nat.le_refl _) (by omega))]
    exact ⟨h, rfl, g1, g2, g3⟩
  | succ r ih =>
    intro i fu h e hf g1 g2 g3
    obtain ⟨fu, rfl, _⟩ := fuel hf
    rw [X11_text_l282, sz, bd1_some, if_neg (nI_ge (by omega) (by omega)), pl, bd1_some, if_neg (nI_in (by omega) (by decide)), nI_add, if_neg (nI_in (by omega) (by decide)), sq_eq, nI_clamp (by omega), nI_clamp (by omega), nI_1]
    refine ih (i + 1) fu _ (by omega) (by omega) ?_ ?_ ?_
    · intro j hj
      by_cases x : j = i
      · subst x
        rw [show (237 + 1 : Nat) = 238 from rfl, wi_s, show h.1 (237 + 3) = h0.1 240 from g3 240 (by decide)]
      · rw [show (237 + 1 : Nat) = 238 from rfl, wi_j _ _ (by omega)]
        exact g1 j (by omega)
    · intro j hj
      rw [show (237 + 1 : Nat) = 238 from rfl, wi_j _ _ (by omega)]
      exact g2 j hj
    · intro a ha
      rw [wi_k _ _ ha]
      exact g3 a ha
theorem plR_b {g k : Nat} (hg : g < 3) (hk : k < 2) : 610 ≤ plR g k ∧ plR g k + wdR g ≤ 934 := by
  unfold wdR plR
  match g, hg with
  | 0, _ => rw [if_pos rfl, if_pos rfl]; omega
  | 1, _ => rw [if_neg (by decide), if_pos rfl, if_neg (by decide), if_pos rfl]; omega
  | 2, _ => rw [if_neg (by decide), if_neg (by decide), if_neg (by decide), if_neg (by decide)]; omega
theorem r_keepT (hN : 2000 ≤ N) {h : HS} {g k c : Nat} {b : Int32} (hg : g < 3) (hk : k < 2) (hc : c ≤ 2) (ec : h.1 238 g = nI c) (h5 : h.1 238 5 = 0) (nb : (b = -1 ∧ k = c) ∨ (b = nI k ∧ k < c)) : ∃ h', X11_text_b237 N h 237 (nI g) b = some (nI k, h') ∧ h'.1 238 g = nI (if c < k + 1 then k + 1 else c) ∧ (∀ j, j < wdR g → h'.1 238 (plR g k + j) = h.1 240 j) ∧ (∀ j, j ≠ g → ¬ (plR g k ≤ j ∧ j < plR g k + wdR g) → h'.1 238 j = h.1 238 j) ∧ (∀ a, a ≠ 238 → h'.1 a = h.1 a) := by
  have pb := plR_b hg hk
  have wb : wdR g ≤ 81 := by
    unfold wdR
    match g, hg with
    | 0, _ => rw [if_pos rfl]; decide
    | 1, _ => rw [if_neg (by decide), if_pos rfl]; decide
    | 2, _ => rw [if_neg (by decide), if_neg (by decide)]; decide
  unfold X11_text_b237
  rw [if_neg (by decide), if_pos (show h.1 (237 + 1) (5 : Int32).toNatClampNeg = 0 from h5)]
  rcases nb with ⟨rfl, rfl⟩ | ⟨rfl, hkc⟩
  · rw [if_pos rfl, if_neg (nI_in (by omega) (by decide)), if_pos rfl, if_neg (nI_in (by omega) (by decide)), if_neg (nI_in (by omega) (by decide)), sq_eq, nI_clamp (by omega), show h.1 (237 + 1) g = nI k from ec, nI_1, if_pos (by omega)]
    obtain ⟨h', a1, a2, a3, a4⟩ := r_l282 (N := N) (h0 := wi h 238 g (nI (k + 1))) (g := g) (k := k) hg hk (wdR g) 0 N (wi h 238 g (nI (k + 1))) (by omega) (by omega) (fun j hj => absurd hj (Nat.not_lt_zero _)) (fun _ _ => rfl) (fun _ _ => rfl)
    refine ⟨h', a1, ?_, ?_, ?_, ?_⟩
    · rw [a3 g (by omega), wi_s]
    · intro j hj; rw [a2 j hj, wi_k _ _ (by decide)]
    · intro j h1 h2; rw [a3 j h2, wi_j _ _ h1]
    · intro a ha; rw [a4 a ha, wi_k _ _ ha]
  · rw [if_neg (nI_m1 (by omega)), if_neg (nI_m1 (by omega)), if_neg (by omega)]
    obtain ⟨h', a1, a2, a3, a4⟩ := r_l282 (N := N) (h0 := h) (g := g) (k := k) hg hk (wdR g) 0 N h (by omega) (by omega) (fun j hj => absurd hj (Nat.not_lt_zero _)) (fun _ _ => rfl) (fun _ _ => rfl)
    exact ⟨h', a1, by rw [a3 g (by omega)]; exact ec, a2, fun j _ h2 => a3 j h2, a4⟩
end TKP
