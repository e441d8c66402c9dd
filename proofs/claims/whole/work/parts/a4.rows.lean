/-! ===== level 2: text: lines of nights and mornings ===== -/
def capR (g : Nat) : Nat := if g = 1 then 40 else 8
def CRw (h : HS) (m : Nat) : Prop := m ≤ 40 ∧ h.1 167 3 = nI m ∧ h.1 167 0 = 40
def CRD (h : HS) (m : Nat) (K : Nat → Nat) (V : Nat → Int32) : Prop := CRw h m ∧ ∀ i, i < m → h.1 168 i = nI (K i) ∧ h.1 169 i = V i
def RRw (h : HS) (g m : Nat) : Prop := m ≤ capR g ∧ h.1 240 0 = nI m
def RRD (h : HS) (g m : Nat) (K : Nat → Nat) (V : Nat → Int32) : Prop := RRw h g m ∧ ∀ i, i < m → h.1 240 (1 + 2 * i) = nI (K i) ∧ h.1 240 (2 + 2 * i) = V i
def RKx (g m : Nat) (K : Nat → Nat) (V : Nat → Int32) : Prop := ∀ i, i < m → K i < (if g = 1 then 5 else 2) ∧ (V i = -1 ∨ ∃ j, j < 6 ∧ V i = nI j) ∧ (g = 2 → V i ≠ -1)
theorem ln168 : ln 168 = 40 ∧ ln 169 = 40 := by decide +kernel
theorem cap_in (g : Nat) : 8 ≤ capR g ∧ capR g ≤ 40 := by
  unfold capR
  by_cases a : g = 1
  · rw [if_pos a]; omega
  · rw [if_neg a]; omega
section SRW
variable {N : Nat} {h : HS} {t : Nat → Nat} {z : Nat}
def CRf (h h' : HS) : Prop := (∀ i, (i < 167 ∨ 170 ≤ i) → h'.1 i = h.1 i) ∧ h'.2 = h.2 ∧ h'.1 167 0 = h.1 167 0
theorem c_add {m : Nat} (c : CRw h m) (kd : Nat) (b : Int32) : ∃ h' m', X6_add N h 167 (nI kd) b = some h' ∧ CRw h' m' ∧ CRf h h' ∧ (∀ K V, CRD h m K V → m < 40 → m' = m + 1 ∧ CRD h' (m + 1) (fun i => if i = m then kd else K i) (fun i => if i = m then b else V i)) := by
  obtain ⟨c1, c2, c3⟩ := c
  unfold X6_add
  rw [c2, if_neg (nI_pos (by omega)), c3]
  by_cases y : m < 40
  · rw [if_neg (show ¬ (40 : Int32) ≤ nI m from nI_ge (b := 40) y (by decide)), show ln (167 + 1) = 40 from ln168.1, if_neg (nI_in y (by decide)), sq_eq, nI_clamp (by omega)]
    rw [show (wi h (167 + 1) m (nI kd)).1 167 3 = nI m by rw [wi_k _ _ (by decide)]; exact c2, show ln (167 + 2) = 40 from ln168.2, if_neg (nI_in y (by decide)), sq_eq, nI_clamp (by omega)]
    rw [show (wi (wi h (167 + 1) m (nI kd)) (167 + 2) m b).1 167 3 = nI m by rw [wi_k _ _ (by decide), wi_k _ _ (by decide)]; exact c2, nI_1, sq_eq]
    have w' : CRw (wi (wi (wi h (167 + 1) m (nI kd)) (167 + 2) m b) 167 3 (nI (m + 1))) (m + 1) := ⟨by omega, wi_s _ _ _ _, by rw [wi_j _ _ (by decide), wi_k _ _ (by decide), wi_k _ _ (by decide)]; exact c3⟩
    refine ⟨_, m + 1, rfl, w', ⟨fun i hi => by simp (disch := omega) only [wi_k], rfl, by rw [wi_j _ _ (by decide), wi_k _ _ (by decide), wi_k _ _ (by decide)]⟩, fun K V d _ => ⟨rfl, w', fun i hi => ?_⟩⟩
    by_cases e : i = m
    · subst e
      dsimp only
      rw [if_pos rfl, if_pos rfl]
      constructor
      · simp (disch := omega) only [wi_k, wi_s]
      · simp (disch := omega) only [wi_k, wi_s]
    · dsimp only
      rw [if_neg e, if_neg e]
      have := d.2 i (by omega)
      constructor
      · simp (disch := omega) only [wi_k, wi_j]; exact this.1
      · simp (disch := omega) only [wi_k, wi_j]; exact this.2
  · rw [if_pos (show (40 : Int32) ≤ nI m from nI_le (a := 40) (by omega) (by omega))]
    exact ⟨h, m, rfl, ⟨c1, c2, c3⟩, ⟨fun _ _ => rfl, rfl, rfl⟩, fun K V _ w => absurd w y⟩
theorem c_keepR {k m : Nat} {nv : Nat → Nat} (hk : 5 ≤ k ∧ k < 12) (c : CRw h m) (hv : ∀ j, j < nNum k → h.1 170 j = nI (nv j) ∧ nv j ≤ 99) : ∃ h' m', X4_keepLine N h 156 (nI k) = some h' ∧ CRw h' m' ∧ CRf h h' ∧ (∀ K V, CRD h m K V → m < 40 → m' = m + 1 ∧ CRD h' (m + 1) (fun i => if i = m then (if k < 10 then k - 5 else k - 10) else K i) (fun i => if i = m then (if nNum k = 0 then -1 else nI (nv 0)) else V i)) := by
  obtain ⟨s0, s1⟩ := nNum_e k hk.2
  have b187 : ∀ u : Nat, u ≤ k → ∃ h' m', X4_keepLine_b187 N h 156 (nI k) (nI u) (nI k) = some h' ∧ CRw h' m' ∧ CRf h h' ∧ (∀ K V, CRD h m K V → m < 40 → m' = m + 1 ∧ CRD h' (m + 1) (fun i => if i = m then k - u else K i) (fun i => if i = m then (if nNum k = 0 then -1 else nI (nv 0)) else V i)) := by
    intro u hu
    unfold X4_keepLine_b187
    rw [s0, pk_sub hu]
    by_cases y : nNum k = 0
    · rw [if_pos (by rw [y]; rfl), if_pos y, show (156 + 11 : Nat) = 167 from rfl, bd1_id]
      exact c_add c _ _
    · rw [if_neg (nI_ne0 (by omega) (by omega)), if_neg y, if_neg (by decide), show (156 + 11 : Nat) = 167 from rfl, bd1_id, show h.1 (156 + 14) (0 : Int32).toNatClampNeg = nI (nv 0) from (hv 0 (by omega)).1]
      exact c_add c _ _
  unfold X4_keepLine
  rw [if_neg (nI_ne0 (by omega) (by omega)), if_neg (show ¬ nI k = 1 from nI_ne (b := 1) (by omega) (by omega) (by decide)), if_neg (show ¬ nI k = 2 from nI_ne (b := 2) (by omega) (by omega) (by decide)), if_neg (show ¬ nI k = 3 from nI_ne (b := 3) (by omega) (by omega) (by decide)), if_neg (show ¬ nI k = 4 from nI_ne (b := 4) (by omega) (by omega) (by decide))]
  by_cases y : k < 10
  · rw [if_neg (show ¬ (10 : Int32) ≤ nI k from nI_ge (b := 10) y (by decide)), if_pos y]
    exact b187 5 hk.1
  · rw [if_pos (show (10 : Int32) ≤ nI k from nI_le (a := 10) (by omega) (by omega)), if_neg y]
    exact b187 10 (by omega)
theorem c_fullR {k g m : Nat} (hk : 5 ≤ k ∧ k < 12) (hg : g = 1 ∨ g = 2) (c : CRw h m) : X4_isFull N h 156 (nI k) (nI g) = some (nB ((!decide (m < capR g)) = true)) := by
  obtain ⟨c1, c2, c3⟩ := c
  unfold X4_isFull capR
  rw [if_neg (nI_ne0 (by omega) (by omega)), if_neg (show ¬ nI k = 1 from nI_ne (b := 1) (by omega) (by omega) (by decide)), if_neg (show ¬ nI k = 2 from nI_ne (b := 2) (by omega) (by omega) (by decide)), if_neg (show ¬ nI k = 3 from nI_ne (b := 3) (by omega) (by omega) (by decide)), if_neg (show ¬ nI k = 4 from nI_ne (b := 4) (by omega) (by omega) (by decide)), show h.1 (156 + 11) 3 = nI m from c2]
  rcases hg with rfl | rfl
  · rw [if_pos (show nI 1 = 1 from rfl), if_pos rfl]
    by_cases y : m < 40
    · rw [if_pos (show nI m < 40 from nI_lt (b := 40) y (by decide)), nz_0, nB_f (by simp [y])]
    · rw [if_neg (show ¬ nI m < 40 from nI_nlt (b := 40) (by omega) (by omega)), nz_1, nB_t (by simp; omega)]
  · rw [if_neg (show ¬ nI 2 = 1 by decide), if_neg (show ¬ (2 : Nat) = 1 by decide)]
    by_cases y : m < 8
    · rw [if_pos (show nI m < 8 from nI_lt (b := 8) y (by decide)), nz_0, nB_f (by simp [y])]
    · rw [if_neg (show ¬ nI m < 8 from nI_nlt (b := 8) (by omega) (by omega)), nz_1, nB_t (by simp; omega)]
/-- the reference's store -/
theorem r_rput {st : PSt} {g m : Nat} (c : RSt h t z st) (w : RRw h g m) (y : m < capR g) (v u : Int32) : RSt (wi (wi (wi h 240 (1 + 2 * m) v) 240 (2 + 2 * m) u) 240 0 (nI (m + 1))) t z st ∧ RRw (wi (wi (wi h 240 (1 + 2 * m) v) 240 (2 + 2 * m) u) 240 0 (nI (m + 1))) g (m + 1) ∧ RLf h (wi (wi (wi h 240 (1 + 2 * m) v) 240 (2 + 2 * m) u) 240 0 (nI (m + 1))) ∧ (∀ K V kd, RRD h g m K V → v = nI kd → RRD (wi (wi (wi h 240 (1 + 2 * m) v) 240 (2 + 2 * m) u) 240 0 (nI (m + 1))) g (m + 1) (fun i => if i = m then kd else K i) (fun i => if i = m then u else V i)) := by
  have w' : RRw (wi (wi (wi h 240 (1 + 2 * m) v) 240 (2 + 2 * m) u) 240 0 (nI (m + 1))) g (m + 1) := ⟨by omega, wi_s _ _ _ _⟩
  refine ⟨RSt_w c (fun j _ => by simp (disch := decide) only [wi_k]) (by simp (disch := decide) only [wi_k]), w', RLf_d (RLf_d (RLf_d (RLf.refl h) _ _) _ _) _ _, fun K V kd d ev => ⟨w', fun i hi => ?_⟩⟩
  by_cases e : i = m
  · subst e
    dsimp only
    rw [if_pos rfl, if_pos rfl]
    constructor
    · simp (disch := omega) only [wi_j, wi_s]; exact ev
    · simp (disch := omega) only [wi_j, wi_s]
  · dsimp only
    rw [if_neg e, if_neg e]
    have := d.2 i (by omega)
    constructor
    · simp (disch := omega) only [wi_j]; exact this.1
    · simp (disch := omega) only [wi_j]; exact this.2
theorem r_b56 (hN : 2000 ≤ N) {st : PSt} {m : Nat} (c : RSt h t z st) (w : RRw h 1 m) (v u : Int32) : ∃ h' m', X11_nightsLine_b56 N h 237 v u = some h' ∧ RSt h' t z (enS t z st) ∧ RRw h' 1 m' ∧ RLf h h' ∧ (∀ K V kd, RRD h 1 m K V → m < capR 1 → v = nI kd → m' = m + 1 ∧ RRD h' 1 (m + 1) (fun i => if i = m then kd else K i) (fun i => if i = m then u else V i)) := by
  have w1 : m ≤ 40 := w.1
  unfold X11_nightsLine_b56
  rw [if_neg (by decide), show h.1 (237 + 3) (0 : Int32).toNatClampNeg = nI m from w.2]
  by_cases y : m < 40
  · have e1 : (1 : Int32) + 2 * nI m = nI (1 + 2 * m) := by rw [zn2, pk_mul, show (1 : Int32) = nI 1 from rfl, nI_add]
    have e2 : (2 : Int32) + 2 * nI m = nI (2 + 2 * m) := by rw [zn2, pk_mul, nI_add]
    rw [if_neg (show ¬ (40 : Int32) ≤ nI m from nI_ge (b := 40) y (by decide)), if_neg (by decide), e1, if_neg (nI_in (by omega) (by decide)), sq_eq, nI_clamp (by omega), if_neg (by decide)]
    rw [show (wi h (237 + 3) (1 + 2 * m) v).1 (237 + 3) (0 : Int32).toNatClampNeg = nI m from (wi_j _ _ (by show 0 ≠ 1 + 2 * m; omega)).trans w.2, e2, if_neg (nI_in (by omega) (by decide)), sq_eq, nI_clamp (by omega), if_neg (by decide), if_neg (by decide), sq_eq]
    rw [show (wi (wi h (237 + 3) (1 + 2 * m) v) (237 + 3) (2 + 2 * m) u).1 (237 + 3) (0 : Int32).toNatClampNeg = nI m from (wi_j _ _ (by show 0 ≠ 2 + 2 * m; omega)).trans ((wi_j _ _ (by show 0 ≠ 1 + 2 * m; omega)).trans w.2), nI_1]
    obtain ⟨p1, p2, p3, p4⟩ := r_rput (g := 1) c w y v u
    obtain ⟨h5, e1, e2, e3⟩ := r_endsLine (N := N) hN p1
    refine ⟨h5, m + 1, ?_, e2, ⟨p2.1, by rw [e3.1 240 (by decide) (by decide)]; exact p2.2⟩, RLf.trans p3 (RLf_n e3), fun K V kd d _ ev => ⟨rfl, ?_⟩⟩
    · rw [show X11_endsLine N (wi (wi (wi h (237 + 3) (1 + 2 * m) v) (237 + 3) (2 + 2 * m) u) (237 + 3) (0 : Int32).toNatClampNeg (nI (m + 1))) 237 = _ from e1, bd1_some]
    · have := p4 K V kd d ev
      unfold RRD RRw
      rw [e3.1 240 (by decide) (by decide)]
      exact this
  · rw [if_pos (show (40 : Int32) ≤ nI m from nI_le (a := 40) (by omega) (by omega))]
    obtain ⟨h5, e1, e2, e3⟩ := r_endsLine (N := N) hN c
    rw [e1, bd1_some]
    exact ⟨h5, m, rfl, e2, ⟨w.1, by rw [e3.1 240 (by decide) (by decide)]; exact w.2⟩, RLf_n e3, fun K V kd _ u => absurd u (by show ¬ m < 40; omega)⟩
theorem r_b41 (hN : 2000 ≤ N) {st : PSt} {m : Nat} (c : RSt h t z st) (w : RRw h 2 m) (v : Int32) : ∃ h' m', X11_morningsLine_b41 N h 237 v = some h' ∧ RSt h' t z (enS t z (nmS t z 0 5 st)) ∧ RRw h' 2 m' ∧ RLf h h' ∧ (∀ K V kd, RRD h 2 m K V → m < capR 2 → v = nI kd → m' = m + 1 ∧ RRD h' 2 (m + 1) (fun i => if i = m then kd else K i) (fun i => if i = m then nI (nmV t z 0 5 st) else V i)) := by
  obtain ⟨h1, a1, a2, a3⟩ := r_numbered (N := N) hN (lo := 0) (hi := 5) c (by decide) (by decide)
  have w1 : m ≤ 8 := w.1
  have w' : RRw h1 2 m := ⟨w.1, by rw [a3.1 240 (by decide) (by decide)]; exact w.2⟩
  unfold X11_morningsLine_b41
  rw [show X11_numbered N h 237 0 5 = _ from a1, bd2_some, if_neg (by decide), show h1.1 (237 + 3) (0 : Int32).toNatClampNeg = nI m from w'.2]
  generalize hu : nI (nmV t z 0 5 st) = u
  by_cases y : m < 8
  · have e1 : (1 : Int32) + 2 * nI m = nI (1 + 2 * m) := by rw [zn2, pk_mul, show (1 : Int32) = nI 1 from rfl, nI_add]
    have e2 : (2 : Int32) + 2 * nI m = nI (2 + 2 * m) := by rw [zn2, pk_mul, nI_add]
    rw [if_neg (show ¬ (8 : Int32) ≤ nI m from nI_ge (b := 8) y (by decide)), if_neg (by decide), e1, if_neg (nI_in (by omega) (by decide)), sq_eq, nI_clamp (by omega), if_neg (by decide)]
    rw [show (wi h1 (237 + 3) (1 + 2 * m) v).1 (237 + 3) (0 : Int32).toNatClampNeg = nI m from (wi_j _ _ (by show 0 ≠ 1 + 2 * m; omega)).trans w'.2, e2, if_neg (nI_in (by omega) (by decide)), sq_eq, nI_clamp (by omega), if_neg (by decide), if_neg (by decide), sq_eq]
    rw [show (wi (wi h1 (237 + 3) (1 + 2 * m) v) (237 + 3) (2 + 2 * m) u).1 (237 + 3) (0 : Int32).toNatClampNeg = nI m from (wi_j _ _ (by show 0 ≠ 2 + 2 * m; omega)).trans ((wi_j _ _ (by show 0 ≠ 1 + 2 * m; omega)).trans w'.2), nI_1]
    obtain ⟨p1, p2, p3, p4⟩ := r_rput (g := 2) a2 w' y v u
    obtain ⟨h5, e1, e2, e3⟩ := r_endsLine (N := N) hN p1
    refine ⟨h5, m + 1, ?_, e2, ⟨p2.1, by rw [e3.1 240 (by decide) (by decide)]; exact p2.2⟩, RLf.trans (RLf_n a3) (RLf.trans p3 (RLf_n e3)), fun K V kd d _ ev => ⟨rfl, ?_⟩⟩
    · rw [show X11_endsLine N (wi (wi (wi h1 (237 + 3) (1 + 2 * m) v) (237 + 3) (2 + 2 * m) u) (237 + 3) (0 : Int32).toNatClampNeg (nI (m + 1))) 237 = _ from e1, bd1_some]
    · have := p4 K V kd ⟨w', by rw [a3.1 240 (by decide) (by decide)]; exact d.2⟩ ev
      unfold RRD RRw
      rw [e3.1 240 (by decide) (by decide)]
      exact this
  · rw [if_pos (show (8 : Int32) ≤ nI m from nI_le (a := 8) (by omega) (by omega))]
    obtain ⟨h5, e1, e2, e3⟩ := r_endsLine (N := N) hN a2
    rw [e1, bd1_some]
    exact ⟨h5, m, rfl, e2, ⟨w.1, by rw [e3.1 240 (by decide) (by decide)]; exact w'.2⟩, RLf.trans (RLf_n a3) (RLf_n e3), fun K V kd _ u => absurd u (by show ¬ m < 8; omega)⟩
theorem RRw_n {h h' : HS} {g m : Nat} (w : RRw h g m) (e : h'.1 240 = h.1 240) : RRw h' g m := ⟨w.1, by rw [e]; exact w.2⟩
theorem RRD_n {h h' : HS} {g m : Nat} {K : Nat → Nat} {V : Nat → Int32} (w : RRD h g m K V) (e : h'.1 240 = h.1 240) : RRD h' g m K V := ⟨RRw_n w.1 e, by rw [e]; exact w.2⟩
def rLine (N : Nat) (g : Nat) (h : HS) : Option HS := if g = 1 then X11_nightsLine N h 237 else X11_morningsLine N h 237
theorem r_rowLine (hN : 2000 ≤ N) {g s m k : Nat} {x : Nat × Int32} {nv : Nat → Nat} (hg : g = 1 ∨ g = 2) (c : RSg h t z s x) (w : RRw h g m) (hs : s < z) (hk : wdk t z s = k + 1) (hk1 : sLo g ≤ k) (hk2 : k < sHi g) (hv : ∀ i, nv i = val t z (nxi t z i (nxt t z s))) {st : PSt} (hst : st = .inl (nxt t z s, blm x (decide (m < capR g)) 3 s)) :
    ∃ h' m', rLine N g h = some h' ∧ RSt h' t z (enS t z (psR t z (okc k nv) (nNum k) 0 st)) ∧ RRw h' g m' ∧ RLf h h' ∧ (∀ K V, RRD h g m K V → m < capR g → m' = m + 1 ∧ RRD h' g (m + 1) (fun i => if i = m then (if k < 10 then k - 5 else k - 10) else K i) (fun i => if i = m then (if nNum k = 0 then -1 else nI (nmV t z 0 (nHi k 0) st)) else V i)) := by
  have nx := nxt_in (t := t) hs
  have f := c.2.2.2.2
  rcases hg with rfl | rfl
  · have hk1 : 5 ≤ k := hk1
    have hk2 : k < 10 := hk2
    obtain ⟨h3, a1, a2, a3⟩ := r_wordIn (N := N) hN (lo := 6) (hi := 10) c (by decide) (by decide) (by decide)
    rw [if_pos (by omega)] at a1 a2
    have a2' : RSg h3 t z (nxt t z s) x := a2
    have w3 := RRw_n w (a3.1 240 (by decide) (by decide))
    unfold rLine
    rw [if_pos rfl]
    unfold X11_nightsLine
    rw [show X11_wordIn N h 237 6 10 = _ from a1, bd2_some, if_pos a2'.2.1, if_neg (by decide), show h3.1 (237 + 3) (0 : Int32).toNatClampNeg = nI m from w3.2, c.1.2.2.1, hk, show nI (k + 1) - 6 = nI (k - 5) by rw [zn6, pk_sub (by omega)]; congr 1]
    have w1 : m ≤ 40 := w.1
    have go : ∀ h4, RSt h4 t z st → RRw h4 1 m → (∀ K V, RRD h 1 m K V → RRD h4 1 m K V) → RLf h h4 → ∃ h' m', (if (3 : Int32) ≤ nI (k - 5) then X11_nightsLine_b56 N h4 237 (nI (k - 5)) (-1) else bd2 (X11_numbered N h4 237 0 4) fun r30 h31 => X11_nightsLine_b56 N h31 237 (nI (k - 5)) r30) = some h' ∧ RSt h' t z (enS t z (psR t z (okc k nv) (nNum k) 0 st)) ∧ RRw h' 1 m' ∧ RLf h h' ∧ (∀ K V, RRD h 1 m K V → m < capR 1 → m' = m + 1 ∧ RRD h' 1 (m + 1) (fun i => if i = m then (if k < 10 then k - 5 else k - 10) else K i) (fun i => if i = m then (if nNum k = 0 then -1 else nI (nmV t z 0 (nHi k 0) st)) else V i)) := by
      intro h4 b1 b2 b3 b4
      by_cases y : 8 ≤ k
      · have n0 : nNum k = 0 := (by decide : ∀ k, k < 10 → 8 ≤ k → nNum k = 0) k hk2 y
        rw [if_pos (show (3 : Int32) ≤ nI (k - 5) from nI_le (a := 3) (by omega) (by omega)), n0, psR]
        obtain ⟨h', m', d1, d2, d3, d4, d5⟩ := r_b56 (N := N) hN b1 b2 (nI (k - 5)) (-1)
        refine ⟨h', m', d1, d2, d3, RLf.trans b4 d4, fun K V d hm => ?_⟩
        rw [if_pos hk2]
        exact d5 K V (k - 5) (b3 K V d) hm rfl
      · have n1 : nNum k = 1 ∧ nHi k 0 = 4 ∧ nLo k 0 = 0 := (by decide : ∀ k, k < 8 → 5 ≤ k → nNum k = 1 ∧ nHi k 0 = 4 ∧ nLo k 0 = 0) k (by omega) hk1
        rw [if_neg (show ¬ (3 : Int32) ≤ nI (k - 5) from nI_ge (b := 3) (by omega) (by decide)), n1.1, n1.2.1, psR, psR, okc_e (by omega) n1.2.2 n1.2.1]
        obtain ⟨h5, e1, e2, e3⟩ := r_numbered (N := N) hN (lo := 0) (hi := 4) b1 (by decide) (by decide)
        obtain ⟨h', m', d1, d2, d3, d4, d5⟩ := r_b56 (N := N) hN e2 (RRw_n b2 (e3.1 240 (by decide) (by decide))) (nI (k - 5)) (nI (nmV t z 0 4 st))
        rw [show X11_numbered N h4 237 0 4 = _ from e1, bd2_some]
        have en : nmS t z 0 4 st = nmO t z (decide (0 ≤ nv 0 ∧ nv 0 ≤ 4)) st := nmS_at (q0 := nxt t z s) (i := 0) hv (by rw [hst]; exact rfl)
        rw [en] at d2
        refine ⟨h', m', d1, d2, d3, RLf.trans b4 (RLf.trans (RLf_n e3) d4), fun K V d hm => ?_⟩
        rw [if_pos hk2, if_neg (show ¬ (1 : Nat) = 0 by decide)]
        exact d5 K V (k - 5) (RRD_n (b3 K V d) (e3.1 240 (by decide) (by decide))) hm rfl
    by_cases y : m < 40
    · have ey : decide (m < capR 1) = true := decide_eq_true (show m < 40 from y)
      rw [ey, show blm x true 3 s = x from if_pos rfl] at hst
      rw [if_pos (show nI m < 40 from nI_lt (b := 40) y (by decide))]
      exact go h3 (by rw [hst]; exact a2) w3 (fun K V d => RRD_n d (a3.1 240 (by decide) (by decide))) (RLf_n a3)
    · have ey : decide (m < capR 1) = false := decide_eq_false (show ¬ m < 40 from y)
      rw [ey] at hst
      rw [if_neg (show ¬ nI m < 40 from nI_nlt (b := 40) (by omega) (by omega))]
      obtain ⟨h0, b1, b2, b3⟩ := r_full (N := N) a2' f nx.1
      rw [b1, bd1_some]
      exact go h0 (by rw [hst]; exact b2) (RRw_n w3 (b3.1 240 (by decide))) (fun K V d => RRD_n d (by rw [b3.1 240 (by decide), a3.1 240 (by decide) (by decide)])) (RLf.trans (RLf_n a3) (RLf_n (UNf_l b3)))
  · have hk1 : 10 ≤ k := hk1
    have hk2 : k < 12 := hk2
    obtain ⟨h3, a1, a2, a3⟩ := r_wordIn (N := N) hN (lo := 11) (hi := 12) c (by decide) (by decide) (by decide)
    rw [if_pos (by omega)] at a1 a2
    have a2' : RSg h3 t z (nxt t z s) x := a2
    have w3 := RRw_n w (a3.1 240 (by decide) (by decide))
    unfold rLine
    rw [if_neg (by decide)]
    unfold X11_morningsLine
    rw [show X11_wordIn N h 237 11 12 = _ from a1, bd2_some, if_pos a2'.2.1, if_neg (by decide), show h3.1 (237 + 3) (0 : Int32).toNatClampNeg = nI m from w3.2, c.1.2.2.1, hk, show nI (k + 1) - 11 = nI (k - 10) by rw [zn11, pk_sub (by omega)]; congr 1]
    have w1 : m ≤ 8 := w.1
    have n1 : nNum k = 1 ∧ nHi k 0 = 5 ∧ nLo k 0 = 0 := (by decide : ∀ k, k < 12 → 10 ≤ k → nNum k = 1 ∧ nHi k 0 = 5 ∧ nLo k 0 = 0) k hk2 hk1
    have go : ∀ h4, RSt h4 t z st → RRw h4 2 m → (∀ K V, RRD h 2 m K V → RRD h4 2 m K V) → RLf h h4 → ∃ h' m', X11_morningsLine_b41 N h4 237 (nI (k - 10)) = some h' ∧ RSt h' t z (enS t z (psR t z (okc k nv) (nNum k) 0 st)) ∧ RRw h' 2 m' ∧ RLf h h' ∧ (∀ K V, RRD h 2 m K V → m < capR 2 → m' = m + 1 ∧ RRD h' 2 (m + 1) (fun i => if i = m then (if k < 10 then k - 5 else k - 10) else K i) (fun i => if i = m then (if nNum k = 0 then -1 else nI (nmV t z 0 (nHi k 0) st)) else V i)) := by
      intro h4 b1 b2 b3 b4
      rw [n1.1, n1.2.1, psR, psR, okc_e (by omega) n1.2.2 n1.2.1]
      obtain ⟨h', m', d1, d2, d3, d4, d5⟩ := r_b41 (N := N) hN b1 b2 (nI (k - 10))
      have en : nmS t z 0 5 st = nmO t z (decide (0 ≤ nv 0 ∧ nv 0 ≤ 5)) st := nmS_at (q0 := nxt t z s) (i := 0) hv (by rw [hst]; exact rfl)
      rw [en] at d2
      refine ⟨h', m', d1, d2, d3, RLf.trans b4 d4, fun K V d hm => ?_⟩
      rw [if_neg (show ¬ k < 10 by omega), if_neg (show ¬ (1 : Nat) = 0 by decide)]
      exact d5 K V (k - 10) (b3 K V d) hm rfl
    by_cases y : m < 8
    · have ey : decide (m < capR 2) = true := decide_eq_true (show m < 8 from y)
      rw [ey, show blm x true 3 s = x from if_pos rfl] at hst
      rw [if_pos (show nI m < 8 from nI_lt (b := 8) y (by decide))]
      exact go h3 (by rw [hst]; exact a2) w3 (fun K V d => RRD_n d (a3.1 240 (by decide) (by decide))) (RLf_n a3)
    · have ey : decide (m < capR 2) = false := decide_eq_false (show ¬ m < 8 from y)
      rw [ey] at hst
      rw [if_neg (show ¬ nI m < 8 from nI_nlt (b := 8) (by omega) (by omega))]
      obtain ⟨h0, b1, b2, b3⟩ := r_full (N := N) a2' f nx.1
      rw [b1, bd1_some]
      exact go h0 (by rw [hst]; exact b2) (RRw_n w3 (b3.1 240 (by decide))) (fun K V d => RRD_n d (by rw [b3.1 240 (by decide), a3.1 240 (by decide) (by decide)])) (RLf.trans (RLf_n a3) (RLf_n (UNf_l b3)))
theorem r_rowLineB (hN : 2000 ≤ N) {g s m : Nat} {x : Nat × Int32} (hg : g = 1 ∨ g = 2) (c : RSg h t z s x) (w : RRw h g m) (hk : ¬ (sLo g < wdk t z s ∧ wdk t z s ≤ sHi g)) : ∃ h', rLine N g h = some h' ∧ RSb h' s ∧ RLf h h' := by
  rcases hg with rfl | rfl
  · have hk : ¬ (5 < wdk t z s ∧ wdk t z s ≤ 10) := hk
    obtain ⟨h3, a1, a2, a3⟩ := r_wordIn (N := N) hN (lo := 6) (hi := 10) c (by decide) (by decide) (by decide)
    rw [if_neg (by omega)] at a1 a2
    have a2' : RSb h3 s := a2
    have w3 := RRw_n w (a3.1 240 (by decide) (by decide))
    obtain ⟨h5, e1, e2, e3⟩ := r_numbered (N := N) hN (lo := 0) (hi := 4) a2 (by decide) (by decide)
    obtain ⟨h', m', d1, d2, d3, d4, d5⟩ := r_b56 (N := N) hN e2 (RRw_n w3 (e3.1 240 (by decide) (by decide))) (0 - 6) (nI (nmV t z 0 4 (.inr s)))
    refine ⟨h', ?_, d2, RLf.trans (RLf_n a3) (RLf.trans (RLf_n e3) d4)⟩
    unfold rLine
    rw [if_pos rfl]
    unfold X11_nightsLine
    rw [show X11_wordIn N h 237 6 10 = _ from a1, bd2_some, a2'.1, if_neg one0, if_neg (by decide), show X11_numbered N h3 237 0 4 = _ from e1, bd2_some]
    exact d1
  · have hk : ¬ (10 < wdk t z s ∧ wdk t z s ≤ 12) := hk
    obtain ⟨h3, a1, a2, a3⟩ := r_wordIn (N := N) hN (lo := 11) (hi := 12) c (by decide) (by decide) (by decide)
    rw [if_neg (by omega)] at a1 a2
    have a2' : RSb h3 s := a2
    have w3 := RRw_n w (a3.1 240 (by decide) (by decide))
    obtain ⟨h', m', d1, d2, d3, d4, d5⟩ := r_b41 (N := N) hN a2 w3 (0 - 11)
    refine ⟨h', ?_, d2, RLf.trans (RLf_n a3) d4⟩
    unfold rLine
    rw [if_neg (by decide)]
    unfold X11_morningsLine
    rw [show X11_wordIn N h 237 11 12 = _ from a1, bd2_some, a2'.1, if_neg one0]
    exact d1
end SRW
