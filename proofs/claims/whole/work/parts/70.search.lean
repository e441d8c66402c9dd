/-! ===== level 2: the reference's search tells all rotas, one after another ===== -/
def sl (D : Nat → Nat) (m : Nat) : List Nat := (List.range m).filter (fun b => decide (D (17 + 4 * b) ≠ 0))
def ctn (D : Nat → Nat) (b : Nat) : Nat := (sl D b).length
def ord (D : Nat → Nat) (k : Nat) : Nat := (sl D 8).getD k 8
def lenD (D : Nat → Nat) (b : Nat) : Nat := D (18 + 4 * b)
theorem sl_succ (D : Nat → Nat) (b : Nat) : sl D (b + 1) = sl D b ++ (if D (17 + 4 * b) = 0 then [] else [b]) := by
  unfold sl
  rw [List.range_succ, List.filter_append]
  by_cases z : D (17 + 4 * b) = 0
  · rw [if_pos z]; simp [z]
  · rw [if_neg z]; simp [z]
theorem sl_pre (D : Nat → Nat) : ∀ (r b : Nat), ∃ t, sl D (b + r) = sl D b ++ t := by
  intro r
  induction r with
  | zero => intro b; exact ⟨[], by simp⟩
  | succ r ih =>
    intro b
    obtain ⟨t, e⟩ := ih b
    exact ⟨t ++ (if D (17 + 4 * (b + r)) = 0 then [] else [b + r]), by rw [← Nat.add_assoc, sl_succ, e, List.append_assoc]⟩
theorem ct_0 (D : Nat → Nat) : ctn D 0 = 0 := rfl
theorem ct_rest {D : Nat → Nat} {b : Nat} (h : D (17 + 4 * b) = 0) : ctn D (b + 1) = ctn D b := by
  unfold ctn; rw [sl_succ, if_pos h, List.append_nil]
theorem ct_note {D : Nat → Nat} {b : Nat} (h : ¬ D (17 + 4 * b) = 0) : ctn D (b + 1) = ctn D b + 1 := by
  unfold ctn; rw [sl_succ, if_neg h, List.length_append]; rfl
theorem ct_le (D : Nat → Nat) (b : Nat) : ctn D b ≤ b := by
  induction b with
  | zero => exact Nat.le_refl _
  | succ b ih =>
    by_cases z : D (17 + 4 * b) = 0
    · rw [ct_rest z]; omega
    · rw [ct_note z]; omega
theorem ct_mono {D : Nat → Nat} {a b : Nat} (h : a ≤ b) : ctn D a ≤ ctn D b := by
  obtain ⟨t, e⟩ := sl_pre D (b - a) a
  rw [show a + (b - a) = b by omega] at e
  unfold ctn
  rw [e, List.length_append]
  omega
theorem ord_ct {D : Nat → Nat} {b : Nat} (hb : b < 8) (h : ¬ D (17 + 4 * b) = 0) : ord D (ctn D b) = b := by
  obtain ⟨t, e⟩ := sl_pre D (8 - (b + 1)) (b + 1)
  have e8 : b + 1 + (8 - (b + 1)) = 8 := by omega
  rw [e8, sl_succ D b, if_neg h] at e
  unfold ord ctn
  rw [e]
  simp
theorem ord_mem {D : Nat → Nat} {b k : Nat} (hb : b ≤ 8) (h : k < ctn D b) : ord D k ∈ sl D b := by
  obtain ⟨t, e⟩ := sl_pre D (8 - b) b
  rw [show b + (8 - b) = 8 by omega] at e
  unfold ord
  unfold ctn at h
  rw [e, List.getD_eq_getElem?_getD, List.getElem?_append_left h, List.getElem?_eq_getElem h]
  exact List.getElem_mem h
theorem ord_lt {D : Nat → Nat} {b k : Nat} (hb : b ≤ 8) (h : k < ctn D b) : ord D k < b ∧ ¬ D (17 + 4 * ord D k) = 0 := by
  have := ord_mem hb h
  unfold sl at this
  have := List.mem_filter.mp this
  exact ⟨List.mem_range.mp this.1, by simpa using this.2⟩
/-- the bar ahead of the next one: whether it sounds -/
theorem ord_adj {D : Nat → Nat} {b : Nat} (hb : b < 8) (h : ¬ D (17 + 4 * b) = 0) : adj (ord D) (ctn D b) ↔ 0 < b ∧ ¬ D (17 + 4 * (b - 1)) = 0 := by
  have e := ord_ct hb h
  constructor
  · rintro ⟨h1, h2⟩
    rw [e] at h2
    have := ord_lt (D := D) (b := b) (k := ctn D b - 1) (by omega) (by omega)
    refine ⟨by omega, ?_⟩
    rw [show b - 1 = ord D (ctn D b - 1) by omega]
    exact this.2
  · rintro ⟨h1, h2⟩
    have e1 := ct_note (D := D) (b := b - 1) h2
    rw [show b - 1 + 1 = b by omega] at e1
    have e2 := ord_ct (D := D) (b := b - 1) (by omega) h2
    refine ⟨by omega, ?_⟩
    rw [e, show ctn D b - 1 = ctn D (b - 1) by omega, e2]
    omega
/-- what is used by choices (the last one first) -/
def uu (D : Nat → Nat) : List Nat → Nat → Nat
  | [], _ => 0
  | c :: cs, s => (if c = s then lenD D (ord D cs.length) else 0) + uu D cs s
theorem lf_uu (D lim : Nat → Nat) : ∀ (cs : List Nat) (s : Nat), lf (ord D) (lenD D) lim cs s = lim s - uu D cs s := by
  intro cs
  induction cs with
  | nil => intro s; rfl
  | cons c cs ih =>
    intro s
    simp only [lf, sb1, uu]
    rw [ih]
    by_cases e : s = c
    · rw [if_pos e, if_pos e.symm]; omega
    · rw [if_neg e, if_neg (fun z => e z.symm)]; omega
theorem us_app (D : Nat → Nat) (s : Nat) : ∀ (a : List Nat) (k c : Nat), us (ord D) (lenD D) s k (a ++ [c]) = us (ord D) (lenD D) s k a + (if c = s then lenD D (ord D (k + a.length)) else 0) := by
  intro a
  induction a with
  | nil => intro k c; simp [us]
  | cons x a ih =>
    intro k c
    rw [List.cons_append, us, us, ih, List.length_cons, show k + 1 + a.length = k + (a.length + 1) by omega]
    omega
theorem us_rev (D : Nat → Nat) (s : Nat) : ∀ (ws : List Nat), us (ord D) (lenD D) s 0 ws.reverse = uu D ws s := by
  intro ws
  induction ws with
  | nil => rfl
  | cons c ws ih =>
    rw [List.reverse_cons, us_app, ih, uu, List.length_reverse, Nat.zero_add]
    omega
theorem uu_le (D : Nat → Nat) (B : Nat) : ∀ (ws : List Nat) (s : Nat), (∀ k, k < ws.length → lenD D (ord D k) ≤ B) → uu D ws s ≤ B * ws.length := by
  intro ws
  induction ws with
  | nil => intro s _; exact Nat.zero_le _
  | cons c ws ih =>
    intro s h
    have h1 := ih s (fun k hk => h k (by simp; omega))
    have h2 := h ws.length (by simp)
    rw [uu, List.length_cons, Nat.mul_succ]
    by_cases e : c = s
    · rw [if_pos e]; omega
    · rw [if_neg e]; omega
/-- who may sing a bar, by the reference -/
def okR (D : Nat → Nat) (set : Nat) (s b : Nat) : Bool := decide (set.testBit s = true ∧ (s < D 2 → zre D s (D (17 + 4 * b)) 0))
/-- what the search has laid ready -/
def GC (h : HS) (q : Nat) (D : Nat → Nat) (n set : Nat) (lim : Nat → Nat) : Prop :=
  RH h q D ∧ n ≤ 8 ∧ (∀ k, k < n → ord D k < D 1) ∧ h.1 237 20 = nI n ∧ h.1 237 22 = nI set ∧ set < 2 ^ 31 ∧
  (∀ k, k < n → h.1 241 k = nI (ord D k)) ∧ (∀ s, s < 6 → lim s ≤ 99999999 ∧ h.1 244 s = nI (lim s))
/-- the search's state: choices ahead (the last first), the one under way, what is charged -/
def GX (h : HS) (q : Nat) (D : Nat → Nat) (n set : Nat) (lim : Nat → Nat) (cs : List Nat) (cur : Int32) (ws : List Nat) : Prop :=
  GC h q D n set lim ∧ h.1 237 21 = nI cs.length ∧ cs.length < n ∧ (∀ c ∈ cs, c < 6) ∧ (∀ i, i < cs.length → h.1 242 i = nI (cs.reverse.getD i 0)) ∧
  h.1 242 cs.length = cur ∧ ∀ s, s < 6 → uu D ws s ≤ lim s ∧ h.1 243 s = nI (uu D ws s)
def SF (h h' : HS) : Prop := (∀ k, k ≠ 237 → k ≠ 241 → k ≠ 242 → k ≠ 243 → k ≠ 244 → h'.1 k = h.1 k) ∧ (∀ j, j ≠ 20 → j ≠ 21 → j ≠ 22 → h'.1 237 j = h.1 237 j) ∧ h'.2 = h.2
theorem SF.refl (h : HS) : SF h h := ⟨fun _ _ _ _ _ _ => rfl, fun _ _ _ _ => rfl, rfl⟩
theorem SF.trans {a b c : HS} (x : SF a b) (y : SF b c) : SF a c := ⟨fun k h1 h2 h3 h4 h5 => (y.1 k h1 h2 h3 h4 h5).trans (x.1 k h1 h2 h3 h4 h5), fun j h1 h2 h3 => (y.2.1 j h1 h2 h3).trans (x.2.1 j h1 h2 h3), y.2.2.trans x.2.2⟩
theorem SF_same {h h' : HS} (f : SF h h') : Same h h' := fun k hk => f.1 k (by omega) (by omega) (by omega) (by omega) (by omega)
theorem SF_rh {h h' : HS} (f : SF h h') {q : Nat} {D : Nat → Nat} (c : RH h q D) : RH h' q D := by
  obtain ⟨c1, c2, c3, c4, c5, c6, c7⟩ := c
  refine ⟨c1, c2, ?_, ?_, ?_, ?_, ?_⟩
  · rw [f.2.1 _ (by decide) (by decide) (by decide)]; exact c3
  · rw [f.2.1 _ (by decide) (by decide) (by decide)]; exact c4
  · rw [f.2.1 _ (by decide) (by decide) (by decide)]; exact c5
  · rw [f.2.1 _ (by decide) (by decide) (by decide)]; exact c6
  · rw [f.1 238 (by decide) (by decide) (by decide) (by decide) (by decide)]; exact c7
theorem wi_q (h : HS) {k j a b : Nat} (x : Int32) (e : a ≠ k ∨ b ≠ j) : (wi h k j x).1 a b = h.1 a b := by
  unfold wi
  by_cases z : a = k
  · have : b ≠ j := e.resolve_left (fun w => w z)
    simp [this]
  · simp [z]
theorem SF_w {h : HS} {k j : Nat} (x : Int32) (e : k = 241 ∨ k = 242 ∨ k = 243 ∨ k = 244 ∨ (k = 237 ∧ (j = 20 ∨ j = 21 ∨ j = 22))) : SF h (wi h k j x) := by
  refine ⟨fun a h1 h2 h3 h4 h5 => wi_k _ _ (by omega), fun b h1 h2 h3 => wi_q _ _ (by omega), rfl⟩
theorem nI_ic {c L : Nat} (h : c < L) (hc : c < 2 ^ 31) : ¬ (nI c < 0 ∨ L ≤ c) := by
  rintro (z | z)
  · exact nI_pos hc z
  · omega
theorem eqm1 {a b : Nat} (ha : a < 2 ^ 30) (hb : b < 2 ^ 30) : (nI a = nI b - 1) ↔ a + 1 = b := by
  rw [← Int32.toInt_inj, nI_toInt (by omega), show (nI b - 1).toInt = (b : Int) - 1 from pk_sub_toInt (b := 1) hb (by decide)]
  omega
section GO
variable {N : Nat} {h : HS} {q : Nat} {D : Nat → Nat} {n set : Nat} {lim : Nat → Nat} {cs : List Nat} {cur : Int32} {ws : List Nat}
theorem GC_SF {h' : HS} (f : SF h h') (e0 : h'.1 237 20 = h.1 237 20) (e2 : h'.1 237 22 = h.1 237 22) (e1 : h'.1 241 = h.1 241) (e4 : h'.1 244 = h.1 244) (g : GC h q D n set lim) : GC h' q D n set lim := by
  obtain ⟨g1, g2, g3, g4, g5, g6, g7, g8⟩ := g
  refine ⟨SF_rh f g1, g2, g3, by rw [e0]; exact g4, by rw [e2]; exact g5, g6, by rw [e1]; exact g7, by rw [e4]; exact g8⟩
theorem gbar (g : GC h q D n set lim) {k : Nat} (hk : k < n) : ord D k < D 1 ∧ ord D k < 8 ∧ 1 ≤ lenD D (ord D k) ∧ lenD D (ord D k) ≤ 4 ∧ D (17 + 4 * ord D k) ≤ 9 := by
  have h1 := g.2.2.1 k hk
  have h2 := hkB g.1.1 h1
  have h3 := hk0 g.1.1
  unfold lenD
  omega
/-- may s sing at the level at which the search stands -/
abbrev AL (D : Nat → Nat) (set : Nat) (lim : Nat → Nat) (cs : List Nat) (s : Nat) : Prop := okR D set s (ord D cs.length) = true ∧ lenD D (ord D cs.length) ≤ lf (ord D) (lenD D) lim cs s ∧ ¬ (adj (ord D) cs.length ∧ s = pv cs)
theorem r_b86 (g : GX h q D n set lim cs cur cs) {s : Nat} (hs : s < 6) : X11_maySing_b86 N h 237 (nI s) (nI (ord D cs.length)) = some (nB (lenD D (ord D cs.length) ≤ lf (ord D) (lenD D) lim cs s)) := by
  obtain ⟨g0, g1, g2, g3, g4, g5, g6⟩ := g
  have hb := gbar g0 g2
  obtain ⟨u1, u2⟩ := g6 s hs
  obtain ⟨l1, l2⟩ := g0.2.2.2.2.2.2.2 s hs
  unfold X11_maySing_b86
  rw [if_neg (nI_in hs (by decide)), r_longOf g0.1 hb.2.1, bd1_some, if_neg (nI_in hs (by decide)), nI_clamp (by omega), show h.1 (237 + 7) s = _ from l2, show h.1 (237 + 6) s = _ from u2, nI_add, lf_uu]
  have e : (nI (lim s) < nI (uu D cs s + D (18 + 4 * ord D cs.length))) = (lim s < uu D cs s + lenD D (ord D cs.length)) := by
    apply propext
    unfold lenD at hb ⊢
    rw [nI_ltI (by omega) (by omega)]
  simp only [e]
  by_cases z : lim s < uu D cs s + lenD D (ord D cs.length)
  · rw [if_pos z, nB_f (by omega)]; rfl
  · rw [if_neg z, nB_t (by omega)]; rfl
theorem r_b45 (g : GX h q D n set lim cs cur cs) {s : Nat} (hs : s < 6) : X11_maySing_b45 N h 237 (nI s) (nI (ord D cs.length)) = some (nB (lenD D (ord D cs.length) ≤ lf (ord D) (lenD D) lim cs s ∧ ¬ (adj (ord D) cs.length ∧ s = pv cs))) := by
  unfold X11_maySing_b45
  rw [r_b86 g hs]
  obtain ⟨g0, g1, g2, g3, g4, g5, g6⟩ := g
  have hb := gbar g0 g2
  have hn := g0.2.1
  rw [g1]
  cases cs with
  | nil =>
    rw [if_pos (by decide)]
    refine congrArg some (nB_eq ⟨fun z => ⟨z, fun w => absurd w.1.1 (by simp)⟩, fun z => z.1⟩)
  | cons c cs =>
    have hl : (c :: cs).length = cs.length + 1 := rfl
    rw [hl] at g2 hb ⊢
    have e1 : nI (cs.length + 1) - 1 = nI cs.length := nI_pred _
    have hb2 := gbar g0 (k := cs.length) (by omega)
    have ea : h.1 (237 + 4) cs.length = nI (ord D cs.length) := g0.2.2.2.2.2.2.1 cs.length (by omega)
    have ec : h.1 (237 + 5) cs.length = nI c := by
      have := g4 cs.length (by simp)
      rw [show (237 + 5 : Nat) = 242 from rfl, this]
      simp
    rw [if_neg (nI_nle (by omega) (by omega)), e1, if_neg (nI_in (by omega) (by decide)), if_neg (nI_in (by omega) (by decide)), nI_clamp (by omega), ea, ec]
    have e2 : (nI (ord D cs.length) = nI (ord D (cs.length + 1)) - 1) = (adj (ord D) (cs.length + 1)) := by
      apply propext
      rw [eqm1 (by omega) (by omega)]
      unfold adj
      rw [Nat.add_sub_cancel]
      exact ⟨fun z => ⟨by omega, z⟩, fun z => z.2⟩
    have e3 : (nI c = nI s) = (s = pv (c :: cs)) := by
      apply propext
      have := g3 c (by simp)
      rw [nI_eq (by omega) (by omega)]
      exact ⟨fun z => z.symm, fun z => z.symm⟩
    simp only [e2, e3]
    by_cases z : adj (ord D) (cs.length + 1)
    · rw [if_pos z]
      by_cases y : s = pv (c :: cs)
      · rw [if_pos y, nB_f (fun w => w.2 ⟨z, y⟩)]; rfl
      · rw [if_neg y]; exact congrArg some (nB_eq ⟨fun w => ⟨w, fun v => y v.2⟩, fun w => w.1⟩)
    · rw [if_neg z]; exact congrArg some (nB_eq ⟨fun w => ⟨w, fun v => z v.1⟩, fun w => w.1⟩)
theorem r_maySing (g : GX h q D n set lim cs cur cs) {s : Nat} (hs : s < 6) : X11_maySing N h 237 (nI s) = some (nB (AL D set lim cs s)) := by
  have e45 := r_b45 (N := N) g hs
  obtain ⟨g0, g1, g2, g3, g4, g5, g6⟩ := g
  have hb := gbar g0 g2
  have hn := g0.2.1
  have hk := hk0 g0.1.1
  unfold X11_maySing
  rw [g1, if_neg (nI_in (by omega) (by decide)), nI_clamp (by omega), g0.2.2.2.2.1, bi_n g0.2.2.2.2.2.1 (by omega), show h.1 (237 + 4) cs.length = nI (ord D cs.length) from g0.2.2.2.2.2.2.1 _ g2, e45, r_noteOf g0.1 hb.2.1, bd1_some]
  simp only [nB_0]
  by_cases z : set.testBit s = true
  · rw [if_neg (fun w => w z), rh2 g0.1]
    by_cases y : s < D 2
    · rw [if_neg (nI_ge y (by omega)), show X11_reaches N h 237 (nI s) (nI (D (17 + 4 * ord D cs.length))) 0 = _ from r_reachesN (k := 0) g0.1 y (by omega) (by decide), bd1_some]
      simp only [nB_0]
      by_cases x : zre D s (D (17 + 4 * ord D cs.length)) 0
      · rw [if_neg (fun w => w x)]
        exact congrArg some (nB_eq ⟨fun w => ⟨by unfold okR; exact decide_eq_true ⟨z, fun _ => x⟩, w⟩, fun w => w.2⟩)
      · rw [if_pos x, nB_f (fun w => by have := w.1; unfold okR at this; exact x ((of_decide_eq_true this).2 y))]; rfl
    · rw [if_pos (nI_le (by omega) (by omega))]
      exact congrArg some (nB_eq ⟨fun w => ⟨by unfold okR; exact decide_eq_true ⟨z, fun v => absurd v y⟩, w⟩, fun w => w.2⟩)
  · rw [if_pos z, nB_f (fun w => by have := w.1; unfold okR at this; exact z (of_decide_eq_true this).1)]; rfl
theorem GX_cur (g : GX h q D n set lim cs cur ws) (x : Int32) : GX (wi h 242 cs.length x) q D n set lim cs x ws := by
  obtain ⟨g0, g1, g2, g3, g4, g5, g6⟩ := g
  refine ⟨GC_SF (SF_w x (by omega)) (wi_q _ _ (by omega)) (wi_q _ _ (by omega)) (wi_k _ _ (by decide)) (wi_k _ _ (by decide)) g0, ?_, g2, g3, ?_, ?_, ?_⟩
  · rw [wi_k _ _ (by decide)]; exact g1
  · intro i hi
    rw [wi_q _ _ (by omega)]; exact g4 i hi
  · exact wi_s _ _ _ _
  · rw [wi_k _ _ (by decide)]; exact g6
theorem r_l96 (K : HS → Nat → Option (Int32 × HS)) : ∀ (r e m : Nat) (h : HS), e + r = 6 → r < m → GX h q D n set lim cs (nI e) cs →
    ∃ s h', e ≤ s ∧ s ≤ 6 ∧ (∀ j, e ≤ j → j < s → ¬ AL D set lim cs j) ∧ (s < 6 → AL D set lim cs s) ∧
      X11_goesOn_l96 N K m h 237 (nI (ord D cs.length)) = X11_goesOn_b142 N h' K 237 (nI (ord D cs.length)) ∧ GX h' q D n set lim cs (nI s) cs ∧ SF h h' := by
  intro r
  induction r with
  | zero =>
    intro e m h he hm g
    obtain ⟨m, rfl, _⟩ := fuel hm
    have hn := g.1.2.1
    refine ⟨6, h, by omega, by omega, fun j h1 h2 => by omega, fun h => by omega, ?_, by rw [show 6 = e by omega]; exact g, SF.refl h⟩
    rw [X11_goesOn_l96, g.2.1, if_neg (nI_in (by have := g.2.2.1; omega) (by decide)), nI_clamp (by have := g.2.2.1; omega), show h.1 (237 + 5) cs.length = nI e from g.2.2.2.2.2.1, if_pos (show (6 : Int32) ≤ nI e from nI_le (a := 6) (by omega) (by omega))]
  | succ r ih =>
    intro e m h he hm g
    obtain ⟨m, rfl, _⟩ := fuel hm
    have hn := g.1.2.1
    have hl := g.2.2.1
    have ec : h.1 (237 + 5) cs.length = nI e := g.2.2.2.2.2.1
    by_cases z : AL D set lim cs e
    · refine ⟨e, h, by omega, by omega, fun j h1 h2 => by omega, fun _ => z, ?_, g, SF.refl h⟩
      rw [X11_goesOn_l96, g.2.1, if_neg (nI_in (by omega) (by decide)), nI_clamp (by omega), ec, if_neg (show ¬ (6 : Int32) ≤ nI e from nI_ge (b := 6) (by omega) (by decide)), if_neg (nI_ic (by omega) (by omega)), r_maySing g (by omega), bd1_some, nB_t z, if_neg one0]
    · obtain ⟨s, h', a1, a2, a3, a4, a5, a6, a7⟩ := ih (e + 1) m _ (by omega) (by omega) (GX_cur g (nI (e + 1)))
      refine ⟨s, h', by omega, a2, fun j h1 h2 => ?_, a4, ?_, a6, SF.trans (SF_w _ (by omega)) a7⟩
      · by_cases y : j = e
        · rw [y]; exact z
        · exact a3 j (by omega) h2
      · rw [X11_goesOn_l96, g.2.1, if_neg (nI_in (by omega) (by decide)), nI_clamp (by omega), ec, if_neg (show ¬ (6 : Int32) ≤ nI e from nI_ge (b := 6) (by omega) (by decide)), if_neg (nI_ic (by omega) (by omega)), r_maySing g (by omega), bd1_some, nB_f z, if_pos rfl, if_neg (nI_ic (by omega) (by omega)), if_neg (nI_ic (by omega) (by omega)), sq_eq, nI_1]
        exact a5
/-- the search at the head of its loop: e is the next singer that is tried -/
abbrev HD (h : HS) (q : Nat) (D : Nat → Nat) (n set : Nat) (lim : Nat → Nat) (cs : List Nat) (e : Nat) : Prop := e ≤ 6 ∧ GX h q D n set lim cs (if e = 0 then -1 else nI (e - 1)) (if e = 0 then cs else (e - 1) :: cs)
theorem uu_cons (c s : Nat) (cs : List Nat) : uu D (c :: cs) s = (if c = s then lenD D (ord D cs.length) else 0) + uu D cs s := rfl
/-- from the loop's head to the search for the next singer -/
theorem r_head {K : Nat} {e : Nat} (g : HD h q D n set lim cs e) : ∃ h', X11_goesOn_l31 N (K + 1) h 237 = X11_goesOn_l96 N (X11_goesOn_l31 N K) N h' 237 (nI (ord D cs.length)) ∧ GX h' q D n set lim cs (nI e) cs ∧ SF h h' := by
  obtain ⟨he, g⟩ := g
  have hn := g.1.2.1
  have hl := g.2.2.1
  have hb := gbar g.1 hl
  have eo : h.1 (237 + 4) cs.length = nI (ord D cs.length) := g.1.2.2.2.2.2.2.1 _ hl
  have ec := g.2.2.2.2.2.1
  rw [X11_goesOn_l31]
  rw [g.2.1, if_neg (nI_pos (by omega)), if_neg (nI_in (by omega) (by decide)), if_neg (nI_in (by omega) (by decide)), nI_clamp (by omega), eo]
  by_cases z : e = 0
  · subst z
    rw [if_pos rfl] at ec
    rw [if_pos rfl, if_pos rfl] at g
    rw [show h.1 (237 + 5) cs.length = -1 from ec, if_pos rfl, if_neg (nI_ic (by omega) (by omega)), if_neg (nI_ic (by omega) (by omega)), sq_eq]
    exact ⟨_, rfl, GX_cur g _, SF_w _ (by omega)⟩
  · rw [if_neg z] at ec
    rw [if_neg z, if_neg z] at g
    obtain ⟨g0, g1, g2, g3, g4, g5, g6⟩ := g
    obtain ⟨u1, u2⟩ := g6 (e - 1) (by omega)
    rw [show h.1 (237 + 5) cs.length = nI (e - 1) from ec, if_neg (nI_m1 (by omega)), if_neg (nI_ic (by omega) (by omega)), if_neg (nI_in (by omega) (by decide)), r_longOf g0.1 hb.2.1, bd1_some, if_neg (nI_in (by omega) (by decide)), sq_eq, nI_clamp (by omega)]
    have e1 : h.1 (237 + 6) (e - 1) - nI (D (18 + 4 * ord D cs.length)) = nI (uu D cs (e - 1)) := by
      rw [show h.1 (237 + 6) (e - 1) = _ from u2, uu_cons, if_pos rfl]
      unfold lenD
      rw [pk_sub (by omega)]
      congr 1
      omega
    rw [e1]
    generalize hw : wi h (237 + 6) (e - 1) (nI (uu D cs (e - 1))) = w
    have w1 : w.1 237 21 = nI cs.length := by rw [← hw, wi_k _ _ (by decide)]; exact g1
    have gw : GX w q D n set lim cs (nI (e - 1)) cs := by
      refine ⟨?_, w1, g2, g3, ?_, ?_, ?_⟩
      · rw [← hw]; exact GC_SF (SF_w _ (by omega)) (wi_q _ _ (by omega)) (wi_q _ _ (by omega)) (wi_k _ _ (by decide)) (wi_k _ _ (by decide)) g0
      · rw [← hw, wi_k _ _ (by decide)]; exact g4
      · rw [← hw, wi_k _ _ (by decide)]; exact ec
      · intro s hs
        obtain ⟨v1, v2⟩ := g6 s hs
        rw [uu_cons] at v1 v2
        refine ⟨by omega, ?_⟩
        by_cases y : s = e - 1
        · rw [← hw, y]; exact wi_s _ _ _ _
        · rw [← hw, wi_j _ _ y, show h.1 (237 + 6) s = _ from v2, if_neg (fun z => y z.symm), Nat.zero_add]
    rw [w1, if_neg (nI_in (by omega) (by decide)), if_neg (nI_in (by omega) (by decide)), sq_eq, nI_clamp (by omega), show w.1 (237 + 5) cs.length = nI (e - 1) from gw.2.2.2.2.2.1, nI_1, show e - 1 + 1 = e by omega]
    refine ⟨_, rfl, GX_cur gw _, SF.trans ?_ (SF_w _ (by omega))⟩
    rw [← hw]; exact SF_w _ (by omega)
end GO
