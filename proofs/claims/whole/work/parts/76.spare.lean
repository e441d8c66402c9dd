/-! ===== level 2: sung, far, spare ===== -/
section SPA
variable {N : Nat} {p q : Nat} {D : Nat → Nat}
def cx (x : List Nat) (s : Nat) : Nat → Nat
  | 0 => 0
  | k + 1 => cx x s k + (if x.getD k 0 = s then 1 else 0)
theorem cx_le (x : List Nat) (s : Nat) : ∀ k, cx x s k ≤ k := by
  intro k
  induction k with
  | zero => exact Nat.le_refl _
  | succ k ih =>
    rw [cx]
    by_cases z : x.getD k 0 = s
    · rw [if_pos z]; omega
    · rw [if_neg z]; omega
theorem gd_lt {x : List Nat} {B : Nat} (hB : 0 < B) (hx : ∀ c ∈ x, c < B) (j : Nat) : x.getD j 0 < B := by
  rw [List.getD_eq_getElem?_getD]
  by_cases y : j < x.length
  · rw [List.getElem?_eq_getElem y]; exact hx _ (List.getElem_mem y)
  · rw [List.getElem?_eq_none (by omega)]; exact hB
/-- the row at a bar -/
theorem RW_at {h : HS} {m b : Nat} {x : List Nat} (hm : m ≤ 8) (r : RW h D m 0 x) (hb : b < m) : h.1 183 b = if D (17 + 4 * b) = 0 then -1 else nI (x.getD (ctn D b) 0) := by
  by_cases z : D (17 + 4 * b) = 0
  · rw [if_pos z]; exact r.2 b (by omega) hb z
  · have e3 := ord_ct (D := D) (b := b) (by omega) z
    have e1 := ct_note z
    have e2 := ct_mono (D := D) (show b + 1 ≤ m by omega)
    have := r.1 (ctn D b) (by rw [ct_0]; omega)
    rw [ct_0, Nat.zero_add, e3] at this
    rw [if_neg z, this]
theorem c_barsOf {h : HS} {m sg s : Nat} {x : List Nat} (hN : 100 ≤ N) (c : KC h p D m sg) (r : RW h D m 0 x) (hx : ∀ c ∈ x, c < 6) (hs : s < 6) : X5_barsOf N h 171 (nI s) = some (nI (cx x s (ctn D m))) := by
  have hk := hk0 c.2.1.2.1
  have hm := c.2.2.1
  have key : ∀ (r' i fu : Nat), i + r' = m → r' < fu → X5_barsOf_l4 N h fu 171 (nI s) (nI (cx x s (ctn D i))) (nI i) = some (nI (cx x s (ctn D m))) := by
    intro r'
    induction r' with
    | zero =>
      intro i fu e hf
      obtain ⟨fu, rfl, _⟩ := fuel hf
      rw [X5_barsOf_l4, c.2.2.2.1, if_pos (nI_le (by omega) (by omega)), show i = m by omega]
    | succ r' ih =>
      intro i fu e hf
      obtain ⟨fu, rfl, _⟩ := fuel hf
      rw [X5_barsOf_l4, c.2.2.2.1, if_neg (nI_ge (by omega) (by omega)), at_in ln183 (by decide) (by omega), bd1_some, show h.1 (171 + 12) i = _ from RW_at (by omega) r (show i < m by omega), nI_1, nI_1, ← ih (i + 1) fu (by omega) (by omega)]
      by_cases z : D (17 + 4 * i) = 0
      · rw [if_pos z, if_neg (fun w => nI_m1 (show s < 2 ^ 31 by omega) w.symm), ct_rest z]
      · have hlt := gd_lt (B := 6) (by decide) hx (ctn D i)
        rw [if_neg z, ct_note z, cx]
        by_cases y : x.getD (ctn D i) 0 = s
        · rw [if_pos (by rw [y]), if_pos y]
        · rw [if_neg (fun w => y ((nI_eq (by omega) (by omega)).mp w)), if_neg y]; rfl
  exact key m 0 N (by omega) (by omega)
/-- who dreams -/
def dv (D : Nat → Nat) (x : List Nat) (s : Nat) : Nat → Nat
  | 0 => 0
  | k + 1 => if x.getD k 0 = s ∧ ¬ zre D s (D (17 + 4 * ord D k)) 2 then dv D x s k ||| 2 ^ D (19 + 4 * ord D k) else dv D x s k
theorem dv_lt (k : HK D) (x : List Nat) (s : Nat) : ∀ n, (∀ i, i < n → ord D i < D 1) → dv D x s n < 2 ^ 6 := by
  have hk := hk0 k
  intro n
  induction n with
  | zero => intro _; show (0 : Nat) < 2 ^ 6; decide
  | succ n ih =>
    intro h
    have h1 := ih (fun i hi => h i (by omega))
    have hB := hkB k (h n (by omega))
    rw [dv]
    by_cases z : x.getD n 0 = s ∧ ¬ zre D s (D (17 + 4 * ord D n)) 2
    · rw [if_pos z]; exact or_lt 6 h1 (by omega)
    · rw [if_neg z]; exact h1
theorem c_coldDreams {h : HS} {m sg s : Nat} {x : List Nat} (hN : 100 ≤ N) (c : KC h p D m sg) (r : RW h D m 0 x) (hl : x.length = ctn D m) (hx : ∀ c ∈ x, c < D 2) (hs : s < 6) : X5_coldDreams N h 171 (nI s) = some (nI (dv D x s (ctn D m))) := by
  have hk := hk0 c.2.1.2.1
  have hm := c.2.2.1
  have hP := c.2.1.1
  have key : ∀ (r' i fu : Nat), i + r' = m → r' < fu → X5_coldDreams_l4 N h fu 171 (nI s) (nI (dv D x s (ctn D i))) (nI i) = some (nI (dv D x s (ctn D m))) := by
    intro r'
    induction r' with
    | zero =>
      intro i fu e hf
      obtain ⟨fu, rfl, _⟩ := fuel hf
      rw [X5_coldDreams_l4, c.2.2.2.1, if_pos (nI_le (by omega) (by omega)), show i = m by omega]
    | succ r' ih =>
      intro i fu e hf
      obtain ⟨fu, rfl, _⟩ := fuel hf
      have hB := hkB c.2.1.2.1 (show i < D 1 by omega)
      rw [X5_coldDreams_l4, c.2.2.2.1, if_neg (nI_ge (by omega) (by omega)), c.1, c_sounds c.2.1 (by omega), bd1_some, nI_1, ← ih (i + 1) fu (by omega) (by omega)]
      simp only [nB_0]
      by_cases z : D (17 + 4 * i) = 0
      · rw [if_pos (fun w : zsn D i => w.2 z), ct_rest z]
      · have hz : zsn D i := ⟨by omega, z⟩
        have e1 := ct_note z
        have e2 := ct_mono (D := D) (show i + 1 ≤ m by omega)
        have e3 := ord_ct (D := D) (b := i) (by omega) z
        rw [if_neg (fun w => w hz), at_in ln183 (by decide) (by omega), bd1_some, show h.1 (171 + 12) i = _ from RW_at (by omega) r (show i < m by omega), if_neg z, e1, dv, e3]
        have hgl : x.getD (ctn D i) 0 < D 2 := by
          rw [List.getD_eq_getElem?_getD, List.getElem?_eq_getElem (by omega)]
          exact hx _ (List.getElem_mem _)
        by_cases y : x.getD (ctn D i) 0 = s
        · rw [if_pos (by rw [y]), at_in hP.2.2.1 (by decide) (by omega), bd1_some, chNo c.2.1 (by omega), (c_reaches c.2.1 (by omega) (by omega)).2, bd1_some]
          simp only [nB_0]
          by_cases w : zre D s (D (17 + 4 * i)) 2
          · rw [if_neg (fun v => v ⟨by omega, w⟩), if_neg (fun v => v.2 w)]
          · rw [if_pos (fun v => w v.2), if_pos ⟨y, w⟩, at_in hP.2.2.2.2.1 (by decide) (by omega), bd1_some, chGr c.2.1 (by omega), one_shl _ (by omega), nx_or]
        · rw [if_neg (fun w => y ((nI_eq (by omega) (by omega)).mp w)), if_neg (fun v => y v.1)]
  exact key m 0 N (by omega) (by omega)
theorem r_dreams {h : HS} {m set s : Nat} {lim : Nat → Nat} {x : List Nat} (hN : 100 ≤ N) (t : TD h q D (ctn D m) set lim x) (hm : m ≤ D 1) (hx : ∀ c ∈ x, c < D 2) (hs : s < 6) : X11_dreamsBy_l22 N N h 237 (nI s) 0 0 = some (nI (dv D x s (ctn D m)), h) := by
  obtain ⟨g, t1, t2, t3, t4⟩ := t
  have hk := hk0 g.1.1
  have hn := g.2.1
  have key : ∀ (r k fu : Nat), k + r = ctn D m → r < fu → X11_dreamsBy_l22 N fu h 237 (nI s) (nI (dv D x s k)) (nI k) = some (nI (dv D x s (ctn D m)), h) := by
    intro r
    induction r with
    | zero =>
      intro k fu e hf
      obtain ⟨fu, rfl, _⟩ := fuel hf
      rw [X11_dreamsBy_l22, g.2.2.2.1, if_pos (nI_le (by omega) (by omega)), show k = ctn D m by omega]
    | succ r ih =>
      intro k fu e hf
      obtain ⟨fu, rfl, _⟩ := fuel hf
      have ho := g.2.2.1 k (by omega)
      have hB := hkB g.1.1 ho
      have hgl : x.getD k 0 < D 2 := by
        rw [List.getD_eq_getElem?_getD, List.getElem?_eq_getElem (by omega)]
        exact hx _ (List.getElem_mem _)
      rw [X11_dreamsBy_l22, g.2.2.2.1, if_neg (nI_ge (by omega) (by omega)), if_neg (nI_in (by omega) (by decide)), nI_clamp (by omega), show h.1 (237 + 5) k = _ from t3 k (by omega), if_neg (nI_ic (by omega) (by omega)), show h.1 (237 + 4) k = _ from g.2.2.2.2.2.2.1 k (by omega), r_noteOf g.1 (by omega), bd1_some, Int32.or_zero, nI_1, ← ih (k + 1) fu (by omega) (by omega), dv]
      by_cases y : x.getD k 0 = s
      · rw [if_pos (by rw [y]), show X11_reaches N h 237 (nI s) (nI (D (17 + 4 * ord D k))) 2 = _ from r_reachesN (k := 2) g.1 (show s < D 2 by omega) (by omega) (by decide), bd1_some]
        simp only [nB_0]
        by_cases w : zre D s (D (17 + 4 * ord D k)) 2
        · rw [if_neg (fun v => v w), if_neg (fun v => v.2 w)]
        · rw [if_pos w, if_neg (nI_ic (by omega) (by omega)), if_pos (show x.getD k 0 = s ∧ ¬ zre D s (D (17 + 4 * ord D k)) 2 from ⟨y, w⟩), r_floorOf g.1 (by omega), bd1_some, one_shl _ (by omega), nx_or]
      · rw [if_neg (fun w => y ((nI_eq (by omega) (by omega)).mp w)), if_neg (fun v => y v.1)]
  exact key (ctn D m) 0 N (by omega) (by omega)
theorem LR_ok {m more : Nat} {x : List Nat} (hx : x ∈ LR D m (EV D) more) : x.length = ctn D m ∧ (∀ c ∈ x, c < 6) ∧ ∀ c ∈ x, c < D 2 := by
  refine ⟨(CL_len _ _ _ _ x hx).1, (CL_len _ _ _ _ x hx).2, fun c hc => ?_⟩
  obtain ⟨b, hb⟩ := CL_ok _ _ _ _ x hx c hc
  unfold okR at hb
  have := (of_decide_eq_true hb).1
  rw [ev_bit] at this
  exact of_decide_eq_true this
/-- both find the same rota, or none -/
theorem both {h : HS} (hN : 1000000000 ≤ N) (c : KH h p D) {a : Int32} (e2 : ∀ h1, Same h h1 → ∃ h2, X11_isHouse N h1 237 a = some (1, h2) ∧ RH h2 q D ∧ Same h h2 ∧ (∀ k, k ≠ 237 → h2.1 k = h1.1 k)) :
    ∃ h1 h2, CF h h1 ∧ KC h1 p D (D 1) (D 2) ∧ X11_isHouse N h1 237 a = some (1, h2) ∧ RH h2 q D ∧ Same h h2 ∧
    ((X5_finds N h 171 p = some (0, h1) ∧ ∃ h3, X11_isRota N h2 237 (nI (D 1)) (nI (EV D)) 0 = some (0, h3) ∧ SF h2 h3) ∨
     (∃ x h3, X5_finds N h 171 p = some (1, h1) ∧ x.length = ctn D (D 1) ∧ (∀ c ∈ x, c < 6) ∧ (∀ c ∈ x, c < D 2) ∧ (∀ s, s < D 2 → us (ord D) (lenD D) s 0 x ≤ D (51 + 3 * s) ∧ h1.1 182 s = nI (D (51 + 3 * s) - us (ord D) (lenD D) s 0 x)) ∧ RW h1 D (D 1) 0 x ∧
        X11_isRota N h2 237 (nI (D 1)) (nI (EV D)) 0 = some (1, h3) ∧ SF h2 h3 ∧ TD h3 q D (ctn D (D 1)) (EV D) (limR D 0) x)) := by
  obtain ⟨h1, f1, k1, r1⟩ := c_finds (N := N) (by omega) c
  obtain ⟨h2, e3, rh, sm, _⟩ := e2 h1 (CF_same f1)
  have hk := hk0 c.2.1
  have eq := r_isRota (N := N) (m := D 1) (set := EV D) (more := 0) hN rh (Nat.le_refl _) (by decide) (by have := ev_lt c.2.1; omega)
  refine ⟨h1, h2, f1, k1, e3, rh, sm, ?_⟩
  rcases r1 with ⟨a1, a2⟩ | ⟨x, L', a1, a2, a3, a4⟩
  · rcases eq with ⟨b1, h3, b2, b3⟩ | ⟨x, L', h3, b1, _⟩
    · exact Or.inl ⟨a1, h3, b2, b3⟩
    · rw [a2] at b1; cases b1
  · rcases eq with ⟨b1, h3, b2, b3⟩ | ⟨y, L2, h3, b1, b2, b3, b4, b5⟩
    · rw [a2] at b1; cases b1
    · rw [a2] at b1
      have : x = y := by injection b1
      subst this
      obtain ⟨l1, l2, l3⟩ := LR_ok (D := D) (m := D 1) (more := 0) (x := x) (by rw [a2]; exact List.mem_cons_self ..)
      refine Or.inr ⟨x, h3, a1, l1, l2, l3, fun s hs => ⟨?_, a3 s hs⟩, a4, b2, b3, b5⟩
      have := (b5.2.2.2.2 s (by omega)).1
      unfold limR at this
      rw [if_pos hs] at this
      omega
end SPA
theorem q_sung {N : Nat} {h : HS} (I : INV h) (hN : 1000000000 ≤ N) (a b d : Int32) : ∃ r h1 h2, X10_sung N h 1 a b d = some (r, h1) ∧ X11_sung N h1 237 a b d = some (r, h2) ∧ Same h h2 := by
  unfold X10_sung X11_sung
  rcases opn (N := N) I a with ⟨e1, e2⟩ | ⟨p, q, D, e1, hp, c, e2⟩
  · exact ⟨-1, h, h, by rw [e1]; rfl, by rw [e2 h (Same.refl h)]; rfl, Same.refl h⟩
  · have hk := hk0 c.2.1
    rw [e1, bd1_some, if_neg hp]
    by_cases hb : ∃ s, s < D 2 ∧ b = nI s
    · obtain ⟨s, hs, rfl⟩ := hb
      rw [c_hasSinger c (by omega), bd1_some, nB_t hs, if_neg one0]
      obtain ⟨h1, h2, f1, k1, e3, rh, sm, r⟩ := both hN c e2
      have hd : ∀ h3, SF h2 h3 → Same h h3 := fun h3 f => Same.trans sm (SF_same f)
      rcases r with ⟨a1, h3, a2, a3⟩ | ⟨x, h3, a1, x1, x2, x3, x4, x5, a2, a3, a4⟩
      · refine ⟨-1, h1, h3, by rw [show X5_finds N h (1 + 170) p = _ from a1]; rfl, ?_, hd h3 a3⟩
        rw [e3, bd2_some, if_neg one0, r_isSinger rh (by omega), bd1_some, nB_t hs, if_neg one0, r_everybody rh, bd1_some, rh1 rh, a2]
        rfl
      · have key : ∀ (r k fu : Nat), k + r = ctn D (D 1) → r < fu → X11_sung_l40 N fu h3 237 (nI s) d (nI (cx x s k)) (nI k) = some (if d = 0 then nI (cx x s (ctn D (D 1))) else nI (D (51 + 3 * s) - us (ord D) (lenD D) s 0 x), h3) := by
          have hn := a4.1.2.1
          intro r
          induction r with
          | zero =>
            intro k fu e hf
            obtain ⟨fu, rfl, _⟩ := fuel hf
            rw [X11_sung_l40, a4.1.2.2.2.1, if_pos (nI_le (by omega) (by omega)), show k = ctn D (D 1) by omega]
            by_cases z : d = 0
            · rw [if_pos z, if_pos z]
            · rw [if_neg z, if_neg z, r_breathOf a4.1.1 (by omega), bd1_some, if_neg (nI_in (by omega) (by decide)), nI_clamp (by omega), show h3.1 (237 + 6) s = _ from (a4.2.2.2.2 s (by omega)).2, pk_sub (x4 s hs).1]
          | succ r ih =>
            intro k fu e hf
            obtain ⟨fu, rfl, _⟩ := fuel hf
            have hlt := gd_lt (B := 6) (by decide) x2 k
            rw [X11_sung_l40, a4.1.2.2.2.1, if_neg (nI_ge (by omega) (by omega)), if_neg (nI_in (by omega) (by decide)), nI_clamp (by omega), show h3.1 (237 + 5) k = _ from a4.2.2.2.1 k (by omega), Int32.add_zero, nI_1, nI_1, ← ih (k + 1) fu (by omega) (by omega), cx]
            by_cases y : x.getD k 0 = s
            · rw [if_pos (by rw [y]), if_pos y]
            · rw [if_neg (fun w => y ((nI_eq (by omega) (by omega)).mp w)), if_neg y]; rfl
        refine ⟨if d = 0 then nI (cx x s (ctn D (D 1))) else nI (D (51 + 3 * s) - us (ord D) (lenD D) s 0 x), h1, h3, ?_, ?_, hd h3 a3⟩
        · rw [show X5_finds N h (1 + 170) p = _ from a1, bd2_some, if_neg one0]
          by_cases z : d = 0
          · rw [if_pos z, if_pos z, show X5_barsOf N h1 (1 + 170) (nI s) = _ from c_barsOf (by omega) k1 x5 x2 (by omega)]
            rfl
          · rw [if_neg z, if_neg z]
            unfold X5_breathOf
            rw [show X10_at N h1 (1 + 170 + 11) (nI s) = _ from at_in ln182 (by decide) (by omega), bd1_some, bd1_some]
            exact congrArg (fun z => some (z, h1)) (x4 s hs).2
        · rw [e3, bd2_some, if_neg one0, r_isSinger rh (by omega), bd1_some, nB_t hs, if_neg one0, r_everybody rh, bd1_some, rh1 rh, a2, bd2_some, if_neg one0]
          exact key (ctn D (D 1)) 0 N (by omega) (by have := ct_le D (D 1); omega)
    · obtain ⟨h2, e3, rh, sm, _⟩ := e2 h (Same.refl h)
      have n1 : X1_hasSinger N h p b = some 0 := by
        rcases i_cases b with z | ⟨j, hj, rfl⟩
        · exact (c_neg z).2.2
        · rw [c_hasSinger c hj, nB_f (fun w => hb ⟨j, w, rfl⟩)]
      have n2 : X11_isSinger N h2 237 b = some 0 := by
        rcases i_cases b with z | ⟨j, hj, rfl⟩
        · exact (r_neg rh z).2.2
        · rw [r_isSinger rh hj, nB_f (fun w => hb ⟨j, w, rfl⟩)]
      exact ⟨-1, h, h2, by rw [n1]; rfl, by rw [e3, bd2_some, if_neg one0, n2]; rfl, sm⟩
section SPB
variable {N : Nat} {p q : Nat} {D : Nat → Nat}
/-- how far they get -/
def fwV (D : Nat → Nat) (loan : Nat) : Nat → Nat
  | 0 => 0
  | k + 1 => if LR D (k + 1) (EV D) loan = [] then fwV D loan k else k + 1
/-- one fill with a loan -/
theorem c_loan {h : HS} (hN : 100 ≤ N) (c : KH h p D) {loan v m : Nat} (hl : loan ≤ 20) (hv : v < 2 ^ 31) (hm : m = if v < D 1 then v else D 1) : ∃ h1 h', X5_seat N h 171 p (nI loan) (20 + nI loan) = some h1 ∧ CF h h' ∧ KC h' p D m (D 2) ∧
    ((X5_fills N h1 171 (nI v) = some (0, h') ∧ LR D m (EV D) loan = []) ∨ (X5_fills N h1 171 (nI v) = some (1, h') ∧ LR D m (EV D) loan ≠ [])) := by
  have hk := hk0 c.2.1
  obtain ⟨h1, e1, f1, _, e2, e3, e4⟩ := c_seat (N := N) hN c (loan := loan) (most := 20 + loan) (by omega) (by omega)
  have hle : ∀ s, s < D 2 → leftS D loan (20 + loan) s = D (51 + 3 * s) + loan := by
    intro s hs
    have := hkS c.2.1 hs
    unfold leftS
    omega
  have hm1 : m ≤ D 1 := by rw [hm]; by_cases z : v < D 1 <;> simp [z]; omega
  obtain ⟨h2, f2, k2, r2⟩ := c_fills (N := N) (m := m) (sg := D 2) (left := leftS D loan (20 + loan)) (v := v) hN hv e2 (CF_kh f1 c) e3 (by omega) (by omega) (fun s _ => by unfold leftS; omega) e4 hm
  have eL : LC D (D 2) m 0 (leftS D loan (20 + loan)) 9 = LR D m (EV D) loan := LCR_set c.2.1 hm1 (fun s hs => by rw [hle s hs, ev_bit, if_pos (decide_eq_true hs)]) (fun s hs => by rw [ev_bit]; exact decide_eq_false (by omega))
  rw [eL] at r2
  refine ⟨h1, h2, ?_, CF.trans f1 f2, k2, ?_⟩
  · rw [show (20 : Int32) + nI loan = nI (20 + loan) by rw [zn20, nI_add]]; exact e1
  · rcases r2 with ⟨a1, a2⟩ | ⟨x, L', a1, a2, _⟩
    · exact Or.inl ⟨a1, a2⟩
    · exact Or.inr ⟨a1, by rw [a2]; exact List.cons_ne_nil _ _⟩
theorem c_farWith {h : HS} (hN : 100 ≤ N) (c : KH h p D) {loan : Nat} (hl : loan ≤ 20) : ∃ h', X5_farWith N h 171 p (nI loan) = some (nI (fwV D loan (D 1)), h') ∧ CF h h' := by
  have hk := hk0 c.2.1
  have key : ∀ (k fu : Nat) (h' : HS), k ≤ D 1 → k < fu → CF h h' → ∃ h2, X5_farWith_l5 N fu h' 171 p (nI loan) (nI k) = some (nI (fwV D loan k), h2) ∧ CF h h2 := by
    intro k
    induction k with
    | zero =>
      intro fu h' _ hf f
      obtain ⟨fu, rfl, _⟩ := fuel hf
      refine ⟨h', ?_, f⟩
      rw [X5_farWith_l5, if_pos (by decide)]
      rfl
    | succ k ih =>
      intro fu h' hk1 hf f
      obtain ⟨fu, rfl, _⟩ := fuel hf
      obtain ⟨h1, h2, a1, a2, _, a3⟩ := c_loan (N := N) hN (CF_kh f c) (v := k + 1) (m := k + 1) hl (by omega) (by by_cases z : k + 1 < D 1 <;> simp [z]; omega)
      rw [X5_farWith_l5, if_neg (nI_nle (by omega) (by omega)), a1, bd1_some, fwV]
      rcases a3 with ⟨b1, b2⟩ | ⟨b1, b2⟩
      · rw [b1, bd2_some, if_pos rfl, if_pos b2, pk_m1]
        exact ih fu h2 (by omega) (by omega) (CF.trans f a2)
      · rw [b1, bd2_some, if_neg one0, if_neg b2]
        exact ⟨h2, rfl, CF.trans f a2⟩
  unfold X5_farWith
  rw [ch1 c]
  exact key (D 1) N h (Nat.le_refl _) (by omega) (CF.refl h)
theorem r_farBy {h : HS} (hN : 1000000000 ≤ N) (c : RH h q D) {loan : Nat} (hl : loan ≤ 20) : ∃ h', X11_farBy N h 237 (nI loan) = some (nI (fwV D loan (D 1)), h') ∧ SF h h' := by
  have hk := hk0 c.1
  have key : ∀ (k fu : Nat) (h' : HS), k ≤ D 1 → k < fu → SF h h' → ∃ h2, X11_farBy_l5 N fu h' 237 (nI loan) (nI k) = some (nI (fwV D loan k), h2) ∧ SF h h2 := by
    intro k
    induction k with
    | zero =>
      intro fu h' _ hf f
      obtain ⟨fu, rfl, _⟩ := fuel hf
      rw [X11_farBy_l5, r_everybody (SF_rh f c), bd1_some]
      rcases r_isRota (N := N) (m := 0) (set := EV D) (more := loan) hN (SF_rh f c) (by omega) (by omega) (by have := ev_lt c.1; omega) with ⟨b1, _⟩ | ⟨x, L', h3, b1, b2, b3, _⟩
      · cases b1
      · exact ⟨h3, by rw [show X11_isRota N h' 237 (nI 0) _ _ = _ from b2, bd2_some, if_neg one0]; rfl, SF.trans f b3⟩
    | succ k ih =>
      intro fu h' hk1 hf f
      obtain ⟨fu, rfl, _⟩ := fuel hf
      rw [X11_farBy_l5, r_everybody (SF_rh f c), bd1_some, fwV]
      rcases r_isRota (N := N) (m := k + 1) (set := EV D) (more := loan) hN (SF_rh f c) (by omega) (by omega) (by have := ev_lt c.1; omega) with ⟨b1, h3, b2, b3⟩ | ⟨x, L', h3, b1, b2, b3, _⟩
      · rw [b2, bd2_some, if_pos rfl, if_pos b1, pk_m1]
        exact ih fu h3 (by omega) (by omega) (SF.trans f b3)
      · rw [b2, bd2_some, if_neg one0, if_neg (by rw [b1]; exact List.cons_ne_nil _ _)]
        exact ⟨h3, rfl, SF.trans f b3⟩
  unfold X11_farBy
  rw [rh1 c]
  exact key (D 1) N h (Nat.le_refl _) (by omega) (SF.refl h)
/-- the first of r numbers from i on that is so -/
theorem zf_pos {P : Nat → Bool} {r i : Nat} (h : P i = true) : zf P (r + 1) i = some i := by rw [zf, if_pos h]
theorem zf_neg {P : Nat → Bool} {r i : Nat} (h : ¬ P i = true) : zf P (r + 1) i = zf P r (i + 1) := by rw [zf, if_neg h]
abbrev cuP (D : Nat → Nat) (n : Nat) : Bool := !(LR D (D 1) (EV D) n).isEmpty
theorem c_cure {h : HS} (hN : 100 ≤ N) (c : KH h p D) : ∃ h', X5_cure N h 171 p = some (oI (zf (cuP D) 21 0), h') ∧ CF h h' := by
  have hk := hk0 c.2.1
  have key : ∀ (r i fu : Nat) (h' : HS), i + r = 21 → r < fu → CF h h' → ∃ h2, X5_cure_l2 N fu h' 171 p (nI i) = some (oI (zf (cuP D) r i), h2) ∧ CF h h2 := by
    intro r
    induction r with
    | zero =>
      intro i fu h' e hf f
      obtain ⟨fu, rfl, _⟩ := fuel hf
      refine ⟨h', ?_, f⟩
      rw [X5_cure_l2, if_pos (show (20 : Int32) < nI i from nI_lt (a := 20) (by omega) (by omega))]
      rfl
    | succ r ih =>
      intro i fu h' e hf f
      obtain ⟨fu, rfl, _⟩ := fuel hf
      obtain ⟨h1, h2, a1, a2, _, a3⟩ := c_loan (N := N) hN (CF_kh f c) (loan := i) (v := 8) (m := D 1) (by omega) (by omega) (by by_cases z : 8 < D 1 <;> simp [z]; omega)
      rw [X5_cure_l2, if_neg (show ¬ (20 : Int32) < nI i from nI_nlt (a := 20) (by omega) (by decide)), a1, bd1_some]
      rcases a3 with ⟨b1, b2⟩ | ⟨b1, b2⟩
      · rw [show X5_fills N h1 171 8 = _ from b1, bd2_some, if_pos rfl, zf_neg (by simp [b2]), nI_1]
        exact ih (i + 1) fu h2 (by omega) (by omega) (CF.trans f a2)
      · rw [show X5_fills N h1 171 8 = _ from b1, bd2_some, if_neg one0, zf_pos (by simpa using b2)]
        exact ⟨h2, rfl, CF.trans f a2⟩
  exact key 21 0 N h (by omega) (by omega) (CF.refl h)
theorem r_cure {h : HS} (hN : 1000000000 ≤ N) (c : RH h q D) : ∃ h', X11_cureOf N h 237 = some (oI (zf (cuP D) 21 0), h') ∧ SF h h' := by
  have hk := hk0 c.1
  have key : ∀ (r i fu : Nat) (h' : HS), i + r = 21 → r < fu → SF h h' → ∃ h2, X11_cureOf_l2 N fu h' 237 (nI i) = some (oI (zf (cuP D) r i), h2) ∧ SF h h2 := by
    intro r
    induction r with
    | zero =>
      intro i fu h' e hf f
      obtain ⟨fu, rfl, _⟩ := fuel hf
      refine ⟨h', ?_, f⟩
      rw [X11_cureOf_l2, if_pos (show (21 : Int32) ≤ nI i from nI_le (a := 21) (by omega) (by omega)), if_pos (show (21 : Int32) ≤ nI i from nI_le (a := 21) (by omega) (by omega))]
      rfl
    | succ r ih =>
      intro i fu h' e hf f
      obtain ⟨fu, rfl, _⟩ := fuel hf
      rw [X11_cureOf_l2, if_neg (show ¬ (21 : Int32) ≤ nI i from nI_ge (b := 21) (by omega) (by decide)), r_everybody (SF_rh f c), bd1_some, rh1 (SF_rh f c)]
      rcases r_isRota (N := N) (m := D 1) (set := EV D) (more := i) hN (SF_rh f c) (by omega) (by omega) (by have := ev_lt c.1; omega) with ⟨b1, h3, b2, b3⟩ | ⟨x, L', h3, b1, b2, b3, _⟩
      · rw [b2, bd2_some, if_pos rfl, zf_neg (by simp [b1]), nI_1]
        exact ih (i + 1) fu h3 (by omega) (by omega) (SF.trans f b3)
      · rw [b2, bd2_some, if_neg one0, if_neg (show ¬ (21 : Int32) ≤ nI i from nI_ge (b := 21) (by omega) (by decide)), zf_pos (by simp [b1])]
        exact ⟨h3, rfl, SF.trans f b3⟩
  exact key 21 0 N h (by omega) (by omega) (SF.refl h)
theorem c_all {h : HS} (hN : 100 ≤ N) (c : KH h p D) : ∃ h', X5_all N h 171 p = some (nI (min 999999 (LR D (D 1) (EV D) 0).length), h') ∧ CF h h' := by
  have hk := hk0 c.2.1
  obtain ⟨h1, e1, f1, _, e2, e3, e4⟩ := c_seat (N := N) hN c (loan := 0) (most := 20) (by decide) (by decide)
  have hle : ∀ s, s < D 2 → leftS D 0 20 s = D (51 + 3 * s) := by
    intro s hs
    have := hkS c.2.1 hs
    unfold leftS
    omega
  have eL : LC D (D 2) (D 1) 0 (leftS D 0 20) 9 = LR D (D 1) (EV D) 0 := LCR_set c.2.1 (Nat.le_refl _) (fun s hs => by rw [hle s hs, ev_bit, if_pos (decide_eq_true hs), Nat.add_zero]) (fun s hs => by rw [ev_bit]; exact decide_eq_false (by omega))
  have h0 : ∀ s, s < 6 → leftS D 0 20 s ≤ 1000 := fun s _ => by unfold leftS; omega
  obtain ⟨h2, k1, k2, k3, k4, k5⟩ := c_prepares (N := N) (m := D 1) (v := 8) (left := leftS D 0 20) hN (by decide) e2 (CF_kh f1 c) e3 (by omega) (by omega) (fun s hs => ⟨h0 s (by omega), e4 s hs⟩) (by by_cases z : 8 < D 1 <;> simp [z]; omega)
  have f2 : CF h h2 := CF.trans f1 ⟨fun k a1 _ _ a4 => k2 k a4 a1, fun k _ => by rw [k3]⟩
  unfold X5_all
  rw [show X5_seat N h 171 p 0 20 = _ from e1, bd1_some]
  rcases k5 with ⟨a1, a2⟩ | a1
  · refine ⟨h2, ?_, f2⟩
    rw [eL] at a2
    rw [show X5_prepares N h1 171 8 = _ from a1, bd2_some, if_pos rfl, a2]
    rfl
  · rw [show X5_prepares N h1 171 8 = _ from a1, bd2_some, if_neg one0]
    obtain ⟨h3, b1, b2, b3⟩ := c_counts (N := N) (left0 := leftS D 0 20) hN h0 (D 1) 12 0 h2 (leftS D 0 20) 9 (by omega) (by omega) k1 k4 (by rw [k2 _ (by decide) (by decide)]; exact e4) (fun s _ => Nat.le_refl _) (fun h => by omega) (by omega)
    refine ⟨h3, ?_, CF.trans f2 ⟨fun k _ a2 a3 _ => b1.1 k a2 a3, fun k _ => by rw [b1.2.2]⟩⟩
    unfold X5_counts
    rw [show X5_counts_r N 12 h2 171 0 = _ from b2, bd2_some, eL]
theorem r_all {h : HS} (hN : 1000000000 ≤ N) (c : RH h q D) : ∃ h', X11_rotasOf N h 237 = some (nI (min 999999 (LR D (D 1) (EV D) 0).length), h') ∧ SF h h' := by
  have hk := hk0 c.1
  obtain ⟨h1, e1, f1, E⟩ := r_laysRows (N := N) (m := D 1) (set := EV D) (more := 0) (by omega) c (Nat.le_refl _) (by decide) (by have := ev_lt c.1; omega)
  have key : ∀ (r i fu : Nat) (L : List (List Nat)) (h' : HS), i + r = 999999 → r < fu → SF h h' → ES h' q D (ctn D (D 1)) (EV D) (limR D 0) L → ∃ h2, X11_rotasOf_l15 N fu h' 237 (nI i) = some (nI (min 999999 (i + L.length)), h2) ∧ SF h h2 := by
    intro r
    induction r with
    | zero =>
      intro i fu L h' e hf f E
      obtain ⟨fu, rfl, _⟩ := fuel hf
      refine ⟨h', ?_, f⟩
      rw [X11_rotasOf_l15, if_pos (show (999999 : Int32) ≤ nI i from nI_le (a := 999999) (by omega) (by omega)), Nat.min_eq_left (by omega), show i = 999999 by omega]
    | succ r ih =>
      intro i fu L h' e hf f E
      obtain ⟨fu, rfl, _⟩ := fuel hf
      rw [X11_rotasOf_l15, if_neg (show ¬ (999999 : Int32) ≤ nI i from nI_ge (b := 999999) (by omega) (by decide))]
      rcases r_goesOn hN E with ⟨b1, h3, b2, b3⟩ | ⟨x, L', h3, b1, b2, b3, b4, b5⟩
      · refine ⟨h3, ?_, SF.trans f b3⟩
        rw [b2, bd2_some, if_pos rfl, b1, List.length_nil, Nat.add_zero, Nat.min_eq_right (by omega)]
      · rw [b2, bd2_some, if_neg one0, nI_1, b1, List.length_cons, show i + (L'.length + 1) = i + 1 + L'.length by omega]
        exact ih (i + 1) fu L' h3 (by omega) (by omega) (SF.trans f b3) b4
  unfold X11_rotasOf
  rw [r_everybody c, bd1_some, rh1 c, show X11_laysRows N h 237 (nI (D 1)) (nI (EV D)) 0 = _ from e1, bd1_some]
  have := key 999999 0 N _ h1 (by omega) (by omega) f1 E
  rw [Nat.zero_add] at this
  exact this
end SPB
