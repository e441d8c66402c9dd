/-! ===== level 2: the class's own search ===== -/
section PLC
variable {N : Nat} {p : Nat} {D : Nat → Nat} {m sg : Nat}
def OF (h : HS) (D : Nat → Nat) (sg m : Nat) (left : Nat → Nat) (r : Nat) : Prop := ∀ b, r ≤ b → b ≤ m → ∃ o, o < 128 ∧ h.1 184 b = nI o ∧ PO D sg m left b o ∧ QO D sg m left b o
theorem c_l44 {left : Nat → Nat} (hN : 100 ≤ N) : ∀ (r fu : Nat) (h : HS), r ≤ m → r < fu → KC h p D m sg → (∀ s, s < sg → left s ≤ 1000 ∧ h.1 182 s = nI (left s)) → OF h D sg m left r →
    ∃ h', X5_prepares_l44 N fu h 171 (nI (tk D (ctn D m) - tk D (ctn D r))) (nI r - 1) = X5_prepares_l176 N N h' 171 (nI (tk D (ctn D m))) 0 ∧ (∀ k, k ≠ 184 → h'.1 k = h.1 k) ∧ h'.2 = h.2 ∧ OF h' D sg m left 0 := by
  intro r
  induction r with
  | zero =>
    intro fu h hr hf c hl o
    obtain ⟨fu, rfl, _⟩ := fuel hf
    refine ⟨h, ?_, fun _ _ => rfl, rfl, o⟩
    rw [X5_prepares_l44, if_pos (by decide)]
    rfl
  | succ r ih =>
    intro fu h hr hf c hl o
    obtain ⟨fu, rfl, _⟩ := fuel hf
    have hk := hk0 c.2.1.2.1
    have hm := c.2.2.1
    have hB := hkB c.2.1.2.1 (show r < D 1 by omega)
    obtain ⟨o1, ho1, eo1, P1, Q1⟩ := o (r + 1) (by omega) (by omega)
    have hts : tk D (ctn D (r + 1)) ≤ tk D (ctn D m) := by
      have := ct_mono (D := D) hr
      have := tk_mono D (ctn D (r + 1)) (ctn D m - ctn D (r + 1))
      rw [show ctn D (r + 1) + (ctn D m - ctn D (r + 1)) = ctn D m by omega] at this
      exact this
    rw [X5_prepares_l44, nI_pred, if_neg (nI_pos (by omega)), c.1, c_sounds c.2.1 (by omega), bd1_some]
    simp only [nB_0]
    have em : nI r + (-1) = nI r - 1 := (Int32.sub_eq_add_neg _ _).symm
    by_cases z : D (17 + 4 * r) = 0
    · have nz : ¬ zsn D r := fun w => w.2 z
      rw [if_pos nz, nB_f nz]
      have step : ∀ o, o < 128 → PO D sg m left r o → ∃ h', X5_prepares_l107 N (X5_prepares_l44 N fu) N (wi h (171 + 13) r (nI o)) 171 (nI (tk D (ctn D m) - tk D (ctn D (r + 1))) + 0) (nI r) 0 0 = X5_prepares_l176 N N h' 171 (nI (tk D (ctn D m))) 0 ∧ (∀ k, k ≠ 184 → h'.1 k = h.1 k) ∧ h'.2 = h.2 ∧ OF h' D sg m left 0 := by
        intro o0 ho0 P0
        obtain ⟨h', a1, a2, a3, a4⟩ := ih fu (wi h (171 + 13) r (nI o0)) (by omega) (by omega) (KC_w _ (by omega) c) (by rw [wi_k _ _ (by decide)]; exact hl) (by
          intro b h1 h2
          by_cases y : b = r
          · subst y
            exact ⟨o0, ho0, wi_s _ _ _ _, P0, fun _ w => absurd z w⟩
          · obtain ⟨u, u1, u2, u3⟩ := o b (by omega) h2
            exact ⟨u, u1, by rw [show (171 + 13 : Nat) = 184 from rfl, wi_j _ _ y]; exact u2, u3⟩)
        refine ⟨h', ?_, fun k hk => by rw [a2 k hk, wi_k _ _ hk], a3, a4⟩
        obtain ⟨M, hM, _⟩ := fuel (show 0 < N by omega)
        rw [← a1]
        conv => lhs; rw [hM]
        rw [X5_prepares_l107, if_pos rfl, Int32.add_zero, em, ct_rest z]
        rw [← hM]
      unfold X5_prepares_b79
      rw [nI_1, if_neg (nI_in (by omega) (by decide)), nI_clamp (by omega), show h.1 (171 + 13) (r + 1) = _ from eo1, if_neg (nI_in (by omega) (by decide)), if_neg (nI_in (by omega) (by decide)), sq_eq, sq_eq, nI_clamp (by omega)]
      by_cases y : o1 = 0
      · rw [if_pos (by rw [y]; rfl)]
        exact step 0 (by decide) (by
          intro left' prev h1 h2
          rw [LC_rest z] at h2
          obtain ⟨t, t1, t2, _⟩ := P1 left' prev h1 h2
          exact absurd y (o_ne t2))
      · rw [if_neg (nI_ne0 (by omega) (by omega))]
        exact step 127 (by decide) (PO_127 r)
    · have nz : zsn D r := ⟨by omega, z⟩
      rw [if_neg (fun w => w nz), at_in c.2.1.1.2.2.2.1 (by decide) (by omega), bd1_some, chLe c.2.1 (by omega), nB_t nz]
      have e1 := ct_note z
      have e3 := ord_ct (D := D) (b := r) (by omega) z
      have ev : nI (tk D (ctn D m) - tk D (ctn D (r + 1))) + nI (D (18 + 4 * r)) = nI (tk D (ctn D m) - tk D (ctn D r)) := by
        rw [nI_add]
        rw [e1, tk, e3] at hts ⊢
        unfold lenD at hts ⊢
        congr 1
        omega
      have step : ∀ o0, o0 < 128 → (∀ t, t < 7 → (∃ u, u < 7 ∧ u ≠ t ∧ o1.testBit u = true) → o0.testBit t = true) → ∃ h', X5_prepares_l107 N (X5_prepares_l44 N fu) N (wi h (171 + 13) r (nI o0)) 171 (nI (tk D (ctn D m) - tk D (ctn D r))) (nI r) 1 0 = X5_prepares_l176 N N h' 171 (nI (tk D (ctn D m))) 0 ∧ (∀ k, k ≠ 184 → h'.1 k = h.1 k) ∧ h'.2 = h.2 ∧ OF h' D sg m left 0 := by
        intro o0 ho0 P0
        obtain ⟨h2, o2, a1, a2, a3, a4, a5, a6, a7⟩ := c_l107 (N := N) (p := p) (D := D) (m := m) (sg := sg) (left := left) (b := r) (o0 := o0) (o1 := o1) (by omega) ho1 (X5_prepares_l44 N fu) (nI (tk D (ctn D m) - tk D (ctn D r))) 7 0 N (wi h (171 + 13) r (nI o0)) o0 (by omega) (by omega) (KC_w _ (by omega) c) (by rw [wi_k _ _ (by decide)]; exact hl) (by rw [show (171 + 13 : Nat) = 184 from rfl, wi_j _ _ (by omega)]; exact eo1) (wi_s _ _ _ _) ho0 (fun t ht => by omega) (fun t _ _ => rfl)
        have kc2 : KC h2 p D m sg := by
          obtain ⟨c1, c2, c3, c4, c5, c6⟩ := c
          refine ⟨by rw [a4]; exact c1, KH_fr (h := h) (fun k h1 h3 => by have := c2.1.2.2.2.2.2.2.2.2.2.2; rw [a2 k (by omega), wi_k _ _ (by omega)]) c2, c3, ?_, ?_, c6⟩
          · rw [a2 _ (by decide), wi_k _ _ (by decide)]; exact c4
          · rw [a2 _ (by decide), wi_k _ _ (by decide)]; exact c5
        obtain ⟨h', b1, b2, b3, b4⟩ := ih fu h2 (by omega) (by omega) kc2 (by rw [a2 _ (by decide), wi_k _ _ (by decide)]; exact hl) (by
          intro b h1 h3
          by_cases y : b = r
          · subst y
            refine ⟨o2, a6, a5, ?_, ?_⟩
            · intro left' prev g1 g2
              rw [LC_note (by omega) (by omega) z] at g2
              obtain ⟨x, hx⟩ := List.exists_mem_of_ne_nil _ g2
              obtain ⟨s, hs, hx⟩ := List.mem_flatMap.mp hx
              have hs6 : s < 6 := by have := List.mem_range'.mp hs; omega
              by_cases y : okC D sg s b = true ∧ lenD D b ≤ left' s ∧ ¬ ((0 < b ∧ ¬ D (17 + 4 * (b - 1)) = 0) ∧ s = prev)
              · rw [if_pos y] at hx
                obtain ⟨w, hw, _⟩ := List.mem_map.mp hx
                obtain ⟨t, t1, t2, t3⟩ := P1 _ s (sb1_le g1 s (lenD D b)) (List.ne_nil_of_mem hw)
                have t4 : t ≠ s := by
                  rcases t3 with t3 | t3
                  · exact t3
                  · exact absurd ⟨by omega, by rw [Nat.add_sub_cancel]; exact z⟩ t3
                have hle := g1 s hs6
                refine ⟨s, by omega, (a7 s (by omega)).mpr ⟨P0 s (by omega) ⟨t, t1, t4, t2⟩, y.1, by omega, t, t1, t4, t2⟩, ?_⟩
                by_cases v : s = prev
                · exact Or.inr (fun w => y.2.2 ⟨w, v⟩)
                · exact Or.inl v
              · rw [if_neg y] at hx
                exact absurd hx (List.not_mem_nil)
            · intro _ _ s hs
              refine ⟨fun w => ((a7 s (by omega)).mp w).2.1, fun w => ?_⟩
              by_cases y : okC D sg s b = true ∧ lenD D b ≤ left s
              · right
                intro left' g1
                by_cases v : LC D sg m (b + 1) left' s = []
                · exact v
                · exfalso
                  obtain ⟨t, t1, t2, t3⟩ := P1 left' s g1 v
                  have t4 : t ≠ s := by
                    rcases t3 with t3 | t3
                    · exact t3
                    · exact absurd ⟨by omega, by rw [Nat.add_sub_cancel]; exact z⟩ t3
                  exact w ((a7 s (by omega)).mpr ⟨P0 s (by omega) ⟨t, t1, t4, t2⟩, y.1, y.2, t, t1, t4, t2⟩)
              · exact Or.inl y
          · obtain ⟨u, u1, u2, u3⟩ := o b (by omega) h3
            exact ⟨u, u1, by rw [a3 b y, show (171 + 13 : Nat) = 184 from rfl, wi_j _ _ y]; exact u2, u3⟩)
        refine ⟨h', ?_, fun k hk => by rw [b2 k hk, a2 k hk, wi_k _ _ hk], by rw [b3, a4]; rfl, b4⟩
        rw [← b1, ← em]
        exact a1
      unfold X5_prepares_b79
      rw [nI_1, if_neg (nI_in (by omega) (by decide)), nI_clamp (by omega), show h.1 (171 + 13) (r + 1) = _ from eo1, if_neg (nI_in (by omega) (by decide)), if_neg (nI_in (by omega) (by decide)), sq_eq, sq_eq, nI_clamp (by omega), ev]
      by_cases y : o1 = 0
      · rw [if_pos (by rw [y]; rfl)]
        exact step 0 (by decide) (by
          rintro t _ ⟨u, _, _, hu⟩
          exact absurd y (o_ne hu))
      · rw [if_neg (nI_ne0 (by omega) (by omega))]
        exact step 127 (by decide) (fun t ht _ => b127 t ht)
theorem c_l176 {h : HS} {left : Nat → Nat} (c : KC h p D m sg) (hl : ∀ s, s < sg → left s ≤ 1000 ∧ h.1 182 s = nI (left s)) {o T : Nat} (ho : h.1 184 0 = nI o) (ho2 : o < 128) (hT : T ≤ 1000) : ∀ (r s fu : Nat) (v : Int32), s + r = sg → r < fu → v.toInt = (T : Int) - (sm left s : Nat) → sm left s ≤ 1000 * s →
    X5_prepares_l176 N fu h 171 v (nI s) = some (nB (o ≠ 0 ∧ T ≤ sm left sg), h) := by
  have hsg := c.2.2.2.2.2.1
  intro r
  induction r with
  | zero =>
    intro s fu v e hf hv hs
    obtain ⟨fu, rfl, _⟩ := fuel hf
    have : s = sg := by omega
    subst this
    rw [X5_prepares_l176, c.2.2.2.2.1, if_pos (nI_le (by omega) (by omega)), if_neg (by decide), show h.1 (171 + 13) (0 : Int32).toNatClampNeg = nI o from ho]
    have e1 : (0 < v) = ¬ (T ≤ sm left s) := by
      apply propext
      have z0 : (0 : Int32).toInt = 0 := by decide
      rw [Int32.lt_iff_toInt_lt, z0, hv]
      omega
    simp only [e1]
    by_cases z : o = 0
    · rw [if_pos (by rw [z]; rfl), nB_f (fun w => w.1 z)]; rfl
    · rw [if_neg (nI_ne0 (by omega) (by omega))]
      by_cases y : T ≤ sm left s
      · rw [if_neg (fun w => w y), nB_t ⟨z, y⟩]; rfl
      · rw [if_pos y, nB_f (fun w => y w.2)]; rfl
  | succ r ih =>
    intro s fu v e hf hv hs
    obtain ⟨fu, rfl, _⟩ := fuel hf
    obtain ⟨l1, l2⟩ := hl s (by omega)
    rw [X5_prepares_l176, c.2.2.2.2.1, if_neg (nI_ge (by omega) (by omega)), at_in ln182 (by decide) (by omega), bd1_some, show h.1 (171 + 11) s = _ from l2, nI_1]
    refine ih (s + 1) fu _ (by omega) (by omega) ?_ ?_
    · rw [Int32.toInt_sub, hv, nI_toInt (by omega), Int.bmod_eq_of_le (by omega) (by omega), sm]
      omega
    · rw [sm]; omega
theorem tk_le (k : Nat) (hk : HK D) (h : ∀ i, i < k → ord D i < D 1) : tk D k ≤ 4 * k := by
  induction k with
  | zero => exact Nat.le_refl _
  | succ k ih =>
    have := ih (fun i hi => h i (by omega))
    have := hkB hk (h k (by omega))
    rw [tk]
    unfold lenD
    omega
theorem c_prepares {h : HS} (hN : 100 ≤ N) {left : Nat → Nat} {v : Nat} (hv : v < 2 ^ 31) (e2 : h.2 171 = p) (c : KH h p D) (es : h.1 171 2 = nI sg) (h6 : sg ≤ 6) (h2 : sg ≤ D 2 + 1) (hl : ∀ s, s < sg → left s ≤ 1000 ∧ h.1 182 s = nI (left s)) (hm : m = if v < D 1 then v else D 1) :
    ∃ h', KC h' p D m sg ∧ (∀ k, k ≠ 184 → k ≠ 171 → h'.1 k = h.1 k) ∧ h'.2 = h.2 ∧ OF h' D sg m left 0 ∧
      ((X5_prepares N h 171 (nI v) = some (0, h') ∧ LC D sg m 0 left 9 = []) ∨ X5_prepares N h 171 (nI v) = some (1, h')) := by
  have hk := hk0 c.2.1
  have hm1 : m ≤ D 1 := by rw [hm]; by_cases z : v < D 1 <;> simp [z] <;> omega
  have em : (if 0 < (if (if (8 : Int32) < (h.1 (h.2 171) 1) then 8 else (h.1 (h.2 171) 1)) < nI v then (if 8 < (h.1 (h.2 171) 1) then 8 else (h.1 (h.2 171) 1)) else nI v) then (if (if 8 < (h.1 (h.2 171) 1) then 8 else (h.1 (h.2 171) 1)) < nI v then (if 8 < (h.1 (h.2 171) 1) then 8 else (h.1 (h.2 171) 1)) else nI v) else 0) = nI m := by
    rw [e2, ch1 c, if_neg (show ¬ (8 : Int32) < nI (D 1) from nI_nlt (a := 8) (by omega) (by decide))]
    have e3 : (if nI (D 1) < nI v then nI (D 1) else nI v) = nI m := by
      rw [hm]
      by_cases z : D 1 < v
      · rw [if_pos (nI_lt z (by omega)), if_neg (by omega)]
      · rw [if_neg (nI_nlt (by omega) (by omega))]
        by_cases y : v < D 1
        · rw [if_pos y]
        · rw [if_neg y, show v = D 1 by omega]
    rw [e3]
    by_cases z : m = 0
    · rw [z]; rfl
    · rw [if_pos (show (0 : Int32) < nI m from nI_lt (a := 0) (by omega) (by omega))]
  unfold X5_prepares
  rw [em, sq_eq, wi_s, if_neg (nI_in (by omega) (by decide)), sq_eq, nI_clamp (by omega), show (wi (wi h 171 1 (nI m)) (171 + 13) m 127).1 171 1 = nI m by rw [wi_k _ _ (by decide), wi_s]]
  generalize hw : wi (wi h 171 1 (nI m)) (171 + 13) m 127 = w
  have kw : KC w p D m sg := by
    rw [← hw]
    refine ⟨e2, KH_fr (h := h) (fun k h1 h3 => by have := c.1.2.2.2.2.2.2.2.2.2.2; rw [wi_k _ _ (by omega), wi_k _ _ (by omega)]) c, hm1, ?_, ?_, h6, h2⟩
    · rw [wi_k _ _ (by decide), wi_s]
    · rw [wi_k _ _ (by decide), wi_j _ _ (by decide)]; exact es
  have lw : ∀ s, s < sg → left s ≤ 1000 ∧ w.1 182 s = nI (left s) := by
    rw [← hw, wi_k _ _ (by decide), wi_k _ _ (by decide)]; exact hl
  obtain ⟨h', a1, a2, a3, a4⟩ := c_l44 (N := N) (left := left) hN m N w (Nat.le_refl _) (by omega) kw lw (by
    intro b h1 h3
    have : b = m := by omega
    subst this
    exact ⟨127, by decide, by rw [← hw]; exact wi_s _ _ _ _, PO_127 b, fun h => by omega⟩)
  rw [Nat.sub_self, show nI 0 = 0 from rfl] at a1
  rw [a1]
  obtain ⟨o, o1, o2, o3, o4⟩ := a4 0 (by omega) (by omega)
  have kc' : KC h' p D m sg := by
    obtain ⟨c1, c2, c3, c4, c5, c6⟩ := kw
    refine ⟨by rw [a3]; exact c1, KH_fr (h := w) (fun k h1 h3 => by have := c2.1.2.2.2.2.2.2.2.2.2.2; rw [a2 k (by omega)]) c2, c3, ?_, ?_, c6⟩
    · rw [a2 _ (by decide)]; exact c4
    · rw [a2 _ (by decide)]; exact c5
  have lh : ∀ s, s < sg → left s ≤ 1000 ∧ h'.1 182 s = nI (left s) := by rw [a2 _ (by decide)]; exact lw
  have hct := ct_le D m
  have hT : tk D (ctn D m) ≤ 1000 := by
    have := tk_le (D := D) (ctn D m) c.2.1 (fun i hi => by have := (ord_lt (D := D) (b := m) (by omega) hi).1; omega)
    omega
  have e9 := c_l176 (N := N) kc' lh o2 o1 hT sg 0 N (nI (tk D (ctn D m))) (by omega) (by omega) (by rw [nI_toInt (by omega)]; simp [sm]) (by simp [sm])
  rw [show (0 : Int32) = nI 0 from rfl]
  rw [e9]
  refine ⟨h', kc', ?_, by rw [a3, ← hw]; rfl, a4, ?_⟩
  · intro k k1 k2
    rw [a2 k k1, ← hw, wi_k _ _ k1, wi_k _ _ k2]
  · by_cases z : o ≠ 0 ∧ tk D (ctn D m) ≤ sm left sg
    · right; rw [nB_t z]
    · left
      refine ⟨by rw [nB_f z]; rfl, ?_⟩
      by_cases y : LC D sg m 0 left 9 = []
      · exact y
      · exfalso
        obtain ⟨t, t1, t2, _⟩ := o3 left 9 (fun s _ => Nat.le_refl _) y
        exact z ⟨o_ne t2, CL_tot h6 y⟩
theorem c_maySing {h : HS} (c : KC h p D m sg) {left : Nat → Nat} (hl : ∀ s, s < sg → left s ≤ 1000 ∧ h.1 182 s = nI (left s)) {s b o : Nat} (hs : s < sg) (hb : b < m) (ho : h.1 184 b = nI o) (ho2 : o < 128) : X5_maySing N h 171 (nI s) (nI b) = some (nB (o.testBit s = true ∧ lenD D b ≤ left s ∧ ¬ (0 < b ∧ h.1 183 (b - 1) = nI s))) := by
  obtain ⟨c1, c2, c3, c4, c5, c6, c7⟩ := c
  have hP := c2.1
  have hk := hk0 c2.2.1
  have hB := hkB c2.2.1 (show b < D 1 by omega)
  obtain ⟨l1, l2⟩ := hl s hs
  unfold X5_maySing
  rw [if_neg (nI_pos (by omega)), ln182, if_neg (nI_ge (by omega) (by omega)), at_in ln184 (by decide) (by omega), bd1_some, show h.1 (171 + 13) b = _ from ho, bi_n (by omega) (by omega)]
  simp only [nB_0]
  by_cases z : o.testBit s = true
  · rw [if_neg (fun w => w z), if_neg (nI_in (by omega) (by decide)), c1, at_in hP.2.2.2.1 (by decide) (by omega), bd1_some, nI_clamp (by omega), show h.1 (171 + 11) s = _ from l2, chLe c2 (by omega)]
    have e : (nI (left s) < nI (D (18 + 4 * b))) = (left s < lenD D b) := by
      apply propext
      unfold lenD
      exact nI_ltI (by omega) (by omega)
    simp only [e]
    by_cases y : left s < lenD D b
    · rw [if_pos y, nB_f (fun w => by omega)]; rfl
    · rw [if_neg y]
      by_cases x : b = 0
      · rw [if_pos (by rw [x]; rfl), nB_t ⟨z, by omega, fun w => by omega⟩]; rfl
      · have e1 : nI b - 1 = nI (b - 1) := by
          have := nI_pred (b - 1)
          rw [show b - 1 + 1 = b by omega] at this
          exact this
        rw [if_neg (nI_ne0 (by omega) (by omega)), e1, at_in ln183 (by decide) (by omega), bd1_some, show (171 + 12 : Nat) = 183 from rfl]
        by_cases w : h.1 183 (b - 1) = nI s
        · rw [if_pos w, nB_f (fun v => v.2.2 ⟨by omega, w⟩)]; rfl
        · rw [if_neg w, nB_t ⟨z, by omega, fun v => w v.2⟩]; rfl
  · rw [if_pos z, nB_f (fun w => z w.1)]; rfl
def PF (h h' : HS) (b : Nat) : Prop := (∀ k, k ≠ 182 → k ≠ 183 → h'.1 k = h.1 k) ∧ (∀ i, i < b → h'.1 183 i = h.1 183 i) ∧ h'.2 = h.2
theorem PF.refl (h : HS) (b : Nat) : PF h h b := ⟨fun _ _ _ => rfl, fun _ _ => rfl, rfl⟩
theorem PF.trans {a b c : HS} {i : Nat} (x : PF a b i) (y : PF b c i) : PF a c i := ⟨fun k h1 h2 => (y.1 k h1 h2).trans (x.1 k h1 h2), fun j h1 => (y.2.1 j h1).trans (x.2.1 j h1), y.2.2.trans x.2.2⟩
theorem PF.weak {a b : HS} {i j : Nat} (x : PF a b i) (h : j ≤ i) : PF a b j := ⟨x.1, fun k hk => x.2.1 k (by omega), x.2.2⟩
theorem PF_w {h : HS} {j b : Nat} (x : Int32) : PF h (wi h 182 j x) b := ⟨fun k h1 _ => wi_k _ _ h1, fun i _ => by rw [wi_k _ _ (by decide)], rfl⟩
theorem PF_r {h : HS} {j b : Nat} (x : Int32) (hb : b ≤ j) : PF h (wi h 183 j x) b := ⟨fun k _ h1 => wi_k _ _ h1, fun i hi => wi_j _ _ (by omega), rfl⟩
theorem PF_kc {h h' : HS} {b : Nat} (f : PF h h' b) (c : KC h p D m sg) : KC h' p D m sg := by
  obtain ⟨c1, c2, c3, c4, c5, c6⟩ := c
  refine ⟨by rw [f.2.2]; exact c1, KH_fr (h := h) (fun k h1 h3 => by have := c2.1.2.2.2.2.2.2.2.2.2.2; rw [f.1 k (by omega) (by omega)]) c2, c3, ?_, ?_, c6⟩
  · rw [f.1 _ (by decide) (by decide)]; exact c4
  · rw [f.1 _ (by decide) (by decide)]; exact c5
theorem PF_of {h h' : HS} {b r : Nat} {left : Nat → Nat} (f : PF h h' b) (o : OF h D sg m left r) : OF h' D sg m left r := by
  intro b h1 h2
  obtain ⟨u, u1, u2, u3⟩ := o b h1 h2
  exact ⟨u, u1, by rw [f.1 _ (by decide) (by decide)]; exact u2, u3⟩
/-- the row tells x from bar b on -/
def RW (h : HS) (D : Nat → Nat) (m b : Nat) (x : List Nat) : Prop := (∀ j, j < ctn D m - ctn D b → h.1 183 (ord D (ctn D b + j)) = nI (x.getD j 0)) ∧ (∀ i, b ≤ i → i < m → D (17 + 4 * i) = 0 → h.1 183 i = -1)
/-- whom the branches at a bar give -/
abbrev BR (D : Nat → Nat) (sg m b : Nat) (left : Nat → Nat) (prev s : Nat) : List (List Nat) := if okC D sg s b = true ∧ lenD D b ≤ left s ∧ ¬ ((0 < b ∧ ¬ D (17 + 4 * (b - 1)) = 0) ∧ s = prev) then (LC D sg m (b + 1) (sb1 left s (lenD D b)) s).map (fun x => s :: x) else []
/-- if the class passes a singer by, there is no rota that way -/
theorem BR_no {h : HS} {left left0 : Nat → Nat} {b prev s o : Nat} (hm : m ≤ D 1) (hD : D 1 ≤ 8) (hb : b < m) (z : ¬ D (17 + 4 * b) = 0) (hs : s < 6) (hle : ∀ s, s < 6 → left s ≤ left0 s) (q : QO D sg m left0 b o) (pr : 0 < b → h.1 183 (b - 1) = if D (17 + 4 * (b - 1)) = 0 then -1 else nI prev) (hp : prev < 2 ^ 31)
    (n : ¬ (o.testBit s = true ∧ lenD D b ≤ left s ∧ ¬ (0 < b ∧ h.1 183 (b - 1) = nI s))) : BR D sg m b left prev s = [] := by
  by_cases y : okC D sg s b = true ∧ lenD D b ≤ left s ∧ ¬ ((0 < b ∧ ¬ D (17 + 4 * (b - 1)) = 0) ∧ s = prev)
  · rw [BR, if_pos y]
    rw [List.map_eq_nil_iff]
    have hno : ¬ (0 < b ∧ h.1 183 (b - 1) = nI s) := by
      rintro ⟨b0, e⟩
      rw [pr b0] at e
      by_cases w : D (17 + 4 * (b - 1)) = 0
      · rw [if_pos w] at e
        exact nI_m1 (show s < 2 ^ 31 by omega) e.symm
      · rw [if_neg w] at e
        exact y.2.2 ⟨⟨b0, w⟩, ((nI_eq hp (by omega)).mp e).symm⟩
    have hbit : ¬ o.testBit s = true := fun w => n ⟨w, y.2.1, hno⟩
    rcases (q hb z s hs).2 hbit with r | r
    · exact absurd ⟨y.1, Nat.le_trans y.2.1 (hle s hs)⟩ r
    · exact r _ (sb1_le hle s _)
  · rw [BR, if_neg y]
theorem BR_yes {h : HS} {left left0 : Nat → Nat} {b prev s o : Nat} (hb : b < m) (z : ¬ D (17 + 4 * b) = 0) (hs : s < 6) (q : QO D sg m left0 b o) (pr : 0 < b → h.1 183 (b - 1) = if D (17 + 4 * (b - 1)) = 0 then -1 else nI prev)
    (n : o.testBit s = true ∧ lenD D b ≤ left s ∧ ¬ (0 < b ∧ h.1 183 (b - 1) = nI s)) : BR D sg m b left prev s = (LC D sg m (b + 1) (sb1 left s (lenD D b)) s).map (fun x => s :: x) := by
  rw [BR, if_pos]
  refine ⟨(q hb z s hs).1 n.1, n.2.1, ?_⟩
  rintro ⟨⟨b0, w⟩, e⟩
  apply n.2.2
  refine ⟨b0, ?_⟩
  rw [pr b0, if_neg w, e]
end PLC
