/-! ===== level 2: text: house lines, step by step ===== -/
def FFl (h : HS) (D : Nat → Nat) : Prop := (D 1 = 0 ∧ h.1 237 9 = -1) ∨ ∃ f, f ≤ 5 ∧ h.1 237 9 = nI f ∧ (∃ b, b < D 1 ∧ D (19 + 4 * b) = f) ∧ ∀ b, b < D 1 → D (19 + 4 * b) ≤ f
def FBr (h : HS) (D : Nat → Nat) : Prop := (D 4 = 0 ∧ h.1 237 10 = -1) ∨ ∃ w, w ≤ 7 ∧ h.1 237 10 = nI w ∧ (D 4).testBit w = true ∧ ∀ j, (D 4).testBit j = true → j ≤ w
def LHi (D : Nat → Nat) : Prop := ∀ s, s < D 2 → D (49 + 3 * s) ≤ D (50 + 3 * s)
def HSim (hc hr : HS) (t : Nat → Nat) (z s : Nat) (x : Nat × Int32) (Dc Dr : Nat → Nat) : Prop := CSt hc t z s x ∧ CHD hc Dc ∧ RSg hr t z s x ∧ T0 hr Dr ∧ (x.1 = 0 → Dc = Dr ∧ FFl hr Dr ∧ FBr hr Dr ∧ LHi Dr)
def CLf (h h' : HS) : Prop := (∀ k, k < 156 ∨ 171 ≤ k → h'.1 k = h.1 k) ∧ h'.2 = h.2 ∧ h'.1 167 0 = h.1 167 0
theorem CLf.refl (h : HS) : CLf h h := ⟨fun _ _ => rfl, rfl, rfl⟩
theorem CLf.trans {a b c : HS} (x : CLf a b) (y : CLf b c) : CLf a c := ⟨fun k hk => (y.1 k hk).trans (x.1 k hk), y.2.1.trans x.2.1, y.2.2.trans x.2.2⟩
theorem CLf_n {a b : HS} (x : TNf a b) : CLf a b := ⟨fun k hk => x.1 k (by omega) (by omega), x.2, by rw [x.1 167 (by decide) (by decide)]⟩
theorem CLf_h {a b : HS} (x : CHf a b) : CLf a b := ⟨fun k hk => x.1 k (by omega), x.2, by rw [x.1 167 (by decide)]⟩
theorem CSt_k {h h' : HS} {t : Nat → Nat} {z p : Nat} {x : Nat × Int32} (c : CSt h t z p x) (e6 : h'.1 156 = h.1 156) (e3 : h'.1 3 = h.1 3) (e2 : h'.2 = h.2) : CSt h' t z p x := by
  obtain ⟨⟨⟨c1, c2, c3, c4, c5⟩, d1, d2, d3, d4, d5⟩, f1, f2, f3⟩ := c
  exact ⟨⟨⟨c1, c2, by rw [e2]; exact c3, by rw [e6]; exact c4, by rw [e3]; exact c5⟩, d1, by rw [e6]; exact d2, by rw [e6]; exact d3, by rw [e6]; exact d4, by rw [e6]; exact d5⟩, by rw [e6]; exact f1, by rw [e6]; exact f2, f3⟩
theorem CHD_n {h h' : HS} {D : Nat → Nat} (c : CHD h D) (e : ∀ k, 157 ≤ k → k < 167 → h'.1 k = h.1 k) : CHD h' D := by
  unfold CHD
  rw [e 157 (by decide) (by decide), e 158 (by decide) (by decide), e 159 (by decide) (by decide), e 160 (by decide) (by decide), e 161 (by decide) (by decide), e 162 (by decide) (by decide), e 163 (by decide) (by decide), e 164 (by decide) (by decide), e 165 (by decide) (by decide), e 166 (by decide) (by decide)]
  exact c
theorem FFl_s {h h' : HS} {D D' : Nat → Nat} (f : FFl h D) (e1 : D' 1 = D 1) (eb : ∀ b, b < D 1 → D' (19 + 4 * b) = D (19 + 4 * b)) (e9 : h'.1 237 9 = h.1 237 9) : FFl h' D' := by
  rcases f with ⟨a, b⟩ | ⟨f, f1, f2, ⟨b, b1, b2⟩, f4⟩
  · exact Or.inl ⟨by rw [e1]; exact a, by rw [e9]; exact b⟩
  · exact Or.inr ⟨f, f1, by rw [e9]; exact f2, ⟨b, by rw [e1]; exact b1, by rw [eb b b1]; exact b2⟩, fun b hb => by rw [e1] at hb; rw [eb b hb]; exact f4 b hb⟩
theorem FBr_s {h h' : HS} {D D' : Nat → Nat} (f : FBr h D) (e4 : D' 4 = D 4) (e9 : h'.1 237 10 = h.1 237 10) : FBr h' D' := by
  unfold FBr
  rw [e4, e9]
  exact f
theorem mx_cases {v : Nat} {u : Int32} (hv : v < 2 ^ 30) : (u = -1 → mxI (nI v) u = nI v) ∧ (∀ f, f < 2 ^ 30 → u = nI f → mxI (nI v) u = nI (if v ≤ f then f else v)) := by
  constructor
  · intro e
    rw [e, mxI, if_neg (fun w => by
      have h1 := Int32.le_iff_toInt_le.mp w
      rw [nI_toInt (by omega), show (-1 : Int32).toInt = -1 from by decide] at h1
      omega)]
  · intro f hf e
    rw [e, mxI]
    by_cases w : v ≤ f
    · rw [if_pos (nI_le w (by omega)), if_pos w]
    · rw [if_neg (nI_ge (by omega) (by omega)), if_neg w]
section SMS
variable {N : Nat} {hc hr : HS} {t : Nat → Nat} {z : Nat} {Dc Dr : Nat → Nat}
theorem c_fullH {k : Nat} (hk : k < 5) (c : CHD hc Dc) : X4_isFull N hc 156 (nI k) 0 = some (nB ((!nfl k Dc) = true)) := by
  obtain ⟨c0, c1, c2, c4, e, _⟩ := c
  unfold X4_isFull nfl
  match k, hk with
  | 0, _ =>
    rw [if_pos (show nI 0 = 0 from rfl), if_pos rfl, show hc.1 (156 + 1) 0 = nI (Dc 0) from e 0 (by decide)]
    by_cases y : Dc 0 < 6
    · rw [if_pos (show nI (Dc 0) < 6 from nI_lt (b := 6) y (by decide)), nz_0, nB_f (by simp [y])]
    · rw [if_neg (show ¬ nI (Dc 0) < 6 from nI_nlt (b := 6) (by omega) (by omega)), nz_1, nB_t (by simp; omega)]
  | 1, _ =>
    rw [if_neg (show ¬ nI 1 = 0 by decide), if_pos (show nI 1 = 1 from rfl), if_neg (show ¬ (1 : Nat) = 0 by decide), if_pos (show (1 : Nat) = 1 from rfl), show hc.1 (156 + 1) 1 = nI (Dc 1) from e 1 (by decide)]
    by_cases y : Dc 1 < 8
    · rw [if_pos (show nI (Dc 1) < 8 from nI_lt (b := 8) y (by decide)), nz_0, nB_f (by simp [y])]
    · rw [if_neg (show ¬ nI (Dc 1) < 8 from nI_nlt (b := 8) (by omega) (by omega)), nz_1, nB_t (by simp; omega)]
  | 2, _ =>
    rw [if_neg (show ¬ nI 2 = 0 by decide), if_neg (show ¬ nI 2 = 1 by decide), if_pos (show nI 2 = 2 from rfl), if_neg (show ¬ (2 : Nat) = 0 by decide), if_neg (show ¬ (2 : Nat) = 1 by decide), if_pos (show (2 : Nat) = 2 from rfl), show hc.1 (156 + 1) 2 = nI (Dc 2) from e 2 (by decide)]
    by_cases y : Dc 2 < 5
    · rw [if_pos (show nI (Dc 2) < 5 from nI_lt (b := 5) y (by decide)), nz_0, nB_f (by simp [y])]
    · rw [if_neg (show ¬ nI (Dc 2) < 5 from nI_nlt (b := 5) (by omega) (by omega)), nz_1, nB_t (by simp; omega)]
  | 3, _ =>
    rw [if_neg (show ¬ nI 3 = 0 by decide), if_neg (show ¬ nI 3 = 1 by decide), if_neg (show ¬ nI 3 = 2 by decide), if_pos (show nI 3 = 3 from rfl), nz_0]
    rfl
  | 4, _ =>
    rw [if_neg (show ¬ nI 4 = 0 by decide), if_neg (show ¬ nI 4 = 1 by decide), if_neg (show ¬ nI 4 = 2 by decide), if_neg (show ¬ nI 4 = 3 by decide), if_pos (show nI 4 = 4 from rfl), nz_0]
    rfl
/-- values of a line without fault -/
theorem vK_e {k q0 : Nat} {x : Nat × Int32} {nv : Nat → Nat} (hk : k < 5) (hv : ∀ i, nv i = val t z (nxi t z i q0)) (ok : ∀ j, j < nNum k → tkc t z (nxi t z j q0) = 2 ∧ okc k nv j = true) : ∀ i, i < nNum k → vK t z k i (.inl (q0, x)) = nv i := by
  have one : ∀ (i lo hi : Nat), i < nNum k → ¬ (k = 2 ∧ i = 1) → nLo k i = lo → nHi k i = hi → nmV t z lo hi (.inl (nxi t z i q0, x)) = nv i ∧ nmS t z lo hi (.inl (nxi t z i q0, x)) = .inl (nxi t z (i + 1) q0, x) := by
    intro i lo hi hi' n e1 e2
    obtain ⟨o1, o2⟩ := ok i hi'
    rw [okc_e n e1 e2] at o2
    have o3 := of_decide_eq_true o2
    rw [nmV, ← hv i, if_pos ⟨o1, o3⟩, nmS, nmO, if_pos o1, ← hv i, o2, show blm x true 2 (nxi t z i q0) = x from if_pos rfl]
    exact ⟨rfl, rfl⟩
  unfold vK
  match k, hk with
  | 0, _ =>
    have a0 := one 0 0 20 (by decide) (by decide) rfl rfl
    have a1 := one 1 1 9 (by decide) (by decide) rfl rfl
    intro i hi
    have hi' : i < 2 := hi
    match i, hi' with
    | 0, _ => rw [if_pos rfl, if_pos rfl]; exact a0.1
    | 1, _ => rw [if_pos rfl, if_neg (by decide), sF1, show nmS t z 0 20 (.inl (q0, x)) = _ from a0.2]; exact a1.1
  | 1, _ =>
    have a0 := one 0 0 9 (by decide) (by decide) rfl rfl
    have a1 := one 1 1 4 (by decide) (by decide) rfl rfl
    have a2 := one 2 0 5 (by decide) (by decide) rfl rfl
    have a3 := one 3 0 10 (by decide) (by decide) rfl rfl
    intro i hi
    have hi' : i < 4 := hi
    match i, hi' with
    | 0, _ => rw [if_neg (by decide), if_pos rfl, if_pos rfl]; exact a0.1
    | 1, _ => rw [if_neg (by decide), if_pos rfl, if_neg (by decide), if_pos rfl, sB1, show nmS t z 0 9 (.inl (q0, x)) = _ from a0.2]; exact a1.1
    | 2, _ => rw [if_neg (by decide), if_pos rfl, if_neg (by decide), if_neg (by decide), if_pos rfl, sB2, sB1, show nmS t z 0 9 (.inl (q0, x)) = _ from a0.2, a1.2]; exact a2.1
    | 3, _ => rw [if_neg (by decide), if_pos rfl, if_neg (by decide), if_neg (by decide), if_neg (by decide), sB3, sB2, sB1, show nmS t z 0 9 (.inl (q0, x)) = _ from a0.2, a1.2, a2.2]; exact a3.1
  | 2, _ =>
    have a0 := one 0 1 9 (by decide) (by decide) rfl rfl
    have a2 := one 2 1 20 (by decide) (by decide) rfl rfl
    obtain ⟨o1, o2⟩ := ok 1 (by decide)
    have o3 : (1 ≤ nv 1 ∧ nv 1 ≤ 9) ∧ nv 0 ≤ nv 1 := by
      unfold okc at o2
      rw [show nLo 2 1 = 1 from rfl, show nHi 2 1 = 9 from rfl, decide_eq_false (show ¬ ¬ ((2 : Nat) = 2 ∧ (1 : Nat) = 1) by decide), Bool.false_or, Bool.and_eq_true, Bool.and_eq_true] at o2
      exact ⟨⟨of_decide_eq_true o2.1.1, of_decide_eq_true o2.1.2⟩, of_decide_eq_true o2.2⟩
    have a1 : nmV t z 1 9 (.inl (nxi t z 1 q0, x)) = nv 1 ∧ nmA t z (nv 0) (.inl (nxi t z 1 q0, x)) = .inl (nxi t z 2 q0, x) := by
      rw [nmV, ← hv 1, if_pos ⟨o1, o3.1⟩, nmA, nmO, if_pos o1, ← hv 1, decide_eq_true o3.1, decide_eq_true o3.2, show blm x (true && true) 2 (nxi t z 1 q0) = x from if_pos rfl]
      exact ⟨rfl, rfl⟩
    intro i hi
    have hi' : i < 3 := hi
    match i, hi' with
    | 0, _ => rw [if_neg (by decide), if_neg (by decide), if_pos rfl, if_pos rfl]; exact a0.1
    | 1, _ => rw [if_neg (by decide), if_neg (by decide), if_pos rfl, if_neg (by decide), if_pos rfl, sS1, show nmS t z 1 9 (.inl (q0, x)) = _ from a0.2]; exact a1.1
    | 2, _ => rw [if_neg (by decide), if_neg (by decide), if_pos rfl, if_neg (by decide), if_neg (by decide), sS2, sS1, show nmS t z 1 9 (.inl (q0, x)) = _ from a0.2, show nmV t z 1 9 (.inl (q0, x)) = _ from a0.1, a1.2]; exact a2.1
  | 3, _ =>
    have a0 := one 0 0 9 (by decide) (by decide) rfl rfl
    intro i hi
    have hi' : i < 1 := hi
    match i, hi' with
    | 0, _ => rw [if_neg (by decide), if_neg (by decide), if_neg (by decide), if_pos rfl]; exact a0.1
  | 4, _ =>
    have a0 := one 0 0 7 (by decide) (by decide) rfl rfl
    intro i hi
    have hi' : i < 1 := hi
    match i, hi' with
    | 0, _ => rw [if_neg (by decide), if_neg (by decide), if_neg (by decide), if_neg (by decide)]; exact a0.1
theorem upH_e {k : Nat} {a b c d a' b' c' d' : Nat} {D : Nat → Nat} (hk : k < 5) (h0 : a = a') (h1 : 1 < nNum k → b = b') (h2 : 2 < nNum k → c = c') (h3 : 3 < nNum k → d = d') : upH k a b c d D = upH k a' b' c' d' D := by
  subst h0
  unfold upH
  match k, hk with
  | 0, _ => rw [h1 (by decide)]; rfl
  | 1, _ => rw [h1 (by decide), h2 (by decide), h3 (by decide)]
  | 2, _ => rw [h1 (by decide), h2 (by decide)]; rfl
  | 3, _ => rfl
  | 4, _ => rfl
theorem nNum_p : ∀ k, k < 5 → 0 < nNum k := by decide +kernel
/-- what the reference knows of the highest floor, the last walled bar -/
theorem far_k {k : Nat} {v0 v1 v2 v3 : Nat} {h' : HS} (hk : k < 5) (w : HKw Dr) (nf : nfl k Dr = true) (f : FFl hr Dr) (g : FBr hr Dr) (l : LHi Dr) (h2 : k = 1 → v2 ≤ 5) (h4 : k = 4 → v0 ≤ 7) (hl : k = 2 → v0 ≤ v1)
    (e9 : h'.1 237 9 = (if k = 1 then mxI (nI v2) (hr.1 237 9) else hr.1 237 9)) (e10 : h'.1 237 10 = (if k = 4 then mxI (nI v0) (hr.1 237 10) else hr.1 237 10)) : FFl h' (upH k v0 v1 v2 v3 Dr) ∧ FBr h' (upH k v0 v1 v2 v3 Dr) ∧ LHi (upH k v0 v1 v2 v3 Dr) := by
  obtain ⟨w0, w1, w2, w3, w4, _⟩ := w
  unfold nfl at nf
  unfold upH
  match k, hk with
  | 0, _ =>
    rw [if_pos rfl] at nf
    have nf := of_decide_eq_true nf
    rw [if_neg (by decide)] at e9 e10
    rw [if_pos rfl, upF, if_pos nf]
    refine ⟨FFl_s f ?_ ?_ e9, FBr_s g ?_ e10, ?_⟩
    · simp (disch := omega) only [up1_n]
    · intro b hb; simp (disch := omega) only [up1_n]
    · simp (disch := omega) only [up1_n]
    · intro s hs
      have hs' : s < Dr 2 := by
        revert hs
        simp (disch := omega) only [up1_n]
        exact id
      simp (disch := omega) only [up1_n]; exact l s hs'
  | 1, _ =>
    rw [if_neg (by decide), if_pos rfl] at nf
    have nf := of_decide_eq_true nf
    have h2 := h2 rfl
    rw [if_pos rfl] at e9
    rw [if_neg (by decide)] at e10
    rw [if_neg (by decide), if_pos rfl, upB, if_pos nf]
    refine ⟨?_, FBr_s g ?_ e10, ?_⟩
    · have m := mx_cases (v := v2) (u := hr.1 237 9) (by omega)
      rcases f with ⟨a, b⟩ | ⟨f, f1, f2, ⟨b, b1, b2⟩, f4⟩
      · refine Or.inr ⟨v2, h2, by rw [e9]; exact m.1 b, ⟨Dr 1, by simp (disch := omega) only [up1_e]; omega, by simp (disch := omega) only [up1_e, up1_n]⟩, fun b hb => ?_⟩
        rw [up1_e rfl] at hb
        have eb : b = Dr 1 := by omega
        subst eb
        simp (disch := omega) only [up1_e, up1_n]
        omega
      · refine Or.inr ⟨if v2 ≤ f then f else v2, ?_, by rw [e9]; exact m.2 f (by omega) f2, ?_, fun i hi => ?_⟩
        · by_cases u : v2 ≤ f
          · rw [if_pos u]; exact f1
          · rw [if_neg u]; exact h2
        · by_cases u : v2 ≤ f
          · rw [if_pos u]
            exact ⟨b, by rw [up1_e rfl]; omega, by simp (disch := omega) only [up1_n]; exact b2⟩
          · rw [if_neg u]
            exact ⟨Dr 1, by rw [up1_e rfl]; omega, by simp (disch := omega) only [up1_e, up1_n]⟩
        · rw [up1_e rfl] at hi
          by_cases e : i = Dr 1
          · subst e
            simp (disch := omega) only [up1_e, up1_n]
            by_cases u : v2 ≤ f
            · rw [if_pos u]; exact u
            · rw [if_neg u]; omega
          · have := f4 i (by omega)
            simp (disch := omega) only [up1_n]
            by_cases u : v2 ≤ f
            · rw [if_pos u]; exact this
            · rw [if_neg u]; omega
    · simp (disch := omega) only [up1_n]
    · intro s hs
      have hs' : s < Dr 2 := by
        revert hs
        simp (disch := omega) only [up1_n]
        exact id
      simp (disch := omega) only [up1_n]; exact l s hs'
  | 2, _ =>
    rw [if_neg (by decide), if_neg (by decide), if_pos rfl] at nf
    have nf := of_decide_eq_true nf
    rw [if_neg (by decide)] at e9 e10
    rw [if_neg (by decide), if_neg (by decide), if_pos rfl, upS, if_pos nf]
    refine ⟨FFl_s f ?_ ?_ e9, FBr_s g ?_ e10, ?_⟩
    · simp (disch := omega) only [up1_n]
    · intro b hb; simp (disch := omega) only [up1_n]
    · simp (disch := omega) only [up1_n]
    · intro s hs
      rw [up1_e rfl] at hs
      by_cases e : s = Dr 2
      · subst e
        simp (disch := omega) only [up1_e, up1_n]
        exact hl rfl
      · simp (disch := omega) only [up1_n]; exact l s (by omega)
  | 3, _ =>
    rw [if_neg (by decide)] at e9 e10
    rw [if_neg (by decide), if_neg (by decide), if_neg (by decide), if_pos rfl]
    refine ⟨FFl_s f ?_ ?_ e9, FBr_s g ?_ e10, ?_⟩
    · simp (disch := omega) only [up1_n]
    · intro b hb; simp (disch := omega) only [up1_n]
    · simp (disch := omega) only [up1_n]
    · intro s hs
      rw [up1_n (by omega)] at hs
      simp (disch := omega) only [up1_n]; exact l s hs
  | 4, _ =>
    have h4 := h4 rfl
    rw [if_neg (by decide)] at e9
    rw [if_pos rfl] at e10
    rw [if_neg (by decide), if_neg (by decide), if_neg (by decide), if_neg (by decide), upW, if_pos (by omega)]
    refine ⟨FFl_s f ?_ ?_ e9, ?_, ?_⟩
    · simp (disch := omega) only [up1_n]
    · intro b hb; simp (disch := omega) only [up1_n]
    · have m := mx_cases (v := v0) (u := hr.1 237 10) (by omega)
      unfold FBr
      rw [up1_e rfl]
      rcases g with ⟨a, b⟩ | ⟨f, f1, f2, f3, f4⟩
      · refine Or.inr ⟨v0, h4, by rw [e10]; exact m.1 b, by rw [tb_or2]; simp, fun j hj => ?_⟩
        rw [a, tb_or2, Nat.zero_testBit, Bool.false_or] at hj
        have := of_decide_eq_true hj
        omega
      · refine Or.inr ⟨if v0 ≤ f then f else v0, ?_, by rw [e10]; exact m.2 f (by omega) f2, ?_, fun j hj => ?_⟩
        · by_cases u : v0 ≤ f
          · rw [if_pos u]; exact f1
          · rw [if_neg u]; exact h4
        · by_cases u : v0 ≤ f
          · rw [if_pos u, tb_or2, f3, Bool.true_or]
          · rw [if_neg u, tb_or2]; simp
        · rw [tb_or2, Bool.or_eq_true] at hj
          rcases hj with hj | hj
          · have := f4 j hj
            by_cases u : v0 ≤ f
            · rw [if_pos u]; exact this
            · rw [if_neg u]; omega
          · have := of_decide_eq_true hj
            by_cases u : v0 ≤ f
            · rw [if_pos u]; omega
            · rw [if_neg u]; omega
    · intro s hs
      rw [up1_n (by omega)] at hs
      simp (disch := omega) only [up1_n]; exact l s hs
theorem sim_house (hN : 2000 ≤ N) {s : Nat} {x : Nat × Int32} (H : HSim hc hr t z s x Dc Dr) (hs : s < z) : ∃ hc' hr', X4_readLine N hc 156 0 = some hc' ∧ X11_houseLine N hr 237 = some hr' ∧ CLf hc hc' ∧ RLf hr hr' ∧ ((∃ y, CBr hc' y ∧ RSb hr' y) ∨ ∃ s' x' Dc' Dr', s < s' ∧ HSim hc' hr' t z s' x' Dc' Dr') := by
  obtain ⟨H1, H2, H3, H4, H5⟩ := H
  have nx := nxt_in (t := t) hs
  obtain ⟨nv, hv⟩ : ∃ nv : Nat → Nat, ∀ i, nv i = val t z (nxi t z i (nxt t z s)) := ⟨_, fun _ => rfl⟩
  by_cases y : 0 < wdk t z s ∧ wdk t z s ≤ 5
  · obtain ⟨k, hk⟩ : ∃ k, wdk t z s = k + 1 := ⟨wdk t z s - 1, by omega⟩
    have hk5 : k < 5 := by omega
    have e1 : wdk t z s - 1 = k := by omega
    have L := c_readLine (N := N) (g := 0) hN H1 (by decide) (full := !nfl k Dc) (nv := nv) (by rw [e1]; exact c_fullH hk5 H2) hv
    rw [e1, show sLo 0 = 0 from rfl, show sHi 0 = 5 from rfl, if_pos y, Bool.not_not] at L
    have eb : blm x (nfl k Dc) 3 s = blm x (nfl k Dr) 3 s := by
      by_cases w : x.1 = 0
      · rw [(H5 w).1]
      · rw [show blm x (nfl k Dc) 3 s = x from if_pos (by simp [w]), show blm x (nfl k Dr) 3 s = x from if_pos (by simp [w])]
    rw [eb] at L
    obtain ⟨hr', b1, b2, b3, b4, b5, b6⟩ := r_houseLine (N := N) hN H3 H4 hs hk hk5 rfl
    rw [stK_ps hk5 hv] at b2
    have inv := @ps_inv t z (nxt t z s) (okc k nv) (nNum k) 0 (blm x (nfl k Dr) 3 s)
    rw [show nxi t z 0 (nxt t z s) = nxt t z s from rfl] at inv
    revert L b2
    cases est : enS t z (psR t z (okc k nv) (nNum k) 0 (.inl (nxt t z s, blm x (nfl k Dr) 3 s))) with
    | inr w =>
      rintro ⟨hc', a1, a2, a3⟩ b2
      exact ⟨hc', hr', a1, b1, CLf_n a3, b4, Or.inl ⟨w, a2, b2⟩⟩
    | inl q =>
      obtain ⟨p', x'⟩ := q
      rintro ⟨h1, a1, a2, a3, a4⟩ b2
      obtain ⟨p, ep, en, e3⟩ := en_inv est
      obtain ⟨i1, i2⟩ := inv x' p ep
      obtain ⟨hc', c1, c2, c3⟩ := c_keepH (N := N) hk5 (CHD_n H2 (fun j h1 h2 => a4.1 j (by omega) (by omega))) a3
      have hp : nxt t z s ≤ p := by rw [i1]; exact nxi_ge (by omega) _
      have hpz : p ≤ z := by rw [i1]; exact nxi_le (by omega) _
      have hp' := nxt_le (t := t) hpz
      refine ⟨hc', hr', a1.trans c1, b1, CLf.trans (CLf_n a4) (CLf_h c3), b4, Or.inr ⟨p', x', _, _, by omega, CSt_k a2 (c3.1 156 (by decide)) (c3.1 3 (by decide)) c3.2, c2, b2, b3, fun hx => ?_⟩⟩
      obtain ⟨i3, i4⟩ := i2 hx
      have hx0 : (blm x (nfl k Dr) 3 s).1 = 0 := by rw [← i3]; exact hx
      have hxx : x.1 = 0 ∧ nfl k Dr = true := by
        by_cases w : (nfl k Dr || decide (x.1 ≠ 0)) = true
        · rw [show blm x (nfl k Dr) 3 s = x from if_pos w] at hx0
          refine ⟨hx0, ?_⟩
          simpa [hx0] using w
        · rw [show blm x (nfl k Dr) 3 s = (3, nI s) from if_neg w] at hx0
          exact absurd hx0 (show ¬ (3 : Nat) = 0 by decide)
      obtain ⟨g1, g2, g3, g4⟩ := H5 hxx.1
      have ok : ∀ j, j < nNum k → tkc t z (nxi t z j (nxt t z s)) = 2 ∧ okc k nv j = true := fun j hj => i4 j (Nat.zero_le _) (by omega)
      have ve := vK_e (x := blm x (nfl k Dr) 3 s) hk5 hv ok
      have n0 := nNum_p k hk5
      have eu : upH k (vK t z k 0 (.inl (nxt t z s, blm x (nfl k Dr) 3 s))) (vK t z k 1 (.inl (nxt t z s, blm x (nfl k Dr) 3 s))) (vK t z k 2 (.inl (nxt t z s, blm x (nfl k Dr) 3 s))) (vK t z k 3 (.inl (nxt t z s, blm x (nfl k Dr) 3 s))) Dr = upH k (nv 0) (nv 1) (nv 2) (nv 3) Dr := upH_e hk5 (ve 0 n0) (fun w => ve 1 w) (fun w => ve 2 w) (fun w => ve 3 w)
      rw [eu, g1]
      have okd : ∀ j, j < nNum k → ¬ (k = 2 ∧ j = 1) → nLo k j ≤ nv j ∧ nv j ≤ nHi k j := by
        intro j hj n
        have := (ok j hj).2
        rw [okc_e n rfl rfl] at this
        exact of_decide_eq_true this
      refine ⟨rfl, far_k hk5 H4.2 hxx.2 g2 g3 g4 ?_ ?_ ?_ ?_ ?_⟩
      · intro e; subst e; exact (okd 2 (by decide) (by decide)).2
      · intro e; subst e; exact (okd 0 (by decide) (by decide)).2
      · intro e
        subst e
        have := (ok 1 (by decide)).2
        unfold okc at this
        rw [decide_eq_false (show ¬ ¬ ((2 : Nat) = 2 ∧ (1 : Nat) = 1) by decide), Bool.false_or, Bool.and_eq_true] at this
        exact of_decide_eq_true this.2
      · rw [b5]
        by_cases e : k = 1
        · subst e; rw [if_pos rfl, if_pos rfl, ve 2 (by decide)]
        · rw [if_neg e, if_neg e]
      · rw [b6, ve 0 n0]
  · have L := c_readLine (N := N) (g := 0) hN H1 (by decide) (full := false) (nv := nv)
    obtain ⟨hr', b1, b2, b3⟩ := r_houseLineB (N := N) hN H3 y
    unfold X4_readLine
    rw [show X4_lineOf N hc 156 0 = _ from c_lineOf (g := 0) hN H1.1 (by decide), bd1_some, show sLo 0 = 0 from rfl, show sHi 0 = 5 from rfl, if_neg y, if_pos rfl]
    obtain ⟨hc', a1, a2, a3⟩ := c_break (N := N) H1.1.2.2.1
    exact ⟨hc', hr', by rw [a1, bd1_some], b1, CLf_n a3, b3, Or.inl ⟨s, a2, b2⟩⟩
end SMS
