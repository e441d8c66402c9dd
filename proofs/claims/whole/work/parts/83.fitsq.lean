/-! ===== level 2: fits and odds as calls ===== -/
section ODE
variable {N : Nat} {p pm q qm : Nat} {D : Nat → Nat} {m : Nat} {K W : Nat → Nat}
theorem morn_p {h : HS} {v : Int32} {pm : Nat} (e : X7_morningsAt N h (1 + 1) v = some pm) (hp : pm ≠ 0) : pm = 34 ∨ pm = 37 := by
  unfold X7_morningsAt at e
  by_cases z : v < 0
  · rw [if_pos z] at e; cases e; exact absurd rfl hp
  · rw [if_neg z, if_neg (by decide)] at e
    by_cases y : h.1 (1 + 1 + 2) (2 : Int32).toNatClampNeg ≤ v
    · rw [if_pos y] at e; cases e; exact absurd rfl hp
    · rw [if_neg y] at e
      obtain ⟨j, hj, rfl⟩ := nI_of z
      by_cases x : j < 2
      · rw [if_neg (show ¬ (2 : Int32) ≤ nI j from nI_ge (b := 2) x (by decide)), if_neg (nI_in x (by decide)), nI_clamp hj] at e
        have e2 : ra 33 j = pm := Option.some.inj e
        match j, x with
        | 0, _ => left; rw [← e2]; decide +kernel
        | 1, _ => right; rw [← e2]; decide +kernel
      · rw [if_pos (show (2 : Int32) ≤ nI j from nI_le (a := 2) (by omega) hj)] at e; cases e; exact absurd rfl hp
theorem CR_FC {h : HS} {V : Nat → Int32} (c : CR h pm 8 2 m K V) (h8 : h.1 pm 0 = 8) : ∃ W, FC h pm m K W ∧ ∀ i, i < m → V i = nI (W i) := by
  obtain ⟨c1, c2, c3, c4, c5, c6, c7, c8⟩ := c
  have hV : ∀ i, i < m → V i = nI ((V i).toNatClampNeg) ∧ (V i).toNatClampNeg < 6 := by
    intro i hi
    obtain ⟨_, _, _, d4, d5⟩ := c8 i hi
    rcases d4 with r | ⟨j, hj, r⟩
    · exact absurd r (d5 rfl)
    · rw [r, nI_clamp (by omega)]; exact ⟨rfl, hj⟩
  refine ⟨fun i => (V i).toNatClampNeg, ⟨c1, c3, c4, c5, c6, c7, h8, fun i hi => ?_⟩, fun i hi => (hV i hi).1⟩
  obtain ⟨d1, d2, d3, _⟩ := c8 i hi
  exact ⟨d1, (hV i hi).2, d2, by rw [d3]; exact (hV i hi).1⟩
theorem dawn {h : HS} {a b : Int32} (hN : 1000000000 ≤ N) (c : KH h p D) (hp : p ≠ 0) (fc : FC h pm m K W) {V : Nat → Int32} (hV : ∀ i, i < m → V i = nI (W i))
    (e2 : ∀ h1, Same h h1 → ∃ h2, X11_isHouse N h1 237 a = some (1, h2) ∧ RH h2 q D ∧ Same h h2 ∧ (∀ k, k ≠ 237 → h2.1 k = h1.1 k)) (hq : qm + 2 * 8 < 934)
    (em : ∀ h1, Same h h1 → ∃ h2, X11_areMornings N h1 237 b = some (1, h2) ∧ h2.1 237 48 = nI qm ∧ RR h2 qm m K V ∧ Same h h2 ∧ (∀ k, k ≠ 237 → h2.1 k = h1.1 k) ∧ (∀ j, j ≠ 48 → h2.1 237 j = h1.1 237 j) ∧ h2.2 = h1.2) :
    ∃ h1 h2 h3 h4, X11_isHouse N h1 237 a = some (1, h2) ∧ X11_areMornings N h2 237 b = some (1, h3) ∧ Same h h4 ∧
      ((X10_dawns N h 1 p pm = some (0, h1) ∧ X11_areDreams N h3 237 = some (0, h4)) ∨
       (∃ x, X10_dawns N h 1 p pm = some (1, h1) ∧ X11_areDreams N h3 237 = some (1, h4) ∧ KH h1 p D ∧ h1.1 235 1 = nI (FT D x m K W) ∧ (∀ s, s < 6 → ddC D x s < 64 ∧ h1.1 236 s = nI (ddC D x s)) ∧
          RH h4 q D ∧ (∀ s, s < 6 → X11_isSo N h4 237 (nI s) = some (nB ((FT D x m K W).testBit s = true))) ∧ (∀ s, s < 6 → (FT D x m K W).testBit s = true → h4.1 256 s = nI (ddC D x s)))) := by
  have hk := hk0 c.2.1
  have he := ev_lt c.2.1
  have hpm : pm ≠ 0 := by have := fc.2.2.2.1; omega
  have ref : ∀ h1, Same h h1 → ∃ h2 h3, X11_isHouse N h1 237 a = some (1, h2) ∧ X11_areMornings N h2 237 b = some (1, h3) ∧ Same h h3 ∧ RH h3 q D ∧ FR h3 qm m K W := by
    intro h1 s1
    obtain ⟨h2, a1, a2, a3, _⟩ := e2 h1 s1
    obtain ⟨h3, b1, b2, b3, b4, b5, b6, _⟩ := em h2 a3
    refine ⟨h2, h3, a1, b1, b4, ?_, ?_⟩
    · obtain ⟨c1, c2, c3, c4, c5, c6, c7⟩ := a2
      refine ⟨c1, c2, ?_, ?_, ?_, ?_, ?_⟩
      · rw [b6 _ (by decide)]; exact c3
      · rw [b6 _ (by decide)]; exact c4
      · rw [b6 _ (by decide)]; exact c5
      · rw [b6 _ (by decide)]; exact c6
      · rw [b5 238 (by decide)]; exact c7
    · refine ⟨fc.1, by omega, b2, b3.1, fun i hi => ?_⟩
      obtain ⟨d1, d2, _⟩ := fc.2.2.2.2.2.2.2 i hi
      obtain ⟨g1, g2⟩ := b3.2 i hi
      exact ⟨d1, d2, g1, by rw [g2]; exact hV i hi⟩
  have cn := c_numbersBelow (N := N) (by omega) fc (B := D 0) (by omega)
  have ed : X10_dawns N h 1 p pm = (bd1 (X6_numbersBelow N h pm (h.1 p 0)) fun r5 => (if r5 = 0 then some (nz 0, h) else bd2 (X5_finds N h (1 + 170) p) fun r9 h10 => (if r9 = 0 then some (nz 0, h10) else bd1 (X2_judge N h10 (1 + 234) p pm (1 + 170)) fun h14 => some (nz 1, h14)))) := by
    unfold X10_dawns
    rw [if_neg hp, if_neg hpm]
  rw [ch0 c, cn, bd1_some] at ed
  by_cases z : nbB W (D 0) m 0 = true
  · rw [nB_t z, if_neg one0] at ed
    obtain ⟨h1, f1, k1, r1⟩ := c_finds (N := N) (by omega) c
    rcases r1 with ⟨a1, a2⟩ | ⟨x, L', a1, a2, a3, a4⟩
    · obtain ⟨h2, h3, b1, b2, b3, b4, b5⟩ := ref h1 (CF_same f1)
      rcases r_areDreams hN b4 b5 with ⟨h4, d1, d2, _⟩ | ⟨y, L2, h4, d1, d2, d3, _⟩
      · refine ⟨h1, h2, h3, h4, b1, b2, Same.trans b3 (SM_same d2), Or.inl ⟨?_, d1⟩⟩
        rw [ed, show X5_finds N h (1 + 170) p = _ from a1]; rfl
      · rw [a2] at d3; cases d3
    · obtain ⟨l1, l2, l3⟩ := LR_ok (D := D) (m := D 1) (more := 0) (x := x) (by rw [a2]; exact List.mem_cons_self ..)
      obtain ⟨h1', j1, j2, j3, j4, j5⟩ := c_judge (N := N) (by omega) k1 a4 l1 l3 (FC_fr (fun k hk => f1.1 k (by omega) (by omega) (by omega) (by omega)) fc)
      have s1 : Same h h1' := Same.trans (CF_same f1) (fun k hk => j2 k (by omega) (by omega))
      obtain ⟨h2, h3, b1, b2, b3, b4, b5⟩ := ref h1' s1
      rcases r_areDreams hN b4 b5 with ⟨h4, d1, d2, d3⟩ | ⟨y, L2, h4, d1, d2, d3, d4, d5⟩
      · exfalso
        rcases d3 with r | r
        · rw [a2] at r; cases r
        · rw [z] at r; exact Bool.noConfusion r
      · rw [a2] at d3
        have : x = y := by injection d3
        subst this
        have hct : ∀ i, i < ctn D (D 1) → ord D i < D 1 := fun i hi => (ord_lt (D := D) (b := D 1) (by omega) hi).1
        have dl : ∀ s, ddC D x s < 64 := fun s => by
          unfold ddC
          by_cases w : s = 5
          · rw [if_pos w]; omega
          · rw [if_neg w]; exact dv_lt c.2.1 x s _ hct
        have rl : ∀ s, drR D x s < 64 := fun s => by
          unfold drR
          by_cases w : s < D 2
          · rw [if_pos w]; exact dv_lt c.2.1 x s _ hct
          · rw [if_neg w]; omega
        refine ⟨h1', h2, h3, h4, b1, b2, Same.trans b3 (SM_same d2), Or.inr ⟨x, ?_, d1, KH_same s1 c, j4, fun s hs => ⟨dl s, j5 s hs⟩, SM_rh d2 b4, fun s hs => ?_, fun s hs ht => ?_⟩⟩
        · rw [ed, show X5_finds N h (1 + 170) p = _ from a1, bd2_some, if_neg one0, show X2_judge N h1 (1 + 234) p pm (1 + 170) = _ from j1]; rfl
        · rw [r_isSo (by omega) (SM_rh d2 b4) (SM_fr d2 b5) d5 (fun s _ => rl s) hs, FT_bit x hs]
        · rw [FT_bit x hs] at ht
          unfold ftB at ht
          rw [d5 s hs, dr_dd c.2.1 x]
          simp at ht
          exact ht.1
  · rw [nB_f z, if_pos rfl] at ed
    obtain ⟨h2, h3, b1, b2, b3, b4, b5⟩ := ref h (Same.refl h)
    rcases r_areDreams hN b4 b5 with ⟨h4, d1, d2, _⟩ | ⟨y, L2, h4, d1, d2, d3, d4, _⟩
    · exact ⟨h, h2, h3, h4, b1, b2, Same.trans b3 (SM_same d2), Or.inl ⟨ed, d1⟩⟩
    · exact absurd d4 z
theorem r_manyFit {h : HS} {F : Nat} (hN : 100 ≤ N) (hF : F < 64) (so : ∀ s, s < 6 → X11_isSo N h 237 (nI s) = some (nB (F.testBit s = true))) : X11_manyFit N h 237 = some (nI (cnt10 F)) := by
  have key := lp (F := fun n i (a : Nat) => X11_manyFit_l4 N h n 237 (nI a) (nI i)) (f := fun s a => if F.testBit s = true then a + 1 else a) (g := fun a => some (nI a)) (M := 6) (by
    intro n i a hi
    show X11_manyFit_l4 N h (n + 1) 237 (nI a) (nI i) = X11_manyFit_l4 N h n 237 (nI (if F.testBit i = true then a + 1 else a)) (nI (i + 1))
    rw [X11_manyFit_l4, if_neg (show ¬ (6 : Int32) ≤ nI i from nI_ge (b := 6) hi (by decide)), so i hi, bd1_some, nI_1, nI_1, Int32.add_zero]
    simp only [nB_0]
    by_cases z : F.testBit i = true
    · rw [if_neg (fun w => w z), if_pos z]
    · rw [if_pos z, if_neg z]) (by
    intro n a
    show X11_manyFit_l4 N h (n + 1) 237 (nI a) (nI 6) = some (nI a)
    rw [X11_manyFit_l4, if_pos (by decide)]) 6 0 N 0 (by omega) (by omega)
  rw [cnt6 F hF] at key
  exact key
abbrev dsS (F : Nat) (dd : Nat → Nat) (f s a : Nat) : Nat := if F.testBit s = true then a + dd s / 2 ^ f % 2 else a
def ds (F : Nat) (dd : Nat → Nat) (f : Nat) : Nat := zl (dsS F dd f) 6 0 0
def wv (F : Nat) (dd : Nat → Nat) (f : Nat) : Nat := if ds F dd f < cnt10 F - ds F dd f then cnt10 F - ds F dd f else ds F dd f
theorem ds_sum (F : Nat) (dd : Nat → Nat) (f : Nat) : ∀ (r i a b c : Nat), a + b = c → zl (dsS F dd f) r i a + zl (fun s a => if F.testBit s = true then a + (1 - dd s / 2 ^ f % 2) else a) r i b = zl (fun s a => if F.testBit s = true then a + 1 else a) r i c := by
  intro r
  induction r with
  | zero => intro i a b c h; exact h
  | succ r ih =>
    intro i a b c h
    simp only [zl]
    apply ih
    have : dd i / 2 ^ f % 2 < 2 := Nat.mod_lt _ (by decide)
    by_cases z : F.testBit i = true
    · rw [dsS, if_pos z, if_pos z, if_pos z]; omega
    · rw [dsS, if_neg z, if_neg z, if_neg z]; exact h
theorem ds_le {F : Nat} (hF : F < 64) (dd : Nat → Nat) (f : Nat) : ds F dd f ≤ cnt10 F := by
  have := ds_sum F dd f 6 0 0 0 0 rfl
  rw [cnt6 F hF] at this
  unfold ds
  omega
theorem c_leftAtWorst {h : HS} {F : Nat} {dd : Nat → Nat} (hN : 100 ≤ N) (hF : F < 64) (e1 : h.1 235 1 = nI F) (e2 : ∀ s, s < 6 → dd s < 64 ∧ h.1 236 s = nI (dd s)) {f : Nat} (hf : f < 6) : X2_leftAtWorst N h 235 (nI f) = some (nI (wv F dd f)) := by
  have key := lp (F := fun n i (a : Nat × Nat) => X2_leftAtWorst_l7 N h n 235 (nI f) (nI a.1) (nI a.2) (nI i)) (f := fun s a => (dsS F dd f s a.1, (if F.testBit s = true then a.2 + (1 - dd s / 2 ^ f % 2) else a.2))) (g := fun a => some (if nI a.1 < nI a.2 then nI a.2 else nI a.1)) (M := 6) (by
    intro n i a hi
    obtain ⟨a, b⟩ := a
    obtain ⟨d1, d2⟩ := e2 i hi
    show X2_leftAtWorst_l7 N h (n + 1) 235 (nI f) (nI a) (nI b) (nI i) = X2_leftAtWorst_l7 N h n 235 (nI f) (nI (dsS F dd f i a)) (nI (if F.testBit i = true then b + (1 - dd i / 2 ^ f % 2) else b)) (nI (i + 1))
    have hb : dd i / 2 ^ f % 2 < 2 := Nat.mod_lt _ (by decide)
    rw [X2_leftAtWorst_l7, if_neg (show ¬ (5 : Int32) < nI i from nI_nlt (a := 5) (by omega) (by decide)), at_in ln236 (by decide) hi, bd1_some, e1, show h.1 (235 + 1) i = _ from d2, bi_e (by omega) (by omega), bi_e (by omega) (by omega), nI_1, show (1 : Int32) - nI (dd i / 2 ^ f % 2) = nI (1 - dd i / 2 ^ f % 2) from pk_sub (a := 1) (by omega), pk_mul, pk_mul, nI_add, nI_add]
    by_cases z : F.testBit i = true
    · have z2 : F / 2 ^ i % 2 = 1 := by rw [tb_e] at z; simpa using z
      rw [dsS, if_pos z, if_pos z, z2, Nat.one_mul, Nat.one_mul]
    · have z2 : F / 2 ^ i % 2 = 0 := by
        rw [tb_e] at z
        have : F / 2 ^ i % 2 < 2 := Nat.mod_lt _ (by decide)
        have : ¬ F / 2 ^ i % 2 = 1 := by simpa using z
        omega
      rw [dsS, if_neg z, if_neg z, z2, Nat.zero_mul, Nat.zero_mul]; rfl) (by
    intro n a
    show X2_leftAtWorst_l7 N h (n + 1) 235 (nI f) (nI a.1) (nI a.2) (nI 6) = _
    rw [X2_leftAtWorst_l7, if_pos (by decide)]) 6 0 N (0, 0) (by omega) (by omega)
  have split : ∀ (r i a b : Nat), zl (fun s (a : Nat × Nat) => (dsS F dd f s a.1, (if F.testBit s = true then a.2 + (1 - dd s / 2 ^ f % 2) else a.2))) r i (a, b) = (zl (dsS F dd f) r i a, zl (fun s a => if F.testBit s = true then a + (1 - dd s / 2 ^ f % 2) else a) r i b) := by
    intro r
    induction r with
    | zero => intro i a b; rfl
    | succ r ih => intro i a b; simp only [zl]; exact ih _ _ _
  rw [split] at key
  have hs := ds_sum F dd f 6 0 0 0 0 rfl
  rw [cnt6 F hF] at hs
  have hc := cnt10_lt F
  unfold X2_leftAtWorst
  rw [show X2_leftAtWorst_l7 N h N 235 (nI f) 0 0 0 = _ from key]
  unfold wv ds
  generalize zl (fun s a => if F.testBit s = true then a + (1 - dd s / 2 ^ f % 2) else a) 6 0 0 = b at hs ⊢
  generalize zl (dsS F dd f) 6 0 0 = a at hs ⊢
  rw [show cnt10 F - a = b by omega]
  congr 1
  by_cases z : a < b
  · rw [if_pos (nI_lt z (by omega)), if_pos z]
  · rw [if_neg (nI_nlt (by omega) (by omega)), if_neg z]
abbrev qs (F : Nat) (dd : Nat → Nat) (f : Nat) (o : Option (Nat × Nat)) : Option (Nat × Nat) := match o with | none => some (f, wv F dd f) | some (b, l) => if l ≤ wv F dd f then some (b, l) else some (f, wv F dd f)
def qV (o : Option (Nat × Nat)) : Int32 := match o with | none => -1 | some (b, _) => nI b
theorem wv_le {F : Nat} (hF : F < 64) (dd : Nat → Nat) (f : Nat) : wv F dd f ≤ 10 := by
  have h1 := ds_le hF dd f
  have h2 := cnt10_lt F
  unfold wv
  by_cases z : ds F dd f < cnt10 F - ds F dd f
  · rw [if_pos z]; omega
  · rw [if_neg z]; omega
theorem c_question {h : HS} {F : Nat} {dd : Nat → Nat} (hN : 100 ≤ N) (c : KH h p D) (hF : F < 64) (e1 : h.1 235 1 = nI F) (e2 : ∀ s, s < 6 → dd s < 64 ∧ h.1 236 s = nI (dd s)) : X2_question N h 235 p = some (if F = 0 then -1 else qV (zl (qs F dd) (D 0) 0 none)) := by
  have hk := hk0 c.2.1
  by_cases z : F = 0
  · obtain ⟨M, hM, _⟩ := fuel (show 0 < N by omega)
    unfold X2_question
    rw [if_pos z]
    conv => lhs; rw [hM]
    rw [X2_question_l7, e1, z, ch0 c]
    by_cases y : nI (D 0) ≤ 0
    · rw [if_pos y]
    · rw [if_neg y, if_pos (by rfl)]
  · rw [if_neg z]
    have key : ∀ (r i fu : Nat) (o : Option (Nat × Nat)) (l : Int32), i + r = D 0 → r < fu → (∀ b w, o = some (b, w) → b ≤ 6 ∧ w ≤ 10 ∧ l = nI w) → X2_question_l7 N h fu 235 p (qV o) l (nI i) = some (qV (zl (qs F dd) r i o)) := by
      intro r
      induction r with
      | zero =>
        intro i fu o l e hf ho
        obtain ⟨fu, rfl, _⟩ := fuel hf
        rw [X2_question_l7, ch0 c, if_pos (nI_le (by omega) (by omega))]
        rfl
      | succ r ih =>
        intro i fu o l e hf ho
        obtain ⟨fu, rfl, _⟩ := fuel hf
        have hw := wv_le hF dd i
        rw [X2_question_l7, ch0 c, if_neg (nI_ge (by omega) (by omega)), e1, if_neg (nI_ne0 (by omega) (by omega)), c_leftAtWorst hN hF e1 e2 (by omega), bd1_some, nI_1]
        simp only [zl]
        cases o with
        | none =>
          rw [if_pos (show qV none = -1 from rfl)]
          exact ih (i + 1) fu (some (i, wv F dd i)) _ (by omega) (by omega) (fun b w hbw => by cases hbw; exact ⟨by omega, hw, rfl⟩)
        | some bl =>
          obtain ⟨b, w⟩ := bl
          obtain ⟨b1, b2, b3⟩ := ho b w rfl
          rw [show qV (some (b, w)) = nI b from rfl, if_neg (nI_m1 (by omega)), b3]
          by_cases y : w ≤ wv F dd i
          · rw [if_pos (nI_le y (by omega)), show qs F dd i (some (b, w)) = some (b, w) from if_pos y]
            exact ih (i + 1) fu (some (b, w)) _ (by omega) (by omega) (fun b' w' hbw => by cases hbw; exact ⟨b1, b2, rfl⟩)
          · rw [if_neg (nI_ge (by omega) (by omega)), show qs F dd i (some (b, w)) = some (i, wv F dd i) from if_neg y]
            exact ih (i + 1) fu (some (i, wv F dd i)) _ (by omega) (by omega) (fun b' w' hbw => by cases hbw; exact ⟨by omega, hw, rfl⟩)
    exact key (D 0) 0 N none 0 (by omega) (by omega) (fun b w h => by cases h)
theorem r_askOf {h : HS} {F : Nat} {dd : Nat → Nat} (hN : 100 ≤ N) (c : RH h q D) (hF : F < 64) (so : ∀ s, s < 6 → X11_isSo N h 237 (nI s) = some (nB (F.testBit s = true))) (e2 : ∀ s, s < 6 → F.testBit s = true → h.1 256 s = nI (dd s)) (dl : ∀ s, s < 6 → dd s < 64) : X11_askOf N h 237 (nI (cnt10 F)) = some (if F = 0 then -1 else qV (zl (qs F dd) (D 0) 0 none)) := by
  have hk := hk0 c.1
  have hc := cnt10_lt F
  by_cases z : F = 0
  · obtain ⟨M, hM, _⟩ := fuel (show 0 < N by omega)
    unfold X11_askOf
    rw [if_pos z, (cnt_0 F hF).mpr z]
    conv => lhs; rw [hM]
    rw [X11_askOf_l8, rh0 c]
    by_cases y : nI (D 0) ≤ 0
    · rw [if_pos y]
    · rw [if_neg y, if_pos (by decide)]
  · rw [if_neg z]
    have n0 : cnt10 F ≠ 0 := fun w => z ((cnt_0 F hF).mp w)
    have l27 : ∀ (Kc : Nat → Int32 → Int32 → Int32 → Int32 → Option Int32) (f : Nat) (v2 v3 : Int32), f < 6 → X11_askOf_l27 N h Kc N 237 (nI (cnt10 F)) v2 v3 (nI f) 0 0 = (if nI (wv F dd f) < v3 then Kc 237 (nI (cnt10 F)) (nI f) (nI (wv F dd f)) (nI (f + 1)) else Kc 237 (nI (cnt10 F)) v2 v3 (nI (f + 1))) := by
      intro Kc f v2 v3 hf
      have key := lp (F := fun n i (a : Nat) => X11_askOf_l27 N h Kc n 237 (nI (cnt10 F)) v2 v3 (nI f) (nI a) (nI i)) (f := dsS F dd f) (g := fun a => (if nI a ≤ nI (cnt10 F) - nI a then (if (nI (cnt10 F) - nI a) < v3 then Kc 237 (nI (cnt10 F)) (nI f) (nI (cnt10 F) - nI a) (nI (f + 1)) else Kc 237 (nI (cnt10 F)) v2 v3 (nI (f + 1))) else (if nI a < v3 then Kc 237 (nI (cnt10 F)) (nI f) (nI a) (nI (f + 1)) else Kc 237 (nI (cnt10 F)) v2 v3 (nI (f + 1))))) (M := 6) (by
        intro n i a hi
        show X11_askOf_l27 N h Kc (n + 1) 237 (nI (cnt10 F)) v2 v3 (nI f) (nI a) (nI i) = X11_askOf_l27 N h Kc n 237 (nI (cnt10 F)) v2 v3 (nI f) (nI (dsS F dd f i a)) (nI (i + 1))
        rw [X11_askOf_l27, if_neg (show ¬ (6 : Int32) ≤ nI i from nI_ge (b := 6) hi (by decide)), so i hi, bd1_some, nI_1, Int32.add_zero]
        simp only [nB_0]
        by_cases y : F.testBit i = true
        · rw [if_neg (fun w => w y), if_neg (nI_in (by omega) (by decide)), nI_clamp (by omega), show h.1 (237 + 19) i = _ from e2 i hi y, bi_e (by have := dl i hi; omega) (by omega), nI_add, dsS, if_pos y]
        · rw [if_pos y, dsS, if_neg y]) (by
        intro n a
        show X11_askOf_l27 N h Kc (n + 1) 237 (nI (cnt10 F)) v2 v3 (nI f) (nI a) (nI 6) = _
        rw [X11_askOf_l27, if_pos (by decide), nI_1]) 6 0 N 0 (by omega) (by omega)
      rw [show X11_askOf_l27 N h Kc N 237 (nI (cnt10 F)) v2 v3 (nI f) 0 0 = _ from key]
      have hd := ds_le hF dd f
      rw [show zl (dsS F dd f) 6 0 0 = ds F dd f from rfl, pk_sub hd]
      unfold wv
      by_cases y : ds F dd f < cnt10 F - ds F dd f
      · rw [if_pos (nI_le (by omega) (by omega)), if_pos y]
      · rw [if_neg y]
        by_cases x : ds F dd f = cnt10 F - ds F dd f
        · rw [if_pos (nI_le (by omega) (by omega)), ← x]
        · rw [if_neg (nI_ge (by omega) (by omega))]
    have key : ∀ (r i fu : Nat) (o : Option (Nat × Nat)) (l : Int32), i + r = D 0 → r < fu → (o = none → l = 99999999) → (∀ b w, o = some (b, w) → w ≤ 10 ∧ l = nI w) → X11_askOf_l8 N h fu 237 (nI (cnt10 F)) (qV o) l (nI i) = some (qV (zl (qs F dd) r i o)) := by
      intro r
      induction r with
      | zero =>
        intro i fu o l e hf hn ho
        obtain ⟨fu, rfl, _⟩ := fuel hf
        rw [X11_askOf_l8, rh0 c, if_pos (nI_le (by omega) (by omega))]
        rfl
      | succ r ih =>
        intro i fu o l e hf hn ho
        obtain ⟨fu, rfl, _⟩ := fuel hf
        have hw := wv_le hF dd i
        rw [X11_askOf_l8, rh0 c, if_neg (nI_ge (by omega) (by omega)), if_neg (nI_nle (by omega) (by omega)), l27 _ i _ _ (by omega)]
        simp only [zl]
        cases o with
        | none =>
          rw [hn rfl, if_pos (show nI (wv F dd i) < 99999999 from nI_lt (b := 99999999) (by omega) (by decide))]
          exact ih (i + 1) fu (some (i, wv F dd i)) _ (by omega) (by omega) (fun h => by cases h) (fun b w hbw => by cases hbw; exact ⟨hw, rfl⟩)
        | some bl =>
          obtain ⟨b, w⟩ := bl
          obtain ⟨b2, b3⟩ := ho b w rfl
          rw [b3]
          by_cases y : w ≤ wv F dd i
          · rw [if_neg (nI_nlt y (by omega)), show qs F dd i (some (b, w)) = some (b, w) from if_pos y]
            exact ih (i + 1) fu (some (b, w)) _ (by omega) (by omega) (fun h => by cases h) (fun b' w' hbw => by cases hbw; exact ⟨b2, rfl⟩)
          · rw [if_pos (nI_lt (by omega) (by omega)), show qs F dd i (some (b, w)) = some (i, wv F dd i) from if_neg y]
            exact ih (i + 1) fu (some (i, wv F dd i)) _ (by omega) (by omega) (fun h => by cases h) (fun b' w' hbw => by cases hbw; exact ⟨hw, rfl⟩)
    exact key (D 0) 0 N none 99999999 (by omega) (by omega) (fun _ => rfl) (fun b w h => by cases h)
end ODE
