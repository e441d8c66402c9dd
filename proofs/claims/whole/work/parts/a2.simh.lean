/-! ===== level 2: text: a line of a house, both sides ===== -/
def nfl (k : Nat) (D : Nat → Nat) : Bool := if k = 0 then decide (D 0 < 6) else if k = 1 then decide (D 1 < 8) else if k = 2 then decide (D 2 < 5) else true
def stK (t : Nat → Nat) (z k : Nat) (st : PSt) : PSt := if k = 0 then sF2 t z st else if k = 1 then sB4 t z st else if k = 2 then sS3 t z st else if k = 3 then nmS t z 0 9 st else nmS t z 0 7 st
def vK (t : Nat → Nat) (z k i : Nat) (st : PSt) : Nat := if k = 0 then (if i = 0 then nmV t z 0 20 st else nmV t z 1 9 (sF1 t z st)) else if k = 1 then (if i = 0 then nmV t z 0 9 st else if i = 1 then nmV t z 1 4 (sB1 t z st) else if i = 2 then nmV t z 0 5 (sB2 t z st) else nmV t z 0 10 (sB3 t z st)) else if k = 2 then (if i = 0 then nmV t z 1 9 st else if i = 1 then nmV t z 1 9 (sS1 t z st) else nmV t z 1 20 (sS2 t z st)) else if k = 3 then nmV t z 0 9 st else nmV t z 0 7 st
section SMH
variable {N : Nat} {h : HS} {t : Nat → Nat} {z : Nat} {D : Nat → Nat}
theorem r_houseLine (hN : 2000 ≤ N) {s : Nat} {x : Nat × Int32} (c : RSg h t z s x) (d : T0 h D) (hs : s < z) {k : Nat} (hk : wdk t z s = k + 1) (hk5 : k < 5) {st : PSt} (hst : st = .inl (nxt t z s, blm x (nfl k D) 3 s)) :
    ∃ h', X11_houseLine N h 237 = some h' ∧ RSt h' t z (enS t z (stK t z k st)) ∧ T0 h' (upH k (vK t z k 0 st) (vK t z k 1 st) (vK t z k 2 st) (vK t z k 3 st) D) ∧ RLf h h' ∧ h'.1 237 9 = (if k = 1 then mxI (nI (vK t z k 2 st)) (h.1 237 9) else h.1 237 9) ∧ h'.1 237 10 = (if k = 4 then mxI (nI (vK t z k 0 st)) (h.1 237 10) else h.1 237 10) := by
  obtain ⟨h3, a1, a2, a3⟩ := r_wordIn (N := N) hN (lo := 1) (hi := 5) c (by decide) (by decide) (by decide)
  have nx := nxt_in (t := t) hs
  rw [if_pos (by omega)] at a1
  rw [if_pos (by omega)] at a2
  have a2' : RSg h3 t z (nxt t z s) x := a2
  have d3 : T0 h3 D := ⟨RHv_n d.1 (a3.1 240 (by decide) (by decide)), d.2⟩
  have f := c.2.2.2.2
  have n9 : h3.1 237 9 = h.1 237 9 ∧ h3.1 237 10 = h.1 237 10 := ⟨a3.2.2.1 9 (by decide), a3.2.2.1 10 (by decide)⟩
  unfold X11_houseLine
  rw [show X11_wordIn N h 237 1 5 = _ from a1, bd2_some, if_pos a2'.2.1, c.1.2.2.1, hk]
  unfold X11_houseLine_b24
  have fin : ∀ (B : Option HS) (st2 : PSt) (D' : Nat → Nat) (u9 u10 : Int32), (∃ h4, B = some h4 ∧ RSt h4 t z st2 ∧ T0 h4 D' ∧ RLf h3 h4 ∧ h4.1 237 9 = u9 ∧ h4.1 237 10 = u10) → ∃ h', (bd1 B fun h8 => bd1 (X11_endsLine N h8 237) fun h11 => some h11) = some h' ∧ RSt h' t z (enS t z st2) ∧ T0 h' D' ∧ RLf h h' ∧ h'.1 237 9 = u9 ∧ h'.1 237 10 = u10 := by
    rintro B st2 D' u9 u10 ⟨h4, b1, b2, b3, b4, b5, b6⟩
    obtain ⟨h5, e1, e2, e3⟩ := r_endsLine (N := N) hN b2
    rw [b1, bd1_some, e1, bd1_some]
    exact ⟨h5, rfl, e2, ⟨RHv_n b3.1 (e3.1 240 (by decide) (by decide)), b3.2⟩, RLf.trans (RLf_n a3) (RLf.trans b4 (RLf_n e3)), by rw [e3.2.2.1 9 (by decide)]; exact b5, by rw [e3.2.2.1 10 (by decide)]; exact b6⟩
  unfold upH vK stK
  unfold nfl at hst
  match k, hk5 with
  | 0, _ =>
    rw [if_pos rfl] at hst
    rw [if_pos (show nI (0 + 1) = 1 from rfl)]
    simp only [if_true, show ¬ ((0 : Nat) = 1) by decide, show ¬ ((0 : Nat) = 4) by decide, show ¬ ((1 : Nat) = 0) by decide, if_false]
    obtain ⟨h4, b1, b2, b3, b4, b5, b6⟩ := r_floorTold (N := N) hN a2' f nx.1 d3
    rw [← hst] at b2 b3
    exact fin _ _ _ _ _ ⟨h4, b1, b2, b3, b4, b5.trans n9.1, b6.trans n9.2⟩
  | 1, _ =>
    rw [if_neg (by decide), if_pos rfl] at hst
    rw [if_neg (show ¬ nI (1 + 1) = 1 by decide), if_pos (show nI (1 + 1) = 2 from rfl)]
    simp only [show ¬ ((1 : Nat) = 0) by decide, show ¬ ((1 : Nat) = 4) by decide, show ¬ ((2 : Nat) = 0) by decide, show ¬ ((2 : Nat) = 1) by decide, show ¬ ((3 : Nat) = 0) by decide, show ¬ ((3 : Nat) = 1) by decide, show ¬ ((3 : Nat) = 2) by decide, if_false, if_true]
    obtain ⟨h4, b1, b2, b3, b4, b5, b6⟩ := r_barTold (N := N) hN a2' f nx.1 d3 hst
    rw [n9.1] at b5
    exact fin _ _ _ _ _ ⟨h4, b1, b2, b3, b4, b5, b6.trans n9.2⟩
  | 2, _ =>
    rw [if_neg (by decide), if_neg (by decide), if_pos rfl] at hst
    rw [if_neg (show ¬ nI (2 + 1) = 1 by decide), if_neg (show ¬ nI (2 + 1) = 2 by decide), if_pos (show nI (2 + 1) = 3 from rfl)]
    simp only [show ¬ ((2 : Nat) = 0) by decide, show ¬ ((2 : Nat) = 1) by decide, show ¬ ((2 : Nat) = 4) by decide, show ¬ ((1 : Nat) = 0) by decide, if_false, if_true]
    obtain ⟨h4, b1, b2, b3, b4, b5, b6⟩ := r_singerTold (N := N) hN a2' f nx.1 d3 hst
    exact fin _ _ _ _ _ ⟨h4, b1, b2, b3, b4, b5.trans n9.1, b6.trans n9.2⟩
  | 3, _ =>
    rw [if_neg (by decide), if_neg (by decide), if_neg (by decide), show blm x true 3 s = x from if_pos rfl] at hst
    rw [if_neg (show ¬ nI (3 + 1) = 1 by decide), if_neg (show ¬ nI (3 + 1) = 2 by decide), if_neg (show ¬ nI (3 + 1) = 3 by decide), if_pos (show nI (3 + 1) = 4 from rfl)]
    simp only [show ¬ ((3 : Nat) = 0) by decide, show ¬ ((3 : Nat) = 1) by decide, show ¬ ((3 : Nat) = 2) by decide, show ¬ ((3 : Nat) = 4) by decide, if_false, if_true]
    obtain ⟨h4, b1, b2, b3⟩ := r_numbered (N := N) hN (lo := 0) (hi := 9) a2 (by decide) (by decide)
    rw [← hst] at b1 b2
    have v0 := nmV_in (t := t) (z := z) (lo := 0) (hi := 9) (by decide) st
    rw [show X11_numbered N h3 237 0 9 = _ from b1, bd2_some, if_neg (by decide), sq_eq]
    have := fin (some (wi h4 (237 + 3) (3 : Int32).toNatClampNeg (nI (nmV t z 0 9 st)))) (nmS t z 0 9 st) (up1 D 3 (nmV t z 0 9 st)) (h.1 237 9) (h.1 237 10) ⟨_, rfl, RSt_w b2 (fun j _ => by rw [wi_k _ _ (by decide)]) (wi_k _ _ (by decide)), ⟨RHv_wi (RHv_n d3.1 (b3.1 240 (by decide) (by decide))) 3 _, hw_1 d.2 (Or.inl rfl) (fun _ => v0.2) (fun w => by omega)⟩, RLf_d (RLf_n b3) _ _, by rw [wi_k _ _ (by decide), b3.2.2.1 9 (by decide)]; exact n9.1, by rw [wi_k _ _ (by decide), b3.2.2.1 10 (by decide)]; exact n9.2⟩
    rw [bd1_some] at this
    exact this
  | 4, _ =>
    rw [if_neg (by decide), if_neg (by decide), if_neg (by decide), show blm x true 3 s = x from if_pos rfl] at hst
    rw [if_neg (show ¬ nI (4 + 1) = 1 by decide), if_neg (show ¬ nI (4 + 1) = 2 by decide), if_neg (show ¬ nI (4 + 1) = 3 by decide), if_neg (show ¬ nI (4 + 1) = 4 by decide), if_pos (show nI (4 + 1) = 5 from rfl)]
    simp only [show ¬ ((4 : Nat) = 0) by decide, show ¬ ((4 : Nat) = 1) by decide, show ¬ ((4 : Nat) = 2) by decide, show ¬ ((4 : Nat) = 3) by decide, if_false, if_true]
    obtain ⟨h4, b1, b2, b3⟩ := r_numbered (N := N) hN (lo := 0) (hi := 7) a2 (by decide) (by decide)
    rw [← hst] at b1 b2
    have v0 := nmV_in (t := t) (z := z) (lo := 0) (hi := 7) (by decide) st
    have d4 : RHv h4 D := RHv_n d3.1 (b3.1 240 (by decide) (by decide))
    rw [show X11_numbered N h3 237 0 7 = _ from b1, bd2_some, b3.2.2.1 10 (by decide), n9.2]
    have eu : upW (nmV t z 0 7 st) D = up1 D 4 (D 4 ||| 2 ^ nmV t z 0 7 st) := if_pos (by omega)
    have rest : ∀ u : Int32, u = mxI (nI (nmV t z 0 7 st)) (h.1 237 10) → ∃ h', (sq (wi h4 237 10 u) fun h40 => (if (4 : Int32) < 0 ∨ 81 ≤ (4 : Int32).toNatClampNeg then none else (if (4 : Int32) < 0 ∨ 81 ≤ (4 : Int32).toNatClampNeg then none else sq (wi h40 (237 + 3) (4 : Int32).toNatClampNeg ((h40.1 (237 + 3) (4 : Int32).toNatClampNeg) ||| ((1 : Int32) <<< (nI (nmV t z 0 7 st) &&& 31)))) fun h43 => bd1 (X11_endsLine N h43 237) fun h46 => some h46))) = some h' ∧ RSt h' t z (enS t z (nmS t z 0 7 st)) ∧ T0 h' (upW (nmV t z 0 7 st) D) ∧ RLf h h' ∧ h'.1 237 9 = h.1 237 9 ∧ h'.1 237 10 = mxI (nI (nmV t z 0 7 st)) (h.1 237 10) := by
      intro u hu
      rw [sq_eq, if_neg (by decide), if_neg (by decide), sq_eq, show (wi h4 237 10 u).1 (237 + 3) (4 : Int32).toNatClampNeg = nI (D 4) by rw [wi_k _ _ (by decide)]; exact d4 4 (by decide), one_shl _ (by omega), nx_or, eu]
      have d5 : RHv (wi h4 237 10 u) D := RHv_n d4 (wi_k _ _ (by decide))
      have := fin (some (wi (wi h4 237 10 u) (237 + 3) (4 : Int32).toNatClampNeg (nI (D 4 ||| 2 ^ nmV t z 0 7 st)))) (nmS t z 0 7 st) (up1 D 4 (D 4 ||| 2 ^ nmV t z 0 7 st)) (h.1 237 9) (mxI (nI (nmV t z 0 7 st)) (h.1 237 10)) ⟨_, rfl, RSt_w b2 (fun j _ => by rw [wi_k _ _ (by decide), wi_j _ _ (by omega)]) (by rw [wi_k _ _ (by decide), wi_k _ _ (by decide)]), ⟨RHv_wi d5 4 _, hw_1 d.2 (Or.inr rfl) (fun w => by omega) (fun _ => or_lt 8 d.2.2.2.2.2.1 (by omega))⟩, RLf_d (RLf_f (RLf_n b3) (Or.inr rfl) _) _ _, by rw [wi_k _ _ (by decide), wi_j _ _ (by decide), b3.2.2.1 9 (by decide)]; exact n9.1, by rw [wi_k _ _ (by decide), wi_s]; exact hu⟩
      rw [bd1_some] at this
      exact this
    by_cases y : nI (nmV t z 0 7 st) ≤ h.1 237 10
    · rw [if_pos y]
      exact rest _ (by rw [mxI, if_pos y])
    · rw [if_neg y]
      exact rest _ (by rw [mxI, if_neg y])
theorem r_houseLineB (hN : 2000 ≤ N) {s : Nat} {x : Nat × Int32} (c : RSg h t z s x) (hk : ¬ (0 < wdk t z s ∧ wdk t z s ≤ 5)) : ∃ h', X11_houseLine N h 237 = some h' ∧ RSb h' s ∧ RLf h h' := by
  obtain ⟨h3, a1, a2, a3⟩ := r_wordIn (N := N) hN (lo := 1) (hi := 5) c (by decide) (by decide) (by decide)
  rw [if_neg (by omega)] at a1
  rw [if_neg (by omega)] at a2
  have a2' : RSb h3 s := a2
  unfold X11_houseLine
  rw [show X11_wordIn N h 237 1 5 = _ from a1, bd2_some, a2'.1, if_neg one0]
  unfold X11_houseLine_b24
  rw [if_neg (by decide), if_neg (by decide), if_neg (by decide), if_neg (by decide), if_neg (by decide)]
  obtain ⟨h5, e1, e2, e3⟩ := r_endsLine (N := N) hN a2
  rw [e1, bd1_some]
  exact ⟨h5, rfl, e2, RLf.trans (RLf_n a3) (RLf_n e3)⟩
/-! the two ways of counting -/
theorem okc_e {k i lo hi : Nat} {nv : Nat → Nat} (n : ¬ (k = 2 ∧ i = 1)) (e1 : nLo k i = lo) (e2 : nHi k i = hi) : okc k nv i = decide (lo ≤ nv i ∧ nv i ≤ hi) := by
  unfold okc
  rw [e1, e2, decide_eq_true n, Bool.true_or, Bool.and_true]
  by_cases a : lo ≤ nv i <;> by_cases b : nv i ≤ hi <;> simp [a, b]
def AtP (t : Nat → Nat) (z q0 i : Nat) : PSt → Prop
  | .inl (p, _) => p = nxi t z i q0
  | .inr _ => True
theorem AtP_n {q0 i : Nat} {st : PSt} (b : Bool) (a : AtP t z q0 i st) : AtP t z q0 (i + 1) (nmO t z b st) := by
  cases st with
  | inr y => exact trivial
  | inl q =>
    obtain ⟨p, x⟩ := q
    have e : p = nxi t z i q0 := a
    rw [nmO]
    by_cases w : tkc t z p = 2
    · rw [if_pos w]; show nxt t z p = _; rw [e]; rfl
    · rw [if_neg w]; exact trivial
theorem nmS_at {q0 i lo hi : Nat} {st : PSt} {nv : Nat → Nat} (hv : ∀ i, nv i = val t z (nxi t z i q0)) (a : AtP t z q0 i st) : nmS t z lo hi st = nmO t z (decide (lo ≤ nv i ∧ nv i ≤ hi)) st := by
  cases st with
  | inr y => rfl
  | inl q =>
    obtain ⟨p, x⟩ := q
    have e : p = nxi t z i q0 := a
    rw [nmS, hv i, ← e]
theorem nmO_f {st : PSt} {x : Nat × Int32} {p : Nat} (b b' : Bool) (h : st = .inl (p, x)) (hx : x.1 ≠ 0) : nmO t z b st = nmO t z b' st := by
  subst h
  rw [nmO, nmO, show blm x b 2 p = x from if_pos (by simp [hx]), show blm x b' 2 p = x from if_pos (by simp [hx])]
theorem stK_ps {q0 k : Nat} {x : Nat × Int32} {nv : Nat → Nat} (hk : k < 5) (hv : ∀ i, nv i = val t z (nxi t z i q0)) : stK t z k (.inl (q0, x)) = psR t z (okc k nv) (nNum k) 0 (.inl (q0, x)) := by
  have a0 : AtP t z q0 0 (.inl (q0, x)) := rfl
  unfold stK
  match k, hk with
  | 0, _ =>
    rw [if_pos rfl, show nNum 0 = 2 from rfl, psR, psR, psR, okc_e (k := 0) (i := 0) (by decide) rfl rfl, okc_e (k := 0) (i := 1) (by decide) rfl rfl]
    rw [sF2, sF1, nmS_at hv a0, nmS_at hv (AtP_n _ a0)]
    rfl
  | 1, _ =>
    rw [if_neg (by decide), if_pos rfl, show nNum 1 = 4 from rfl, psR, psR, psR, psR, psR, okc_e (k := 1) (i := 0) (by decide) rfl rfl, okc_e (k := 1) (i := 1) (by decide) rfl rfl, okc_e (k := 1) (i := 2) (by decide) rfl rfl, okc_e (k := 1) (i := 3) (by decide) rfl rfl]
    rw [sB4, sB3, sB2, sB1, nmS_at hv a0, nmS_at hv (AtP_n _ a0), nmS_at hv (AtP_n _ (AtP_n _ a0)), nmS_at hv (AtP_n _ (AtP_n _ (AtP_n _ a0)))]
    rfl
  | 2, _ =>
    rw [if_neg (by decide), if_neg (by decide), if_pos rfl, show nNum 2 = 3 from rfl, psR, psR, psR, psR, okc_e (k := 2) (i := 0) (by decide) rfl rfl, okc_e (k := 2) (i := 2) (by decide) rfl rfl]
    rw [sS3, sS2, sS1, nmS_at hv a0]
    have key : nmA t z (nmV t z 1 9 (.inl (q0, x))) (nmO t z (decide (1 ≤ nv 0 ∧ nv 0 ≤ 9)) (.inl (q0, x))) = nmO t z (okc 2 nv 1) (nmO t z (decide (1 ≤ nv 0 ∧ nv 0 ≤ 9)) (.inl (q0, x))) := by
      rw [nmO]
      by_cases w : tkc t z q0 = 2
      · rw [if_pos w, nmA]
        have e1 : val t z (nxt t z q0) = nv 1 := (hv 1).symm
        rw [e1]
        by_cases u : 1 ≤ nv 0 ∧ nv 0 ≤ 9
        · have e0 : nmV t z 1 9 (.inl (q0, x)) = nv 0 := by
            have ev : val t z q0 = nv 0 := (hv 0).symm
            rw [nmV, ev, if_pos ⟨w, u⟩]
          rw [e0]
          congr 1
          unfold okc
          rw [show nLo 2 1 = 1 from rfl, show nHi 2 1 = 9 from rfl, decide_eq_false (show ¬ ¬ ((2 : Nat) = 2 ∧ (1 : Nat) = 1) by decide), Bool.false_or]
          by_cases a : 1 ≤ nv 1 <;> by_cases b : nv 1 ≤ 9 <;> simp [a, b]
        · rw [decide_eq_false u]
          by_cases v : x.1 = 0
          · exact nmO_f _ _ rfl (by rw [show blm x false 2 q0 = (2, nI q0) from if_neg (by simp [v])]; exact (show ¬ (2 : Nat) = 0 by decide))
          · exact nmO_f _ _ rfl (by rw [show blm x false 2 q0 = x from if_pos (by simp [v])]; exact v)
      · rw [if_neg w]; rfl
    rw [key, nmS_at hv (AtP_n _ (AtP_n _ a0))]
    rfl
  | 3, _ =>
    rw [if_neg (by decide), if_neg (by decide), if_neg (by decide), if_pos rfl, show nNum 3 = 1 from rfl, psR, psR, okc_e (k := 3) (i := 0) (by decide) rfl rfl, nmS_at hv a0]
    rfl
  | 4, _ =>
    rw [if_neg (by decide), if_neg (by decide), if_neg (by decide), if_neg (by decide), show nNum 4 = 1 from rfl, psR, psR, okc_e (k := 4) (i := 0) (by decide) rfl rfl, nmS_at hv a0]
    rfl
/-- a line that is whole and without fault -/
theorem ps_inv {q0 : Nat} {ok : Nat → Bool} : ∀ (r i : Nat) (x x' : Nat × Int32) (p' : Nat), psR t z ok r i (.inl (nxi t z i q0, x)) = .inl (p', x') → p' = nxi t z (i + r) q0 ∧ (x'.1 = 0 → x' = x ∧ ∀ j, i ≤ j → j < i + r → tkc t z (nxi t z j q0) = 2 ∧ ok j = true) := by
  intro r
  induction r with
  | zero =>
    intro i x x' p' h
    rw [psR] at h
    injection h with h
    injection h with h1 h2
    exact ⟨h1.symm, fun _ => ⟨h2.symm, fun j h1 h2 => by omega⟩⟩
  | succ r ih =>
    intro i x x' p' h
    rw [psR, nmO] at h
    by_cases w : tkc t z (nxi t z i q0) = 2
    · rw [if_pos w] at h
      obtain ⟨a, b⟩ := ih (i + 1) _ x' p' h
      refine ⟨by rw [a]; congr 1; omega, fun hx => ?_⟩
      obtain ⟨b1, b2⟩ := b hx
      by_cases v : (ok i || decide (x.1 ≠ 0)) = true
      · have eb : blm x (ok i) 2 (nxi t z i q0) = x := if_pos v
        rw [eb] at b1
        have ho : ok i = true := by
          rw [b1] at hx
          simpa [hx] using v
        refine ⟨b1, fun j h1 h2 => ?_⟩
        by_cases e : j = i
        · rw [e]; exact ⟨w, ho⟩
        · exact b2 j (by omega) (by omega)
      · have eb : blm x (ok i) 2 (nxi t z i q0) = (2, nI (nxi t z i q0)) := if_neg v
        rw [eb] at b1
        rw [b1] at hx
        exact absurd hx (show ¬ (2 : Nat) = 0 by decide)
    · rw [if_neg w, psR_inr] at h
      cases h
theorem en_inv {st : PSt} {p' : Nat} {x' : Nat × Int32} (h : enS t z st = .inl (p', x')) : ∃ p, st = .inl (p, x') ∧ p' = nxt t z p ∧ tkc t z p = 3 := by
  cases st with
  | inr y => cases h
  | inl q =>
    obtain ⟨p, x⟩ := q
    rw [enS] at h
    by_cases w : tkc t z p = 3
    · rw [if_pos w] at h
      injection h with h
      injection h with h1 h2
      exact ⟨p, by rw [h2], h1.symm, w⟩
    · rw [if_neg w] at h; cases h
theorem nxi_ge {q0 : Nat} (hq : q0 ≤ z) : ∀ i, q0 ≤ nxi t z i q0 := by
  intro i
  induction i with
  | zero => exact Nat.le_refl _
  | succ i ih => rw [nxi]; have := (nxt_le (t := t) (nxi_le (t := t) hq i)).1; omega
end SMH
