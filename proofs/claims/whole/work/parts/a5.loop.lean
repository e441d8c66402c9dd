/-! ===== level 2: text: all lines ===== -/
def RSim (hc hr : HS) (t : Nat → Nat) (z g s : Nat) (x : Nat × Int32) : Prop := CSt hc t z s x ∧ RSg hr t z s x ∧ (hc.1 157 1 = 0 ∧ hc.1 157 4 = 0) ∧ ∃ mc mr, CRw hc mc ∧ RRw hr g mr ∧ (x.1 = 0 → mc = mr ∧ ∃ K V, CRD hc mc K V ∧ RRD hr g mr K V ∧ RKx g mr K V)
def Sm (hc hr : HS) (t : Nat → Nat) (z g s : Nat) (x : Nat × Int32) : Prop := if g = 0 then ∃ Dc Dr, HSim hc hr t z s x Dc Dr else RSim hc hr t z g s x
def refL (N g : Nat) (h : HS) : Option HS := if g = 0 then X11_houseLine N h 237 else rLine N g h
section LPS
variable {N : Nat} {hc hr : HS} {t : Nat → Nat} {z : Nat}
theorem Sm_c {g s : Nat} {x : Nat × Int32} (S : Sm hc hr t z g s x) : CSt hc t z s x ∧ RSg hr t z s x := by
  unfold Sm at S
  by_cases y : g = 0
  · rw [if_pos y] at S
    obtain ⟨Dc, Dr, H⟩ := S
    exact ⟨H.1, H.2.2.1⟩
  · rw [if_neg y] at S
    exact ⟨S.1, S.2.1⟩
theorem nHi_r : ∀ k, k < 12 → 5 ≤ k → nHi k 0 ≤ 5 ∧ nLo k 0 = 0 ∧ nNum k ≤ 1 ∧ (10 ≤ k → nNum k = 1) := by decide +kernel
theorem sim_row (hN : 2000 ≤ N) {g s : Nat} {x : Nat × Int32} (hg : g = 1 ∨ g = 2) (H : RSim hc hr t z g s x) (hs : s < z) : ∃ hc' hr', X4_readLine N hc 156 (nI g) = some hc' ∧ rLine N g hr = some hr' ∧ CLf hc hc' ∧ RLf hr hr' ∧ ((∃ y, CBr hc' y ∧ RSb hr' y) ∨ ∃ s' x', s < s' ∧ RSim hc' hr' t z g s' x') := by
  obtain ⟨H1, H2, H3, mc, mr, H4, H5, H6⟩ := H
  have nx := nxt_in (t := t) hs
  have cp := cap_in g
  have slh : 5 ≤ sLo g ∧ sHi g ≤ 12 := by
    rcases hg with rfl | rfl
    · exact ⟨by decide, by decide⟩
    · exact ⟨by decide, by decide⟩
  obtain ⟨nv, hv⟩ : ∃ nv : Nat → Nat, ∀ i, nv i = val t z (nxi t z i (nxt t z s)) := ⟨_, fun _ => rfl⟩
  by_cases y : sLo g < wdk t z s ∧ wdk t z s ≤ sHi g
  · obtain ⟨k, hk⟩ : ∃ k, wdk t z s = k + 1 := ⟨wdk t z s - 1, by omega⟩
    have e1 : wdk t z s - 1 = k := by omega
    have hk' : 5 ≤ k ∧ k < 12 := by omega
    have L := c_readLine (N := N) (g := g) hN H1 (by omega) (full := !decide (mc < capR g)) (nv := nv) (by rw [e1]; exact c_fullR hk' hg H4) hv
    rw [e1, if_pos y, Bool.not_not] at L
    have eb : blm x (decide (mc < capR g)) 3 s = blm x (decide (mr < capR g)) 3 s := by
      by_cases w : x.1 = 0
      · rw [(H6 w).1]
      · rw [show blm x (decide (mc < capR g)) 3 s = x from if_pos (by simp [w]), show blm x (decide (mr < capR g)) 3 s = x from if_pos (by simp [w])]
    rw [eb] at L
    obtain ⟨hr', mr', b1, b2, b3, b4, b5⟩ := r_rowLine (N := N) hN hg H2 H5 hs hk (by omega) (by omega) hv rfl
    have inv := @ps_inv t z (nxt t z s) (okc k nv) (nNum k) 0 (blm x (decide (mr < capR g)) 3 s)
    rw [show nxi t z 0 (nxt t z s) = nxt t z s from rfl] at inv
    revert L b2
    cases est : enS t z (psR t z (okc k nv) (nNum k) 0 (.inl (nxt t z s, blm x (decide (mr < capR g)) 3 s))) with
    | inr w =>
      rintro ⟨hc', a1, a2, a3⟩ b2
      exact ⟨hc', hr', a1, b1, CLf_n a3, b4, Or.inl ⟨w, a2, b2⟩⟩
    | inl q =>
      obtain ⟨p', x'⟩ := q
      rintro ⟨h1, a1, a2, a3, a4⟩ b2
      obtain ⟨p, ep, en, e3⟩ := en_inv est
      obtain ⟨i1, i2⟩ := inv x' p ep
      have cw1 : ∀ m, CRw hc m → CRw h1 m := fun m c => ⟨c.1, by rw [a4.1 167 (by decide) (by decide)]; exact c.2.1, by rw [a4.1 167 (by decide) (by decide)]; exact c.2.2⟩
      obtain ⟨hc', mc', c1, c2, c3, c4⟩ := c_keepR (N := N) hk' (cw1 mc H4) a3
      have hp : nxt t z s ≤ p := by rw [i1]; exact nxi_ge (by omega) _
      have hpz : p ≤ z := by rw [i1]; exact nxi_le (by omega) _
      have hp' := nxt_le (t := t) hpz
      have cl : CLf h1 hc' := ⟨fun k hk => c3.1 k (by omega), c3.2.1, c3.2.2⟩
      refine ⟨hc', hr', a1.trans c1, b1, CLf.trans (CLf_n a4) cl, b4, Or.inr ⟨p', x', by omega, CSt_k a2 (c3.1 156 (by decide)) (c3.1 3 (by decide)) c3.2.1, b2, ?_, mc', mr', c2, b3, fun hx => ?_⟩⟩
      · rw [c3.1 157 (by decide), a4.1 157 (by decide) (by decide)]; exact H3
      obtain ⟨i3, i4⟩ := i2 hx
      have hx0 : (blm x (decide (mr < capR g)) 3 s).1 = 0 := by rw [← i3]; exact hx
      have hxx : x.1 = 0 ∧ mr < capR g := by
        by_cases w : (decide (mr < capR g) || decide (x.1 ≠ 0)) = true
        · rw [show blm x (decide (mr < capR g)) 3 s = x from if_pos w] at hx0
          refine ⟨hx0, ?_⟩
          simpa [hx0] using w
        · rw [show blm x (decide (mr < capR g)) 3 s = (3, nI s) from if_neg w] at hx0
          exact absurd hx0 (show ¬ (3 : Nat) = 0 by decide)
      obtain ⟨em, K, V, d1, d2, d3⟩ := H6 hxx.1
      subst em
      obtain ⟨f1, f2⟩ := c4 K V ⟨cw1 mc d1.1, fun i hi => by rw [a4.1 168 (by decide) (by decide), a4.1 169 (by decide) (by decide)]; exact d1.2 i hi⟩ (by omega)
      obtain ⟨g1, g2⟩ := b5 K V d2 hxx.2
      have nh := nHi_r k hk'.2 hk'.1
      have ve : nNum k ≠ 0 → nmV t z 0 (nHi k 0) (.inl (nxt t z s, blm x (decide (mc < capR g)) 3 s)) = nv 0 ∧ nv 0 ≤ 5 := by
        intro hn
        obtain ⟨o1, o2⟩ := i4 0 (Nat.le_refl _) (by omega)
        rw [okc_e (by omega) nh.2.1 rfl] at o2
        have o3 := of_decide_eq_true o2
        have ev : val t z (nxt t z s) = nv 0 := (hv 0).symm
        rw [nmV, ev, if_pos ⟨o1, o3⟩]
        exact ⟨rfl, by omega⟩
      have vv : (if nNum k = 0 then (-1 : Int32) else nI (nmV t z 0 (nHi k 0) (.inl (nxt t z s, blm x (decide (mc < capR g)) 3 s)))) = if nNum k = 0 then -1 else nI (nv 0) := by
        by_cases hn : nNum k = 0
        · rw [if_pos hn, if_pos hn]
        · rw [if_neg hn, if_neg hn, (ve hn).1]
      rw [vv] at g2
      subst f1 g1
      refine ⟨rfl, _, _, f2, g2, fun i hi => ?_⟩
      dsimp only
      by_cases e : i = mc
      · rw [if_pos e, if_pos e]
        refine ⟨?_, ?_, ?_⟩
        · rcases hg with rfl | rfl
          · have h5 : k < 10 := by have : wdk t z s ≤ 10 := y.2; omega
            rw [if_pos h5, if_pos rfl]; omega
          · have h5 : ¬ k < 10 := by have : 10 < wdk t z s := y.1; omega
            rw [if_neg h5, if_neg (by decide)]; omega
        · by_cases hn : nNum k = 0
          · rw [if_pos hn]; exact Or.inl rfl
          · rw [if_neg hn]; exact Or.inr ⟨nv 0, by have := (ve hn).2; omega, rfl⟩
        · intro hg2
          subst hg2
          have h5 : 10 ≤ k := by have : 10 < wdk t z s := y.1; omega
          have n1 := nh.2.2.2 h5
          rw [if_neg (by omega)]
          exact nI_m1 (by have := (ve (by omega)).2; omega)
      · rw [if_neg e, if_neg e]
        exact d3 i (by omega)
  · obtain ⟨hr', b1, b2, b3⟩ := r_rowLineB (N := N) hN hg H2 H5 y
    unfold X4_readLine
    rw [c_lineOf (g := g) hN H1.1 (by omega), bd1_some, if_neg y, if_pos rfl]
    obtain ⟨hc', a1, a2, a3⟩ := c_break (N := N) H1.1.2.2.1
    exact ⟨hc', hr', by rw [a1, bd1_some], b1, CLf_n a3, b3, Or.inl ⟨s, a2, b2⟩⟩
theorem sim_any (hN : 2000 ≤ N) {g s : Nat} {x : Nat × Int32} (hg : g < 3) (S : Sm hc hr t z g s x) (hs : s < z) : ∃ hc' hr', X4_readLine N hc 156 (nI g) = some hc' ∧ refL N g hr = some hr' ∧ CLf hc hc' ∧ RLf hr hr' ∧ ((∃ y, CBr hc' y ∧ RSb hr' y) ∨ ∃ s' x', s < s' ∧ Sm hc' hr' t z g s' x') := by
  unfold Sm refL at *
  by_cases y : g = 0
  · subst y
    rw [if_pos rfl] at S ⊢
    obtain ⟨Dc, Dr, H⟩ := S
    obtain ⟨hc', hr', a1, a2, a3, a4, a5⟩ := sim_house (N := N) hN H hs
    refine ⟨hc', hr', a1, a2, a3, a4, ?_⟩
    rcases a5 with w | ⟨s', x', Dc', Dr', w1, w2⟩
    · exact Or.inl w
    · exact Or.inr ⟨s', x', w1, by rw [if_pos rfl]; exact ⟨Dc', Dr', w2⟩⟩
  · rw [if_neg y] at S ⊢
    obtain ⟨hc', hr', a1, a2, a3, a4, a5⟩ := sim_row (N := N) hN (by omega) S hs
    refine ⟨hc', hr', a1, a2, a3, a4, ?_⟩
    rcases a5 with w | ⟨s', x', w1, w2⟩
    · exact Or.inl w
    · exact Or.inr ⟨s', x', w1, by rw [if_neg y]; exact w2⟩
def finC (N : Nat) (h : HS) : Option HS := (if (h.1 156 2) = 0 then bd1 (X1_isWhole N h 157) fun r25 => (if r25 = 0 then bd1 (X4_blame N h 156 4 (h.1 156 5)) fun h30 => some h30 else some h) else some h)
theorem l47_e {fu g c : Nat} {h : HS} : X4_read_l47 N (fu + 1) h 156 (nI g) (nI c) = if (600 : Int32) < nI c then finC N h else if h.1 156 6 = 0 then finC N h else if h.1 156 2 = 1 then finC N h else bd1 (X4_readLine N h 156 (nI g)) fun h42 => X4_read_l47 N fu h42 156 (nI g) (nI c + 1) := by
  rw [X4_read_l47]
  rfl
theorem all_lines (hN : 2000 ≤ N) {g : Nat} (hg : g < 3) (at' : Int32) : ∀ (n s c fc fr : Nat) (x : Nat × Int32) (hc hr : HS), z - s < n → Sm hc hr t z g s x → c + (z - s) ≤ 600 → z - s + 1 < fc → z - s + 1 < fr →
    ∃ hc' hr', X4_read_l47 N fc hc 156 (nI g) (nI c) = finC N hc' ∧ X11_text_l128 N fr hr 237 (nI g) at' = X11_text_b189 N hr' 237 (nI g) at' ∧ CLf hc hc' ∧ RLf hr hr' ∧ ((∃ y, CBr hc' y ∧ RSb hr' y) ∨ ∃ x', Sm hc' hr' t z g z x') := by
  intro n
  induction n with
  | zero => intro s c fc fr x hc hr h; omega
  | succ n ih =>
    intro s c fc fr x hc hr hn S hc6 hfc hfr
    obtain ⟨fc, rfl, _⟩ := fuel hfc
    obtain ⟨fr, rfl, _⟩ := fuel hfr
    obtain ⟨S1, S2⟩ := Sm_c S
    have tl := tkc_lt (t := t) (z := z) s
    have rl := rkc_lt (t := t) (z := z) s
    have hsz := S1.1.2.1
    have x3 := S1.2.2.2
    rw [l47_e, if_neg (show ¬ (600 : Int32) < nI c from nI_nlt (a := 600) (b := c) (by omega) (by decide)), S1.1.2.2.2.2.1, X11_text_l128, if_pos S2.2.1, S2.1.2.2.2.2.1]
    by_cases y : s = z
    · have t0 : tkc t z s = 0 := (tkc_0 hsz).mpr y
      have r0 : rkc t z s = 0 := rkc_0.mpr t0
      rw [t0, r0, if_pos (show nI 0 = 0 from rfl), if_pos (show nI 0 = 0 from rfl)]
      subst y
      exact ⟨hc, hr, rfl, rfl, CLf.refl hc, RLf.refl hr, Or.inr ⟨x, S⟩⟩
    · have t0 : tkc t z s ≠ 0 := fun w => y ((tkc_0 hsz).mp w)
      have r0 : rkc t z s ≠ 0 := fun w => t0 (rkc_0.mp w)
      have x1 : x.1 ≠ 1 := by
        rcases S2.2.2.2.2 with ⟨w, _⟩ | ⟨w, _⟩
        · omega
        · omega
      rw [if_neg (nI_ne0 (by omega) (by omega)), if_neg (nI_ne0 (by omega) (by omega)), S1.2.1, if_neg (show ¬ nI x.1 = 1 from nI_ne (b := 1) x1 (by omega) (by decide))]
      obtain ⟨hc', hr', a1, a2, a3, a4, a5⟩ := sim_any (N := N) hN hg S (by omega)
      have er : (if nI g = 0 then bd1 (X11_houseLine N hr 237) fun h67 => X11_text_l128 N fr h67 237 (nI g) at' else (if nI g = 1 then bd1 (X11_nightsLine N hr 237) fun h71 => X11_text_l128 N fr h71 237 (nI g) at' else bd1 (X11_morningsLine N hr 237) fun h74 => X11_text_l128 N fr h74 237 (nI g) at')) = X11_text_l128 N fr hr' 237 (nI g) at' := by
        unfold refL rLine at a2
        match g, hg with
        | 0, _ =>
          rw [if_pos rfl] at a2
          rw [if_pos (show nI 0 = 0 from rfl), a2, bd1_some]
        | 1, _ =>
          rw [if_neg (by decide), if_pos rfl] at a2
          rw [if_neg (show ¬ nI 1 = 0 by decide), if_pos (show nI 1 = 1 from rfl), a2, bd1_some]
        | 2, _ =>
          rw [if_neg (by decide), if_neg (by decide)] at a2
          rw [if_neg (show ¬ nI 2 = 0 by decide), if_neg (show ¬ nI 2 = 1 by decide), a2, bd1_some]
      rw [er, a1, bd1_some, nI_1]
      rcases a5 with ⟨w, w1, w2⟩ | ⟨s', x', w1, w2⟩
      · obtain ⟨fc, rfl, _⟩ := fuel (show 0 < fc by omega)
        obtain ⟨fr, rfl, _⟩ := fuel (show 0 < fr by omega)
        refine ⟨hc', hr', ?_, ?_, a3, a4, Or.inl ⟨w, w1, w2⟩⟩
        · rw [l47_e, w1.1, if_pos (show (1 : Int32) = 1 from rfl), ite_self, ite_self]
        · rw [X11_text_l128, w2.1, if_neg one0]
      · have s'z := (Sm_c w2).1.1.2.1
        obtain ⟨hc2, hr2, b1, b2, b3, b4, b5⟩ := ih s' (c + 1) fc fr x' hc' hr' (by omega) w2 (by omega) (by omega) (by omega)
        exact ⟨hc2, hr2, b1, b2, CLf.trans a3 b3, RLf.trans a4 b4, b5⟩
end LPS
