/-! ===== level 2: tussle ===== -/
theorem skO_0 {D : Nat → Nat} : skO D 0 := ⟨by decide, fun b hb => by rw [Nat.zero_testBit] at hb; exact Bool.noConfusion hb⟩
theorem sNt_0 {f : Nat → Nat} : ∀ k, (∀ i, f i = 0) → sNt f k = 0 := by
  intro k hf
  induction k with
  | zero => rfl
  | succ k ih => rw [sNt, ih, hf]
theorem acc_0 {D : Nat → Nat} : accI D 0 0 = 0 := by
  unfold accI
  rw [sNt_0 (D 1) (fun i => by rw [lenS, Nat.zero_testBit]; rfl), sNt_0 (D 0) (fun i => by rw [renS, Nat.zero_testBit]; rfl)]
  rfl
abbrev opI (D : Nat → Nat) (T : Nat) : Int32 := if T = 0 then -1 else nI (tL D (T - 1) 0 0).2
theorem c_gplay {N : Nat} {h : HS} {p T : Nat} {D : Nat → Nat} (c : KH h p D) (hN : 100 ≤ N) (hT : T ≤ 4) : ∃ h', X9_play N h 210 p (nI T) = some h' ∧ h'.1 210 4 = iI (gv D T true 0 0) ∧ h'.1 210 5 = opI D T ∧ (∀ k, k ≠ 210 → h'.1 k = h.1 k) := by
  unfold X9_play
  rw [sq_eq, sq_eq, sq_eq, sq_eq, sq_eq, if_neg (show ¬ (4 : Int32) < nI T from nI_nlt (a := 4) (b := T) hT (by decide))]
  have g : CG (wi (wi (wi (wi (wr h 210 p) 210 1 (nI T)) 210 2 0) 210 3 0) 210 5 (-1)) p D T 0 0 := by
    refine ⟨by rw [wi_2, wi_2, wi_2, wi_2, wr_s], KH_n (fun k hk => ?_) c, rfl, rfl, rfl⟩
    rw [wi_k _ _ (by omega), wi_k _ _ (by omega), wi_k _ _ (by omega), wi_k _ _ (by omega)]
    rfl
  obtain ⟨h', a1, a2, a3, a4⟩ := (c_game (N := N) (p := p) (D := D) hN hT T).1 0 12 _ 0 0 (by omega) (by omega) g skO_0 (by decide)
  unfold X9_landlordFrom
  rw [show (0 : Int32) = nI 0 from rfl, show (nI 0 : Int32) = (0 : Int32) from rfl] at *
  rw [show (X9_landlordFrom_r N 12).1 (wi (wi (wi (wi (wr h 210 p) 210 1 (nI T)) 210 2 0) 210 3 0) 210 5 (-1)) 210 0 = _ from a1, bd2_some, sq_eq]
  refine ⟨_, rfl, wi_s _ _ _ _, ?_, ?_⟩
  · rw [wi_j _ _ (by decide)]
    by_cases z : T = 0
    · subst z
      have hx : (X9_landlordFrom_r N 12).1 (wi (wi (wi (wi (wr h 210 p) 210 1 (nI 0)) 210 2 0) 210 3 0) 210 5 (-1)) 210 (nI 0) = some (0, wi (wi (wi (wi (wr h 210 p) 210 1 (nI 0)) 210 2 0) 210 3 0) 210 5 (-1)) := by
        rw [show (12 : Nat) = 11 + 1 from rfl, X9_landlordFrom_r]
        show X9_landlordFrom_B N (X9_landlordFrom_r N 11).1 (X9_landlordFrom_r N 11).2 (wi (wi (wi (wi (wr h 210 p) 210 1 (nI 0)) 210 2 0) 210 3 0) 210 5 (-1)) 210 (nI 0) = _
        unfold X9_landlordFrom_B
        rw [g.2.2.1, if_neg (by decide)]
      have e1 := a1.symm.trans hx
      have e2 := congrArg Prod.snd (Option.some.inj e1)
      rw [show h' = _ from e2, opI, if_pos rfl]
      rfl
    · rw [a4 rfl (by omega), opI, if_neg z]
  · intro k hk
    rw [wi_k _ _ hk, a3.2.1 k hk, wi_k _ _ hk, wi_k _ _ hk, wi_k _ _ hk, wi_k _ _ hk]
    rfl
theorem r_tussle {N : Nat} {h : HS} {q T : Nat} {D : Nat → Nat} (c : RH h q D) (h9 : h.1 237 29 = -1) (hN : 1000000000 ≤ N) (hT : T ≤ 4) : ∃ h', X11_tussleOf N h 237 (nI T) = some (iI (gv D T true 0 0), h') ∧ h'.1 237 29 = opI D T ∧ Same h h' := by
  unfold X11_tussleOf
  rw [if_neg (by decide), sq_eq, if_neg (by decide), sq_eq]
  unfold X11_laysTurn
  rw [if_neg (by decide), sq_eq, if_neg (by decide), sq_eq, bd1_some]
  have w0 : WF 0 h (wi (wi (wi (wi h 247 0 0) 248 0 0) 249 0 (-1)) 250 0 99999999) ∨ True := Or.inr trivial
  have n : NIv (wi (wi (wi (wi h 247 0 0) 248 0 0) 249 0 (-1)) 250 0 99999999) q D 0 0 0 := by
    refine ⟨RH_w c ?_ ?_, rfl, rfl⟩
    · rw [wi_k _ _ (by decide), wi_k _ _ (by decide), wi_k _ _ (by decide), wi_k _ _ (by decide)]
    · intro j _; rw [wi_k _ _ (by decide), wi_k _ _ (by decide), wi_k _ _ (by decide), wi_k _ _ (by decide)]
  have hc : cst T ≤ 100000 := by
    match T, hT with
    | 0, _ => decide
    | 1, _ => decide
    | 2, _ => decide
    | 3, _ => decide
    | 4, _ => decide
  obtain ⟨f, h', a1, a2, a3, a4, a5, a6⟩ := r_walk (N := N) (q := q) (T := T) (D := D) (by omega) hT T 0 (by omega) _ 0 0 N n skO_0 (by decide) rfl rfl (by omega)
  obtain ⟨f, rfl, _⟩ := fuel (show 0 < f by omega)
  refine ⟨h', ?_, ?_, ?_⟩
  · refine Eq.trans a2 ?_
    rw [UPw, if_pos rfl, X11_tussleOf_l21, if_pos (by decide), if_neg (by decide)]
    rw [show h'.1 (237 + 13) (0 : Int32).toNatClampNeg = h'.1 250 0 from rfl, a4, acc_0, Int.zero_add]
    rfl
  · by_cases z : T = 0
    · rw [a6 rfl z, opI, if_pos z]
      exact h9
    · rw [a5 rfl (by omega), opI, if_neg z]
  · intro k hk
    rw [a3.1 k (by omega) (by omega) (by omega) (by omega) (by omega), wi_k _ _ (by omega), wi_k _ _ (by omega), wi_k _ _ (by omega), wi_k _ _ (by omega)]
theorem q_tussle {N : Nat} {h : HS} (I : INV h) (hN : 1000000000 ≤ N) (a b d : Int32) : ∃ r h1 h2, X10_tussle N h 1 a b d = some (r, h1) ∧ X11_tussle N h1 237 a b d = some (r, h2) ∧ Same h h2 := by
  unfold X10_tussle X11_tussle
  rcases opn (N := N) I a with ⟨e1, e2⟩ | ⟨p, q, D, e1, hp, c, e2⟩
  · exact ⟨-999, h, h, by rw [e1]; rfl, by rw [e2 h (Same.refl h)]; rfl, Same.refl h⟩
  · rw [e1, bd1_some, if_neg hp]
    rcases i_cases b with z | ⟨T, hT, rfl⟩
    · obtain ⟨h2, e3, rh, sm, _⟩ := e2 h (Same.refl h)
      refine ⟨-999, h, h2, by rw [if_pos z], ?_, sm⟩
      rw [e3, bd2_some, if_neg one0, r_isIn, bd1_some, inneg z]
      rfl
    · rw [if_neg (nI_pos hT)]
      by_cases y : T ≤ 4
      · obtain ⟨h1, a1, a2, a3, a4⟩ := c_gplay (N := N) c (by omega) y
        have s1 : Same h h1 := fun k hk => a4 k (by omega)
        obtain ⟨h2, e3, rh, sm, _⟩ := e2 h1 s1
        have rh' : RH (wi h2 237 29 (-1)) q D := RH_w rh (wi_k _ _ (by decide)) (fun j hj => wi_j _ _ hj)
        obtain ⟨h3, b1, b2, b3⟩ := r_tussle (N := N) rh' (wi_s _ _ _ _) hN y
        have s3 : Same h h3 := Same.trans (sm_wi sm (by decide) _ _) b3
        refine ⟨if d = 0 then iI (gv D T true 0 0) else opI D T, h1, h3, ?_, ?_, s3⟩
        · rw [if_pos (show nI T ≤ 4 from nI_le (b := 4) y (by decide)), show X9_play N h (1 + 209) p (nI T) = _ from a1, bd1_some, show h1.1 (1 + 209) 4 = _ from a2, show h1.1 (1 + 209) 5 = _ from a3]
          by_cases x : d = 0
          · rw [if_pos x, if_pos x]
          · rw [if_neg x, if_neg x]
        · rw [e3, bd2_some, if_neg one0, r_isIn, bd1_some, nB_t ⟨nI_pos' hT, show nI T ≤ 4 from nI_le (b := 4) y (by decide)⟩, if_neg one0, sq_eq, b1, bd2_some, b2]
          by_cases x : d = 0
          · rw [if_pos x, if_pos x]
          · rw [if_neg x, if_neg x]
      · obtain ⟨h2, e3, rh, sm, _⟩ := e2 h (Same.refl h)
        have n4 : ¬ nI T ≤ 4 := nI_ge (a := 4) (b := T) (by omega) hT
        refine ⟨-999, h, h2, by rw [if_neg n4], ?_, sm⟩
        rw [e3, bd2_some, if_neg one0, r_isIn, bd1_some, nB_f (fun w => n4 w.2)]
        rfl
