/-! ===== level 2: tunes: the class counts ===== -/
theorem ln232 : ln (221 + 11) = 8 := by decide +kernel
section TUC
variable {N : Nat} {p : Nat} {D fx : Nat → Nat} {h : HS}
abbrev snd (D : Nat → Nat) (b : Nat) : Prop := (D 4).testBit b = true ∨ D (17 + 4 * b) ≠ 0
def AC (D fx : Nat → Nat) (b n : Nat) : Bool := if snd D b then decide (1 ≤ n ∧ (fx b = 0 ∨ fx b = n)) else decide (n = 0)
theorem AC_nine : nine (AC D fx) := by
  intro b
  by_cases z : snd D b
  · left
    rw [AC, if_pos z]
    exact decide_eq_false (fun w => by omega)
  · right
    intro n hn
    rw [AC, if_neg z]
    exact decide_eq_false hn
def TX (h : HS) (p : Nat) (D fx : Nat → Nat) : Prop := h.2 221 = p ∧ KH h p D ∧ ∀ b, b < D 1 → h.1 232 b = nI (fx b) ∧ fx b ≤ 9
theorem TX_n {h' : HS} (t : TX h p D fx) (e2 : h'.2 = h.2) (e : ∀ k, k < 156 → h'.1 k = h.1 k) (e1 : h'.1 232 = h.1 232) : TX h' p D fx := ⟨by rw [e2]; exact t.1, KH_n e t.2.1, by rw [e1]; exact t.2.2⟩
theorem c_isWalled (t : TX h p D fx) {b : Nat} (hb : b < 8) : X8_isWalled N h 221 (nI b) = some (nB ((D 4).testBit b = true)) := by
  have hk := hk4 t.2.1.2.1
  unfold X8_isWalled
  rw [t.1, ch4 t.2.1, bi_n (by omega) (by omega)]
  by_cases z : (D 4).testBit b = true
  · rw [nB_t z, if_neg one0, nz_1]
  · rw [nB_f z, if_pos rfl, nz_0]
theorem nr_dec : ∀ s, s < 10 → ∀ m, m < 10 → ∀ n, n < 10 → ((nI s < (if 0 ≤ (nI m - nI n) then (nI m - nI n) else 0 - (nI m - nI n))) ↔ ¬ (m ≤ n + s ∧ n ≤ m + s)) := by decide +kernel
theorem c_waysNear (t : TX h p D fx) (hN : 100 ≤ N) {F : Nat → Nat} (h0 : F 0 = 0) (hF : ∀ m, 1 ≤ m → m < 10 → h.1 233 m = nI (F m)) {n : Nat} (hn : n < 10) (hn1 : 1 ≤ n) : X8_waysNear N h 221 (nI n) = some (nI (sNt (fun m => if nr (D 3) m n then F m else 0) 10)) := by
  have hk := hk0 t.2.1.2.1
  have key : ∀ (r m fu : Nat), m + r = 10 → r < fu → 1 ≤ m → X8_waysNear_l4 N h fu 221 (nI n) (nI (sNt (fun m => if nr (D 3) m n then F m else 0) m)) (nI m) = some (nI (sNt (fun m => if nr (D 3) m n then F m else 0) 10)) := by
    intro r
    induction r with
    | zero =>
      intro m fu e hf hm
      obtain ⟨fu, rfl, _⟩ := fuel hf
      rw [X8_waysNear_l4, if_pos (show (9 : Int32) < nI m from nI_lt (a := 9) (by omega) (by omega)), show m = 10 by omega]
    | succ r ih =>
      intro m fu e hf hm
      obtain ⟨fu, rfl, _⟩ := fuel hf
      have ih' := ih (m + 1) fu (by omega) (by omega) (by omega)
      rw [sNt] at ih'
      rw [X8_waysNear_l4, if_neg (show ¬ (9 : Int32) < nI m from nI_nlt (a := 9) (by omega) (by decide)), t.1, ch3 t.2.1, nI_1]
      have dd := nr_dec (D 3) (by omega) m (by omega) n hn
      by_cases z : m ≤ n + D 3 ∧ n ≤ m + D 3
      · rw [if_neg (fun w => dd.mp w z), if_neg (nI_in (by omega) (by decide)), nI_clamp (by omega), show h.1 (221 + 12) m = _ from hF m hm (by omega), nI_add]
        rw [if_pos (show nr (D 3) m n from Or.inr (Or.inr z))] at ih'
        exact ih'
      · rw [if_pos (dd.mpr z), show ∀ a : Nat, nI a + 0 = nI (a + 0) from fun a => nI_add a 0]
        rw [if_neg (show ¬ nr (D 3) m n from fun w => by rcases w with w | w | w; omega; omega; exact z w)] at ih'
        exact ih'
  have k1 := key 9 1 N (by omega) (by omega) (by omega)
  rw [show sNt (fun m => if nr (D 3) m n then F m else 0) 1 = 0 by rw [sNt, sNt, if_pos (Or.inl rfl), h0]] at k1
  exact k1
/-- what the class knows after b bars -/
def TC (h : HS) (D fx : Nat → Nat) (b c : Nat) : Prop := (c = 0 ∧ ∀ n, n ≠ 0 → FF (D 3) (AC D fx) b n = 0) ∨ (c = 1 ∧ FF (D 3) (AC D fx) b 0 = 0 ∧ ∀ m, 1 ≤ m → m < 10 → h.1 233 m = nI (FF (D 3) (AC D fx) b m))
theorem c_goTo (t : TX h p D fx) (hN : 100 ≤ N) {b c : Nat} (hb1 : b < D 1) (hs : snd D b) (tc : TC h D fx b c) : ∃ h', X8_goTo N h 221 (nI b) (nI c) (nI (sNt (FF (D 3) (AC D fx) b) 10)) = some (nI (sNt (FF (D 3) (AC D fx) (b + 1)) 10), h') ∧ TC h' D fx (b + 1) 1 ∧ h'.2 = h.2 ∧ ∀ k, k ≠ 233 → k ≠ 234 → h'.1 k = h.1 k := by
  have hb : b < 8 := by have := hk0 t.2.1.2.1; omega
  have f0 : FF (D 3) (AC D fx) (b + 1) 0 = 0 := by
    rw [FF, if_neg]
    rw [AC, if_pos hs]
    exact fun w => by have := of_decide_eq_true w; omega
  have key : ∀ (r n fu : Nat) (h' : HS), n + r = 10 → r < fu → 1 ≤ n → h'.2 = h.2 → (∀ k, k ≠ 234 → h'.1 k = h.1 k) → (∀ m, 1 ≤ m → m < n → h'.1 234 m = nI (FF (D 3) (AC D fx) (b + 1) m)) →
      ∃ h2, X8_goTo_l6 N fu h' 221 (nI b) (nI c) (nI (sNt (FF (D 3) (AC D fx) b) 10)) (nI (sNt (FF (D 3) (AC D fx) (b + 1)) n)) (nI n) = some (nI (sNt (FF (D 3) (AC D fx) (b + 1)) 10), h2) ∧ (∀ m, 1 ≤ m → m < 10 → h2.1 233 m = nI (FF (D 3) (AC D fx) (b + 1) m)) ∧ h2.2 = h.2 ∧ ∀ k, k ≠ 233 → k ≠ 234 → h2.1 k = h.1 k := by
    intro r
    induction r with
    | zero =>
      intro n fu h' e hf hn f2 fk fl
      obtain ⟨fu, rfl, _⟩ := fuel hf
      have en : n = 10 := by omega
      subst en
      rw [X8_goTo_l6, if_pos (show (9 : Int32) < nI 10 by decide), sq_eq]
      refine ⟨_, rfl, ?_, f2, ?_⟩
      · intro m h1 h2
        rw [wa_s, sb_cpy0 h2]
        exact fl m h1 h2
      · intro k h1 h2
        rw [wa_k _ _ h1]; exact fk k h2
    | succ r ih =>
      intro n fu h' e hf hn f2 fk fl
      obtain ⟨fu, rfl, _⟩ := fuel hf
      have t' : TX h' p D fx := TX_n t f2 (fun k hk => fk k (by omega)) (fk 232 (by decide))
      obtain ⟨q1, q2⟩ := t'.2.2 b hb1
      rw [X8_goTo_l6, if_neg (show ¬ (9 : Int32) < nI n from nI_nlt (a := 9) (by omega) (by decide)), at_in ln232 (by decide) hb, bd1_some, show h'.1 (221 + 11) b = _ from q1]
      have step : ∀ (u : Int32) (x : Nat), x = FF (D 3) (AC D fx) (b + 1) n → X8_goTo_b42 N h' (X8_goTo_l6 N fu) 221 (nI b) (nI c) (nI (sNt (FF (D 3) (AC D fx) b) 10)) (nI (sNt (FF (D 3) (AC D fx) (b + 1)) n)) (nI n) u = X8_goTo_l6 N fu (wi h' 234 n (nI x)) 221 (nI b) (nI c) (nI (sNt (FF (D 3) (AC D fx) b) 10)) (nI (sNt (FF (D 3) (AC D fx) (b + 1)) n) + nI x) (nI n + 1) → ∃ h2, X8_goTo_b42 N h' (X8_goTo_l6 N fu) 221 (nI b) (nI c) (nI (sNt (FF (D 3) (AC D fx) b) 10)) (nI (sNt (FF (D 3) (AC D fx) (b + 1)) n)) (nI n) u = some (nI (sNt (FF (D 3) (AC D fx) (b + 1)) 10), h2) ∧ (∀ m, 1 ≤ m → m < 10 → h2.1 233 m = nI (FF (D 3) (AC D fx) (b + 1) m)) ∧ h2.2 = h.2 ∧ ∀ k, k ≠ 233 → k ≠ 234 → h2.1 k = h.1 k := by
        intro u x hx hu
        rw [hu, nI_add, nI_1, hx]
        have := ih (n + 1) fu (wi h' 234 n (nI (FF (D 3) (AC D fx) (b + 1) n))) (by omega) (by omega) (by omega) f2 (fun k hk => by rw [wi_k _ _ hk]; exact fk k hk) (fun m h1 h2 => by
          by_cases y : m = n
          · subst y; exact wi_s _ _ _ _
          · rw [wi_j _ _ y]; exact fl m h1 (by omega))
        rw [sNt] at this
        exact this
      have yes : AC D fx b n = true → ∃ h2, X8_goTo_b42 N h' (X8_goTo_l6 N fu) 221 (nI b) (nI c) (nI (sNt (FF (D 3) (AC D fx) b) 10)) (nI (sNt (FF (D 3) (AC D fx) (b + 1)) n)) (nI n) 1 = some (nI (sNt (FF (D 3) (AC D fx) (b + 1)) 10), h2) ∧ (∀ m, 1 ≤ m → m < 10 → h2.1 233 m = nI (FF (D 3) (AC D fx) (b + 1) m)) ∧ h2.2 = h.2 ∧ ∀ k, k ≠ 233 → k ≠ 234 → h2.1 k = h.1 k := by
        intro ha
        rcases tc with ⟨c0, c1⟩ | ⟨c0, c1, c2⟩
        · refine step 1 (sNt (FF (D 3) (AC D fx) b) 10) ?_ ?_
          · rw [FF, if_pos ha, sNt_one 0 10 (by decide) (fun i _ hi => c1 i hi), sNt_one 0 10 (by decide) (fun i _ hi => by rw [c1 i hi, ite_self]), if_pos (Or.inl rfl)]
          · unfold X8_goTo_b42
            rw [if_neg one0, c0, if_pos (show nI 0 = 0 from rfl), if_neg (nI_in (by omega) (by decide)), sq_eq, if_neg (nI_in (by omega) (by decide)), nI_clamp (by omega), wi_s]
        · refine step 1 (sNt (fun m => if nr (D 3) m n then FF (D 3) (AC D fx) b m else 0) 10) ?_ ?_
          · rw [FF, if_pos ha]
          · unfold X8_goTo_b42
            rw [if_neg one0, c0, if_neg (show ¬ nI 1 = 0 by decide), c_waysNear t' hN c1 (fun m h1 h2 => by rw [fk 233 (by decide)]; exact c2 m h1 h2) (by omega) hn, bd1_some, if_neg (nI_in (by omega) (by decide)), sq_eq, if_neg (nI_in (by omega) (by decide)), nI_clamp (by omega), wi_s]
      by_cases z : fx b = 0
      · rw [if_pos (by rw [z]; rfl)]
        exact yes (by rw [AC, if_pos hs]; exact decide_eq_true ⟨hn, Or.inl z⟩)
      · rw [if_neg (nI_ne0 (by omega) (by omega)), bd1_some]
        by_cases y : fx b = n
        · rw [if_pos (by rw [y])]
          exact yes (by rw [AC, if_pos hs]; exact decide_eq_true ⟨hn, Or.inr y⟩)
        · rw [if_neg (fun v => y ((nI_eq (by omega) (by omega)).mp v))]
          refine step 0 0 ?_ ?_
          · rw [FF, if_neg]
            rw [AC, if_pos hs]
            exact fun w => by have := of_decide_eq_true w; omega
          · unfold X8_goTo_b42
            rw [if_pos rfl, if_neg (nI_in (by omega) (by decide)), sq_eq, if_neg (nI_in (by omega) (by decide)), nI_clamp (by omega), wi_s]
            rfl
  obtain ⟨h2, a1, a2, a3, a4⟩ := key 9 1 N h (by omega) (by omega) (by omega) rfl (fun _ _ => rfl) (fun m h1 h2 => by omega)
  rw [show sNt (FF (D 3) (AC D fx) (b + 1)) 1 = 0 by rw [sNt, sNt, f0]] at a1
  exact ⟨h2, a1, Or.inr ⟨rfl, f0, a2⟩, a3, a4⟩
theorem c_rows (t : TX h p D fx) (hN : 100 ≤ N) : ∃ h', X8_rows N h 221 = some (nI (GG (D 3) (AC D fx) (D 1) (D 1) 0), h') ∧ h'.2 = h.2 ∧ ∀ k, k ≠ 233 → k ≠ 234 → h'.1 k = h.1 k := by
  have hk := hk0 t.2.1.2.1
  have key : ∀ (r b fu c : Nat) (h' : HS), b + r = D 1 → r < fu → h'.2 = h.2 → (∀ k, k ≠ 233 → k ≠ 234 → h'.1 k = h.1 k) → TC h' D fx b c → ∃ h2, X8_rows_l6 N fu h' 221 (nI (sNt (FF (D 3) (AC D fx) b) 10)) (nI c) (nI b) = some (nI (sNt (FF (D 3) (AC D fx) (D 1)) 10), h2) ∧ h2.2 = h.2 ∧ ∀ k, k ≠ 233 → k ≠ 234 → h2.1 k = h.1 k := by
    intro r
    induction r with
    | zero =>
      intro b fu c h' e hf f2 fk tc
      obtain ⟨fu, rfl, _⟩ := fuel hf
      have t' : TX h' p D fx := TX_n t f2 (fun k hk => fk k (by omega) (by omega)) (fk 232 (by decide) (by decide))
      refine ⟨h', ?_, f2, fk⟩
      rw [X8_rows_l6, t'.1, ch1 t'.2.1, if_pos (nI_le (by omega) (by omega)), show b = D 1 by omega]
    | succ r ih =>
      intro b fu c h' e hf f2 fk tc
      obtain ⟨fu, rfl, _⟩ := fuel hf
      have t' : TX h' p D fx := TX_n t f2 (fun k hk => fk k (by omega) (by omega)) (fk 232 (by decide) (by decide))
      rw [X8_rows_l6, t'.1, ch1 t'.2.1, if_neg (nI_ge (by omega) (by omega)), if_neg (show ¬ (8 : Int32) ≤ nI b from nI_ge (b := 8) (by omega) (by decide)), c_isWalled t' (by omega), bd1_some]
      have on : snd D b → ∃ h2, X8_rows_b47 N h' (X8_rows_l6 N fu) 221 (nI (sNt (FF (D 3) (AC D fx) b) 10)) (nI c) (nI b) 1 = some (nI (sNt (FF (D 3) (AC D fx) (D 1)) 10), h2) ∧ h2.2 = h.2 ∧ ∀ k, k ≠ 233 → k ≠ 234 → h2.1 k = h.1 k := by
        intro hs
        obtain ⟨h3, a1, a2, a3, a4⟩ := c_goTo t' hN (by omega) hs tc
        unfold X8_rows_b47
        rw [if_neg one0, a1, bd2_some, nI_1]
        exact ih (b + 1) fu 1 h3 (by omega) (by omega) (a3.trans f2) (fun k h1 h2 => (a4 k h1 h2).trans (fk k h1 h2)) a2
      by_cases z : (D 4).testBit b = true
      · rw [nB_t z, if_neg one0]
        exact on (Or.inl z)
      · rw [nB_f z, if_pos rfl, c_sounds t'.2.1 (by omega), bd1_some]
        by_cases y : D (17 + 4 * b) = 0
        · rw [nB_f (fun w : zsn D b => w.2 y), if_pos rfl]
          have hs : ¬ snd D b := fun w => by rcases w with w | w; exact z w; exact w y
          have fa : ∀ n, FF (D 3) (AC D fx) (b + 1) n = if n = 0 then sNt (FF (D 3) (AC D fx) b) 10 else 0 := by
            intro n
            rw [FF, AC, if_neg hs]
            by_cases x : n = 0
            · rw [if_pos (decide_eq_true x), if_pos x]
              exact sNt_congr 10 (fun m _ => if_pos (Or.inr (Or.inl x)))
            · rw [if_neg (fun w => x (of_decide_eq_true w)), if_neg x]
          have fs : sNt (FF (D 3) (AC D fx) (b + 1)) 10 = sNt (FF (D 3) (AC D fx) b) 10 := by
            rw [sNt_one 0 10 (by decide) (fun i _ hi => by rw [fa, if_neg hi]), fa, if_pos rfl]
          unfold X8_rows_b47
          rw [if_pos rfl, nI_1, ← fs]
          exact ih (b + 1) fu 0 h' (by omega) (by omega) f2 fk (Or.inl ⟨rfl, fun n hn => by rw [fa, if_neg hn]⟩)
        · rw [nB_t (show zsn D b from ⟨by omega, y⟩), if_neg one0]
          exact on (Or.inr y)
  obtain ⟨h2, a1, a2, a3⟩ := key (D 1) 0 N 0 h (by omega) (by omega) rfl (fun _ _ _ => rfl) (Or.inl ⟨rfl, fun n hn => if_neg hn⟩)
  rw [show sNt (FF (D 3) (AC D fx) 0) 10 = 1 from sNt_one 0 10 (by decide) (fun i _ hi => if_neg hi), FG_end] at a1
  exact ⟨h2, a1, a2, a3⟩
end TUC
