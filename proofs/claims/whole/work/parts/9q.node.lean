/-! ===== level 2: tussle: the reference's walk, whole ===== -/
section GNO
variable {N : Nat} {q T : Nat} {D : Nat → Nat}
abbrev NIv (h : HS) (q : Nat) (D : Nat → Nat) (t sk un : Nat) : Prop := RH h q D ∧ h.1 247 t = nI sk ∧ h.1 248 t = nI un
theorem NIv_w {h h' : HS} {t sk un : Nat} (n : NIv h q D t sk un) (w : WF t h h') : NIv h' q D t sk un :=
  ⟨RH_w n.1 (w.1 238 (by decide) (by decide) (by decide) (by decide) (by decide)) w.2.1, by rw [(w.2.2.2.1 t (Nat.le_refl _)).1]; exact n.2.1, by rw [(w.2.2.2.1 t (Nat.le_refl _)).2]; exact n.2.2⟩
theorem dwH_f (h : HS) (t cand sk un : Nat) : WF t h (dwH h t cand sk un) := by
  refine ⟨?_, ?_, ?_, ?_, ?_⟩
  · intro k k1 k2 k3 k4 k5; rw [wi_k _ _ k5, wi_k _ _ k4, wi_k _ _ k3, wi_k _ _ k2, wi_k _ _ k4]
  · intro j hj; rw [wi_k _ _ (by decide), wi_k _ _ (by decide), wi_k _ _ (by decide), wi_k _ _ (by decide), wi_k _ _ (by decide)]
  · intro _; rw [wi_k _ _ (by decide), wi_k _ _ (by decide), wi_k _ _ (by decide), wi_k _ _ (by decide), wi_k _ _ (by decide)]
  · intro i hi
    constructor
    · rw [wi_k _ _ (by decide), wi_k _ _ (by decide), wi_k _ _ (by decide), wi_j _ _ (by omega), wi_k _ _ (by decide)]
    · rw [wi_k _ _ (by decide), wi_k _ _ (by decide), wi_j _ _ (by omega), wi_k _ _ (by decide), wi_k _ _ (by decide)]
  · intro i hi
    constructor
    · rw [wi_k _ _ (by decide), wi_j _ _ (by omega), wi_k _ _ (by decide), wi_k _ _ (by decide), wi_j _ _ (by omega)]
    · rw [wi_j _ _ (by omega), wi_k _ _ (by decide), wi_k _ _ (by decide), wi_k _ _ (by decide), wi_k _ _ (by decide)]
theorem dwH_7 (h : HS) (t cand sk un : Nat) : (dwH h t cand sk un).1 247 (t + 1) = nI sk := by
  rw [wi_k _ _ (by decide), wi_k _ _ (by decide), wi_k _ _ (by decide), wi_s]
theorem dwH_8 (h : HS) (t cand sk un : Nat) : (dwH h t cand sk un).1 248 (t + 1) = nI un := by
  rw [wi_k _ _ (by decide), wi_k _ _ (by decide), wi_s]
theorem dwH_9 (h : HS) (t cand sk un : Nat) : (dwH h t cand sk un).1 249 (t + 1) = -1 := by
  rw [wi_k _ _ (by decide), wi_s]
theorem dwH_0 (h : HS) (t cand sk un : Nat) : (dwH h t cand sk un).1 250 (t + 1) = 99999999 := wi_s _ _ _ _
theorem dwH_n (h : HS) (t cand sk un : Nat) : (dwH h t cand sk un).1 249 t = nI cand := by
  rw [wi_k _ _ (by decide), wi_j _ _ (by omega), wi_k _ _ (by decide), wi_k _ _ (by decide), wi_s]
theorem dwH_c (h : HS) (t cand sk un : Nat) : (dwH h t cand sk un).1 250 t = h.1 250 t := by
  rw [wi_j _ _ (by omega), wi_k _ _ (by decide), wi_k _ _ (by decide), wi_k _ _ (by decide), wi_k _ _ (by decide)]
theorem dwH_29 (h : HS) (t cand sk un : Nat) : (dwH h t cand sk un).1 237 29 = h.1 237 29 := by
  rw [wi_k _ _ (by decide), wi_k _ _ (by decide), wi_k _ _ (by decide), wi_k _ _ (by decide), wi_k _ _ (by decide)]
theorem l21_step {t fu : Nat} {h : HS} {L : Nat} (ht : t < T) (hT : T ≤ 4) (hL : L = if t % 2 = 0 then 8 else 6) : X11_tussleOf_l21 N (fu + 1) h 237 (nI T) (nI t) = X11_tussleOf_l59 N (X11_tussleOf_l21 N fu) N h 237 (nI T) (nI t) (nI L) (h.1 249 t + 1) := by
  rw [X11_tussleOf_l21, if_neg (nI_pos (by omega)), par2 (by omega)]
  have ne : ¬ nI t = nI T := fun v => by have := (nI_eq (by omega) (by omega)).mp v; omega
  by_cases z : t % 2 = 0
  · rw [if_pos (show nI (t % 2) = 0 by rw [z]; rfl), if_neg ne, if_neg (nI_in (by omega) (by decide)), nI_clamp (by omega), hL, if_pos z]
    rfl
  · rw [if_neg (show ¬ nI (t % 2) = 0 from nI_ne0 (by omega) (by omega)), if_neg ne, if_neg (nI_in (by omega) (by decide)), nI_clamp (by omega), hL, if_neg z]
    rfl
theorem r_node {t sk un L C : Nat} {may : Nat → Bool} {skc unc : Nat → Nat} {v : Nat → Int} (hN : 100 ≤ N) (hT : T ≤ 4) (ht : t < T) (hL : L = if t % 2 = 0 then 8 else 6)
    (hmay : ∀ h, NIv h q D t sk un → ∀ i, i < L → X11_mayTurn N h 237 (nI t) (nI i) = some (nB (may i = true)))
    (hdown : ∀ h fu cand, NIv h q D t sk un → cand ≤ L → X11_tussleOf_b81 N h (X11_tussleOf_l21 N fu) 237 (nI T) (nI t) (nI L) (nI cand) = X11_tussleOf_l21 N fu (dwH h t cand (skc cand) (unc cand)) 237 (nI T) (nI (t + 1)))
    (hchild : ∀ cand, cand ≤ L → (cand < L → may cand = true) → ∀ h fu, NIv h q D (t + 1) (skc cand) (unc cand) → h.1 249 (t + 1) = -1 → h.1 250 (t + 1) = 99999999 → C ≤ fu → ∃ fu' h', fu ≤ fu' + C ∧ X11_tussleOf_l21 N fu h 237 (nI T) (nI (t + 1)) = UPw N fu' h' T (t + 1) ∧ WF (t + 1) h h' ∧ h'.1 250 (t + 1) = iI (v cand))
    (hv : ∀ cand, cand ≤ L → (cand < L → may cand = true) → -2000 ≤ v cand ∧ v cand ≤ 2000) :
    ∀ (m i fw fu : Nat) (h : HS) (cur : Option (Int × Nat)), i + m = L → m < fw → NIv h q D t sk un → h.1 250 t = cw cur → (∀ y, cur = some y → -2000 ≤ y.1 ∧ y.1 ≤ 2000) → (t = 0 → ∀ y, cur = some y → h.1 237 29 = nI y.2) → (m + 1) * (C + 1) + 1 ≤ fu →
    ∃ fu' h', fu ≤ fu' + ((m + 1) * (C + 1) + 1) ∧ X11_tussleOf_l59 N (X11_tussleOf_l21 N fu) fw h 237 (nI T) (nI t) (nI L) (nI i) = UPw N fu' h' T t ∧ WF t h h' ∧ h'.1 250 t = iI (ascB (decide (t % 2 = 0)) may v m i cur).1 ∧ (t = 0 → h'.1 237 29 = nI (ascB (decide (t % 2 = 0)) may v m i cur).2) := by
  have hL8 : L ≤ 8 := by rw [hL]; by_cases z : t % 2 = 0
                         · rw [if_pos z]; decide
                         · rw [if_neg z]; decide
  -- a candidate is tried
  have tried : ∀ (cand fu : Nat) (h : HS) (cur : Option (Int × Nat)), cand ≤ L → (cand < L → may cand = true) → NIv h q D t sk un → h.1 250 t = cw cur → (∀ y, cur = some y → -2000 ≤ y.1 ∧ y.1 ≤ 2000) → (t = 0 → ∀ y, cur = some y → h.1 237 29 = nI y.2) → C + 1 ≤ fu →
      ∃ f g, fu ≤ f + (C + 1) ∧ X11_tussleOf_b81 N h (X11_tussleOf_l21 N fu) 237 (nI T) (nI t) (nI L) (nI cand) = X11_tussleOf_l59 N (X11_tussleOf_l21 N f) N g 237 (nI T) (nI t) (nI L) (nI (cand + 1)) ∧ WF t h g ∧ g.1 250 t = cw (some (stB (decide (t % 2 = 0)) cur (v cand, cand))) ∧ (t = 0 → g.1 237 29 = nI (stB (decide (t % 2 = 0)) cur (v cand, cand)).2) := by
    intro cand fu h cur hc hm n e0 eb e9 hf
    have w1 := dwH_f h t cand (skc cand) (unc cand)
    have n1 : NIv (dwH h t cand (skc cand) (unc cand)) q D (t + 1) (skc cand) (unc cand) := ⟨RH_w n.1 (w1.1 238 (by decide) (by decide) (by decide) (by decide) (by decide)) w1.2.1, dwH_7 _ _ _ _ _, dwH_8 _ _ _ _ _⟩
    obtain ⟨f1, h2, a1, a2, a3, a4⟩ := hchild cand hc hm _ fu n1 (dwH_9 _ _ _ _ _) (dwH_0 _ _ _ _ _) (by omega)
    obtain ⟨f, rfl, _⟩ := fuel (show 0 < f1 by omega)
    have b1 : h2.1 249 t = nI cand := by rw [(a3.2.2.2.2 t (by omega)).1, dwH_n]
    have b2 : h2.1 250 t = cw cur := by rw [(a3.2.2.2.2 t (by omega)).2, dwH_c]; exact e0
    have b3 : h2.1 237 29 = h.1 237 29 := by rw [a3.2.2.1 (by omega), dwH_29]
    have hx := hv cand hc hm
    obtain ⟨g, c1, c2, c3, c4, c5⟩ := r_turns (N := N) (h := h2) (t := t) (cand := cand) (x := v cand) (cur := cur) (by omega) hx.1 hx.2 b2 eb b1 (fun h0 y hy => by rw [b3]; exact e9 h0 y hy)
    refine ⟨f, g, by omega, ?_, ?_, c2, c5⟩
    · rw [hdown h fu cand n hc, a2, UPw, if_neg (by omega), Nat.add_sub_cancel, a4, c1, bd1_some, l21_step ht hT hL, c4, b1, nI_1]
    · refine WF_trans w1 (WF_trans ⟨a3.1, a3.2.1, fun _ => a3.2.2.1 (by omega), fun i hi => a3.2.2.2.1 i (by omega), fun i hi => a3.2.2.2.2 i (by omega)⟩ c3)
  intro m
  induction m with
  | zero =>
    intro i fw fu h cur e hw n e0 eb e9 hf
    obtain ⟨fw, rfl, _⟩ := fuel hw
    have ei : i = L := by omega
    subst ei
    obtain ⟨f, g, a1, a2, a3, a4, a5⟩ := tried i fu h cur (Nat.le_refl _) (fun z => absurd z (Nat.lt_irrefl _)) n e0 eb e9 (by omega)
    obtain ⟨N', rfl, _⟩ := fuel (show 0 < N by omega)
    refine ⟨f, g, by omega, ?_, a3, a4, a5⟩
    rw [X11_tussleOf_l59, if_pos (nI_le (Nat.le_refl _) (by omega)), a2, X11_tussleOf_l59, if_pos (nI_le (by omega) (by omega)), r_up (by omega) (by omega) (by omega) (by omega) (by omega)]
  | succ m ih =>
    intro i fw fu h cur e hw n e0 eb e9 hf
    obtain ⟨fw, rfl, _⟩ := fuel hw
    have hmul : (m + 1 + 1) * (C + 1) = (m + 1) * (C + 1) + (C + 1) := by rw [Nat.add_mul, Nat.one_mul]
    rw [X11_tussleOf_l59, if_neg (nI_ge (by omega) (by omega)), hmay h n i (by omega), bd1_some, ascB]
    by_cases z : may i = true
    · rw [nB_t z, if_neg one0, if_pos z]
      obtain ⟨f, g, a1, a2, a3, a4, a5⟩ := tried i fu h cur (by omega) (fun _ => z) n e0 eb e9 (by omega)
      have hx := hv i (by omega) (fun _ => z)
      have hy : -2000 ≤ (stB (decide (t % 2 = 0)) cur (v i, i)).1 ∧ (stB (decide (t % 2 = 0)) cur (v i, i)).1 ≤ 2000 := by
        cases cur with
        | none => exact hx
        | some y =>
          show -2000 ≤ (if bet (decide (t % 2 = 0)) (v i) y.1 = true then (v i, i) else y).1 ∧ (if bet (decide (t % 2 = 0)) (v i) y.1 = true then (v i, i) else y).1 ≤ 2000
          by_cases u : bet (decide (t % 2 = 0)) (v i) y.1 = true
          · rw [if_pos u]; exact hx
          · rw [if_neg u]; exact eb y rfl
      obtain ⟨f', h', b1, b2, b3, b4, b5⟩ := ih (i + 1) N f g _ (by omega) (by omega) (NIv_w n a3) a4 (fun y hy' => by cases hy'; exact hy) (fun h0 y hy' => by cases hy'; exact a5 h0) (by omega)
      exact ⟨f', h', by omega, a2.trans b2, WF_trans a3 b3, b4, b5⟩
    · rw [nB_f z, if_pos rfl, nI_1, if_neg z]
      obtain ⟨f', h', b1, b2, b3, b4, b5⟩ := ih (i + 1) fw fu h cur (by omega) (by omega) n e0 eb e9 (by omega)
      exact ⟨f', h', by omega, b2, b3, b4, b5⟩
def cst : Nat → Nat
  | 0 => 1
  | r + 1 => 9 * (cst r + 1) + 2
theorem r_walk (hN : 100 ≤ N) (hT : T ≤ 4) : ∀ (r t : Nat), t + r = T → ∀ (h : HS) (sk un fu : Nat), NIv h q D t sk un → skO D sk → un < 64 → h.1 249 t = -1 → h.1 250 t = 99999999 → cst r ≤ fu →
    ∃ fu' h', fu ≤ fu' + cst r ∧ X11_tussleOf_l21 N fu h 237 (nI T) (nI t) = UPw N fu' h' T t ∧ WF t h h' ∧ h'.1 250 t = iI (accI D sk un + gv D r (decide (t % 2 = 0)) sk un) ∧ (t = 0 → 0 < r → h'.1 237 29 = nI (tL D (r - 1) sk un).2) ∧ (t = 0 → r = 0 → h'.1 237 29 = h.1 237 29) := by
  intro r
  induction r with
  | zero =>
    intro t e h sk un fu n s hu e9 e0 hf
    have et : t = T := by omega
    subst et
    rw [cst] at hf
    obtain ⟨f, rfl, _⟩ := fuel (show 0 < fu by omega)
    obtain ⟨N', eN, _⟩ := fuel (show 0 < N by omega)
    refine ⟨f, wi h 250 t (iI (accI D sk un)), by rw [cst]; omega, ?_, ⟨?_, ?_, ?_, ?_, ?_⟩, ?_, fun _ h0 => absurd h0 (Nat.lt_irrefl 0), ?_⟩
    · rw [X11_tussleOf_l21, if_neg (nI_pos (by omega)), par2 (by omega)]
      have leaf : ∀ L : Nat, L < 9 → X11_tussleOf_l59 N (X11_tussleOf_l21 N f) N h 237 (nI t) (nI t) (nI L) (nI 9) = UPw N f (wi h 250 t (iI (accI D sk un))) t t := by
        intro L hL
        rw [show X11_tussleOf_l59 N (X11_tussleOf_l21 N f) N h 237 (nI t) (nI t) (nI L) (nI 9) = X11_tussleOf_l59 N (X11_tussleOf_l21 N f) (N' + 1) h 237 (nI t) (nI t) (nI L) (nI 9) by rw [← eN], X11_tussleOf_l59, if_pos (nI_le (by omega) (by omega))]
        exact r_leaf n.1 hN (by omega) rfl hL (by omega) n.2.1 s.1 n.2.2 hu
      by_cases z : t % 2 = 0
      · rw [if_pos (show nI (t % 2) = 0 by rw [z]; rfl), if_pos rfl]
        exact leaf 8 (by decide)
      · rw [if_neg (show ¬ nI (t % 2) = 0 from nI_ne0 (by omega) (by omega)), if_pos rfl]
        exact leaf 6 (by decide)
    · intro k k1 k2 k3 k4 k5; rw [wi_k _ _ k5]
    · intro j hj; rw [wi_k _ _ (by decide)]
    · intro _; rw [wi_k _ _ (by decide)]
    · intro i hi; rw [wi_k _ _ (by decide), wi_k _ _ (by decide)]; exact ⟨rfl, rfl⟩
    · intro i hi; rw [wi_k _ _ (by decide), wi_j _ _ (by omega)]; exact ⟨rfl, rfl⟩
    · rw [wi_s, gv, Int.add_zero]
    · intro _ _; rw [wi_k _ _ (by decide)]
  | succ r ih =>
    intro t e h sk un fu n s hu e9 e0 hf
    have k := n.1.1
    have hk := hk0 k
    have ha := acc_in k sk un
    rw [cst] at hf
    obtain ⟨f, rfl, _⟩ := fuel (show 0 < fu by omega)
    by_cases z : t % 2 = 0
    · have dz : decide (t % 2 = 0) = true := decide_eq_true z
      have dz1 : decide ((t + 1) % 2 = 0) = false := decide_eq_false (by omega)
      have hm : ∀ i, mayL D sk i = true → zsn D i ∧ sk.testBit i = false := by
        intro i hi
        simp only [mayL, Bool.and_eq_true, decide_eq_true_iff, Bool.not_eq_true'] at hi
        exact hi
      have hg : ∀ i, i ≤ 8 → (i < 8 → mayL D sk i = true) → -200 ≤ vL D r sk un i ∧ vL D r sk un i ≤ 200 := by
        intro i hi hi2
        by_cases y : i = 8
        · have := gv_in k r false sk un
          rw [vL, if_pos y]
          omega
        · have hz := hm i (hi2 (by omega))
          have hB := hkB k hz.1.1
          have := gv_in k r false (sk ||| 2 ^ i) un
          rw [vL, if_neg y]
          omega
      have nd := r_node (N := N) (q := q) (T := T) (D := D) (t := t) (sk := sk) (un := un) (L := 8) (C := cst r) (may := mayL D sk) (skc := fun i => if i = 8 then sk else sk ||| 2 ^ i) (unc := fun _ => un) (v := fun i => accI D sk un + vL D r sk un i) hN hT (by omega) (by rw [if_pos z])
        (fun h n i hi => r_mayL n.1 (by omega) z n.2.1 s.1 hi)
        (fun h fu cand n hc => r_downL (by omega) z hc n.2.1 n.2.2)
        (fun cand hc hcm h fu n e9 e0 hf => by
          by_cases y : cand = 8
          · subst y
            rw [if_pos rfl] at n
            obtain ⟨fu', h', b1, b2, b3, b4, _⟩ := ih (t + 1) (by omega) h sk un fu n s hu e9 e0 hf
            rw [dz1] at b4
            exact ⟨fu', h', b1, b2, b3, by rw [b4, vL, if_pos rfl]⟩
          · rw [if_neg y] at n
            have hz := hm cand (hcm (by omega))
            obtain ⟨fu', h', b1, b2, b3, b4, _⟩ := ih (t + 1) (by omega) h (sk ||| 2 ^ cand) un fu n (skO_or k s hz.1.1) hu e9 e0 hf
            rw [dz1, acc_L hz.1.1 hz.2] at b4
            exact ⟨fu', h', b1, b2, b3, by rw [b4, vL, if_neg y, Int.add_assoc]⟩)
        (fun cand hc hcm => by have := hg cand hc hcm; show -2000 ≤ accI D sk un + vL D r sk un cand ∧ accI D sk un + vL D r sk un cand ≤ 2000; omega)
      obtain ⟨fu', h', b1, b2, b3, b4, b5⟩ := nd 8 0 N f h none (by omega) (by omega) n e0 (fun y hy => by cases hy) (fun _ y hy => by cases hy) (by omega)
      have ea := ascB_L (may := mayL D sk) (v := fun i => accI D sk un + vL D r sk un i) 8 (Nat.le_refl _) none
      rw [show (8 : Nat) - 8 = 0 from rfl, show stB true none (dsc (mayL D sk) (fun i => accI D sk un + vL D r sk un i) 8) = dsc (mayL D sk) (fun i => accI D sk un + vL D r sk un i) 8 from rfl, dsc_sh] at ea
      rw [dz, ea] at b4 b5
      refine ⟨fu', h', by rw [cst]; omega, ?_, b3, ?_, fun h0 _ => b5 h0, fun _ h0 => by omega⟩
      · rw [l21_step (by omega) hT (by rw [if_pos z]), e9]
        exact b2
      · rw [b4, dz, gv_L]
    · have dz : decide (t % 2 = 0) = false := decide_eq_false z
      have dz1 : decide ((t + 1) % 2 = 0) = true := decide_eq_true (by omega)
      have hm : ∀ i, mayH D sk un i = true → i < D 0 ∧ un.testBit i = false := by
        intro i hi
        have hi' : (decide (i < D 0) && wkB D sk i && !un.testBit i) = true := hi
        simp only [Bool.and_eq_true, decide_eq_true_iff, Bool.not_eq_true'] at hi'
        exact ⟨hi'.1.1, hi'.2⟩
      have hg : ∀ i, i ≤ 6 → (i < 6 → mayH D sk un i = true) → -200 ≤ vH D r sk un i ∧ vH D r sk un i ≤ 200 := by
        intro i hi hi2
        by_cases y : i = 6
        · have := gv_in k r true sk un
          rw [vH, if_pos y]
          omega
        · have hz := hm i (hi2 (by omega))
          have hF := hkF k hz.1
          have := gv_in k r true sk (un ||| 2 ^ i)
          rw [vH, if_neg y]
          omega
      have nd := r_node (N := N) (q := q) (T := T) (D := D) (t := t) (sk := sk) (un := un) (L := 6) (C := cst r) (may := mayH D sk un) (skc := fun _ => sk) (unc := fun i => if i = 6 then un else un ||| 2 ^ i) (v := fun i => accI D sk un + vH D r sk un i) hN hT (by omega) (by rw [if_neg z])
        (fun h n i hi => r_mayH n.1 hN (by omega) (by omega) n.2.1 s n.2.2 hu hi)
        (fun h fu cand n hc => r_downH (by omega) (by omega) hc n.2.1 n.2.2)
        (fun cand hc hcm h fu n e9 e0 hf => by
          by_cases y : cand = 6
          · subst y
            rw [if_pos rfl] at n
            obtain ⟨fu', h', b1, b2, b3, b4, _⟩ := ih (t + 1) (by omega) h sk un fu n s hu e9 e0 hf
            rw [dz1] at b4
            exact ⟨fu', h', b1, b2, b3, by rw [b4, vH, if_pos rfl]⟩
          · rw [if_neg y] at n
            have hz := hm cand (hcm (by omega))
            obtain ⟨fu', h', b1, b2, b3, b4, _⟩ := ih (t + 1) (by omega) h sk (un ||| 2 ^ cand) fu n s (or_lt 6 hu (by omega)) e9 e0 hf
            rw [dz1, acc_H hz.1 hz.2] at b4
            refine ⟨fu', h', b1, b2, b3, ?_⟩
            rw [b4, vH, if_neg y]
            congr 1
            omega)
        (fun cand hc hcm => by have := hg cand hc hcm; show -2000 ≤ accI D sk un + vH D r sk un cand ∧ accI D sk un + vH D r sk un cand ≤ 2000; omega)
      obtain ⟨fu', h', b1, b2, b3, b4, b5⟩ := nd 6 0 N f h none (by omega) (by omega) n e0 (fun y hy => by cases hy) (fun _ y hy => by cases hy) (by omega)
      have ea := ascB_H (may := mayH D sk un) (v := fun i => accI D sk un + vH D r sk un i) 6 (Nat.le_refl _) none
      rw [show (6 : Nat) - 6 = 0 from rfl, mh_sh] at ea
      rw [dz, ea] at b4
      refine ⟨fu', h', by rw [cst]; omega, ?_, b3, ?_, fun h0 _ => by omega, fun _ h0 => by omega⟩
      · rw [l21_step (by omega) hT (by rw [if_neg z]), e9]
        exact b2
      · rw [b4, dz, gv_H]
end GNO
