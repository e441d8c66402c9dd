/-! ===== level 2: tussle: the reference's walk, its steps ===== -/
section WAL
variable {N : Nat} {q T : Nat} {D : Nat → Nat} {h : HS}
def UPw (N fu : Nat) (h : HS) (T t : Nat) : Option (Int32 × HS) := if t = 0 then X11_tussleOf_l21 N fu h 237 (nI T) (-1) else bd1 (X11_turns N h 237 (nI (t - 1)) (h.1 250 t)) fun g => X11_tussleOf_l21 N fu g 237 (nI T) (nI (t - 1))
theorem nIm1 {t : Nat} (h0 : 0 < t) : nI t + (-1) = nI (t - 1) := by
  rw [show t = (t - 1) + 1 by omega, ← nI_1, Int32.add_assoc, show (1 : Int32) + (-1) = 0 from by decide, Int32.add_zero, Nat.add_sub_cancel]
theorem r_up {t L cand fu : Nat} (ht : t < 6) (hT : T < 6) (hne : t ≠ T) (hL : L < cand) (hc : cand < 100) : X11_tussleOf_b81 N h (X11_tussleOf_l21 N fu) 237 (nI T) (nI t) (nI L) (nI cand) = UPw N fu h T t := by
  unfold X11_tussleOf_b81 UPw
  rw [if_neg (nI_ge hL (by omega)), if_neg (fun v => hne ((nI_eq (by omega) (by omega)).mp v))]
  by_cases z : t = 0
  · subst z
    rw [if_pos (show nI 0 + (-1) < 0 by decide), if_pos rfl]
    rfl
  · rw [nIm1 (by omega), if_neg (nI_pos (by omega)), if_neg z, nI_1, show t - 1 + 1 = t by omega, if_neg (nI_in (by omega) (by decide)), nI_clamp (by omega)]
theorem r_leaf (c : RH h q D) (hN : 100 ≤ N) {t L cand fu sk un : Nat} (ht : t < 6) (hT : t = T) (hL : L < cand) (hc : cand < 100) (hs : h.1 247 t = nI sk) (hsk : sk < 256) (hu : h.1 248 t = nI un) (hun : un < 64) : X11_tussleOf_b81 N h (X11_tussleOf_l21 N fu) 237 (nI T) (nI t) (nI L) (nI cand) = UPw N fu (wi h 250 t (iI (accI D sk un))) T t := by
  subst hT
  unfold X11_tussleOf_b81 UPw
  rw [if_neg (nI_ge hL (by omega)), if_pos rfl, r_endsWith c hN ht hs hsk hu hun, bd1_some, if_neg (nI_in (by omega) (by decide)), sq_eq]
  by_cases z : t = 0
  · subst z
    rw [if_pos (show nI 0 + (-1) < 0 by decide), if_pos rfl]
    rfl
  · rw [nIm1 (by omega), if_neg (nI_pos (by omega)), if_neg z, nI_1, show t - 1 + 1 = t by omega, if_neg (nI_in (by omega) (by decide)), nI_clamp (by omega)]
abbrev dwH (h : HS) (t cand sk un : Nat) : HS := wi (wi (wi (wi (wi h 249 t (nI cand)) 247 (t + 1) (nI sk)) 248 (t + 1) (nI un)) 249 (t + 1) (-1)) 250 (t + 1) 99999999
theorem r_downL {t cand fu sk un : Nat} (ht : t < 5) (he : t % 2 = 0) (hc : cand ≤ 8) (hs : h.1 247 t = nI sk) (hu : h.1 248 t = nI un) : X11_tussleOf_b81 N h (X11_tussleOf_l21 N fu) 237 (nI T) (nI t) 8 (nI cand) = X11_tussleOf_l21 N fu (dwH h t cand (if cand = 8 then sk else sk ||| 2 ^ cand) un) 237 (nI T) (nI (t + 1)) := by
  have tail : ∀ (u : Int32) (sk' : Nat), nI sk ||| u = nI sk' → X11_tussleOf_b168 N (wi h 249 t (nI cand)) (X11_tussleOf_l21 N fu) 237 (nI T) (nI t) (nI cand) u (nI sk) (nI t + 1) (237 + 10) = X11_tussleOf_l21 N fu (dwH h t cand sk' un) 237 (nI T) (nI (t + 1)) := by
    intro u sk' hu'
    unfold X11_tussleOf_b168
    rw [hu', nI_1, show ln (237 + 10) = 6 from ln247, if_neg (nI_in (by omega) (by decide)), sq_eq, if_neg (show ¬ (nI t < 0 ∨ 6 ≤ (nI t).toNatClampNeg) from nI_in (by omega) (by decide)), par2 (by omega), he, if_neg (show ¬ nI 0 = 1 by decide), if_neg (nI_in (by omega) (by decide)), sq_eq, nI_clamp (by omega), nI_clamp (by omega), show (wi (wi h 249 t (nI cand)) (237 + 10) (t + 1) (nI sk')).1 (237 + 11) t = nI un by rw [show (237 + 11 : Nat) = 248 from rfl, show (237 + 10 : Nat) = 247 from rfl, wi_k _ _ (by decide), wi_k _ _ (by decide)]; exact hu, show nI un ||| 0 = nI (un ||| 0) from nx_or un 0, Nat.or_zero]
    unfold X11_laysTurn
    rw [if_neg (nI_in (by omega) (by decide)), sq_eq, if_neg (nI_in (by omega) (by decide)), sq_eq, nI_clamp (by omega), bd1_some]
  unfold X11_tussleOf_b81
  rw [if_pos (show nI cand ≤ 8 from nI_le (b := 8) hc (by decide)), if_neg (nI_in (by omega) (by decide)), sq_eq, if_neg (nI_in (by omega) (by decide)), par2 (by omega), he, if_pos (show nI 0 = 0 from rfl), nI_clamp (by omega), show (237 + 12 : Nat) = 249 from rfl, show (wi h 249 t (nI cand)).1 (237 + 10) t = nI sk by rw [show (237 + 10 : Nat) = 247 from rfl, wi_k _ _ (by decide)]; exact hs]
  by_cases z : cand = 8
  · rw [if_pos (show (8 : Int32) ≤ nI cand from nI_le (a := 8) (by omega) (by omega)), if_pos z]
    exact tail 0 sk (by rw [show nI sk ||| 0 = nI (sk ||| 0) from nx_or sk 0, Nat.or_zero])
  · rw [if_neg (show ¬ (8 : Int32) ≤ nI cand from nI_ge (b := 8) (by omega) (by decide)), if_neg z, one_shl _ (by omega)]
    exact tail _ (sk ||| 2 ^ cand) (nx_or _ _)
theorem r_downH {t cand fu sk un : Nat} (ht : t < 5) (he : t % 2 = 1) (hc : cand ≤ 6) (hs : h.1 247 t = nI sk) (hu : h.1 248 t = nI un) : X11_tussleOf_b81 N h (X11_tussleOf_l21 N fu) 237 (nI T) (nI t) 6 (nI cand) = X11_tussleOf_l21 N fu (dwH h t cand sk (if cand = 6 then un else un ||| 2 ^ cand)) 237 (nI T) (nI (t + 1)) := by
  unfold X11_tussleOf_b81
  rw [if_pos (show nI cand ≤ 6 from nI_le (b := 6) hc (by decide)), if_neg (nI_in (by omega) (by decide)), sq_eq, if_neg (nI_in (by omega) (by decide)), par2 (by omega), he, if_neg (show ¬ nI 1 = 0 by decide), nI_clamp (by omega), show (237 + 12 : Nat) = 249 from rfl, show (wi h 249 t (nI cand)).1 (237 + 10) t = nI sk by rw [show (237 + 10 : Nat) = 247 from rfl, wi_k _ _ (by decide)]; exact hs]
  unfold X11_tussleOf_b168
  rw [show nI sk ||| 0 = nI (sk ||| 0) from nx_or sk 0, Nat.or_zero, nI_1, show ln (237 + 10) = 6 from ln247, if_neg (nI_in (by omega) (by decide)), sq_eq, if_neg (show ¬ (nI t < 0 ∨ 6 ≤ (nI t).toNatClampNeg) from nI_in (by omega) (by decide)), par2 (by omega), he, if_pos (show nI 1 = 1 from rfl), nI_clamp (by omega), nI_clamp (by omega), show (wi (wi h 249 t (nI cand)) (237 + 10) (t + 1) (nI sk)).1 (237 + 11) t = nI un by rw [show (237 + 11 : Nat) = 248 from rfl, show (237 + 10 : Nat) = 247 from rfl, wi_k _ _ (by decide), wi_k _ _ (by decide)]; exact hu]
  by_cases z : cand = 6
  · rw [if_pos (show (6 : Int32) ≤ nI cand from nI_le (a := 6) (by omega) (by omega)), if_pos z, if_neg (nI_ic (by omega) (by omega)), sq_eq, show nI un ||| 0 = nI (un ||| 0) from nx_or un 0, Nat.or_zero]
    unfold X11_laysTurn
    rw [if_neg (nI_in (by omega) (by decide)), sq_eq, if_neg (nI_in (by omega) (by decide)), sq_eq, nI_clamp (by omega), bd1_some]
  · rw [if_neg (show ¬ (6 : Int32) ≤ nI cand from nI_ge (b := 6) (by omega) (by decide)), if_neg z, if_neg (nI_ic (by omega) (by omega)), sq_eq, one_shl _ (by omega), nx_or]
    unfold X11_laysTurn
    rw [if_neg (nI_in (by omega) (by decide)), sq_eq, if_neg (nI_in (by omega) (by decide)), sq_eq, nI_clamp (by omega), bd1_some]
end WAL
