/-! ===== level 2: drawn ===== -/
section DRA
variable {N : Nat} {p q : Nat} {D : Nat → Nat} {S : NS} {h : HS}
theorem u_e (y : UInt32) : y.toInt32 = nI y.toNat := by
  apply Int32.toBitVec_inj.mp
  show y.toBitVec = BitVec.ofNat 32 y.toNat
  apply BitVec.eq_of_toNat_eq
  rw [BitVec.toNat_ofNat, UInt32.toNat_toBitVec]
  exact (Nat.mod_eq_of_lt y.toNat_lt).symm
theorem us_x (y : Int32) : ∃ k, k < 65536 ∧ ush y 16 = nI k := by
  refine ⟨(y.toUInt32 >>> 16).toNat, ?_, ?_⟩
  · rw [UInt32.toNat_shiftRight, show (16 : UInt32).toNat % 32 = 16 from rfl, Nat.shiftRight_eq_div_pow]
    have := y.toUInt32.toNat_lt
    omega
  · unfold ush
    rw [show (16 : Int32).toUInt32 &&& Int32.toUInt32 31 = 16 from by decide, u_e]
theorem nxS_x : ∃ f : Int32 → Int32, ∀ x, x * 1103515245 + 12345 = f x := ⟨fun x => x * 1103515245 + 12345, fun _ => rfl⟩
/-- the next seed, and what is drawn of it; chosen, that nothing reckons with them -/
noncomputable def nxS : Int32 → Int32 := Classical.choose nxS_x
theorem nxS_e (x : Int32) : x * 1103515245 + 12345 = nxS x := Classical.choose_spec nxS_x x
theorem skN_x : ∃ f : Int32 → Nat, ∀ x, f x < 65536 ∧ ush (nxS x) 16 = nI (f x) := ⟨fun x => Classical.choose (us_x (nxS x)), fun x => Classical.choose_spec (us_x (nxS x))⟩
noncomputable def skN : Int32 → Nat := Classical.choose skN_x
theorem sk_e (x : Int32) : ush (nxS x) 16 = nI (skN x) := (Classical.choose_spec skN_x x).2
theorem sk_lt (x : Int32) : skN x < 65536 := (Classical.choose_spec skN_x x).1
theorem c_below {n : Nat} (h0 : 0 < n) (hn : n < 2 ^ 31) {x : Int32} (e : h.1 185 13 = x) : X3_below N h 185 (nI n) = some (nI (skN x % n), wi h 185 13 (nxS x)) := by
  unfold X3_below
  rw [sq_eq, e, nxS_e, if_neg (show ¬ nI n ≤ 0 from nI_nle h0 hn), if_neg (nI_ne0 h0 hn), show (wi h 185 13 (nxS x)).1 185 13 = nxS x from wi_s _ _ _ _, sk_e, pk_rem (by have := sk_lt x; omega) h0 hn]
theorem r_below {n : Nat} (h0 : 0 < n) (hn : n < 2 ^ 31) {x : Int32} (e : h.1 237 50 = x) : X11_below N h 237 (nI n) = some (nI (skN x % n), wi h 237 50 (nxS x)) := by
  unfold X11_below
  rw [sq_eq, e, nxS_e, if_neg (nI_ne0 h0 hn), show (wi h 237 50 (nxS x)).1 237 50 = nxS x from wi_s _ _ _ _, sk_e, pk_rem (by have := sk_lt x; omega) h0 hn]
def dO (D : Nat → Nat) (S : NS) (K : Nat) (v : Int32) : NS := match dN D S K v with | none => S | some S' => S'
theorem c_dO (c : CNs h p D S) (w : WS D S) (hN : 100 ≤ N) {K : Nat} (hK : K < 5) (v : Int32) : ∃ r h', X3_does N h 185 (nI K) v = some (r, h') ∧ CNs h' p D (dO D S K v) ∧ CNf h h' := by
  unfold dO
  rcases c_does c w hN hK v with ⟨d1, d2⟩ | ⟨S', h', d1, d2, d3, d4⟩
  · rw [d1]; exact ⟨0, h, d2, c, CNf.refl h⟩
  · rw [d1]; exact ⟨1, h', d2, d3, d4⟩
theorem r_dO (c : RNs h q D S) (w : WS D S) (hN : 100 ≤ N) {K : Nat} (hK : K < 5) (v : Int32) : ∃ r h', X11_does N h 237 (nI K) v = some (r, h') ∧ RNs h' q D (dO D S K v) ∧ RNf h h' := by
  unfold dO
  rcases r_does c w hN hK v with ⟨d1, d2⟩ | ⟨S', h', d1, d2, d3, d4⟩
  · rw [d1]; exact ⟨0, h, d2, c, RNf.refl h⟩
  · rw [d1]; exact ⟨1, h', d2, d3, d4⟩
theorem w_dO (k : HK D) (w : WS D S) (h9 : S.1 9 < 100) {K : Nat} (hK : K < 5) (v : Int32) : WS D (dO D S K v) ∧ (dO D S K v).1 9 ≤ S.1 9 + 1 := by
  unfold dO
  cases hd : dN D S K v with
  | none => exact ⟨w, by show S.1 9 ≤ S.1 9 + 1; omega⟩
  | some S' =>
    obtain ⟨a1, a2, _⟩ := w_does k w h9 hK hd
    exact ⟨a1, by show S'.1 9 ≤ S.1 9 + 1; omega⟩
noncomputable def drw (D : Nat → Nat) (x : Int32) (S : NS) : Int32 × NS :=
  if skN x % 8 = 6 then (nxS x, dO D S 3 (-1)) else if skN x % 8 = 7 then (nxS x, dO D S 4 (-1)) else if D 2 = 0 then (nxS x, S) else if skN x % 8 = 5 then (nxS (nxS (nxS x)), dO D S (1 + skN (nxS x) % 2) (nI (skN (nxS (nxS x)) % D 2))) else (nxS (nxS x), dO D S 0 (nI (skN (nxS x) % D 2)))
theorem w_drw (k : HK D) (w : WS D S) (h9 : S.1 9 < 100) (x : Int32) : WS D (drw D x S).2 ∧ (drw D x S).2.1 9 ≤ S.1 9 + 1 := by
  unfold drw
  by_cases r6 : skN x % 8 = 6
  · rw [if_pos r6]; exact w_dO k w h9 (by decide) _
  rw [if_neg r6]
  by_cases r7 : skN x % 8 = 7
  · rw [if_pos r7]; exact w_dO k w h9 (by decide) _
  rw [if_neg r7]
  by_cases z : D 2 = 0
  · rw [if_pos z]; exact ⟨w, by show S.1 9 ≤ S.1 9 + 1; omega⟩
  rw [if_neg z]
  by_cases r5 : skN x % 8 = 5
  · rw [if_pos r5]; exact w_dO k w h9 (by omega) _
  · rw [if_neg r5]; exact w_dO k w h9 (by decide) _
theorem c_set13 (c : CNs h p D S) (x : Int32) : CNs (wi h 185 13 x) p D S := by
  obtain ⟨d1, d2, d3, d4, d5, d6, d7, d8, d9, d10, d11, d12, d13, d14, d15, d16, d17, d18, d19⟩ := c
  exact ⟨d1, KH_n (fun k hk => wi_k _ _ (by omega)) d2, d3, d4, d5, d6, d7, d8, d9, d10, d11, d12, d13, d14, d15, d16, d17, d18, d19⟩
theorem r_set50 (c : RNs h q D S) (x : Int32) : RNs (wi h 237 50 x) q D S := by
  obtain ⟨d1, d2, d3, d4, d5, d6, d7, d8, d9, d10, d11, d12, d13, d14, d15, d16⟩ := c
  exact ⟨RH_n (wi_k _ _ (by decide)) (fun j a1 a2 => wi_j _ _ (by omega)) d1, d2, d3, d4, d5, d6, d7, d8, d9, d10, d11, d12, d13, d14, d15, d16⟩
abbrev CNk (h h' : HS) : Prop := ∀ k, k ≠ 185 → k ≠ 196 → k ≠ 197 → h'.1 k = h.1 k
abbrev RNk (h h' : HS) : Prop := ∀ k, k ≠ 237 → k ≠ 253 → k ≠ 254 → k ≠ 255 → h'.1 k = h.1 k
theorem c_drw (c : CNs h p D S) (w : WS D S) (hN : 100 ≤ N) {x : Int32} (e : h.1 185 13 = x) : ∃ h', X3_drawDeed N h 185 = some h' ∧ CNs h' p D (drw D x S).2 ∧ h'.1 185 13 = (drw D x S).1 ∧ CNk h h' := by
  have hk := hk0 c.2.1.2.1
  have hm : skN x % 8 < 8 := Nat.mod_lt _ (by decide)
  unfold X3_drawDeed drw
  rw [show X3_below N h 185 8 = _ from c_below (n := 8) (by decide) (by decide) e, bd2_some]
  have c1 := c_set13 c (nxS x)
  have k1 : ∀ k, k ≠ 185 → (wi h 185 13 (nxS x)).1 k = h.1 k := fun k hk => wi_k _ _ hk
  have e1 : (wi h 185 13 (nxS x)).1 185 13 = nxS x := wi_s _ _ _ _
  generalize wi h 185 13 (nxS x) = h1 at c1 k1 e1 ⊢
  by_cases r6 : skN x % 8 = 6
  · obtain ⟨r, h2, a1, a2, a3⟩ := c_dO c1 w hN (K := 3) (by decide) (-1)
    rw [r6, if_pos (show nI 6 = 6 from rfl), show X3_does N h1 185 3 (-1) = _ from a1, bd2_some, if_pos rfl]
    exact ⟨h2, rfl, a2, by rw [a3.2]; exact e1, fun k b1 b2 b3 => (a3.1 k b1 b2 b3).trans (k1 k b1)⟩
  rw [if_neg (show ¬ nI (skN x % 8) = 6 from fun v => r6 ((nI_eq (b := 6) (by omega) (by decide)).mp v)), if_neg r6]
  by_cases r7 : skN x % 8 = 7
  · obtain ⟨r, h2, a1, a2, a3⟩ := c_dO c1 w hN (K := 4) (by decide) (-1)
    rw [r7, if_pos (show nI 7 = 7 from rfl), show X3_does N h1 185 4 (-1) = _ from a1, bd2_some, if_pos rfl]
    exact ⟨h2, rfl, a2, by rw [a3.2]; exact e1, fun k b1 b2 b3 => (a3.1 k b1 b2 b3).trans (k1 k b1)⟩
  rw [if_neg (show ¬ nI (skN x % 8) = 7 from fun v => r7 ((nI_eq (b := 7) (by omega) (by decide)).mp v)), if_neg r7, c1.1, ch2 c1.2.1]
  by_cases z : D 2 = 0
  · rw [z, if_pos (show nI 0 ≤ 0 by decide), if_pos rfl]
    exact ⟨h1, rfl, c1, e1, fun k b1 _ _ => k1 k b1⟩
  rw [if_neg (show ¬ nI (D 2) ≤ 0 from nI_nle (by omega) (by omega)), if_neg z]
  by_cases r5 : skN x % 8 = 5
  · rw [if_pos r5, r5, if_pos (show (5 : Int32) ≤ nI 5 by decide), show X3_below N h1 185 2 = _ from c_below (n := 2) (by decide) (by decide) e1, bd2_some]
    have hm2 : skN (nxS x) % 2 < 2 := Nat.mod_lt _ (by decide)
    have c2 := c_set13 c1 (nxS (nxS x))
    have k2 : ∀ k, k ≠ 185 → (wi h1 185 13 (nxS (nxS x))).1 k = h1.1 k := fun k hk => wi_k _ _ hk
    have e2 : (wi h1 185 13 (nxS (nxS x))).1 185 13 = nxS (nxS x) := wi_s _ _ _ _
    generalize wi h1 185 13 (nxS (nxS x)) = h2 at c2 k2 e2 ⊢
    rw [c2.1, ch2 c2.2.1, c_below (n := D 2) (by omega) (by omega) e2, bd2_some, bd2_some]
    have c3 := c_set13 c2 (nxS (nxS (nxS x)))
    have k3 : ∀ k, k ≠ 185 → (wi h2 185 13 (nxS (nxS (nxS x)))).1 k = h2.1 k := fun k hk => wi_k _ _ hk
    have e3 : (wi h2 185 13 (nxS (nxS (nxS x)))).1 185 13 = nxS (nxS (nxS x)) := wi_s _ _ _ _
    generalize wi h2 185 13 (nxS (nxS (nxS x))) = h3 at c3 k3 e3 ⊢
    obtain ⟨r, h4, a1, a2, a3⟩ := c_dO c3 w hN (K := 1 + skN (nxS x) % 2) (by omega) (nI (skN (nxS (nxS x)) % D 2))
    refine ⟨h4, ?_, a2, by rw [a3.2]; exact e3, fun k b1 b2 b3 => (a3.1 k b1 b2 b3).trans ((k3 k b1).trans ((k2 k b1).trans (k1 k b1)))⟩
    by_cases y : skN (nxS x) % 2 = 0
    · rw [y] at a1
      rw [y, if_pos (show nI 0 = 0 from rfl), show X3_does N h3 185 1 (nI (skN (nxS (nxS x)) % D 2)) = _ from a1, bd2_some]
    · have y1 : skN (nxS x) % 2 = 1 := by omega
      rw [y1] at a1
      rw [y1, if_neg (show ¬ nI 1 = 0 by decide), show X3_does N h3 185 2 (nI (skN (nxS (nxS x)) % D 2)) = _ from a1, bd2_some]
  · rw [if_neg r5, if_neg (show ¬ (5 : Int32) ≤ nI (skN x % 8) from nI_ge (b := 5) (by omega) (by decide)), c_below (n := D 2) (by omega) (by omega) e1, bd2_some]
    have c2 := c_set13 c1 (nxS (nxS x))
    have k2 : ∀ k, k ≠ 185 → (wi h1 185 13 (nxS (nxS x))).1 k = h1.1 k := fun k hk => wi_k _ _ hk
    have e2 : (wi h1 185 13 (nxS (nxS x))).1 185 13 = nxS (nxS x) := wi_s _ _ _ _
    generalize wi h1 185 13 (nxS (nxS x)) = h2 at c2 k2 e2 ⊢
    obtain ⟨r, h4, a1, a2, a3⟩ := c_dO c2 w hN (K := 0) (by decide) (nI (skN (nxS x) % D 2))
    refine ⟨h4, ?_, a2, by rw [a3.2]; exact e2, fun k b1 b2 b3 => (a3.1 k b1 b2 b3).trans ((k2 k b1).trans (k1 k b1))⟩
    rw [show X3_does N h2 185 0 (nI (skN (nxS x) % D 2)) = _ from a1, bd2_some]
theorem r_drw (c : RNs h q D S) (w : WS D S) (hN : 100 ≤ N) {x : Int32} (e : h.1 237 50 = x) : ∃ h', X11_draws N h 237 = some h' ∧ RNs h' q D (drw D x S).2 ∧ h'.1 237 50 = (drw D x S).1 ∧ RNk h h' := by
  have hk := hk0 c.1.1
  have hm : skN x % 8 < 8 := Nat.mod_lt _ (by decide)
  unfold X11_draws drw
  rw [show X11_below N h 237 8 = _ from r_below (n := 8) (by decide) (by decide) e, bd2_some]
  have c1 := r_set50 c (nxS x)
  have k1 : ∀ k, k ≠ 237 → (wi h 237 50 (nxS x)).1 k = h.1 k := fun k hk => wi_k _ _ hk
  have e1 : (wi h 237 50 (nxS x)).1 237 50 = nxS x := wi_s _ _ _ _
  generalize wi h 237 50 (nxS x) = h1 at c1 k1 e1 ⊢
  by_cases r6 : skN x % 8 = 6
  · obtain ⟨r, h2, a1, a2, a3⟩ := r_dO c1 w hN (K := 3) (by decide) (-1)
    rw [r6, if_neg (show ¬ nI 6 ≤ 5 by decide), show X11_does N h1 237 (nI 6 - 3) (-1) = _ from a1, bd2_some, if_pos rfl]
    exact ⟨h2, rfl, a2, by rw [a3.2.2.1]; exact e1, fun k b1 b2 b3 b4 => (a3.1 k b1 b2 b3 b4).trans (k1 k b1)⟩
  rw [if_neg r6]
  by_cases r7 : skN x % 8 = 7
  · obtain ⟨r, h2, a1, a2, a3⟩ := r_dO c1 w hN (K := 4) (by decide) (-1)
    rw [r7, if_neg (show ¬ nI 7 ≤ 5 by decide), show X11_does N h1 237 (nI 7 - 3) (-1) = _ from a1, bd2_some, if_pos rfl]
    exact ⟨h2, rfl, a2, by rw [a3.2.2.1]; exact e1, fun k b1 b2 b3 b4 => (a3.1 k b1 b2 b3 b4).trans (k1 k b1)⟩
  rw [if_neg r7, if_pos (show nI (skN x % 8) ≤ 5 from nI_le (b := 5) (by omega) (by decide)), rh2 c1.1]
  by_cases z : D 2 = 0
  · rw [z, if_pos (show nI 0 = 0 from rfl), if_pos rfl]
    exact ⟨h1, rfl, c1, e1, fun k b1 _ _ _ => k1 k b1⟩
  rw [if_neg (show ¬ nI (D 2) = 0 from nI_ne0 (by omega) (by omega)), if_neg z]
  by_cases r5 : skN x % 8 = 5
  · rw [if_pos r5, r5, if_pos (show nI 5 = 5 from rfl), show X11_below N h1 237 2 = _ from r_below (n := 2) (by decide) (by decide) e1, bd2_some]
    have hm2 : skN (nxS x) % 2 < 2 := Nat.mod_lt _ (by decide)
    have c2 := r_set50 c1 (nxS (nxS x))
    have k2 : ∀ k, k ≠ 237 → (wi h1 237 50 (nxS (nxS x))).1 k = h1.1 k := fun k hk => wi_k _ _ hk
    have e2 : (wi h1 237 50 (nxS (nxS x))).1 237 50 = nxS (nxS x) := wi_s _ _ _ _
    generalize wi h1 237 50 (nxS (nxS x)) = h2 at c2 k2 e2 ⊢
    rw [rh2 c2.1, r_below (n := D 2) (by omega) (by omega) e2, bd2_some, show (1 : Int32) + nI (skN (nxS x) % 2) = nI (1 + skN (nxS x) % 2) from nI_add 1 _]
    have c3 := r_set50 c2 (nxS (nxS (nxS x)))
    have k3 : ∀ k, k ≠ 237 → (wi h2 237 50 (nxS (nxS (nxS x)))).1 k = h2.1 k := fun k hk => wi_k _ _ hk
    have e3 : (wi h2 237 50 (nxS (nxS (nxS x)))).1 237 50 = nxS (nxS (nxS x)) := wi_s _ _ _ _
    generalize wi h2 237 50 (nxS (nxS (nxS x))) = h3 at c3 k3 e3 ⊢
    obtain ⟨r, h4, a1, a2, a3⟩ := r_dO c3 w hN (K := 1 + skN (nxS x) % 2) (by omega) (nI (skN (nxS (nxS x)) % D 2))
    rw [a1, bd2_some]
    exact ⟨h4, rfl, a2, by rw [a3.2.2.1]; exact e3, fun k b1 b2 b3 b4 => (a3.1 k b1 b2 b3 b4).trans ((k3 k b1).trans ((k2 k b1).trans (k1 k b1)))⟩
  · rw [if_neg r5, if_neg (show ¬ nI (skN x % 8) = 5 from fun v => r5 ((nI_eq (b := 5) (by omega) (by decide)).mp v)), r_below (n := D 2) (by omega) (by omega) e1, bd2_some]
    have c2 := r_set50 c1 (nxS (nxS x))
    have k2 : ∀ k, k ≠ 237 → (wi h1 237 50 (nxS (nxS x))).1 k = h1.1 k := fun k hk => wi_k _ _ hk
    have e2 : (wi h1 237 50 (nxS (nxS x))).1 237 50 = nxS (nxS x) := wi_s _ _ _ _
    generalize wi h1 237 50 (nxS (nxS x)) = h2 at c2 k2 e2 ⊢
    obtain ⟨r, h4, a1, a2, a3⟩ := r_dO c2 w hN (K := 0) (by decide) (nI (skN (nxS x) % D 2))
    rw [show X11_does N h2 237 0 (nI (skN (nxS x) % D 2)) = _ from a1, bd2_some]
    exact ⟨h4, rfl, a2, by rw [a3.2.2.1]; exact e2, fun k b1 b2 b3 b4 => (a3.1 k b1 b2 b3 b4).trans ((k2 k b1).trans (k1 k b1))⟩
noncomputable def drs (D : Nat → Nat) : Nat → Int32 → NS → NS
  | 0, _, S => S
  | r + 1, x, S => drs D r (drw D x S).1 (drw D x S).2
theorem w_drs (k : HK D) : ∀ (r : Nat) (x : Int32) (S : NS), WS D S → S.1 9 + r ≤ 100 → WS D (drs D r x S) := by
  intro r
  induction r with
  | zero => intro x S w _; exact w
  | succ r ih =>
    intro x S w h9
    obtain ⟨a1, a2⟩ := w_drw k w (show S.1 9 < 100 by omega) x
    rw [drs]
    exact ih _ _ a1 (by omega)
theorem c_drs (hN : 100 ≤ N) {n : Nat} (hn : n ≤ 60) : ∀ (r i fu : Nat) (h : HS) (x : Int32) (S : NS), i + r = n → r < fu → CNs h p D S → WS D S → S.1 9 + r ≤ 100 → h.1 185 13 = x → ∃ h', X3_draw_l13 N fu h 185 (nI n) (nI i) = some h' ∧ CNs h' p D (drs D r x S) ∧ CNk h h' := by
  intro r
  induction r with
  | zero =>
    intro i fu h x S e hf c w h9 ex
    obtain ⟨fu, rfl, _⟩ := fuel hf
    exact ⟨h, by rw [X3_draw_l13, if_pos (nI_le (by omega) (by omega))], c, fun _ _ _ _ => rfl⟩
  | succ r ih =>
    intro i fu h x S e hf c w h9 ex
    obtain ⟨fu, rfl, _⟩ := fuel hf
    obtain ⟨h1, a1, a2, a3, a4⟩ := c_drw (N := N) c w hN ex
    obtain ⟨b1, b2⟩ := w_drw c.2.1.2.1 w (show S.1 9 < 100 by omega) x
    obtain ⟨h2, d1, d2, d3⟩ := ih (i + 1) fu h1 (drw D x S).1 (drw D x S).2 (by omega) (by omega) a2 b1 (by omega) a3
    rw [drs]
    refine ⟨h2, ?_, d2, fun k x1 x2 x3 => (d3 k x1 x2 x3).trans (a4 k x1 x2 x3)⟩
    rw [X3_draw_l13, if_neg (nI_ge (by omega) (by omega)), a1, bd1_some, nI_1]
    exact d1
theorem r_drs (hN : 100 ≤ N) {n : Nat} (hn : n ≤ 60) (v : Int32) : ∀ (r i fu : Nat) (h : HS) (x : Int32) (S : NS), i + r = n → r < fu → RNs h q D S → WS D S → S.1 9 + r ≤ 100 → h.1 237 50 = x → ∃ h', X11_drawn_l33 N fu h 237 (nI n) v (nI i) = some (loV D (drs D r x S) v, h') ∧ RNk h h' := by
  intro r
  induction r with
  | zero =>
    intro i fu h x S e hf c w h9 ex
    obtain ⟨fu, rfl, _⟩ := fuel hf
    exact ⟨h, by rw [X11_drawn_l33, if_pos (nI_le (by omega) (by omega)), r_nowOf c w hN, bd1_some, drs], fun _ _ _ _ _ => rfl⟩
  | succ r ih =>
    intro i fu h x S e hf c w h9 ex
    obtain ⟨fu, rfl, _⟩ := fuel hf
    obtain ⟨h1, a1, a2, a3, a4⟩ := r_drw (N := N) c w hN ex
    obtain ⟨b1, b2⟩ := w_drw c.1.1 w (show S.1 9 < 100 by omega) x
    obtain ⟨h2, d1, d3⟩ := ih (i + 1) fu h1 (drw D x S).1 (drw D x S).2 (by omega) (by omega) a2 b1 (by omega) a3
    rw [drs]
    refine ⟨h2, ?_, fun k x1 x2 x3 x4 => (d3 k x1 x2 x3 x4).trans (a4 k x1 x2 x3 x4)⟩
    rw [X11_drawn_l33, if_neg (nI_ge (by omega) (by omega)), a1, bd1_some, nI_1]
    exact d1
theorem q_drawn {N : Nat} {h : HS} (I : INV h) (hN : 100 ≤ N) (a b d e : Int32) : ∃ r h1 h2, X10_drawn N h 1 a b d e = some (r, h1) ∧ X11_drawn N h1 237 a b d e = some (r, h2) ∧ Same h h2 := by
  unfold X10_drawn X11_drawn
  rcases opn (N := N) I a with ⟨e1, e2⟩ | ⟨p, q, D, e1, hp, c, e2⟩
  · exact ⟨-2, h, h, by rw [e1]; rfl, by rw [e2 h (Same.refl h)]; rfl, Same.refl h⟩
  · rw [e1, bd1_some, if_neg hp]
    rcases i_cases d with z | ⟨n, hn, rfl⟩
    · obtain ⟨h2, e3, rh, sm, _⟩ := e2 h (Same.refl h)
      exact ⟨-2, h, h2, by rw [if_pos z], by rw [e3, bd2_some, if_neg one0, r_isIn, bd1_some, inneg z]; rfl, sm⟩
    · rw [if_neg (nI_pos hn)]
      by_cases z : n ≤ 60
      · rw [if_pos (show nI n ≤ 60 from nI_le (b := 60) z (by decide))]
        obtain ⟨h1, a1, a2, a3⟩ := c_enterN (N := N) c hN
        obtain ⟨h3, b1, b2, b3⟩ := c_drs (N := N) (p := p) (D := D) hN z n 0 N (wi h1 185 13 b) b (S0 D) (by omega) (by omega) (c_set13 a2 b) (w_S0 c.2.1) (by show 0 + n ≤ 100; omega) (wi_s _ _ _ _)
        have sm1 : Same h h3 := fun k hk => (b3 k (by omega) (by omega) (by omega)).trans ((wi_k _ _ (by omega)).trans (a3 k (by omega) (by omega) (by omega)))
        obtain ⟨h4, e3, rh, sm, _⟩ := e2 h3 sm1
        obtain ⟨h5, f1, f2, f3, f4⟩ := r_beginsN (N := N) (h := wi h4 237 50 b) (q := q) (D := D) (RH_n (wi_k _ _ (by decide)) (fun j c1 c2 => wi_j _ _ (by omega)) rh) hN
        obtain ⟨h6, g1, g2⟩ := r_drs (N := N) (q := q) (D := D) hN z e n 0 N h5 b (S0 D) (by omega) (by omega) f2 (w_S0 c.2.1) (by show 0 + n ≤ 100; omega) (by rw [f3.2.2]; exact wi_s _ _ _ _)
        have ww := w_drs c.2.1 n b (S0 D) (w_S0 c.2.1) (by show 0 + n ≤ 100; omega)
        refine ⟨loV D (drs D n b (S0 D)) e, h3, h6, ?_, ?_, ?_⟩
        · unfold X3_draw
          rw [show X3_enter N h (1 + 184) p = _ from a1, bd1_some, sq_eq, show X3_draw_l13 N N (wi h1 (1 + 184) 13 b) (1 + 184) (nI n) 0 = _ from b1, bd1_some, show X3_look N h3 (1 + 184) e = _ from c_look b2 ww e, bd1_some]
        · rw [e3, bd2_some, if_neg one0, r_isIn, bd1_some, nB_t (show 0 ≤ nI n ∧ nI n ≤ 60 from ⟨nI_pos' hn, nI_le (b := 60) z (by decide)⟩), if_neg one0, sq_eq, f1, bd1_some]
          exact g1
        · exact Same.trans sm (fun k hk => (g2 k (by omega) (by omega) (by omega) (by omega)).trans ((f3.1 k (by omega) (by omega) (by omega) (by omega)).trans (wi_k _ _ (by omega))))
      · obtain ⟨h2, e3, rh, sm, _⟩ := e2 h (Same.refl h)
        have nz : ¬ nI n ≤ 60 := nI_ge (a := 60) (by omega) hn
        exact ⟨-2, h, h2, by rw [if_neg nz], by rw [e3, bd2_some, if_neg one0, r_isIn, bd1_some, nB_f (fun w => nz w.2)]; rfl, sm⟩
end DRA
