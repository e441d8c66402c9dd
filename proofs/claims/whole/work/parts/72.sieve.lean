/-! ===== level 2: the class looks ahead ===== -/
theorem ln182 : ln (171 + 11) = 6 := by decide +kernel
theorem ln183 : ln (171 + 12) = 8 := by decide +kernel
theorem ln184 : ln (171 + 13) = 9 := by decide +kernel
def okC (D : Nat → Nat) (sg : Nat) (s b : Nat) : Bool := decide (s < sg ∧ (s = D 2 ∨ (s < D 2 ∧ zre D s (D (17 + 4 * b)) 0)))
theorem okC_iff {D : Nat → Nat} {sg s b : Nat} : okC D sg s b = true ↔ s < sg ∧ (s = D 2 ∨ (s < D 2 ∧ zre D s (D (17 + 4 * b)) 0)) := by
  unfold okC; exact decide_eq_true_iff
/-- the class has its house and its bars -/
def KC (h : HS) (p : Nat) (D : Nat → Nat) (m sg : Nat) : Prop := h.2 171 = p ∧ KH h p D ∧ m ≤ D 1 ∧ h.1 171 1 = nI m ∧ h.1 171 2 = nI sg ∧ sg ≤ 6 ∧ sg ≤ D 2 + 1
def CF (h h' : HS) : Prop := (∀ k, k ≠ 171 → k ≠ 182 → k ≠ 183 → k ≠ 184 → h'.1 k = h.1 k) ∧ (∀ k, k ≠ 171 → h'.2 k = h.2 k)
theorem CF.refl (h : HS) : CF h h := ⟨fun _ _ _ _ _ => rfl, fun _ _ => rfl⟩
theorem CF.trans {a b c : HS} (x : CF a b) (y : CF b c) : CF a c := ⟨fun k h1 h2 h3 h4 => (y.1 k h1 h2 h3 h4).trans (x.1 k h1 h2 h3 h4), fun k h1 => (y.2 k h1).trans (x.2 k h1)⟩
theorem CF_same {h h' : HS} (f : CF h h') : Same h h' := fun k hk => f.1 k (by omega) (by omega) (by omega) (by omega)
theorem CF_w {h : HS} {k j : Nat} (x : Int32) (e : k = 171 ∨ k = 182 ∨ k = 183 ∨ k = 184) : CF h (wi h k j x) := ⟨fun a h1 h2 h3 h4 => wi_k _ _ (by omega), fun _ _ => rfl⟩
theorem CF_kh {h h' : HS} (f : CF h h') {p : Nat} {D : Nat → Nat} (c : KH h p D) : KH h' p D := KH_same (CF_same f) c
theorem KC_w {h : HS} {p : Nat} {D : Nat → Nat} {m sg k j : Nat} (x : Int32) (e : k = 182 ∨ k = 183 ∨ k = 184) (c : KC h p D m sg) : KC (wi h k j x) p D m sg := by
  obtain ⟨c1, c2, c3, c4, c5, c6⟩ := c
  refine ⟨c1, CF_kh (CF_w x (by omega)) c2, c3, ?_, ?_, c6⟩
  · rw [wi_k _ _ (by omega)]; exact c4
  · rw [wi_k _ _ (by omega)]; exact c5
/-- without the bit s -/
def clr (o s : Nat) : Nat := o &&& (127 - 2 ^ s)
theorem clr_e : ∀ o, o < 128 → ∀ s, s < 7 → nI o &&& (((1 : Int32) <<< (nI s &&& 31)) ^^^ (-1)) = nI (clr o s) := by decide +kernel
theorem clr_lt : ∀ o, o < 128 → ∀ s, s < 7 → clr o s < 128 := by decide +kernel
theorem clr_b : ∀ o, o < 128 → ∀ s, s < 7 → ∀ t, t < 7 → (clr o s).testBit t = (o.testBit t && !decide (t = s)) := by decide +kernel
theorem clr_0 : ∀ o, o < 128 → ∀ s, s < 7 → clr o s = 0 ∨ (List.range 7).any (fun t => o.testBit t && !decide (t = s)) = true := by decide +kernel
theorem b127 : ∀ t, t < 7 → (127 : Nat).testBit t = true := by decide
theorem o_ne {o t : Nat} (h : o.testBit t = true) : o ≠ 0 := by
  intro e
  rw [e, Nat.zero_testBit] at h
  exact Bool.noConfusion h
theorem clr_0' {o s : Nat} (ho : o < 128) (hs : s < 7) : clr o s = 0 ↔ ¬ ∃ t, t < 7 ∧ t ≠ s ∧ o.testBit t = true := by
  constructor
  · rintro e ⟨t, h1, h2, h3⟩
    have := clr_b o ho s hs t h1
    rw [e, Nat.zero_testBit, h3] at this
    simp [h2] at this
  · intro h
    rcases clr_0 o ho s hs with z | z
    · exact z
    · exfalso
      obtain ⟨t, h1, h2⟩ := List.any_eq_true.mp z
      have h3 := List.mem_range.mp h1
      simp at h2
      exact h ⟨t, h3, h2.2, h2.1⟩
section SV2
variable {N : Nat} {p : Nat} {D : Nat → Nat} {m sg : Nat}
theorem c_canTake {h : HS} (c : KC h p D m sg) {left : Nat → Nat} (hl : ∀ s, s < sg → left s ≤ 1000 ∧ h.1 182 s = nI (left s)) {s b : Nat} (hs : s < 7) (hb : b < D 1) : X5_canTake N h 171 (nI s) (nI b) = some (nB (okC D sg s b = true ∧ lenD D b ≤ left s)) := by
  obtain ⟨c1, c2, c3, c4, c5, c6, c7⟩ := c
  have hP := c2.1
  have hk := hk0 c2.2.1
  have hB := hkB c2.2.1 hb
  have key : ∀ u : Int32, u = nB (s = D 2) → X5_canTake_b16 N h 171 (nI s) (nI b) u = some (nB (okC D sg s b = true ∧ lenD D b ≤ left s)) := by
    intro u hu
    unfold X5_canTake_b16
    rw [c5, c1]
    by_cases z : s < sg
    · obtain ⟨l1, l2⟩ := hl s z
      rw [if_neg (nI_ge z (by omega)), at_in ln182 (by decide) (by omega), bd1_some, at_in hP.2.2.2.1 (by decide) (by omega), bd1_some, show h.1 (171 + 11) s = _ from l2, chLe c2 hb]
      have e : (nI (left s) < nI (D (18 + 4 * b))) = (left s < lenD D b) := by
        apply propext
        unfold lenD
        exact nI_ltI (by omega) (by omega)
      simp only [e]
      by_cases y : left s < lenD D b
      · rw [if_pos y, nB_f (fun w => by omega)]; rfl
      · rw [if_neg y, hu]
        simp only [nB_0]
        by_cases x : s = D 2
        · rw [if_neg (fun w => w x), nB_t ⟨okC_iff.mpr ⟨z, Or.inl x⟩, by omega⟩]; rfl
        · rw [if_pos x, at_in hP.2.2.1 (by decide) (by omega), bd1_some, chNo c2 hb, (c_reaches c2 (by omega) (by omega)).1, bd1_some]
          simp only [nB_0]
          by_cases w : s < D 2 ∧ zre D s (D (17 + 4 * b)) 0
          · rw [if_neg (fun v => v w), nB_t ⟨okC_iff.mpr ⟨z, Or.inr w⟩, by omega⟩]; rfl
          · rw [if_pos w, nB_f (fun v => by
              rcases (okC_iff.mp v.1).2 with r | r
              · exact x r
              · exact w r)]; rfl
    · rw [if_pos (nI_le (by omega) (by omega)), nB_f (fun w => z (okC_iff.mp w.1).1)]; rfl
  unfold X5_canTake
  rw [c1, ch2 c2]
  by_cases z : s = D 2
  · rw [if_pos (by rw [z])]; exact key 1 (by rw [nB_t z])
  · rw [if_neg (fun w => z ((nI_eq (by omega) (by omega)).mp w))]; exact key 0 (by rw [nB_f z])
/-- what is set at last for a bar -/
abbrev FB (D : Nat → Nat) (sg : Nat) (left : Nat → Nat) (b o0 o1 t : Nat) : Prop := o0.testBit t = true ∧ okC D sg t b = true ∧ lenD D b ≤ left t ∧ ∃ u, u < 7 ∧ u ≠ t ∧ o1.testBit u = true
theorem c_l107 {left : Nat → Nat} {b o0 o1 : Nat} (hb : b < m) (ho1 : o1 < 128) (K : HS → Nat → Int32 → Int32 → Option (Int32 × HS)) (v2 : Int32) : ∀ (r s fu : Nat) (h : HS) (o : Nat), s + r = 7 → r < fu → KC h p D m sg → (∀ s, s < sg → left s ≤ 1000 ∧ h.1 182 s = nI (left s)) → h.1 184 (b + 1) = nI o1 → h.1 184 b = nI o → o < 128 →
    (∀ t, t < s → (o.testBit t = true ↔ FB D sg left b o0 o1 t)) → (∀ t, s ≤ t → t < 7 → o.testBit t = o0.testBit t) →
    ∃ h' o', X5_prepares_l107 N K fu h 171 v2 (nI b) 1 (nI s) = K h' 171 v2 (nI b + (-1)) ∧ (∀ k, k ≠ 184 → h'.1 k = h.1 k) ∧ (∀ i, i ≠ b → h'.1 184 i = h.1 184 i) ∧ h'.2 = h.2 ∧ h'.1 184 b = nI o' ∧ o' < 128 ∧ ∀ t, t < 7 → (o'.testBit t = true ↔ FB D sg left b o0 o1 t) := by
  intro r
  induction r with
  | zero =>
    intro s fu h o e hf c hl e1 e0 ho hlt hge
    obtain ⟨fu, rfl, _⟩ := fuel hf
    have : s = 7 := by omega
    subst this
    refine ⟨h, o, ?_, fun _ _ => rfl, fun _ _ => rfl, rfl, e0, ho, fun t ht => hlt t ht⟩
    rw [X5_prepares_l107, if_neg (by decide), if_pos (by decide)]
  | succ r ih =>
    intro s fu h o e hf c hl e1 e0 ho hlt hge
    obtain ⟨fu, rfl, _⟩ := fuel hf
    have hk := hk0 c.2.1.2.1
    have hm := c.2.2.1
    have clear : ¬ FB D sg left b o0 o1 s → ∃ h' o', X5_prepares_l107 N K fu (wi h (171 + 13) b (nI (clr o s))) 171 v2 (nI b) 1 (nI (s + 1)) = K h' 171 v2 (nI b + (-1)) ∧ (∀ k, k ≠ 184 → h'.1 k = h.1 k) ∧ (∀ i, i ≠ b → h'.1 184 i = h.1 184 i) ∧ h'.2 = h.2 ∧ h'.1 184 b = nI o' ∧ o' < 128 ∧ ∀ t, t < 7 → (o'.testBit t = true ↔ FB D sg left b o0 o1 t) := by
      intro nf
      obtain ⟨h', o', a1, a2, a3, a4, a5⟩ := ih (s + 1) fu (wi h (171 + 13) b (nI (clr o s))) (clr o s) (by omega) (by omega) (KC_w _ (by omega) c) (by rw [wi_k _ _ (by decide)]; exact hl) (by rw [show (171 + 13 : Nat) = 184 from rfl, wi_j _ _ (by omega)]; exact e1) (wi_s _ _ _ _) (clr_lt o ho s (by omega)) (by
        intro t ht
        rw [clr_b o ho s (by omega) t (by omega)]
        by_cases y : t = s
        · subst y
          simp only [decide_true, Bool.not_true, Bool.and_false]
          exact ⟨fun w => Bool.noConfusion w, fun w => absurd w nf⟩
        · simp only [y, decide_false, Bool.not_false, Bool.and_true]
          exact hlt t (by omega)) (by
        intro t h1 h2
        rw [clr_b o ho s (by omega) t h2, hge t (by omega) h2]
        simp [show ¬ t = s by omega])
      refine ⟨h', o', a1, fun k hk => ?_, fun i hi => ?_, a4, a5⟩
      · rw [a2 k hk, wi_k _ _ hk]
      · rw [a3 i hi, show (171 + 13 : Nat) = 184 from rfl, wi_j _ _ hi]
    rw [X5_prepares_l107, if_neg (by decide), if_neg (show ¬ (6 : Int32) < nI s from nI_nlt (a := 6) (by omega) (by decide)), c_canTake c hl (by omega) (by omega), bd1_some]
    simp only [nB_0]
    by_cases z : okC D sg s b = true ∧ lenD D b ≤ left s
    · rw [if_neg (fun w => w z), nI_1, if_neg (nI_in (by omega) (by decide)), nI_clamp (by omega), show h.1 (171 + 13) (b + 1) = _ from e1, clr_e o1 ho1 s (by omega)]
      have hc := clr_lt o1 ho1 s (by omega)
      by_cases y : clr o1 s = 0
      · rw [if_pos (by rw [y]; rfl), if_neg (nI_in (by omega) (by decide)), if_neg (nI_in (by omega) (by decide)), sq_eq, nI_clamp (by omega), show h.1 (171 + 13) b = _ from e0, clr_e o ho s (by omega), nI_1]
        exact clear (fun w => (clr_0' ho1 (by omega)).mp y w.2.2.2)
      · rw [if_neg (nI_ne0 (by omega) (by omega)), nI_1]
        have hex : ∃ u, u < 7 ∧ u ≠ s ∧ o1.testBit u = true := Classical.not_not.mp (fun w => y ((clr_0' ho1 (by omega)).mpr w))
        exact ih (s + 1) fu h o (by omega) (by omega) c hl e1 e0 ho (by
          intro t ht
          by_cases x : t = s
          · subst x
            rw [hge t (by omega) (by omega)]
            exact ⟨fun w => ⟨w, z.1, z.2, hex⟩, fun w => w.1⟩
          · exact hlt t (by omega)) (fun t h1 h2 => hge t (by omega) h2)
    · rw [if_pos z, if_neg (nI_in (by omega) (by decide)), if_neg (nI_in (by omega) (by decide)), sq_eq, nI_clamp (by omega), show h.1 (171 + 13) b = _ from e0, clr_e o ho s (by omega), nI_1]
      exact clear (fun w => z ⟨w.2.1, w.2.2.1⟩)
abbrev LC (D : Nat → Nat) (sg m : Nat) (b : Nat) (left : Nat → Nat) (prev : Nat) : List (List Nat) := CL (ord D) (lenD D) (okC D sg) (ctn D m - ctn D b) (ctn D b) left prev
/-- what may come at a bar: told by its bits -/
def PO (D : Nat → Nat) (sg m : Nat) (left : Nat → Nat) (b o : Nat) : Prop := ∀ (left' : Nat → Nat) (prev : Nat), (∀ s, s < 6 → left' s ≤ left s) → LC D sg m b left' prev ≠ [] → ∃ t, t < 7 ∧ o.testBit t = true ∧ (t ≠ prev ∨ ¬ (0 < b ∧ ¬ D (17 + 4 * (b - 1)) = 0))
def QO (D : Nat → Nat) (sg m : Nat) (left : Nat → Nat) (b o : Nat) : Prop := b < m → ¬ D (17 + 4 * b) = 0 → ∀ s, s < 6 → (o.testBit s = true → okC D sg s b = true) ∧
  (¬ o.testBit s = true → ¬ (okC D sg s b = true ∧ lenD D b ≤ left s) ∨ ∀ left', (∀ s, s < 6 → left' s ≤ left s) → LC D sg m (b + 1) left' s = [])
theorem PO_127 {left : Nat → Nat} (b : Nat) : PO D sg m left b 127 := by
  intro left' prev _ _
  by_cases z : prev = 6
  · exact ⟨5, by decide, by decide, Or.inl (by omega)⟩
  · exact ⟨6, by decide, by decide, Or.inl (fun w => z w.symm)⟩
theorem LC_note {b : Nat} (hb : b < m) (hm : m ≤ 8) (hn : ¬ D (17 + 4 * b) = 0) (left : Nat → Nat) (prev : Nat) : LC D sg m b left prev = (List.range' 0 6).flatMap (fun s => if okC D sg s b = true ∧ lenD D b ≤ left s ∧ ¬ ((0 < b ∧ ¬ D (17 + 4 * (b - 1)) = 0) ∧ s = prev) then (LC D sg m (b + 1) (sb1 left s (lenD D b)) s).map (fun x => s :: x) else []) := by
  have e1 := ct_note hn
  have e2 := ct_mono (D := D) (show b + 1 ≤ m by omega)
  have e3 := ord_ct (D := D) (b := b) (by omega) hn
  have e4 := ord_adj (D := D) (b := b) (by omega) hn
  show CL _ _ _ (ctn D m - ctn D b) _ _ _ = _
  rw [show ctn D m - ctn D b = (ctn D m - ctn D (b + 1)) + 1 by omega, CL]
  simp only [e3]
  apply fm_congr
  intro s _
  rw [e1]
  have e5 : (okC D sg s b = true ∧ lenD D b ≤ left s ∧ ¬ (adj (ord D) (ctn D b) ∧ s = prev)) ↔ (okC D sg s b = true ∧ lenD D b ≤ left s ∧ ¬ ((0 < b ∧ ¬ D (17 + 4 * (b - 1)) = 0) ∧ s = prev)) := by rw [e4]
  by_cases z : okC D sg s b = true ∧ lenD D b ≤ left s ∧ ¬ (adj (ord D) (ctn D b) ∧ s = prev)
  · rw [if_pos z, if_pos (e5.mp z)]
    show _ = List.map _ (CL (ord D) (lenD D) (okC D sg) (ctn D m - ctn D (b + 1)) (ctn D (b + 1)) _ _)
    rw [e1]
  · rw [if_neg z, if_neg (fun w => z (e5.mpr w))]
theorem LC_rest {b : Nat} (hn : D (17 + 4 * b) = 0) (left : Nat → Nat) (prev : Nat) : LC D sg m b left prev = LC D sg m (b + 1) left prev := by
  show CL _ _ _ _ _ _ _ = CL _ _ _ _ _ _ _
  rw [ct_rest hn]
theorem LC_end (left : Nat → Nat) (prev : Nat) : LC D sg m m left prev = [[]] := by
  show CL _ _ _ _ _ _ _ = _
  rw [Nat.sub_self]
  rfl
theorem sb1_le {left left' : Nat → Nat} (h : ∀ s, s < 6 → left' s ≤ left s) (t l : Nat) : ∀ s, s < 6 → sb1 left' t l s ≤ left s := by
  intro s hs
  have := h s hs
  unfold sb1
  by_cases e : s = t
  · rw [if_pos e]; omega
  · rw [if_neg e]; omega
/-- how long the bars are, one level after another -/
def tk (D : Nat → Nat) : Nat → Nat
  | 0 => 0
  | k + 1 => tk D k + lenD D (ord D k)
theorem tk_mono (D : Nat → Nat) (a : Nat) : ∀ r, tk D a ≤ tk D (a + r) := by
  intro r
  induction r with
  | zero => exact Nat.le_refl _
  | succ r ih => rw [← Nat.add_assoc, tk]; omega
def sm (f : Nat → Nat) : Nat → Nat
  | 0 => 0
  | n + 1 => sm f n + f n
theorem sm_le {f g : Nat → Nat} : ∀ n, (∀ i, i < n → f i ≤ g i) → sm f n ≤ sm g n := by
  intro n
  induction n with
  | zero => intro _; exact Nat.le_refl _
  | succ n ih => intro h; rw [sm, sm]; have := ih (fun i hi => h i (by omega)); have := h n (by omega); omega
theorem sm_one (l : Nat) (f : Nat → Nat) : ∀ n c, sm (fun s => (if c = s then l else 0) + f s) n = (if c < n then l else 0) + sm f n := by
  intro n
  induction n with
  | zero => intro c; rfl
  | succ n ih =>
    intro c
    rw [sm, ih, sm]
    by_cases z : c < n
    · rw [if_pos z, if_neg (by omega), if_pos (by omega)]; omega
    · by_cases y : c = n
      · rw [if_neg z, if_pos y, if_pos (by omega)]; omega
      · rw [if_neg z, if_neg y, if_neg (by omega)]; omega
theorem sum_us (D : Nat → Nat) (sg : Nat) : ∀ (x : List Nat) (k : Nat), (∀ c ∈ x, c < sg) → sm (fun s => us (ord D) (lenD D) s k x) sg + tk D k = tk D (k + x.length) := by
  intro x
  induction x with
  | nil =>
    intro k _
    have : ∀ n, sm (fun s => us (ord D) (lenD D) s k []) n = 0 := by
      intro n
      induction n with
      | zero => rfl
      | succ n ih => rw [sm, ih]; rfl
    rw [this]
    simp
  | cons c x ih =>
    intro k h
    have e : (fun s => us (ord D) (lenD D) s k (c :: x)) = (fun s => (if c = s then lenD D (ord D k) else 0) + us (ord D) (lenD D) s (k + 1) x) := by funext s; rfl
    have := ih (k + 1) (fun d hd => h d (by simp [hd]))
    rw [e, sm_one, if_pos (h c (by simp)), List.length_cons, show k + (x.length + 1) = k + 1 + x.length by omega, ← this, tk]
    omega
theorem CL_ok {ord len : Nat → Nat} {ok : Nat → Nat → Bool} : ∀ (r k : Nat) (left : Nat → Nat) (prev : Nat) (x : List Nat), x ∈ CL ord len ok r k left prev → ∀ s ∈ x, ∃ b, ok s b = true := by
  intro r
  induction r with
  | zero =>
    intro k left prev x hx
    simp only [CL, List.mem_singleton] at hx
    subst hx
    exact fun s hs => absurd hs (List.not_mem_nil)
  | succ r ih =>
    intro k left prev x hx
    simp only [CL] at hx
    obtain ⟨s, hs, hx⟩ := List.mem_flatMap.mp hx
    by_cases c : ok s (ord k) = true ∧ len (ord k) ≤ left s ∧ ¬ (adj ord k ∧ s = prev)
    · rw [if_pos c] at hx
      obtain ⟨y, hy, rfl⟩ := List.mem_map.mp hx
      intro t ht
      rcases List.mem_cons.mp ht with rfl | ht
      · exact ⟨_, c.1⟩
      · exact ih _ _ _ y hy t ht
    · rw [if_neg c] at hx
      exact absurd hx (List.not_mem_nil)
/-- if there is a rota, there is breath enough for it -/
theorem CL_tot {left : Nat → Nat} (h6 : sg ≤ 6) (h : LC D sg m 0 left 9 ≠ []) : tk D (ctn D m) ≤ sm left sg := by
  obtain ⟨x, hx⟩ := List.exists_mem_of_ne_nil _ h
  rw [show LC D sg m 0 left 9 = CL (ord D) (lenD D) (okC D sg) (ctn D m) 0 left 9 from rfl] at hx
  have hlen := (CL_len _ _ _ _ x hx).1
  have huse := CL_use _ _ _ _ x hx
  have hok := CL_ok _ _ _ _ x hx
  have e := sum_us D sg x 0 (fun c hc => by obtain ⟨b, hb⟩ := hok c hc; exact (okC_iff.mp hb).1)
  rw [hlen, Nat.zero_add] at e
  have := sm_le sg (fun i hi => huse i (by omega))
  have t0 : tk D 0 = 0 := rfl
  omega
end SV2
