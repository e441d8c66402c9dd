/-! ===== level 2: text: lines; the class's line ===== -/
abbrev blm (x : Nat × Int32) (ok : Bool) (kind p : Nat) : Nat × Int32 := if (ok || decide (x.1 ≠ 0)) = true then x else (kind, nI p)
abbrev PSt : Type := (Nat × (Nat × Int32)) ⊕ Nat
def nmO (t : Nat → Nat) (z : Nat) (ok : Bool) : PSt → PSt
  | .inl (p, x) => if tkc t z p = 2 then .inl (nxt t z p, blm x ok 2 p) else .inr p
  | .inr y => .inr y
def enS (t : Nat → Nat) (z : Nat) : PSt → PSt
  | .inl (p, x) => if tkc t z p = 3 then .inl (nxt t z p, x) else .inr p
  | .inr y => .inr y
def nxi (t : Nat → Nat) (z : Nat) : Nat → Nat → Nat
  | 0, p => p
  | i + 1, p => nxt t z (nxi t z i p)
def psR (t : Nat → Nat) (z : Nat) (ok : Nat → Bool) : Nat → Nat → PSt → PSt
  | 0, _, st => st
  | r + 1, i, st => psR t z ok r (i + 1) (nmO t z (ok i) st)
def nNum (k : Nat) : Nat := [2, 4, 3, 1, 1, 1, 1, 1, 0, 0, 1, 1].getD k 0
def nLo (k i : Nat) : Nat := [0, 1, 0, 0, 0, 1, 0, 0, 1, 1, 1].getD (4 * k + i) 0
def nHi (k i : Nat) : Nat := [20, 9, 0, 0, 9, 4, 5, 10, 9, 9, 20, 0, 9, 0, 0, 0, 7, 0, 0, 0, 4, 0, 0, 0, 4, 0, 0, 0, 4, 0, 0, 0, 0, 0, 0, 0, 0, 0, 0, 0, 5, 0, 0, 0, 5, 0, 0, 0].getD (4 * k + i) 0
def okc (k : Nat) (nv : Nat → Nat) (i : Nat) : Bool := decide (nLo k i ≤ nv i) && decide (nv i ≤ nHi k i) && (decide (¬ (k = 2 ∧ i = 1)) || decide (nv 0 ≤ nv 1))
def LRes (st : PSt) (A : Nat → Prop) (B : Nat → Nat × Int32 → Prop) : Prop := match st with
  | .inr y => A y
  | .inl (p, x) => B p x
theorem LRes_inr {y : Nat} {A : Nat → Prop} {B : Nat → Nat × Int32 → Prop} (h : A y) : LRes (.inr y) A B := h
theorem LRes_inl {p : Nat} {x : Nat × Int32} {A : Nat → Prop} {B : Nat → Nat × Int32 → Prop} (h : B p x) : LRes (.inl (p, x)) A B := h
theorem psR_inr {t : Nat → Nat} {z : Nat} {ok : Nat → Bool} : ∀ r i y, psR t z ok r i (.inr y) = .inr y := by
  intro r
  induction r with
  | zero => intro i y; rfl
  | succ r ih => intro i y; rw [psR, nmO]; exact ih (i + 1) y
theorem bd1_id {α : Type} (x : Option α) : (bd1 x fun a => some a) = x := by cases x <;> rfl
theorem nNum_e : ∀ k, k < 12 → stA 0 (nI k) = nI (nNum k) ∧ nNum k ≤ 4 := by decide +kernel
theorem nLo_e : ∀ k, k < 12 → ∀ i, i < 4 → stA 1 (nI k * 4 + nI i) = nI (nLo k i) ∧ stA 2 (nI k * 4 + nI i) = nI (nHi k i) ∧ nLo k i ≤ 1 ∧ nHi k i ≤ 20 := by decide +kernel
theorem ln170 : ln 170 = 4 := by decide +kernel
def wAl (t : Nat → Nat) (s k : Nat) : Nat → Nat → Bool
  | 0, _ => true
  | r + 1, i => decide (t (s + i) = wCh k i) && wAl t s k r (i + 1)
theorem wAl_iff {t : Nat → Nat} {s k : Nat} : ∀ r i, wAl t s k r i = true ↔ ∀ j, i ≤ j → j < i + r → t (s + j) = wCh k j := by
  intro r
  induction r with
  | zero => intro i; exact ⟨fun _ j h1 h2 => by omega, fun _ => rfl⟩
  | succ r ih =>
    intro i
    rw [wAl, Bool.and_eq_true, decide_eq_true_iff, ih]
    constructor
    · rintro ⟨a, b⟩ j h1 h2
      by_cases e : j = i
      · rw [e]; exact a
      · exact b j (by omega) (by omega)
    · intro f
      exact ⟨f i (Nat.le_refl _) (by omega), fun j h1 h2 => f j (by omega) (by omega)⟩
section CLN
variable {N : Nat} {h : HS} {t : Nat → Nat} {z : Nat}
theorem nxi_le {p : Nat} (hp : p ≤ z) : ∀ i, nxi t z i p ≤ z := by
  intro i
  induction i with
  | zero => exact hp
  | succ i ih => rw [nxi]; exact (nxt_le ih).2
def CSt (h : HS) (t : Nat → Nat) (z p : Nat) (x : Nat × Int32) : Prop := CTok h t z p ∧ h.1 156 2 = nI x.1 ∧ h.1 156 3 = x.2 ∧ x.1 ≤ 3
def CBr (h : HS) (y : Nat) : Prop := h.1 156 2 = 1 ∧ h.1 156 3 = nI y
def TNf (h h' : HS) : Prop := (∀ k, k ≠ 156 → k ≠ 170 → h'.1 k = h.1 k) ∧ h'.2 = h.2
theorem TNf.refl (h : HS) : TNf h h := ⟨fun _ _ _ => rfl, rfl⟩
theorem TNf.trans {a b c : HS} (x : TNf a b) (y : TNf b c) : TNf a c := ⟨fun k h1 h2 => (y.1 k h1 h2).trans (x.1 k h1 h2), y.2.trans x.2⟩
theorem TNf_a {a b : HS} (x : CAf a b) : TNf a b := ⟨fun k h1 _ => x.1 k h1, x.2.1⟩
theorem TNf_wi {a b : HS} (x : TNf a b) {k : Nat} (hk : k = 156 ∨ k = 170) (j : Nat) (v : Int32) : TNf a (wi b k j v) := ⟨fun i h1 h2 => by rw [wi_k _ _ (by rcases hk with e | e <;> rw [e] <;> assumption)]; exact x.1 i h1 h2, x.2⟩
theorem CTok_w {p : Nat} (c : CTok h t z p) {j : Nat} (hj : j = 2 ∨ j = 3) (v : Int32) : CTok (wi h 156 j v) t z p := by
  obtain ⟨⟨c1, c2, c3, c4, c5⟩, d1, d2, d3, d4, d5⟩ := c
  refine ⟨⟨c1, c2, c3, ?_, ?_⟩, d1, ?_, ?_, ?_, ?_⟩
  · rw [wi_j _ _ (by omega)]; exact c4
  · rw [wi_k _ _ (by decide)]; exact c5
  · rw [wi_j _ _ (by omega)]; exact d2
  · rw [wi_j _ _ (by omega)]; exact d3
  · rw [wi_j _ _ (by omega)]; exact d4
  · intro w; rw [wi_j _ _ (by omega)]; exact d5 w
theorem CTok_n {p : Nat} (c : CTok h t z p) (j : Nat) (v : Int32) : CTok (wi h 170 j v) t z p := by
  obtain ⟨⟨c1, c2, c3, c4, c5⟩, d1, d2, d3, d4, d5⟩ := c
  refine ⟨⟨c1, c2, c3, ?_, ?_⟩, d1, ?_, ?_, ?_, ?_⟩
  · rw [wi_k _ _ (by decide)]; exact c4
  · rw [wi_k _ _ (by decide)]; exact c5
  · rw [wi_k _ _ (by decide)]; exact d2
  · rw [wi_k _ _ (by decide)]; exact d3
  · rw [wi_k _ _ (by decide)]; exact d4
  · intro w; rw [wi_k _ _ (by decide)]; exact d5 w
theorem c_break {p : Nat} (e7 : h.1 156 7 = nI p) : ∃ h', X4_breakOff N h 156 = some h' ∧ CBr h' p ∧ TNf h h' := by
  unfold X4_breakOff
  rw [sq_eq, sq_eq]
  refine ⟨_, rfl, ⟨?_, ?_⟩, TNf_wi (TNf_wi (TNf.refl h) (Or.inl rfl) _ _) (Or.inl rfl) _ _⟩
  · rw [wi_j _ _ (by decide), wi_s]
  · rw [wi_s, wi_j _ _ (by decide)]; exact e7
theorem c_blame {p : Nat} {x : Nat × Int32} (c : CSt h t z p x) {kind : Nat} (hk : kind ≤ 3) (a : Nat) : ∃ h', X4_blame N h 156 (nI kind) (nI a) = some h' ∧ CSt h' t z p (blm x false kind a) ∧ (∀ k, k ≠ 156 → h'.1 k = h.1 k) ∧ h'.2 = h.2 := by
  obtain ⟨c1, c2, c3, c4⟩ := c
  unfold X4_blame
  rw [c2]
  by_cases y : x.1 = 0
  · rw [if_pos (by rw [y]; rfl), sq_eq, sq_eq, show blm x false kind a = (kind, nI a) from if_neg (by simp [y])]
    exact ⟨_, rfl, ⟨CTok_w (CTok_w c1 (Or.inl rfl) _) (Or.inr rfl) _, by rw [wi_j _ _ (by decide), wi_s], wi_s _ _ _ _, hk⟩, fun k h1 => by rw [wi_k _ _ h1, wi_k _ _ h1], rfl⟩
  · rw [if_neg (nI_ne0 (by omega) (by omega)), show blm x false kind a = x from if_pos (by simp [y])]
    exact ⟨h, rfl, ⟨c1, c2, c3, c4⟩, fun _ _ => rfl, rfl⟩
theorem c_canBe {k i : Nat} {nv : Nat → Nat} (hk : k < 12) (hi : i < 4) (hv : ∀ j, j ≤ i → h.1 170 j = nI (nv j) ∧ nv j ≤ 99) : X4_canBe N h 156 (nI k) (nI i) = some (nB (okc k nv i = true)) := by
  obtain ⟨t1, t2, t3, t4⟩ := nLo_e k hk i hi
  have vi := (hv i (Nat.le_refl _)).2
  have b34 : ∀ (u : Int32) (b : Bool), u = nB (b = false) → X4_canBe_b34 N h (nI k) (nI i) (nI (nv i)) u = some (nB ((decide (nLo k i ≤ nv i) && decide (nv i ≤ nHi k i) && b) = true)) := by
    intro u b hu
    unfold X4_canBe_b34
    rw [t1, t2, hu]
    cases b with
    | false => rw [nB_t rfl, if_neg one0, nz_0, nB_f (by simp)]
    | true =>
      rw [nB_f (by decide), if_pos rfl]
      by_cases y : nv i < nLo k i
      · rw [if_pos (nI_lt y (by omega)), nz_0, nB_f (by simp; omega)]
      · rw [if_neg (nI_nlt (by omega) (by omega))]
        by_cases w : nHi k i < nv i
        · rw [if_pos (nI_lt w (by omega)), nz_0, nB_f (by simp; omega)]
        · rw [if_neg (nI_nlt (by omega) (by omega)), nz_1, nB_t (by simp; omega)]
  unfold X4_canBe okc
  rw [at_in (L := 4) (show ln (156 + 14) = 4 from ln170) (by decide) hi, bd1_some, show h.1 (156 + 14) i = _ from (hv i (Nat.le_refl _)).1]
  by_cases a : k = 2
  · rw [if_pos (show nI k = 2 by rw [a]; rfl)]
    by_cases b : i = 1
    · rw [if_pos (show nI i = 1 by rw [b]; rfl), if_neg (by decide), show h.1 (156 + 14) (0 : Int32).toNatClampNeg = nI (nv 0) from (hv 0 (by omega)).1]
      have v0 := (hv 0 (by omega)).2
      by_cases w : nv 0 ≤ nv i
      · rw [if_pos (nI_le w (by omega))]
        exact b34 0 _ (by rw [nB_f (by rw [b] at w; simp [w])])
      · rw [if_neg (nI_ge (by omega) (by omega))]
        exact b34 1 _ (by rw [nB_t (by rw [b] at w; simp [a, b, w])])
    · rw [if_neg (show ¬ nI i = 1 from nI_ne (b := 1) b (by omega) (by decide))]
      exact b34 0 _ (by rw [nB_f (by simp [b])])
  · rw [if_neg (show ¬ nI k = 2 from nI_ne (b := 2) a (by omega) (by decide))]
    exact b34 0 _ (by rw [nB_f (by simp [a])])
theorem c_nums (hN : 2000 ≤ N) {k q0 : Nat} {nv : Nat → Nat} (hk : k < 12) (hv : ∀ i, nv i = val t z (nxi t z i q0)) : ∀ (r i fu : Nat) (h : HS) (x : Nat × Int32), i + r = nNum k → r < fu → CSt h t z (nxi t z i q0) x → (∀ j, j < i → h.1 170 j = nI (nv j) ∧ nv j ≤ 99) →
    LRes (enS t z (psR t z (okc k nv) r i (.inl (nxi t z i q0, x)))) (fun y => ∃ h', X4_readLine_l40 N fu h 156 (nI k) (nI i) = some h' ∧ CBr h' y ∧ TNf h h')
      (fun p' x' => ∃ h1, X4_readLine_l40 N fu h 156 (nI k) (nI i) = X4_keepLine N h1 156 (nI k) ∧ CSt h1 t z p' x' ∧ (∀ j, j < nNum k → h1.1 170 j = nI (nv j) ∧ nv j ≤ 99) ∧ TNf h h1) := by
  obtain ⟨s0, s1⟩ := nNum_e k hk
  intro r
  induction r with
  | zero =>
    intro i fu h x e hf c hn
    obtain ⟨fu, rfl, _⟩ := fuel hf
    obtain ⟨c1, c2, c3, c4⟩ := id c
    have tl := tkc_lt (t := t) (z := z) (nxi t z i q0)
    rw [psR, enS, X4_readLine_l40, s0, if_pos (nI_le (by omega) (by omega)), c1.2.2.2.2.1]
    by_cases y : tkc t z (nxi t z i q0) = 3
    · rw [if_pos y, if_pos (show nI (tkc t z (nxi t z i q0)) = 3 by rw [y]; rfl)]
      obtain ⟨h1, a1, a2, a3⟩ := c_adv (N := N) hN c1
      refine LRes_inl ⟨h1, ?_, ⟨a2, by rw [a3.2.2 2 (by decide)]; exact c2, by rw [a3.2.2 3 (by decide)]; exact c3, c4⟩, fun j hj => ?_, TNf_a a3⟩
      · rw [a1, bd1_some, bd1_id]
      · rw [a3.1 170 (by decide)]; exact hn j (by omega)
    · rw [if_neg y, if_neg (show ¬ nI (tkc t z (nxi t z i q0)) = 3 from nI_ne (b := 3) y (by omega) (by decide))]
      obtain ⟨h', a1, a2, a3⟩ := c_break (N := N) c1.2.2.1
      exact LRes_inr ⟨h', by rw [a1, bd1_some], a2, a3⟩
  | succ r ih =>
    intro i fu h x e hf c hn
    obtain ⟨fu, rfl, _⟩ := fuel hf
    obtain ⟨c1, c2, c3, c4⟩ := id c
    have tl := tkc_lt (t := t) (z := z) (nxi t z i q0)
    rw [psR, nmO, X4_readLine_l40, s0, if_neg (nI_ge (by omega) (by omega)), if_neg (show ¬ (4 : Int32) ≤ nI i from nI_ge (b := 4) (by omega) (by decide)), c1.2.2.2.2.1]
    by_cases y : tkc t z (nxi t z i q0) = 2
    · rw [if_pos y, if_pos (show nI (tkc t z (nxi t z i q0)) = 2 by rw [y]; rfl), if_neg (nI_in (by omega) (by decide)), sq_eq, nI_clamp (by omega), c1.2.2.2.2.2 y, ← hv i]
      have v9 : nv i ≤ 99 := by rw [hv i]; exact val_lt y
      have g1 : CSt (wi h (156 + 14) i (nI (nv i))) t z (nxi t z i q0) x := ⟨CTok_n c1 _ _, by rw [wi_k _ _ (by decide)]; exact c2, by rw [wi_k _ _ (by decide)]; exact c3, c4⟩
      have gn : ∀ j, j ≤ i → (wi h (156 + 14) i (nI (nv i))).1 170 j = nI (nv j) ∧ nv j ≤ 99 := by
        intro j hj
        by_cases u : j = i
        · subst u; exact ⟨wi_s _ _ _ _, v9⟩
        · rw [show (156 + 14 : Nat) = 170 from rfl, wi_j _ _ u]; exact hn j (by omega)
      have gf : TNf h (wi h (156 + 14) i (nI (nv i))) := TNf_wi (TNf.refl h) (Or.inr rfl) _ _
      generalize wi h (156 + 14) i (nI (nv i)) = g at g1 gn gf ⊢
      rw [c_canBe hk (by omega) gn, bd1_some, nI_1]
      by_cases w : okc k nv i = true
      · rw [nB_t w, if_neg one0]
        obtain ⟨h1, a1, a2, a3⟩ := c_adv (N := N) hN g1.1
        rw [a1, bd1_some, w, show blm x true 2 (nxi t z i q0) = x from if_pos rfl]
        have := ih (i + 1) fu h1 x (by omega) (by omega) ⟨a2, by rw [a3.2.2 2 (by decide)]; exact g1.2.1, by rw [a3.2.2 3 (by decide)]; exact g1.2.2.1, c4⟩ (fun j hj => by rw [a3.1 170 (by decide)]; exact gn j (by omega))
        revert this
        rw [show nxi t z (i + 1) q0 = nxt t z (nxi t z i q0) from rfl]
        cases enS t z (psR t z (okc k nv) r (i + 1) (.inl (nxt t z (nxi t z i q0), x))) with
        | inr y => rintro ⟨h', b1, b2, b3⟩; exact ⟨h', b1, b2, TNf.trans gf (TNf.trans (TNf_a a3) b3)⟩
        | inl q => rintro ⟨h', b1, b2, b3, b4⟩; exact ⟨h', b1, b2, b3, TNf.trans gf (TNf.trans (TNf_a a3) b4)⟩
      · have w' : okc k nv i = false := by simpa using w
        rw [nB_f w, if_pos rfl, g1.1.2.2.1]
        obtain ⟨h0, d1, d2, d3, d4⟩ := c_blame (N := N) g1 (kind := 2) (by decide) (nxi t z i q0)
        obtain ⟨h1, a1, a2, a3⟩ := c_adv (N := N) hN d2.1
        rw [show X4_blame N g 156 2 (nI (nxi t z i q0)) = _ from d1, bd1_some, a1, bd1_some, w']
        have gf2 : TNf h h1 := TNf.trans gf (TNf.trans ⟨fun k h1 _ => d3 k h1, d4⟩ (TNf_a a3))
        have := ih (i + 1) fu h1 (blm x false 2 (nxi t z i q0)) (by omega) (by omega) ⟨a2, by rw [a3.2.2 2 (by decide)]; exact d2.2.1, by rw [a3.2.2 3 (by decide)]; exact d2.2.2.1, d2.2.2.2⟩ (fun j hj => by rw [a3.1 170 (by decide), d3 170 (by decide)]; exact gn j (by omega))
        revert this
        rw [show nxi t z (i + 1) q0 = nxt t z (nxi t z i q0) from rfl]
        cases enS t z (psR t z (okc k nv) r (i + 1) (.inl (nxt t z (nxi t z i q0), blm x false 2 (nxi t z i q0)))) with
        | inr y => rintro ⟨h', b1, b2, b3⟩; exact ⟨h', b1, b2, TNf.trans gf2 b3⟩
        | inl q => rintro ⟨h', b1, b2, b3, b4⟩; exact ⟨h', b1, b2, b3, TNf.trans gf2 b4⟩
    · rw [if_neg y, if_neg (show ¬ nI (tkc t z (nxi t z i q0)) = 2 from nI_ne (b := 2) y (by omega) (by decide)), psR_inr, enS]
      obtain ⟨h', a1, a2, a3⟩ := c_break (N := N) c1.2.2.1
      exact LRes_inr ⟨h', by rw [a1, bd1_some], a2, a3⟩
/-! which line it is -/
def wdk (t : Nat → Nat) (z s : Nat) : Nat := if tkc t z s = 1 then wrd t z s else 99
def sLo (g : Nat) : Nat := if g = 0 then 0 else if g = 1 then 5 else 10
def sHi (g : Nat) : Nat := if g = 0 then 5 else if g = 1 then 10 else 12
theorem c_isWord (hN : 2000 ≤ N) {s k : Nat} (c : CTok h t z s) (hk : k < 12) (h1 : tkc t z s = 1) : X4_isWord N h 156 k = some (nB (wIs t s (ten t z s - s) k = true)) := by
  have hz := c.1.1
  have hs := tkc_1 h1
  have ht := ten_in (t := t) hs.1
  have wl := wLn_in k hk
  unfold X4_isWord
  rw [c.2.2.1, c.2.2.2.1, pk_sub (by omega), wLn_e k hk]
  by_cases y : ten t z s - s = wLn k
  · rw [if_pos (by rw [y])]
    have key : ∀ (r i fu : Nat), i + r = wLn k → r < fu → X4_isWord_l20 N h fu 156 k (nI i) = some (nB (wAl t s k r i = true)) := by
      intro r
      induction r with
      | zero =>
        intro i fu e hf
        obtain ⟨fu, rfl, _⟩ := fuel hf
        rw [X4_isWord_l20, wLn_e k hk, if_pos (nI_le (by omega) (by omega)), nz_1, nB_t (show wAl t s k 0 i = true from rfl)]
      | succ r ih =>
        intro i fu e hf
        obtain ⟨fu, rfl, _⟩ := fuel hf
        have ht2 := c.1.2.1 (s + i)
        have wc := wCh_in k hk i (by omega)
        rw [X4_isWord_l20, wLn_e k hk, if_neg (nI_ge (by omega) (by omega)), c.2.2.1, nI_add, c_byte c.1 (by omega), bd1_some, if_neg (show ¬ (nI i < 0 ∨ ¬ nI i < nI (wLn k)) from fun w => by
          rcases w with w | w
          · exact nI_pos (by omega) w
          · exact w (nI_lt (by omega) (by omega))), nI_clamp (by omega), wCh_e k hk i (by omega), nI_1]
        by_cases w : t (s + i) = wCh k i
        · rw [if_pos (by rw [w]), ih (i + 1) fu (by omega) (by omega), wAl, decide_eq_true w, Bool.true_and]
        · rw [if_neg (nI_ne w (by omega) (by omega)), nz_0, nB_f (by rw [wAl, decide_eq_false w]; simp)]
    refine (key (wLn k) 0 N (by omega) (by omega)).trans ?_
    congr 1
    apply nB_eq
    rw [wIs_iff, wAl_iff]
    exact ⟨fun f => ⟨y, fun i hi => f i (Nat.zero_le _) (by omega)⟩, fun f j _ hj => f.2 j (by omega)⟩
  · rw [if_neg (nI_ne y (by omega) (by omega)), nz_0, nB_f (fun w => y (wIs_iff.mp w).1)]
theorem c_word : ∀ k, k < 12 → X4_wordOf N h (nI k) = some k := by
  intro k hk
  unfold X4_wordOf
  match k, hk with
  | 0, _ => rfl
  | 1, _ => rfl
  | 2, _ => rfl
  | 3, _ => rfl
  | 4, _ => rfl
  | 5, _ => rfl
  | 6, _ => rfl
  | 7, _ => rfl
  | 8, _ => rfl
  | 9, _ => rfl
  | 10, _ => rfl
  | 11, _ => rfl
theorem c_lnl (hN : 2000 ≤ N) {s hi : Nat} (c : CTok h t z s) (hh : hi ≤ 12) : ∀ (r k fu : Nat), k + r = hi → r < fu → X4_lineOf_l44 N h fu 156 (nI hi) (nI k) = some (if k < wdk t z s ∧ wdk t z s ≤ hi then nI (wdk t z s - 1) else -1) := by
  have tl := tkc_lt (t := t) (z := z) s
  intro r
  induction r with
  | zero =>
    intro k fu e hf
    obtain ⟨fu, rfl, _⟩ := fuel hf
    rw [X4_lineOf_l44, if_pos (nI_le (by omega) (by omega)), if_neg (by omega)]
  | succ r ih =>
    intro k fu e hf
    obtain ⟨fu, rfl, _⟩ := fuel hf
    rw [X4_lineOf_l44, if_neg (nI_ge (by omega) (by omega)), c.2.2.2.2.1, nI_1]
    by_cases y : tkc t z s = 1
    · rw [if_pos (show nI (tkc t z s) = 1 by rw [y]; rfl), c_word k (by omega), bd1_some, c_isWord hN c (by omega) y, bd1_some]
      have wk : wdk t z s = wrdN t s (ten t z s - s) := by unfold wdk wrd; rw [if_pos y]
      by_cases w : wIs t s (ten t z s - s) k = true
      · have e1 := (wrdN_k (t := t) (s := s) (n := ten t z s - s) (k := k) (by omega)).mpr w
        rw [nB_t w, if_neg one0, wk, e1, if_pos (by omega), Nat.add_sub_cancel]
      · rw [nB_f w, if_pos rfl, ih (k + 1) fu (by omega) (by omega)]
        have n1 : wdk t z s ≠ k + 1 := fun u => w ((wrdN_k (by omega)).mp (by rw [← wk]; exact u))
        by_cases u : k + 1 < wdk t z s ∧ wdk t z s ≤ hi
        · rw [if_pos u, if_pos (by omega)]
        · rw [if_neg u, if_neg (by omega)]
    · have wk : wdk t z s = 99 := by unfold wdk; rw [if_neg y]
      rw [if_neg (show ¬ nI (tkc t z s) = 1 from nI_ne (b := 1) y (by omega) (by decide)), ih (k + 1) fu (by omega) (by omega), wk, if_neg (by omega), if_neg (by omega)]
theorem c_lineOf (hN : 2000 ≤ N) {s g : Nat} (c : CTok h t z s) (hg : g < 3) : X4_lineOf N h 156 (nI g) = some (if sLo g < wdk t z s ∧ wdk t z s ≤ sHi g then nI (wdk t z s - 1) else -1) := by
  unfold X4_lineOf X4_lineOf_b19 sLo sHi
  match g, hg with
  | 0, _ => exact c_lnl hN c (hi := 5) (by decide) 5 0 N (by omega) (by omega)
  | 1, _ => exact c_lnl hN c (hi := 10) (by decide) 5 5 N (by omega) (by omega)
  | 2, _ => exact c_lnl hN c (hi := 12) (by decide) 2 10 N (by omega) (by omega)
theorem c_readLine (hN : 2000 ≤ N) {s g : Nat} {x : Nat × Int32} {full : Bool} {nv : Nat → Nat} (c : CSt h t z s x) (hg : g < 3) (hf : X4_isFull N h 156 (nI (wdk t z s - 1)) (nI g) = some (nB (full = true))) (hv : ∀ i, nv i = val t z (nxi t z i (nxt t z s))) :
    LRes (if sLo g < wdk t z s ∧ wdk t z s ≤ sHi g then enS t z (psR t z (okc (wdk t z s - 1) nv) (nNum (wdk t z s - 1)) 0 (.inl (nxt t z s, blm x (!full) 3 s))) else .inr s) (fun y => ∃ h', X4_readLine N h 156 (nI g) = some h' ∧ CBr h' y ∧ TNf h h')
      (fun p' x' => ∃ h1, X4_readLine N h 156 (nI g) = X4_keepLine N h1 156 (nI (wdk t z s - 1)) ∧ CSt h1 t z p' x' ∧ (∀ j, j < nNum (wdk t z s - 1) → h1.1 170 j = nI (nv j) ∧ nv j ≤ 99) ∧ TNf h h1) := by
  unfold X4_readLine
  rw [c_lineOf hN c.1 hg, bd1_some]
  by_cases y : sLo g < wdk t z s ∧ wdk t z s ≤ sHi g
  · have h12 : wdk t z s ≤ 12 := by
      have : sHi g ≤ 12 := by
        unfold sHi
        by_cases a : g = 0
        · rw [if_pos a]; decide
        · rw [if_neg a]
          by_cases b : g = 1
          · rw [if_pos b]; decide
          · rw [if_neg b]; decide
      omega
    rw [if_pos y, if_pos y, if_neg (nI_m1 (by omega)), hf, bd1_some]
    cases full with
    | false =>
      rw [nB_f (by decide), if_pos rfl]
      obtain ⟨h1, a1, a2, a3⟩ := c_adv (N := N) hN c.1
      rw [a1, bd1_some, show blm x (!false) 3 s = x from if_pos rfl]
      have := c_nums (N := N) (t := t) (z := z) hN (k := wdk t z s - 1) (q0 := nxt t z s) (nv := nv) (by omega) hv (nNum (wdk t z s - 1)) 0 N h1 x (by omega) (by have := nNum_e (wdk t z s - 1) (by omega); omega) ⟨a2, by rw [a3.2.2 2 (by decide)]; exact c.2.1, by rw [a3.2.2 3 (by decide)]; exact c.2.2.1, c.2.2.2⟩ (fun j hj => absurd hj (Nat.not_lt_zero _))
      revert this
      rw [show nxi t z 0 (nxt t z s) = nxt t z s from rfl]
      cases enS t z (psR t z (okc (wdk t z s - 1) nv) (nNum (wdk t z s - 1)) 0 (.inl (nxt t z s, x))) with
      | inr y => rintro ⟨h', b1, b2, b3⟩; exact ⟨h', b1, b2, TNf.trans (TNf_a a3) b3⟩
      | inl q => rintro ⟨h', b1, b2, b3, b4⟩; exact ⟨h', b1, b2, b3, TNf.trans (TNf_a a3) b4⟩
    | true =>
      rw [nB_t rfl, if_neg one0, c.1.2.2.1]
      obtain ⟨h0, d1, d2, d3, d4⟩ := c_blame (N := N) c (kind := 3) (by decide) s
      obtain ⟨h1, a1, a2, a3⟩ := c_adv (N := N) hN d2.1
      rw [show X4_blame N h 156 3 (nI s) = _ from d1, bd1_some, a1, bd1_some, show (!true) = false from rfl]
      have gf2 : TNf h h1 := TNf.trans ⟨fun k h1 _ => d3 k h1, d4⟩ (TNf_a a3)
      have := c_nums (N := N) (t := t) (z := z) hN (k := wdk t z s - 1) (q0 := nxt t z s) (nv := nv) (by omega) hv (nNum (wdk t z s - 1)) 0 N h1 (blm x false 3 s) (by omega) (by have := nNum_e (wdk t z s - 1) (by omega); omega) ⟨a2, by rw [a3.2.2 2 (by decide)]; exact d2.2.1, by rw [a3.2.2 3 (by decide)]; exact d2.2.2.1, d2.2.2.2⟩ (fun j hj => absurd hj (Nat.not_lt_zero _))
      revert this
      rw [show nxi t z 0 (nxt t z s) = nxt t z s from rfl]
      cases enS t z (psR t z (okc (wdk t z s - 1) nv) (nNum (wdk t z s - 1)) 0 (.inl (nxt t z s, blm x false 3 s))) with
      | inr y => rintro ⟨h', b1, b2, b3⟩; exact ⟨h', b1, b2, TNf.trans gf2 b3⟩
      | inl q => rintro ⟨h', b1, b2, b3, b4⟩; exact ⟨h', b1, b2, b3, TNf.trans gf2 b4⟩
  · rw [if_neg y, if_neg y, if_pos rfl]
    obtain ⟨h', a1, a2, a3⟩ := c_break (N := N) c.1.2.2.1
    exact LRes_inr ⟨h', by rw [a1, bd1_some], a2, a3⟩
end CLN
