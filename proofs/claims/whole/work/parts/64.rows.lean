/-! ===== level 2: all rotas, as a list in their order (nothing of the machine here) ===== -/
abbrev adj (ord : Nat → Nat) (k : Nat) : Prop := 0 < k ∧ ord (k - 1) + 1 = ord k
def sb1 (left : Nat → Nat) (s l : Nat) : Nat → Nat := fun t => if t = s then left t - l else left t
/-- rows of singers for the levels k, k + 1 .. (r of them), by what breath is left; prev: who was chosen ahead of k -/
def CL (ord len : Nat → Nat) (ok : Nat → Nat → Bool) : Nat → Nat → (Nat → Nat) → Nat → List (List Nat)
  | 0, _, _, _ => [[]]
  | r + 1, k, left, prev => (List.range' 0 6).flatMap (fun s => if ok s (ord k) = true ∧ len (ord k) ≤ left s ∧ ¬ (adj ord k ∧ s = prev) then (CL ord len ok r (k + 1) (sb1 left s (len (ord k))) s).map (fun x => s :: x) else [])
/-- what a singer uses by a row from level k on -/
def us (ord len : Nat → Nat) (s : Nat) : Nat → List Nat → Nat
  | _, [] => 0
  | k, x :: xs => (if x = s then len (ord k) else 0) + us ord len s (k + 1) xs
def uz (ord len : Nat → Nat) (left : Nat → Nat) (k : Nat) (x : List Nat) : Bool := (List.range 6).all (fun s => decide (us ord len s k x ≤ left s))
theorem uz_iff {ord len left : Nat → Nat} {k : Nat} {x : List Nat} : uz ord len left k x = true ↔ ∀ s, s < 6 → us ord len s k x ≤ left s := by
  unfold uz
  rw [List.all_eq_true]
  constructor
  · intro h s hs
    simpa using h s (List.mem_range.mpr hs)
  · intro h s hs
    simpa using h s (List.mem_range.mp hs)
theorem fm_congr {α β : Type} {f g : α → List β} : ∀ (l : List α), (∀ a ∈ l, f a = g a) → l.flatMap f = l.flatMap g := by
  intro l
  induction l with
  | nil => intro _; rfl
  | cons a l ih =>
    intro h
    rw [List.flatMap_cons, List.flatMap_cons, h a (List.mem_cons_self ..), ih (fun b hb => h b (List.mem_cons_of_mem _ hb))]
theorem fm_filter {α β : Type} (p : β → Bool) (f : α → List β) : ∀ (l : List α), (l.flatMap f).filter p = l.flatMap (fun a => (f a).filter p) := by
  intro l
  induction l with
  | nil => rfl
  | cons a l ih => rw [List.flatMap_cons, List.flatMap_cons, List.filter_append, ih]
theorem fm_nil {α β : Type} {f : α → List β} {l : List α} (h : l.flatMap f = []) : ∀ a ∈ l, f a = [] := by
  intro a ha
  exact List.flatMap_eq_nil_iff.mp h a ha
/-- less breath: those rows that use no more -/
theorem CL_filter {ord len : Nat → Nat} {ok : Nat → Nat → Bool} : ∀ (r k : Nat) (left left' : Nat → Nat) (prev : Nat), (∀ s, s < 6 → left' s ≤ left s) →
    CL ord len ok r k left' prev = (CL ord len ok r k left prev).filter (uz ord len left' k) := by
  intro r
  induction r with
  | zero =>
    intro k left left' prev h
    have : uz ord len left' k [] = true := uz_iff.mpr (fun s _ => Nat.zero_le _)
    simp only [CL]
    rw [List.filter_cons_of_pos this, List.filter_nil]
  | succ r ih =>
    intro k left left' prev h
    simp only [CL]
    rw [fm_filter]
    apply fm_congr
    intro s hs
    have hs6 : s < 6 := by have := List.mem_range'.mp hs; omega
    by_cases c1 : ok s (ord k) = true ∧ ¬ (adj ord k ∧ s = prev)
    · by_cases c2 : len (ord k) ≤ left' s
      · have h2 := h s hs6
        rw [if_pos ⟨c1.1, c2, c1.2⟩, if_pos ⟨c1.1, by omega, c1.2⟩, List.filter_map]
        rw [ih (k + 1) (sb1 left s (len (ord k))) (sb1 left' s (len (ord k))) s (by
          intro t ht
          have := h t ht
          unfold sb1
          by_cases e : t = s
          · rw [if_pos e, if_pos e]; omega
          · rw [if_neg e, if_neg e]; omega)]
        congr 1
        apply List.filter_congr
        intro x _
        apply Bool.eq_iff_iff.mpr
        show _ ↔ uz ord len left' k (s :: x) = true
        rw [uz_iff, uz_iff]
        constructor
        · intro g t ht
          have := g t ht
          unfold sb1 at this
          simp only [us]
          by_cases e : t = s
          · subst e; rw [if_pos rfl] at this ⊢; omega
          · rw [if_neg e] at this; rw [if_neg (fun z => e z.symm)]; omega
        · intro g t ht
          have := g t ht
          simp only [us] at this
          unfold sb1
          by_cases e : t = s
          · subst e; rw [if_pos rfl] at this ⊢; omega
          · rw [if_neg e]; rw [if_neg (fun z => e z.symm)] at this; omega
      · rw [if_neg (fun z => c2 z.2.1)]
        by_cases c3 : len (ord k) ≤ left s
        · rw [if_pos ⟨c1.1, c3, c1.2⟩, List.filter_map]
          symm
          rw [List.map_eq_nil_iff, List.filter_eq_nil_iff]
          intro x _ z
          have := uz_iff.mp z s hs6
          simp only [us, if_true] at this
          omega
        · rw [if_neg (fun z => c3 z.2.1)]; rfl
    · rw [if_neg (fun z => c1 ⟨z.1, z.2.2⟩), if_neg (fun z => c1 ⟨z.1, z.2.2⟩)]; rfl
/-- only singers that can sing at all matter -/
theorem CL_dead {ord len : Nat → Nat} (n : Nat) (hl : ∀ k, k < n → 1 ≤ len (ord k)) {ok ok' : Nat → Nat → Bool} : ∀ (r k : Nat) (left left' : Nat → Nat) (prev : Nat), k + r ≤ n →
    (∀ s, s < 6 → ((∀ b, ok s b = ok' s b) ∧ left s = left' s) ∨ (((∀ b, ok s b = false) ∨ left s = 0) ∧ ((∀ b, ok' s b = false) ∨ left' s = 0))) →
    CL ord len ok r k left prev = CL ord len ok' r k left' prev := by
  intro r
  induction r with
  | zero => intro k left left' prev _ _; rfl
  | succ r ih =>
    intro k left left' prev hk h
    simp only [CL]
    apply fm_congr
    intro s hs
    have hs6 : s < 6 := by have := List.mem_range'.mp hs; omega
    have hlk := hl k (by omega)
    rcases h s hs6 with ⟨h1, h2⟩ | ⟨h1, h2⟩
    · rw [h1, h2]
      by_cases c : ok' s (ord k) = true ∧ len (ord k) ≤ left' s ∧ ¬ (adj ord k ∧ s = prev)
      · rw [if_pos c, if_pos c]
        rw [ih (k + 1) _ (sb1 left' s (len (ord k))) s (by omega) (by
          intro t ht
          unfold sb1
          by_cases e : t = s
          · subst e
            left
            exact ⟨h1, by rw [if_pos rfl, if_pos rfl, h2]⟩
          · rw [if_neg e, if_neg e]
            exact h t ht)]
      · rw [if_neg c, if_neg c]
    · have n1 : ¬ (ok s (ord k) = true ∧ len (ord k) ≤ left s ∧ ¬ (adj ord k ∧ s = prev)) := by
        rintro ⟨a, b, _⟩
        rcases h1 with z | z
        · rw [z] at a; exact Bool.noConfusion a
        · omega
      have n2 : ¬ (ok' s (ord k) = true ∧ len (ord k) ≤ left' s ∧ ¬ (adj ord k ∧ s = prev)) := by
        rintro ⟨a, b, _⟩
        rcases h2 with z | z
        · rw [z] at a; exact Bool.noConfusion a
        · omega
      rw [if_neg n1, if_neg n2]
theorem CL_len {ord len : Nat → Nat} {ok : Nat → Nat → Bool} : ∀ (r k : Nat) (left : Nat → Nat) (prev : Nat) (x : List Nat), x ∈ CL ord len ok r k left prev → x.length = r ∧ ∀ s ∈ x, s < 6 := by
  intro r
  induction r with
  | zero =>
    intro k left prev x hx
    simp only [CL, List.mem_singleton] at hx
    subst hx
    exact ⟨rfl, fun s hs => absurd hs (List.not_mem_nil)⟩
  | succ r ih =>
    intro k left prev x hx
    simp only [CL] at hx
    obtain ⟨s, hs, hx⟩ := List.mem_flatMap.mp hx
    have hs6 : s < 6 := by have := List.mem_range'.mp hs; omega
    by_cases c : ok s (ord k) = true ∧ len (ord k) ≤ left s ∧ ¬ (adj ord k ∧ s = prev)
    · rw [if_pos c] at hx
      obtain ⟨y, hy, rfl⟩ := List.mem_map.mp hx
      obtain ⟨h1, h2⟩ := ih _ _ _ y hy
      refine ⟨by rw [List.length_cons, h1], ?_⟩
      intro t ht
      rcases List.mem_cons.mp ht with rfl | ht
      · exact hs6
      · exact h2 t ht
    · rw [if_neg c] at hx
      exact absurd hx (List.not_mem_nil)
theorem CL_use {ord len : Nat → Nat} {ok : Nat → Nat → Bool} : ∀ (r k : Nat) (left : Nat → Nat) (prev : Nat) (x : List Nat), x ∈ CL ord len ok r k left prev → ∀ s, s < 6 → us ord len s k x ≤ left s := by
  intro r k left prev x hx
  have e := CL_filter (ord := ord) (len := len) (ok := ok) r k left left prev (fun s _ => Nat.le_refl _)
  rw [e] at hx
  exact uz_iff.mp (List.mem_filter.mp hx).2
/-! what is left to be told when a search stands at a level: cs, whom the levels ahead have (the last first); e: the next singer that is tried -/
def lf (ord len : Nat → Nat) (left : Nat → Nat) : List Nat → (Nat → Nat)
  | [] => left
  | c :: cs => sb1 (lf ord len left cs) c (len (ord cs.length))
def pv : List Nat → Nat
  | [] => 9
  | c :: _ => c
def CK (ord len : Nat → Nat) (ok : Nat → Nat → Bool) (n : Nat) (left : Nat → Nat) (cs : List Nat) (s : Nat) : List (List Nat) :=
  if ok s (ord cs.length) = true ∧ len (ord cs.length) ≤ lf ord len left cs s ∧ ¬ (adj ord cs.length ∧ s = pv cs) then (CL ord len ok (n - cs.length - 1) (cs.length + 1) (sb1 (lf ord len left cs) s (len (ord cs.length))) s).map (fun x => s :: x) else []
def RM (ord len : Nat → Nat) (ok : Nat → Nat → Bool) (n : Nat) (left : Nat → Nat) : List Nat → Nat → List (List Nat)
  | [], e => ((List.range' e (6 - e)).flatMap (CK ord len ok n left [])).map (fun x => [].reverse ++ x)
  | c :: cs, e => ((List.range' e (6 - e)).flatMap (CK ord len ok n left (c :: cs))).map (fun x => (c :: cs).reverse ++ x) ++ RM ord len ok n left cs (c + 1)
def MU (n : Nat) : List Nat → Nat → Nat
  | [], e => 1 + (6 - e) * 7 ^ n
  | c :: cs, e => 1 + (6 - e) * 7 ^ (n - (cs.length + 1)) + MU n cs (c + 1)
theorem CK_nil {ord len : Nat → Nat} {ok : Nat → Nat → Bool} {n : Nat} {left : Nat → Nat} {cs : List Nat} {s : Nat} (h : ¬ (ok s (ord cs.length) = true ∧ len (ord cs.length) ≤ lf ord len left cs s ∧ ¬ (adj ord cs.length ∧ s = pv cs))) : CK ord len ok n left cs s = [] := if_neg h
theorem rg_skip {α : Type} (f : Nat → List α) : ∀ (t e s : Nat), e + t = s → s ≤ 6 → (∀ j, e ≤ j → j < s → f j = []) → (List.range' e (6 - e)).flatMap f = (List.range' s (6 - s)).flatMap f := by
  intro t
  induction t with
  | zero => intro e s h _ _; rw [show e = s by omega]
  | succ t ih =>
    intro e s h h6 hj
    rw [show 6 - e = (6 - (e + 1)) + 1 by omega, List.range'_succ, List.flatMap_cons, hj e (by omega) (by omega), List.nil_append]
    exact ih (e + 1) s (by omega) h6 (fun j h1 h2 => hj j (by omega) h2)
theorem rg_cons {α : Type} (f : Nat → List α) {s : Nat} (h : s < 6) : (List.range' s (6 - s)).flatMap f = f s ++ (List.range' (s + 1) (6 - (s + 1))).flatMap f := by
  rw [show 6 - s = (6 - (s + 1)) + 1 by omega, List.range'_succ, List.flatMap_cons]
section SR
variable {ord len : Nat → Nat} {ok : Nat → Nat → Bool} {n : Nat} {left : Nat → Nat}
/-- nobody more at this level: back -/
theorem RM_up {c : Nat} {cs : List Nat} {e : Nat} (he : e ≤ 6) (h : ∀ s, e ≤ s → s < 6 → CK ord len ok n left (c :: cs) s = []) : RM ord len ok n left (c :: cs) e = RM ord len ok n left cs (c + 1) := by
  rw [RM, rg_skip _ (6 - e) e 6 (by omega) (by omega) (fun j h1 h2 => h j h1 h2)]
  rfl
theorem RM_end {e : Nat} (he : e ≤ 6) (h : ∀ s, e ≤ s → s < 6 → CK ord len ok n left [] s = []) : RM ord len ok n left [] e = [] := by
  rw [RM, rg_skip _ (6 - e) e 6 (by omega) (by omega) (fun j h1 h2 => h j h1 h2)]
  rfl
theorem RM_skip {cs : List Nat} {e s : Nat} (he : e ≤ s) (hs : s ≤ 6) (h : ∀ j, e ≤ j → j < s → CK ord len ok n left cs j = []) : RM ord len ok n left cs e = RM ord len ok n left cs s := by
  cases cs with
  | nil => rw [RM, RM, rg_skip _ (s - e) e s (by omega) hs h]
  | cons c cs => rw [RM, RM, rg_skip _ (s - e) e s (by omega) hs h]
/-- one found at the last level -/
theorem RM_last {cs : List Nat} {s : Nat} (hs : s < 6) (hn : cs.length + 1 = n) (h : ok s (ord cs.length) = true ∧ len (ord cs.length) ≤ lf ord len left cs s ∧ ¬ (adj ord cs.length ∧ s = pv cs)) : RM ord len ok n left cs s = (s :: cs).reverse :: RM ord len ok n left cs (s + 1) := by
  have e : CK ord len ok n left cs s = [[s]] := by
    unfold CK
    rw [if_pos h, show n - cs.length - 1 = 0 by omega]
    rfl
  cases cs with
  | nil =>
    rw [RM, RM, rg_cons _ hs, e]
    simp
  | cons c cs =>
    rw [RM, RM, rg_cons _ hs, e]
    simp
/-- one found, and deeper -/
theorem RM_down {cs : List Nat} {s : Nat} (hs : s < 6) (hn : cs.length + 1 < n) (h : ok s (ord cs.length) = true ∧ len (ord cs.length) ≤ lf ord len left cs s ∧ ¬ (adj ord cs.length ∧ s = pv cs)) : RM ord len ok n left cs s = RM ord len ok n left (s :: cs) 0 := by
  have e : CK ord len ok n left cs s = ((List.range' 0 (6 - 0)).flatMap (CK ord len ok n left (s :: cs))).map (fun x => s :: x) := by
    unfold CK
    rw [if_pos h, show n - cs.length - 1 = (n - (s :: cs).length - 1) + 1 by simp; omega]
    rfl
  rw [show RM ord len ok n left (s :: cs) 0 = ((List.range' 0 (6 - 0)).flatMap (CK ord len ok n left (s :: cs))).map (fun x => (s :: cs).reverse ++ x) ++ RM ord len ok n left cs (s + 1) from rfl]
  cases cs with
  | nil =>
    rw [RM, RM, rg_cons _ hs, e, List.map_append, List.map_map]
    congr 1
  | cons c cs =>
    rw [RM, RM, rg_cons _ hs, e, List.map_append, List.map_map, List.append_assoc]
    congr 1
    apply List.map_congr_left
    intro x _
    simp
theorem RM_0 (hn : 0 < n) : RM ord len ok n left [] 0 = CL ord len ok n 0 left 9 := by
  obtain ⟨m, rfl⟩ : ∃ m, n = m + 1 := ⟨n - 1, by omega⟩
  rw [RM, CL]
  simp only [List.reverse_nil, List.nil_append, List.map_id']
  rfl
theorem MU_up {c : Nat} {cs : List Nat} {e : Nat} : MU n cs (c + 1) < MU n (c :: cs) e := by
  rw [MU]; omega
theorem MU_mono {cs : List Nat} {e s : Nat} (h : e ≤ s) : MU n cs s ≤ MU n cs e := by
  cases cs with
  | nil => rw [MU, MU]; exact Nat.add_le_add_left (Nat.mul_le_mul_right _ (by omega)) _
  | cons c cs => rw [MU, MU]; exact Nat.add_le_add_right (Nat.add_le_add_left (Nat.mul_le_mul_right _ (by omega)) _) _
theorem MU_last {cs : List Nat} {s : Nat} (hs : s < 6) : MU n cs (s + 1) < MU n cs s := by
  have e : (6 - s) = (6 - (s + 1)) + 1 := by omega
  cases cs with
  | nil =>
    rw [MU, MU, e, Nat.add_mul]
    have := Nat.pow_pos (a := 7) (n := n) (by decide)
    omega
  | cons c cs =>
    rw [MU, MU, e, Nat.add_mul]
    have := Nat.pow_pos (a := 7) (n := n - (cs.length + 1)) (by decide)
    omega
theorem MU_down {cs : List Nat} {s : Nat} (hs : s < 6) (hn : cs.length + 1 < n) : MU n (s :: cs) 0 < MU n cs s := by
  have e : (6 - s) = (6 - (s + 1)) + 1 := by omega
  have h7 : 7 ≤ 7 ^ (n - (cs.length + 1)) := by
    have := Nat.pow_le_pow_right (n := 7) (by decide) (show 1 ≤ n - (cs.length + 1) by omega)
    simpa using this
  have hp : 7 ^ (n - cs.length) = 7 * 7 ^ (n - (cs.length + 1)) := by
    rw [show n - cs.length = (n - (cs.length + 1)) + 1 by omega, Nat.pow_succ]; omega
  cases cs with
  | nil =>
    rw [MU, MU, MU, e, Nat.add_mul]
    simp only [List.length_nil, Nat.zero_add, Nat.sub_zero] at hp h7 ⊢
    omega
  | cons c cs =>
    rw [MU, MU, MU, e, Nat.add_mul]
    simp only [List.length_cons] at hp h7 ⊢
    omega
end SR
