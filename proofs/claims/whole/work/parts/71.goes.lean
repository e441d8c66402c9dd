/-! ===== level 2: the search goes on ===== -/
section GO2
variable {N : Nat} {q : Nat} {D : Nat → Nat} {n set : Nat} {lim : Nat → Nat}
theorem MU_pos (n : Nat) (cs : List Nat) (e : Nat) : 1 ≤ MU n cs e := by
  cases cs with
  | nil => rw [MU]; omega
  | cons c cs => rw [MU]; omega
abbrev RMD (D : Nat → Nat) (set n : Nat) (lim : Nat → Nat) (cs : List Nat) (e : Nat) : List (List Nat) := RM (ord D) (lenD D) (okR D set) n lim cs e
theorem r_l31 (hN : 100 ≤ N) : ∀ (M K : Nat) (h : HS) (cs : List Nat) (e : Nat), MU n cs e ≤ M → M < K → HD h q D n set lim cs e →
    (∃ h', RMD D set n lim cs e = [] ∧ X11_goesOn_l31 N K h 237 = some (0, h') ∧ SF h h') ∨
    (∃ c cs' h', RMD D set n lim cs e = (c :: cs').reverse :: RMD D set n lim cs' (c + 1) ∧ cs'.length + 1 = n ∧ X11_goesOn_l31 N K h 237 = some (1, h') ∧ HD h' q D n set lim cs' (c + 1) ∧ SF h h' ∧ MU n cs' (c + 1) < MU n cs e) := by
  intro M
  induction M with
  | zero => intro K h cs e hM _ _; have := MU_pos n cs e; omega
  | succ M ih =>
    intro K h cs e hM hK g
    obtain ⟨K, rfl, _⟩ := fuel hK
    obtain ⟨h1, e1, g1, f1⟩ := r_head (N := N) (K := K) g
    obtain ⟨s, h2, a1, a2, a3, a4, a5, a6, a7⟩ := r_l96 (N := N) (X11_goesOn_l31 N K) (6 - e) e N h1 (by have := g.1; omega) (by omega) g1
    have f2 := SF.trans f1 a7
    rw [e1, a5]
    have hsk : RMD D set n lim cs e = RMD D set n lim cs s := RM_skip a1 a2 (fun j h1 h2 => CK_nil (a3 j h1 h2))
    have hmu := MU_mono (n := n) (cs := cs) a1
    have hn := a6.1.2.1
    have hl := a6.2.2.1
    have ec : h2.1 (237 + 5) cs.length = nI s := a6.2.2.2.2.2.1
    unfold X11_goesOn_b142
    rw [a6.2.1, if_neg (nI_in (by omega) (by decide)), nI_clamp (by omega), ec]
    by_cases z : s = 6
    · subst z
      rw [if_pos (show nI 6 = 6 from rfl), if_neg (nI_ic (by omega) (by omega)), sq_eq, sq_eq, show (wi h2 (237 + 5) cs.length (-1)).1 237 21 = nI cs.length by rw [wi_k _ _ (by decide)]; exact a6.2.1]
      have fw : SF h (wi (wi h2 (237 + 5) cs.length (-1)) 237 21 (nI cs.length - 1)) := SF.trans f2 (SF.trans (SF_w _ (by omega)) (SF_w _ (by omega)))
      cases cs with
      | nil =>
        left
        obtain ⟨K, rfl, _⟩ := fuel (show 0 < K by omega)
        refine ⟨_, ?_, ?_, fw⟩
        · rw [hsk]; exact RM_end (by omega) (fun j h1 h2 => by omega)
        · rw [X11_goesOn_l31, wi_s, if_pos (by decide)]
          rfl
      | cons c cs =>
        have hup : RMD D set n lim (c :: cs) e = RMD D set n lim cs (c + 1) := by
          rw [hsk]; exact RM_up (by omega) (fun j h1 h2 => by omega)
        have hm2 : MU n cs (c + 1) < MU n (c :: cs) e := MU_up
        obtain ⟨g0, g1', g2, g3, g4, g5, g6⟩ := a6
        have hl2 : (c :: cs).length = cs.length + 1 := rfl
        rw [hl2] at g2 hl
        have hd : HD (wi (wi h2 (237 + 5) (c :: cs).length (-1)) 237 21 (nI (c :: cs).length - 1)) q D n set lim cs (c + 1) := by
          refine ⟨by have := g3 c (by simp); omega, ?_, ?_, by omega, fun x hx => g3 x (by simp [hx]), ?_, ?_, ?_⟩
          · refine GC_SF (SF.trans (SF_w _ (by omega)) (SF_w _ (by omega))) ?_ ?_ ?_ ?_ g0
            · rw [wi_q _ _ (by omega), wi_k _ _ (by decide)]
            · rw [wi_q _ _ (by omega), wi_k _ _ (by decide)]
            · rw [wi_k _ _ (by decide), wi_k _ _ (by decide)]
            · rw [wi_k _ _ (by decide), wi_k _ _ (by decide)]
          · rw [wi_s, hl2]; exact nI_pred _
          · intro i hi
            rw [wi_k _ _ (by decide), wi_q _ _ (by omega), g4 i (by omega)]
            rw [List.reverse_cons, List.getD_eq_getElem?_getD, List.getD_eq_getElem?_getD, List.getElem?_append_left (by simpa using hi)]
          · rw [wi_k _ _ (by decide), wi_q _ _ (by omega), g4 cs.length (by omega), if_neg (by omega)]
            simp
          · rw [wi_k _ _ (by decide), wi_k _ _ (by decide), if_neg (by omega)]
            exact g6
        rcases ih K _ cs (c + 1) (by omega) (by omega) hd with ⟨h', b1, b2, b3⟩ | ⟨c', cs', h', b1, b2, b3, b4, b5, b6⟩
        · exact Or.inl ⟨h', by rw [hup]; exact b1, b2, SF.trans fw b3⟩
        · exact Or.inr ⟨c', cs', h', by rw [hup]; exact b1, b2, b3, b4, SF.trans fw b5, by omega⟩
    · have hs : s < 6 := by omega
      have al := a4 hs
      have hb := gbar a6.1 hl
      obtain ⟨g0, g1', g2, g3, g4, g5, g6⟩ := a6
      obtain ⟨u1, u2⟩ := g6 s hs
      obtain ⟨l1, l2⟩ := g0.2.2.2.2.2.2.2 s hs
      rw [if_neg (show ¬ nI s = 6 from fun w => z ((nI_eq (b := 6) (by omega) (by decide)).mp w)), if_neg (nI_ic (by omega) (by omega)), if_neg (nI_in (by omega) (by decide)), r_longOf g0.1 hb.2.1, bd1_some, if_neg (nI_in (by omega) (by decide)), sq_eq, nI_clamp (by omega)]
      have ew : h2.1 (237 + 6) s + nI (D (18 + 4 * ord D cs.length)) = nI (uu D (s :: cs) s) := by
        rw [show h2.1 (237 + 6) s = _ from u2, uu_cons, if_pos rfl, nI_add]
        unfold lenD
        congr 1
        omega
      rw [ew]
      generalize hw : wi h2 (237 + 6) s (nI (uu D (s :: cs) s)) = w
      have fw : SF h2 w := by rw [← hw]; exact SF_w _ (by omega)
      have gw : GX w q D n set lim cs (nI s) (s :: cs) := by
        refine ⟨?_, ?_, g2, g3, ?_, ?_, ?_⟩
        · rw [← hw]; exact GC_SF (SF_w _ (by omega)) (wi_q _ _ (by omega)) (wi_q _ _ (by omega)) (wi_k _ _ (by decide)) (wi_k _ _ (by decide)) g0
        · rw [← hw, wi_k _ _ (by decide)]; exact g1'
        · rw [← hw, wi_k _ _ (by decide)]; exact g4
        · rw [← hw, wi_k _ _ (by decide)]; exact g5
        · intro t ht
          obtain ⟨v1, v2⟩ := g6 t ht
          rw [uu_cons]
          have h3 := al.2.1
          rw [lf_uu] at h3
          by_cases y : t = s
          · subst y
            rw [if_pos rfl]
            refine ⟨by omega, ?_⟩
            rw [← hw, show wi h2 (237 + 6) t (nI (uu D (t :: cs) t)) = wi h2 243 t (nI (uu D (t :: cs) t)) from rfl, wi_s, uu_cons, if_pos rfl]
          · rw [if_neg (fun z => y z.symm), Nat.zero_add]
            refine ⟨v1, ?_⟩
            rw [← hw, wi_j _ _ y]; exact v2
      rw [gw.2.1, gw.1.2.2.2.1]
      by_cases y : cs.length + 1 = n
      · rw [if_pos ((eqm1 (by omega) (by omega)).mpr y)]
        right
        refine ⟨s, cs, w, ?_, y, rfl, ⟨by omega, ?_⟩, SF.trans f2 fw, ?_⟩
        · rw [hsk]; exact RM_last hs y al
        · rw [if_neg (by omega), if_neg (by omega)]; exact gw
        · have := MU_last (n := n) (cs := cs) hs; omega
      · rw [if_neg (fun v => y ((eqm1 (by omega) (by omega)).mp v)), sq_eq, wi_s, nI_1, if_neg (nI_in (by omega) (by decide)), sq_eq, nI_clamp (by omega)]
        have hdn : RMD D set n lim cs e = RMD D set n lim (s :: cs) 0 := by
          rw [hsk]; exact RM_down hs (by omega) al
        have hm2 := MU_down (n := n) (cs := cs) hs (by omega)
        have f3 : SF h (wi (wi w 237 21 (nI (cs.length + 1))) (237 + 5) (cs.length + 1) (-1)) := SF.trans f2 (SF.trans fw (SF.trans (SF_w _ (by omega)) (SF_w _ (by omega))))
        have hd : HD (wi (wi w 237 21 (nI (cs.length + 1))) (237 + 5) (cs.length + 1) (-1)) q D n set lim (s :: cs) 0 := by
          obtain ⟨w0, w1, w2, w3, w4, w5, w6⟩ := gw
          have hl2 : (s :: cs).length = cs.length + 1 := rfl
          refine ⟨by omega, ?_, ?_, by omega, fun x hx => ?_, ?_, ?_, ?_⟩
          · refine GC_SF (SF.trans (SF_w _ (by omega)) (SF_w _ (by omega))) ?_ ?_ ?_ ?_ w0
            · rw [wi_k _ _ (by decide), wi_q _ _ (by omega)]
            · rw [wi_k _ _ (by decide), wi_q _ _ (by omega)]
            · rw [wi_k _ _ (by decide), wi_k _ _ (by decide)]
            · rw [wi_k _ _ (by decide), wi_k _ _ (by decide)]
          · rw [wi_k _ _ (by decide), wi_s, hl2]
          · rcases List.mem_cons.mp hx with r | r
            · omega
            · exact w3 x r
          · intro i hi
            rw [hl2] at hi
            rw [wi_q _ _ (by omega), wi_k _ _ (by decide), List.reverse_cons]
            by_cases v : i = cs.length
            · rw [v, w5]; simp
            · rw [w4 i (by omega), List.getD_eq_getElem?_getD, List.getD_eq_getElem?_getD, List.getElem?_append_left (by simp; omega)]
          · rw [hl2]; exact wi_s _ _ _ _
          · rw [wi_k _ _ (by decide), wi_k _ _ (by decide)]; exact w6
        rcases ih K _ (s :: cs) 0 (by omega) (by omega) hd with ⟨h', b1, b2, b3⟩ | ⟨c', cs', h', b1, b2, b3, b4, b5, b6⟩
        · exact Or.inl ⟨h', by rw [hdn]; exact b1, b2, SF.trans f3 b3⟩
        · exact Or.inr ⟨c', cs', h', by rw [hdn]; exact b1, b2, b3, b4, SF.trans f3 b5, by omega⟩
/-- the search stands so that L is still to be told -/
def ES (h : HS) (q : Nat) (D : Nat → Nat) (n set : Nat) (lim : Nat → Nat) (L : List (List Nat)) : Prop := GC h q D n set lim ∧
  ((n = 0 ∧ ((h.1 237 21 = 0 ∧ L = [[]]) ∨ (h.1 237 21 = -1 ∧ L = [])) ∧ ∀ s, s < 6 → h.1 243 s = 0) ∨
   (0 < n ∧ ∃ cs e, HD h q D n set lim cs e ∧ L = RMD D set n lim cs e ∧ MU n cs e ≤ 40000000))
/-- the search has just told x -/
def TD (h : HS) (q : Nat) (D : Nat → Nat) (n set : Nat) (lim : Nat → Nat) (x : List Nat) : Prop := GC h q D n set lim ∧ x.length = n ∧ (∀ c ∈ x, c < 6) ∧
  (∀ k, k < n → h.1 242 k = nI (x.getD k 0)) ∧ ∀ s, s < 6 → us (ord D) (lenD D) s 0 x ≤ lim s ∧ h.1 243 s = nI (us (ord D) (lenD D) s 0 x)
theorem TD_of {h : HS} {c : Nat} {cs : List Nat} (g : HD h q D n set lim cs (c + 1)) (hn : cs.length + 1 = n) : TD h q D n set lim (c :: cs).reverse := by
  obtain ⟨he, g0, g1, g2, g3, g4, g5, g6⟩ := g
  rw [if_neg (by omega)] at g5 g6
  rw [Nat.add_sub_cancel] at g5 g6
  refine ⟨g0, by simp; exact hn, ?_, ?_, ?_⟩
  · intro x hx
    rcases List.mem_cons.mp (List.mem_reverse.mp hx) with r | r
    · omega
    · exact g3 x r
  · intro k hk
    rw [List.reverse_cons]
    by_cases v : k = cs.length
    · rw [v, g5]; simp
    · rw [g4 k (by omega), List.getD_eq_getElem?_getD, List.getD_eq_getElem?_getD, List.getElem?_append_left (by simp; omega)]
  · intro s hs
    rw [us_rev]
    exact g6 s hs
theorem r_goesOn {h : HS} {L : List (List Nat)} (hN : 1000000000 ≤ N) (E : ES h q D n set lim L) :
    (L = [] ∧ ∃ h', X11_goesOn N h 237 = some (0, h') ∧ SF h h') ∨
    (∃ x L' h', L = x :: L' ∧ X11_goesOn N h 237 = some (1, h') ∧ SF h h' ∧ ES h' q D n set lim L' ∧ TD h' q D n set lim x) := by
  obtain ⟨g, E⟩ := E
  have hn := g.2.1
  unfold X11_goesOn
  rw [g.2.2.2.1]
  rcases E with ⟨e0, e1, e2⟩ | ⟨e0, cs, e, hd, rfl, hM⟩
  · subst e0
    rw [if_pos (show nI 0 = 0 from rfl), sq_eq, wi_s]
    have f : SF h (wi h 237 21 (h.1 237 21 - 1)) := SF_w _ (by omega)
    have gw : GC (wi h 237 21 (h.1 237 21 - 1)) q D 0 set lim := GC_SF f (wi_q _ _ (by omega)) (wi_q _ _ (by omega)) (wi_k _ _ (by decide)) (wi_k _ _ (by decide)) g
    rcases e1 with ⟨z1, z2⟩ | ⟨z1, z2⟩
    · right
      refine ⟨[], [], wi h 237 21 (h.1 237 21 - 1), z2, ?_, f, ⟨gw, Or.inl ⟨rfl, Or.inr ⟨by rw [wi_s, z1]; rfl, rfl⟩, fun s hs => by rw [wi_k _ _ (by decide)]; exact e2 s hs⟩⟩, gw, rfl, fun c hc => by simp at hc, fun k hk => by omega, fun s hs => ⟨Nat.zero_le _, by rw [wi_k _ _ (by decide)]; exact e2 s hs⟩⟩
      rw [if_pos (by rw [z1]; decide)]
      rfl
    · left
      refine ⟨z2, wi h 237 21 (h.1 237 21 - 1), ?_, f⟩
      rw [if_neg (by rw [z1]; decide)]
      rfl
  · rw [if_neg (nI_ne0 e0 (by omega))]
    rcases r_l31 (N := N) (by omega) 40000000 N h cs e hM (by omega) hd with ⟨h', b1, b2, b3⟩ | ⟨c, cs', h', b1, b2, b3, b4, b5, b6⟩
    · exact Or.inl ⟨b1, h', b2, b3⟩
    · exact Or.inr ⟨_, _, h', b1, b3, b5, ⟨b4.2.1, Or.inr ⟨e0, cs', c + 1, b4, rfl, by omega⟩⟩, TD_of b4 b2⟩
/-- whom the reference gives what breath -/
def limR (D : Nat → Nat) (more s : Nat) : Nat := if s < D 2 then D (51 + 3 * s) + more else 99999999
theorem r_laysRows {h : HS} (hN : 100 ≤ N) (c : RH h q D) {m more : Nat} (hm : m ≤ D 1) (hmo : more ≤ 30) (hset : set < 2 ^ 31) : ∃ h', X11_laysRows N h 237 (nI m) (nI set) (nI more) = some h' ∧ SF h h' ∧ ES h' q D (ctn D m) set (limR D more) (CL (ord D) (lenD D) (okR D set) (ctn D m) 0 (limR D more) 9) := by
  have hk := hk0 c.1
  have hct := ct_le D m
  have k1 : ∀ (r b fu : Nat) (h' : HS), b + r = m → r < fu → SF h h' → h'.1 237 20 = nI (ctn D b) → (∀ k, k < ctn D b → h'.1 241 k = nI (ord D k)) →
      ∃ h2, X11_laysRows_l8 N fu h' 237 (nI m) (nI set) (nI more) (nI b) = X11_laysRows_l56 N N h2 237 (nI set) (nI more) 0 ∧ SF h h2 ∧ h2.1 237 20 = nI (ctn D m) ∧ (∀ k, k < ctn D m → h2.1 241 k = nI (ord D k)) := by
    intro r
    induction r with
    | zero =>
      intro b fu h' e hf f e0 e1
      obtain ⟨fu, rfl, _⟩ := fuel hf
      have : b = m := by omega
      subst this
      refine ⟨h', ?_, f, e0, e1⟩
      rw [X11_laysRows_l8, if_pos (nI_le (by omega) (by omega))]
    | succ r ih =>
      intro b fu h' e hf f e0 e1
      obtain ⟨fu, rfl, _⟩ := fuel hf
      have hB := hkB c.1 (show b < D 1 by omega)
      have hcb := ct_le D b
      rw [X11_laysRows_l8, if_neg (nI_ge (by omega) (by omega)), r_noteOf (SF_rh f c) (by omega), bd1_some]
      by_cases z : D (17 + 4 * b) = 0
      · rw [z, if_pos (show nI 0 = 0 from rfl), nI_1]
        refine ih (b + 1) fu h' (by omega) (by omega) f ?_ ?_
        · rw [ct_rest z]; exact e0
        · rw [ct_rest z]; exact e1
      · rw [if_neg (nI_ne0 (by omega) (by omega)), e0, if_neg (nI_in (by omega) (by decide)), sq_eq, sq_eq, nI_clamp (by omega), nI_1]
        refine ih (b + 1) fu _ (by omega) (by omega) (SF.trans f (SF.trans (SF_w _ (by omega)) (SF_w _ (by omega)))) ?_ ?_
        · rw [wi_s, wi_k _ _ (by decide), e0, nI_1, ct_note z]
        · intro k hk
          rw [ct_note z] at hk
          rw [wi_k _ _ (by decide)]
          by_cases y : k = ctn D b
          · rw [y, ord_ct (by omega) z]; exact wi_s _ _ _ _
          · rw [show (237 + 4 : Nat) = 241 from rfl, wi_j _ _ y]; exact e1 k (by omega)
  have k2 : ∀ (r s fu : Nat) (h' : HS), s + r = 6 → r < fu → SF h h' → h'.1 237 20 = nI (ctn D m) → (∀ k, k < ctn D m → h'.1 241 k = nI (ord D k)) → (∀ t, t < s → h'.1 243 t = 0 ∧ h'.1 244 t = nI (limR D more t)) →
      ∃ h2, X11_laysRows_l56 N fu h' 237 (nI set) (nI more) (nI s) = some h2 ∧ SF h h2 ∧ h2.1 237 20 = nI (ctn D m) ∧ (∀ k, k < ctn D m → h2.1 241 k = nI (ord D k)) ∧ (∀ t, t < 6 → h2.1 243 t = 0 ∧ h2.1 244 t = nI (limR D more t)) ∧ h2.1 237 22 = nI set ∧ h2.1 237 21 = 0 ∧ h2.1 242 0 = -1 := by
    intro r
    induction r with
    | zero =>
      intro s fu h' e hf f e0 e1 e2
      obtain ⟨fu, rfl, _⟩ := fuel hf
      have : s = 6 := by omega
      subst this
      rw [X11_laysRows_l56, if_pos (by decide), sq_eq, sq_eq, if_neg (by decide), sq_eq]
      refine ⟨_, rfl, SF.trans f (SF.trans (SF_w _ (by omega)) (SF.trans (SF_w _ (by omega)) (SF_w _ (by omega)))), ?_, ?_, ?_, ?_, ?_, ?_⟩
      · rw [wi_k _ _ (by decide), wi_q _ _ (by omega), wi_q _ _ (by omega)]; exact e0
      · rw [wi_k _ _ (by decide), wi_k _ _ (by decide), wi_k _ _ (by decide)]; exact e1
      · rw [wi_k _ _ (by decide), wi_k _ _ (by decide), wi_k _ _ (by decide), wi_k _ _ (by decide), wi_k _ _ (by decide), wi_k _ _ (by decide)]; exact e2
      · rw [wi_k _ _ (by decide), wi_q _ _ (by omega), wi_s]
      · rw [wi_k _ _ (by decide), wi_s]
      · exact wi_s _ _ _ _
    | succ r ih =>
      intro s fu h' e hf f e0 e1 e2
      obtain ⟨fu, rfl, _⟩ := fuel hf
      have f9 : SF h (wi h' (237 + 6) s 0) := SF.trans f (SF_w _ (by omega))
      have step : ∀ v, v = nI (limR D more s) → ∃ h2, X11_laysRows_l56 N fu (wi (wi h' (237 + 6) s 0) (237 + 7) s v) 237 (nI set) (nI more) (nI (s + 1)) = some h2 ∧ SF h h2 ∧ h2.1 237 20 = nI (ctn D m) ∧ (∀ k, k < ctn D m → h2.1 241 k = nI (ord D k)) ∧ (∀ t, t < 6 → h2.1 243 t = 0 ∧ h2.1 244 t = nI (limR D more t)) ∧ h2.1 237 22 = nI set ∧ h2.1 237 21 = 0 ∧ h2.1 242 0 = -1 := by
        intro v hv
        refine ih (s + 1) fu _ (by omega) (by omega) (SF.trans f9 (SF_w _ (by omega))) ?_ ?_ ?_
        · rw [wi_k _ _ (by decide), wi_k _ _ (by decide)]; exact e0
        · rw [wi_k _ _ (by decide), wi_k _ _ (by decide)]; exact e1
        · intro t ht
          rw [wi_k (a := 243) _ _ (by decide)]
          by_cases y : t = s
          · subst y
            refine ⟨wi_s _ _ _ _, ?_⟩
            rw [← hv]; exact wi_s _ _ _ _
          · rw [wi_q _ _ (Or.inr y), wi_q _ _ (Or.inr y), wi_k (a := 244) _ _ (by decide)]
            exact e2 t (by omega)
      rw [X11_laysRows_l56, if_neg (show ¬ (6 : Int32) ≤ nI s from nI_ge (b := 6) (by omega) (by decide)), if_neg (nI_in (by omega) (by decide)), sq_eq, nI_clamp (by omega), rh2 (SF_rh f9 c)]
      by_cases z : s < D 2
      · have hS := hkS c.1 z
        rw [if_neg (nI_ge z (by omega)), r_breathOf (SF_rh f9 c) (by omega), bd1_some, if_neg (nI_ic (by omega) (by omega)), sq_eq, nI_1]
        exact step _ (by unfold limR; rw [if_pos z, nI_add])
      · rw [if_pos (nI_le (by omega) (by omega)), if_neg (nI_ic (by omega) (by omega)), sq_eq, nI_1]
        exact step _ (by unfold limR; rw [if_neg z]; rfl)
  unfold X11_laysRows
  rw [sq_eq]
  obtain ⟨h2, a1, a2, a3, a4⟩ := k1 m 0 N _ (by omega) (by omega) (SF_w (h := h) (k := 237) (j := 20) 0 (by omega)) (wi_s _ _ _ _) (fun k hk => by rw [ct_0] at hk; omega)
  rw [show (0 : Int32) = nI 0 from rfl] at a1 ⊢
  rw [a1]
  obtain ⟨h3, b1, b2, b3, b4, b5, b6, b7, b8⟩ := k2 6 0 N h2 (by omega) (by omega) a2 a3 a4 (fun t ht => by omega)
  refine ⟨h3, b1, b2, ⟨SF_rh b2 c, by omega, ?_, b3, b6, hset, b4, ?_⟩, ?_⟩
  · intro k hk
    have := (ord_lt (D := D) (b := m) (by omega) hk).1
    omega
  · intro s hs
    refine ⟨?_, (b5 s hs).2⟩
    unfold limR
    by_cases z : s < D 2
    · have := hkS c.1 z
      rw [if_pos z]; omega
    · rw [if_neg z]; omega
  · by_cases z : ctn D m = 0
    · left
      refine ⟨z, Or.inl ⟨b7, by rw [z]; rfl⟩, fun s hs => (b5 s hs).1⟩
    · right
      refine ⟨by omega, [], 0, ⟨by omega, ⟨SF_rh b2 c, by omega, ?_, b3, b6, hset, b4, ?_⟩, b7, by simp; omega, fun c hc => by simp at hc, fun i hi => by simp at hi, b8, ?_⟩, ?_, ?_⟩
      · intro k hk
        have := (ord_lt (D := D) (b := m) (by omega) hk).1
        omega
      · intro s hs
        refine ⟨?_, (b5 s hs).2⟩
        unfold limR
        by_cases z : s < D 2
        · have := hkS c.1 z
          rw [if_pos z]; omega
        · rw [if_neg z]; omega
      · intro s hs
        exact ⟨Nat.zero_le _, (b5 s hs).1⟩
      · exact (RM_0 (by omega)).symm
      · rw [MU]
        have := Nat.pow_le_pow_right (n := 7) (by decide) (show ctn D m ≤ 8 by omega)
        omega
end GO2
/-- the list of the reference's rotas -/
abbrev LR (D : Nat → Nat) (m set more : Nat) : List (List Nat) := CL (ord D) (lenD D) (okR D set) (ctn D m) 0 (limR D more) 9
theorem r_isRota {N : Nat} {h : HS} {q : Nat} {D : Nat → Nat} {m set more : Nat} (hN : 1000000000 ≤ N) (c : RH h q D) (hm : m ≤ D 1) (hmo : more ≤ 30) (hset : set < 2 ^ 31) :
    (LR D m set more = [] ∧ ∃ h', X11_isRota N h 237 (nI m) (nI set) (nI more) = some (0, h') ∧ SF h h') ∨
    (∃ x L' h', LR D m set more = x :: L' ∧ X11_isRota N h 237 (nI m) (nI set) (nI more) = some (1, h') ∧ SF h h' ∧ ES h' q D (ctn D m) set (limR D more) L' ∧ TD h' q D (ctn D m) set (limR D more) x) := by
  obtain ⟨h1, e1, f1, E⟩ := r_laysRows (N := N) (by omega) c hm hmo hset
  unfold X11_isRota
  rw [e1, bd1_some]
  rcases r_goesOn hN E with ⟨a1, h', a2, a3⟩ | ⟨x, L', h', a1, a2, a3, a4, a5⟩
  · left
    exact ⟨a1, h', by rw [a2, bd2_some]; rfl, SF.trans f1 a3⟩
  · right
    exact ⟨x, L', h', a1, by rw [a2, bd2_some]; rfl, SF.trans f1 a3, a4, a5⟩
