/-! ===== the world of the system: one heap, told by places ===== -/
/-! the cells of the system, by places: 0 is null; a kind (class 0 .. 11, arrays 12 bytes, 13 ints, 14 booleans, 15 .. 17 references), a length, what arrays of references hold -/
def shL : List Nat := [99, 10, 7, 12, 13, 15, 1, 13, 13, 13, 13, 13, 13, 13, 13, 13, 1, 13, 13, 13, 13, 13, 13, 13, 13, 13, 16, 6, 13, 13, 6, 13, 13, 16, 6, 13, 13, 6, 13, 13, 17, 7, 12, 13, 15, 1, 13, 13, 13, 13, 13, 13, 13, 13, 13, 1, 13, 13, 13, 13, 13, 13, 13, 13, 13, 16, 6, 13, 13, 6, 13, 13, 16, 6, 13, 13, 6, 13, 13, 7, 12, 13, 15, 1, 13, 13, 13, 13, 13, 13, 13, 13, 13, 1, 13, 13, 13, 13, 13, 13, 13, 13, 13, 16, 6, 13, 13, 6, 13, 13, 16, 6, 13, 13, 6, 13, 13, 7, 12, 13, 15, 1, 13, 13, 13, 13, 13, 13, 13, 13, 13, 1, 13, 13, 13, 13, 13, 13, 13, 13, 13, 16, 6, 13, 13, 6, 13, 13, 16, 6, 13, 13, 6, 13, 13, 14, 4, 1, 13, 13, 13, 13, 13, 13, 13, 13, 13, 6, 13, 13, 13, 5, 1, 13, 13, 13, 13, 13, 13, 13, 13, 13, 13, 13, 13, 3, 1, 13, 13, 13, 13, 13, 13, 13, 13, 13, 13, 13, 0, 1, 13, 13, 13, 13, 13, 13, 13, 13, 13, 13, 9, 1, 13, 13, 13, 13, 13, 13, 13, 13, 13, 8, 1, 13, 13, 13, 13, 13, 13, 13, 13, 13, 13, 13, 13, 2, 13, 11, 13, 14, 13, 13, 13, 13, 13, 13, 13, 13, 13, 13, 13, 13, 14, 13, 13, 13, 13]
def lnL : List Nat := [0, 0, 0, 600, 3, 2, 0, 6, 6, 8, 8, 8, 8, 5, 5, 5, 0, 6, 6, 8, 8, 8, 8, 5, 5, 5, 2, 0, 40, 40, 0, 40, 40, 2, 0, 8, 8, 0, 8, 8, 3, 0, 600, 3, 2, 0, 6, 6, 8, 8, 8, 8, 5, 5, 5, 0, 6, 6, 8, 8, 8, 8, 5, 5, 5, 2, 0, 40, 40, 0, 40, 40, 2, 0, 8, 8, 0, 8, 8, 0, 600, 3, 2, 0, 6, 6, 8, 8, 8, 8, 5, 5, 5, 0, 6, 6, 8, 8, 8, 8, 5, 5, 5, 2, 0, 40, 40, 0, 40, 40, 2, 0, 8, 8, 0, 8, 8, 0, 600, 3, 2, 0, 6, 6, 8, 8, 8, 8, 5, 5, 5, 0, 6, 6, 8, 8, 8, 8, 5, 5, 5, 2, 0, 40, 40, 0, 40, 40, 2, 0, 8, 8, 0, 8, 8, 3, 0, 0, 6, 6, 8, 8, 8, 8, 5, 5, 5, 0, 40, 40, 4, 0, 0, 6, 6, 8, 8, 8, 8, 5, 5, 5, 6, 8, 9, 0, 0, 6, 6, 8, 8, 8, 8, 5, 5, 5, 5, 5, 0, 0, 6, 6, 8, 8, 8, 8, 5, 5, 5, 8, 0, 0, 6, 6, 8, 8, 8, 8, 5, 5, 5, 0, 0, 6, 6, 8, 8, 8, 8, 5, 5, 5, 8, 10, 10, 0, 6, 0, 3736, 3, 81, 8, 8, 6, 6, 8, 8, 6, 6, 6, 6, 80, 80, 5, 5, 8, 6]
def NN : Nat := 257
def sh (k : Nat) : Nat := shL.getD k 99
def ln (k : Nat) : Nat := lnL.getD k 0
def raL : List (Nat × Nat × Nat) := [(5, 0, 6), (5, 1, 16), (26, 0, 27), (26, 1, 30), (33, 0, 34), (33, 1, 37), (40, 0, 41), (40, 1, 79), (40, 2, 117), (44, 0, 45), (44, 1, 55), (65, 0, 66), (65, 1, 69), (72, 0, 73), (72, 1, 76), (82, 0, 83), (82, 1, 93), (103, 0, 104), (103, 1, 107), (110, 0, 111), (110, 1, 114), (120, 0, 121), (120, 1, 131), (141, 0, 142), (141, 1, 145), (148, 0, 149), (148, 1, 152)]
def ra (k i : Nat) : Nat := match raL.find? (fun q => q.1 == k && q.2.1 == i) with | some q => q.2.2 | none => 0
def fkL : List (List Nat) := [[1, 13], [0, 0, 0, 0, 0, 3, 4, 5, 6, 7, 8, 9, 10, 11], [3, 0], [1, 0, 0, 0, 0, 0, 0, 0, 0, 0, 0, 13, 14, 0, 0, 0, 0, 0, 0], [3, 13, 0, 0, 1, 0, 0, 0, 0, 0, 16], [1, 0, 0, 13, 14, 15], [0, 3, 4, 0], [3, 0, 0, 0, 4, 5, 26, 33], [1, 13, 14, 15], [1, 0, 0, 0, 0, 0], [3, 41, 156, 157, 172, 186, 199, 211, 222, 236], [3, 4, 0, 0, 0, 0, 0, 0, 0, 0, 0, 5, 0, 0, 0, 0, 6, 7, 8, 9, 0, 0, 0, 10, 11, 12, 13, 14, 15, 0, 16, 17, 0, 0, 0, 0, 0, 0, 0, 0, 0, 0, 0, 0, 0, 18, 19, 20, 0, 21, 0]]
def fk (c : Nat) : List Nat := fkL.getD c []
def NLq : List (String × Nat × MethodName × String) := [("LullabyHouse", 9, ⟨"LullabyHouse$Told", "<init>", "()V"⟩, "LullabyHouse"), ("LullabyHouse$Told", 31, ⟨"LullabyHouse$House", "<init>", "()V"⟩, "LullabyHouse"), ("LullabyHouse", 26, ⟨"LullabyHouse$Reader", "<init>", "()V"⟩, "LullabyHouse"), ("LullabyHouse$Reader", 11, ⟨"LullabyHouse$House", "<init>", "()V"⟩, "LullabyHouse"), ("LullabyHouse", 33, ⟨"LullabyHouse$Rota", "<init>", "()V"⟩, "LullabyHouse"), ("LullabyHouse$Rota", 11, ⟨"LullabyHouse$House", "<init>", "()V"⟩, "LullabyHouse"), ("LullabyHouse", 40, ⟨"LullabyHouse$Night", "<init>", "()V"⟩, "LullabyHouse"), ("LullabyHouse$Night", 11, ⟨"LullabyHouse$House", "<init>", "()V"⟩, "LullabyHouse"), ("LullabyHouse", 47, ⟨"LullabyHouse$Chance", "<init>", "()V"⟩, "LullabyHouse"), ("LullabyHouse$Chance", 11, ⟨"LullabyHouse$House", "<init>", "()V"⟩, "LullabyHouse"), ("LullabyHouse", 54, ⟨"LullabyHouse$Tussle", "<init>", "()V"⟩, "LullabyHouse"), ("LullabyHouse$Tussle", 11, ⟨"LullabyHouse$House", "<init>", "()V"⟩, "LullabyHouse"), ("LullabyHouse", 61, ⟨"LullabyHouse$Tunes", "<init>", "()V"⟩, "LullabyHouse"), ("LullabyHouse$Tunes", 11, ⟨"LullabyHouse$House", "<init>", "()V"⟩, "LullabyHouse"), ("LullabyHouse", 68, ⟨"LullabyHouse$Morning", "<init>", "()V"⟩, "LullabyHouse"), ("LullabyHouse$Reader", 89, ⟨"LullabyHouse", "at", "([II)I"⟩, "LullabyHouse"), ("LullabyHouse$Rows", 29, ⟨"LullabyHouse", "at", "([II)I"⟩, "LullabyHouse"), ("LullabyHouse$Night", 90, ⟨"LullabyHouse", "at", "([II)I"⟩, "LullabyHouse"), ("LullabyHouse$Rota", 45, ⟨"LullabyHouse", "at", "([II)I"⟩, "LullabyHouse"), ("LullabyHouse$Chance", 40, ⟨"LullabyHouse", "at", "([II)I"⟩, "LullabyHouse"), ("LullabyHouse$Tussle", 55, ⟨"LullabyHouse", "at", "([II)I"⟩, "LullabyHouse"), ("LullabyHouse$Tunes", 38, ⟨"LullabyHouse", "at", "([II)I"⟩, "LullabyHouse"), ("LullabyHouse$Tunes", 74, ⟨"LullabyHouse", "bitAt", "(II)I"⟩, "LullabyHouse"), ("LullabyHouse$Morning", 43, ⟨"LullabyHouse", "at", "([II)I"⟩, "LullabyHouse"), ("LullabyHouse$House", 86, ⟨"LullabyHouse", "at", "([II)I"⟩, "LullabyHouse")]
/-- the system's data: ints by place and slot; the one reference that may change, by place -/
abbrev HS : Type := (Nat → Nat → Int32) × (Nat → Nat)
def wi (h : HS) (k j : Nat) (x : Int32) : HS := (fun a b => if a = k then (if b = j then x else h.1 a b) else h.1 a b, h.2)
def wa (h : HS) (k : Nat) (f : Nat → Int32) : HS := (fun a b => if a = k then f b else h.1 a b, h.2)
def wr (h : HS) (k q : Nat) : HS := (h.1, fun a => if a = k then q else h.2 a)
/-- what a launch fixes: class numbers and slots; addresses by place; array classes; what is said of statics -/
abbrev GT : Type := va_G × (Nat → Nat) × (Nat → ClassId) × Unit
def ad (G : GT) (k : Nat) : Nat := G.2.1 k
def rfv (G : GT) (r : Nat) : Value := if r = 0 then .null else .ref (ad G r)
def fv (G : GT) (h : HS) (k j code : Nat) : Value := if code = 0 then .int (h.1 k j) else if code = 1 then rfv G (h.2 k) else .ref (ad G (k + (code - 2)))
def fsO (G : GT) (h : HS) (k c : Nat) : List Value := (fk c).mapIdx (fun j code => fv G h k j code)
def cellO (G : GT) (h : HS) (k : Nat) : va_E := if sh k < 12 then .inr (sh k, fsO G h k (sh k)) else if sh k < 15 then .inl (G.2.2.1 (sh k), ln k, .inl (h.1 k)) else .inl (G.2.2.1 (sh k), ln k, .inr (.inr (.inr (.inr (fun i => some (ad G (ra k i)))))))
def wsO (G : GT) (h : HS) : va_W := (List.range (NN - 1)).map (fun i => (ad G (i + 1), cellO G h (i + 1)))
def tysO (G : GT) : List (ClassId × FieldType) := [(G.2.2.1 12, .byte), (G.2.2.1 13, .int), (G.2.2.1 14, .boolean), (G.2.2.1 15, .object RX1), (G.2.2.1 16, .object RX6), (G.2.2.1 17, .object RX7)]
def AD (G : GT) : Nat → Prop := fun q => ∃ k, 0 < k ∧ k < NN ∧ ad G k = q
def GI (G : GT) : Prop := ∀ i j, 0 < i → i < NN → 0 < j → j < NN → ad G i = ad G j → i = j
def WR (h : HS) : Prop := ∀ k, (sh k = 0 ∨ sh k = 3 ∨ sh k = 5 ∨ sh k = 8 ∨ sh k = 9 → sh (h.2 k) = 1) ∧ (sh k = 4 → h.2 k = 0 ∨ sh (h.2 k) = 12) ∧ (sh k = 12 → ∀ i, fits .byte (.int (h.1 k i)) = true)
/-- the links of nest mates -/
def NL (U : State) : Prop := ∀ q ∈ NLq, va_Nw (.methodLinkNest q.1 q.2.1 q.2.2.1 q.2.2.2) U
/-- the Reader's tables and words: places 300 .. of arrays, 310 .. of Strings, 330 .. of their bytes -/
def stN : List String := ["NUMBERS", "LEAST", "MOST"]
def stT : List (List Int32) := [[2, 4, 3, 1, 1, 1, 1, 1, 0, 0, 1, 1], [0, 1, 0, 0, 0, 1, 0, 0, 1, 1, 1, 0, 0, 0, 0, 0, 0, 0, 0, 0, 0, 0, 0, 0, 0, 0, 0, 0, 0, 0, 0, 0, 0, 0, 0, 0, 0, 0, 0, 0, 0, 0, 0, 0, 0, 0, 0, 0], [20, 9, 0, 0, 9, 4, 5, 10, 9, 9, 20, 0, 9, 0, 0, 0, 7, 0, 0, 0, 4, 0, 0, 0, 4, 0, 0, 0, 4, 0, 0, 0, 0, 0, 0, 0, 0, 0, 0, 0, 5, 0, 0, 0, 5, 0, 0, 0]]
def stV (q j : Nat) : Int32 := (stT.getD q []).getD j 0
def stL (q : Nat) : Nat := (stT.getD q []).length
def sTx : List String := ["floor", "bar", "singer", "step", "wall", "sing", "cold", "well", "skip", "night", "dreamt", "calm"]
def sIx : List Nat := [142, 144, 146, 148, 149, 151, 153, 155, 157, 159, 161, 163]
def sByt : List (List Int32) := [[102, 108, 111, 111, 114], [98, 97, 114], [115, 105, 110, 103, 101, 114], [115, 116, 101, 112], [119, 97, 108, 108], [115, 105, 110, 103], [99, 111, 108, 100], [119, 101, 108, 108], [115, 107, 105, 112], [110, 105, 103, 104, 116], [100, 114, 101, 97, 109, 116], [99, 97, 108, 109]]
def sLen : List Nat := [5, 3, 6, 4, 4, 4, 4, 4, 4, 5, 6, 4]
def SA (G : GT) (U : State) : Prop := (∀ q, q < 3 → va_Z RX4 (stN.getD q "") "[I" (.ref (ad G (300 + q))) (AD G) U U.heap ∧ va_T .int (ad G (300 + q)) (stL q) (fun j => .int (stV q j)) (AD G) U U.heap) ∧ va_Z "java/lang/String" "COMPACT_STRINGS" "Z" (.int 1) (AD G) U U.heap ∧ va_Zq "jdk/internal/util/Preconditions" "SIOOBE_FORMATTER" "Ljava/util/function/BiFunction;" (AD G) U U.heap ∧ vk_S 12 sLen sByt (fun i => ad G (310 + i)) (fun i => ad G (330 + i)) (AD G) U U.heap
def KR (G : GT) (U : State) : Prop := ∀ i, i < 12 → vk_R RX4 (sIx.getD i 0) (sTx.getD i "") (ad G (310 + i)) U
/-- what is said of statics, constants, links at a state -/
def SV (G : GT) (U : State) : Prop := SA G U ∧ NL U ∧ KR G U
theorem va_Zq.keptq {C n d : String} {A : Nat → Prop} {U : State} {H H1 : Heap} (h : va_Zq C n d A U H) (hq : ∀ a : Nat, a < H.size → ¬ A a → H1[a]? = H[a]?) : va_Zq C n d A U H1 := by
  rcases h with h | ⟨t, h⟩
  · exact Or.inl (h.kept hq)
  · exact Or.inr ⟨t, h.kept hq⟩
theorem SV_to {G : GT} {s t : State} (hW : s.WarmedH t.vm) (hq : ∀ q : Nat, q < s.heap.size → ¬ AD G q → t.heap[q]? = s.heap[q]?) (h : SV G s) : SV G t := by
  obtain ⟨⟨h1, h2, h3, h4⟩, h5, h6⟩ := h
  exact ⟨⟨fun q z => ⟨va_Z.moved hW.alike ((h1 q z).1.kept hq), va_T.moved hW.alike ((h1 q z).2.kept hq)⟩, va_Z.moved hW.alike (h2.kept hq), va_Zq.moved hW.alike (h3.keptq hq), vk_S.moved hW.alike (h4.kept hq)⟩, fun q hq => va_Nw.warmM hW (h5 q hq), fun i hi => vk_R.warm hW (h6 i hi)⟩
theorem SV_same {G : GT} {s t : State} (hv : t.vm = s.vm) (hh : t.heap = s.heap) (h : SV G s) : SV G t := by
  obtain ⟨⟨h1, h2, h3, h4⟩, h5, h6⟩ := h
  have al : s.vm.Alike t.vm := by rw [hv]; exact Vm.Alike.refl _
  refine ⟨⟨fun q z => ⟨?_, ?_⟩, ?_, ?_, ?_⟩, fun q hq => va_Nw.same rfl hv.symm (h5 q hq), fun i hi => vk_R.same hv (h6 i hi)⟩
  · rw [hh]; exact va_Z.moved al (h1 q z).1
  · rw [hh]; exact va_T.moved al (h1 q z).2
  · rw [hh]; exact va_Z.moved al h2
  · rw [hh]; exact va_Zq.moved al h3
  · rw [hh]; exact vk_S.moved al h4
/-- a state that holds the data h -/
def WH (G : GT) (h : HS) (U : State) : Prop := va_P G.1 vwCl (wsO G h) U.heap ∧ va_K G.1 vwCl (tysO G) U ∧ GI G ∧ WR h ∧ SV G U
/-- within a method that began at s: the heap now -/
def WD (G : GT) (s : State) (h : HS) (H : Heap) (locs : List Loc) : Prop := va_P G.1 vwCl (wsO G h) H ∧ va_K G.1 vwCl (tysO G) s ∧ GI G ∧ WR h ∧ SV G s ∧ va_S (AD G) s.heap H locs
theorem shL_len : shL.length = NN := by decide +kernel
theorem sh_lt {k : Nat} (h : sh k ≠ 99) : k < NN := by
  rcases Nat.lt_or_ge k NN with q | q
  · exact q
  · exact absurd (by unfold sh; rw [List.getD_eq_getElem?_getD, List.getElem?_eq_none (by rw [shL_len]; exact q)]; rfl) h
theorem sh_pos {k : Nat} (h : sh k ≠ 99) : 0 < k := by
  rcases Nat.eq_zero_or_pos k with q | q
  · subst q; exact absurd rfl h
  · exact q
theorem ws_at (G : GT) (h : HS) {k : Nat} (hk : sh k ≠ 99) : (wsO G h)[k - 1]? = some (ad G k, cellO G h k) := by
  have h1 := sh_lt hk
  have h2 := sh_pos hk
  unfold wsO
  rw [List.getElem?_map, List.getElem?_range (by omega)]
  show some (ad G (k - 1 + 1), cellO G h (k - 1 + 1)) = _
  rw [show k - 1 + 1 = k by omega]
theorem ws_set (G : GT) (h h' : HS) {k : Nat} (hk : sh k ≠ 99) {x : va_E} (hx : cellO G h' k = x) (ho : ∀ j, j ≠ k → cellO G h' j = cellO G h j) : (wsO G h).set (k - 1) (ad G k, x) = wsO G h' := by
  have h1 := sh_lt hk
  have h2 := sh_pos hk
  apply List.ext_getElem?
  intro i
  rw [List.getElem?_set]
  unfold wsO
  simp only [List.length_map, List.length_range, List.getElem?_map]
  by_cases hi : k - 1 = i
  · subst hi
    rw [if_pos rfl, if_pos (by omega), List.getElem?_range (by omega)]
    show _ = some (ad G (k - 1 + 1), cellO G h' (k - 1 + 1))
    rw [show k - 1 + 1 = k by omega, hx]
  · rw [if_neg hi]
    rcases Nat.lt_or_ge i (NN - 1) with q | q
    · rw [List.getElem?_range q]
      show some (ad G (i + 1), cellO G h (i + 1)) = some (ad G (i + 1), cellO G h' (i + 1))
      rw [ho (i + 1) (by omega)]
    · rw [List.getElem?_eq_none (by simpa using q)]
      rfl
theorem ws_D {G : GT} (hG : GI G) (h : HS) : va_D (AD G) (wsO G h) := by
  have at' : ∀ (i : Nat) (q : Nat × va_E), (wsO G h)[i]? = some q → i < NN - 1 ∧ q.1 = ad G (i + 1) := by
    intro i q hq
    unfold wsO at hq
    rw [List.getElem?_map] at hq
    rcases Nat.lt_or_ge i (NN - 1) with z | z
    · rw [List.getElem?_range z] at hq
      cases hq
      exact ⟨z, rfl⟩
    · rw [List.getElem?_eq_none (by simpa using z)] at hq
      cases hq
  refine ⟨fun i j p q hp hq e => ?_, fun k q hq => ?_⟩
  · obtain ⟨a1, a2⟩ := at' i p hp
    obtain ⟨b1, b2⟩ := at' j q hq
    have := hG (i + 1) (j + 1) (by omega) (by omega) (by omega) (by omega) (by rw [← a2, ← b2, e])
    omega
  · obtain ⟨a1, a2⟩ := at' k q hq
    exact ⟨k + 1, by omega, by omega, a2.symm⟩
theorem fs_at (G : GT) (h : HS) {k c j code : Nat} (hk : (fk c)[j]? = some code) : (fsO G h k c)[j]? = some (fv G h k j code) := by
  unfold fsO
  rw [List.getElem?_mapIdx, hk]
  rfl
theorem fs_len (G : GT) (h : HS) (k c : Nat) : (fsO G h k c).length = (fk c).length := by
  unfold fsO
  rw [List.length_mapIdx]
theorem cell_o (G : GT) (h : HS) {k c : Nat} (hs : sh k = c) (hc : c < 12) : cellO G h k = .inr (c, fsO G h k c) := by
  unfold cellO
  rw [hs, if_pos hc]
theorem cell_i (G : GT) (h : HS) {k c : Nat} (hs : sh k = c) (h1 : 12 ≤ c) (h2 : c < 15) : cellO G h k = .inl (G.2.2.1 c, ln k, .inl (h.1 k)) := by
  unfold cellO
  rw [hs, if_neg (by omega), if_pos h2]
theorem cell_r (G : GT) (h : HS) {k c : Nat} (hs : sh k = c) (h1 : 15 ≤ c) : cellO G h k = .inl (G.2.2.1 c, ln k, .inr (.inr (.inr (.inr (fun i => some (ad G (ra k i))))))) := by
  unfold cellO
  rw [hs, if_neg (by omega), if_neg (by omega)]
theorem wi_o (G : GT) (h : HS) {k j : Nat} (x : Int32) {a : Nat} (ha : a ≠ k) : cellO G (wi h k j x) a = cellO G h a := by
  have e : (wi h k j x).1 a = h.1 a := by funext b; simp [wi, ha]
  have f : ∀ c, fsO G (wi h k j x) a c = fsO G h a c := by
    intro c
    unfold fsO fv
    simp only [e]
    rfl
  unfold cellO
  rw [e, f]
theorem wi_fs (G : GT) (h : HS) {k j c : Nat} (x : Int32) (hk : (fk c)[j]? = some 0) : (fsO G h k c).set j (.int x) = fsO G (wi h k j x) k c := by
  apply List.ext_getElem?
  intro i
  rw [List.getElem?_set]
  by_cases hi : j = i
  · subst hi
    rw [if_pos rfl, fs_len, if_pos (List.getElem?_eq_some_iff.mp hk).1, fs_at G (wi h k j x) hk]
    simp [fv, wi]
  · rw [if_neg hi]
    unfold fsO
    rw [List.getElem?_mapIdx, List.getElem?_mapIdx]
    congr 1
    funext code
    simp [fv, wi, Ne.symm hi]
theorem wr_o (G : GT) (h : HS) {k q : Nat} {a : Nat} (ha : a ≠ k) : cellO G (wr h k q) a = cellO G h a := by
  have f : ∀ c, fsO G (wr h k q) a c = fsO G h a c := by
    intro c
    unfold fsO fv
    simp [wr, ha]
  unfold cellO
  rw [f]
  rfl
/-- a class has one reference that may change -/
def one1 (c : Nat) : Bool := ((List.range (fk c).length).filter (fun j => (fk c)[j]? == some 1)).length == 1
theorem wr_fs (G : GT) (h : HS) {k j c q : Nat} (hk : (fk c)[j]? = some 1) (hu : ∀ i, (fk c)[i]? = some 1 → i = j) : (fsO G h k c).set j (rfv G q) = fsO G (wr h k q) k c := by
  apply List.ext_getElem?
  intro i
  rw [List.getElem?_set]
  by_cases hi : j = i
  · subst hi
    rw [if_pos rfl, fs_len, if_pos (List.getElem?_eq_some_iff.mp hk).1, fs_at G (wr h k q) hk]
    simp [fv, wr]
  · rw [if_neg hi]
    unfold fsO
    rw [List.getElem?_mapIdx, List.getElem?_mapIdx]
    cases hc : (fk c)[i]? with
    | none => rfl
    | some code =>
      have h1 : code ≠ 1 := fun e => hi (hu i (by rw [hc, e])).symm
      simp [fv, wr, h1]
theorem wi_a (h : HS) (k i : Nat) (x : Int32) : (wi h k i x).1 k = upd (h.1 k) i x := by
  funext b
  simp [wi, upd]
theorem wa_a (h : HS) (k : Nat) (f : Nat → Int32) : (wa h k f).1 k = f := by
  funext b
  simp [wa]
theorem wa_o (G : GT) (h : HS) {k : Nat} (f : Nat → Int32) {a : Nat} (ha : a ≠ k) : cellO G (wa h k f) a = cellO G h a := by
  have e : (wa h k f).1 a = h.1 a := by funext b; simp [wa, ha]
  have g : ∀ c, fsO G (wa h k f) a c = fsO G h a c := by
    intro c
    unfold fsO fv
    simp only [e]
    rfl
  unfold cellO
  rw [e, g]
/-- a field's link: own's pool number idx is field j of class ci, of kind code -/
def FL (own : String) (idx ci j code : Nat) : Prop := ∃ (C : String) (T : u_T) (N : Nat), vwCl[ci]? = some (C, T, N) ∧ (∀ w ∈ u_ws C T N, w ∈ UW) ∧ (fk ci)[j]? = some code ∧ j < N ∧ ci < 12 ∧ Cond.fieldLink own idx (T j).1 (T j).2.1 (T j).2.2.1 ∈ UW
/-- and what a write asks -/
def FP (ci j : Nat) (v : Value) : Prop := ∃ (C : String) (T : u_T) (N : Nat) (ty0 : Nat → FieldType), vwCl[ci]? = some (C, T, N) ∧ (∀ k, k < N → parseFieldDescriptor (T k).2.2.1 = some (ty0 k)) ∧ (∀ a, a < N → ∀ b, b < N → a ≠ b → (T a).2.1 ≠ (T b).2.1) ∧ (T j).2.2.2 = false ∧ narrow (ty0 j) v = v ∧ fits (ty0 j) v = true
theorem WR_wi {h : HS} (hR : WR h) {k j : Nat} (x : Int32) (hk : sh k ≠ 12) : WR (wi h k j x) := by
  intro a
  obtain ⟨h1, h2, h3⟩ := hR a
  refine ⟨h1, h2, fun ha i => ?_⟩
  have hn : a ≠ k := fun e => hk (e ▸ ha)
  have := h3 ha i
  simpa only [wi, if_neg hn] using this
theorem WR_wib {h : HS} (hR : WR h) {k j : Nat} (x : Int32) (hx : fits .byte (.int x) = true) : WR (wi h k j x) := by
  intro a
  obtain ⟨h1, h2, h3⟩ := hR a
  refine ⟨h1, h2, fun ha i => ?_⟩
  by_cases hn : a = k
  · by_cases hi : i = j
    · simpa only [wi, hn, hi, if_true] using hx
    · have := h3 ha i
      simpa only [wi, hn, hi, if_true, if_false] using (hn ▸ this)
  · have := h3 ha i
    simpa only [wi, if_neg hn] using this
theorem WR_wa {h : HS} (hR : WR h) {k : Nat} {f : Nat → Int32} (hf : sh k = 12 → ∀ i, fits .byte (.int (f i)) = true) : WR (wa h k f) := by
  intro a
  obtain ⟨h1, h2, h3⟩ := hR a
  refine ⟨h1, h2, fun ha i => ?_⟩
  by_cases hn : a = k
  · subst hn
    simpa only [wa, if_true] using hf ha i
  · have := h3 ha i
    simpa only [wa, if_neg hn] using this
section QR
variable {p : Program} {l : Launch} {e : Env} {R : Room} {s : State} {m : MethodId} {args : Array Value} {below : List Frame} {meth : Method} {c : Code} {H : Heap} {locs : List Loc} {cells slots : Nat} {Q : State → Prop} {cc : ByteArray} {nL : Nat} {own : String} {pc : Nat} {ls : Array Slot} {rest : List Value} {G : GT} {h : HS}
theorem q_get (E : CallFix p m c cc nL s args UW own) (w : WD G s h H locs) {ci j code idx k : Nat} (hs : sh k = ci) (hF : FL own idx ci j code) (d : decode cc pc = .ok (.getfield idx, 3))
    (kk : W p l e R s m args below meth c H locs cells slots Q (F0 m (pc + 3) ls (fv G h k j code :: rest))) : W p l e R s m args below meth c H locs cells slots Q (F0 m pc ls (.ref (ad G k) :: rest)) := by
  obtain ⟨hx, hb, hml, hown, hts⟩ := E
  obtain ⟨C, T, N, h1, h2, h3, h4, h5, h6⟩ := hF
  obtain ⟨hP, hK, -⟩ := w
  have hne : sh k ≠ 99 := by omega
  exact va_get (D := G.1) (cl := vwCl) (ci := ci) (v := fv G h k j code) (C := C) (T := T) (N := N) hx hb hts h2 hown hK hP (k - 1) (by rw [ws_at G h hne, cell_o G h hs h5]) h1 j h4 (hts _ h6) (fun _ h9 => h9) (fs_at G h h3) d kk
theorem q_gi (E : CallFix p m c cc nL s args UW own) (w : WD G s h H locs) {ci j idx k : Nat} (hs : sh k = ci) (hF : FL own idx ci j 0) (d : decode cc pc = .ok (.getfield idx, 3))
    (kk : W p l e R s m args below meth c H locs cells slots Q (F0 m (pc + 3) ls (.int (h.1 k j) :: rest))) : W p l e R s m args below meth c H locs cells slots Q (F0 m pc ls (.ref (ad G k) :: rest)) :=
  q_get E w hs hF d kk
theorem q_gs (E : CallFix p m c cc nL s args UW own) (w : WD G s h H locs) {ci j idx k : Nat} (o : Nat) (hs : sh k = ci) (hF : FL own idx ci j (o + 2)) (d : decode cc pc = .ok (.getfield idx, 3))
    (kk : W p l e R s m args below meth c H locs cells slots Q (F0 m (pc + 3) ls (.ref (ad G (k + o)) :: rest))) : W p l e R s m args below meth c H locs cells slots Q (F0 m pc ls (.ref (ad G k) :: rest)) := by
  refine q_get E w hs hF d ?_
  rw [show fv G h k j (o + 2) = .ref (ad G (k + o)) from by simp [fv]]
  exact kk
theorem q_gm (E : CallFix p m c cc nL s args UW own) (w : WD G s h H locs) {ci j idx k : Nat} (hs : sh k = ci) (hF : FL own idx ci j 1) (d : decode cc pc = .ok (.getfield idx, 3))
    (kk : W p l e R s m args below meth c H locs cells slots Q (F0 m (pc + 3) ls (rfv G (h.2 k) :: rest))) : W p l e R s m args below meth c H locs cells slots Q (F0 m pc ls (.ref (ad G k) :: rest)) :=
  q_get E w hs hF d kk
theorem rfv_p (G : GT) {r : Nat} (hr : sh r ≠ 99) : rfv G r = .ref (ad G r) := by
  unfold rfv
  rw [if_neg (by have := sh_pos hr; omega)]
theorem q_gh (E : CallFix p m c cc nL s args UW own) (w : WD G s h H locs) {ci j idx k : Nat} (hs : sh k = ci) (hci : ci = 0 ∨ ci = 3 ∨ ci = 5 ∨ ci = 8 ∨ ci = 9) (hF : FL own idx ci j 1) (d : decode cc pc = .ok (.getfield idx, 3))
    (kk : sh (h.2 k) = 1 → W p l e R s m args below meth c H locs cells slots Q (F0 m (pc + 3) ls (.ref (ad G (h.2 k)) :: rest))) : W p l e R s m args below meth c H locs cells slots Q (F0 m pc ls (.ref (ad G k) :: rest)) := by
  have h1 : sh (h.2 k) = 1 := (w.2.2.2.1 k).1 (by omega)
  refine q_gm E w hs hF d ?_
  rw [rfv_p G (by omega)]
  exact kk h1
theorem q_pi (E : CallFix p m c cc nL s args UW own) (w : WD G s h H locs) {ci j idx k : Nat} {x : Int32} (hs : sh k = ci) (hF : FL own idx ci j 0) (hp : FP ci j (.int x)) (d : decode cc pc = .ok (.putfield idx, 3))
    (kk : ∀ (H1 : Heap) (locs1 : List Loc), WD G s (wi h k j x) H1 locs1 → W p l e R s m args below meth c H1 locs1 cells slots Q (F0 m (pc + 3) ls rest)) : W p l e R s m args below meth c H locs cells slots Q (F0 m pc ls (.int x :: .ref (ad G k) :: rest)) := by
  obtain ⟨hx, hb, hml, hown, hts⟩ := E
  obtain ⟨C, T, N, h1, h2, h3, h4, h5, h6⟩ := hF
  obtain ⟨C', T', N', ty0, g1, g2, g3, g4, g5, g6⟩ := hp
  obtain ⟨rfl, rfl, rfl⟩ : C' = C ∧ T' = T ∧ N' = N := by
    have := Option.some.inj (g1.symm.trans h1)
    exact ⟨congrArg Prod.fst this, congrArg (fun q => q.2.1) this, congrArg (fun q => q.2.2) this⟩
  obtain ⟨hP, hK, hG, hR, hst, hS⟩ := w
  have hne : sh k ≠ 99 := by omega
  refine va_put (D := G.1) (cl := vwCl) (ci := ci) (v := .int x) (ty := ty0 j) (C := C') (T := T') (N := N') hx hb hts h2 ty0 g2 g3 hown hK hP (ws_D hG h) hS (k - 1) (by rw [ws_at G h hne, cell_o G h hs h5]) h1 j h4 (hts _ h6) (fun _ h9 => h9) g4 (g2 j h4) g5 g6 (by rw [fs_len]; exact (List.getElem?_eq_some_iff.mp h3).1) d (fun H1 locs1 q1 q2 q3 => ?_)
  have e : (wsO G h).set (k - 1) (ad G k, .inr (ci, (fsO G h k ci).set j (.int x))) = wsO G (wi h k j x) := ws_set G h _ hne (by rw [cell_o G _ hs h5, wi_fs G h x h3]) (fun a ha => wi_o G h x ha)
  rw [e] at q1
  exact kk H1 locs1 ⟨q1, hK, hG, WR_wi hR x (by omega), hst, q3⟩
theorem q_pr (E : CallFix p m c cc nL s args UW own) (w : WD G s h H locs) {ci j idx k q : Nat} (hs : sh k = ci) (hF : FL own idx ci j 1) (hu : ∀ i, (fk ci)[i]? = some 1 → i = j) (hp : FP ci j (.ref (ad G q))) (hq : (ci = 4 → sh q = 12) ∧ (ci ≠ 4 → sh q = 1)) (d : decode cc pc = .ok (.putfield idx, 3))
    (kk : ∀ (H1 : Heap) (locs1 : List Loc), WD G s (wr h k q) H1 locs1 → W p l e R s m args below meth c H1 locs1 cells slots Q (F0 m (pc + 3) ls rest)) : W p l e R s m args below meth c H locs cells slots Q (F0 m pc ls (.ref (ad G q) :: .ref (ad G k) :: rest)) := by
  obtain ⟨hx, hb, hml, hown, hts⟩ := E
  obtain ⟨C, T, N, h1, h2, h3, h4, h5, h6⟩ := hF
  obtain ⟨C', T', N', ty0, g1, g2, g3, g4, g5, g6⟩ := hp
  obtain ⟨rfl, rfl, rfl⟩ : C' = C ∧ T' = T ∧ N' = N := by
    have := Option.some.inj (g1.symm.trans h1)
    exact ⟨congrArg Prod.fst this, congrArg (fun q => q.2.1) this, congrArg (fun q => q.2.2) this⟩
  obtain ⟨hP, hK, hG, hR, hst, hS⟩ := w
  have hne : sh k ≠ 99 := by omega
  have hqn : sh q ≠ 99 := by
    rcases Nat.decEq ci 4 with z | z
    · have := hq.2 z; omega
    · have := hq.1 z; omega
  refine va_put (D := G.1) (cl := vwCl) (ci := ci) (v := .ref (ad G q)) (ty := ty0 j) (C := C') (T := T') (N := N') hx hb hts h2 ty0 g2 g3 hown hK hP (ws_D hG h) hS (k - 1) (by rw [ws_at G h hne, cell_o G h hs h5]) h1 j h4 (hts _ h6) (fun _ h9 => h9) g4 (g2 j h4) g5 g6 (by rw [fs_len]; exact (List.getElem?_eq_some_iff.mp h3).1) d (fun H1 locs1 q1 q2 q3 => ?_)
  have e : (wsO G h).set (k - 1) (ad G k, .inr (ci, (fsO G h k ci).set j (.ref (ad G q)))) = wsO G (wr h k q) := ws_set G h _ hne (by rw [cell_o G _ hs h5, ← rfv_p G hqn, wr_fs G h h3 hu]) (fun a ha => wr_o G h ha)
  rw [e] at q1
  have hR' : WR (wr h k q) := by
    intro a
    by_cases ha : a = k
    · subst ha
      simp only [wr, if_true]
      refine ⟨fun z => hq.2 (by omega), fun z => Or.inr (hq.1 (by omega)), fun z => (hR a).2.2 z⟩
    · have := hR a
      simpa only [wr, if_neg ha] using this
  exact kk H1 locs1 ⟨q1, hK, hG, hR', hst, q3⟩
theorem tys_at (G : GT) : (tysO G)[0]? = some (G.2.2.1 12, .byte) ∧ (tysO G)[1]? = some (G.2.2.1 13, .int) ∧ (tysO G)[2]? = some (G.2.2.1 14, .boolean) ∧ (tysO G)[3]? = some (G.2.2.1 15, .object RX1) ∧ (tysO G)[4]? = some (G.2.2.1 16, .object RX6) ∧ (tysO G)[5]? = some (G.2.2.1 17, .object RX7) := ⟨rfl, rfl, rfl, rfl, rfl, rfl⟩
theorem q_iald (E : CallFix p m c cc nL s args UW own) (w : WD G s h H locs) {k : Nat} (hs : sh k = 13) {n : Nat} (hn : ln k = n) {i : Int32} (hi : ¬ (i < 0 ∨ n ≤ i.toNatClampNeg)) (d : decode cc pc = .ok (.iaload, 1))
    (kk : W p l e R s m args below meth c H locs cells slots Q (F0 m (pc + 1) ls (.int (h.1 k i.toNatClampNeg) :: rest))) : W p l e R s m args below meth c H locs cells slots Q (F0 m pc ls (.int i :: .ref (ad G k) :: rest)) := by
  subst hn
  exact va_iald E.1 E.2.1 w.2.1 w.1 (k - 1) 1 (by rw [ws_at G h (by omega), cell_i G h hs (by omega) (by omega)]) rfl hi d kk
theorem q_bald (E : CallFix p m c cc nL s args UW own) (w : WD G s h H locs) {k : Nat} (hs : sh k = 12) {n : Nat} (hn : ln k = n) {i : Int32} (hi : ¬ (i < 0 ∨ n ≤ i.toNatClampNeg)) (d : decode cc pc = .ok (.baload, 1))
    (kk : W p l e R s m args below meth c H locs cells slots Q (F0 m (pc + 1) ls (.int (h.1 k i.toNatClampNeg) :: rest))) : W p l e R s m args below meth c H locs cells slots Q (F0 m pc ls (.int i :: .ref (ad G k) :: rest)) := by
  subst hn
  exact va_bald E.1 E.2.1 w.2.1 w.1 (k - 1) 0 (by rw [ws_at G h (by omega), cell_i G h hs (by omega) (by omega)]) rfl hi d kk
theorem q_zald (E : CallFix p m c cc nL s args UW own) (w : WD G s h H locs) {k : Nat} (hs : sh k = 14) {n : Nat} (hn : ln k = n) {i : Int32} (hi : ¬ (i < 0 ∨ n ≤ i.toNatClampNeg)) (d : decode cc pc = .ok (.baload, 1))
    (kk : W p l e R s m args below meth c H locs cells slots Q (F0 m (pc + 1) ls (.int (h.1 k i.toNatClampNeg) :: rest))) : W p l e R s m args below meth c H locs cells slots Q (F0 m pc ls (.int i :: .ref (ad G k) :: rest)) := by
  subst hn
  exact va_zald E.1 E.2.1 w.2.1 w.1 (k - 1) 2 (by rw [ws_at G h (by omega), cell_i G h hs (by omega) (by omega)]) rfl hi d kk
theorem q_iast (E : CallFix p m c cc nL s args UW own) (w : WD G s h H locs) {k : Nat} (hs : sh k = 13) {n : Nat} (hn : ln k = n) {i x : Int32} (hi : ¬ (i < 0 ∨ n ≤ i.toNatClampNeg)) (d : decode cc pc = .ok (.iastore, 1))
    (kk : ∀ (H1 : Heap) (locs1 : List Loc), WD G s (wi h k i.toNatClampNeg x) H1 locs1 → W p l e R s m args below meth c H1 locs1 cells slots Q (F0 m (pc + 1) ls rest)) : W p l e R s m args below meth c H locs cells slots Q (F0 m pc ls (.int x :: .int i :: .ref (ad G k) :: rest)) := by
  subst hn
  obtain ⟨hP, hK, hG, hR, hst, hS⟩ := w
  have hne : sh k ≠ 99 := by omega
  refine va_iast E.1 E.2.1 hK hP (ws_D hG h) hS (k - 1) 1 (by rw [ws_at G h hne, cell_i G h hs (by omega) (by omega)]) rfl hi d (fun H1 locs1 q1 q2 q3 => ?_)
  rw [ws_set G h (wi h k i.toNatClampNeg x) hne (by rw [cell_i G _ hs (by omega) (by omega), wi_a]) (fun a ha => wi_o G h x ha)] at q1
  exact kk H1 locs1 ⟨q1, hK, hG, WR_wi hR x (by omega), hst, q3⟩
theorem q_aald (E : CallFix p m c cc nL s args UW own) (w : WD G s h H locs) {k t : Nat} (hs : sh k = t + 12) (ht : t = 3 ∨ t = 4 ∨ t = 5) {n : Nat} (hn : ln k = n) {i : Int32} (hi : ¬ (i < 0 ∨ n ≤ i.toNatClampNeg)) (d : decode cc pc = .ok (.aaload, 1))
    (kk : W p l e R s m args below meth c H locs cells slots Q (F0 m (pc + 1) ls (.ref (ad G (ra k i.toNatClampNeg)) :: rest))) : W p l e R s m args below meth c H locs cells slots Q (F0 m pc ls (.int i :: .ref (ad G k) :: rest)) := by
  subst hn
  rcases ht with rfl | rfl | rfl
  · exact va_aldq (f := fun i => some (ad G (ra k i))) E.1 E.2.1 w.2.1 w.1 (k - 1) 3 (by rw [ws_at G h (by omega), cell_r G h hs (by omega)]) rfl hi d kk
  · exact va_aldq (f := fun i => some (ad G (ra k i))) E.1 E.2.1 w.2.1 w.1 (k - 1) 4 (by rw [ws_at G h (by omega), cell_r G h hs (by omega)]) rfl hi d kk
  · exact va_aldq (f := fun i => some (ad G (ra k i))) E.1 E.2.1 w.2.1 w.1 (k - 1) 5 (by rw [ws_at G h (by omega), cell_r G h hs (by omega)]) rfl hi d kk
theorem q_alen (E : CallFix p m c cc nL s args UW own) (w : WD G s h H locs) {k t : Nat} (hs : sh k = t + 12) (ht : t < 3) (d : decode cc pc = .ok (.arraylength, 1))
    (kk : W p l e R s m args below meth c H locs cells slots Q (F0 m (pc + 1) ls (.int (nI (ln k)) :: rest))) : W p l e R s m args below meth c H locs cells slots Q (F0 m pc ls (.ref (ad G k) :: rest)) := by
  rcases (show t = 0 ∨ t = 1 ∨ t = 2 by omega) with rfl | rfl | rfl
  · exact va_alen (x := (ln k, .inl (h.1 k))) E.1 E.2.1 w.2.1 w.1 (k - 1) 0 (by rw [ws_at G h (by omega), cell_i G h hs (by omega) (by omega)]) rfl rfl d kk
  · exact va_alen (x := (ln k, .inl (h.1 k))) E.1 E.2.1 w.2.1 w.1 (k - 1) 1 (by rw [ws_at G h (by omega), cell_i G h hs (by omega) (by omega)]) rfl rfl d kk
  · exact va_alen (x := (ln k, .inl (h.1 k))) E.1 E.2.1 w.2.1 w.1 (k - 1) 2 (by rw [ws_at G h (by omega), cell_i G h hs (by omega) (by omega)]) rfl rfl d kk
theorem q_bast (E : CallFix p m c cc nL s args UW own) (w : WD G s h H locs) {k : Nat} (hs : sh k = 12) {n : Nat} (hn : ln k = n) {i x : Int32} (hi : ¬ (i < 0 ∨ n ≤ i.toNatClampNeg)) (d : decode cc pc = .ok (.bastore, 1))
    (kk : ∀ (H1 : Heap) (locs1 : List Loc), WD G s (wi h k i.toNatClampNeg x.toInt8.toInt32) H1 locs1 → W p l e R s m args below meth c H1 locs1 cells slots Q (F0 m (pc + 1) ls rest)) : W p l e R s m args below meth c H locs cells slots Q (F0 m pc ls (.int x :: .int i :: .ref (ad G k) :: rest)) := by
  subst hn
  obtain ⟨hP, hK, hG, hR, hst, hS⟩ := w
  have hne : sh k ≠ 99 := by omega
  refine va_bast E.1 E.2.1 hK hP (ws_D hG h) hS (k - 1) 0 (by rw [ws_at G h hne, cell_i G h hs (by omega) (by omega)]) rfl hi d (fun H1 locs1 q1 q2 q3 => ?_)
  rw [vp_nar_byte, ws_set G h (wi h k i.toNatClampNeg x.toInt8.toInt32) hne (by rw [cell_i G _ hs (by omega) (by omega), wi_a]) (fun a ha => wi_o G h _ ha)] at q1
  exact kk H1 locs1 ⟨q1, hK, hG, WR_wib hR _ (pk_fb x), hst, q3⟩
theorem q_zast (E : CallFix p m c cc nL s args UW own) (w : WD G s h H locs) {k : Nat} (hs : sh k = 14) {n : Nat} (hn : ln k = n) {i x : Int32} (hi : ¬ (i < 0 ∨ n ≤ i.toNatClampNeg)) (d : decode cc pc = .ok (.bastore, 1))
    (kk : ∀ (H1 : Heap) (locs1 : List Loc), WD G s (wi h k i.toNatClampNeg (vp_nar .boolean x)) H1 locs1 → W p l e R s m args below meth c H1 locs1 cells slots Q (F0 m (pc + 1) ls rest)) : W p l e R s m args below meth c H locs cells slots Q (F0 m pc ls (.int x :: .int i :: .ref (ad G k) :: rest)) := by
  subst hn
  obtain ⟨hP, hK, hG, hR, hst, hS⟩ := w
  have hne : sh k ≠ 99 := by omega
  refine va_zast E.1 E.2.1 hK hP (ws_D hG h) hS (k - 1) 2 (by rw [ws_at G h hne, cell_i G h hs (by omega) (by omega)]) rfl hi d (fun H1 locs1 q1 q2 q3 => ?_)
  rw [ws_set G h (wi h k i.toNatClampNeg (vp_nar .boolean x)) hne (by rw [cell_i G _ hs (by omega) (by omega), wi_a]) (fun a ha => wi_o G h _ ha)] at q1
  exact kk H1 locs1 ⟨q1, hK, hG, WR_wi hR _ (by omega), hst, q3⟩
/-- what an answer comes with -/
def QC (G : GT) (rv : Option Value) (h' : HS) : Array Value → State → Outcome → State → Prop := fun _ st oc t => oc = .returned rv ∧ WH G h' t ∧ va_F (AD G) st t
theorem WD_toH (w : WD G s h H locs) {t : State} (ht : t.heap = H) (hW : s.WarmedH t.vm) : WH G h t := by
  obtain ⟨hP, hK, hG, hR, hst, hS⟩ := w
  subst ht
  exact ⟨hP, va_K.moved hW.alike hK, hG, hR, SV_to hW (fun q h1 h2 => hS.2.1 q h1 h2) hst⟩
theorem q_iret (E : CallFix p m c cc nL s args UW own) (w : WD G s h H locs) {v : Int32} (hr : meth.sig.returnType = some .int) (hlk : meth.locks = false) (d : decode cc pc = .ok (.ireturn, 1)) : W p l e R s m args below meth c H locs cells slots (MQ below (QC G (some (.int v)) h) args s cells slots (AD G)) (F0 m pc ls [.int v]) :=
  W.iret (hlocks := hlk) E.1 E.2.1 hr (fun t ht hW => ⟨rfl, WD_toH w ht hW, w.2.2.2.2.2.F ht⟩) w.2.2.2.2.2.2.2 d
theorem q_lret (E : CallFix p m c cc nL s args UW own) (w : WD G s h H locs) {v : Int64} (hr : meth.sig.returnType = some .long) (hlk : meth.locks = false) (d : decode cc pc = .ok (.lreturn, 1)) : W p l e R s m args below meth c H locs cells slots (MQ below (QC G (some (.long v)) h) args s cells slots (AD G)) (F0 m pc ls [.long v]) :=
  W.lret (hlocks := hlk) E.1 E.2.1 hr (fun t ht hW => ⟨rfl, WD_toH w ht hW, w.2.2.2.2.2.F ht⟩) w.2.2.2.2.2.2.2 d
theorem q_vret (E : CallFix p m c cc nL s args UW own) (w : WD G s h H locs) (hr : meth.sig.returnType = none) (hlk : meth.locks = false) (d : decode cc pc = .ok (.return_, 1)) : W p l e R s m args below meth c H locs cells slots (MQ below (QC G none h) args s cells slots (AD G)) (F0 m pc ls []) :=
  W.vret (hlocks := hlk) E.1 E.2.1 hr (fun t ht hW => ⟨rfl, WD_toH w ht hW, w.2.2.2.2.2.F ht⟩) w.2.2.2.2.2.2.2 d
theorem q_aret (E : CallFix p m c cc nL s args UW own) (w : WD G s h H locs) {v : Value} {rt : FieldType} (hr : meth.sig.returnType = some rt) (hrt : (∃ n, rt = .object n) ∨ ∃ t, rt = .array t) (hv : v = .null ∨ ∃ a, v = .ref a) (hlk : meth.locks = false) (d : decode cc pc = .ok (.areturn, 1)) : W p l e R s m args below meth c H locs cells slots (MQ below (QC G (some v) h) args s cells slots (AD G)) (F0 m pc ls [v]) :=
  W.aret (hlocks := hlk) E.1 E.2.1 hr hrt hv (fun t ht hW => ⟨rfl, WD_toH w ht hW, w.2.2.2.2.2.F ht⟩) w.2.2.2.2.2.2.2 d
/-- a boolean's answer: what the machine keeps of it -/
def nz (v : Int32) : Int32 := vp_nar .boolean v
theorem nz_0 : nz 0 = 0 := rfl
theorem nz_1 : nz 1 = 1 := rfl
theorem narrow_nz (v : Int32) : narrow .boolean (.int v) = .int (nz v) := rfl
theorem q_zret (E : CallFix p m c cc nL s args UW own) (w : WD G s h H locs) {v : Int32} (hr : meth.sig.returnType = some .boolean) (hlk : meth.locks = false) (d : decode cc pc = .ok (.ireturn, 1)) : W p l e R s m args below meth c H locs cells slots (MQ below (QC G (some (.int (nz v))) h) args s cells slots (AD G)) (F0 m pc ls [.int v]) := by
  obtain ⟨hexec, hb, hml, hown, hts⟩ := E
  intro T hT X
  obtain ⟨fs, hret, hrun, hended, hW, hframe⟩ := X.leave (v := some (.int (nz v))) (hlocks := hlk) (fun h => by rw [hr] at h; cases h)
  have hmeth' : T.vm.method? m = some meth := X.method'
  refine ⟨T.setFrames fs, ?_, .returned (some (.int (nz v))), hrun, hended, ⟨rfl, WD_toH w hT hW, w.2.2.2.2.2.F hT⟩, locs, ⟨⟨_, rfl⟩, hW, hframe⟩, w.2.2.2.2.2.2.2⟩
  jvm_step X.here [X.here.top, hexec, hb, d, hmeth', hr, narrow_nz]
  (try refine ⟨rfl, ?_⟩); (try refine ⟨rfl, ?_⟩)
  first | (intro acts; rw [hret _ acts rfl rfl rfl]) | rw [hret _ _ rfl rfl rfl]
  exact Steps.refl _
end QR
/-- a method's contract: from data h with these values, the answer rv and data h' -/
def CT (l : Launch) (G : GT) (y : MethodName) (bytes : ByteArray) (maxL : Nat) (ret : Option FieldType) (fr lo : Nat) (avs : List Value) (h : HS) (rv : Option Value) (h' : HS) : Prop :=
  Met l y (Cond.code y bytes maxL ret :: UW) { frames := fr, cells := 0, slots := 0, locals := lo } (va_Pc avs (WH G h)) (QC G rv h') 0 0 (AD G)
theorem CT.of {l : Launch} {G : GT} {y : MethodName} {bytes : ByteArray} {maxL : Nat} {ret : Option FieldType} {fr lo : Nat} {avs : List Value} {h : HS} {rv : Option Value} {h' : HS} (hy : plainName y.cls = true) (hlen : (lg_sl avs).length ≤ maxL)
    (body : ∀ (p : Program) (e : Env) (s : State) (m : MethodId) (below : List Frame) (meth : Method) (c : Code) (ls : Array Slot), CallFix p m c bytes maxL s avs.toArray UW y.cls → meth.sig.returnType = ret → meth.locks = false → WD G s h s.heap [] → lv_has ls maxL (lv_args 0 avs) →
      W p l e { frames := fr, cells := 0, slots := 0, locals := lo } s m avs.toArray below meth c s.heap [] 0 0 (MQ below (QC G rv h') avs.toArray s 0 0 (AD G)) (F0 m 0 ls [])) : CT l G y bytes maxL ret fr lo avs h rv h' := by
  refine Met.ofW (cc := bytes) (maxL := maxL) (ret := ret) hy rfl ?_
  intro p e s m args below meth c s₁ B hml hv
  obtain ⟨rfl, hP, hK, hG, hR, hst⟩ := hv
  have hts := atoms_spec (ws := Cond.code y bytes maxL ret :: UW) B.pre
  have hl := lv_entry avs (n := maxL) hlen
  rw [lg_entry_eq]
  exact body p e s m below meth c _ ⟨B.exec, B.bytes, hml, findClass_of_methodNamed B.named, fun w hw => hts w (List.mem_cons_of_mem _ hw)⟩ B.returns B.notSynchronized ⟨hP, hK, hG, hR, hst, va_S.rf⟩ hl
/-- a call's words: a method of an object; a static one; a nest mate's static one -/
def MV (own : String) (idx : Nat) (y : MethodName) (bytes : ByteArray) (maxL : Nat) (ret : Option FieldType) (n : Nat) : Prop := (Cond.methodLink own idx y ∈ UW ∧ Cond.instanceMethod y ∈ UW ∧ Cond.selects y.cls y y ∈ UW ∧ Cond.initialized y.cls ∈ UW ∧ Cond.code y bytes maxL ret ∈ UW) ∧ y.cls ≠ "java/lang/invoke/MethodHandle" ∧ y.cls ≠ "java/lang/invoke/VarHandle" ∧ (parseMethodDescriptor y.desc).map (fun d => d.parameters.length) = some n
def MS (own : String) (idx : Nat) (y : MethodName) (bytes : ByteArray) (maxL : Nat) (ret : Option FieldType) (n : Nat) : Prop := (Cond.methodLink own idx y ∈ UW ∧ Cond.static y ∈ UW ∧ Cond.initialized y.cls ∈ UW ∧ Cond.code y bytes maxL ret ∈ UW) ∧ y.cls ≠ "java/lang/invoke/MethodHandle" ∧ y.cls ≠ "java/lang/invoke/VarHandle" ∧ (parseMethodDescriptor y.desc).map (fun d => d.parameters.length) = some n
def MN (own : String) (idx : Nat) (y : MethodName) (host : String) (bytes : ByteArray) (maxL : Nat) (ret : Option FieldType) (n : Nat) : Prop := ((own, idx, y, host) ∈ NLq ∧ Cond.static y ∈ UW ∧ Cond.initialized y.cls ∈ UW ∧ Cond.code y bytes maxL ret ∈ UW) ∧ y.cls ≠ "java/lang/invoke/MethodHandle" ∧ y.cls ≠ "java/lang/invoke/VarHandle" ∧ (parseMethodDescriptor y.desc).map (fun d => d.parameters.length) = some n
theorem WH.blind {G : GT} {h : HS} {avs : List Value} : FrameBlind (va_Pc avs (WH G h)) := by
  intro a U g mk q
  obtain ⟨q0, hP, hK, hG, hR, hst⟩ := q
  exact ⟨q0, hP, va_K.moved (u := U) (U := U.calling g mk a) (Vm.Alike.refl U.vm) hK, hG, hR, SV_same (t := U.calling g mk a) rfl rfl hst⟩
section QK
variable {p : Program} {l : Launch} {e : Env} {R : Room} {s : State} {m : MethodId} {args : Array Value} {below : List Frame} {meth : Method} {c : Code} {H : Heap} {locs : List Loc} {cells slots : Nat} {Q : State → Prop} {cc : ByteArray} {nL : Nat} {own : String} {pc : Nat} {ls : Array Slot} {rest : List Value} {G : GT} {h h' : HS} {rv : Option Value} {y : MethodName} {bytes : ByteArray} {maxL fr lo idx n : Nat} {ret : Option FieldType} {As : List Value}
theorem q_run {st0 : List Value} {a : Array Value} (w : WD G s h H locs) (hr : va_Run p l e R s m args below meth c H locs cells slots 0 0 (F0 m pc ls st0) rest (QC G rv h' a) (AD G))
    (kk : ∀ (H1 : Heap) (locs1 : List Loc), WD G s h' H1 locs1 → W p l e R s m args below meth c H1 locs1 cells slots Q (F0 m (pc + 3) ls (rv.toList ++ rest))) : W p l e R s m args below meth c H locs cells slots Q (F0 m pc ls st0) := by
  intro T hT X
  obtain ⟨v, st₀, t, T', L, h0, X', hL, e1, e2, ⟨hv, ⟨hP, hK, hG, hR, hst⟩, hz, hk⟩, st⟩ := hr T hT X
  cases hv
  obtain ⟨-, hK0, -, -, hst0, hS⟩ := w
  rw [h0] at hz hk
  obtain ⟨t2, a1, b1⟩ := kk T'.heap (locs ++ L) ⟨by rw [e1]; exact hP, hK0, hG, hR, hst0, Nat.le_trans hS.1 (by rw [e1]; exact hz), fun q h1 h2 => by rw [e1, hk q (Nat.lt_of_lt_of_le h1 hS.1) h2]; exact hS.2.1 q h1 h2, fun q hq => by
      rcases List.mem_append.mp hq with h | h
      · exact hS.2.2 q h
      · exact hL q h⟩ T' rfl X'
  exact ⟨t2, st t2 a1, b1⟩
theorem q_callV (E : CallFix p m c cc nL s args UW own) (w : WD G s h H locs) {k ci : Nat} (hs : sh k = ci) (hci : ci < 12 ∧ (vwCl[ci]?).map Prod.fst = some y.cls) (hM : CT l G y bytes maxL ret fr lo (.ref (ad G k) :: As) h rv h') (hw : MV own idx y bytes maxL ret n) (hn : As.length = n) (hls : ls.size = nL)
    (hroom : fr + 1 ≤ R.frames ∧ 8 + (maxL + 11) + lo ≤ R.locals) (hrest : (rest.map fun v => v.category).sum ≤ 8) (hcs : cells ≤ R.cells ∧ slots ≤ R.slots) (d : decode cc pc = .ok (.invokevirtual idx, 3))
    (kk : ∀ (H1 : Heap) (locs1 : List Loc), WD G s h' H1 locs1 → W p l e R s m args below meth c H1 locs1 cells slots Q (F0 m (pc + 3) ls (rv.toList ++ rest))) : W p l e R s m args below meth c H locs cells slots Q (F0 m pc ls (As.reverse ++ .ref (ad G k) :: rest)) := by
  obtain ⟨⟨w1, w2, w3, w4, w5⟩, w6⟩ := hw
  have hts := E.2.2.2.2
  obtain ⟨q, hq, hq2⟩ : ∃ q, vwCl[ci]? = some q ∧ q.1 = y.cls := by
    have := hci.2
    cases hv : vwCl[ci]? with
    | none => rw [hv] at this; cases this
    | some q => rw [hv] at this; exact ⟨q, rfl, Option.some.inj this⟩
  refine q_run w (va_runV (rest := rest) (C := y.cls) E hM ⟨callB_of n hts (uw_cons w5) rfl rfl rfl (hts _ w4) (hts _ w1) w6 hroom, hts _ w2, hts _ w3⟩ ⟨WH.blind, ?_, fun U hU hW => ⟨rfl, WD_toH w hU hW⟩⟩ rfl hn hls rfl (lv_room hrest) d hcs) kk
  have := va_recv (q := q) (ci := ci) (q0 := k - 1) w.2.1 w.1 hq (by rw [ws_at G h (by omega), cell_o G h hs hci.1])
  rw [hq2] at this
  exact this
theorem q_callS (E : CallFix p m c cc nL s args UW own) (w : WD G s h H locs) (hM : CT l G y bytes maxL ret fr lo As h rv h') (hw : MS own idx y bytes maxL ret n) (hn : As.length = n) (hls : ls.size = nL)
    (hroom : fr + 1 ≤ R.frames ∧ 8 + (maxL + 11) + lo ≤ R.locals) (hrest : (rest.map fun v => v.category).sum ≤ 8) (hcs : cells ≤ R.cells ∧ slots ≤ R.slots) (d : decode cc pc = .ok (.invokestatic idx, 3))
    (kk : ∀ (H1 : Heap) (locs1 : List Loc), WD G s h' H1 locs1 → W p l e R s m args below meth c H1 locs1 cells slots Q (F0 m (pc + 3) ls (rv.toList ++ rest))) : W p l e R s m args below meth c H locs cells slots Q (F0 m pc ls (As.reverse ++ rest)) := by
  obtain ⟨⟨w1, w2, w4, w5⟩, w6⟩ := hw
  have hts := E.2.2.2.2
  exact q_run w (va_runS (rest := rest) E hM ⟨callB_of n hts (uw_cons w5) rfl rfl rfl (hts _ w4) (hts _ w1) w6 hroom, hts _ w2⟩ ⟨WH.blind, fun U hU hW => ⟨rfl, WD_toH w hU hW⟩⟩ rfl hn hls rfl (lv_room hrest) d hcs) kk
theorem q_callN {host : String} (E : CallFix p m c cc nL s args UW own) (w : WD G s h H locs) (hM : CT l G y bytes maxL ret fr lo As h rv h') (hw : MN own idx y host bytes maxL ret n) (hn : As.length = n) (hls : ls.size = nL)
    (hroom : fr + 1 ≤ R.frames ∧ 8 + (maxL + 11) + lo ≤ R.locals) (hrest : (rest.map fun v => v.category).sum ≤ 8) (hcs : cells ≤ R.cells ∧ slots ≤ R.slots) (d : decode cc pc = .ok (.invokestatic idx, 3))
    (kk : ∀ (H1 : Heap) (locs1 : List Loc), WD G s h' H1 locs1 → W p l e R s m args below meth c H1 locs1 cells slots Q (F0 m (pc + 3) ls (rv.toList ++ rest))) : W p l e R s m args below meth c H locs cells slots Q (F0 m pc ls (As.reverse ++ rest)) := by
  obtain ⟨⟨w1, w2, w4, w5⟩, w6⟩ := hw
  have hts := E.2.2.2.2
  exact q_run w (va_runSN (rest := rest) E hM ⟨va_cnB n hts (uw_cons w5) rfl rfl rfl (w.2.2.2.2.1.2.1 _ w1) (hts _ w4) w6 hroom, hts _ w2, trivial⟩ ⟨WH.blind, fun U hU hW => ⟨rfl, WD_toH w hU hW⟩⟩ rfl hn hls rfl (lv_room hrest) d hcs) kk
/-- System.arraycopy between arrays of ints, of bytes -/
def MC (own : String) (idx : Nat) : Prop := Cond.methodLink own idx arraycopyName ∈ UW ∧ Cond.native arraycopyName ∈ UW ∧ Cond.static arraycopyName ∈ UW ∧ Cond.initialized "java/lang/System" ∈ UW
theorem q_copy (E : CallFix p m c cc nL s args UW own) (w : WD G s h H locs) {k0 k1 t : Nat} (ht : t = 0 ∨ t = 1) (hs0 : sh k0 = 12 + t) (hs1 : sh k1 = 12 + t) {n0 n1 : Nat} (hn0 : ln k0 = n0) (hn1 : ln k1 = n1) (hw : MC own idx) (hls : ls.size = nL) {sp dp n : Int32} (h1 : ¬ sp < 0) (h2 : ¬ dp < 0) (h3 : ¬ n < 0) (h4 : sp.toNatClampNeg + n.toNatClampNeg ≤ n0) (h5 : dp.toNatClampNeg + n.toNatClampNeg ≤ n1)
    (hroom : 1 ≤ R.frames ∧ (rest.map fun v => v.category).sum + (nativeFrameWords "java/lang/System" "arraycopy" 5 + 11) ≤ R.locals) (d : decode cc pc = .ok (.invokestatic idx, 3))
    (kk : ∀ (H1 : Heap) (locs1 : List Loc), WD G s (wa h k1 (va_cpy (h.1 k0) (h.1 k1) sp.toNatClampNeg dp.toNatClampNeg n.toNatClampNeg)) H1 locs1 → W p l e R s m args below meth c H1 locs1 cells slots Q (F0 m (pc + 3) ls rest)) : W p l e R s m args below meth c H locs cells slots Q (F0 m pc ls (.int n :: .int dp :: .ref (ad G k1) :: .int sp :: .ref (ad G k0) :: rest)) := by
  subst hn0 hn1
  obtain ⟨hx, hb, hml, hown, hts⟩ := E
  obtain ⟨w1, w2, w3, w4⟩ := hw
  obtain ⟨hP, hK, hG, hR, hst, hS⟩ := w
  have hne : sh k1 ≠ 99 := by omega
  have e := ws_set G h (wa h k1 (va_cpy (h.1 k0) (h.1 k1) sp.toNatClampNeg dp.toNatClampNeg n.toNatClampNeg)) hne (by rw [cell_i G _ hs1 (by omega) (by omega), wa_a]) (fun a ha => wa_o G h _ ha)
  have hR' : WR (wa h k1 (va_cpy (h.1 k0) (h.1 k1) sp.toNatClampNeg dp.toNatClampNeg n.toNatClampNeg)) := WR_wa hR (fun z i => by
    unfold va_cpy
    split
    · exact (hR k0).2.2 (by omega) _
    · exact (hR k1).2.2 z _)
  rcases ht with rfl | rfl
  · refine va_copyi hx hb (by rw [hml, hls]) hown (hts _ w1) (hts _ w2) (hts _ w3) (hts _ w4) hK hP (ws_D hG h) hS (k0 - 1) (k1 - 1) 0 0 (by rw [ws_at G h (by omega), cell_i G h hs0 (by omega) (by omega)]) (by rw [ws_at G h hne, cell_i G h hs1 (by omega) (by omega)]) rfl rfl rfl h1 h2 h3 h4 h5 (fun i _ => (hR k0).2.2 (by omega) _) hroom.1 hroom.2 d (fun H1 locs1 q1 q2 q3 => ?_)
    rw [e] at q1
    exact kk H1 locs1 ⟨q1, hK, hG, hR', hst, q3⟩
  · refine va_copyi hx hb (by rw [hml, hls]) hown (hts _ w1) (hts _ w2) (hts _ w3) (hts _ w4) hK hP (ws_D hG h) hS (k0 - 1) (k1 - 1) 1 1 (by rw [ws_at G h (by omega), cell_i G h hs0 (by omega) (by omega)]) (by rw [ws_at G h hne, cell_i G h hs1 (by omega) (by omega)]) rfl rfl rfl h1 h2 h3 h4 h5 (fun i _ => rfl) hroom.1 hroom.2 d (fun H1 locs1 q1 q2 q3 => ?_)
    rw [e] at q1
    exact kk H1 locs1 ⟨q1, hK, hG, hR', hst, q3⟩
/-- Math's three -/
def MM (own : String) (idx : Nat) (y : MethodName) (b : ByteArray) (n : Nat) : Prop := Cond.methodLink own idx y ∈ UW ∧ Cond.static y ∈ UW ∧ Cond.initialized "java/lang/Math" ∈ UW ∧ Cond.code y b n (some .int) ∈ UW
theorem q_max (E : CallFix p m c cc nL s args UW own) (hw : MM own idx Lib.Math.max.name Lib.Math.max.code 2) (hls : ls.size = nL) (hroom : 1 ≤ R.frames ∧ (rest.map fun v => v.category).sum + 13 ≤ R.locals) (hcs : cells ≤ R.cells ∧ slots ≤ R.slots) {x z : Int32} (d : decode cc pc = .ok (.invokestatic idx, 3))
    (kk : W p l e R s m args below meth c H locs cells slots Q (F0 m (pc + 3) ls (.int (if x < z then z else x) :: rest))) : W p l e R s m args below meth c H locs cells slots Q (F0 m pc ls (.int z :: .int x :: rest)) :=
  va_mmax E.1 E.2.1 (by rw [E.2.2.1, hls]) E.2.2.2.1 (E.2.2.2.2 _ hw.1) (E.2.2.2.2 _ hw.2.1) (E.2.2.2.2 _ hw.2.2.1) (E.2.2.2.2 _ hw.2.2.2) hroom.1 hroom.2 hcs.1 hcs.2 d kk
theorem q_min (E : CallFix p m c cc nL s args UW own) (hw : MM own idx Lib.Math.min.name Lib.Math.min.code 2) (hls : ls.size = nL) (hroom : 1 ≤ R.frames ∧ (rest.map fun v => v.category).sum + 13 ≤ R.locals) (hcs : cells ≤ R.cells ∧ slots ≤ R.slots) {x z : Int32} (d : decode cc pc = .ok (.invokestatic idx, 3))
    (kk : W p l e R s m args below meth c H locs cells slots Q (F0 m (pc + 3) ls (.int (if z < x then z else x) :: rest))) : W p l e R s m args below meth c H locs cells slots Q (F0 m pc ls (.int z :: .int x :: rest)) :=
  va_mmin E.1 E.2.1 (by rw [E.2.2.1, hls]) E.2.2.2.1 (E.2.2.2.2 _ hw.1) (E.2.2.2.2 _ hw.2.1) (E.2.2.2.2 _ hw.2.2.1) (E.2.2.2.2 _ hw.2.2.2) hroom.1 hroom.2 hcs.1 hcs.2 d kk
theorem q_abs (E : CallFix p m c cc nL s args UW own) (hw : MM own idx Lib.Math.abs.name Lib.Math.abs.code 1) (hls : ls.size = nL) (hroom : 1 ≤ R.frames ∧ (rest.map fun v => v.category).sum + 13 ≤ R.locals) (hcs : cells ≤ R.cells ∧ slots ≤ R.slots) {x : Int32} (d : decode cc pc = .ok (.invokestatic idx, 3))
    (kk : W p l e R s m args below meth c H locs cells slots Q (F0 m (pc + 3) ls (.int (if 0 ≤ x then x else 0 - x) :: rest))) : W p l e R s m args below meth c H locs cells slots Q (F0 m pc ls (.int x :: rest)) :=
  va_mabs E.1 E.2.1 (by rw [E.2.2.1, hls]) E.2.2.2.1 (E.2.2.2.2 _ hw.1) (E.2.2.2.2 _ hw.2.1) (E.2.2.2.2 _ hw.2.2.1) (E.2.2.2.2 _ hw.2.2.2) hroom.1 hroom.2 hcs.1 hcs.2 d kk
end QK
/-- a check in a function: nothing comes where the machine would throw -/
theorem q_if {α : Type} {c : Prop} [Decidable c] {K : Option α} {r : α} (hf : (if c then none else K) = some r) : ¬ c ∧ K = some r := by
  by_cases h : c
  · rw [if_pos h] at hf; cases hf
  · rw [if_neg h] at hf; exact ⟨h, hf⟩
theorem q_bind {α β : Type} {x : Option α} {f : α → Option β} {r : β} (hf : x.bind f = some r) : ∃ a, x = some a ∧ f a = some r := Option.bind_eq_some_iff.mp hf
