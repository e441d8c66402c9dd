/-! ===== rows for the functions ===== -/
def sq {α : Type} (x : HS) (K : HS → Option α) : Option α := K x
theorem sq_e {α : Type} {x h1 : HS} {K : HS → Option α} {r : α} (e : h1 = x) (hf : sq x K = some r) : K h1 = some r := by subst e; exact hf
def bd1 {α β : Type} (x : Option α) (K : α → Option β) : Option β := match x with | none => none | some a => K a
theorem bd1_e {α β : Type} {x : Option α} {K : α → Option β} {r : β} (hf : bd1 x K = some r) : ∃ a, x = some a ∧ K a = some r := by
  cases x with
  | none => cases hf
  | some a => exact ⟨a, rfl, hf⟩
def bd2 {α β γ : Type} (x : Option (α × β)) (K : α → β → Option γ) : Option γ := match x with | none => none | some q => K q.1 q.2
theorem bd2_e {α β γ : Type} {x : Option (α × β)} {K : α → β → Option γ} {r : γ} (hf : bd2 x K = some r) : ∃ a b, x = some (a, b) ∧ K a b = some r := by
  cases x with
  | none => cases hf
  | some q => exact ⟨q.1, q.2, rfl, hf⟩
theorem q_pos {α : Type} {c : Prop} [Decidable c] {A B : Option α} {r : α} (h : c) (hf : (if c then A else B) = some r) : A = some r := by rw [if_pos h] at hf; exact hf
theorem q_neg {α : Type} {c : Prop} [Decidable c] {A B : Option α} {r : α} (h : ¬ c) (hf : (if c then A else B) = some r) : B = some r := by rw [if_neg h] at hf; exact hf
def ush (x y : Int32) : Int32 := (x.toUInt32 >>> (y.toUInt32 &&& Int32.toUInt32 31)).toInt32
theorem rfv_0 (G : GT) : rfv G 0 = .null := rfl
theorem ne_i {x v : Int32} (h : ¬ x = v) {z : Int} (hz : v.toInt = z) : x.toInt ≠ z := fun e => h (Int32.toInt_inj.mp (e.trans hz.symm))
section PR
variable {p : Program} {l : Launch} {e : Env} {R : Room} {s : State} {m : MethodId} {args : Array Value} {below : List Frame} {meth : Method} {c : Code} {H : Heap} {locs : List Loc} {cells slots : Nat} {Q : State → Prop} {cc : ByteArray} {nL : Nat} {own : String} {pc : Nat} {ls : Array Slot} {rest : List Value} {G : GT} {h : HS}
theorem p_pi (E : CallFix p m c cc nL s args UW own) (w : WD G s h H locs) {ci j idx k : Nat} {x : Int32} (hs : sh k = ci) (hF : FL own idx ci j 0) (hp : FP ci j (.int x)) (d : decode cc pc = .ok (.putfield idx, 3))
    (kk : ∀ (h1 : HS) (H1 : Heap) (locs1 : List Loc), h1 = wi h k j x → WD G s h1 H1 locs1 → W p l e R s m args below meth c H1 locs1 cells slots Q (F0 m (pc + 3) ls rest)) : W p l e R s m args below meth c H locs cells slots Q (F0 m pc ls (.int x :: .ref (ad G k) :: rest)) :=
  q_pi E w hs hF hp d (fun H1 locs1 w1 => kk _ H1 locs1 rfl w1)
theorem p_pr (E : CallFix p m c cc nL s args UW own) (w : WD G s h H locs) {ci j idx k q : Nat} (hs : sh k = ci) (hF : FL own idx ci j 1) (hu : (List.range (fk ci).length).all (fun i => (fk ci)[i]? != some 1 || i == j) = true) (hp : FP ci j (.ref (ad G q))) (hq : (ci = 4 → sh q = 12) ∧ (ci ≠ 4 → sh q = 1)) (d : decode cc pc = .ok (.putfield idx, 3))
    (kk : ∀ (h1 : HS) (H1 : Heap) (locs1 : List Loc), h1 = wr h k q → WD G s h1 H1 locs1 → W p l e R s m args below meth c H1 locs1 cells slots Q (F0 m (pc + 3) ls rest)) : W p l e R s m args below meth c H locs cells slots Q (F0 m pc ls (.ref (ad G q) :: .ref (ad G k) :: rest)) :=
  q_pr E w hs hF (fun i hi => by
    have h1 := List.all_eq_true.mp hu i (List.mem_range.mpr (List.getElem?_eq_some_iff.mp hi).1)
    simpa [hi] using h1) hp hq d (fun H1 locs1 w1 => kk _ H1 locs1 rfl w1)
theorem p_iast (E : CallFix p m c cc nL s args UW own) (w : WD G s h H locs) {k : Nat} (hs : sh k = 13) {n : Nat} (hn : ln k = n) {i x : Int32} (hi : ¬ (i < 0 ∨ n ≤ i.toNatClampNeg)) (d : decode cc pc = .ok (.iastore, 1))
    (kk : ∀ (h1 : HS) (H1 : Heap) (locs1 : List Loc), h1 = wi h k i.toNatClampNeg x → WD G s h1 H1 locs1 → W p l e R s m args below meth c H1 locs1 cells slots Q (F0 m (pc + 1) ls rest)) : W p l e R s m args below meth c H locs cells slots Q (F0 m pc ls (.int x :: .int i :: .ref (ad G k) :: rest)) :=
  q_iast E w hs hn hi d (fun H1 locs1 w1 => kk _ H1 locs1 rfl w1)
theorem p_bast (E : CallFix p m c cc nL s args UW own) (w : WD G s h H locs) {k : Nat} (hs : sh k = 12) {n : Nat} (hn : ln k = n) {i x : Int32} (hi : ¬ (i < 0 ∨ n ≤ i.toNatClampNeg)) (d : decode cc pc = .ok (.bastore, 1))
    (kk : ∀ (h1 : HS) (H1 : Heap) (locs1 : List Loc), h1 = wi h k i.toNatClampNeg x.toInt8.toInt32 → WD G s h1 H1 locs1 → W p l e R s m args below meth c H1 locs1 cells slots Q (F0 m (pc + 1) ls rest)) : W p l e R s m args below meth c H locs cells slots Q (F0 m pc ls (.int x :: .int i :: .ref (ad G k) :: rest)) :=
  q_bast E w hs hn hi d (fun H1 locs1 w1 => kk _ H1 locs1 rfl w1)
theorem p_zast (E : CallFix p m c cc nL s args UW own) (w : WD G s h H locs) {k : Nat} (hs : sh k = 14) {n : Nat} (hn : ln k = n) {i x : Int32} (hi : ¬ (i < 0 ∨ n ≤ i.toNatClampNeg)) (d : decode cc pc = .ok (.bastore, 1))
    (kk : ∀ (h1 : HS) (H1 : Heap) (locs1 : List Loc), h1 = wi h k i.toNatClampNeg (vp_nar .boolean x) → WD G s h1 H1 locs1 → W p l e R s m args below meth c H1 locs1 cells slots Q (F0 m (pc + 1) ls rest)) : W p l e R s m args below meth c H locs cells slots Q (F0 m pc ls (.int x :: .int i :: .ref (ad G k) :: rest)) :=
  q_zast E w hs hn hi d (fun H1 locs1 w1 => kk _ H1 locs1 rfl w1)
theorem p_copy {idx : Nat} (E : CallFix p m c cc nL s args UW own) (w : WD G s h H locs) {k0 k1 t : Nat} (ht : t = 0 ∨ t = 1) (hs0 : sh k0 = 12 + t) (hs1 : sh k1 = 12 + t) {n0 n1 : Nat} (hn0 : ln k0 = n0) (hn1 : ln k1 = n1) (hw : MC own idx) (hls : ls.size = nL) {sp dp n : Int32} (h1 : ¬ sp < 0) (h2 : ¬ dp < 0) (h3 : ¬ n < 0) (h4 : sp.toNatClampNeg + n.toNatClampNeg ≤ n0) (h5 : dp.toNatClampNeg + n.toNatClampNeg ≤ n1)
    (hroom : 1 ≤ R.frames ∧ (rest.map fun v => v.category).sum + (nativeFrameWords "java/lang/System" "arraycopy" 5 + 11) ≤ R.locals) (d : decode cc pc = .ok (.invokestatic idx, 3))
    (kk : ∀ (h1 : HS) (H1 : Heap) (locs1 : List Loc), h1 = wa h k1 (va_cpy (h.1 k0) (h.1 k1) sp.toNatClampNeg dp.toNatClampNeg n.toNatClampNeg) → WD G s h1 H1 locs1 → W p l e R s m args below meth c H1 locs1 cells slots Q (F0 m (pc + 3) ls rest)) : W p l e R s m args below meth c H locs cells slots Q (F0 m pc ls (.int n :: .int dp :: .ref (ad G k1) :: .int sp :: .ref (ad G k0) :: rest)) :=
  q_copy E w ht hs0 hs1 hn0 hn1 hw hls h1 h2 h3 h4 h5 hroom d (fun H1 locs1 w1 => kk _ H1 locs1 rfl w1)
end PR
section PK
variable {p : Program} {l : Launch} {e : Env} {R : Room} {s : State} {m : MethodId} {args : Array Value} {below : List Frame} {meth : Method} {c : Code} {H : Heap} {locs : List Loc} {cells slots : Nat} {Q : State → Prop} {cc : ByteArray} {nL : Nat} {own : String} {pc : Nat} {ls : Array Slot} {rest st0 : List Value} {G : GT} {h h' : HS} {y : MethodName} {bytes : ByteArray} {maxL fr lo idx n : Nat} {ret : Option FieldType} {As : List Value}
theorem k_Vi {r : Int32} (E : CallFix p m c cc nL s args UW own) (w : WD G s h H locs) {k ci : Nat} (hs : sh k = ci) (hci : ci < 12 ∧ (vwCl[ci]?).map Prod.fst = some y.cls) (hM : CT l G y bytes maxL ret fr lo (.ref (ad G k) :: As) h (some (.int r)) h') (hw : MV own idx y bytes maxL ret n) (hn : As.length = n) (hst : st0 = As.reverse ++ .ref (ad G k) :: rest) (hls : ls.size = nL) (hroom : fr + 1 ≤ R.frames ∧ 8 + (maxL + 11) + lo ≤ R.locals) (hrest : (rest.map fun v => v.category).sum ≤ 8) (hcs : cells ≤ R.cells ∧ slots ≤ R.slots) (d : decode cc pc = .ok (.invokevirtual idx, 3))
    (kk : ∀ (H1 : Heap) (locs1 : List Loc), WD G s h' H1 locs1 → W p l e R s m args below meth c H1 locs1 cells slots Q (F0 m (pc + 3) ls (.int r :: rest))) : W p l e R s m args below meth c H locs cells slots Q (F0 m pc ls st0) := by
  subst hst
  exact q_callV E w hs hci hM hw hn hls hroom hrest hcs d kk
theorem k_Vl {r : Int64} (E : CallFix p m c cc nL s args UW own) (w : WD G s h H locs) {k ci : Nat} (hs : sh k = ci) (hci : ci < 12 ∧ (vwCl[ci]?).map Prod.fst = some y.cls) (hM : CT l G y bytes maxL ret fr lo (.ref (ad G k) :: As) h (some (.long r)) h') (hw : MV own idx y bytes maxL ret n) (hn : As.length = n) (hst : st0 = As.reverse ++ .ref (ad G k) :: rest) (hls : ls.size = nL) (hroom : fr + 1 ≤ R.frames ∧ 8 + (maxL + 11) + lo ≤ R.locals) (hrest : (rest.map fun v => v.category).sum ≤ 8) (hcs : cells ≤ R.cells ∧ slots ≤ R.slots) (d : decode cc pc = .ok (.invokevirtual idx, 3))
    (kk : ∀ (H1 : Heap) (locs1 : List Loc), WD G s h' H1 locs1 → W p l e R s m args below meth c H1 locs1 cells slots Q (F0 m (pc + 3) ls (.long r :: rest))) : W p l e R s m args below meth c H locs cells slots Q (F0 m pc ls st0) := by
  subst hst
  exact q_callV E w hs hci hM hw hn hls hroom hrest hcs d kk
theorem k_Vv (E : CallFix p m c cc nL s args UW own) (w : WD G s h H locs) {k ci : Nat} (hs : sh k = ci) (hci : ci < 12 ∧ (vwCl[ci]?).map Prod.fst = some y.cls) (hM : CT l G y bytes maxL ret fr lo (.ref (ad G k) :: As) h none h') (hw : MV own idx y bytes maxL ret n) (hn : As.length = n) (hst : st0 = As.reverse ++ .ref (ad G k) :: rest) (hls : ls.size = nL) (hroom : fr + 1 ≤ R.frames ∧ 8 + (maxL + 11) + lo ≤ R.locals) (hrest : (rest.map fun v => v.category).sum ≤ 8) (hcs : cells ≤ R.cells ∧ slots ≤ R.slots) (d : decode cc pc = .ok (.invokevirtual idx, 3))
    (kk : ∀ (H1 : Heap) (locs1 : List Loc), WD G s h' H1 locs1 → W p l e R s m args below meth c H1 locs1 cells slots Q (F0 m (pc + 3) ls (rest))) : W p l e R s m args below meth c H locs cells slots Q (F0 m pc ls st0) := by
  subst hst
  exact q_callV E w hs hci hM hw hn hls hroom hrest hcs d kk
theorem k_Vr {r : Nat} (E : CallFix p m c cc nL s args UW own) (w : WD G s h H locs) {k ci : Nat} (hs : sh k = ci) (hci : ci < 12 ∧ (vwCl[ci]?).map Prod.fst = some y.cls) (hM : CT l G y bytes maxL ret fr lo (.ref (ad G k) :: As) h (some (rfv G r)) h') (hw : MV own idx y bytes maxL ret n) (hn : As.length = n) (hst : st0 = As.reverse ++ .ref (ad G k) :: rest) (hls : ls.size = nL) (hroom : fr + 1 ≤ R.frames ∧ 8 + (maxL + 11) + lo ≤ R.locals) (hrest : (rest.map fun v => v.category).sum ≤ 8) (hcs : cells ≤ R.cells ∧ slots ≤ R.slots) (d : decode cc pc = .ok (.invokevirtual idx, 3))
    (kk : ∀ (H1 : Heap) (locs1 : List Loc), WD G s h' H1 locs1 → W p l e R s m args below meth c H1 locs1 cells slots Q (F0 m (pc + 3) ls (rfv G r :: rest))) : W p l e R s m args below meth c H locs cells slots Q (F0 m pc ls st0) := by
  subst hst
  exact q_callV E w hs hci hM hw hn hls hroom hrest hcs d kk
theorem k_Vs {r : Nat} (E : CallFix p m c cc nL s args UW own) (w : WD G s h H locs) {k ci : Nat} (hs : sh k = ci) (hci : ci < 12 ∧ (vwCl[ci]?).map Prod.fst = some y.cls) (hM : CT l G y bytes maxL ret fr lo (.ref (ad G k) :: As) h (some (.ref (ad G (310 + r)))) h') (hw : MV own idx y bytes maxL ret n) (hn : As.length = n) (hst : st0 = As.reverse ++ .ref (ad G k) :: rest) (hls : ls.size = nL) (hroom : fr + 1 ≤ R.frames ∧ 8 + (maxL + 11) + lo ≤ R.locals) (hrest : (rest.map fun v => v.category).sum ≤ 8) (hcs : cells ≤ R.cells ∧ slots ≤ R.slots) (d : decode cc pc = .ok (.invokevirtual idx, 3))
    (kk : ∀ (H1 : Heap) (locs1 : List Loc), WD G s h' H1 locs1 → W p l e R s m args below meth c H1 locs1 cells slots Q (F0 m (pc + 3) ls (.ref (ad G (310 + r)) :: rest))) : W p l e R s m args below meth c H locs cells slots Q (F0 m pc ls st0) := by
  subst hst
  exact q_callV E w hs hci hM hw hn hls hroom hrest hcs d kk
theorem k_Si {r : Int32} (E : CallFix p m c cc nL s args UW own) (w : WD G s h H locs) (hM : CT l G y bytes maxL ret fr lo (As) h (some (.int r)) h') (hw : MS own idx y bytes maxL ret n) (hn : As.length = n) (hst : st0 = As.reverse ++ rest) (hls : ls.size = nL) (hroom : fr + 1 ≤ R.frames ∧ 8 + (maxL + 11) + lo ≤ R.locals) (hrest : (rest.map fun v => v.category).sum ≤ 8) (hcs : cells ≤ R.cells ∧ slots ≤ R.slots) (d : decode cc pc = .ok (.invokestatic idx, 3))
    (kk : ∀ (H1 : Heap) (locs1 : List Loc), WD G s h' H1 locs1 → W p l e R s m args below meth c H1 locs1 cells slots Q (F0 m (pc + 3) ls (.int r :: rest))) : W p l e R s m args below meth c H locs cells slots Q (F0 m pc ls st0) := by
  subst hst
  exact q_callS E w hM hw hn hls hroom hrest hcs d kk
theorem k_Sl {r : Int64} (E : CallFix p m c cc nL s args UW own) (w : WD G s h H locs) (hM : CT l G y bytes maxL ret fr lo (As) h (some (.long r)) h') (hw : MS own idx y bytes maxL ret n) (hn : As.length = n) (hst : st0 = As.reverse ++ rest) (hls : ls.size = nL) (hroom : fr + 1 ≤ R.frames ∧ 8 + (maxL + 11) + lo ≤ R.locals) (hrest : (rest.map fun v => v.category).sum ≤ 8) (hcs : cells ≤ R.cells ∧ slots ≤ R.slots) (d : decode cc pc = .ok (.invokestatic idx, 3))
    (kk : ∀ (H1 : Heap) (locs1 : List Loc), WD G s h' H1 locs1 → W p l e R s m args below meth c H1 locs1 cells slots Q (F0 m (pc + 3) ls (.long r :: rest))) : W p l e R s m args below meth c H locs cells slots Q (F0 m pc ls st0) := by
  subst hst
  exact q_callS E w hM hw hn hls hroom hrest hcs d kk
theorem k_Sv (E : CallFix p m c cc nL s args UW own) (w : WD G s h H locs) (hM : CT l G y bytes maxL ret fr lo (As) h none h') (hw : MS own idx y bytes maxL ret n) (hn : As.length = n) (hst : st0 = As.reverse ++ rest) (hls : ls.size = nL) (hroom : fr + 1 ≤ R.frames ∧ 8 + (maxL + 11) + lo ≤ R.locals) (hrest : (rest.map fun v => v.category).sum ≤ 8) (hcs : cells ≤ R.cells ∧ slots ≤ R.slots) (d : decode cc pc = .ok (.invokestatic idx, 3))
    (kk : ∀ (H1 : Heap) (locs1 : List Loc), WD G s h' H1 locs1 → W p l e R s m args below meth c H1 locs1 cells slots Q (F0 m (pc + 3) ls (rest))) : W p l e R s m args below meth c H locs cells slots Q (F0 m pc ls st0) := by
  subst hst
  exact q_callS E w hM hw hn hls hroom hrest hcs d kk
theorem k_Sr {r : Nat} (E : CallFix p m c cc nL s args UW own) (w : WD G s h H locs) (hM : CT l G y bytes maxL ret fr lo (As) h (some (rfv G r)) h') (hw : MS own idx y bytes maxL ret n) (hn : As.length = n) (hst : st0 = As.reverse ++ rest) (hls : ls.size = nL) (hroom : fr + 1 ≤ R.frames ∧ 8 + (maxL + 11) + lo ≤ R.locals) (hrest : (rest.map fun v => v.category).sum ≤ 8) (hcs : cells ≤ R.cells ∧ slots ≤ R.slots) (d : decode cc pc = .ok (.invokestatic idx, 3))
    (kk : ∀ (H1 : Heap) (locs1 : List Loc), WD G s h' H1 locs1 → W p l e R s m args below meth c H1 locs1 cells slots Q (F0 m (pc + 3) ls (rfv G r :: rest))) : W p l e R s m args below meth c H locs cells slots Q (F0 m pc ls st0) := by
  subst hst
  exact q_callS E w hM hw hn hls hroom hrest hcs d kk
theorem k_Ss {r : Nat} (E : CallFix p m c cc nL s args UW own) (w : WD G s h H locs) (hM : CT l G y bytes maxL ret fr lo (As) h (some (.ref (ad G (310 + r)))) h') (hw : MS own idx y bytes maxL ret n) (hn : As.length = n) (hst : st0 = As.reverse ++ rest) (hls : ls.size = nL) (hroom : fr + 1 ≤ R.frames ∧ 8 + (maxL + 11) + lo ≤ R.locals) (hrest : (rest.map fun v => v.category).sum ≤ 8) (hcs : cells ≤ R.cells ∧ slots ≤ R.slots) (d : decode cc pc = .ok (.invokestatic idx, 3))
    (kk : ∀ (H1 : Heap) (locs1 : List Loc), WD G s h' H1 locs1 → W p l e R s m args below meth c H1 locs1 cells slots Q (F0 m (pc + 3) ls (.ref (ad G (310 + r)) :: rest))) : W p l e R s m args below meth c H locs cells slots Q (F0 m pc ls st0) := by
  subst hst
  exact q_callS E w hM hw hn hls hroom hrest hcs d kk
theorem k_Ni {r : Int32} {host : String} (E : CallFix p m c cc nL s args UW own) (w : WD G s h H locs) (hM : CT l G y bytes maxL ret fr lo (As) h (some (.int r)) h') (hw : MN own idx y host bytes maxL ret n) (hn : As.length = n) (hst : st0 = As.reverse ++ rest) (hls : ls.size = nL) (hroom : fr + 1 ≤ R.frames ∧ 8 + (maxL + 11) + lo ≤ R.locals) (hrest : (rest.map fun v => v.category).sum ≤ 8) (hcs : cells ≤ R.cells ∧ slots ≤ R.slots) (d : decode cc pc = .ok (.invokestatic idx, 3))
    (kk : ∀ (H1 : Heap) (locs1 : List Loc), WD G s h' H1 locs1 → W p l e R s m args below meth c H1 locs1 cells slots Q (F0 m (pc + 3) ls (.int r :: rest))) : W p l e R s m args below meth c H locs cells slots Q (F0 m pc ls st0) := by
  subst hst
  exact q_callN E w hM hw hn hls hroom hrest hcs d kk
theorem k_Nl {r : Int64} {host : String} (E : CallFix p m c cc nL s args UW own) (w : WD G s h H locs) (hM : CT l G y bytes maxL ret fr lo (As) h (some (.long r)) h') (hw : MN own idx y host bytes maxL ret n) (hn : As.length = n) (hst : st0 = As.reverse ++ rest) (hls : ls.size = nL) (hroom : fr + 1 ≤ R.frames ∧ 8 + (maxL + 11) + lo ≤ R.locals) (hrest : (rest.map fun v => v.category).sum ≤ 8) (hcs : cells ≤ R.cells ∧ slots ≤ R.slots) (d : decode cc pc = .ok (.invokestatic idx, 3))
    (kk : ∀ (H1 : Heap) (locs1 : List Loc), WD G s h' H1 locs1 → W p l e R s m args below meth c H1 locs1 cells slots Q (F0 m (pc + 3) ls (.long r :: rest))) : W p l e R s m args below meth c H locs cells slots Q (F0 m pc ls st0) := by
  subst hst
  exact q_callN E w hM hw hn hls hroom hrest hcs d kk
theorem k_Nv {host : String} (E : CallFix p m c cc nL s args UW own) (w : WD G s h H locs) (hM : CT l G y bytes maxL ret fr lo (As) h none h') (hw : MN own idx y host bytes maxL ret n) (hn : As.length = n) (hst : st0 = As.reverse ++ rest) (hls : ls.size = nL) (hroom : fr + 1 ≤ R.frames ∧ 8 + (maxL + 11) + lo ≤ R.locals) (hrest : (rest.map fun v => v.category).sum ≤ 8) (hcs : cells ≤ R.cells ∧ slots ≤ R.slots) (d : decode cc pc = .ok (.invokestatic idx, 3))
    (kk : ∀ (H1 : Heap) (locs1 : List Loc), WD G s h' H1 locs1 → W p l e R s m args below meth c H1 locs1 cells slots Q (F0 m (pc + 3) ls (rest))) : W p l e R s m args below meth c H locs cells slots Q (F0 m pc ls st0) := by
  subst hst
  exact q_callN E w hM hw hn hls hroom hrest hcs d kk
theorem k_Nr {r : Nat} {host : String} (E : CallFix p m c cc nL s args UW own) (w : WD G s h H locs) (hM : CT l G y bytes maxL ret fr lo (As) h (some (rfv G r)) h') (hw : MN own idx y host bytes maxL ret n) (hn : As.length = n) (hst : st0 = As.reverse ++ rest) (hls : ls.size = nL) (hroom : fr + 1 ≤ R.frames ∧ 8 + (maxL + 11) + lo ≤ R.locals) (hrest : (rest.map fun v => v.category).sum ≤ 8) (hcs : cells ≤ R.cells ∧ slots ≤ R.slots) (d : decode cc pc = .ok (.invokestatic idx, 3))
    (kk : ∀ (H1 : Heap) (locs1 : List Loc), WD G s h' H1 locs1 → W p l e R s m args below meth c H1 locs1 cells slots Q (F0 m (pc + 3) ls (rfv G r :: rest))) : W p l e R s m args below meth c H locs cells slots Q (F0 m pc ls st0) := by
  subst hst
  exact q_callN E w hM hw hn hls hroom hrest hcs d kk
theorem k_Ns {r : Nat} {host : String} (E : CallFix p m c cc nL s args UW own) (w : WD G s h H locs) (hM : CT l G y bytes maxL ret fr lo (As) h (some (.ref (ad G (310 + r)))) h') (hw : MN own idx y host bytes maxL ret n) (hn : As.length = n) (hst : st0 = As.reverse ++ rest) (hls : ls.size = nL) (hroom : fr + 1 ≤ R.frames ∧ 8 + (maxL + 11) + lo ≤ R.locals) (hrest : (rest.map fun v => v.category).sum ≤ 8) (hcs : cells ≤ R.cells ∧ slots ≤ R.slots) (d : decode cc pc = .ok (.invokestatic idx, 3))
    (kk : ∀ (H1 : Heap) (locs1 : List Loc), WD G s h' H1 locs1 → W p l e R s m args below meth c H1 locs1 cells slots Q (F0 m (pc + 3) ls (.ref (ad G (310 + r)) :: rest))) : W p l e R s m args below meth c H locs cells slots Q (F0 m pc ls st0) := by
  subst hst
  exact q_callN E w hM hw hn hls hroom hrest hcs d kk
end PK
theorem lay_0_1 {k : Nat} (hk : sh k = 0) : sh (k + 11) = 13 ∧ ln (k + 11) = 8 := (by decide +kernel : ∀ k, k < 257 → sh k = 0 → sh (k + 11) = 13 ∧ ln (k + 11) = 8) k (sh_lt (by omega)) hk
theorem lay_1_5 {k : Nat} (hk : sh k = 1) : sh (k + 1) = 13 ∧ ln (k + 1) = 6 := (by decide +kernel : ∀ k, k < 257 → sh k = 1 → sh (k + 1) = 13 ∧ ln (k + 1) = 6) k (sh_lt (by omega)) hk
theorem lay_1_6 {k : Nat} (hk : sh k = 1) : sh (k + 2) = 13 ∧ ln (k + 2) = 6 := (by decide +kernel : ∀ k, k < 257 → sh k = 1 → sh (k + 2) = 13 ∧ ln (k + 2) = 6) k (sh_lt (by omega)) hk
theorem lay_1_7 {k : Nat} (hk : sh k = 1) : sh (k + 3) = 13 ∧ ln (k + 3) = 8 := (by decide +kernel : ∀ k, k < 257 → sh k = 1 → sh (k + 3) = 13 ∧ ln (k + 3) = 8) k (sh_lt (by omega)) hk
theorem lay_1_8 {k : Nat} (hk : sh k = 1) : sh (k + 4) = 13 ∧ ln (k + 4) = 8 := (by decide +kernel : ∀ k, k < 257 → sh k = 1 → sh (k + 4) = 13 ∧ ln (k + 4) = 8) k (sh_lt (by omega)) hk
theorem lay_1_9 {k : Nat} (hk : sh k = 1) : sh (k + 5) = 13 ∧ ln (k + 5) = 8 := (by decide +kernel : ∀ k, k < 257 → sh k = 1 → sh (k + 5) = 13 ∧ ln (k + 5) = 8) k (sh_lt (by omega)) hk
theorem lay_1_10 {k : Nat} (hk : sh k = 1) : sh (k + 6) = 13 ∧ ln (k + 6) = 8 := (by decide +kernel : ∀ k, k < 257 → sh k = 1 → sh (k + 6) = 13 ∧ ln (k + 6) = 8) k (sh_lt (by omega)) hk
theorem lay_1_11 {k : Nat} (hk : sh k = 1) : sh (k + 7) = 13 ∧ ln (k + 7) = 5 := (by decide +kernel : ∀ k, k < 257 → sh k = 1 → sh (k + 7) = 13 ∧ ln (k + 7) = 5) k (sh_lt (by omega)) hk
theorem lay_1_12 {k : Nat} (hk : sh k = 1) : sh (k + 8) = 13 ∧ ln (k + 8) = 5 := (by decide +kernel : ∀ k, k < 257 → sh k = 1 → sh (k + 8) = 13 ∧ ln (k + 8) = 5) k (sh_lt (by omega)) hk
theorem lay_1_13 {k : Nat} (hk : sh k = 1) : sh (k + 9) = 13 ∧ ln (k + 9) = 5 := (by decide +kernel : ∀ k, k < 257 → sh k = 1 → sh (k + 9) = 13 ∧ ln (k + 9) = 5) k (sh_lt (by omega)) hk
theorem lay_2_0 {k : Nat} (hk : sh k = 2) : sh (k + 1) = 13 ∧ ln (k + 1) = 6 := (by decide +kernel : ∀ k, k < 257 → sh k = 2 → sh (k + 1) = 13 ∧ ln (k + 1) = 6) k (sh_lt (by omega)) hk
theorem lay_3_11 {k : Nat} (hk : sh k = 3) : sh (k + 11) = 13 ∧ ln (k + 11) = 5 := (by decide +kernel : ∀ k, k < 257 → sh k = 3 → sh (k + 11) = 13 ∧ ln (k + 11) = 5) k (sh_lt (by omega)) hk
theorem lay_3_12 {k : Nat} (hk : sh k = 3) : sh (k + 12) = 13 ∧ ln (k + 12) = 5 := (by decide +kernel : ∀ k, k < 257 → sh k = 3 → sh (k + 12) = 13 ∧ ln (k + 12) = 5) k (sh_lt (by omega)) hk
theorem lay_4_0 {k : Nat} (hk : sh k = 4) : sh (k + 1) = 1 := (by decide +kernel : ∀ k, k < 257 → sh k = 4 → sh (k + 1) = 1) k (sh_lt (by omega)) hk
theorem lay_4_1 {k : Nat} (hk : sh k = 4) : sh (k + 11) = 6 := (by decide +kernel : ∀ k, k < 257 → sh k = 4 → sh (k + 11) = 6) k (sh_lt (by omega)) hk
theorem lay_4_10 {k : Nat} (hk : sh k = 4) : sh (k + 14) = 13 ∧ ln (k + 14) = 4 := (by decide +kernel : ∀ k, k < 257 → sh k = 4 → sh (k + 14) = 13 ∧ ln (k + 14) = 4) k (sh_lt (by omega)) hk
theorem lay_5_3 {k : Nat} (hk : sh k = 5) : sh (k + 11) = 13 ∧ ln (k + 11) = 6 := (by decide +kernel : ∀ k, k < 257 → sh k = 5 → sh (k + 11) = 13 ∧ ln (k + 11) = 6) k (sh_lt (by omega)) hk
theorem lay_5_4 {k : Nat} (hk : sh k = 5) : sh (k + 12) = 13 ∧ ln (k + 12) = 8 := (by decide +kernel : ∀ k, k < 257 → sh k = 5 → sh (k + 12) = 13 ∧ ln (k + 12) = 8) k (sh_lt (by omega)) hk
theorem lay_5_5 {k : Nat} (hk : sh k = 5) : sh (k + 13) = 13 ∧ ln (k + 13) = 9 := (by decide +kernel : ∀ k, k < 257 → sh k = 5 → sh (k + 13) = 13 ∧ ln (k + 13) = 9) k (sh_lt (by omega)) hk
theorem lay_6_1 {k : Nat} (hk : sh k = 6) : sh (k + 1) = 13 ∧ True := (by decide +kernel : ∀ k, k < 257 → sh k = 6 → sh (k + 1) = 13 ∧ True) k (sh_lt (by omega)) hk
theorem lay_6_2 {k : Nat} (hk : sh k = 6) : sh (k + 2) = 13 ∧ True := (by decide +kernel : ∀ k, k < 257 → sh k = 6 → sh (k + 2) = 13 ∧ True) k (sh_lt (by omega)) hk
theorem lay_7_0 {k : Nat} (hk : sh k = 7) : sh (k + 1) = 12 ∧ ln (k + 1) = 600 := (by decide +kernel : ∀ k, k < 257 → sh k = 7 → sh (k + 1) = 12 ∧ ln (k + 1) = 600) k (sh_lt (by omega)) hk
theorem lay_7_4 {k : Nat} (hk : sh k = 7) : sh (k + 2) = 13 ∧ ln (k + 2) = 3 := (by decide +kernel : ∀ k, k < 257 → sh k = 7 → sh (k + 2) = 13 ∧ ln (k + 2) = 3) k (sh_lt (by omega)) hk
theorem lay_7_5 {k : Nat} (hk : sh k = 7) : sh (k + 3) = 15 ∧ ln (k + 3) = 2 := (by decide +kernel : ∀ k, k < 257 → sh k = 7 → sh (k + 3) = 15 ∧ ln (k + 3) = 2) k (sh_lt (by omega)) hk
theorem lay_7_6 {k : Nat} (hk : sh k = 7) : sh (k + 24) = 16 ∧ ln (k + 24) = 2 := (by decide +kernel : ∀ k, k < 257 → sh k = 7 → sh (k + 24) = 16 ∧ ln (k + 24) = 2) k (sh_lt (by omega)) hk
theorem lay_7_7 {k : Nat} (hk : sh k = 7) : sh (k + 31) = 16 ∧ ln (k + 31) = 2 := (by decide +kernel : ∀ k, k < 257 → sh k = 7 → sh (k + 31) = 16 ∧ ln (k + 31) = 2) k (sh_lt (by omega)) hk
theorem lay_8_1 {k : Nat} (hk : sh k = 8) : sh (k + 11) = 13 ∧ ln (k + 11) = 8 := (by decide +kernel : ∀ k, k < 257 → sh k = 8 → sh (k + 11) = 13 ∧ ln (k + 11) = 8) k (sh_lt (by omega)) hk
theorem lay_8_2 {k : Nat} (hk : sh k = 8) : sh (k + 12) = 13 ∧ ln (k + 12) = 10 := (by decide +kernel : ∀ k, k < 257 → sh k = 8 → sh (k + 12) = 13 ∧ ln (k + 12) = 10) k (sh_lt (by omega)) hk
theorem lay_8_3 {k : Nat} (hk : sh k = 8) : sh (k + 13) = 13 ∧ ln (k + 13) = 10 := (by decide +kernel : ∀ k, k < 257 → sh k = 8 → sh (k + 13) = 13 ∧ ln (k + 13) = 10) k (sh_lt (by omega)) hk
theorem lay_10_0 {k : Nat} (hk : sh k = 10) : sh (k + 1) = 7 := (by decide +kernel : ∀ k, k < 257 → sh k = 10 → sh (k + 1) = 7) k (sh_lt (by omega)) hk
theorem lay_10_1 {k : Nat} (hk : sh k = 10) : sh (k + 39) = 17 ∧ ln (k + 39) = 3 := (by decide +kernel : ∀ k, k < 257 → sh k = 10 → sh (k + 39) = 17 ∧ ln (k + 39) = 3) k (sh_lt (by omega)) hk
theorem lay_10_2 {k : Nat} (hk : sh k = 10) : sh (k + 154) = 14 ∧ ln (k + 154) = 3 := (by decide +kernel : ∀ k, k < 257 → sh k = 10 → sh (k + 154) = 14 ∧ ln (k + 154) = 3) k (sh_lt (by omega)) hk
theorem lay_10_3 {k : Nat} (hk : sh k = 10) : sh (k + 155) = 4 := (by decide +kernel : ∀ k, k < 257 → sh k = 10 → sh (k + 155) = 4) k (sh_lt (by omega)) hk
theorem lay_10_4 {k : Nat} (hk : sh k = 10) : sh (k + 170) = 5 := (by decide +kernel : ∀ k, k < 257 → sh k = 10 → sh (k + 170) = 5) k (sh_lt (by omega)) hk
theorem lay_10_5 {k : Nat} (hk : sh k = 10) : sh (k + 184) = 3 := (by decide +kernel : ∀ k, k < 257 → sh k = 10 → sh (k + 184) = 3) k (sh_lt (by omega)) hk
theorem lay_10_6 {k : Nat} (hk : sh k = 10) : sh (k + 197) = 0 := (by decide +kernel : ∀ k, k < 257 → sh k = 10 → sh (k + 197) = 0) k (sh_lt (by omega)) hk
theorem lay_10_7 {k : Nat} (hk : sh k = 10) : sh (k + 209) = 9 := (by decide +kernel : ∀ k, k < 257 → sh k = 10 → sh (k + 209) = 9) k (sh_lt (by omega)) hk
theorem lay_10_8 {k : Nat} (hk : sh k = 10) : sh (k + 220) = 8 := (by decide +kernel : ∀ k, k < 257 → sh k = 10 → sh (k + 220) = 8) k (sh_lt (by omega)) hk
theorem lay_10_9 {k : Nat} (hk : sh k = 10) : sh (k + 234) = 2 := (by decide +kernel : ∀ k, k < 257 → sh k = 10 → sh (k + 234) = 2) k (sh_lt (by omega)) hk
theorem lay_11_0 {k : Nat} (hk : sh k = 11) : sh (k + 1) = 13 ∧ ln (k + 1) = 3736 := (by decide +kernel : ∀ k, k < 257 → sh k = 11 → sh (k + 1) = 13 ∧ ln (k + 1) = 3736) k (sh_lt (by omega)) hk
theorem lay_11_1 {k : Nat} (hk : sh k = 11) : sh (k + 2) = 14 ∧ ln (k + 2) = 3 := (by decide +kernel : ∀ k, k < 257 → sh k = 11 → sh (k + 2) = 14 ∧ ln (k + 2) = 3) k (sh_lt (by omega)) hk
theorem lay_11_11 {k : Nat} (hk : sh k = 11) : sh (k + 3) = 13 ∧ ln (k + 3) = 81 := (by decide +kernel : ∀ k, k < 257 → sh k = 11 → sh (k + 3) = 13 ∧ ln (k + 3) = 81) k (sh_lt (by omega)) hk
theorem lay_11_16 {k : Nat} (hk : sh k = 11) : sh (k + 4) = 13 ∧ ln (k + 4) = 8 := (by decide +kernel : ∀ k, k < 257 → sh k = 11 → sh (k + 4) = 13 ∧ ln (k + 4) = 8) k (sh_lt (by omega)) hk
theorem lay_11_17 {k : Nat} (hk : sh k = 11) : sh (k + 5) = 13 ∧ ln (k + 5) = 8 := (by decide +kernel : ∀ k, k < 257 → sh k = 11 → sh (k + 5) = 13 ∧ ln (k + 5) = 8) k (sh_lt (by omega)) hk
theorem lay_11_18 {k : Nat} (hk : sh k = 11) : sh (k + 6) = 13 ∧ ln (k + 6) = 6 := (by decide +kernel : ∀ k, k < 257 → sh k = 11 → sh (k + 6) = 13 ∧ ln (k + 6) = 6) k (sh_lt (by omega)) hk
theorem lay_11_19 {k : Nat} (hk : sh k = 11) : sh (k + 7) = 13 ∧ ln (k + 7) = 6 := (by decide +kernel : ∀ k, k < 257 → sh k = 11 → sh (k + 7) = 13 ∧ ln (k + 7) = 6) k (sh_lt (by omega)) hk
theorem lay_11_23 {k : Nat} (hk : sh k = 11) : sh (k + 8) = 13 ∧ ln (k + 8) = 8 := (by decide +kernel : ∀ k, k < 257 → sh k = 11 → sh (k + 8) = 13 ∧ ln (k + 8) = 8) k (sh_lt (by omega)) hk
theorem lay_11_24 {k : Nat} (hk : sh k = 11) : sh (k + 9) = 13 ∧ ln (k + 9) = 8 := (by decide +kernel : ∀ k, k < 257 → sh k = 11 → sh (k + 9) = 13 ∧ ln (k + 9) = 8) k (sh_lt (by omega)) hk
theorem lay_11_25 {k : Nat} (hk : sh k = 11) : sh (k + 10) = 13 ∧ ln (k + 10) = 6 := (by decide +kernel : ∀ k, k < 257 → sh k = 11 → sh (k + 10) = 13 ∧ ln (k + 10) = 6) k (sh_lt (by omega)) hk
theorem lay_11_26 {k : Nat} (hk : sh k = 11) : sh (k + 11) = 13 ∧ ln (k + 11) = 6 := (by decide +kernel : ∀ k, k < 257 → sh k = 11 → sh (k + 11) = 13 ∧ ln (k + 11) = 6) k (sh_lt (by omega)) hk
theorem lay_11_27 {k : Nat} (hk : sh k = 11) : sh (k + 12) = 13 ∧ ln (k + 12) = 6 := (by decide +kernel : ∀ k, k < 257 → sh k = 11 → sh (k + 12) = 13 ∧ ln (k + 12) = 6) k (sh_lt (by omega)) hk
theorem lay_11_28 {k : Nat} (hk : sh k = 11) : sh (k + 13) = 13 ∧ ln (k + 13) = 6 := (by decide +kernel : ∀ k, k < 257 → sh k = 11 → sh (k + 13) = 13 ∧ ln (k + 13) = 6) k (sh_lt (by omega)) hk
theorem lay_11_30 {k : Nat} (hk : sh k = 11) : sh (k + 14) = 13 ∧ ln (k + 14) = 80 := (by decide +kernel : ∀ k, k < 257 → sh k = 11 → sh (k + 14) = 13 ∧ ln (k + 14) = 80) k (sh_lt (by omega)) hk
theorem lay_11_31 {k : Nat} (hk : sh k = 11) : sh (k + 15) = 14 ∧ ln (k + 15) = 80 := (by decide +kernel : ∀ k, k < 257 → sh k = 11 → sh (k + 15) = 14 ∧ ln (k + 15) = 80) k (sh_lt (by omega)) hk
theorem lay_11_45 {k : Nat} (hk : sh k = 11) : sh (k + 16) = 13 ∧ ln (k + 16) = 5 := (by decide +kernel : ∀ k, k < 257 → sh k = 11 → sh (k + 16) = 13 ∧ ln (k + 16) = 5) k (sh_lt (by omega)) hk
theorem lay_11_46 {k : Nat} (hk : sh k = 11) : sh (k + 17) = 13 ∧ ln (k + 17) = 5 := (by decide +kernel : ∀ k, k < 257 → sh k = 11 → sh (k + 17) = 13 ∧ ln (k + 17) = 5) k (sh_lt (by omega)) hk
theorem lay_11_47 {k : Nat} (hk : sh k = 11) : sh (k + 18) = 13 ∧ ln (k + 18) = 8 := (by decide +kernel : ∀ k, k < 257 → sh k = 11 → sh (k + 18) = 13 ∧ ln (k + 18) = 8) k (sh_lt (by omega)) hk
theorem lay_11_49 {k : Nat} (hk : sh k = 11) : sh (k + 19) = 13 ∧ ln (k + 19) = 6 := (by decide +kernel : ∀ k, k < 257 → sh k = 11 → sh (k + 19) = 13 ∧ ln (k + 19) = 6) k (sh_lt (by omega)) hk
theorem ln_12 {k : Nat} (hk : sh k = 12) : ln k = 600 := (by decide +kernel : ∀ k, k < 257 → sh k = 12 → ln k = 600) k (sh_lt (by omega)) hk
theorem lay_ra {k n kd ek : Nat} {i : Int32} (hs : sh k = kd) (hn : ln k = n) (hk : 15 ≤ kd ∧ kd ≤ 17) (he : (if kd = 15 then 1 else if kd = 16 then 6 else 7) = ek) (b : ¬ (i < 0 ∨ n ≤ i.toNatClampNeg)) : sh (ra k i.toNatClampNeg) = ek := by
  have h1 := (by decide +kernel : ∀ k, k < 257 → 15 ≤ sh k ∧ sh k ≤ 17 → ∀ j, j < ln k → sh (ra k j) = (if sh k = 15 then 1 else if sh k = 16 then 6 else 7)) k (sh_lt (by omega)) (by omega) i.toNatClampNeg (by omega)
  rw [h1, hs, he]
theorem uw_t (i : Nat) {w : Cond} (h : tables_1[i]? = some w) (g : goodWord w = true) : w ∈ UW := List.mem_filter.mpr ⟨List.mem_append_right _ (List.mem_of_getElem? h), g⟩
theorem uw_s (i : Nat) {w : Cond} (h : (k2_sels lw_privs)[i]? = some w) (g : goodWord w = true) : w ∈ UW := List.mem_filter.mpr ⟨List.mem_append_left _ (List.mem_of_getElem? h), g⟩
theorem uw_all {ws : List Cond} (ps : List Nat) (hp : ws.map some = ps.map (fun i => tables_1[i]?)) (g : ws.all goodWord = true) : ∀ w ∈ ws, w ∈ UW := by
  intro w hw
  have h1 : some w ∈ ws.map some := List.mem_map.mpr ⟨w, hw, rfl⟩
  rw [hp] at h1
  obtain ⟨i, -, hi⟩ := List.mem_map.mp h1
  exact uw_t i hi (List.all_eq_true.mp g w hw)
theorem uwX0 : ∀ w ∈ u_ws RX0 TX0 2, w ∈ UW := uw_all [342, 344] (by decide +kernel) (by decide +kernel)
theorem uwX1 : ∀ w ∈ u_ws RX1 TX1 14, w ∈ UW := uw_all [92, 94, 96, 98, 100, 102, 104, 106, 108, 110, 112, 114, 116, 118] (by decide +kernel) (by decide +kernel)
theorem uwX2 : ∀ w ∈ u_ws RX2 TX2 2, w ∈ UW := uw_all [406, 408] (by decide +kernel) (by decide +kernel)
theorem uwX3 : ∀ w ∈ u_ws RX3 TX3 19, w ∈ UW := uw_all [293, 295, 297, 299, 301, 303, 305, 307, 309, 311, 313, 315, 317, 319, 321, 323, 325, 327, 329] (by decide +kernel) (by decide +kernel)
theorem uwX4 : ∀ w ∈ u_ws RX4 TX4 11, w ∈ UW := uw_all [212, 214, 216, 218, 220, 222, 224, 226, 228, 230, 232] (by decide +kernel) (by decide +kernel)
theorem uwX5 : ∀ w ∈ u_ws RX5 TX5 6, w ∈ UW := uw_all [250, 252, 254, 256, 258, 260] (by decide +kernel) (by decide +kernel)
theorem uwX6 : ∀ w ∈ u_ws RX6 TX6 4, w ∈ UW := uw_all [147, 149, 151, 153] (by decide +kernel) (by decide +kernel)
theorem uwX7 : ∀ w ∈ u_ws RX7 TX7 8, w ∈ UW := uw_all [169, 171, 173, 175, 177, 179, 181, 183] (by decide +kernel) (by decide +kernel)
theorem uwX8 : ∀ w ∈ u_ws RX8 TX8 4, w ∈ UW := uw_all [388, 390, 392, 394] (by decide +kernel) (by decide +kernel)
theorem uwX9 : ∀ w ∈ u_ws RX9 TX9 6, w ∈ UW := uw_all [363, 365, 367, 369, 371, 373] (by decide +kernel) (by decide +kernel)
theorem uwX10 : ∀ w ∈ u_ws RX10 TX10 10, w ∈ UW := uw_all [421, 423, 425, 427, 429, 431, 433, 435, 437, 439] (by decide +kernel) (by decide +kernel)
theorem uwX11 : ∀ w ∈ u_ws RX11 TX11 51, w ∈ UW := uw_all [1236, 1238, 1240, 1242, 1244, 1246, 1248, 1250, 1252, 1254, 1256, 1258, 1260, 1262, 1264, 1266, 1268, 1270, 1272, 1274, 1276, 1278, 1280, 1282, 1284, 1286, 1288, 1290, 1292, 1294, 1296, 1298, 1300, 1302, 1304, 1306, 1308, 1310, 1312, 1314, 1316, 1318, 1320, 1322, 1324, 1326, 1328, 1330, 1332, 1334, 1336] (by decide +kernel) (by decide +kernel)
