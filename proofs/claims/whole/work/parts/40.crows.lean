/-! ===== while objects are made: n cells stand, F says what they hold ===== -/
def wsP (G : GT) (n : Nat) (F : Nat → va_E) : va_W := (List.range n).map (fun i => (ad G (i + 1), F (i + 1)))
def GB (G : GT) (b : Nat) : Prop := ∀ k, k + 1 < NN → ad G (k + 1) = b + k
def AO (U : State) : Prop := va_AO RX1 U ∧ va_AO RX6 U ∧ va_AO RX7 U
def CH (G : GT) (b n : Nat) (F : Nat → va_E) (U : State) : Prop := n < NN ∧ U.heap.size = b + n ∧ va_P G.1 vwCl (wsP G n F) U.heap ∧ va_K G.1 vwCl (tysO G) U ∧ GB G b ∧ (NL U ∧ AO U)
def CW (G : GT) (b : Nat) (s : State) (n : Nat) (F : Nat → va_E) (H : Heap) (locs : List Loc) : Prop := n < NN ∧ H.size = b + n ∧ va_P G.1 vwCl (wsP G n F) H ∧ va_K G.1 vwCl (tysO G) s ∧ GB G b ∧ (NL s ∧ AO s) ∧ va_S (fun q => b ≤ q) s.heap H locs
theorem wsP_at (G : GT) (F : Nat → va_E) {n k : Nat} (h0 : 0 < k) (h1 : k ≤ n) : (wsP G n F)[k - 1]? = some (ad G k, F k) := by
  unfold wsP
  rw [List.getElem?_map, List.getElem?_range (by omega)]
  show some (ad G (k - 1 + 1), F (k - 1 + 1)) = _
  rw [show k - 1 + 1 = k by omega]
theorem wsP_set (G : GT) (F : Nat → va_E) {n k : Nat} (h0 : 0 < k) (h1 : k ≤ n) (x : va_E) : (wsP G n F).set (k - 1) (ad G k, x) = wsP G n (va_up F k x) := by
  apply List.ext_getElem?
  intro i
  rw [List.getElem?_set]
  unfold wsP
  simp only [List.length_map, List.length_range, List.getElem?_map]
  by_cases hi : k - 1 = i
  · subst hi
    rw [if_pos rfl, if_pos (by omega), List.getElem?_range (by omega)]
    show _ = some (ad G (k - 1 + 1), va_up F k x (k - 1 + 1))
    rw [show k - 1 + 1 = k by omega]
    simp [va_up]
  · rw [if_neg hi]
    rcases Nat.lt_or_ge i n with q | q
    · rw [List.getElem?_range q]
      show some (ad G (i + 1), F (i + 1)) = some (ad G (i + 1), va_up F k x (i + 1))
      rw [show va_up F k x (i + 1) = F (i + 1) from by unfold va_up; rw [if_neg (by omega)]]
    · rw [List.getElem?_eq_none (by simpa using q)]
      rfl
theorem wsP_push (G : GT) (F : Nat → va_E) (n : Nat) (x : va_E) : wsP G n F ++ [(ad G (n + 1), x)] = wsP G (n + 1) (va_up F (n + 1) x) := by
  unfold wsP
  rw [List.range_succ, List.map_append]
  have e : (List.range n).map (fun i => (ad G (i + 1), F (i + 1))) = (List.range n).map (fun i => (ad G (i + 1), va_up F (n + 1) x (i + 1))) := by
    apply List.map_congr_left
    intro i hi
    have := List.mem_range.mp hi
    rw [show va_up F (n + 1) x (i + 1) = F (i + 1) from by unfold va_up; rw [if_neg (by omega)]]
  rw [e]
  simp [va_up]
theorem wsP_congr (G : GT) {n : Nat} {F F' : Nat → va_E} (h : ∀ i, 0 < i → i ≤ n → F i = F' i) : wsP G n F = wsP G n F' := by
  unfold wsP
  apply List.map_congr_left
  intro i hi
  have := List.mem_range.mp hi
  rw [h (i + 1) (by omega) (by omega)]
theorem wsP_D {G : GT} {b : Nat} (hB : GB G b) {n : Nat} (hn : n < NN) (F : Nat → va_E) : va_D (fun q => b ≤ q) (wsP G n F) := by
  have at' : ∀ (i : Nat) (q : Nat × va_E), (wsP G n F)[i]? = some q → i < n ∧ q.1 = b + i := by
    intro i q hq
    unfold wsP at hq
    rw [List.getElem?_map] at hq
    rcases Nat.lt_or_ge i n with z | z
    · rw [List.getElem?_range z] at hq
      cases hq
      exact ⟨z, hB i (by omega)⟩
    · rw [List.getElem?_eq_none (by simpa using z)] at hq
      cases hq
  refine ⟨fun i j p q hp hq e => ?_, fun k q hq => ?_⟩
  · have a := (at' i p hp).2
    have c := (at' j q hq).2
    omega
  · have a := (at' k q hq).2
    show b ≤ q.1
    omega
theorem CW_toH {G : GT} {b : Nat} {s : State} {n : Nat} {F : Nat → va_E} {H : Heap} {locs : List Loc} (w : CW G b s n F H locs) {t : State} (ht : t.heap = H) (hW : s.WarmedH t.vm) : CH G b n F t := by
  obtain ⟨h0, hz, hP, hK, hB, hN, hS⟩ := w
  subst ht
  exact ⟨h0, hz, hP, va_K.moved hW.alike hK, hB, fun q hq => va_Nw.warmM hW (hN.1 q hq), va_AO.moved hW.alike hN.2.1, va_AO.moved hW.alike hN.2.2.1, va_AO.moved hW.alike hN.2.2.2⟩
theorem CH_blind {G : GT} {b n : Nat} {F : Nat → va_E} {avs : List Value} : FrameBlind (va_Pc avs (CH G b n F)) := by
  intro a U g mk q
  obtain ⟨q0, h0, hz, hP, hK, hB, hN, h1, h2, h3⟩ := q
  exact ⟨q0, h0, hz, hP, va_K.moved (u := U) (U := U.calling g mk a) (Vm.Alike.refl U.vm) hK, hB, fun q hq => va_Nw.same rfl rfl (hN q hq), va_AO.moved (u := U) (U := U.calling g mk a) (Vm.Alike.refl U.vm) h1, va_AO.moved (u := U) (U := U.calling g mk a) (Vm.Alike.refl U.vm) h2, va_AO.moved (u := U) (U := U.calling g mk a) (Vm.Alike.refl U.vm) h3⟩
def QN (G : GT) (b n : Nat) (F : Nat → va_E) : Array Value → State → Outcome → State → Prop := fun _ st oc t => oc = .returned none ∧ CH G b n F t ∧ va_F (fun q => b ≤ q) st t
/-- a constructor's contract: from n cells F to n' cells F' -/
def CN (l : Launch) (G : GT) (y : MethodName) (bytes : ByteArray) (maxL fr lo mc ms : Nat) (avs : List Value) (b n : Nat) (F : Nat → va_E) (n' : Nat) (F' : Nat → va_E) : Prop :=
  Met l y (Cond.code y bytes maxL none :: UW) { frames := fr, cells := mc, slots := ms, locals := lo } (va_Pc avs (CH G b n F)) (QN G b n' F') mc ms (fun q => b ≤ q)
theorem CN.of {l : Launch} {G : GT} {y : MethodName} {bytes : ByteArray} {maxL fr lo mc ms : Nat} {avs : List Value} {b n n' : Nat} {F F' : Nat → va_E} (hy : plainName y.cls = true) (hlen : (lg_sl avs).length ≤ maxL)
    (body : ∀ (p : Program) (e : Env) (s : State) (m : MethodId) (below : List Frame) (meth : Method) (c : Code) (ls : Array Slot), CallFix p m c bytes maxL s avs.toArray UW y.cls → meth.sig.returnType = none → meth.locks = false → meth.name = y.name → CW G b s n F s.heap [] → lv_has ls maxL (lv_args 0 avs) →
      W p l e { frames := fr, cells := mc, slots := ms, locals := lo } s m avs.toArray below meth c s.heap [] 0 0 (MQ below (QN G b n' F') avs.toArray s mc ms (fun q => b ≤ q)) (F0 m 0 ls [])) : CN l G y bytes maxL fr lo mc ms avs b n F n' F' := by
  refine Met.ofW (cc := bytes) (maxL := maxL) (ret := none) hy rfl ?_
  intro p e s m args below meth c s₁ B hml hv
  obtain ⟨rfl, h0, hz, hP, hK, hB, hN⟩ := hv
  have hts := atoms_spec (ws := Cond.code y bytes maxL none :: UW) B.pre
  have hl := lv_entry avs (n := maxL) hlen
  rw [lg_entry_eq]
  exact body p e s m below meth c _ ⟨B.exec, B.bytes, hml, findClass_of_methodNamed B.named, fun w hw => hts w (List.mem_cons_of_mem _ hw)⟩ B.returns B.notSynchronized (name_of_methodNamed B.named B.method).1 ⟨h0, hz, hP, hK, hB, hN, va_S.rf⟩ hl
section CR
variable {p : Program} {l : Launch} {e : Env} {R : Room} {s : State} {m : MethodId} {args : Array Value} {below : List Frame} {meth : Method} {c : Code} {H : Heap} {locs : List Loc} {cells slots : Nat} {Q : State → Prop} {cc : ByteArray} {nL : Nat} {own : String} {pc : Nat} {ls : Array Slot} {rest st0 : List Value} {G : GT} {b n : Nat} {F : Nat → va_E}
theorem c_new (E : CallFix p m c cc nL s args UW own) (w : CW G b s n F H locs) {ci idx N : Nat} {C : String} {T : u_T} {ty : Nat → FieldType} (fs : List Value) (hn : n + 1 < NN) (hc : vwCl[ci]? = some (C, T, N)) (hin : ∀ w ∈ u_ws C T N, w ∈ UW) (hty : ∀ k, k < N → parseFieldDescriptor (T k).2.2.1 = some (ty k)) (hcl : Cond.classLink own idx C ∈ UW ∧ Cond.instantiable C N ∈ UW ∧ Cond.initialized C ∈ UW) (hfs : ∀ j, j < N → defaultValue (ty j) = vp_V fs j) (hcells : cells + 1 ≤ R.cells) (hslots : slots + N ≤ R.slots) (d : decode cc pc = .ok (.new idx, 3))
    (kk : ∀ H1 : Heap, CW G b s (n + 1) (va_up F (n + 1) (.inr (ci, fs))) H1 locs → W p l e R s m args below meth c H1 locs (cells + 1) (slots + N) Q (F0 m (pc + 3) ls (.ref (ad G (n + 1)) :: rest))) : W p l e R s m args below meth c H locs cells slots Q (F0 m pc ls rest) := by
  obtain ⟨hx, hb, hml, hown, hts⟩ := E
  obtain ⟨h0, hz, hP, hK, hB, hN, hS⟩ := w
  have hKn := hK.1 ci _ hc
  have ea : ad G (n + 1) = b + n := hB n hn
  refine W.newcK hx hb hown (hts _ hcl.1) (hts _ hcl.2.1) (hts _ hcl.2.2) rfl d hcells hslots hKn.2.1 hz fun H1 kC hkC e1 z1 o1 => ?_
  have hk : ∀ (k : Nat) (x : Nat × va_E), (wsP G n F)[k]? = some x → H1[x.1]? = H[x.1]? := fun k x hx => o1 x.1 (by rw [← hz]; exact (hP k x hx).lt)
  have hP1 : va_P G.1 vwCl (wsP G (n + 1) (va_up F (n + 1) (.inr (ci, fs)))) H1 := by
    rw [← wsP_push]
    refine (hP.kept hk).app (fun k x hx => ?_)
    have hz1 : k < 1 := (List.getElem?_eq_some_iff.mp hx).1
    rw [show k = 0 by omega] at hx
    cases hx
    rw [← ea] at e1
    exact ⟨_, hc, (u_born ty hts hin hKn hkC e1 hty).to hfs⟩
  have k1 := kk H1 ⟨hn, by rw [z1]; omega, hP1, hK, hB, hN, Nat.le_trans hS.1 (by omega), fun x h1 h2 => (o1 x (by rw [← hz]; exact Nat.lt_of_lt_of_le h1 hS.1)).trans (hS.2.1 x h1 h2), hS.2.2⟩
  rw [ea] at k1
  exact k1
theorem c_arr (E : CallFix p m c cc nL s args UW own) (w : CW G b s n F H locs) {atype : ArrayType} {ty : FieldType} {kd t0 : Nat} (hty : newarray.typeOf atype = ty) (ht : (tysO G)[t0]? = some (G.2.2.1 kd, ty)) (hra : va_RA s (G.2.2.1 kd) ty → s.vm.findClass ("[" ++ ty.toString) = some (G.2.2.1 kd)) (hdf : defaultValue ty = .int 0) (hn : n + 1 < NN) (harr : Cond.arrayClass ty ∈ UW) {x : Int32} {L : Nat} (hx0 : ¬ x < 0) (hL : x.toNatClampNeg = L) (hbytes : L * componentBytes ty ≤ 536870912) (hcells : cells + 1 ≤ R.cells) (hslots : slots + L ≤ R.slots) (d : decode cc pc = .ok (.newarray atype, 2))
    (kk : ∀ H1 : Heap, CW G b s (n + 1) (va_up F (n + 1) (.inl (G.2.2.1 kd, L, .inl (fun _ => 0)))) H1 locs → W p l e R s m args below meth c H1 locs (cells + 1) (slots + L) Q (F0 m (pc + 2) ls (.ref (ad G (n + 1)) :: rest))) : W p l e R s m args below meth c H locs cells slots Q (F0 m pc ls (.int x :: rest)) := by
  subst hty
  obtain ⟨hx, hb, hml, hown, hts⟩ := E
  obtain ⟨h0, hz, hP, hK, hB, hN, hS⟩ := w
  have ea : ad G (n + 1) = b + n := hB n hn
  refine va_newaK hx hb (hts _ harr) rfl d rfl hx0 hL hbytes hcells hslots hz fun H1 cA e1 z1 o1 hAr hNm => ?_
  have hcA : cA = G.2.2.1 kd := Option.some.inj (hNm.symm.trans (hra (hK.2 t0 _ ht).2))
  subst hcA
  have hk : ∀ (k : Nat) (x : Nat × va_E), (wsP G n F)[k]? = some x → H1[x.1]? = H[x.1]? := fun k x hx => o1 x.1 (by rw [← hz]; exact (hP k x hx).lt)
  have hP1 : va_P G.1 vwCl (wsP G (n + 1) (va_up F (n + 1) (.inl (G.2.2.1 kd, L, .inl (fun _ => 0))))) H1 := by
    rw [← wsP_push]
    refine (hP.kept hk).app (fun k x hx => ?_)
    have hz1 : k < 1 := (List.getElem?_eq_some_iff.mp hx).1
    rw [show k = 0 by omega] at hx
    cases hx
    show H1[ad G (n + 1)]? = some (vp_cell _ _)
    rw [ea, e1, hdf]
    rfl
  have k1 := kk H1 ⟨hn, by rw [z1]; omega, hP1, hK, hB, hN, Nat.le_trans hS.1 (by omega), fun x h1 h2 => (o1 x (by rw [← hz]; exact Nat.lt_of_lt_of_le h1 hS.1)).trans (hS.2.1 x h1 h2), hS.2.2⟩
  rw [ea] at k1
  exact k1
theorem c_anew (E : CallFix p m c cc nL s args UW own) (w : CW G b s n F H locs) {C : String} {kd t0 idx : Nat} (ht : (tysO G)[t0]? = some (G.2.2.1 kd, .object C)) (hover : va_AO C s) (hn : n + 1 < NN) (hcl : Cond.classLink own idx C ∈ UW) {x : Int32} {L : Nat} (hx0 : ¬ x < 0) (hL : x.toNatClampNeg = L) (hbytes : L * 4 ≤ 536870912) (hcells : cells + 1 ≤ R.cells) (hslots : slots + L ≤ R.slots) (d : decode cc pc = .ok (.anewarray idx, 3))
    (kk : ∀ H1 : Heap, CW G b s (n + 1) (va_up F (n + 1) (.inl (G.2.2.1 kd, L, .inr (.inr (.inr (.inr (fun _ => none))))))) H1 locs → W p l e R s m args below meth c H1 locs (cells + 1) (slots + L) Q (F0 m (pc + 3) ls (.ref (ad G (n + 1)) :: rest))) : W p l e R s m args below meth c H locs cells slots Q (F0 m pc ls (.int x :: rest)) := by
  subst hL
  obtain ⟨hx, hb, hml, hown, hts⟩ := E
  obtain ⟨h0, hz, hP, hK, hB, hN, hS⟩ := w
  have ea : ad G (n + 1) = b + n := hB n hn
  refine W.anew hx hb hown (hts _ hcl) (va_AO.use hover) rfl d rfl hx0 hbytes hcells hslots fun cA kA comp f1 f2 f3 f4 => ?_
  obtain ⟨kA2, comp2, g1, g2, g3, g4⟩ := (hK.2 t0 _ ht).2
  have hcA : cA = G.2.2.1 kd := Option.some.inj (f1.symm.trans g4)
  subst hcA
  generalize hH1 : H.push ({ cls := G.2.2.1 kd, slots := Array.replicate x.toNatClampNeg .null, vm := .none } : Cell) = H1
  have z1 : H1.size = H.size + 1 := by rw [← hH1, Array.size_push]
  have e1 : H1[H.size]? = some (arrV (G.2.2.1 kd) x.toNatClampNeg (fun _ => .null)) := by rw [← hH1, Array.getElem?_push_size, ← arrV_new]
  have o1 : ∀ q : Nat, q < H.size → H1[q]? = H[q]? := fun q hq => by rw [← hH1, Array.getElem?_push, if_neg (Nat.ne_of_lt hq)]
  have hk : ∀ (k : Nat) (x : Nat × va_E), (wsP G n F)[k]? = some x → H1[x.1]? = H[x.1]? := fun k x hx => o1 x.1 ((hP k x hx).lt)
  have hP1 : va_P G.1 vwCl (wsP G (n + 1) (va_up F (n + 1) (.inl (G.2.2.1 kd, x.toNatClampNeg, .inr (.inr (.inr (.inr (fun _ => none)))))))) H1 := by
    rw [← wsP_push]
    refine (hP.kept hk).app (fun k x hx => ?_)
    have hz1 : k < 1 := (List.getElem?_eq_some_iff.mp hx).1
    rw [show k = 0 by omega] at hx
    cases hx
    show H1[ad G (n + 1)]? = some (vp_cell _ _)
    rw [ea, ← hz, e1]
    rfl
  have k1 := kk H1 ⟨hn, by rw [z1]; omega, hP1, hK, hB, hN, Nat.le_trans hS.1 (by omega), fun x h1 h2 => (o1 x (Nat.lt_of_lt_of_le h1 hS.1)).trans (hS.2.1 x h1 h2), hS.2.2⟩
  rw [ea, ← hz] at k1
  exact k1
theorem c_aast (E : CallFix p m c cc nL s args UW own) (w : CW G b s n F H locs) {ka kv t0 ci kd : Nat} {r : vw_C} {L : Nat} {vs : List Value} {f : Nat → Option Nat} (h1 : 0 < ka ∧ ka ≤ n) (h2 : 0 < kv ∧ kv ≤ n) (ha : F ka = .inl (G.2.2.1 kd, L, .inr (.inr (.inr (.inr f))))) (ht : (tysO G)[t0]? = some (G.2.2.1 kd, .object r.1)) (hv : F kv = .inr (ci, vs)) (hc : vwCl[ci]? = some r) {i : Int32} (hi : ¬ (i < 0 ∨ L ≤ i.toNatClampNeg)) (d : decode cc pc = .ok (.aastore, 1))
    (kk : ∀ (H1 : Heap) (locs1 : List Loc), CW G b s n (va_up F ka (.inl (G.2.2.1 kd, L, .inr (.inr (.inr (.inr (va_up f i.toNatClampNeg (some (ad G kv))))))))) H1 locs1 → W p l e R s m args below meth c H1 locs1 cells slots Q (F0 m (pc + 1) ls rest)) : W p l e R s m args below meth c H locs cells slots Q (F0 m pc ls (.ref (ad G kv) :: .int i :: .ref (ad G ka) :: rest)) := by
  obtain ⟨h0, hz, hP, hK, hB, hN, hS⟩ := w
  have hD := wsP_D hB h0 F
  have ha' : (wsP G n F)[ka - 1]? = some (ad G ka, .inl (G.2.2.1 kd, L, .inr (.inr (.inr (.inr f))))) := by rw [wsP_at G F h1.1 h1.2, ha]
  have hv' : (wsP G n F)[kv - 1]? = some (ad G kv, .inr (ci, vs)) := by rw [wsP_at G F h2.1 h2.2, hv]
  have hlt : i.toNatClampNeg < L := Nat.not_le.mp fun q => hi (Or.inr q)
  have hi0 : ¬ i < 0 := fun q => hi (Or.inl q)
  obtain ⟨r', hr', cellV, g1, g2, g3, -⟩ := hP (kv - 1) _ hv'
  have hcls := (hK.1 ci r hc).2
  obtain ⟨kA, comp, k1, k2, k3, -⟩ := (hK.2 t0 _ ht).2
  have hcomp : comp = G.1.1 ci := Option.some.inj (k3.symm.trans hcls.1)
  subst hcomp
  obtain ⟨kC, hkC, -⟩ := hcls.2
  refine W.aast E.1 E.2.1 (hP (ka - 1) _ ha') (fun q h => by cases h) (fun h => by cases h) k1 k2 rfl hkC ⟨hi0, by show _ < (arrV _ _ _).slots.size; rw [arrV_size]; exact hlt⟩ g1 (fun q h => by rw [g3] at h; cases h) (by rw [g2]; exact hkC) (by rw [g2]; exact va_assign hcls) rfl rfl d fun H1 e1 z oq => ?_
  have q1 : va_P G.1 vwCl ((wsP G n F).set (ka - 1) (ad G ka, .inl (G.2.2.1 kd, L, .inr (.inr (.inr (.inr (va_up f i.toNatClampNeg (some (ad G kv))))))))) H1 := by
    refine hP.set hD ha' ?_ oq
    show H1[ad G ka]? = some (vp_cell _ _)
    rw [e1]
    rw [vp_cell_q, vp_cell_q, arrV_store]
    congr 2
    funext q
    by_cases hq : q = i.toNatClampNeg
    · subst hq
      simp [updV, va_up, va_rf]
    · simp [updV, va_up, hq]
  rw [wsP_set G F h1.1 h1.2] at q1
  exact kk H1 _ ⟨h0, by rw [z]; exact hz, q1, hK, hB, hN, hS.put z oq (hD.2 (ka - 1) _ ha')⟩
theorem c_iast (E : CallFix p m c cc nL s args UW own) (w : CW G b s n F H locs) {ka L : Nat} {f : Nat → Int32} (h1 : 0 < ka ∧ ka ≤ n) (ha : F ka = .inl (G.2.2.1 13, L, .inl f)) {i x : Int32} (hi : ¬ (i < 0 ∨ L ≤ i.toNatClampNeg)) (d : decode cc pc = .ok (.iastore, 1))
    (kk : ∀ (H1 : Heap) (locs1 : List Loc), CW G b s n (va_up F ka (.inl (G.2.2.1 13, L, .inl (upd f i.toNatClampNeg x)))) H1 locs1 → W p l e R s m args below meth c H1 locs1 cells slots Q (F0 m (pc + 1) ls rest)) : W p l e R s m args below meth c H locs cells slots Q (F0 m pc ls (.int x :: .int i :: .ref (ad G ka) :: rest)) := by
  obtain ⟨h0, hz, hP, hK, hB, hN, hS⟩ := w
  have hD := wsP_D hB h0 F
  have ha' : (wsP G n F)[ka - 1]? = some (ad G ka, .inl (G.2.2.1 13, L, .inl f)) := by rw [wsP_at G F h1.1 h1.2, ha]
  refine W.iast E.1 E.2.1 (hP (ka - 1) _ ha') ((hK.2 1 _ rfl).1 L (fun j => .int (f j))) (fun q => by cases q) (by show ¬ (i < 0 ∨ (arrV _ _ _).slots.size ≤ _); rw [arrV_size]; exact hi) rfl rfl d fun H1 e1 z oq => ?_
  have q1 : va_P G.1 vwCl ((wsP G n F).set (ka - 1) (ad G ka, .inl (G.2.2.1 13, L, .inl (upd f i.toNatClampNeg x)))) H1 := by
    refine hP.set hD ha' ?_ oq
    show H1[ad G ka]? = some (vp_cell _ _)
    rw [e1]
    rw [vp_cell_i, vp_cell_i, arrV_store]
    congr 2
    funext q
    by_cases hq : q = i.toNatClampNeg
    · subst hq
      simp [updV, upd]
    · simp [updV, upd, hq]
  rw [wsP_set G F h1.1 h1.2] at q1
  exact kk H1 _ ⟨h0, by rw [z]; exact hz, q1, hK, hB, hN, hS.put z oq (hD.2 (ka - 1) _ ha')⟩
theorem c_put (E : CallFix p m c cc nL s args UW own) (w : CW G b s n F H locs) {ci k idx kp N : Nat} {C : String} {T : u_T} {ty0 : Nat → FieldType} {fs : List Value} {v : Value} (h1 : 0 < kp ∧ kp ≤ n) (hF : F kp = .inr (ci, fs)) (hc : vwCl[ci]? = some (C, T, N)) (hin : ∀ w ∈ u_ws C T N, w ∈ UW) (hty : ∀ k, k < N → parseFieldDescriptor (T k).2.2.1 = some (ty0 k)) (hnm : ∀ a, a < N → ∀ b, b < N → a ≠ b → (T a).2.1 ≠ (T b).2.1) (hk : k < N) (hlink : Cond.fieldLink own idx (T k).1 (T k).2.1 (T k).2.2.1 ∈ UW) (hfin : (T k).2.2.2 = false ∨ (T k).2.2.2 = true ∧ meth.name = "<init>" ∧ (T k).1 = own) (hn : narrow (ty0 k) v = v) (hfit : fits (ty0 k) v = true) (hl : k < fs.length) (d : decode cc pc = .ok (.putfield idx, 3))
    (kk : ∀ (H1 : Heap) (locs1 : List Loc), CW G b s n (va_up F kp (.inr (ci, fs.set k v))) H1 locs1 → W p l e R s m args below meth c H1 locs1 cells slots Q (F0 m (pc + 3) ls rest)) : W p l e R s m args below meth c H locs cells slots Q (F0 m pc ls (v :: .ref (ad G kp) :: rest)) := by
  obtain ⟨hexec, hb, hml, hown, hts⟩ := E
  obtain ⟨h0, hz, hP, hK, hB, hN, hS0⟩ := w
  have hD := wsP_D hB h0 F
  have he : (wsP G n F)[kp - 1]? = some (ad G kp, .inr (ci, fs)) := by rw [wsP_at G F h1.1 h1.2, hF]
  have hap := va_apart (own := own) hts hin ty0 hty hnm hK hc
  obtain ⟨r, g1, cell, q1, q2, q3, q4⟩ := hP (kp - 1) _ he
  have hr : r = (C, T, N) := Option.some.inj (g1.symm.trans hc)
  subst hr
  obtain ⟨hS, hfc, kC, hkC, hkind⟩ := hK.1 ci _ hc
  obtain ⟨cf, kf, fi, f, hi, hsl⟩ := hS k hk
  have hlay := hts _ (hin _ (u_in_lay hk))
  have hst := (u_facts hfc hkC (u_lays hts hin hk) hi).1
  have hd := hty k hk
  have fin : ∀ H' : Heap, ∀ locs' : List Loc, H'[ad G kp]? = some (cell.setSlot f.slot v) → H'.size = H.size → (∀ q, q ≠ ad G kp → H'[q]? = H[q]?) → va_S (fun q => b ≤ q) s.heap H' locs' → CW G b s n (va_up F kp (.inr (ci, fs.set k v))) H' locs' := by
    intro H' locs' e1 e2 e3 e4
    rw [hsl] at e1
    have q9 : va_P G.1 vwCl ((wsP G n F).set (kp - 1) (ad G kp, .inr (ci, fs.set k v))) H' := hP.set hD he ⟨_, hc, t_OB.to (V := updV (vp_V fs) k v) ⟨_, e1, q2, q3, t_set q4 hap hk v⟩ (fun j _ => vp_updV_set hl v j)⟩ e3
    rw [wsP_set G F h1.1 h1.2] at q9
    exact ⟨h0, by rw [e2]; exact hz, q9, hK, hB, hN, e4⟩
  rcases hfin with hfin | ⟨hfin, hin2, hdecl⟩
  · unfold u_lay at hlay
    rw [if_neg (by rw [hfin]; decide)] at hlay
    have h6 := u_store hfc hkC hkind hlay hi hd hn hfit
    refine W.putK hexec hb (f := f) ⟨hown, hts _ hlink, ⟨_, _, _, hi⟩, hst⟩ (by rw [q2]; exact h6) q1 q3 (by rw [hsl]; exact k2_hasslot (q4 k hk)) rfl rfl d fun H' e1 e2 e3 => ?_
    exact kk H' _ (fin H' _ e1 e2 e3 (hS0.put e2 e3 (hD.2 (kp - 1) _ he)))
  · unfold u_lay at hlay
    rw [if_pos hfin] at hlay
    have hcf : m.cls = cf := by
      obtain ⟨_, _, c', _, _, _, -, -, hf', -, -, -, hown2, -⟩ := Cond.laysFinal_spec hlay
      have e1 : c' = cf := by have := hi.symm.trans hf'; simp at this; exact this.1.symm
      rw [hdecl] at hown2
      rw [← e1]; exact Option.some.inj (hown.symm.trans hown2)
    have h6 := u_fits hfc hkC hkind (Or.inr hlay) hi hd hn hfit
    refine W.putFinK hexec hb hown (hts _ hlink) hi hst hcf hin2 (by rw [q2]; exact h6) q1 q3 (by rw [hsl]; exact k2_hasslot (q4 k hk)) rfl rfl d fun H' e1 e2 e3 => ?_
    exact kk H' _ (fin H' _ e1 e2 e3 (hS0.put e2 e3 (hD.2 (kp - 1) _ he)))
theorem c_get (E : CallFix p m c cc nL s args UW own) (w : CW G b s n F H locs) {ci k idx kp N : Nat} {C : String} {T : u_T} {fs : List Value} {v : Value} (h1 : 0 < kp ∧ kp ≤ n) (hF : F kp = .inr (ci, fs)) (hc : vwCl[ci]? = some (C, T, N)) (hin : ∀ w ∈ u_ws C T N, w ∈ UW) (hk : k < N) (hlink : Cond.fieldLink own idx (T k).1 (T k).2.1 (T k).2.2.1 ∈ UW) (hv : fs[k]? = some v) (d : decode cc pc = .ok (.getfield idx, 3))
    (kk : W p l e R s m args below meth c H locs cells slots Q (F0 m (pc + 3) ls (v :: rest))) : W p l e R s m args below meth c H locs cells slots Q (F0 m pc ls (.ref (ad G kp) :: rest)) := by
  obtain ⟨hexec, hb, hml, hown, hts⟩ := E
  obtain ⟨h0, hz, hP, hK, hB, hN, hS0⟩ := w
  exact va_get hexec hb hts hin hown hK hP (kp - 1) (by rw [wsP_at G F h1.1 h1.2, hF]) hc k hk (hts _ hlink) (fun _ h9 => h9) hv d kk
theorem c_objInit (E : CallFix p m c cc nL s args UW own) {idx a : Nat} (hw : Cond.methodLink own idx Lib.objectInit ∈ UW ∧ Cond.instanceMethod Lib.objectInit ∈ UW ∧ Cond.code Lib.objectInit ⟨#[0xb1]⟩ 1 none ∈ UW) (hls : ls.size = nL) (hroom : 1 ≤ R.frames ∧ (rest.map fun v => v.category).sum + 12 ≤ R.locals) (d : decode cc pc = .ok (.invokespecial idx, 3))
    (kk : W p l e R s m args below meth c H locs cells slots Q (F0 m (pc + 3) ls rest)) : W p l e R s m args below meth c H locs cells slots Q (F0 m pc ls (.ref a :: rest)) :=
  W.objInit E.1 E.2.1 E.2.2.2.1 (E.2.2.2.2 _ hw.1) (E.2.2.2.2 _ hw.2.1) (E.2.2.2.2 _ hw.2.2) rfl (by rw [E.2.2.1]; exact hls) rfl d hroom.1 (by show 2 * 0 + _ + 12 ≤ _; have := hroom.2; omega) kk
theorem c_vret (E : CallFix p m c cc nL s args UW own) (w : CW G b s n F H locs) (hr : meth.sig.returnType = none) (hlk : meth.locks = false) (d : decode cc pc = .ok (.return_, 1)) : W p l e R s m args below meth c H locs cells slots (MQ below (QN G b n F) args s cells slots (fun q => b ≤ q)) (F0 m pc ls []) :=
  W.vret (hlocks := hlk) E.1 E.2.1 hr (fun t ht hW => ⟨rfl, CW_toH w ht hW, w.2.2.2.2.2.2.F ht⟩) w.2.2.2.2.2.2.2.2 d
/-- what F says may be said otherwise -/
theorem CW_congr {F' : Nat → va_E} (w : CW G b s n F H locs) (h : ∀ i, 0 < i → i ≤ n → F i = F' i) : CW G b s n F' H locs := by
  obtain ⟨h0, hz, hP, hr⟩ := w
  exact ⟨h0, hz, by rw [← wsP_congr G h]; exact hP, hr⟩
theorem c_run {st0 : List Value} {a : Array Value} {mc ms n' : Nat} {F' : Nat → va_E} (w : CW G b s n F H locs) (hr : va_Run p l e R s m args below meth c H locs cells slots mc ms (F0 m pc ls st0) rest (QN G b n' F' a) (fun q => b ≤ q))
    (kk : ∀ (H1 : Heap) (locs1 : List Loc), CW G b s n' F' H1 locs1 → W p l e R s m args below meth c H1 locs1 (cells + mc) (slots + ms) Q (F0 m (pc + 3) ls rest)) : W p l e R s m args below meth c H locs cells slots Q (F0 m pc ls st0) := by
  intro T hT X
  obtain ⟨v, st₀, t, T', L, h0, X', hL, e1, e2, ⟨hv, ⟨i0, iz, hP, hK, hB, hN⟩, hz, hk⟩, st⟩ := hr T hT X
  cases hv
  obtain ⟨-, -, -, hK0, hB0, hN0, hS⟩ := w
  rw [h0] at hz hk
  obtain ⟨t2, a1, b1⟩ := kk T'.heap (locs ++ L) ⟨i0, by rw [e1]; exact iz, by rw [e1]; exact hP, hK0, hB0, hN0, Nat.le_trans hS.1 (by rw [e1]; exact hz), fun q h1 h2 => by rw [e1, hk q (Nat.lt_of_lt_of_le h1 hS.1) h2]; exact hS.2.1 q h1 h2, fun q hq => by
      rcases List.mem_append.mp hq with h | h
      · exact hS.2.2 q h
      · exact hL q h⟩ T' rfl X'
  exact ⟨t2, st t2 a1, b1⟩
/-- a constructor's call: by a plain link, by a nest mate's -/
def MI (own : String) (idx : Nat) (y : MethodName) (bytes : ByteArray) (maxL n : Nat) : Prop := (((own, idx, y, "LullabyHouse") ∈ NLq ∨ Cond.methodLink own idx y ∈ UW) ∧ Cond.instanceMethod y ∈ UW ∧ Cond.initialized y.cls ∈ UW ∧ Cond.code y bytes maxL none ∈ UW) ∧ y.name = "<init>" ∧ y.cls ≠ "java/lang/invoke/MethodHandle" ∧ y.cls ≠ "java/lang/invoke/VarHandle" ∧ (parseMethodDescriptor y.desc).map (fun d => d.parameters.length) = some n
theorem c_call {y : MethodName} {bytes : ByteArray} {maxL fr lo mc ms idx na n' k : Nat} {As : List Value} {F' : Nat → va_E} (E : CallFix p m c cc nL s args UW own) (w : CW G b s n F H locs) (hM : CN l G y bytes maxL fr lo mc ms (.ref (ad G k) :: As) b n F n' F') (hw : MI own idx y bytes maxL na) (hn : As.length = na) (hst : st0 = As.reverse ++ .ref (ad G k) :: rest) (hls : ls.size = nL) (hroom : fr + 1 ≤ R.frames ∧ 8 + (maxL + 11) + lo ≤ R.locals) (hrest : (rest.map fun v => v.category).sum ≤ 8) (hcs : cells + mc ≤ R.cells ∧ slots + ms ≤ R.slots) (d : decode cc pc = .ok (.invokespecial idx, 3))
    (kk : ∀ (H1 : Heap) (locs1 : List Loc), CW G b s n' F' H1 locs1 → W p l e R s m args below meth c H1 locs1 (cells + mc) (slots + ms) Q (F0 m (pc + 3) ls rest)) : W p l e R s m args below meth c H locs cells slots Q (F0 m pc ls st0) := by
  subst hst
  obtain ⟨⟨w1, w2, w3, w4⟩, w5, w6⟩ := hw
  have hts := E.2.2.2.2
  rcases w1 with w1 | w1
  · exact c_run w (va_runIN (rest := rest) E hM ⟨va_cnB na hts (uw_cons w4) rfl rfl rfl (w.2.2.2.2.2.1.1 _ w1) (hts _ w3) w6 hroom, w5, hts _ w2⟩ ⟨CH_blind, fun U hU hW => ⟨rfl, CW_toH w hU hW⟩⟩ rfl hn hls rfl (lv_room hrest) d hcs) kk
  · exact c_run w (va_runI (rest := rest) E hM ⟨callB_of na hts (uw_cons w4) rfl rfl rfl (hts _ w3) (hts _ w1) w6 hroom, w5, hts _ w2⟩ ⟨CH_blind, fun U hU hW => ⟨rfl, CW_toH w hU hW⟩⟩ rfl hn hls rfl (lv_room hrest) d hcs) kk
end CR
/-! ===== the first data, and objects in the making ===== -/
/-- the ints of a new object, by its class -/
def iniL : List (List (Nat × Int32)) := [[], [(3, 9)], [], [(2, -1), (9, -1), (10, -1), (16, -1), (17, -1)], [(3, -1)], [], [], [(3, -1)], [], [(5, -1)], [], []]
def hI : HS := (fun p j => if sh p = 6 ∧ j = 0 then nI (ln (p + 1)) else if p = 238 ∧ j = 6 then -1 else match (iniL.getD (sh p) []).find? (fun q => q.1 == j) with | some q => q.2 | none => 0, fun p => if sh p = 0 ∨ sh p = 3 ∨ sh p = 5 ∨ sh p = 8 ∨ sh p = 9 then p + 1 else 0)
def RT (G : GT) (k ci : Nat) (F0 : Nat → va_E) (fs : List Value) : Nat → va_E := fun i => if i = k then .inr (ci, fs) else if i < k then F0 i else cellO G hI i
def FN (G : GT) (k : Nat) (F0 : Nat → va_E) : Nat → va_E := fun i => if i < k then F0 i else cellO G hI i
theorem hI_arr {k : Nat} (hs : sh k = 12 ∨ sh k = 13 ∨ sh k = 14) (hk : k ≠ 238) : hI.1 k = fun _ => 0 := by
  funext j
  have e : iniL.getD (sh k) [] = [] := by rcases hs with h | h | h <;> rw [h] <;> rfl
  show (if sh k = 6 ∧ j = 0 then nI (ln (k + 1)) else if k = 238 ∧ j = 6 then -1 else match (iniL.getD (sh k) []).find? (fun q => q.1 == j) with | some q => q.2 | none => 0) = 0
  rw [if_neg (by omega), if_neg (fun z => hk z.1), e]
  rfl
theorem cell_arr (G : GT) {k kd L : Nat} (hs : sh k = kd) (hk : kd = 12 ∨ kd = 13 ∨ kd = 14) (hn : k ≠ 238) (hL : ln k = L) : cellO G hI k = .inl (G.2.2.1 kd, L, .inl (fun _ => 0)) := by
  rw [cell_i G hI hs (by omega) (by omega), hI_arr (by omega) hn, hL]
theorem RT_k (G : GT) (k ci : Nat) (F0 : Nat → va_E) (fs : List Value) : RT G k ci F0 fs k = .inr (ci, fs) := if_pos rfl
theorem RT_gt (G : GT) {k ci : Nat} (F0 : Nat → va_E) (fs : List Value) {i : Nat} (h : k < i) : RT G k ci F0 fs i = cellO G hI i := by
  unfold RT
  rw [if_neg (by omega), if_neg (by omega)]
section CS
variable {s : State} {H : Heap} {locs : List Loc} {G : GT} {b n k ci : Nat} {F0 F : Nat → va_E} {fs fs' : List Value}
theorem r_start (w : CW G b s k F H locs) (hF : F k = .inr (ci, fs)) : CW G b s k (RT G k ci F fs) H locs := CW_congr w (fun i h1 h2 => by
  unfold RT
  by_cases hi : i = k
  · rw [if_pos hi, hi, hF]
  · rw [if_neg hi, if_pos (by omega)])
theorem r_put (w : CW G b s n (va_up (RT G k ci F0 fs) k (.inr (ci, fs'))) H locs) : CW G b s n (RT G k ci F0 fs') H locs := CW_congr w (fun i h1 h2 => by
  unfold RT va_up
  by_cases hi : i = k
  · rw [if_pos hi, if_pos hi]
  · rw [if_neg hi, if_neg hi]
    show (if i = k then _ else _) = _
    rw [if_neg hi])
theorem r_cell {x : va_E} (hk : k < n + 1) (w : CW G b s (n + 1) (va_up (RT G k ci F0 fs) (n + 1) x) H locs) (hx : cellO G hI (n + 1) = x) : CW G b s (n + 1) (RT G k ci F0 fs) H locs := CW_congr w (fun i h1 h2 => by
  by_cases hi : i = n + 1
  · subst hi
    rw [RT_gt G F0 fs hk, hx]
    simp [va_up]
  · unfold va_up
    rw [if_neg hi])
/-- the same beside an array that is still to be written -/
theorem r_putO {a : Nat} {X : va_E} (ha : a ≠ k) (w : CW G b s n (va_up (va_up (RT G k ci F0 fs) a X) k (.inr (ci, fs'))) H locs) : CW G b s n (va_up (RT G k ci F0 fs') a X) H locs := CW_congr w (fun i h1 h2 => by
  unfold va_up
  by_cases hi : i = k
  · subst hi
    rw [if_pos rfl, if_neg (Ne.symm ha), RT_k]
  · rw [if_neg hi]
    by_cases hj : i = a
    · rw [if_pos hj, if_pos hj]
    · rw [if_neg hj, if_neg hj]
      unfold RT
      rw [if_neg hi, if_neg hi])
theorem r_cellO {a : Nat} {X x : va_E} (ha : a ≠ n + 1) (hk : k < n + 1) (w : CW G b s (n + 1) (va_up (va_up (RT G k ci F0 fs) a X) (n + 1) x) H locs) (hx : cellO G hI (n + 1) = x) : CW G b s (n + 1) (va_up (RT G k ci F0 fs) a X) H locs := CW_congr w (fun i h1 h2 => by
  by_cases hi : i = n + 1
  · subst hi
    unfold va_up
    rw [if_pos rfl, if_neg (Ne.symm ha), RT_gt G F0 fs hk, hx]
  · show va_up _ _ _ i = _
    unfold va_up
    rw [if_neg hi])
theorem r_uu {a : Nat} {X X' : va_E} (hk : k < a) (w : CW G b s n (va_up (va_up (RT G k ci F0 fs) a X) a X') H locs) (hx : cellO G hI a = X') : CW G b s n (RT G k ci F0 fs) H locs := CW_congr w (fun i h1 h2 => by
  unfold va_up
  by_cases hi : i = a
  · subst hi
    rw [if_pos rfl, RT_gt G F0 fs hk, hx]
  · rw [if_neg hi, if_neg hi])
theorem cell_238 (G : GT) : cellO G hI 238 = .inl (G.2.2.1 13, 3736, .inl (upd (fun _ => 0) (6 : Int32).toNatClampNeg (-1))) := by
  rw [cell_i G hI (k := 238) (c := 13) (by decide) (by decide) (by decide)]
  have e : hI.1 238 = upd (fun _ => 0) (6 : Int32).toNatClampNeg (-1) := by
    funext j
    show (if sh 238 = 6 ∧ j = 0 then nI (ln (238 + 1)) else if 238 = 238 ∧ j = 6 then -1 else match (iniL.getD (sh 238) []).find? (fun q => q.1 == j) with | some q => q.2 | none => 0) = _
    rw [if_neg (fun z => absurd z.1 (by decide))]
    show _ = (if j = 6 then (-1 : Int32) else 0)
    by_cases hj : j = 6
    · rw [if_pos ⟨rfl, hj⟩, if_pos hj]
    · rw [if_neg (fun z => hj z.2), if_neg hj]
      rfl
  rw [e]
  rfl
/-- behind a constructor's call: the object is as the first data say -/
theorem r_sub {k' n' : Nat} {x : va_E} {E : Nat → va_E} (hk : ∀ i, k' ≤ i → E i = cellO G hI i) (w : CW G b s n' (FN G k' (va_up E k' x)) H locs) : CW G b s n' E H locs := CW_congr w (fun i h1 h2 => by
  unfold FN va_up
  by_cases hi : i < k'
  · rw [if_pos hi, if_neg (by omega)]
  · rw [if_neg hi, hk i (by omega)])
theorem r_end (w : CW G b s n (RT G k ci F0 fs) H locs) (hs : sh k = ci) (hc : ci < 12) (hf : fsO G hI k ci = fs) : CW G b s n (FN G k F0) H locs := CW_congr w (fun i h1 h2 => by
  unfold RT FN
  by_cases hi : i = k
  · subst hi
    rw [if_pos rfl, if_neg (by omega), cell_o G hI hs hc, hf]
  · rw [if_neg hi])
/-- an array of references, all of whose places are laid -/
theorem r_refs {a kd L : Nat} {f : Nat → Option Nat} {E : Nat → va_E} (ha : 0 < a ∧ a ≤ n) (w : CW G b s n (va_up E a (.inl (G.2.2.1 kd, L, .inr (.inr (.inr (.inr f)))))) H locs) (hs : sh a = kd) (hk : 15 ≤ kd) (hL : ln a = L) (hE : E a = cellO G hI a) (hf : ∀ j, j < L → f j = some (ad G (ra a j))) : CW G b s n E H locs := by
  obtain ⟨h0, hz, hP, hr⟩ := w
  refine ⟨h0, hz, fun q x hx => ?_, hr⟩
  by_cases hq : q = a - 1
  · subst hq
    rw [wsP_at G E ha.1 ha.2] at hx
    cases hx
    have h1 := hP (a - 1) (ad G a, .inl (G.2.2.1 kd, L, .inr (.inr (.inr (.inr f))))) (by rw [wsP_at G _ ha.1 ha.2]; simp [va_up])
    show va_at G.1 vwCl (ad G a, E a) H
    rw [hE, cell_r G hI hs hk, hL]
    show H[ad G a]? = some (vp_cell _ _)
    have h2 : H[ad G a]? = some (vp_cell (G.2.2.1 kd) (L, .inr (.inr (.inr (.inr f))))) := h1
    rw [h2, vp_cell_q, vp_cell_q]
    congr 1
    unfold arrV
    congr 1
    apply Array.ext
    · simp
    · intro i h3 h4
      simp at h3
      simp [hf i h3]
  · refine hP q x ?_
    rw [← hx]
    unfold wsP
    rw [List.getElem?_map, List.getElem?_map]
    cases hr2 : (List.range n)[q]? with
    | none => rfl
    | some y =>
      have hy : y = q := by
        obtain ⟨z1, z2⟩ := List.getElem?_eq_some_iff.mp hr2
        rw [List.getElem_range] at z2
        exact z2.symm
      subst hy
      show some (ad G (y + 1), va_up E a _ (y + 1)) = some (ad G (y + 1), E (y + 1))
      unfold va_up
      rw [if_neg (by omega)]
end CS
