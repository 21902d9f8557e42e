/-! rows of rows of ints are made -/
/-- the row of rows behind i of its rows -/
def muF (h i : Nat) : Nat → Value := fun j => va_rf (if j < i then some (h + 1 + j) else none)
theorem muF_0 (h : Nat) : muF h 0 = fun _ => .null := rfl
theorem muF_up (h i : Nat) : updV (muF h i) i (.ref (h + 1 + i)) = muF h (i + 1) := by
  funext j
  unfold updV muF
  by_cases e : j = i
  · subst e
    rw [if_pos rfl, if_pos (by omega)]
    rfl
  · rw [if_neg e]
    by_cases h2 : j < i
    · rw [if_pos h2, if_pos (by omega)]
    · rw [if_neg h2, if_neg (by omega)]
def muS (U : State) (cA cI : ClassId) (N M : Nat) : Nat → State
  | 0 => U.pushCell (arrV cA N (muF U.heap.size 0))
  | i + 1 => ((muS U cA cI N M i).pushCell (arrV cI M (fun _ => .int 0))).setCell U.heap.size (arrV cA N (muF U.heap.size (i + 1)))
def muL (locs : List Loc) (h : Nat) : Nat → List Loc
  | 0 => locs
  | i + 1 => muL locs h i ++ [⟨h, i⟩]
theorem muL_base {locs : List Loc} {h : Nat} : ∀ (i : Nat) (q : Loc), q ∈ muL locs h i → q ∈ locs ∨ q.base = h
  | 0, q, hq => Or.inl hq
  | i + 1, q, hq => by
    rcases List.mem_append.mp hq with h1 | h1
    · exact muL_base i q h1
    · rw [List.mem_singleton.mp h1]
      exact Or.inr rfl
theorem muS_size (U : State) (cA cI : ClassId) (N M : Nat) : ∀ i, (muS U cA cI N M i).heap.size = U.heap.size + 1 + i
  | 0 => by simp [muS]
  | i + 1 => by
    have ih := muS_size U cA cI N M i
    simp [muS, State.setCell, ih]
    omega
theorem muS_top (U : State) (cA cI : ClassId) (N M : Nat) : ∀ i, (muS U cA cI N M i).heap[U.heap.size]? = some (arrV cA N (muF U.heap.size i))
  | 0 => State.heap_pushCell_size _ _
  | i + 1 => by
    have hz := muS_size U cA cI N M i
    have ih := muS_top U cA cI N M i
    have hlt : U.heap.size < (muS U cA cI N M i).heap.size := by omega
    exact State.heap_setCell_self (c := arrV cA N (muF U.heap.size i)) (by rw [State.heap_pushCell_of_lt _ _ hlt]; exact ih)
theorem muS_old (U : State) (cA cI : ClassId) (N M : Nat) {q : Nat} (hq : q < U.heap.size) : ∀ i, (muS U cA cI N M i).heap[q]? = U.heap[q]?
  | 0 => State.heap_pushCell_of_lt _ _ hq
  | i + 1 => by
    have hz := muS_size U cA cI N M i
    show (((muS U cA cI N M i).pushCell _).setCell U.heap.size _).heap[q]? = _
    have hlt : q < (muS U cA cI N M i).heap.size := by omega
    rw [State.heap_setCell_other (Nat.ne_of_gt hq), State.heap_pushCell_of_lt _ _ hlt]
    exact muS_old U cA cI N M hq i
theorem muS_row (U : State) (cA cI : ClassId) (N M : Nat) : ∀ i j, j < i → (muS U cA cI N M i).heap[U.heap.size + 1 + j]? = some (arrV cI M (fun _ => .int 0))
  | 0, j, h => by omega
  | i + 1, j, h => by
    have hz := muS_size U cA cI N M i
    show (((muS U cA cI N M i).pushCell _).setCell U.heap.size _).heap[U.heap.size + 1 + j]? = _
    rw [State.heap_setCell_other (show U.heap.size ≠ U.heap.size + 1 + j by omega)]
    by_cases e : j = i
    · subst e
      rw [← hz]
      exact State.heap_pushCell_size _ _
    · have hlt : U.heap.size + 1 + j < (muS U cA cI N M i).heap.size := by omega
      rw [State.heap_pushCell_of_lt _ _ hlt]
      exact muS_row U cA cI N M i j (by omega)
theorem muS_vm (U : State) (cA cI : ClassId) (N M : Nat) : ∀ i, (muS U cA cI N M i).vm = U.vm
  | 0 => rfl
  | i + 1 => muS_vm U cA cI N M i
theorem muS_setTop (U : State) (f : JFrame) (cA cI : ClassId) (N M : Nat) : ∀ i, muS (U.setTop f) cA cI N M i = (muS U cA cI N M i).setTop f
  | 0 => rfl
  | i + 1 => by
    show ((muS (U.setTop f) cA cI N M i).pushCell _).setCell _ _ = _
    rw [muS_setTop U f cA cI N M i]
    rfl
section MU
variable {p : Program} {l : Launch} {e : Env} {R : Room} {s : State} {m : MethodId} {args : Array Value} {below : List Frame} {meth : Method} {c : Code} {H : Heap} {locs : List Loc} {cells slots : Nat} {Q : State → Prop}
theorem muS_stand {T : State} (X : Stand p l e R s m args below meth c T locs cells slots) (cA cI : ClassId) (N M : Nat) : ∀ i, Stand p l e R s m args below meth c (muS T cA cI N M i) (muL locs T.heap.size i) (cells + 1 + i) (slots + N + i * M)
  | 0 => by
    have h := X.pushed (arrV cA N (muF T.heap.size 0))
    rw [arrV_size] at h
    simpa [muS, muL] using h
  | i + 1 => by
    have Xi := muS_stand X cA cI N M i
    have hz := muS_size T cA cI N M i
    have hlt : T.heap.size < (muS T cA cI N M i).heap.size := by omega
    have h := (Xi.pushed (arrV cI M (fun _ => .int 0))).stored (a := T.heap.size) (cell := arrV cA N (muF T.heap.size i)) (by rw [State.heap_pushCell_of_lt _ _ hlt]; exact muS_top T cA cI N M i) i (.ref (T.heap.size + 1 + i))
    rw [arrV_size, arrV_store, muF_up] at h
    rw [show slots + N + (i + 1) * M = slots + N + i * M + M by rw [Nat.succ_mul]; omega]
    exact h
/-- what the tables say of rows of rows of ints -/
def AAI (U : State) : Prop := ∃ (cA cI : ClassId) (kA kI : Class) (c0 : ClassId), U.vm.findClass "[[I" = some cA ∧ U.vm.classes[cA]? = some kA ∧ kA.kind = .array cI (.array .int) ∧ U.vm.findClass "[I" = some cI ∧ U.vm.classes[cI]? = some kI ∧ kI.kind = .array c0 .int
theorem AAI.moved {u U : State} (hvm : u.vm.Alike U.vm) (h : AAI u) : AAI U := by
  obtain ⟨cA, cI, kA, kI, c0, h1, h2, h3, h4, h5, h6⟩ := h
  obtain ⟨kA', a1, a2⟩ := hvm.2.2 _ _ h2
  obtain ⟨kI', b1, b2⟩ := hvm.2.2 _ _ h5
  exact ⟨cA, cI, kA', kI', c0, by rw [hvm.findClass]; exact h1, a1, by rw [a2]; exact h3, by rw [hvm.findClass]; exact h4, b1, by rw [b2]; exact h6⟩
theorem AAI.of {U : State} (h1 : (Cond.arrayOver (.array .int)).before #[] U = true) (h2 : (Cond.arrayClass .int).before #[] U = true) : AAI U := by
  obtain ⟨cI, cA, kA, f1, -, f3, f4, f5⟩ := arrayOverA_spec h1
  obtain ⟨cI', kI, c0, g1, g2, g3⟩ := Cond.arrayClass_spec h2
  have e : cI' = cI := Option.some.inj (g1.symm.trans f1)
  subst e
  exact ⟨cA, cI', kA, kI, c0, f5, f3, f4, f1, g2, g3⟩
theorem muMake {Ep : CtlPost} {d : Bool} {acts : List Action} {u : State} {cA cI c0 : ClassId} {kA kI : Class} {n k : Int32} (hA : u.vm.classes[cA]? = some kA) (hkA : kA.kind = .array cI (.array .int)) (hI : u.vm.classes[cI]? = some kI) (hkI : kI.kind = .array c0 .int) (hn : ¬ n < 0) (hk : ¬ k < 0)
    (hl1 : ¬ n.toNatClampNeg > e.platform.arrayLengthLimit) (hh1 : ¬ n.toNatClampNeg * 4 > e.platform.maxHeapBytes) (hl2 : ¬ k.toNatClampNeg > e.platform.arrayLengthLimit) (hh2 : ¬ k.toNatClampNeg * 4 > e.platform.maxHeapBytes)
    (hc : ∀ i, i ≤ n.toNatClampNeg → (muS u cA cI n.toNatClampNeg k.toNatClampNeg i).heap.size < e.platform.maxCells ∨ i = n.toNatClampNeg) (hs : ∀ i, i < n.toNatClampNeg → (muS u cA cI n.toNatClampNeg k.toNatClampNeg i).slotsUsed + k.toNatClampNeg ≤ e.platform.maxSlots)
    (h0 : u.heap.size < e.platform.maxCells ∧ u.slotsUsed + n.toNatClampNeg ≤ e.platform.maxSlots)
    {Q : Addr → Pre} (hq : ∀ d' acts', Q u.heap.size d' acts' (muS u cA cI n.toNatClampNeg k.toNatClampNeg n.toNatClampNeg)) : wp (Op.multianewarray.make cA [n, k]) Q Ep e d acts u := by
  rw [Op.multianewarray.make]
  simp only [wp_bind', W.ite, hn, if_false, wp_pure', W.theClass, hA, hkA, Option.some.injEq, exists_eq_left']
  refine W.newArray_of hA hkA hl1 hh1 h0.1 h0.2 rfl (fun acts1 => ?_)
  have hfind : ([k].find? (· < 0)) = none := by simp [hk]
  simp only [hfind]
  rw [ite_self, wp_bind', Std.Legacy.Range.forIn_eq_forIn_range']
  rw [show ([:n.toNatClampNeg] : Std.Legacy.Range).size = n.toNatClampNeg by simp [Std.Legacy.Range.size]]
  generalize hN : n.toNatClampNeg = N at *
  generalize hM : k.toNatClampNeg = M at *
  refine wp_forIn_inv (fun rest u1 => ∃ i, i ≤ N ∧ rest = List.range' i (N - i) ∧ u1 = muS u cA cI N M i) _ _ ⟨0, Nat.zero_le _, rfl, ?_⟩ ?_ ?_
  · rw [arrV_new]
    rfl
  · rintro x rest u1 d1 acts2 Q1 ⟨i, hi, hl, rfl⟩ hnext
    have hlt : i < N := by
      rcases Nat.lt_or_ge i N with h | h
      · exact h
      · rw [show N - i = 0 by omega] at hl
        cases hl
    rw [show N - i = (N - (i + 1)) + 1 by omega, List.range'_succ] at hl
    obtain ⟨rfl, hrest⟩ := List.cons.inj hl
    have hz := muS_size u cA cI N M x
    have hv := muS_vm u cA cI N M x
    simp only [wp_bind']
    rw [Op.multianewarray.make]
    simp only [wp_bind', W.ite, hk, if_false, wp_pure', W.theClass, hv, hI, hkI, Option.some.injEq, exists_eq_left', hM]
    refine W.newArray_of (by rw [hv]; exact hI) hkI hl2 hh2 ((hc x hi).resolve_right (by omega)) (hs x hlt) rfl (fun acts3 => ?_)
    have hcell : ((muS u cA cI N M x).pushCell { cls := cI, slots := Array.replicate M (defaultValue .int) }).heap[u.heap.size]? = some (arrV cA N (muF u.heap.size x)) := by
      have hlt2 : u.heap.size < (muS u cA cI N M x).heap.size := by omega
      rw [State.heap_pushCell_of_lt _ _ hlt2]
      exact muS_top u cA cI N M x
    simp only [wp_bind', W.writeLoc, wp_pure']
    refine ⟨_, hcell, (fun h => by cases h), by rw [arrV_size]; exact hlt, ?_, hnext _ _ _ ⟨x + 1, hlt, hrest, ?_⟩⟩
    · show State.fitsSlot _ cA .none x _ = true
      simp [State.fitsSlot, State.slotType?, hv, hA, hkA, fits]
    · rw [hz, arrV_store, muF_up, arrV_new]
      rfl
  · rintro u1 d1 acts2 ⟨i, hi, hl, rfl⟩
    have e1 : i = N := by
      rcases Nat.lt_or_ge i N with h | h
      · rw [show N - i = (N - (i + 1)) + 1 by omega, List.range'_succ] at hl
        cases hl
      · omega
    subst e1
    simp only [wp_pure']
    exact hq _ _
/-- MULTIANEWARRAY of ints, two lengths -/
theorem W.multi {cc : ByteArray} (hexec : p.tables.exec = Jvm.exec) (hb : c.code = cc) {own : String} {index : Nat} (hown : s.vm.findClass own = some m.cls) (hlink : (Cond.classLink own index "[[I").before args s = true) (haa : AAI s)
    {pc : Nat} {ls : Array Slot} {rest : List Value} {n k : Int32} {N M : Nat} (hn : ¬ n < 0) (hk : ¬ k < 0) (hN : n.toNatClampNeg = N) (hM : k.toNatClampNeg = M) (hbN : N ≤ 100000) (hbM : M ≤ 100000) (hcells : cells + (1 + N) ≤ R.cells) (hslots : slots + (N + N * M) ≤ R.slots) (hdg : decode cc pc = .ok (.multianewarray index 2, 4))
    (kk : ∀ (H1 : Heap) (locs1 : List Loc) (cA cI : ClassId), s.vm.findClass "[[I" = some cA → s.vm.findClass "[I" = some cI → (∀ q ∈ locs1, q ∈ locs ∨ q.base = H.size) → H1.size = H.size + 1 + N → (∀ q, q < H.size → H1[q]? = H[q]?) → H1[H.size]? = some (arrV cA N (fun j => va_rf (if j < N then some (H.size + 1 + j) else none))) → (∀ j, j < N → H1[H.size + 1 + j]? = some (arrV cI M (fun _ => .int 0))) →
      W p l e R s m args below meth c H1 locs1 (cells + 1 + N) (slots + N + N * M) Q (F0 m (pc + 4) ls (.ref H.size :: rest))) : W p l e R s m args below meth c H locs cells slots Q (F0 m pc ls (.int k :: .int n :: rest)) := by
  intro T hT X
  subst hT; subst hb
  have hpl : e.platform.magicAccessors = ({} : Platform).magicAccessors := by rw [X.admits.platform]
  obtain ⟨cA, cI, kA, kI, c0, f1, f2, f3, f4, f5, f6⟩ := haa
  obtain ⟨cA', g1, hcl⟩ := Cond.classLink_spec hown hlink e.platform hpl
  cases f1.symm.trans g1
  obtain ⟨hg1, hwarm, hready⟩ := State.classEntry (e := e) X.warmed hcl
  generalize T.vm.noted m.cls index (.cls cA) = vm1 at hg1 hwarm hready
  obtain ⟨kA1, a1, a2⟩ := hwarm.alike.2.2 _ _ f2
  obtain ⟨kI1, b1, b2⟩ := hwarm.alike.2.2 _ _ f5
  have X1 := X.noted hwarm
  have XF := muS_stand X1 cA cI N M N
  obtain ⟨t, s1, s2⟩ := kk (muS (T.setVm vm1) cA cI N M N).heap (muL locs T.heap.size N) cA cI f1 f4 (muL_base N) (muS_size _ _ _ _ _ _) (fun q hq => muS_old (T.setVm vm1) cA cI N M hq N) (muS_top (T.setVm vm1) cA cI N M N) (fun j hj => muS_row (T.setVm vm1) cA cI N M N j hj) _ rfl XF
  refine ⟨t, ?_, s2⟩
  jvm_step X.here [hexec, hdg]
  simp only [Op.multianewarray.sem, wp_bind', W.resolveClassAt_links (State.method?_setTop (F0 m pc ls (.int k :: .int n :: rest)) X.here.top) hg1]
  rw [W.popN, if_neg (by decide)]
  refine ⟨F0 m pc ls (.int k :: .int n :: rest), State.topJava?_setTop' (s := T.setVm vm1) _ X.here.top, [.int n, .int k], rest, rfl, rfl, ?_⟩
  simp only [List.mapM_cons, List.mapM_nil, wp_bind', wp_pure']
  have eS : ∀ f : JFrame, ((T.setTop (F0 m pc ls (.int k :: .int n :: rest))).setVm vm1).setTop f = (T.setVm vm1).setTop f := fun f => by
    show ((T.setVm vm1).setTop _).setTop _ = _
    rw [State.setTop_setTop]
  rw [eS]
  obtain ⟨r1, r2⟩ := X.roomAbove hcells hslots
  subst hN; subst hM
  have hl : ∀ x : Nat, x ≤ 100000 → ¬ x > e.platform.arrayLengthLimit ∧ ¬ x * 4 > e.platform.maxHeapBytes := fun x hx => ⟨by rw [Launch.admits_arrayLengthLimit X.admits]; omega, by rw [Launch.admits_maxHeapBytes X.admits]; omega⟩
  have hcm : cells + 1 + n.toNatClampNeg ≤ R.cells := by omega
  refine muMake (kA := kA1) (kI := kI1) (c0 := c0) a1 (by rw [a2]; exact f3) b1 (by rw [b2]; exact f6) hn hk (hl _ hbN).1 (hl _ hbN).2 (hl _ hbM).1 (hl _ hbM).2 (fun i hi => ?_) (fun i hi => ?_) ?_ (fun d1 acts1 => ?_)
  · rw [muS_setTop, State.heap_setTop]
    by_cases e1 : i = n.toNatClampNeg
    · exact Or.inr e1
    · left
      have Xi := muS_stand X1 cA cI n.toNatClampNeg k.toNatClampNeg i
      have h := (Xi.roomAbove (a := 1) (b := 0) (by omega) (by have := Nat.mul_le_mul_right k.toNatClampNeg hi; omega)).1
      omega
  · rw [muS_setTop]
    have Xi := muS_stand X1 cA cI n.toNatClampNeg k.toNatClampNeg i
    have hmul : i * k.toNatClampNeg + k.toNatClampNeg ≤ n.toNatClampNeg * k.toNatClampNeg := by
      have h := Nat.mul_le_mul_right k.toNatClampNeg (show i + 1 ≤ n.toNatClampNeg from hi)
      rw [Nat.succ_mul] at h
      exact h
    exact (Xi.roomAbove (a := 0) (b := k.toNatClampNeg) (by omega) (by omega)).2
  · refine ⟨by show T.heap.size < _; omega, by show T.slotsUsed + _ ≤ _; omega⟩
  · rw [muS_setTop]
    simp only [wp_bind', W.mark, W.pushRef, State.topJava?_setTop' _ XF.here.top, Option.some.injEq, exists_eq_left', State.setTop_setTop, State.heap_setTop]
    intro acts2
    simp [jvm, XF.here.top]
    exact s1
end MU
