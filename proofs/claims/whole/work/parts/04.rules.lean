section GR
variable {E : EV} {d : Nat} {k : MD} {pc : Nat} {L L' : List (Option Value)} {st : List Value} {I : Mem} {r : Option Value × Mem}
/-- a method's contract out of its body -/
theorem Gm.of {av : List Value} {L : List (Option Value)} (hy : plainName k.1.cls = true) (hL : ent av ++ List.replicate (k.2.2.1 - (ent av).length) none = L) (hn : (ent av).length ≤ k.2.2.1) (h : G E d k 0 L [] I r) : Gm E d k av I r := by
  subst hL
  refine Met.ofW (cc := k.2.1) (maxL := k.2.2.1) (ret := k.2.2.2) hy rfl ?_
  intro p e s m args below meth c s₁ B hml hv
  obtain ⟨rfl, hCF, hP, hD⟩ := hv
  have hl := lv_entry (av.map (tv E)) (n := k.2.2.1) (by rw [lg_sl_tv]; exact hn)
  rw [lg_entry_eq]
  refine h p e s m _ below meth c s.heap [] _ ⟨B.exec, B.bytes, B.returns, hml, findClass_of_methodNamed B.named, B.notSynchronized, hCF⟩ hP hD va_S.rf ?_
  rw [asc_app, ent_args]
  exact hl
/-- locals that are dead are forgotten -/
def lforget : List (Option Value) → List Nat → List (Option Value)
  | L, [] => L
  | L, i :: is => lforget (L.set i none) is
theorem lforget_get : ∀ (is : List Nat) (L : List (Option Value)) (j : Nat) (v : Value), (lforget L is)[j]? = some (some v) → L[j]? = some (some v)
  | [], L, j, v, h => h
  | i :: is, L, j, v, h => by
    have h2 := lforget_get is (L.set i none) j v h
    by_cases e : i = j
    · subst e
      by_cases hl : i < L.length
      · rw [List.getElem?_set_self hl] at h2; cases h2
      · rw [List.getElem?_eq_none (by rw [List.length_set]; omega)] at h2; cases h2
    · rwa [List.getElem?_set_ne e] at h2
theorem lv_has_mono {ls : Array Slot} {n : Nat} {l l' : List (Nat × Value)} (h : lv_has ls n l) (hs : ∀ q ∈ l', q ∈ l) : lv_has ls n l' := ⟨h.1, h.2.1, fun q hq => h.2.2 q (hs q hq)⟩
theorem G.forget (is : List Nat) (hL : lforget L is = L') (h : G E d k pc L' st I r) : G E d k pc L st I r := by
  intro p e s m args below meth c H locs ls C hP hD hS hl
  refine h p e s m args below meth c H locs ls C hP hD hS (lv_has_mono hl fun q hq => ?_)
  obtain ⟨j, v, h1, h2⟩ := (asc_mem E L' 0).mp hq
  subst hL
  exact (asc_mem E L 0).mpr ⟨j, v, h1, lforget_get is L j v h2⟩
theorem asc_at {ls : Array Slot} {n i : Nat} {v : Value} (hl : lv_has ls n (asc E 0 L)) (hi : L[i]? = some (some v)) : ls[i]? = some (.val (tv E v)) := hl.2.2 (i, tv E v) ((asc_mem E L 0).mpr ⟨i, v, by rw [Nat.zero_add], hi⟩)

theorem G.iconst {n : Int} {v : Int32} (hd : decode k.2.1 pc = .ok (.iconst n, 1)) (hv : Int32.ofInt n = v) (kk : G E d k (pc + 1) L (.int v :: st) I r) : G E d k pc L st I r := by
  intro p e s m args below meth c H locs ls C hP hD hS hl
  exact lv_iconst C.1 C.2.1 hd hv (kk p e s m args below meth c H locs ls C hP hD hS hl)
theorem G.bipush {n : Int} {v : Int32} (hd : decode k.2.1 pc = .ok (.bipush n, 2)) (hv : (Int8.ofInt n).toInt32 = v) (kk : G E d k (pc + 2) L (.int v :: st) I r) : G E d k pc L st I r := by
  intro p e s m args below meth c H locs ls C hP hD hS hl
  exact lv_bipush C.1 C.2.1 hd hv (kk p e s m args below meth c H locs ls C hP hD hS hl)
theorem G.sipush {n : Int} {v : Int32} (hd : decode k.2.1 pc = .ok (.sipush n, 3)) (hv : (Int16.ofInt n).toInt32 = v) (kk : G E d k (pc + 3) L (.int v :: st) I r) : G E d k pc L st I r := by
  intro p e s m args below meth c H locs ls C hP hD hS hl
  exact lv_sipush C.1 C.2.1 hd hv (kk p e s m args below meth c H locs ls C hP hD hS hl)
theorem G.lconst {n : Fin 2} {v : Int64} (hd : decode k.2.1 pc = .ok (.lconst n, 1)) (hv : Int64.ofNat n = v) (kk : G E d k (pc + 1) L (.long v :: st) I r) : G E d k pc L st I r := by
  intro p e s m args below meth c H locs ls C hP hD hS hl
  exact lv_lconst C.1 C.2.1 hd hv (kk p e s m args below meth c H locs ls C hP hD hS hl)
theorem G.ldc {idx : Nat} {v : Int32} (hd : decode k.2.1 pc = .ok (.ldc idx, 2)) (hw : Cond.constant k.1.cls idx v ∈ lw_g) (kk : G E d k (pc + 2) L (.int v :: st) I r) : G E d k pc L st I r := by
  intro p e s m args below meth c H locs ls C hP hD hS hl
  exact lv_ldc C.1 C.2.1 C.2.2.2.2.1 (C.2.2.2.2.2.2.hts args _ hw) hd (kk p e s m args below meth c H locs ls C hP hD hS hl)
theorem G.ldcw {idx : Nat} {v : Int32} (hd : decode k.2.1 pc = .ok (.ldc_w idx, 3)) (hw : Cond.constant k.1.cls idx v ∈ lw_g) (kk : G E d k (pc + 3) L (.int v :: st) I r) : G E d k pc L st I r := by
  intro p e s m args below meth c H locs ls C hP hD hS hl
  exact lv_ldcw C.1 C.2.1 C.2.2.2.2.1 (C.2.2.2.2.2.2.hts args _ hw) hd (kk p e s m args below meth c H locs ls C hP hD hS hl)
theorem G.ldc2 {idx : Nat} {v : Int64} (hd : decode k.2.1 pc = .ok (.ldc2_w idx, 3)) (hw : Cond.constantLong k.1.cls idx v ∈ lw_g) (kk : G E d k (pc + 3) L (.long v :: st) I r) : G E d k pc L st I r := by
  intro p e s m args below meth c H locs ls C hP hD hS hl
  exact lv_ldc2 C.1 C.2.1 C.2.2.2.2.1 (C.2.2.2.2.2.2.hts args _ hw) hd (kk p e s m args below meth c H locs ls C hP hD hS hl)
theorem G.iload_n {j : Fin 4} {i : Nat} {x : Int32} (hd : decode k.2.1 pc = .ok (.iload_n j, 1)) (hj : (j : Nat) = i) (hi : L[i]? = some (some (.int x))) (kk : G E d k (pc + 1) L (.int x :: st) I r) : G E d k pc L st I r := by
  intro p e s m args below meth c H locs ls C hP hD hS hl
  exact lv_iload_n C.1 C.2.1 hd hj (asc_at hl hi) (kk p e s m args below meth c H locs ls C hP hD hS hl)
theorem G.iload {i : Nat} {x : Int32} (hd : decode k.2.1 pc = .ok (.iload i, 2)) (hi : L[i]? = some (some (.int x))) (kk : G E d k (pc + 2) L (.int x :: st) I r) : G E d k pc L st I r := by
  intro p e s m args below meth c H locs ls C hP hD hS hl
  exact lv_iload C.1 C.2.1 hd (asc_at hl hi) (kk p e s m args below meth c H locs ls C hP hD hS hl)
theorem G.lload_n {j : Fin 4} {i : Nat} {x : Int64} (hd : decode k.2.1 pc = .ok (.lload_n j, 1)) (hj : (j : Nat) = i) (hi : L[i]? = some (some (.long x))) (kk : G E d k (pc + 1) L (.long x :: st) I r) : G E d k pc L st I r := by
  intro p e s m args below meth c H locs ls C hP hD hS hl
  exact lv_lload_n C.1 C.2.1 hd hj (asc_at hl hi) (kk p e s m args below meth c H locs ls C hP hD hS hl)
theorem G.lload {i : Nat} {x : Int64} (hd : decode k.2.1 pc = .ok (.lload i, 2)) (hi : L[i]? = some (some (.long x))) (kk : G E d k (pc + 2) L (.long x :: st) I r) : G E d k pc L st I r := by
  intro p e s m args below meth c H locs ls C hP hD hS hl
  exact lv_lload C.1 C.2.1 hd (asc_at hl hi) (kk p e s m args below meth c H locs ls C hP hD hS hl)
theorem G.aload_n {j : Fin 4} {i a : Nat} (hd : decode k.2.1 pc = .ok (.aload_n j, 1)) (hj : (j : Nat) = i) (hi : L[i]? = some (some (.ref a))) (kk : G E d k (pc + 1) L (.ref a :: st) I r) : G E d k pc L st I r := by
  intro p e s m args below meth c H locs ls C hP hD hS hl
  exact lv_aload_n C.1 C.2.1 hd hj (asc_at hl hi) (kk p e s m args below meth c H locs ls C hP hD hS hl)
theorem G.aload {i a : Nat} (hd : decode k.2.1 pc = .ok (.aload i, 2)) (hi : L[i]? = some (some (.ref a))) (kk : G E d k (pc + 2) L (.ref a :: st) I r) : G E d k pc L st I r := by
  intro p e s m args below meth c H locs ls C hP hD hS hl
  exact lv_aload C.1 C.2.1 hd (asc_at hl hi) (kk p e s m args below meth c H locs ls C hP hD hS hl)
/-- no long lies across the place -/
def okst : List (Option Value) → Nat → Bool
  | _, 0 => true
  | L, j + 1 => match L[j]? with
    | some (some v) => v.category == 1
    | _ => true
theorem asc_store {ls : Array Slot} {n i : Nat} {v : Value} (hi : i < L.length) (hok : okst L i = true) (h : lv_has ls n ((i, tv E v) :: (asc E 0 L).filter (fun q => !(q.1 == i) && !(q.1 + 1 == i && q.2.category == 2)))) : lv_has ls n (asc E 0 (L.set i (some v))) := by
  refine lv_has_mono h fun q hq => ?_
  obtain ⟨j, w, h1, h2⟩ := (asc_mem E _ 0).mp hq
  rw [Nat.zero_add] at h1
  by_cases e : i = j
  · subst e
    rw [List.getElem?_set_self (by omega)] at h2
    cases h2
    rw [h1]
    exact List.mem_cons_self
  · rw [List.getElem?_set_ne e] at h2
    refine List.mem_cons_of_mem _ (List.mem_filter.mpr ⟨(asc_mem E L 0).mpr ⟨j, w, by rw [Nat.zero_add]; exact h1, h2⟩, ?_⟩)
    rw [h1]
    have e2 : (j == i) = false := by rw [beq_eq_false_iff_ne]; exact fun z => e z.symm
    simp only [e2, Bool.not_false, Bool.true_and, Bool.not_eq_true']
    by_cases e3 : j + 1 = i
    · subst e3
      have hok2 : (match L[j]? with
        | some (some v) => v.category == 1
        | _ => true) = true := hok
      rw [h2] at hok2
      have hc : w.category = 1 := by simpa using hok2
      rw [tv_cat, hc]
      simp
    · have e4 : (j + 1 == i) = false := by rw [beq_eq_false_iff_ne]; exact e3
      simp only [e4, Bool.false_and]
theorem asc_store2 {ls : Array Slot} {n i : Nat} {v : Value} (hi : i + 1 < L.length) (hok : okst L i = true) (h : lv_has ls n ((i, tv E v) :: (asc E 0 L).filter (fun q => !(q.1 == i) && (!(q.1 == i + 1) && !(q.1 + 1 == i && q.2.category == 2))))) : lv_has ls n (asc E 0 ((L.set i (some v)).set (i + 1) none)) := by
  refine lv_has_mono h fun q hq => ?_
  obtain ⟨j, w, h1, h2⟩ := (asc_mem E _ 0).mp hq
  rw [Nat.zero_add] at h1
  by_cases e9 : i + 1 = j
  · subst e9
    rw [List.getElem?_set_self (by rw [List.length_set]; exact hi)] at h2
    cases h2
  rw [List.getElem?_set_ne e9] at h2
  by_cases e : i = j
  · subst e
    rw [List.getElem?_set_self (by omega)] at h2
    cases h2
    rw [h1]
    exact List.mem_cons_self
  · rw [List.getElem?_set_ne e] at h2
    refine List.mem_cons_of_mem _ (List.mem_filter.mpr ⟨(asc_mem E L 0).mpr ⟨j, w, by rw [Nat.zero_add]; exact h1, h2⟩, ?_⟩)
    rw [h1]
    have e2 : (j == i) = false := by rw [beq_eq_false_iff_ne]; exact fun z => e z.symm
    have e8 : (j == i + 1) = false := by rw [beq_eq_false_iff_ne]; exact fun z => e9 z.symm
    simp only [e2, e8, Bool.not_false, Bool.true_and, Bool.not_eq_true']
    by_cases e3 : j + 1 = i
    · subst e3
      have hok2 : (match L[j]? with
        | some (some v) => v.category == 1
        | _ => true) = true := hok
      rw [h2] at hok2
      have hc : w.category = 1 := by simpa using hok2
      rw [tv_cat, hc]
      simp
    · have e4 : (j + 1 == i) = false := by rw [beq_eq_false_iff_ne]; exact e3
      simp only [e4, Bool.false_and]
theorem G.istore_n {j : Fin 4} {i : Nat} {x : Int32} (hd : decode k.2.1 pc = .ok (.istore_n j, 1)) (hj : (j : Nat) = i) (hn : i < k.2.2.1) (hi : i < L.length) (hok : okst L i = true) (hL : L.set i (some (.int x)) = L') (kk : G E d k (pc + 1) L' st I r) : G E d k pc L (.int x :: st) I r := by
  intro p e s m args below meth c H locs ls C hP hD hS hl
  subst hL
  exact lv_istore_n C.1 C.2.1 hd hj hl hn rfl (fun ls' h' => kk p e s m args below meth c H locs ls' C hP hD hS (asc_store (E := E) (v := .int x) hi hok h'))
theorem G.astore_n {j : Fin 4} {i : Nat} {x : Nat} (hd : decode k.2.1 pc = .ok (.astore_n j, 1)) (hj : (j : Nat) = i) (hn : i < k.2.2.1) (hi : i < L.length) (hok : okst L i = true) (hL : L.set i (some (.ref x)) = L') (kk : G E d k (pc + 1) L' st I r) : G E d k pc L (.ref x :: st) I r := by
  intro p e s m args below meth c H locs ls C hP hD hS hl
  subst hL
  exact lv_astore_n C.1 C.2.1 hd hj hl hn rfl (fun ls' h' => kk p e s m args below meth c H locs ls' C hP hD hS (asc_store (E := E) (v := .ref x) hi hok h'))
theorem G.lstore_n {j : Fin 4} {i : Nat} {x : Int64} (hd : decode k.2.1 pc = .ok (.lstore_n j, 1)) (hj : (j : Nat) = i) (hn : i + 1 < k.2.2.1) (hi : i + 1 < L.length) (hok : okst L i = true) (hL : (L.set i (some (.long x))).set (i + 1) none = L') (kk : G E d k (pc + 1) L' st I r) : G E d k pc L (.long x :: st) I r := by
  intro p e s m args below meth c H locs ls C hP hD hS hl
  subst hL
  exact lv_lstore_n C.1 C.2.1 hd hj hl hn rfl (fun ls' h' => kk p e s m args below meth c H locs ls' C hP hD hS (asc_store2 (E := E) (v := .long x) hi hok h'))
theorem G.istore {i : Nat} {x : Int32} (hd : decode k.2.1 pc = .ok (.istore i, 2)) (hn : i < k.2.2.1) (hi : i < L.length) (hok : okst L i = true) (hL : L.set i (some (.int x)) = L') (kk : G E d k (pc + 2) L' st I r) : G E d k pc L (.int x :: st) I r := by
  intro p e s m args below meth c H locs ls C hP hD hS hl
  subst hL
  exact lv_istore C.1 C.2.1 hd hl hn rfl (fun ls' h' => kk p e s m args below meth c H locs ls' C hP hD hS (asc_store (E := E) (v := .int x) hi hok h'))
theorem G.astore {i : Nat} {x : Nat} (hd : decode k.2.1 pc = .ok (.astore i, 2)) (hn : i < k.2.2.1) (hi : i < L.length) (hok : okst L i = true) (hL : L.set i (some (.ref x)) = L') (kk : G E d k (pc + 2) L' st I r) : G E d k pc L (.ref x :: st) I r := by
  intro p e s m args below meth c H locs ls C hP hD hS hl
  subst hL
  exact lv_astore C.1 C.2.1 hd hl hn rfl (fun ls' h' => kk p e s m args below meth c H locs ls' C hP hD hS (asc_store (E := E) (v := .ref x) hi hok h'))
theorem G.lstore {i : Nat} {x : Int64} (hd : decode k.2.1 pc = .ok (.lstore i, 2)) (hn : i + 1 < k.2.2.1) (hi : i + 1 < L.length) (hok : okst L i = true) (hL : (L.set i (some (.long x))).set (i + 1) none = L') (kk : G E d k (pc + 2) L' st I r) : G E d k pc L (.long x :: st) I r := by
  intro p e s m args below meth c H locs ls C hP hD hS hl
  subst hL
  exact lv_lstore C.1 C.2.1 hd hl hn rfl (fun ls' h' => kk p e s m args below meth c H locs ls' C hP hD hS (asc_store2 (E := E) (v := .long x) hi hok h'))
theorem G.iinc {i : Nat} {n : Int} {x v : Int32} (hd : decode k.2.1 pc = .ok (.iinc i n, 3)) (hx : L[i]? = some (some (.int x))) (hv : x + Int32.ofInt n = v) (hn : i < k.2.2.1) (hok : okst L i = true) (hL : L.set i (some (.int v)) = L') (kk : G E d k (pc + 3) L' st I r) : G E d k pc L st I r := by
  intro p e s m args below meth c H locs ls C hP hD hS hl
  subst hL
  obtain ⟨q, hq⟩ := List.getElem?_of_mem ((asc_mem E L 0).mpr ⟨i, .int x, by rw [Nat.zero_add], hx⟩)
  exact lv_iinc C.1 C.2.1 hd hl hq hv hn rfl (fun ls' h' => kk p e s m args below meth c H locs ls' C hP hD hS (asc_store (E := E) (v := .int v) ((List.getElem?_eq_some_iff.mp hx).1) hok h'))
theorem G.iadd {x : Int32} {y : Int32} (hd : decode k.2.1 pc = .ok (.iadd, 1)) (kk : G E d k (pc + 1) L (.int (x + y) :: st) I r) : G E d k pc L (.int y :: .int x :: st) I r := by
  intro p e s m args below meth c H locs ls C hP hD hS hl
  exact lv_iadd C.1 C.2.1 hd  (kk p e s m args below meth c H locs ls C hP hD hS hl)
theorem G.isub {x : Int32} {y : Int32} (hd : decode k.2.1 pc = .ok (.isub, 1)) (kk : G E d k (pc + 1) L (.int (x - y) :: st) I r) : G E d k pc L (.int y :: .int x :: st) I r := by
  intro p e s m args below meth c H locs ls C hP hD hS hl
  exact lv_isub C.1 C.2.1 hd  (kk p e s m args below meth c H locs ls C hP hD hS hl)
theorem G.imul {x : Int32} {y : Int32} (hd : decode k.2.1 pc = .ok (.imul, 1)) (kk : G E d k (pc + 1) L (.int (x * y) :: st) I r) : G E d k pc L (.int y :: .int x :: st) I r := by
  intro p e s m args below meth c H locs ls C hP hD hS hl
  exact lv_imul C.1 C.2.1 hd  (kk p e s m args below meth c H locs ls C hP hD hS hl)
theorem G.iand {x : Int32} {y : Int32} (hd : decode k.2.1 pc = .ok (.iand, 1)) (kk : G E d k (pc + 1) L (.int (x &&& y) :: st) I r) : G E d k pc L (.int y :: .int x :: st) I r := by
  intro p e s m args below meth c H locs ls C hP hD hS hl
  exact lv_iand C.1 C.2.1 hd  (kk p e s m args below meth c H locs ls C hP hD hS hl)
theorem G.ior {x : Int32} {y : Int32} (hd : decode k.2.1 pc = .ok (.ior, 1)) (kk : G E d k (pc + 1) L (.int (x ||| y) :: st) I r) : G E d k pc L (.int y :: .int x :: st) I r := by
  intro p e s m args below meth c H locs ls C hP hD hS hl
  exact lv_ior C.1 C.2.1 hd  (kk p e s m args below meth c H locs ls C hP hD hS hl)
theorem G.ixor {x : Int32} {y : Int32} (hd : decode k.2.1 pc = .ok (.ixor, 1)) (kk : G E d k (pc + 1) L (.int (x ^^^ y) :: st) I r) : G E d k pc L (.int y :: .int x :: st) I r := by
  intro p e s m args below meth c H locs ls C hP hD hS hl
  exact lv_ixor C.1 C.2.1 hd  (kk p e s m args below meth c H locs ls C hP hD hS hl)
theorem G.ishl {x : Int32} {y : Int32} (hd : decode k.2.1 pc = .ok (.ishl, 1)) (kk : G E d k (pc + 1) L (.int (x <<< (y &&& 31)) :: st) I r) : G E d k pc L (.int y :: .int x :: st) I r := by
  intro p e s m args below meth c H locs ls C hP hD hS hl
  exact lv_ishl C.1 C.2.1 hd  (kk p e s m args below meth c H locs ls C hP hD hS hl)
theorem G.ishr {x : Int32} {y : Int32} (hd : decode k.2.1 pc = .ok (.ishr, 1)) (kk : G E d k (pc + 1) L (.int (x >>> (y &&& 31)) :: st) I r) : G E d k pc L (.int y :: .int x :: st) I r := by
  intro p e s m args below meth c H locs ls C hP hD hS hl
  exact lv_ishr C.1 C.2.1 hd  (kk p e s m args below meth c H locs ls C hP hD hS hl)
theorem G.iushr {x : Int32} {y : Int32} (hd : decode k.2.1 pc = .ok (.iushr, 1)) (kk : G E d k (pc + 1) L (.int ((x.toUInt32 >>> (y.toUInt32 &&& Int32.toUInt32 31)).toInt32) :: st) I r) : G E d k pc L (.int y :: .int x :: st) I r := by
  intro p e s m args below meth c H locs ls C hP hD hS hl
  exact lv_iushr C.1 C.2.1 hd rfl (kk p e s m args below meth c H locs ls C hP hD hS hl)
theorem G.ladd {x : Int64} {y : Int64} (hd : decode k.2.1 pc = .ok (.ladd, 1)) (kk : G E d k (pc + 1) L (.long (x + y) :: st) I r) : G E d k pc L (.long y :: .long x :: st) I r := by
  intro p e s m args below meth c H locs ls C hP hD hS hl
  exact lv_ladd C.1 C.2.1 hd  (kk p e s m args below meth c H locs ls C hP hD hS hl)
theorem G.lsub {x : Int64} {y : Int64} (hd : decode k.2.1 pc = .ok (.lsub, 1)) (kk : G E d k (pc + 1) L (.long (x - y) :: st) I r) : G E d k pc L (.long y :: .long x :: st) I r := by
  intro p e s m args below meth c H locs ls C hP hD hS hl
  exact lv_lsub C.1 C.2.1 hd  (kk p e s m args below meth c H locs ls C hP hD hS hl)
theorem G.lmul {x : Int64} {y : Int64} (hd : decode k.2.1 pc = .ok (.lmul, 1)) (kk : G E d k (pc + 1) L (.long (x * y) :: st) I r) : G E d k pc L (.long y :: .long x :: st) I r := by
  intro p e s m args below meth c H locs ls C hP hD hS hl
  exact lv_lmul C.1 C.2.1 hd  (kk p e s m args below meth c H locs ls C hP hD hS hl)
theorem G.land {x : Int64} {y : Int64} (hd : decode k.2.1 pc = .ok (.land, 1)) (kk : G E d k (pc + 1) L (.long (x &&& y) :: st) I r) : G E d k pc L (.long y :: .long x :: st) I r := by
  intro p e s m args below meth c H locs ls C hP hD hS hl
  exact lv_land C.1 C.2.1 hd  (kk p e s m args below meth c H locs ls C hP hD hS hl)
theorem G.lor {x : Int64} {y : Int64} (hd : decode k.2.1 pc = .ok (.lor, 1)) (kk : G E d k (pc + 1) L (.long (x ||| y) :: st) I r) : G E d k pc L (.long y :: .long x :: st) I r := by
  intro p e s m args below meth c H locs ls C hP hD hS hl
  exact lv_lor C.1 C.2.1 hd  (kk p e s m args below meth c H locs ls C hP hD hS hl)
theorem G.idiv {x : Int32} {y : Int32} (hd : decode k.2.1 pc = .ok (.idiv, 1)) (hne : ¬ y = 0) (kk : G E d k (pc + 1) L (.int (x / y) :: st) I r) : G E d k pc L (.int y :: .int x :: st) I r := by
  intro p e s m args below meth c H locs ls C hP hD hS hl
  exact lv_idiv C.1 C.2.1 hd hne (kk p e s m args below meth c H locs ls C hP hD hS hl)
theorem G.irem {x : Int32} {y : Int32} (hd : decode k.2.1 pc = .ok (.irem, 1)) (hne : ¬ y = 0) (kk : G E d k (pc + 1) L (.int (x - x / y * y) :: st) I r) : G E d k pc L (.int y :: .int x :: st) I r := by
  intro p e s m args below meth c H locs ls C hP hD hS hl
  exact lv_irem C.1 C.2.1 hd hne (kk p e s m args below meth c H locs ls C hP hD hS hl)
theorem G.ldiv {x : Int64} {y : Int64} (hd : decode k.2.1 pc = .ok (.ldiv, 1)) (hne : ¬ y = 0) (kk : G E d k (pc + 1) L (.long (x / y) :: st) I r) : G E d k pc L (.long y :: .long x :: st) I r := by
  intro p e s m args below meth c H locs ls C hP hD hS hl
  exact lv_ldiv C.1 C.2.1 hd hne (kk p e s m args below meth c H locs ls C hP hD hS hl)
theorem G.lrem {x : Int64} {y : Int64} (hd : decode k.2.1 pc = .ok (.lrem, 1)) (hne : ¬ y = 0) (kk : G E d k (pc + 1) L (.long (x - x / y * y) :: st) I r) : G E d k pc L (.long y :: .long x :: st) I r := by
  intro p e s m args below meth c H locs ls C hP hD hS hl
  exact lv_lrem C.1 C.2.1 hd hne (kk p e s m args below meth c H locs ls C hP hD hS hl)
theorem G.lshl {x : Int64} {y : Int32} (hd : decode k.2.1 pc = .ok (.lshl, 1)) (kk : G E d k (pc + 1) L (.long (x <<< (y.toInt64 &&& 63)) :: st) I r) : G E d k pc L (.int y :: .long x :: st) I r := by
  intro p e s m args below meth c H locs ls C hP hD hS hl
  exact lv_lshl C.1 C.2.1 hd rfl (kk p e s m args below meth c H locs ls C hP hD hS hl)
theorem G.lshr {x : Int64} {y : Int32} (hd : decode k.2.1 pc = .ok (.lshr, 1)) (kk : G E d k (pc + 1) L (.long (x >>> (y.toInt64 &&& 63)) :: st) I r) : G E d k pc L (.int y :: .long x :: st) I r := by
  intro p e s m args below meth c H locs ls C hP hD hS hl
  exact lv_lshr C.1 C.2.1 hd rfl (kk p e s m args below meth c H locs ls C hP hD hS hl)
theorem G.lcmp {x : Int64} {y : Int64} (hd : decode k.2.1 pc = .ok (.lcmp, 1)) (kk : G E d k (pc + 1) L (.int (lg_cmp x y) :: st) I r) : G E d k pc L (.long y :: .long x :: st) I r := by
  intro p e s m args below meth c H locs ls C hP hD hS hl
  exact W.lcmp C.1 C.2.1 hd  (kk p e s m args below meth c H locs ls C hP hD hS hl)
theorem G.i2l {x : Int32} (hd : decode k.2.1 pc = .ok (.i2l, 1)) (kk : G E d k (pc + 1) L (.long (x.toInt64) :: st) I r) : G E d k pc L (.int x :: st) I r := by
  intro p e s m args below meth c H locs ls C hP hD hS hl
  exact lv_i2l C.1 C.2.1 hd rfl (kk p e s m args below meth c H locs ls C hP hD hS hl)
theorem G.l2i {x : Int64} (hd : decode k.2.1 pc = .ok (.l2i, 1)) (kk : G E d k (pc + 1) L (.int (x.toInt32) :: st) I r) : G E d k pc L (.long x :: st) I r := by
  intro p e s m args below meth c H locs ls C hP hD hS hl
  exact lv_l2i C.1 C.2.1 hd rfl (kk p e s m args below meth c H locs ls C hP hD hS hl)
theorem G.i2c {x : Int32} (hd : decode k.2.1 pc = .ok (.i2c, 1)) (kk : G E d k (pc + 1) L (.int ((x.toUInt32 % 65536).toInt32) :: st) I r) : G E d k pc L (.int x :: st) I r := by
  intro p e s m args below meth c H locs ls C hP hD hS hl
  exact lv_i2c C.1 C.2.1 hd rfl (kk p e s m args below meth c H locs ls C hP hD hS hl)
theorem G.dup {v : Value} (hd : decode k.2.1 pc = .ok (.dup, 1)) (hv : v.category = 1) (kk : G E d k (pc + 1) L (v :: v :: st) I r) : G E d k pc L (v :: st) I r := by
  intro p e s m args below meth c H locs ls C hP hD hS hl
  exact lv_dup C.1 C.2.1 hd (by rw [tv_cat]; exact hv) (kk p e s m args below meth c H locs ls C hP hD hS hl)
theorem G.dup2 {v w : Value} (hd : decode k.2.1 pc = .ok (.dup2, 1)) (hv : v.category = 1) (hw : w.category = 1) (kk : G E d k (pc + 1) L (v :: w :: v :: w :: st) I r) : G E d k pc L (v :: w :: st) I r := by
  intro p e s m args below meth c H locs ls C hP hD hS hl
  exact lv_dup2_11 C.1 C.2.1 hd (by rw [tv_cat]; exact hv) (by rw [tv_cat]; exact hw) (kk p e s m args below meth c H locs ls C hP hD hS hl)
theorem G.pop {v : Value} (hd : decode k.2.1 pc = .ok (.pop, 1)) (hv : v.category = 1) (kk : G E d k (pc + 1) L st I r) : G E d k pc L (v :: st) I r := by
  intro p e s m args below meth c H locs ls C hP hD hS hl
  exact lv_pop C.1 C.2.1 hd (by rw [tv_cat]; exact hv) (kk p e s m args below meth c H locs ls C hP hD hS hl)
theorem G.goto {off : Int} {tgt : Nat} (hd : decode k.2.1 pc = .ok (.goto off, 3)) (ht : (pc : Int) + off = (tgt : Int)) (kk : G E d k tgt L st I r) : G E d k pc L st I r := by
  intro p e s m args below meth c H locs ls C hP hD hS hl
  exact lv_goto C.1 C.2.1 hd ht (kk p e s m args below meth c H locs ls C hP hD hS hl)
theorem G.if_eq {x : Int32} {off : Int} {tgt : Nat} (hd : decode k.2.1 pc = .ok (.ifCond .eq off, 3)) (ht : (pc : Int) + off = (tgt : Int)) (kt : x = 0 → G E d k tgt L st I r) (kf : ¬ x = 0 → G E d k (pc + 3) L st I r) : G E d k pc L (.int x :: st) I r := by
  intro p e s m args below meth c H locs ls C hP hD hS hl
  exact lv_if_eq C.1 C.2.1 hd ht (fun q => kt q p e s m args below meth c H locs ls C hP hD hS hl) (fun q => kf q p e s m args below meth c H locs ls C hP hD hS hl)
theorem G.icmp_eq {x y : Int32} {off : Int} {tgt : Nat} (hd : decode k.2.1 pc = .ok (.if_icmp .eq off, 3)) (ht : (pc : Int) + off = (tgt : Int)) (kt : x = y → G E d k tgt L st I r) (kf : ¬ x = y → G E d k (pc + 3) L st I r) : G E d k pc L (.int y :: .int x :: st) I r := by
  intro p e s m args below meth c H locs ls C hP hD hS hl
  exact lv_icmp_eq C.1 C.2.1 hd ht (fun q => kt q p e s m args below meth c H locs ls C hP hD hS hl) (fun q => kf q p e s m args below meth c H locs ls C hP hD hS hl)
theorem G.if_ne {x : Int32} {off : Int} {tgt : Nat} (hd : decode k.2.1 pc = .ok (.ifCond .ne off, 3)) (ht : (pc : Int) + off = (tgt : Int)) (kt : ¬ x = 0 → G E d k tgt L st I r) (kf : x = 0 → G E d k (pc + 3) L st I r) : G E d k pc L (.int x :: st) I r := by
  intro p e s m args below meth c H locs ls C hP hD hS hl
  exact lv_if_ne C.1 C.2.1 hd ht (fun q => kt q p e s m args below meth c H locs ls C hP hD hS hl) (fun q => kf q p e s m args below meth c H locs ls C hP hD hS hl)
theorem G.icmp_ne {x y : Int32} {off : Int} {tgt : Nat} (hd : decode k.2.1 pc = .ok (.if_icmp .ne off, 3)) (ht : (pc : Int) + off = (tgt : Int)) (kt : ¬ x = y → G E d k tgt L st I r) (kf : x = y → G E d k (pc + 3) L st I r) : G E d k pc L (.int y :: .int x :: st) I r := by
  intro p e s m args below meth c H locs ls C hP hD hS hl
  exact lv_icmp_ne C.1 C.2.1 hd ht (fun q => kt q p e s m args below meth c H locs ls C hP hD hS hl) (fun q => kf q p e s m args below meth c H locs ls C hP hD hS hl)
theorem G.if_lt {x : Int32} {off : Int} {tgt : Nat} (hd : decode k.2.1 pc = .ok (.ifCond .lt off, 3)) (ht : (pc : Int) + off = (tgt : Int)) (kt : x < 0 → G E d k tgt L st I r) (kf : ¬ x < 0 → G E d k (pc + 3) L st I r) : G E d k pc L (.int x :: st) I r := by
  intro p e s m args below meth c H locs ls C hP hD hS hl
  exact lv_if_lt C.1 C.2.1 hd ht (fun q => kt q p e s m args below meth c H locs ls C hP hD hS hl) (fun q => kf q p e s m args below meth c H locs ls C hP hD hS hl)
theorem G.icmp_lt {x y : Int32} {off : Int} {tgt : Nat} (hd : decode k.2.1 pc = .ok (.if_icmp .lt off, 3)) (ht : (pc : Int) + off = (tgt : Int)) (kt : x < y → G E d k tgt L st I r) (kf : ¬ x < y → G E d k (pc + 3) L st I r) : G E d k pc L (.int y :: .int x :: st) I r := by
  intro p e s m args below meth c H locs ls C hP hD hS hl
  exact lv_icmp_lt C.1 C.2.1 hd ht (fun q => kt q p e s m args below meth c H locs ls C hP hD hS hl) (fun q => kf q p e s m args below meth c H locs ls C hP hD hS hl)
theorem G.if_ge {x : Int32} {off : Int} {tgt : Nat} (hd : decode k.2.1 pc = .ok (.ifCond .ge off, 3)) (ht : (pc : Int) + off = (tgt : Int)) (kt : 0 ≤ x → G E d k tgt L st I r) (kf : ¬ 0 ≤ x → G E d k (pc + 3) L st I r) : G E d k pc L (.int x :: st) I r := by
  intro p e s m args below meth c H locs ls C hP hD hS hl
  exact lv_if_ge C.1 C.2.1 hd ht (fun q => kt q p e s m args below meth c H locs ls C hP hD hS hl) (fun q => kf q p e s m args below meth c H locs ls C hP hD hS hl)
theorem G.icmp_ge {x y : Int32} {off : Int} {tgt : Nat} (hd : decode k.2.1 pc = .ok (.if_icmp .ge off, 3)) (ht : (pc : Int) + off = (tgt : Int)) (kt : y ≤ x → G E d k tgt L st I r) (kf : ¬ y ≤ x → G E d k (pc + 3) L st I r) : G E d k pc L (.int y :: .int x :: st) I r := by
  intro p e s m args below meth c H locs ls C hP hD hS hl
  exact lv_icmp_ge C.1 C.2.1 hd ht (fun q => kt q p e s m args below meth c H locs ls C hP hD hS hl) (fun q => kf q p e s m args below meth c H locs ls C hP hD hS hl)
theorem G.if_gt {x : Int32} {off : Int} {tgt : Nat} (hd : decode k.2.1 pc = .ok (.ifCond .gt off, 3)) (ht : (pc : Int) + off = (tgt : Int)) (kt : 0 < x → G E d k tgt L st I r) (kf : ¬ 0 < x → G E d k (pc + 3) L st I r) : G E d k pc L (.int x :: st) I r := by
  intro p e s m args below meth c H locs ls C hP hD hS hl
  exact lv_if_gt C.1 C.2.1 hd ht (fun q => kt q p e s m args below meth c H locs ls C hP hD hS hl) (fun q => kf q p e s m args below meth c H locs ls C hP hD hS hl)
theorem G.icmp_gt {x y : Int32} {off : Int} {tgt : Nat} (hd : decode k.2.1 pc = .ok (.if_icmp .gt off, 3)) (ht : (pc : Int) + off = (tgt : Int)) (kt : y < x → G E d k tgt L st I r) (kf : ¬ y < x → G E d k (pc + 3) L st I r) : G E d k pc L (.int y :: .int x :: st) I r := by
  intro p e s m args below meth c H locs ls C hP hD hS hl
  exact lv_icmp_gt C.1 C.2.1 hd ht (fun q => kt q p e s m args below meth c H locs ls C hP hD hS hl) (fun q => kf q p e s m args below meth c H locs ls C hP hD hS hl)
theorem G.if_le {x : Int32} {off : Int} {tgt : Nat} (hd : decode k.2.1 pc = .ok (.ifCond .le off, 3)) (ht : (pc : Int) + off = (tgt : Int)) (kt : x ≤ 0 → G E d k tgt L st I r) (kf : ¬ x ≤ 0 → G E d k (pc + 3) L st I r) : G E d k pc L (.int x :: st) I r := by
  intro p e s m args below meth c H locs ls C hP hD hS hl
  exact lv_if_le C.1 C.2.1 hd ht (fun q => kt q p e s m args below meth c H locs ls C hP hD hS hl) (fun q => kf q p e s m args below meth c H locs ls C hP hD hS hl)
theorem G.icmp_le {x y : Int32} {off : Int} {tgt : Nat} (hd : decode k.2.1 pc = .ok (.if_icmp .le off, 3)) (ht : (pc : Int) + off = (tgt : Int)) (kt : x ≤ y → G E d k tgt L st I r) (kf : ¬ x ≤ y → G E d k (pc + 3) L st I r) : G E d k pc L (.int y :: .int x :: st) I r := by
  intro p e s m args below meth c H locs ls C hP hD hS hl
  exact lv_icmp_le C.1 C.2.1 hd ht (fun q => kt q p e s m args below meth c H locs ls C hP hD hS hl) (fun q => kf q p e s m args below meth c H locs ls C hP hD hS hl)
theorem G.tsw_out {dflt lo hi : Int} {offs : Array Int} {len : Nat} {x : Int32} {tgt : Nat} (hd : decode k.2.1 pc = .ok (.tableswitch dflt lo hi offs, len)) (h : x.toInt < lo ∨ hi < x.toInt) (ht : (pc : Int) + dflt = (tgt : Int)) (kk : G E d k tgt L st I r) : G E d k pc L (.int x :: st) I r := by
  intro p e s m args below meth c H locs ls C hP hD hS hl
  exact lv_tableOut C.1 C.2.1 hd h ht (kk p e s m args below meth c H locs ls C hP hD hS hl)
theorem G.tsw_in {dflt lo hi : Int} {offs : Array Int} {len : Nat} {x : Int32} {off : Int} {tgt : Nat} (hd : decode k.2.1 pc = .ok (.tableswitch dflt lo hi offs, len)) (h1 : ¬ x.toInt < lo) (h2 : ¬ hi < x.toInt) (ho : offs[(x.toInt - lo).toNat]? = some off) (ht : (pc : Int) + off = (tgt : Int)) (kk : G E d k tgt L st I r) : G E d k pc L (.int x :: st) I r := by
  intro p e s m args below meth c H locs ls C hP hD hS hl
  exact lv_tableIn C.1 C.2.1 hd h1 h2 ho ht (kk p e s m args below meth c H locs ls C hP hD hS hl)
/-- a field by its entry: class, slot, kind, type -/
def FL (own : String) (idx ci i f : Nat) (ty : FieldType) : Prop := ∃ (C : String) (T : u_T) (N : Nat) (ty0 : Nat → FieldType), vwCl[ci]? = some (C, T, N) ∧ (∀ w ∈ u_ws C T N, w ∈ lw_g) ∧ Cond.fieldLink own idx (T i).1 (T i).2.1 (T i).2.2.1 ∈ lw_g ∧ (fk ci)[i]? = some f ∧ i < N ∧ (∀ k, k < N → parseFieldDescriptor (T k).2.2.1 = some (ty0 k)) ∧ (∀ a, a < N → ∀ b, b < N → a ≠ b → (T a).2.1 ≠ (T b).2.1) ∧ parseFieldDescriptor (T i).2.2.1 = some ty ∧ (T i).2.2.2 = (f == 1) ∧ ci < 13
/-- an index within -/
def inb (i : Int32) (n : Nat) : Bool := !(decide (i < 0) || decide (n ≤ i.toNatClampNeg))
abbrev ix (i : Int32) : Nat := i.toNatClampNeg
theorem inb_in {i : Int32} {n : Nat} (h : inb i n = true) : vp_in i n := by
  intro q
  rcases q with q | q <;> simp [inb, q] at h
theorem w_get {a idx ci i f : Nat} {ty : FieldType} (hd : decode k.2.1 pc = .ok (.getfield idx, 3)) (fl : FL k.1.cls idx ci i f ty) (ha : a < NC) (hk : lk a = ci) {p : Program} {e : Env} {s : State} {m : MethodId} {args : Array Value} {below : List Frame} {meth : Method} {c : Code} {H : Heap} {locs : List Loc} {ls : Array Slot} {rest : List Value} {Q : State → Prop} (C : Cx E k p s m meth c) (hP : va_P (eD E) vwCl (wl E I) H)
    (kk : W p E.1 e (rmd d) s m args below meth c H locs 0 0 Q (F0 m (pc + 3) ls (fv E I a i f :: rest))) : W p E.1 e (rmd d) s m args below meth c H locs 0 0 Q (F0 m pc ls (.ref (eAd E a) :: rest)) := by
  obtain ⟨C9, T, N, ty0, h1, h2, h3, h4, h5, h6, h7, h8, h9, h10⟩ := fl
  subst hk
  exact va_get (D := eD E) (ci := lk a) (C := C9) (T := T) (N := N) C.1 C.2.1 (C.2.2.2.2.2.2.hts args) h2 C.2.2.2.2.1 C.2.2.2.2.2.2.2.2.2.1 hP a (by rw [wl_get E I ha, pic_r E I h10]) h1 i h5 (C.2.2.2.2.2.2.hts args _ h3) (fun _ h => h) (fds_get E I h4) hd kk
theorem G.getI {a idx ci i : Nat} {ty : FieldType} (hd : decode k.2.1 pc = .ok (.getfield idx, 3)) (fl : FL k.1.cls idx ci i 0 ty) (ha : a < NC) (hk : lk a = ci) (kk : G E d k (pc + 3) L (.int (I a i) :: st) I r) : G E d k pc L (.ref a :: st) I r := by
  intro p e s m args below meth c H locs ls C hP hD hS hl
  exact w_get hd fl ha hk C hP (kk p e s m args below meth c H locs ls C hP hD hS hl)
theorem G.getR {a idx ci i q : Nat} {ty : FieldType} (hd : decode k.2.1 pc = .ok (.getfield idx, 3)) (fl : FL k.1.cls idx ci i 1 ty) (ha : a < NC) (hk : lk a = ci) (hq : fin a i = some q) (kk : G E d k (pc + 3) L (.ref q :: st) I r) : G E d k pc L (.ref a :: st) I r := by
  intro p e s m args below meth c H locs ls C hP hD hS hl
  refine w_get hd fl ha hk C hP ?_
  have e1 : fv E I a i 1 = tv E (.ref q) := by
    unfold fv
    rw [if_neg (by decide), if_pos rfl, hq]
    rfl
  rw [e1]
  exact (kk p e s m args below meth c H locs ls C hP hD hS hl)
theorem G.getM {a idx ci i q : Nat} {ty : FieldType} (hd : decode k.2.1 pc = .ok (.getfield idx, 3)) (fl : FL k.1.cls idx ci i 2 ty) (ha : a < NC) (hk : lk a = ci) (hq : dec (I a i) = some q) (kk : G E d k (pc + 3) L (.ref q :: st) I r) : G E d k pc L (.ref a :: st) I r := by
  intro p e s m args below meth c H locs ls C hP hD hS hl
  refine w_get hd fl ha hk C hP ?_
  have e1 : fv E I a i 2 = tv E (.ref q) := by
    unfold fv
    rw [if_neg (by decide), if_neg (by decide), hq]
    rfl
  rw [e1]
  exact (kk p e s m args below meth c H locs ls C hP hD hS hl)
theorem pic_put (E : EV) (I : Mem) {a i f : Nat} {x : Int32} (h : lk a < 13) (hf : (fk (lk a))[i]? = some f) (h1 : f ≠ 1) : (Sum.inr (lk a, (fds E I a).set i (fv E (up2 I a i x) a i f)) : va_E) = pic E (up2 I a i x) a := by
  rw [pic_r E _ h, fds_set E I hf h1]
theorem w_put {a idx ci i f : Nat} {ty : FieldType} {x : Int32} {v : Value} (hd : decode k.2.1 pc = .ok (.putfield idx, 3)) (fl : FL k.1.cls idx ci i f ty) (h1 : f ≠ 1) (ha : a < NC) (hk : lk a = ci) (hv : fv E (up2 I a i x) a i f = v) (hn : narrow ty v = v) (hfit : fits ty v = true) {p : Program} {e : Env} {s : State} {m : MethodId} {args : Array Value} {below : List Frame} {meth : Method} {c : Code} {H : Heap} {locs : List Loc} {ls : Array Slot} {rest : List Value} {Q : State → Prop} (C : Cx E k p s m meth c) (hP : va_P (eD E) vwCl (wl E I) H) (hD : va_D (eA E) (wl E I)) (hS : va_S (eA E) s.heap H locs)
    (kk : ∀ (H1 : Heap) (locs1 : List Loc), va_P (eD E) vwCl (wl E (up2 I a i x)) H1 → va_D (eA E) (wl E (up2 I a i x)) → va_S (eA E) s.heap H1 locs1 → W p E.1 e (rmd d) s m args below meth c H1 locs1 0 0 Q (F0 m (pc + 3) ls rest)) : W p E.1 e (rmd d) s m args below meth c H locs 0 0 Q (F0 m pc ls (v :: .ref (eAd E a) :: rest)) := by
  obtain ⟨C9, T, N, ty0, g1, g2, g3, g4, g5, g6, g7, g8, g9, g10⟩ := fl
  subst hk
  refine va_put (D := eD E) (ci := lk a) (C := C9) (T := T) (N := N) (ty := ty) C.1 C.2.1 (C.2.2.2.2.2.2.hts args) g2 ty0 g6 g7 C.2.2.2.2.1 C.2.2.2.2.2.2.2.2.2.1 hP hD hS a (by rw [wl_get E I ha, pic_r E I g10]) g1 i g5 (C.2.2.2.2.2.2.hts args _ g3) (fun _ h => h) (by rw [g9]; exact beq_eq_false_iff_ne.mpr h1) g8 hn hfit (by rw [fds_len]; exact (List.getElem?_eq_some_iff.mp g4).1) hd (fun H1 locs1 hP1 hD1 hS1 => ?_)
  rw [← hv, pic_put E I g10 g4 h1, wl_set E I (up2 I a i x) ha (fun b hb => pic_upA_ne E I a _ b hb)] at hP1 hD1
  exact kk H1 locs1 hP1 hD1 hS1
theorem G.putI {a idx ci i : Nat} {x : Int32} (hd : decode k.2.1 pc = .ok (.putfield idx, 3)) (fl : FL k.1.cls idx ci i 0 .int) (ha : a < NC) (hk : lk a = ci) (kk : G E d k (pc + 3) L st (up2 I a i x) r) : G E d k pc L (.int x :: .ref a :: st) I r := by
  intro p e s m args below meth c H locs ls C hP hD hS hl
  refine w_put (x := x) (v := .int x) hd fl (by decide) ha hk ?_ rfl rfl C hP hD hS (fun H1 locs1 hP1 hD1 hS1 => kk p e s m args below meth c H1 locs1 ls C hP1 hD1 hS1 hl)
  unfold fv
  rw [if_pos rfl, up2_self]
theorem G.putM {a idx ci i q : Nat} {cn : String} (hd : decode k.2.1 pc = .ok (.putfield idx, 3)) (fl : FL k.1.cls idx ci i 2 (.object cn)) (ha : a < NC) (hk : lk a = ci) (hq : q < NC) (kk : G E d k (pc + 3) L st (up2 I a i (enc q)) r) : G E d k pc L (.ref q :: .ref a :: st) I r := by
  intro p e s m args below meth c H locs ls C hP hD hS hl
  refine w_put (x := enc q) (v := .ref (eAd E q)) hd fl (by decide) ha hk ?_ rfl rfl C hP hD hS (fun H1 locs1 hP1 hD1 hS1 => kk p e s m args below meth c H1 locs1 ls C hP1 hD1 hS1 hl)
  unfold fv
  rw [if_neg (by decide), if_neg (by decide), up2_self, dec_enc (by have : NC = 85 := rfl; omega)]
  rfl
theorem G.iald {a : Nat} {i : Int32} (hd : decode k.2.1 pc = .ok (.iaload, 1)) (ha : a < NC) (hk : lk a = 13) (hin : inb i (ln a) = true) (kk : G E d k (pc + 1) L (.int (I a (ix i)) :: st) I r) : G E d k pc L (.int i :: .ref a :: st) I r := by
  intro p e s m args below meth c H locs ls C hP hD hS hl
  exact va_iald C.1 C.2.1 C.2.2.2.2.2.2.2.2.2.1 hP a 0 (by rw [wl_get E I ha, pic_i E I hk]) rfl (inb_in hin) hd (kk p e s m args below meth c H locs ls C hP hD hS hl)
theorem G.zald {a : Nat} {i : Int32} (hd : decode k.2.1 pc = .ok (.baload, 1)) (ha : a < NC) (hk : lk a = 14) (hin : inb i (ln a) = true) (kk : G E d k (pc + 1) L (.int (I a (ix i)) :: st) I r) : G E d k pc L (.int i :: .ref a :: st) I r := by
  intro p e s m args below meth c H locs ls C hP hD hS hl
  exact va_zald C.1 C.2.1 C.2.2.2.2.2.2.2.2.2.1 hP a 1 (by rw [wl_get E I ha, pic_z E I hk]) rfl (inb_in hin) hd (kk p e s m args below meth c H locs ls C hP hD hS hl)
theorem wl_upi (E : EV) (I : Mem) {a : Nat} (ha : a < NC) (hk : lk a = 13) (f : Nat → Int32) : (wl E I).set a (eAd E a, .inl (eC E 0, ln a, .inl f)) = wl E (upA I a f) := by
  rw [← wl_set E I (upA I a f) ha (fun b hb => pic_upA_ne E I a f b hb), pic_i E _ hk, upA_self]
theorem wl_upz (E : EV) (I : Mem) {a : Nat} (ha : a < NC) (hk : lk a = 14) (f : Nat → Int32) : (wl E I).set a (eAd E a, .inl (eC E 1, ln a, .inl f)) = wl E (upA I a f) := by
  rw [← wl_set E I (upA I a f) ha (fun b hb => pic_upA_ne E I a f b hb), pic_z E _ hk, upA_self]
theorem G.iast {a : Nat} {i x : Int32} (hd : decode k.2.1 pc = .ok (.iastore, 1)) (ha : a < NC) (hk : lk a = 13) (hin : inb i (ln a) = true) (kk : G E d k (pc + 1) L st (up2 I a (ix i) x) r) : G E d k pc L (.int x :: .int i :: .ref a :: st) I r := by
  intro p e s m args below meth c H locs ls C hP hD hS hl
  refine va_iast C.1 C.2.1 C.2.2.2.2.2.2.2.2.2.1 hP hD hS a 0 (by rw [wl_get E I ha, pic_i E I hk]) rfl (inb_in hin) hd (fun H1 locs1 hP1 hD1 hS1 => ?_)
  rw [wl_upi E I ha hk] at hP1 hD1
  exact kk p e s m args below meth c H1 locs1 ls C hP1 hD1 hS1 hl
theorem G.zast {a : Nat} {i x v : Int32} (hd : decode k.2.1 pc = .ok (.bastore, 1)) (ha : a < NC) (hk : lk a = 14) (hin : inb i (ln a) = true) (hv : vp_nar .boolean x = v) (kk : G E d k (pc + 1) L st (up2 I a (ix i) v) r) : G E d k pc L (.int x :: .int i :: .ref a :: st) I r := by
  intro p e s m args below meth c H locs ls C hP hD hS hl
  refine va_zast C.1 C.2.1 C.2.2.2.2.2.2.2.2.2.1 hP hD hS a 1 (by rw [wl_get E I ha, pic_z E I hk]) rfl (inb_in hin) hd (fun H1 locs1 hP1 hD1 hS1 => ?_)
  rw [hv, wl_upz E I ha hk] at hP1 hD1
  exact kk p e s m args below meth c H1 locs1 ls C hP1 hD1 hS1 hl
theorem G.alen {a : Nat} {v : Int32} (hd : decode k.2.1 pc = .ok (.arraylength, 1)) (ha : a < NC) (hk : lk a = 13) (hv : nI (ln a) = v) (kk : G E d k (pc + 1) L (.int v :: st) I r) : G E d k pc L (.ref a :: st) I r := by
  intro p e s m args below meth c H locs ls C hP hD hS hl
  exact va_alen (x := (ln a, .inl (I a))) C.1 C.2.1 C.2.2.2.2.2.2.2.2.2.1 hP a 0 (by rw [wl_get E I ha, pic_i E I hk]) rfl hv hd (kk p e s m args below meth c H locs ls C hP hD hS hl)
theorem G.aaldH {a q : Nat} {i : Int32} (hd : decode k.2.1 pc = .ok (.aaload, 1)) (ha : a < NC) (hk : lk a = 15) (hin : inb i (ln a) = true) (hq : fin a (ix i) = some q) (kk : G E d k (pc + 1) L (.ref q :: st) I r) : G E d k pc L (.int i :: .ref a :: st) I r := by
  intro p e s m args below meth c H locs ls C hP hD hS hl
  refine va_aldq C.1 C.2.1 C.2.2.2.2.2.2.2.2.2.1 hP a 2 (by rw [wl_get E I ha, pic_h E I hk]) rfl (inb_in hin) hd ?_
  rw [hq]
  exact (kk p e s m args below meth c H locs ls C hP hD hS hl)
theorem G.aaldO {a q : Nat} {i : Int32} (hd : decode k.2.1 pc = .ok (.aaload, 1)) (ha : a < NC) (hk : lk a = 16) (hin : inb i (ln a) = true) (hq : fin a (ix i) = some q) (kk : G E d k (pc + 1) L (.ref q :: st) I r) : G E d k pc L (.int i :: .ref a :: st) I r := by
  intro p e s m args below meth c H locs ls C hP hD hS hl
  refine va_aldq C.1 C.2.1 C.2.2.2.2.2.2.2.2.2.1 hP a 3 (by rw [wl_get E I ha, pic_o E I hk]) rfl (inb_in hin) hd ?_
  rw [hq]
  exact (kk p e s m args below meth c H locs ls C hP hD hS hl)
theorem G.aaldA {a q : Nat} {i : Int32} (hd : decode k.2.1 pc = .ok (.aaload, 1)) (ha : a < NC) (hk : lk a = 17) (hin : inb i (ln a) = true) (hq : fin a (ix i) = some q) (kk : G E d k (pc + 1) L (.ref q :: st) I r) : G E d k pc L (.int i :: .ref a :: st) I r := by
  intro p e s m args below meth c H locs ls C hP hD hS hl
  have hin2 := inb_in hin
  have hlt : i.toNatClampNeg < ln a := Nat.not_le.mp fun q => hin2 (Or.inr q)
  have hcell := hP a _ (by rw [wl_get E I ha, pic_a E I hk])
  refine W.aald (v := va_rf ((fin a (ix i)).map (eAd E))) (ty := .array .int) C.1 C.2.1 hcell ((C.2.2.2.2.2.2.2.2.2.1.2 4 _ rfl).1 (ln a) (fun j => va_rf ((fin a j).map (eAd E)))) rfl (fun q => by cases q) (by show ¬ (i < 0 ∨ (arrV _ _ _).slots.size ≤ _); rw [arrV_size]; exact hin2) (by show (arrV _ _ _).slots[_]? = _; rw [arrV_read _ _ hlt]) rfl rfl hd ?_
  rw [hq]
  exact (kk p e s m args below meth c H locs ls C hP hD hS hl)
theorem Qr_end {E : EV} {s t : State} {args : Array Value} {H : Heap} {locs : List Loc} {I : Mem} {v : Option Value} (ht : t.heap = H) (hP : va_P (eD E) vwCl (wl E I) H) (hD : va_D (eA E) (wl E I)) (hS : va_S (eA E) s.heap H locs) : Qr E (v, I) args s (.returned (v.map (tv E))) t := ⟨⟨rfl, by rw [ht]; exact hP, hD⟩, hS.F ht⟩
theorem G.iret {v : Int32} (hd : decode k.2.1 pc = .ok (.ireturn, 1)) (hr : k.2.2.2 = some .int) : G E d k pc L [.int v] I (some (.int v), I) := by
  intro p e s m args below meth c H locs ls C hP hD hS hl
  exact W.iret (v := v) C.1 C.2.1 (C.2.2.1.trans hr) (fun t ht _ => Qr_end (v := some (.int v)) ht hP hD hS) hS.2.2 hd C.2.2.2.2.2.1
/-- 0 or 1 -/
def zb (v : Int32) : Bool := decide (v = 0) || decide (v = 1)
theorem G.zret {v : Int32} (hd : decode k.2.1 pc = .ok (.ireturn, 1)) (hr : k.2.2.2 = some .boolean) (hz : zb v = true) : G E d k pc L [.int v] I (some (.int v), I) := by
  intro p e s m args below meth c H locs ls C hP hD hS hl
  have hn : narrow .boolean (.int v) = .int v := by
    rcases (show v = 0 ∨ v = 1 by simpa [zb] using hz) with rfl | rfl <;> rfl
  exact W.zret (v := v) C.1 C.2.1 (C.2.2.1.trans hr) hn (fun t ht _ => Qr_end (v := some (.int v)) ht hP hD hS) hS.2.2 hd C.2.2.2.2.2.1
theorem G.nret {v : Int32} {ty : FieldType} (hd : decode k.2.1 pc = .ok (.ireturn, 1)) (hr : k.2.2.2 = some ty) (hn : narrow ty (.int v) = .int v) : G E d k pc L [.int v] I (some (.int v), I) := by
  intro p e s m args below meth c H locs ls C hP hD hS hl
  exact W.zret (v := v) C.1 C.2.1 (C.2.2.1.trans hr) hn (fun t ht _ => Qr_end (v := some (.int v)) ht hP hD hS) hS.2.2 hd C.2.2.2.2.2.1
theorem G.lret {v : Int64} (hd : decode k.2.1 pc = .ok (.lreturn, 1)) (hr : k.2.2.2 = some .long) : G E d k pc L [.long v] I (some (.long v), I) := by
  intro p e s m args below meth c H locs ls C hP hD hS hl
  exact W.lret (v := v) C.1 C.2.1 (C.2.2.1.trans hr) (fun t ht _ => Qr_end (v := some (.long v)) ht hP hD hS) hS.2.2 hd C.2.2.2.2.2.1
theorem G.vret (hd : decode k.2.1 pc = .ok (.return_, 1)) (hr : k.2.2.2 = none) : G E d k pc L [] I (none, I) := by
  intro p e s m args below meth c H locs ls C hP hD hS hl
  exact W.vret C.1 C.2.1 (C.2.2.1.trans hr) (fun t ht _ => Qr_end (v := none) ht hP hD hS) hS.2.2 hd C.2.2.2.2.2.1
end GR
