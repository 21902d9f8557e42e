/-! the world that grows: n cells are there -/
abbrev KF : Type := Nat → Nat → Option Nat
/-- a state: cells and slots made so far, cells of the world, its final references, its ints -/
abbrev KS : Type := Nat × Nat × Nat × KF × Mem
def upF (F : KF) (c i k : Nat) : KF := fun a b => if a = c ∧ b = i then some k else F a b
def clF (F : KF) (c : Nat) : KF := fun a b => if a = c then none else F a b
def muFn (F : KF) (n N : Nat) : KF := fun a b => if a = n then (if b < N then some (n + 1 + b) else none) else F a b
def muI (I : Mem) (n N : Nat) : Mem := fun a => if n ≤ a ∧ a < n + 1 + N then fun _ => 0 else I a
def rfn (E : EV) (F : KF) (c : Nat) : Nat → Option Nat := fun j => if j < 18 then (F c j).map (eAd E) else none
def fvn (E : EV) (F : KF) (I : Mem) (c i k : Nat) : Value := if k = 0 then .int (I c i) else if k = 1 then va_rf ((F c i).map (eAd E)) else va_rf ((dec (I c i)).map (eAd E))
def fdn (E : EV) (F : KF) (I : Mem) (c : Nat) : List Value := (List.range (fk (lk c)).length).map (fun i => fvn E F I c i ((fk (lk c)).getD i 0))
def pn (E : EV) (F : KF) (I : Mem) (c : Nat) : va_E :=
  if lk c = 13 then .inl (eC E 0, ln c, .inl (I c))
  else if lk c = 14 then .inl (eC E 1, ln c, .inl (I c))
  else if lk c = 15 then .inl (eC E 2, ln c, .inr (.inr (.inr (.inr (rfn E F c)))))
  else if lk c = 16 then .inl (eC E 3, ln c, .inr (.inr (.inr (.inr (rfn E F c)))))
  else if lk c = 17 then .inl (eC E 4, ln c, .inr (.inr (.inr (.inr (rfn E F c)))))
  else .inr (lk c, fdn E F I c)
theorem pn_i (E : EV) (F : KF) (I : Mem) {c : Nat} (h : lk c = 13) : pn E F I c = .inl (eC E 0, ln c, .inl (I c)) := if_pos h
theorem pn_z (E : EV) (F : KF) (I : Mem) {c : Nat} (h : lk c = 14) : pn E F I c = .inl (eC E 1, ln c, .inl (I c)) := by
  unfold pn
  rw [if_neg (by rw [h]; decide), if_pos h]
theorem pn_h (E : EV) (F : KF) (I : Mem) {c : Nat} (h : lk c = 15) : pn E F I c = .inl (eC E 2, ln c, .inr (.inr (.inr (.inr (rfn E F c))))) := by
  unfold pn
  rw [if_neg (by rw [h]; decide), if_neg (by rw [h]; decide), if_pos h]
theorem pn_o (E : EV) (F : KF) (I : Mem) {c : Nat} (h : lk c = 16) : pn E F I c = .inl (eC E 3, ln c, .inr (.inr (.inr (.inr (rfn E F c))))) := by
  unfold pn
  rw [if_neg (by rw [h]; decide), if_neg (by rw [h]; decide), if_neg (by rw [h]; decide), if_pos h]
theorem pn_a (E : EV) (F : KF) (I : Mem) {c : Nat} (h : lk c = 17) : pn E F I c = .inl (eC E 4, ln c, .inr (.inr (.inr (.inr (rfn E F c))))) := by
  unfold pn
  rw [if_neg (by rw [h]; decide), if_neg (by rw [h]; decide), if_neg (by rw [h]; decide), if_neg (by rw [h]; decide), if_pos h]
theorem pn_r (E : EV) (F : KF) (I : Mem) {c : Nat} (h : lk c < 13) : pn E F I c = .inr (lk c, fdn E F I c) := by
  unfold pn
  rw [if_neg (by omega), if_neg (by omega), if_neg (by omega), if_neg (by omega), if_neg (by omega)]
theorem pn_eq (E : EV) {F F' : KF} {I I' : Mem} {c : Nat} (h1 : F' c = F c) (h2 : I' c = I c) : pn E F' I' c = pn E F I c := by
  unfold pn fdn fvn rfn
  simp only [h1, h2]
def wn (E : EV) (n : Nat) (F : KF) (I : Mem) : va_W := (List.range n).map (fun c => (eAd E c, pn E F I c))
theorem wn_get (E : EV) {n : Nat} (F : KF) (I : Mem) {c : Nat} (h : c < n) : (wn E n F I)[c]? = some (eAd E c, pn E F I c) := by
  unfold wn
  rw [List.getElem?_map, List.getElem?_range h]
  rfl
theorem wn_len (E : EV) (n : Nat) (F : KF) (I : Mem) : (wn E n F I).length = n := by
  unfold wn
  rw [List.length_map, List.length_range]
theorem wn_of {E : EV} {n : Nat} {F : KF} {I : Mem} {k : Nat} {q : Nat × va_E} (h : (wn E n F I)[k]? = some q) : k < n ∧ q = (eAd E k, pn E F I k) := by
  have hk : k < n := by
    have h2 := (List.getElem?_eq_some_iff.mp h).1
    rwa [wn_len] at h2
  exact ⟨hk, Option.some.inj (h.symm.trans (wn_get E F I hk))⟩
theorem wn_P {E : EV} {n : Nat} {F : KF} {I : Mem} {H : Heap} (h : ∀ c, c < n → va_at (eD E) vwCl (eAd E c, pn E F I c) H) : va_P (eD E) vwCl (wn E n F I) H := fun k q hk => by
  obtain ⟨h1, rfl⟩ := wn_of hk
  exact h k h1
theorem wn_set (E : EV) {n : Nat} {F F' : KF} {I I' : Mem} {c : Nat} (h : c < n) (hp : ∀ a, a ≠ c → F' a = F a ∧ I' a = I a) : (wn E n F I).set c (eAd E c, pn E F' I' c) = wn E n F' I' := by
  apply List.ext_getElem?
  intro k
  by_cases hk : k < n
  · rw [wn_get E F' I' hk]
    by_cases e : c = k
    · subst e
      rw [List.getElem?_set_self (by rw [wn_len]; exact h)]
    · rw [List.getElem?_set_ne e, wn_get E F I hk, pn_eq E (hp k (fun q => e q.symm)).1 (hp k (fun q => e q.symm)).2]
  · rw [List.getElem?_eq_none (by rw [List.length_set, wn_len]; omega), List.getElem?_eq_none (by rw [wn_len]; omega)]
theorem fdn_get (E : EV) (F : KF) (I : Mem) {c i k : Nat} (h : (fk (lk c))[i]? = some k) : (fdn E F I c)[i]? = some (fvn E F I c i k) := by
  have hl : i < (fk (lk c)).length := (List.getElem?_eq_some_iff.mp h).1
  unfold fdn
  rw [List.getElem?_map, List.getElem?_range hl]
  show some (fvn E F I c i ((fk (lk c)).getD i 0)) = _
  rw [List.getD_eq_getElem?_getD, h]
  rfl
theorem fdn_len (E : EV) (F : KF) (I : Mem) (c : Nat) : (fdn E F I c).length = (fk (lk c)).length := by
  unfold fdn
  rw [List.length_map, List.length_range]
theorem fdn_set (E : EV) {F F' : KF} {I I' : Mem} {c i k : Nat} (h : (fk (lk c))[i]? = some k) (hn : ∀ j, j ≠ i → F' c j = F c j ∧ I' c j = I c j) : (fdn E F I c).set i (fvn E F' I' c i k) = fdn E F' I' c := by
  apply List.ext_getElem?
  intro j
  have hl : i < (fk (lk c)).length := (List.getElem?_eq_some_iff.mp h).1
  by_cases hj : j < (fk (lk c)).length
  · have hj2 : (fk (lk c))[j]? = some ((fk (lk c))[j]) := List.getElem?_eq_getElem hj
    rw [fdn_get E F' I' hj2]
    by_cases e : i = j
    · subst e
      rw [List.getElem?_set_self (by rw [fdn_len]; exact hl)]
      rw [h] at hj2
      rw [Option.some.inj hj2]
    · rw [List.getElem?_set_ne e, fdn_get E F I hj2]
      have e2 := hn j (fun q => e q.symm)
      unfold fvn
      rw [e2.1, e2.2]
  · rw [List.getElem?_eq_none (by rw [List.length_set, fdn_len]; omega), List.getElem?_eq_none (by rw [fdn_len]; omega)]
/-- the addresses go up from the first -/
def AE (E : EV) : Prop := ∀ c, c < 100 → eAd E c = E.2.2.2.2.2 + c
theorem wn_D {E : EV} (hE : AE E) {n : Nat} (hn : n ≤ 85) (F : KF) (I : Mem) : va_D (eA E) (wn E n F I) := by
  refine ⟨fun i j p q hi hj e => ?_, fun k q hk => ?_⟩
  · obtain ⟨h1, rfl⟩ := wn_of hi
    obtain ⟨h2, rfl⟩ := wn_of hj
    have e2 : eAd E i = eAd E j := e
    rw [hE i (by omega), hE j (by omega)] at e2
    omega
  · obtain ⟨h1, rfl⟩ := wn_of hk
    show E.2.2.2.2.2 ≤ eAd E k
    rw [hE k (by omega)]
    omega
/-- what else holds where cells are made -/
def CQ (E : EV) (s : State) : Prop := AE E ∧ AAI s ∧ va_AO "AloneRooms$House" s ∧ va_AO "AloneRooms$Once" s ∧ ∀ C ∈ ["AloneRooms$Each", "AloneRooms$Halves", "AloneRooms$Sleep", "AloneRooms$Comers"], va_Nw (.castable C "AloneRooms$Once") s
theorem CQ.warm {E : EV} {s U : State} (hW : s.WarmedH U.vm) (h : CQ E s) : CQ E U := ⟨h.1, h.2.1.moved hW.alike, h.2.2.1.moved hW.alike, h.2.2.2.1.moved hW.alike, fun C hC => (h.2.2.2.2 C hC).warmC hW⟩
def CK (E : EV) (k : MD) (s : State) (meth : Method) : Prop := CQ E s ∧ (k.1.name = "<init>" → meth.name = "<init>")
/-- AT A PLACE where cells are made -/
def GK (E : EV) (R : Room) (QQ : List Frame → Array Value → State → State → Prop) (k : MD) (pc : Nat) (L : List (Option Value)) (st : List Value) (w : KS) : Prop :=
  ∀ (p : Program) (e : Env) (s : State) (m : MethodId) (args : Array Value) (below : List Frame) (meth : Method) (c : Code) (H : Heap) (locs : List Loc) (ls : Array Slot),
    Cx E k p s m meth c → (CK E k s meth ∧ s.heap.size + w.1 = E.2.2.2.2.2 + w.2.2.1 ∧ w.2.2.1 ≤ 85) → va_P (eD E) vwCl (wn E w.2.2.1 w.2.2.2.1 w.2.2.2.2) H → va_S (eA E) s.heap H locs → lv_has ls k.2.2.1 (asc E 0 L) →
    W p E.1 e R s m args below meth c H locs w.1 w.2.1 (QQ below args s) (F0 m pc ls (st.map (tv E)))
theorem W.sized {p : Program} {l : Launch} {e : Env} {R : Room} {s : State} {m : MethodId} {args : Array Value} {below : List Frame} {meth : Method} {c : Code} {H : Heap} {locs : List Loc} {cells slots : Nat} {Q : State → Prop} {g : JFrame} (h : H.size ≤ s.heap.size + cells → W p l e R s m args below meth c H locs cells slots Q g) : W p l e R s m args below meth c H locs cells slots Q g := fun T hT X => h (by rw [← hT]; exact X.heapSize) T hT X
theorem wn_size {E : EV} {s : State} {H : Heap} {locs : List Loc} {ce n : Nat} {F : KF} {I : Mem} (hC : CF E s) (hE : AE E) (hz : s.heap.size + ce = E.2.2.2.2.2 + n) (hn : n ≤ 85) (hP : va_P (eD E) vwCl (wn E n F I) H) (hS : va_S (eA E) s.heap H locs) (h : H.size ≤ s.heap.size + ce) : H.size = E.2.2.2.2.2 + n := by
  have h1 := hS.1
  have h2 := hC.2.2.1
  cases n with
  | zero => omega
  | succ n =>
    have h3 := (hP n _ (wn_get E F I (Nat.lt_succ_self n))).lt
    have h4 : eAd E n < H.size := h3
    rw [hE n (by omega)] at h4
    omega
theorem tv_S {A : Nat → Prop} {H0 H H1 : Heap} {locs : List Loc} (hS : va_S A H0 H locs) (hz : H.size ≤ H1.size) (ho : ∀ q, q < H.size → H1[q]? = H[q]?) : va_S A H0 H1 locs := ⟨Nat.le_trans hS.1 hz, fun q h1 h2 => (ho q (Nat.lt_of_lt_of_le h1 hS.1)).trans (hS.2.1 q h1 h2), hS.2.2⟩
section GKR
variable {E : EV} {R : Room} {QQ : List Frame → Array Value → State → State → Prop} {k : MD} {pc : Nat} {L L' : List (Option Value)} {st : List Value} {w : KS}
theorem GK.forget (is : List Nat) (hL : lforget L is = L') (h : GK E R QQ k pc L' st w) : GK E R QQ k pc L st w := by
  intro p e s m args below meth c H locs ls C hc hP hS hl
  refine h p e s m args below meth c H locs ls C hc hP hS (lv_has_mono hl fun q hq => ?_)
  obtain ⟨j, v, h1, h2⟩ := (asc_mem E L' 0).mp hq
  subst hL
  exact (asc_mem E L 0).mpr ⟨j, v, h1, lforget_get is L j v h2⟩
theorem GK.iconst {n : Int} {v : Int32} (hd : decode k.2.1 pc = .ok (.iconst n, 1)) (hv : Int32.ofInt n = v) (kk : GK E R QQ k (pc + 1) L (.int v :: st) w) : GK E R QQ k pc L st w := by
  intro p e s m args below meth c H locs ls C hc hP hS hl
  exact lv_iconst C.1 C.2.1 hd hv (kk p e s m args below meth c H locs ls C hc hP hS hl)
theorem GK.bipush {n : Int} {v : Int32} (hd : decode k.2.1 pc = .ok (.bipush n, 2)) (hv : (Int8.ofInt n).toInt32 = v) (kk : GK E R QQ k (pc + 2) L (.int v :: st) w) : GK E R QQ k pc L st w := by
  intro p e s m args below meth c H locs ls C hc hP hS hl
  exact lv_bipush C.1 C.2.1 hd hv (kk p e s m args below meth c H locs ls C hc hP hS hl)
theorem GK.sipush {n : Int} {v : Int32} (hd : decode k.2.1 pc = .ok (.sipush n, 3)) (hv : (Int16.ofInt n).toInt32 = v) (kk : GK E R QQ k (pc + 3) L (.int v :: st) w) : GK E R QQ k pc L st w := by
  intro p e s m args below meth c H locs ls C hc hP hS hl
  exact lv_sipush C.1 C.2.1 hd hv (kk p e s m args below meth c H locs ls C hc hP hS hl)
theorem GK.lconst {n : Fin 2} {v : Int64} (hd : decode k.2.1 pc = .ok (.lconst n, 1)) (hv : Int64.ofNat n = v) (kk : GK E R QQ k (pc + 1) L (.long v :: st) w) : GK E R QQ k pc L st w := by
  intro p e s m args below meth c H locs ls C hc hP hS hl
  exact lv_lconst C.1 C.2.1 hd hv (kk p e s m args below meth c H locs ls C hc hP hS hl)
theorem GK.ldc {idx : Nat} {v : Int32} (hd : decode k.2.1 pc = .ok (.ldc idx, 2)) (hw : Cond.constant k.1.cls idx v ∈ lw_g) (kk : GK E R QQ k (pc + 2) L (.int v :: st) w) : GK E R QQ k pc L st w := by
  intro p e s m args below meth c H locs ls C hc hP hS hl
  exact lv_ldc C.1 C.2.1 C.2.2.2.2.1 (C.2.2.2.2.2.2.hts args _ hw) hd (kk p e s m args below meth c H locs ls C hc hP hS hl)
theorem GK.ldcw {idx : Nat} {v : Int32} (hd : decode k.2.1 pc = .ok (.ldc_w idx, 3)) (hw : Cond.constant k.1.cls idx v ∈ lw_g) (kk : GK E R QQ k (pc + 3) L (.int v :: st) w) : GK E R QQ k pc L st w := by
  intro p e s m args below meth c H locs ls C hc hP hS hl
  exact lv_ldcw C.1 C.2.1 C.2.2.2.2.1 (C.2.2.2.2.2.2.hts args _ hw) hd (kk p e s m args below meth c H locs ls C hc hP hS hl)
theorem GK.ldc2 {idx : Nat} {v : Int64} (hd : decode k.2.1 pc = .ok (.ldc2_w idx, 3)) (hw : Cond.constantLong k.1.cls idx v ∈ lw_g) (kk : GK E R QQ k (pc + 3) L (.long v :: st) w) : GK E R QQ k pc L st w := by
  intro p e s m args below meth c H locs ls C hc hP hS hl
  exact lv_ldc2 C.1 C.2.1 C.2.2.2.2.1 (C.2.2.2.2.2.2.hts args _ hw) hd (kk p e s m args below meth c H locs ls C hc hP hS hl)
theorem GK.iload_n {j : Fin 4} {i : Nat} {x : Int32} (hd : decode k.2.1 pc = .ok (.iload_n j, 1)) (hj : (j : Nat) = i) (hi : L[i]? = some (some (.int x))) (kk : GK E R QQ k (pc + 1) L (.int x :: st) w) : GK E R QQ k pc L st w := by
  intro p e s m args below meth c H locs ls C hc hP hS hl
  exact lv_iload_n C.1 C.2.1 hd hj (asc_at hl hi) (kk p e s m args below meth c H locs ls C hc hP hS hl)
theorem GK.iload {i : Nat} {x : Int32} (hd : decode k.2.1 pc = .ok (.iload i, 2)) (hi : L[i]? = some (some (.int x))) (kk : GK E R QQ k (pc + 2) L (.int x :: st) w) : GK E R QQ k pc L st w := by
  intro p e s m args below meth c H locs ls C hc hP hS hl
  exact lv_iload C.1 C.2.1 hd (asc_at hl hi) (kk p e s m args below meth c H locs ls C hc hP hS hl)
theorem GK.lload_n {j : Fin 4} {i : Nat} {x : Int64} (hd : decode k.2.1 pc = .ok (.lload_n j, 1)) (hj : (j : Nat) = i) (hi : L[i]? = some (some (.long x))) (kk : GK E R QQ k (pc + 1) L (.long x :: st) w) : GK E R QQ k pc L st w := by
  intro p e s m args below meth c H locs ls C hc hP hS hl
  exact lv_lload_n C.1 C.2.1 hd hj (asc_at hl hi) (kk p e s m args below meth c H locs ls C hc hP hS hl)
theorem GK.lload {i : Nat} {x : Int64} (hd : decode k.2.1 pc = .ok (.lload i, 2)) (hi : L[i]? = some (some (.long x))) (kk : GK E R QQ k (pc + 2) L (.long x :: st) w) : GK E R QQ k pc L st w := by
  intro p e s m args below meth c H locs ls C hc hP hS hl
  exact lv_lload C.1 C.2.1 hd (asc_at hl hi) (kk p e s m args below meth c H locs ls C hc hP hS hl)
theorem GK.aload_n {j : Fin 4} {i a : Nat} (hd : decode k.2.1 pc = .ok (.aload_n j, 1)) (hj : (j : Nat) = i) (hi : L[i]? = some (some (.ref a))) (kk : GK E R QQ k (pc + 1) L (.ref a :: st) w) : GK E R QQ k pc L st w := by
  intro p e s m args below meth c H locs ls C hc hP hS hl
  exact lv_aload_n C.1 C.2.1 hd hj (asc_at hl hi) (kk p e s m args below meth c H locs ls C hc hP hS hl)
theorem GK.aload {i a : Nat} (hd : decode k.2.1 pc = .ok (.aload i, 2)) (hi : L[i]? = some (some (.ref a))) (kk : GK E R QQ k (pc + 2) L (.ref a :: st) w) : GK E R QQ k pc L st w := by
  intro p e s m args below meth c H locs ls C hc hP hS hl
  exact lv_aload C.1 C.2.1 hd (asc_at hl hi) (kk p e s m args below meth c H locs ls C hc hP hS hl)
theorem GK.istore_n {j : Fin 4} {i : Nat} {x : Int32} (hd : decode k.2.1 pc = .ok (.istore_n j, 1)) (hj : (j : Nat) = i) (hn : i < k.2.2.1) (hi : i < L.length) (hok : okst L i = true) (hL : L.set i (some (.int x)) = L') (kk : GK E R QQ k (pc + 1) L' st w) : GK E R QQ k pc L (.int x :: st) w := by
  intro p e s m args below meth c H locs ls C hc hP hS hl
  subst hL
  exact lv_istore_n C.1 C.2.1 hd hj hl hn rfl (fun ls' h' => kk p e s m args below meth c H locs ls' C hc hP hS (asc_store (E := E) (v := .int x) hi hok h'))
theorem GK.astore_n {j : Fin 4} {i : Nat} {x : Nat} (hd : decode k.2.1 pc = .ok (.astore_n j, 1)) (hj : (j : Nat) = i) (hn : i < k.2.2.1) (hi : i < L.length) (hok : okst L i = true) (hL : L.set i (some (.ref x)) = L') (kk : GK E R QQ k (pc + 1) L' st w) : GK E R QQ k pc L (.ref x :: st) w := by
  intro p e s m args below meth c H locs ls C hc hP hS hl
  subst hL
  exact lv_astore_n C.1 C.2.1 hd hj hl hn rfl (fun ls' h' => kk p e s m args below meth c H locs ls' C hc hP hS (asc_store (E := E) (v := .ref x) hi hok h'))
theorem GK.lstore_n {j : Fin 4} {i : Nat} {x : Int64} (hd : decode k.2.1 pc = .ok (.lstore_n j, 1)) (hj : (j : Nat) = i) (hn : i + 1 < k.2.2.1) (hi : i + 1 < L.length) (hok : okst L i = true) (hL : (L.set i (some (.long x))).set (i + 1) none = L') (kk : GK E R QQ k (pc + 1) L' st w) : GK E R QQ k pc L (.long x :: st) w := by
  intro p e s m args below meth c H locs ls C hc hP hS hl
  subst hL
  exact lv_lstore_n C.1 C.2.1 hd hj hl hn rfl (fun ls' h' => kk p e s m args below meth c H locs ls' C hc hP hS (asc_store2 (E := E) (v := .long x) hi hok h'))
theorem GK.istore {i : Nat} {x : Int32} (hd : decode k.2.1 pc = .ok (.istore i, 2)) (hn : i < k.2.2.1) (hi : i < L.length) (hok : okst L i = true) (hL : L.set i (some (.int x)) = L') (kk : GK E R QQ k (pc + 2) L' st w) : GK E R QQ k pc L (.int x :: st) w := by
  intro p e s m args below meth c H locs ls C hc hP hS hl
  subst hL
  exact lv_istore C.1 C.2.1 hd hl hn rfl (fun ls' h' => kk p e s m args below meth c H locs ls' C hc hP hS (asc_store (E := E) (v := .int x) hi hok h'))
theorem GK.astore {i : Nat} {x : Nat} (hd : decode k.2.1 pc = .ok (.astore i, 2)) (hn : i < k.2.2.1) (hi : i < L.length) (hok : okst L i = true) (hL : L.set i (some (.ref x)) = L') (kk : GK E R QQ k (pc + 2) L' st w) : GK E R QQ k pc L (.ref x :: st) w := by
  intro p e s m args below meth c H locs ls C hc hP hS hl
  subst hL
  exact lv_astore C.1 C.2.1 hd hl hn rfl (fun ls' h' => kk p e s m args below meth c H locs ls' C hc hP hS (asc_store (E := E) (v := .ref x) hi hok h'))
theorem GK.lstore {i : Nat} {x : Int64} (hd : decode k.2.1 pc = .ok (.lstore i, 2)) (hn : i + 1 < k.2.2.1) (hi : i + 1 < L.length) (hok : okst L i = true) (hL : (L.set i (some (.long x))).set (i + 1) none = L') (kk : GK E R QQ k (pc + 2) L' st w) : GK E R QQ k pc L (.long x :: st) w := by
  intro p e s m args below meth c H locs ls C hc hP hS hl
  subst hL
  exact lv_lstore C.1 C.2.1 hd hl hn rfl (fun ls' h' => kk p e s m args below meth c H locs ls' C hc hP hS (asc_store2 (E := E) (v := .long x) hi hok h'))
theorem GK.iinc {i : Nat} {n : Int} {x v : Int32} (hd : decode k.2.1 pc = .ok (.iinc i n, 3)) (hx : L[i]? = some (some (.int x))) (hv : x + Int32.ofInt n = v) (hn : i < k.2.2.1) (hok : okst L i = true) (hL : L.set i (some (.int v)) = L') (kk : GK E R QQ k (pc + 3) L' st w) : GK E R QQ k pc L st w := by
  intro p e s m args below meth c H locs ls C hc hP hS hl
  subst hL
  obtain ⟨q, hq⟩ := List.getElem?_of_mem ((asc_mem E L 0).mpr ⟨i, .int x, by rw [Nat.zero_add], hx⟩)
  exact lv_iinc C.1 C.2.1 hd hl hq hv hn rfl (fun ls' h' => kk p e s m args below meth c H locs ls' C hc hP hS (asc_store (E := E) (v := .int v) ((List.getElem?_eq_some_iff.mp hx).1) hok h'))
theorem GK.iadd {x : Int32} {y : Int32} (hd : decode k.2.1 pc = .ok (.iadd, 1)) (kk : GK E R QQ k (pc + 1) L (.int (x + y) :: st) w) : GK E R QQ k pc L (.int y :: .int x :: st) w := by
  intro p e s m args below meth c H locs ls C hc hP hS hl
  exact lv_iadd C.1 C.2.1 hd  (kk p e s m args below meth c H locs ls C hc hP hS hl)
theorem GK.isub {x : Int32} {y : Int32} (hd : decode k.2.1 pc = .ok (.isub, 1)) (kk : GK E R QQ k (pc + 1) L (.int (x - y) :: st) w) : GK E R QQ k pc L (.int y :: .int x :: st) w := by
  intro p e s m args below meth c H locs ls C hc hP hS hl
  exact lv_isub C.1 C.2.1 hd  (kk p e s m args below meth c H locs ls C hc hP hS hl)
theorem GK.imul {x : Int32} {y : Int32} (hd : decode k.2.1 pc = .ok (.imul, 1)) (kk : GK E R QQ k (pc + 1) L (.int (x * y) :: st) w) : GK E R QQ k pc L (.int y :: .int x :: st) w := by
  intro p e s m args below meth c H locs ls C hc hP hS hl
  exact lv_imul C.1 C.2.1 hd  (kk p e s m args below meth c H locs ls C hc hP hS hl)
theorem GK.iand {x : Int32} {y : Int32} (hd : decode k.2.1 pc = .ok (.iand, 1)) (kk : GK E R QQ k (pc + 1) L (.int (x &&& y) :: st) w) : GK E R QQ k pc L (.int y :: .int x :: st) w := by
  intro p e s m args below meth c H locs ls C hc hP hS hl
  exact lv_iand C.1 C.2.1 hd  (kk p e s m args below meth c H locs ls C hc hP hS hl)
theorem GK.ior {x : Int32} {y : Int32} (hd : decode k.2.1 pc = .ok (.ior, 1)) (kk : GK E R QQ k (pc + 1) L (.int (x ||| y) :: st) w) : GK E R QQ k pc L (.int y :: .int x :: st) w := by
  intro p e s m args below meth c H locs ls C hc hP hS hl
  exact lv_ior C.1 C.2.1 hd  (kk p e s m args below meth c H locs ls C hc hP hS hl)
theorem GK.ixor {x : Int32} {y : Int32} (hd : decode k.2.1 pc = .ok (.ixor, 1)) (kk : GK E R QQ k (pc + 1) L (.int (x ^^^ y) :: st) w) : GK E R QQ k pc L (.int y :: .int x :: st) w := by
  intro p e s m args below meth c H locs ls C hc hP hS hl
  exact lv_ixor C.1 C.2.1 hd  (kk p e s m args below meth c H locs ls C hc hP hS hl)
theorem GK.ishl {x : Int32} {y : Int32} (hd : decode k.2.1 pc = .ok (.ishl, 1)) (kk : GK E R QQ k (pc + 1) L (.int (x <<< (y &&& 31)) :: st) w) : GK E R QQ k pc L (.int y :: .int x :: st) w := by
  intro p e s m args below meth c H locs ls C hc hP hS hl
  exact lv_ishl C.1 C.2.1 hd  (kk p e s m args below meth c H locs ls C hc hP hS hl)
theorem GK.ishr {x : Int32} {y : Int32} (hd : decode k.2.1 pc = .ok (.ishr, 1)) (kk : GK E R QQ k (pc + 1) L (.int (x >>> (y &&& 31)) :: st) w) : GK E R QQ k pc L (.int y :: .int x :: st) w := by
  intro p e s m args below meth c H locs ls C hc hP hS hl
  exact lv_ishr C.1 C.2.1 hd  (kk p e s m args below meth c H locs ls C hc hP hS hl)
theorem GK.iushr {x : Int32} {y : Int32} (hd : decode k.2.1 pc = .ok (.iushr, 1)) (kk : GK E R QQ k (pc + 1) L (.int ((x.toUInt32 >>> (y.toUInt32 &&& Int32.toUInt32 31)).toInt32) :: st) w) : GK E R QQ k pc L (.int y :: .int x :: st) w := by
  intro p e s m args below meth c H locs ls C hc hP hS hl
  exact lv_iushr C.1 C.2.1 hd rfl (kk p e s m args below meth c H locs ls C hc hP hS hl)
theorem GK.ladd {x : Int64} {y : Int64} (hd : decode k.2.1 pc = .ok (.ladd, 1)) (kk : GK E R QQ k (pc + 1) L (.long (x + y) :: st) w) : GK E R QQ k pc L (.long y :: .long x :: st) w := by
  intro p e s m args below meth c H locs ls C hc hP hS hl
  exact lv_ladd C.1 C.2.1 hd  (kk p e s m args below meth c H locs ls C hc hP hS hl)
theorem GK.lsub {x : Int64} {y : Int64} (hd : decode k.2.1 pc = .ok (.lsub, 1)) (kk : GK E R QQ k (pc + 1) L (.long (x - y) :: st) w) : GK E R QQ k pc L (.long y :: .long x :: st) w := by
  intro p e s m args below meth c H locs ls C hc hP hS hl
  exact lv_lsub C.1 C.2.1 hd  (kk p e s m args below meth c H locs ls C hc hP hS hl)
theorem GK.lmul {x : Int64} {y : Int64} (hd : decode k.2.1 pc = .ok (.lmul, 1)) (kk : GK E R QQ k (pc + 1) L (.long (x * y) :: st) w) : GK E R QQ k pc L (.long y :: .long x :: st) w := by
  intro p e s m args below meth c H locs ls C hc hP hS hl
  exact lv_lmul C.1 C.2.1 hd  (kk p e s m args below meth c H locs ls C hc hP hS hl)
theorem GK.land {x : Int64} {y : Int64} (hd : decode k.2.1 pc = .ok (.land, 1)) (kk : GK E R QQ k (pc + 1) L (.long (x &&& y) :: st) w) : GK E R QQ k pc L (.long y :: .long x :: st) w := by
  intro p e s m args below meth c H locs ls C hc hP hS hl
  exact lv_land C.1 C.2.1 hd  (kk p e s m args below meth c H locs ls C hc hP hS hl)
theorem GK.lor {x : Int64} {y : Int64} (hd : decode k.2.1 pc = .ok (.lor, 1)) (kk : GK E R QQ k (pc + 1) L (.long (x ||| y) :: st) w) : GK E R QQ k pc L (.long y :: .long x :: st) w := by
  intro p e s m args below meth c H locs ls C hc hP hS hl
  exact lv_lor C.1 C.2.1 hd  (kk p e s m args below meth c H locs ls C hc hP hS hl)
theorem GK.idiv {x : Int32} {y : Int32} (hd : decode k.2.1 pc = .ok (.idiv, 1)) (hne : ¬ y = 0) (kk : GK E R QQ k (pc + 1) L (.int (x / y) :: st) w) : GK E R QQ k pc L (.int y :: .int x :: st) w := by
  intro p e s m args below meth c H locs ls C hc hP hS hl
  exact lv_idiv C.1 C.2.1 hd hne (kk p e s m args below meth c H locs ls C hc hP hS hl)
theorem GK.irem {x : Int32} {y : Int32} (hd : decode k.2.1 pc = .ok (.irem, 1)) (hne : ¬ y = 0) (kk : GK E R QQ k (pc + 1) L (.int (x - x / y * y) :: st) w) : GK E R QQ k pc L (.int y :: .int x :: st) w := by
  intro p e s m args below meth c H locs ls C hc hP hS hl
  exact lv_irem C.1 C.2.1 hd hne (kk p e s m args below meth c H locs ls C hc hP hS hl)
theorem GK.ldiv {x : Int64} {y : Int64} (hd : decode k.2.1 pc = .ok (.ldiv, 1)) (hne : ¬ y = 0) (kk : GK E R QQ k (pc + 1) L (.long (x / y) :: st) w) : GK E R QQ k pc L (.long y :: .long x :: st) w := by
  intro p e s m args below meth c H locs ls C hc hP hS hl
  exact lv_ldiv C.1 C.2.1 hd hne (kk p e s m args below meth c H locs ls C hc hP hS hl)
theorem GK.lrem {x : Int64} {y : Int64} (hd : decode k.2.1 pc = .ok (.lrem, 1)) (hne : ¬ y = 0) (kk : GK E R QQ k (pc + 1) L (.long (x - x / y * y) :: st) w) : GK E R QQ k pc L (.long y :: .long x :: st) w := by
  intro p e s m args below meth c H locs ls C hc hP hS hl
  exact lv_lrem C.1 C.2.1 hd hne (kk p e s m args below meth c H locs ls C hc hP hS hl)
theorem GK.lshl {x : Int64} {y : Int32} (hd : decode k.2.1 pc = .ok (.lshl, 1)) (kk : GK E R QQ k (pc + 1) L (.long (x <<< (y.toInt64 &&& 63)) :: st) w) : GK E R QQ k pc L (.int y :: .long x :: st) w := by
  intro p e s m args below meth c H locs ls C hc hP hS hl
  exact lv_lshl C.1 C.2.1 hd rfl (kk p e s m args below meth c H locs ls C hc hP hS hl)
theorem GK.lshr {x : Int64} {y : Int32} (hd : decode k.2.1 pc = .ok (.lshr, 1)) (kk : GK E R QQ k (pc + 1) L (.long (x >>> (y.toInt64 &&& 63)) :: st) w) : GK E R QQ k pc L (.int y :: .long x :: st) w := by
  intro p e s m args below meth c H locs ls C hc hP hS hl
  exact lv_lshr C.1 C.2.1 hd rfl (kk p e s m args below meth c H locs ls C hc hP hS hl)
theorem GK.lcmp {x : Int64} {y : Int64} (hd : decode k.2.1 pc = .ok (.lcmp, 1)) (kk : GK E R QQ k (pc + 1) L (.int (lg_cmp x y) :: st) w) : GK E R QQ k pc L (.long y :: .long x :: st) w := by
  intro p e s m args below meth c H locs ls C hc hP hS hl
  exact W.lcmp C.1 C.2.1 hd  (kk p e s m args below meth c H locs ls C hc hP hS hl)
theorem GK.i2l {x : Int32} (hd : decode k.2.1 pc = .ok (.i2l, 1)) (kk : GK E R QQ k (pc + 1) L (.long (x.toInt64) :: st) w) : GK E R QQ k pc L (.int x :: st) w := by
  intro p e s m args below meth c H locs ls C hc hP hS hl
  exact lv_i2l C.1 C.2.1 hd rfl (kk p e s m args below meth c H locs ls C hc hP hS hl)
theorem GK.l2i {x : Int64} (hd : decode k.2.1 pc = .ok (.l2i, 1)) (kk : GK E R QQ k (pc + 1) L (.int (x.toInt32) :: st) w) : GK E R QQ k pc L (.long x :: st) w := by
  intro p e s m args below meth c H locs ls C hc hP hS hl
  exact lv_l2i C.1 C.2.1 hd rfl (kk p e s m args below meth c H locs ls C hc hP hS hl)
theorem GK.i2c {x : Int32} (hd : decode k.2.1 pc = .ok (.i2c, 1)) (kk : GK E R QQ k (pc + 1) L (.int ((x.toUInt32 % 65536).toInt32) :: st) w) : GK E R QQ k pc L (.int x :: st) w := by
  intro p e s m args below meth c H locs ls C hc hP hS hl
  exact lv_i2c C.1 C.2.1 hd rfl (kk p e s m args below meth c H locs ls C hc hP hS hl)
theorem GK.dup {v : Value} (hd : decode k.2.1 pc = .ok (.dup, 1)) (hv : v.category = 1) (kk : GK E R QQ k (pc + 1) L (v :: v :: st) w) : GK E R QQ k pc L (v :: st) w := by
  intro p e s m args below meth c H locs ls C hc hP hS hl
  exact lv_dup C.1 C.2.1 hd (by rw [tv_cat]; exact hv) (kk p e s m args below meth c H locs ls C hc hP hS hl)
theorem GK.pop {v : Value} (hd : decode k.2.1 pc = .ok (.pop, 1)) (hv : v.category = 1) (kk : GK E R QQ k (pc + 1) L st w) : GK E R QQ k pc L (v :: st) w := by
  intro p e s m args below meth c H locs ls C hc hP hS hl
  exact lv_pop C.1 C.2.1 hd (by rw [tv_cat]; exact hv) (kk p e s m args below meth c H locs ls C hc hP hS hl)
theorem GK.goto {off : Int} {tgt : Nat} (hd : decode k.2.1 pc = .ok (.goto off, 3)) (ht : (pc : Int) + off = (tgt : Int)) (kk : GK E R QQ k tgt L st w) : GK E R QQ k pc L st w := by
  intro p e s m args below meth c H locs ls C hc hP hS hl
  exact lv_goto C.1 C.2.1 hd ht (kk p e s m args below meth c H locs ls C hc hP hS hl)
theorem GK.if_eq {x : Int32} {off : Int} {tgt : Nat} (hd : decode k.2.1 pc = .ok (.ifCond .eq off, 3)) (ht : (pc : Int) + off = (tgt : Int)) (kt : x = 0 → GK E R QQ k tgt L st w) (kf : ¬ x = 0 → GK E R QQ k (pc + 3) L st w) : GK E R QQ k pc L (.int x :: st) w := by
  intro p e s m args below meth c H locs ls C hc hP hS hl
  exact lv_if_eq C.1 C.2.1 hd ht (fun q => kt q p e s m args below meth c H locs ls C hc hP hS hl) (fun q => kf q p e s m args below meth c H locs ls C hc hP hS hl)
theorem GK.icmp_eq {x y : Int32} {off : Int} {tgt : Nat} (hd : decode k.2.1 pc = .ok (.if_icmp .eq off, 3)) (ht : (pc : Int) + off = (tgt : Int)) (kt : x = y → GK E R QQ k tgt L st w) (kf : ¬ x = y → GK E R QQ k (pc + 3) L st w) : GK E R QQ k pc L (.int y :: .int x :: st) w := by
  intro p e s m args below meth c H locs ls C hc hP hS hl
  exact lv_icmp_eq C.1 C.2.1 hd ht (fun q => kt q p e s m args below meth c H locs ls C hc hP hS hl) (fun q => kf q p e s m args below meth c H locs ls C hc hP hS hl)
theorem GK.if_ne {x : Int32} {off : Int} {tgt : Nat} (hd : decode k.2.1 pc = .ok (.ifCond .ne off, 3)) (ht : (pc : Int) + off = (tgt : Int)) (kt : ¬ x = 0 → GK E R QQ k tgt L st w) (kf : x = 0 → GK E R QQ k (pc + 3) L st w) : GK E R QQ k pc L (.int x :: st) w := by
  intro p e s m args below meth c H locs ls C hc hP hS hl
  exact lv_if_ne C.1 C.2.1 hd ht (fun q => kt q p e s m args below meth c H locs ls C hc hP hS hl) (fun q => kf q p e s m args below meth c H locs ls C hc hP hS hl)
theorem GK.icmp_ne {x y : Int32} {off : Int} {tgt : Nat} (hd : decode k.2.1 pc = .ok (.if_icmp .ne off, 3)) (ht : (pc : Int) + off = (tgt : Int)) (kt : ¬ x = y → GK E R QQ k tgt L st w) (kf : x = y → GK E R QQ k (pc + 3) L st w) : GK E R QQ k pc L (.int y :: .int x :: st) w := by
  intro p e s m args below meth c H locs ls C hc hP hS hl
  exact lv_icmp_ne C.1 C.2.1 hd ht (fun q => kt q p e s m args below meth c H locs ls C hc hP hS hl) (fun q => kf q p e s m args below meth c H locs ls C hc hP hS hl)
theorem GK.if_lt {x : Int32} {off : Int} {tgt : Nat} (hd : decode k.2.1 pc = .ok (.ifCond .lt off, 3)) (ht : (pc : Int) + off = (tgt : Int)) (kt : x < 0 → GK E R QQ k tgt L st w) (kf : ¬ x < 0 → GK E R QQ k (pc + 3) L st w) : GK E R QQ k pc L (.int x :: st) w := by
  intro p e s m args below meth c H locs ls C hc hP hS hl
  exact lv_if_lt C.1 C.2.1 hd ht (fun q => kt q p e s m args below meth c H locs ls C hc hP hS hl) (fun q => kf q p e s m args below meth c H locs ls C hc hP hS hl)
theorem GK.icmp_lt {x y : Int32} {off : Int} {tgt : Nat} (hd : decode k.2.1 pc = .ok (.if_icmp .lt off, 3)) (ht : (pc : Int) + off = (tgt : Int)) (kt : x < y → GK E R QQ k tgt L st w) (kf : ¬ x < y → GK E R QQ k (pc + 3) L st w) : GK E R QQ k pc L (.int y :: .int x :: st) w := by
  intro p e s m args below meth c H locs ls C hc hP hS hl
  exact lv_icmp_lt C.1 C.2.1 hd ht (fun q => kt q p e s m args below meth c H locs ls C hc hP hS hl) (fun q => kf q p e s m args below meth c H locs ls C hc hP hS hl)
theorem GK.if_ge {x : Int32} {off : Int} {tgt : Nat} (hd : decode k.2.1 pc = .ok (.ifCond .ge off, 3)) (ht : (pc : Int) + off = (tgt : Int)) (kt : 0 ≤ x → GK E R QQ k tgt L st w) (kf : ¬ 0 ≤ x → GK E R QQ k (pc + 3) L st w) : GK E R QQ k pc L (.int x :: st) w := by
  intro p e s m args below meth c H locs ls C hc hP hS hl
  exact lv_if_ge C.1 C.2.1 hd ht (fun q => kt q p e s m args below meth c H locs ls C hc hP hS hl) (fun q => kf q p e s m args below meth c H locs ls C hc hP hS hl)
theorem GK.icmp_ge {x y : Int32} {off : Int} {tgt : Nat} (hd : decode k.2.1 pc = .ok (.if_icmp .ge off, 3)) (ht : (pc : Int) + off = (tgt : Int)) (kt : y ≤ x → GK E R QQ k tgt L st w) (kf : ¬ y ≤ x → GK E R QQ k (pc + 3) L st w) : GK E R QQ k pc L (.int y :: .int x :: st) w := by
  intro p e s m args below meth c H locs ls C hc hP hS hl
  exact lv_icmp_ge C.1 C.2.1 hd ht (fun q => kt q p e s m args below meth c H locs ls C hc hP hS hl) (fun q => kf q p e s m args below meth c H locs ls C hc hP hS hl)
theorem GK.if_gt {x : Int32} {off : Int} {tgt : Nat} (hd : decode k.2.1 pc = .ok (.ifCond .gt off, 3)) (ht : (pc : Int) + off = (tgt : Int)) (kt : 0 < x → GK E R QQ k tgt L st w) (kf : ¬ 0 < x → GK E R QQ k (pc + 3) L st w) : GK E R QQ k pc L (.int x :: st) w := by
  intro p e s m args below meth c H locs ls C hc hP hS hl
  exact lv_if_gt C.1 C.2.1 hd ht (fun q => kt q p e s m args below meth c H locs ls C hc hP hS hl) (fun q => kf q p e s m args below meth c H locs ls C hc hP hS hl)
theorem GK.icmp_gt {x y : Int32} {off : Int} {tgt : Nat} (hd : decode k.2.1 pc = .ok (.if_icmp .gt off, 3)) (ht : (pc : Int) + off = (tgt : Int)) (kt : y < x → GK E R QQ k tgt L st w) (kf : ¬ y < x → GK E R QQ k (pc + 3) L st w) : GK E R QQ k pc L (.int y :: .int x :: st) w := by
  intro p e s m args below meth c H locs ls C hc hP hS hl
  exact lv_icmp_gt C.1 C.2.1 hd ht (fun q => kt q p e s m args below meth c H locs ls C hc hP hS hl) (fun q => kf q p e s m args below meth c H locs ls C hc hP hS hl)
theorem GK.if_le {x : Int32} {off : Int} {tgt : Nat} (hd : decode k.2.1 pc = .ok (.ifCond .le off, 3)) (ht : (pc : Int) + off = (tgt : Int)) (kt : x ≤ 0 → GK E R QQ k tgt L st w) (kf : ¬ x ≤ 0 → GK E R QQ k (pc + 3) L st w) : GK E R QQ k pc L (.int x :: st) w := by
  intro p e s m args below meth c H locs ls C hc hP hS hl
  exact lv_if_le C.1 C.2.1 hd ht (fun q => kt q p e s m args below meth c H locs ls C hc hP hS hl) (fun q => kf q p e s m args below meth c H locs ls C hc hP hS hl)
theorem GK.icmp_le {x y : Int32} {off : Int} {tgt : Nat} (hd : decode k.2.1 pc = .ok (.if_icmp .le off, 3)) (ht : (pc : Int) + off = (tgt : Int)) (kt : x ≤ y → GK E R QQ k tgt L st w) (kf : ¬ x ≤ y → GK E R QQ k (pc + 3) L st w) : GK E R QQ k pc L (.int y :: .int x :: st) w := by
  intro p e s m args below meth c H locs ls C hc hP hS hl
  exact lv_icmp_le C.1 C.2.1 hd ht (fun q => kt q p e s m args below meth c H locs ls C hc hP hS hl) (fun q => kf q p e s m args below meth c H locs ls C hc hP hS hl)
theorem GK.tsw_out {dflt lo hi : Int} {offs : Array Int} {len : Nat} {x : Int32} {tgt : Nat} (hd : decode k.2.1 pc = .ok (.tableswitch dflt lo hi offs, len)) (h : x.toInt < lo ∨ hi < x.toInt) (ht : (pc : Int) + dflt = (tgt : Int)) (kk : GK E R QQ k tgt L st w) : GK E R QQ k pc L (.int x :: st) w := by
  intro p e s m args below meth c H locs ls C hc hP hS hl
  exact lv_tableOut C.1 C.2.1 hd h ht (kk p e s m args below meth c H locs ls C hc hP hS hl)
theorem GK.tsw_in {dflt lo hi : Int} {offs : Array Int} {len : Nat} {x : Int32} {off : Int} {tgt : Nat} (hd : decode k.2.1 pc = .ok (.tableswitch dflt lo hi offs, len)) (h1 : ¬ x.toInt < lo) (h2 : ¬ hi < x.toInt) (ho : offs[(x.toInt - lo).toNat]? = some off) (ht : (pc : Int) + off = (tgt : Int)) (kk : GK E R QQ k tgt L st w) : GK E R QQ k pc L (.int x :: st) w := by
  intro p e s m args below meth c H locs ls C hc hP hS hl
  exact lv_tableIn C.1 C.2.1 hd h1 h2 ho ht (kk p e s m args below meth c H locs ls C hc hP hS hl)
variable {ce sl n : Nat} {F : KF} {I : Mem}
/-- new: the class's words -/
def NW (own : String) (idx ci : Nat) : Prop := ∃ (C : String) (T : u_T) (N : Nat) (ty0 : Nat → FieldType), vwCl[ci]? = some (C, T, N) ∧ (∀ w ∈ u_ws C T N, w ∈ lw_g) ∧ (∀ k, k < N → parseFieldDescriptor (T k).2.2.1 = some (ty0 k)) ∧ Cond.classLink own idx C ∈ lw_g ∧ Cond.instantiable C N ∈ lw_g ∧ Cond.initialized C ∈ lw_g ∧ (fk ci).length = N ∧ (∀ j, j < N → defaultValue (ty0 j) = if (fk ci).getD j 0 = 0 then .int 0 else .null) ∧ ci < 13
theorem fdn_new (E : EV) (F : KF) (I : Mem) {c j : Nat} (h : j < (fk (lk c)).length) : vp_V (fdn E (clF F c) (upA I c (fun _ => 0)) c) j = if (fk (lk c)).getD j 0 = 0 then .int 0 else .null := by
  have h2 : (fk (lk c))[j]? = some ((fk (lk c)).getD j 0) := by rw [List.getD_eq_getElem?_getD, List.getElem?_eq_getElem h]; rfl
  have e1 : clF F c c j = none := if_pos rfl
  unfold vp_V
  rw [List.getD_eq_getElem?_getD, fdn_get E _ _ h2]
  show fvn E _ _ c j _ = _
  unfold fvn
  rw [upA_self, e1]
  by_cases h3 : (fk (lk c)).getD j 0 = 0
  · rw [if_pos h3, if_pos h3]
  · rw [if_neg h3, if_neg h3]
    by_cases h4 : (fk (lk c)).getD j 0 = 1
    · rw [if_pos h4]; rfl
    · rw [if_neg h4]; rfl
/-- a cell more: the others stay -/
theorem wn_grow {H H1 : Heap} {F' : KF} {I' : Mem} (hP : va_P (eD E) vwCl (wn E n F I) H) (hF : ∀ a, a ≠ n → F' a = F a ∧ I' a = I a) (ho : ∀ q, q < H.size → H1[q]? = H[q]?) (hn : va_at (eD E) vwCl (eAd E n, pn E F' I' n) H1) : va_P (eD E) vwCl (wn E (n + 1) F' I') H1 := by
  refine wn_P fun c hc => ?_
  by_cases e : c = n
  · subst e
    exact hn
  · rw [pn_eq E (hF c e).1 (hF c e).2]
    have h := hP c _ (wn_get E F I (by omega : c < n))
    exact h.kept (ho _ h.lt)
theorem up2_ne {c i a : Nat} {x : Int32} (h : a ≠ c) : up2 I c i x a = I a := if_neg h
theorem clF_ne {a : Nat} (h : a ≠ n) : clF F n a = F a ∧ upA I n (fun _ => 0) a = I a := ⟨by funext b; exact if_neg h, if_neg h⟩
theorem GK.new {idx ci : Nat} (hd : decode k.2.1 pc = .ok (.new idx, 3)) (nw : NW k.1.cls idx ci) (hlk : lk n = ci) (hn : n < 85) (hc : ce + 1 ≤ R.cells) (hs : sl + (fk ci).length ≤ R.slots) (kk : GK E R QQ k (pc + 3) L (.ref n :: st) (ce + 1, sl + (fk ci).length, n + 1, clF F n, upA I n (fun _ => 0))) : GK E R QQ k pc L st (ce, sl, n, F, I) := by
  intro p e s m args below meth c H locs ls C hk hP hS hl
  dsimp only at hk hP ⊢
  obtain ⟨C9, T, N, ty0, g1, g2, g3, g4, g5, g6, g7, g8, g9⟩ := nw
  subst hlk
  have hts := C.2.2.2.2.2.2.hts args
  have hKn := C.2.2.2.2.2.2.2.2.2.1.1 _ _ g1
  refine W.sized fun hsz => ?_
  have hH : H.size = eAd E n := (wn_size C.2.2.2.2.2.2 hk.1.1.1 hk.2.1 hk.2.2 hP hS hsz).trans (hk.1.1.1 n (by omega)).symm
  rw [g7] at hs kk
  refine W.newcK (C := C9) (n := N) C.1 C.2.1 C.2.2.2.2.1 (hts _ g4) (hts _ g5) (hts _ g6) rfl hd hc hs hKn.2.1 hH (fun H1 kC hkC e1 z1 o1 => ?_)
  rw [← hH] at o1 z1
  refine kk p e s m args below meth c H1 locs ls C ⟨hk.1, by show _ + (ce + 1) = _ + (n + 1); have := hk.2.1; omega, hn⟩ (wn_grow hP (fun a ha => clF_ne ha) o1 ?_) (tv_S hS (by omega) o1) hl
  show va_at (eD E) vwCl (eAd E n, pn E (clF F n) (upA I n (fun _ => 0)) n) H1
  rw [pn_r E _ _ g9]
  refine ⟨_, g1, (u_born ty0 hts g2 hKn hkC e1 g3).to (fun j hj => ?_)⟩
  show defaultValue (ty0 j) = vp_V (fdn E _ _ n) j
  rw [fdn_new E F I (by rw [g7]; exact hj), g8 j hj]
theorem GK.newi {x : Int32} {N : Nat} {at0 : ArrayType} (hd : decode k.2.1 pc = .ok (.newarray at0, 2)) (hat : newarray.typeOf at0 = .int) (hlk : lk n = 13) (hx : ¬ x < 0) (hln : ln n = N) (hx2 : x.toNatClampNeg = N) (hb : N ≤ 100000) (hn : n < 85) (hc : ce + 1 ≤ R.cells) (hs : sl + N ≤ R.slots) (hw : Cond.arrayClass .int ∈ lw_g) (kk : GK E R QQ k (pc + 2) L (.ref n :: st) (ce + 1, sl + N, n + 1, clF F n, upA I n (fun _ => 0))) : GK E R QQ k pc L (.int x :: st) (ce, sl, n, F, I) := by
  intro p e s m args below meth c H locs ls C hk hP hS hl
  dsimp only at hk hP ⊢
  have hts := C.2.2.2.2.2.2.hts args
  refine W.sized fun hsz => ?_
  have hH : H.size = eAd E n := (wn_size C.2.2.2.2.2.2 hk.1.1.1 hk.2.1 hk.2.2 hP hS hsz).trans (hk.1.1.1 n (by omega)).symm
  refine va_newaK C.1 C.2.1 (by rw [hat]; exact hts _ hw) rfl hd rfl hx hx2 (by rw [hat]; show N * 4 ≤ _; omega) hc hs hH (fun H1 cA e1 z1 o1 hAr hNm => ?_)
  rw [hat] at e1 hNm
  have hcA : cA = eC E 0 := Option.some.inj (hNm.symm.trans (C.2.2.2.2.2.2.2.2.2.1.2 0 _ rfl).2)
  subst hcA
  rw [← hH] at o1 z1
  refine kk p e s m args below meth c H1 locs ls C ⟨hk.1, by show _ + (ce + 1) = _ + (n + 1); have := hk.2.1; omega, hn⟩ (wn_grow hP (fun a ha => clF_ne ha) o1 ?_) (tv_S hS (by omega) o1) hl
  show va_at (eD E) vwCl (eAd E n, pn E (clF F n) (upA I n (fun _ => 0)) n) H1
  rw [pn_i E _ _ hlk, upA_self, hln]
  exact e1
theorem GK.newz {x : Int32} {N : Nat} {at0 : ArrayType} (hd : decode k.2.1 pc = .ok (.newarray at0, 2)) (hat : newarray.typeOf at0 = .boolean) (hlk : lk n = 14) (hx : ¬ x < 0) (hln : ln n = N) (hx2 : x.toNatClampNeg = N) (hb : N ≤ 100000) (hn : n < 85) (hc : ce + 1 ≤ R.cells) (hs : sl + N ≤ R.slots) (hw : Cond.arrayClass .boolean ∈ lw_g) (kk : GK E R QQ k (pc + 2) L (.ref n :: st) (ce + 1, sl + N, n + 1, clF F n, upA I n (fun _ => 0))) : GK E R QQ k pc L (.int x :: st) (ce, sl, n, F, I) := by
  intro p e s m args below meth c H locs ls C hk hP hS hl
  dsimp only at hk hP ⊢
  have hts := C.2.2.2.2.2.2.hts args
  refine W.sized fun hsz => ?_
  have hH : H.size = eAd E n := (wn_size C.2.2.2.2.2.2 hk.1.1.1 hk.2.1 hk.2.2 hP hS hsz).trans (hk.1.1.1 n (by omega)).symm
  refine va_newaK C.1 C.2.1 (by rw [hat]; exact hts _ hw) rfl hd rfl hx hx2 (by rw [hat]; show N * 1 ≤ _; omega) hc hs hH (fun H1 cA e1 z1 o1 hAr hNm => ?_)
  rw [hat] at e1 hNm
  have hcA : cA = eC E 1 := Option.some.inj (hNm.symm.trans (C.2.2.2.2.2.2.2.2.2.1.2 1 _ rfl).2)
  subst hcA
  rw [← hH] at o1 z1
  refine kk p e s m args below meth c H1 locs ls C ⟨hk.1, by show _ + (ce + 1) = _ + (n + 1); have := hk.2.1; omega, hn⟩ (wn_grow hP (fun a ha => clF_ne ha) o1 ?_) (tv_S hS (by omega) o1) hl
  show va_at (eD E) vwCl (eAd E n, pn E (clF F n) (upA I n (fun _ => 0)) n) H1
  rw [pn_z E _ _ hlk, upA_self, hln]
  exact e1
theorem rfn_new : rfn E (clF F n) n = fun _ => none := by
  funext j
  unfold rfn
  rw [show clF F n n j = none from if_pos rfl]
  split <;> rfl
theorem GK.newq {x : Int32} {N idx t : Nat} {C9 : String} (hd : decode k.2.1 pc = .ok (.anewarray idx, 3)) (ht : (t = 2 ∧ C9 = "AloneRooms$House" ∧ lk n = 15) ∨ (t = 3 ∧ C9 = "AloneRooms$Once" ∧ lk n = 16)) (hw : Cond.classLink k.1.cls idx C9 ∈ lw_g) (hx : ¬ x < 0) (hln : ln n = N) (hx2 : x.toNatClampNeg = N) (hb : N ≤ 100000) (hn : n < 85) (hc : ce + 1 ≤ R.cells) (hs : sl + N ≤ R.slots) (kk : GK E R QQ k (pc + 3) L (.ref n :: st) (ce + 1, sl + N, n + 1, clF F n, upA I n (fun _ => 0))) : GK E R QQ k pc L (.int x :: st) (ce, sl, n, F, I) := by
  intro p e s m args below meth c H locs ls C hk hP hS hl
  dsimp only at hk hP ⊢
  have hts := C.2.2.2.2.2.2.hts args
  refine W.sized fun hsz => ?_
  have hH : H.size = eAd E n := (wn_size C.2.2.2.2.2.2 hk.1.1.1 hk.2.1 hk.2.2 hP hS hsz).trans (hk.1.1.1 n (by omega)).symm
  have hover : va_AO C9 s := by
    rcases ht with ⟨-, rfl, -⟩ | ⟨-, rfl, -⟩
    · exact hk.1.1.2.2.1
    · exact hk.1.1.2.2.2.1
  refine W.anew C.1 C.2.1 C.2.2.2.2.1 (hts _ hw) (va_AO.use hover) rfl hd rfl hx (by rw [hx2]; omega) hc (by rw [hx2]; exact hs) (fun cA kA comp f1 f2 f3 f4 => ?_)
  rw [hx2]
  generalize hH1 : H.push ({ cls := cA, slots := Array.replicate N .null, vm := .none } : Cell) = H1
  have z1 : H1.size = H.size + 1 := by rw [← hH1, Array.size_push]
  have e1 : H1[H.size]? = some (arrV cA N (fun _ => .null)) := by rw [← hH1, Array.getElem?_push_size, ← arrV_new]
  have o1 : ∀ q : Nat, q < H.size → H1[q]? = H[q]? := fun q hq => by rw [← hH1, Array.getElem?_push, if_neg (Nat.ne_of_lt hq)]
  rw [hH] at e1
  rw [hH]
  refine kk p e s m args below meth c H1 locs ls C ⟨hk.1, by show _ + (ce + 1) = _ + (n + 1); have := hk.2.1; omega, hn⟩ (wn_grow hP (fun a ha => clF_ne ha) o1 ?_) (tv_S hS (by omega) o1) hl
  show va_at (eD E) vwCl (eAd E n, pn E (clF F n) (upA I n (fun _ => 0)) n) H1
  rcases ht with ⟨rfl, rfl, hlk⟩ | ⟨rfl, rfl, hlk⟩
  · rw [pn_h E _ _ hlk, rfn_new, hln]
    obtain ⟨kB, cB, -, -, -, hNm⟩ := (C.2.2.2.2.2.2.2.2.2.1.2 2 _ rfl).2
    rw [Option.some.inj (f1.symm.trans hNm)] at e1
    exact e1
  · rw [pn_o E _ _ hlk, rfn_new, hln]
    obtain ⟨kB, cB, -, -, -, hNm⟩ := (C.2.2.2.2.2.2.2.2.2.1.2 3 _ rfl).2
    rw [Option.some.inj (f1.symm.trans hNm)] at e1
    exact e1
theorem GK.multi {x y : Int32} {idx N M : Nat} (hd : decode k.2.1 pc = .ok (.multianewarray idx 2, 4)) (hw : Cond.classLink k.1.cls idx "[[I" ∈ lw_g) (hlk : lk n = 17) (hln : ln n = N) (hN : N ≤ 10) (hM : M ≤ 100000) (hr : ∀ j, j < N → lk (n + 1 + j) = 13 ∧ ln (n + 1 + j) = M) (hx : ¬ x < 0) (hx2 : x.toNatClampNeg = N) (hy : ¬ y < 0) (hy2 : y.toNatClampNeg = M) (hn : n + 1 + N ≤ 85) (hc : ce + (1 + N) ≤ R.cells) (hs : sl + (N + N * M) ≤ R.slots) (kk : GK E R QQ k (pc + 4) L (.ref n :: st) (ce + 1 + N, sl + N + N * M, n + 1 + N, muFn F n N, muI I n N)) : GK E R QQ k pc L (.int y :: .int x :: st) (ce, sl, n, F, I) := by
  intro p e s m args below meth c H locs ls C hk hP hS hl
  dsimp only at hk hP ⊢
  have hts := C.2.2.2.2.2.2.hts args
  have hE := hk.1.1.1
  refine W.sized fun hsz => ?_
  have hH : H.size = eAd E n := (wn_size C.2.2.2.2.2.2 hE hk.2.1 hk.2.2 hP hS hsz).trans (hE n (by omega)).symm
  have hEn : eAd E n = E.2.2.2.2.2 + n := hE n (by omega)
  refine W.multi C.1 C.2.1 C.2.2.2.2.1 (hts _ hw) hk.1.1.2.1 hx hy hx2 hy2 (by omega) hM hc hs hd (fun H1 locs1 cA cI f1 f2 hlocs z1 o1 e1 r1 => ?_)
  have hcA : cA = eC E 4 := Option.some.inj (f1.symm.trans (C.2.2.2.2.2.2.2.2.2.1.2 4 _ rfl).2)
  have hcI : cI = eC E 0 := Option.some.inj (f2.symm.trans (C.2.2.2.2.2.2.2.2.2.1.2 0 _ rfl).2)
  subst hcA; subst hcI
  have hfr : (Value.ref H.size :: st.map (tv E)) = ((.ref n :: st) : List Value).map (tv E) := by rw [hH]; rfl
  rw [hfr]
  refine kk p e s m args below meth c H1 locs1 ls C ⟨hk.1, by show _ + (ce + 1 + N) = _ + (n + 1 + N); have := hk.2.1; omega, hn⟩ (wn_P fun q hq => ?_) ⟨Nat.le_trans hS.1 (by omega), fun q h1 h2 => (o1 q (Nat.lt_of_lt_of_le h1 hS.1)).trans (hS.2.1 q h1 h2), fun l9 hl9 => ?_⟩ hl
  · dsimp only at hq ⊢
    by_cases e9 : q = n
    · subst e9
      rw [pn_a E _ _ hlk, hln]
      show H1[eAd E q]? = some (vp_cell _ _)
      rw [vp_cell_q, ← hH, e1]
      congr 2
      funext j
      congr 1
      unfold rfn muFn
      rw [if_pos rfl]
      by_cases hj : j < N
      · rw [if_pos hj, if_pos (by omega), if_pos hj]
        show _ = some (eAd E (q + 1 + j))
        rw [hE (q + 1 + j) (by omega), hH, hEn]
        congr 1
        omega
      · rw [if_neg hj, if_neg hj]
        split <;> rfl
    · by_cases h9 : q < n
      · rw [pn_eq E (F := F) (I := I) (by funext b; exact if_neg e9) (if_neg (by omega))]
        have h := hP q _ (wn_get E F I h9)
        exact h.kept (o1 _ h.lt)
      · obtain ⟨j, rfl⟩ : ∃ j, q = n + 1 + j := ⟨q - n - 1, by omega⟩
        obtain ⟨g1, g2⟩ := hr j (by omega)
        rw [pn_i E _ _ g1, g2]
        have e2 : muI I n N (n + 1 + j) = fun _ => 0 := if_pos ⟨by omega, by omega⟩
        rw [e2]
        have h := r1 j (by omega)
        rw [hH, hEn] at h
        show H1[eAd E (n + 1 + j)]? = some _
        rw [hE (n + 1 + j) (by omega), show E.2.2.2.2.2 + (n + 1 + j) = E.2.2.2.2.2 + n + 1 + j by omega]
        exact h
  · rcases hlocs l9 hl9 with h | h
    · exact hS.2.2 l9 h
    · show E.2.2.2.2.2 ≤ l9.base
      rw [h, hH, hEn]
      omega
/-- the field's own class -/
def FD (own : String) (ci i : Nat) : Prop := ∀ C T N, vwCl[ci]? = some (C, T, N) → (T i).1 = own
theorem upF_self {c i q : Nat} : upF F c i q c i = some q := if_pos ⟨rfl, rfl⟩
theorem upF_nj {c i q j : Nat} (h : j ≠ i) : upF F c i q c j = F c j := if_neg (fun e => h e.2)
theorem upF_ne {c i q a : Nat} (h : a ≠ c) : upF F c i q a = F a := by
  funext b
  exact if_neg (fun e => h e.1)
theorem GK.putR {a idx ci i q : Nat} {ty : FieldType} (hd : decode k.2.1 pc = .ok (.putfield idx, 3)) (fl : FL k.1.cls idx ci i 1 ty) (hdecl : FD k.1.cls ci i) (hi : k.1.name = "<init>") (ha : a < n) (hlk : lk a = ci) (hnr : ∀ x, narrow ty (.ref x) = .ref x) (hft : ∀ x, fits ty (.ref x) = true) (kk : GK E R QQ k (pc + 3) L st (ce, sl, n, upF F a i q, I)) : GK E R QQ k pc L (.ref q :: .ref a :: st) (ce, sl, n, F, I) := by
  intro p e s m args below meth c H locs ls C hk hP hS hl
  dsimp only at hk hP ⊢
  obtain ⟨C9, T, N, ty0, g1, g2, g3, g4, g5, g6, g7, g8, g9, g10⟩ := fl
  subst hlk
  have hts := C.2.2.2.2.2.2.hts args
  refine va_putF (D := eD E) (ci := lk a) (C := C9) (T := T) (N := N) (ty := ty) (v := .ref (eAd E q)) C.1 C.2.1 hts g2 ty0 g6 g7 C.2.2.2.2.1 C.2.2.2.2.2.2.2.2.2.1 hP (wn_D hk.1.1.1 hk.2.2 F I) hS a (by rw [wn_get E F I ha, pn_r E F I g10]) g1 i g5 (hts _ g3) (fun _ h => h) (by rw [g9]; rfl) (hk.1.2 hi) (hdecl _ _ _ g1) g8 (hnr _) (hft _) (by rw [fdn_len]; exact (List.getElem?_eq_some_iff.mp g4).1) hd (fun H1 locs1 hP1 hD1 hS1 => ?_)
  have ev : Value.ref (eAd E q) = fvn E (upF F a i q) I a i 1 := by
    unfold fvn
    rw [if_neg (by decide), if_pos rfl, upF_self]
    rfl
  rw [ev, fdn_set E g4 (fun j hj => ⟨upF_nj hj, rfl⟩), ← pn_r E _ _ g10, wn_set E ha (fun b hb => ⟨upF_ne hb, rfl⟩)] at hP1
  exact kk p e s m args below meth c H1 locs1 ls C hk hP1 hS1 hl
theorem GK.putI {a idx ci i : Nat} {x : Int32} (hd : decode k.2.1 pc = .ok (.putfield idx, 3)) (fl : FL k.1.cls idx ci i 0 .int) (ha : a < n) (hlk : lk a = ci) (kk : GK E R QQ k (pc + 3) L st (ce, sl, n, F, up2 I a i x)) : GK E R QQ k pc L (.int x :: .ref a :: st) (ce, sl, n, F, I) := by
  intro p e s m args below meth c H locs ls C hk hP hS hl
  dsimp only at hk hP ⊢
  obtain ⟨C9, T, N, ty0, g1, g2, g3, g4, g5, g6, g7, g8, g9, g10⟩ := fl
  subst hlk
  have hts := C.2.2.2.2.2.2.hts args
  refine va_put (D := eD E) (ci := lk a) (C := C9) (T := T) (N := N) (ty := .int) (v := .int x) C.1 C.2.1 hts g2 ty0 g6 g7 C.2.2.2.2.1 C.2.2.2.2.2.2.2.2.2.1 hP (wn_D hk.1.1.1 hk.2.2 F I) hS a (by rw [wn_get E F I ha, pn_r E F I g10]) g1 i g5 (hts _ g3) (fun _ h => h) (by rw [g9]; rfl) g8 rfl rfl (by rw [fdn_len]; exact (List.getElem?_eq_some_iff.mp g4).1) hd (fun H1 locs1 hP1 hD1 hS1 => ?_)
  have ev : Value.int x = fvn E F (up2 I a i x) a i 0 := by
    unfold fvn
    rw [if_pos rfl, up2_self]
  rw [ev, fdn_set E g4 (fun j hj => ⟨rfl, by unfold up2; rw [upA_self]; exact if_neg hj⟩), ← pn_r E _ _ g10, wn_set E ha (fun b hb => ⟨rfl, up2_ne hb⟩)] at hP1
  exact kk p e s m args below meth c H1 locs1 ls C hk hP1 hS1 hl
theorem rfn_up {a i q : Nat} (h : i < 18) : va_up (rfn E F a) i (some (eAd E q)) = rfn E (upF F a i q) a := by
  funext j
  unfold va_up rfn
  by_cases e : j = i
  · subst e
    rw [if_pos rfl, if_pos h, upF_self]
    rfl
  · rw [if_neg e, upF_nj e]
theorem GK.astH {a q i : Nat} {x : Int32} (hd : decode k.2.1 pc = .ok (.aastore, 1)) (ha : a < n) (hlk : lk a = 15) (hq : q < n) (hlq : lk q = 4) (hin : inb x (ln a) = true) (hx : x.toNatClampNeg = i) (h18 : i < 18) (kk : GK E R QQ k (pc + 1) L st (ce, sl, n, upF F a i q, I)) : GK E R QQ k pc L (.ref q :: .int x :: .ref a :: st) (ce, sl, n, F, I) := by
  intro p e s m args below meth c H locs ls C hk hP hS hl
  dsimp only at hk hP ⊢
  refine va_astq (r := (RX4, TX4, 15)) C.1 C.2.1 C.2.2.2.2.2.2.2.2.2.1 hP (wn_D hk.1.1.1 hk.2.2 F I) hS a 2 q 4 (by rw [wn_get E F I ha, pn_h E F I hlk]) rfl (by rw [wn_get E F I hq, pn_r E F I (by omega), hlq]) rfl (inb_in hin) hd (fun H1 locs1 hP1 hD1 hS1 => ?_)
  rw [hx, rfn_up h18, ← pn_h E (upF F a i q) I hlk, wn_set E ha (fun b hb => ⟨upF_ne hb, rfl⟩)] at hP1
  exact kk p e s m args below meth c H1 locs1 ls C hk hP1 hS1 hl
theorem GK.astO {a q i : Nat} {x : Int32} (hd : decode k.2.1 pc = .ok (.aastore, 1)) (ha : a < n) (hlk : lk a = 16) (hq : q < n) (hlq : lk q = 5) (hin : inb x (ln a) = true) (hx : x.toNatClampNeg = i) (h18 : i < 18) (kk : GK E R QQ k (pc + 1) L st (ce, sl, n, upF F a i q, I)) : GK E R QQ k pc L (.ref q :: .int x :: .ref a :: st) (ce, sl, n, F, I) := by
  intro p e s m args below meth c H locs ls C hk hP hS hl
  dsimp only at hk hP ⊢
  refine va_astq (r := (RX5, TX5, 0)) C.1 C.2.1 C.2.2.2.2.2.2.2.2.2.1 hP (wn_D hk.1.1.1 hk.2.2 F I) hS a 3 q 5 (by rw [wn_get E F I ha, pn_o E F I hlk]) rfl (by rw [wn_get E F I hq, pn_r E F I (by omega), hlq]) rfl (inb_in hin) hd (fun H1 locs1 hP1 hD1 hS1 => ?_)
  rw [hx, rfn_up h18, ← pn_o E (upF F a i q) I hlk, wn_set E ha (fun b hb => ⟨upF_ne hb, rfl⟩)] at hP1
  exact kk p e s m args below meth c H1 locs1 ls C hk hP1 hS1 hl
theorem GK.astS {a q i ci : Nat} {x : Int32} {r : vw_C} (hd : decode k.2.1 pc = .ok (.aastore, 1)) (ha : a < n) (hlk : lk a = 16) (hq : q < n) (hlq : lk q = ci) (hr : vwCl[ci]? = some r) (hci : ci < 13) (hm : r.1 ∈ ["AloneRooms$Each", "AloneRooms$Halves", "AloneRooms$Sleep", "AloneRooms$Comers"]) (hin : inb x (ln a) = true) (hx : x.toNatClampNeg = i) (h18 : i < 18) (kk : GK E R QQ k (pc + 1) L st (ce, sl, n, upF F a i q, I)) : GK E R QQ k pc L (.ref q :: .int x :: .ref a :: st) (ce, sl, n, F, I) := by
  intro p e s m args below meth c H locs ls C hk hP hS hl
  dsimp only at hk hP ⊢
  refine va_astqO (r := r) (E := "AloneRooms$Once") C.1 C.2.1 C.2.2.2.2.2.2.2.2.2.1 hP (wn_D hk.1.1.1 hk.2.2 F I) hS a 3 q ci (by rw [wn_get E F I ha, pn_o E F I hlk]) rfl (hk.1.1.2.2.2.2 _ hm) (by rw [wn_get E F I hq, pn_r E F I (by omega), hlq]) hr (inb_in hin) hd (fun H1 locs1 hP1 hD1 hS1 => ?_)
  rw [hx, rfn_up h18, ← pn_o E (upF F a i q) I hlk, wn_set E ha (fun b hb => ⟨upF_ne hb, rfl⟩)] at hP1
  exact kk p e s m args below meth c H1 locs1 ls C hk hP1 hS1 hl
theorem GK.getR {a idx ci i q : Nat} {ty : FieldType} (hd : decode k.2.1 pc = .ok (.getfield idx, 3)) (fl : FL k.1.cls idx ci i 1 ty) (ha : a < n) (hlk : lk a = ci) (hq : F a i = some q) (kk : GK E R QQ k (pc + 3) L (.ref q :: st) (ce, sl, n, F, I)) : GK E R QQ k pc L (.ref a :: st) (ce, sl, n, F, I) := by
  intro p e s m args below meth c H locs ls C hk hP hS hl
  dsimp only at hk hP ⊢
  obtain ⟨C9, T, N, ty0, h1, h2, h3, h4, h5, h6, h7, h8, h9, h10⟩ := fl
  subst hlk
  have hts := C.2.2.2.2.2.2.hts args
  refine va_get (D := eD E) (ci := lk a) (C := C9) (T := T) (N := N) (v := .ref (eAd E q)) C.1 C.2.1 hts h2 C.2.2.2.2.1 C.2.2.2.2.2.2.2.2.2.1 hP a (by rw [wn_get E F I ha, pn_r E F I h10]) h1 i h5 (hts _ h3) (fun _ h => h) ?_ hd (kk p e s m args below meth c H locs ls C hk hP hS hl)
  rw [fdn_get E F I h4]
  unfold fvn
  rw [if_neg (by decide), if_pos rfl, hq]
  rfl
theorem GK.alen {a : Nat} {v : Int32} (hd : decode k.2.1 pc = .ok (.arraylength, 1)) (ha : a < n) (hlk : lk a = 13) (hv : nI (ln a) = v) (kk : GK E R QQ k (pc + 1) L (.int v :: st) (ce, sl, n, F, I)) : GK E R QQ k pc L (.ref a :: st) (ce, sl, n, F, I) := by
  intro p e s m args below meth c H locs ls C hk hP hS hl
  dsimp only at hk hP ⊢
  exact va_alen (x := (ln a, .inl (I a))) C.1 C.2.1 C.2.2.2.2.2.2.2.2.2.1 hP a 0 (by rw [wn_get E F I ha, pn_i E F I hlk]) rfl hv hd (kk p e s m args below meth c H locs ls C hk hP hS hl)
theorem GK.iast {a : Nat} {i x : Int32} (hd : decode k.2.1 pc = .ok (.iastore, 1)) (ha : a < n) (hlk : lk a = 13) (hin : inb i (ln a) = true) (kk : GK E R QQ k (pc + 1) L st (ce, sl, n, F, up2 I a (ix i) x)) : GK E R QQ k pc L (.int x :: .int i :: .ref a :: st) (ce, sl, n, F, I) := by
  intro p e s m args below meth c H locs ls C hk hP hS hl
  dsimp only at hk hP ⊢
  refine va_iast C.1 C.2.1 C.2.2.2.2.2.2.2.2.2.1 hP (wn_D hk.1.1.1 hk.2.2 F I) hS a 0 (by rw [wn_get E F I ha, pn_i E F I hlk]) rfl (inb_in hin) hd (fun H1 locs1 hP1 hD1 hS1 => ?_)
  have e1 : (Sum.inl (eC E 0, ln a, .inl (upd (I a) (ix i) x)) : va_E) = pn E F (up2 I a (ix i) x) a := by
    rw [pn_i E _ _ hlk]
    unfold up2
    rw [upA_self]
  rw [e1, wn_set E ha (fun b hb => ⟨rfl, up2_ne hb⟩)] at hP1
  exact kk p e s m args below meth c H1 locs1 ls C hk hP1 hS1 hl
theorem GK.obj {idx a : Nat} (hd : decode k.2.1 pc = .ok (.invokespecial idx, 3)) (h1 : Cond.methodLink k.1.cls idx Lib.objectInit ∈ lw_g) (h2 : Cond.instanceMethod Lib.objectInit ∈ lw_g) (h3 : Cond.code Lib.objectInit ⟨#[0xb1]⟩ 1 none ∈ lw_g) (hf : 1 ≤ R.frames) (hlo : 20 ≤ R.locals) (hW : (st.map fun v => v.category).sum ≤ 8) (kk : GK E R QQ k (pc + 3) L st w) : GK E R QQ k pc L (.ref a :: st) w := by
  intro p e s m args below meth c H locs ls C hk hP hS hl
  have hts := C.2.2.2.2.2.2.hts args
  have hrm : 2 * (F0 m pc ls ((.ref a :: st : List Value).map (tv E))).monitorRoom + ((st.map (tv E)).map fun v => v.category).sum ≤ 8 := lv_room (by rw [st_cat]; exact hW)
  exact W.objInit C.1 C.2.1 C.2.2.2.2.1 (hts _ h1) (hts _ h2) (hts _ h3) rfl (hl.1.trans C.2.2.2.1.symm) rfl hd hf (by omega) (kk p e s m args below meth c H locs ls C hk hP hS hl)
end GKR
