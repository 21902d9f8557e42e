/-- how many cells both objects have -/
abbrev NC : Nat := 85
def lkL : List Nat := [11, 4, 13, 13, 13, 13, 13, 13, 13, 4, 13, 13, 13, 13, 13, 13, 13, 15, 4, 13, 13, 13, 13, 13, 13, 13, 4, 13, 13, 13, 13, 13, 13, 13, 14, 8, 13, 16, 5, 1, 3, 7, 0, 10, 13, 2, 13, 17, 13, 13, 13, 13, 13, 17, 13, 13, 13, 13, 13, 10, 13, 10, 13, 6, 17, 13, 13, 13, 13, 10, 13, 9, 13, 13, 12, 13, 14, 13, 13, 13, 13, 13, 13, 13, 13]
def lnL : List Nat := [0, 0, 5, 5, 5, 4, 16, 8, 80, 0, 5, 5, 5, 4, 16, 8, 80, 2, 0, 5, 5, 5, 4, 16, 8, 80, 0, 5, 5, 5, 4, 16, 8, 80, 2, 0, 200, 5, 0, 0, 0, 0, 0, 0, 4, 0, 5, 5, 4, 4, 4, 4, 4, 3, 2341, 2341, 2341, 5, 2341, 0, 4, 0, 4, 0, 2, 2341, 2341, 1250, 2341, 0, 4, 0, 7, 7, 0, 632, 2, 200, 3, 400, 5, 4, 20480, 8192, 8192]
def finL : List (List (Option Nat)) := [[some 1, some 9, some 17, some 34, some 35, some 37, some 43, some 45, some 63, some 71, none, none, none], [none, none, none, none, none, none, none, none, some 2, some 3, some 4, some 5, some 6, some 7, some 8], [], [], [], [], [], [], [], [none, none, none, none, none, none, none, none, some 10, some 11, some 12, some 13, some 14, some 15, some 16], [], [], [], [], [], [], [], [some 18, some 26], [none, none, none, none, none, none, none, none, some 19, some 20, some 21, some 22, some 23, some 24, some 25], [], [], [], [], [], [], [], [none, none, none, none, none, none, none, none, some 27, some 28, some 29, some 30, some 31, some 32, some 33], [], [], [], [], [], [], [], [], [none, some 36, none, none, none, none, none], [], [some 38, some 39, some 40, some 41, some 42], [], [], [], [], [], [none, none, some 44], [], [some 46, none, none, none, none, some 47, some 53, some 57, some 58, some 59, some 61], [], [some 48, some 49, some 50, some 51, some 52], [], [], [], [], [], [some 54, some 55, some 56], [], [], [], [], [], [none, none, some 60], [], [none, none, some 62], [], [none, none, some 64, some 67, none, some 68, some 69], [some 65, some 66], [], [], [], [], [none, none, some 70], [], [none, none, some 72, none, none, some 73], [], [], [some 75, some 76, some 77, none, some 78, none, none, none, some 79, none, none, none, some 80, some 81, some 82, none, some 83, some 84], [], [], [], [], [], [], [], [], [], []]
def fkL : List (List Nat) := [[], [], [1, 2, 2, 0, 0, 1, 1, 1, 1, 1, 1], [], [0, 0, 0, 0, 0, 0, 0, 0, 1, 1, 1, 1, 1, 1, 1], [], [2, 2, 1, 1, 0, 1, 1], [], [0, 1, 0, 0, 0, 0, 0], [0, 0, 1, 2, 0, 1], [0, 0, 1], [1, 1, 1, 1, 1, 1, 1, 1, 1, 1, 0, 0, 0], [1, 1, 1, 0, 1, 0, 0, 0, 1, 0, 0, 0, 1, 1, 1, 0, 1, 1]]
/-- what kind a cell is of: below 13 an object of that class of vwCl; 13 ints, 14 booleans, 15 Houses, 16 laws, 17 rows of ints -/
def lk (c : Nat) : Nat := lkL.getD c 99
/-- how long an array is -/
def ln (c : Nat) : Nat := lnL.getD c 0
/-- what is set once for all: a final reference's cell, an element of a row of references -/
def fin (c i : Nat) : Option Nat := (finL.getD c []).getD i none
/-- a class's fields: 0 an int, 1 a final reference, 2 a reference that changes -/
def fk (k : Nat) : List Nat := fkL.getD k []
abbrev Mem : Type := Nat → Nat → Int32
def upA (I : Mem) (c : Nat) (f : Nat → Int32) : Mem := fun a => if a = c then f else I a
def up2 (I : Mem) (c i : Nat) (v : Int32) : Mem := upA I c (upd (I c) i v)
def enc (k : Nat) : Int32 := nI (k + 1)
def dec (x : Int32) : Option Nat := if x = 0 then none else some (x.toNatClampNeg - 1)
theorem dec_enc {k : Nat} (h : k + 1 < 2 ^ 31) : dec (enc k) = some k := by
  unfold dec enc
  rw [if_neg (nI_ne0 (by omega) h), nI_clamp h]
  rfl
/-- launch, class numbers, slots, array classes, addresses, the first address that is ours -/
abbrev EV : Type := Launch × (Nat → ClassId) × (Nat → Nat → Nat) × (Nat → ClassId) × (Nat → Nat) × Nat
abbrev eD (E : EV) : va_G := (E.2.1, E.2.2.1)
abbrev eC (E : EV) : Nat → ClassId := E.2.2.2.1
abbrev eAd (E : EV) : Nat → Nat := E.2.2.2.2.1
abbrev eA (E : EV) : Nat → Prop := fun q => E.2.2.2.2.2 ≤ q
abbrev eTy (E : EV) : List (ClassId × FieldType) := [(eC E 0, .int), (eC E 1, .boolean), (eC E 2, .object "AloneRooms$House"), (eC E 3, .object "AloneRooms$Once"), (eC E 4, .array .int)]
/-- an abstract value's address -/
def tv (E : EV) : Value → Value
  | .ref k => .ref (eAd E k)
  | v => v
theorem tv_cat (E : EV) (v : Value) : (tv E v).category = v.category := by cases v <;> rfl
def fv (E : EV) (I : Mem) (c i k : Nat) : Value := if k = 0 then .int (I c i) else if k = 1 then va_rf ((fin c i).map (eAd E)) else va_rf ((dec (I c i)).map (eAd E))
def fds (E : EV) (I : Mem) (c : Nat) : List Value := (List.range (fk (lk c)).length).map (fun i => fv E I c i ((fk (lk c)).getD i 0))
def pic (E : EV) (I : Mem) (c : Nat) : va_E :=
  if lk c = 13 then .inl (eC E 0, ln c, .inl (I c))
  else if lk c = 14 then .inl (eC E 1, ln c, .inl (I c))
  else if lk c = 15 then .inl (eC E 2, ln c, .inr (.inr (.inr (.inr (fun j => (fin c j).map (eAd E))))))
  else if lk c = 16 then .inl (eC E 3, ln c, .inr (.inr (.inr (.inr (fun j => (fin c j).map (eAd E))))))
  else if lk c = 17 then .inl (eC E 4, ln c, .inr (.inr (.inr (.inr (fun j => (fin c j).map (eAd E))))))
  else .inr (lk c, fds E I c)
def wl (E : EV) (I : Mem) : va_W := (List.range NC).map (fun c => (eAd E c, pic E I c))
theorem wl_get (E : EV) (I : Mem) {c : Nat} (h : c < NC) : (wl E I)[c]? = some (eAd E c, pic E I c) := by
  unfold wl
  rw [List.getElem?_map, List.getElem?_range h]
  rfl
theorem wl_set (E : EV) (I J : Mem) {c : Nat} (h : c < NC) (hp : ∀ a, a ≠ c → pic E J a = pic E I a) : (wl E I).set c (eAd E c, pic E J c) = wl E J := by
  apply List.ext_getElem?
  intro k
  by_cases hk : k < NC
  · rw [wl_get E J hk]
    by_cases e : c = k
    · subst e
      rw [List.getElem?_set_self (by unfold wl; rw [List.length_map, List.length_range]; exact h)]
    · rw [List.getElem?_set_ne e, wl_get E I hk, hp k (fun q => e q.symm)]
  · rw [List.getElem?_eq_none (by rw [List.length_set]; unfold wl; rw [List.length_map, List.length_range]; omega), List.getElem?_eq_none (by unfold wl; rw [List.length_map, List.length_range]; omega)]
theorem pic_upA_ne (E : EV) (I : Mem) (c : Nat) (f : Nat → Int32) (a : Nat) (h : a ≠ c) : pic E (upA I c f) a = pic E I a := by
  have e : upA I c f a = I a := if_neg h
  unfold pic fds fv
  simp only [e]
theorem upA_self (I : Mem) (c : Nat) (f : Nat → Int32) : upA I c f c = f := if_pos rfl
theorem pic_i (E : EV) (I : Mem) {c : Nat} (h : lk c = 13) : pic E I c = .inl (eC E 0, ln c, .inl (I c)) := if_pos h
theorem pic_z (E : EV) (I : Mem) {c : Nat} (h : lk c = 14) : pic E I c = .inl (eC E 1, ln c, .inl (I c)) := by
  unfold pic
  rw [if_neg (by rw [h]; decide), if_pos h]
theorem pic_h (E : EV) (I : Mem) {c : Nat} (h : lk c = 15) : pic E I c = .inl (eC E 2, ln c, .inr (.inr (.inr (.inr (fun j => (fin c j).map (eAd E)))))) := by
  unfold pic
  rw [if_neg (by rw [h]; decide), if_neg (by rw [h]; decide), if_pos h]
theorem pic_o (E : EV) (I : Mem) {c : Nat} (h : lk c = 16) : pic E I c = .inl (eC E 3, ln c, .inr (.inr (.inr (.inr (fun j => (fin c j).map (eAd E)))))) := by
  unfold pic
  rw [if_neg (by rw [h]; decide), if_neg (by rw [h]; decide), if_neg (by rw [h]; decide), if_pos h]
theorem pic_a (E : EV) (I : Mem) {c : Nat} (h : lk c = 17) : pic E I c = .inl (eC E 4, ln c, .inr (.inr (.inr (.inr (fun j => (fin c j).map (eAd E)))))) := by
  unfold pic
  rw [if_neg (by rw [h]; decide), if_neg (by rw [h]; decide), if_neg (by rw [h]; decide), if_neg (by rw [h]; decide), if_pos h]
theorem pic_r (E : EV) (I : Mem) {c : Nat} (h : lk c < 13) : pic E I c = .inr (lk c, fds E I c) := by
  unfold pic
  rw [if_neg (by omega), if_neg (by omega), if_neg (by omega), if_neg (by omega), if_neg (by omega)]
theorem fds_get (E : EV) (I : Mem) {c i k : Nat} (h : (fk (lk c))[i]? = some k) : (fds E I c)[i]? = some (fv E I c i k) := by
  have hl : i < (fk (lk c)).length := (List.getElem?_eq_some_iff.mp h).1
  unfold fds
  rw [List.getElem?_map, List.getElem?_range hl]
  show some (fv E I c i ((fk (lk c)).getD i 0)) = _
  rw [List.getD_eq_getElem?_getD, h]
  rfl
theorem fds_len (E : EV) (I : Mem) (c : Nat) : (fds E I c).length = (fk (lk c)).length := by
  unfold fds
  rw [List.length_map, List.length_range]
theorem fds_set (E : EV) (I : Mem) {c i k : Nat} {x : Int32} (h : (fk (lk c))[i]? = some k) (hk : k ≠ 1) : (fds E I c).set i (fv E (up2 I c i x) c i k) = fds E (up2 I c i x) c := by
  apply List.ext_getElem?
  intro j
  have hl : i < (fk (lk c)).length := (List.getElem?_eq_some_iff.mp h).1
  by_cases hj : j < (fk (lk c)).length
  · have hj2 : (fk (lk c))[j]? = some ((fk (lk c))[j]) := List.getElem?_eq_getElem hj
    rw [fds_get E (up2 I c i x) hj2]
    by_cases e : i = j
    · subst e
      rw [List.getElem?_set_self (by rw [fds_len]; exact hl)]
      rw [h] at hj2
      rw [Option.some.inj hj2]
    · rw [List.getElem?_set_ne e, fds_get E I hj2]
      have e2 : up2 I c i x c j = I c j := by
        unfold up2
        rw [upA_self]
        exact if_neg (fun q => e q.symm)
      unfold fv
      rw [e2]
  · rw [List.getElem?_eq_none (by rw [List.length_set, fds_len]; omega), List.getElem?_eq_none (by rw [fds_len]; omega)]
theorem up2_self (I : Mem) (c i : Nat) (x : Int32) : up2 I c i x c i = x := by
  unfold up2
  rw [upA_self]
  exact if_pos rfl
/-- a method: its name, its bytes, its locals, what it returns -/
abbrev MD : Type := MethodName × ByteArray × Nat × Option FieldType
/-- the words that stay when the tables warm -/
def lw_g : List Cond := lw_tbl.filter goodWord
def isNest : Cond → Bool
  | .methodLinkNest _ _ _ _ => true
  | _ => false
def lw_n : List Cond := lw_tbl.filter isNest
/-- the String constants of the reader: entry, text -/
def strT : List (Nat × String) := [(96, "rooms"), (102, "door"), (104, "cat"), (106, "sill"), (108, "person"), (110, "wish"), (112, "law")]
def strN : List Nat := [5, 4, 3, 4, 6, 4, 3]
def strB : List (List Int32) := [[114, 111, 111, 109, 115], [100, 111, 111, 114], [99, 97, 116], [115, 105, 108, 108], [112, 101, 114, 115, 111, 110], [119, 105, 115, 104], [108, 97, 119]]
/-- what holds of a method's start -/
def CF (E : EV) (s : State) : Prop :=
  (∀ w ∈ lw_g, w.before #[] s = true) ∧ (∀ w ∈ lw_n, va_Nw w s) ∧ E.2.2.2.2.2 ≤ s.heap.size ∧ va_K (eD E) vwCl (eTy E) s ∧
  (∀ i : Nat, i < 7 → vk_R RX8 (strT.getD i (0, "")).1 (strT.getD i (0, "")).2 (eAd E (1000 + i)) s) ∧
  vk_S 7 strN strB (fun i => eAd E (1000 + i)) (fun i => eAd E (1010 + i)) (eA E) s s.heap ∧ va_Z "java/lang/String" "COMPACT_STRINGS" "Z" (.int 1) (eA E) s s.heap ∧
  (va_Z "jdk/internal/util/Preconditions" "SIOOBE_FORMATTER" "Ljava/util/function/BiFunction;" .null (eA E) s s.heap ∨ va_Z "jdk/internal/util/Preconditions" "SIOOBE_FORMATTER" "Ljava/util/function/BiFunction;" (.ref (eAd E 1020)) (eA E) s s.heap)
theorem good_word {w : Cond} (h : w ∈ lw_g) : (w.onTables && w.keeps) = true ∨ ∃ ty, w = .arrayClass ty := good_of_word (List.mem_filter.mp h).2
theorem CF.hts {E : EV} {s : State} (h : CF E s) (args : Array Value) : ∀ w ∈ lw_g, w.before args s = true := fun w hw => word_at (State.WarmedH.refl s) (good_word hw) (h.1 w hw)
theorem nest_warm {s U : State} (hW : s.WarmedH U.vm) {w : Cond} (hw : w ∈ lw_n) (h : va_Nw w s) : va_Nw w U := by
  have h2 := (List.mem_filter.mp hw).2
  cases w with
  | methodLinkNest a i x b => exact va_Nw.warmM hW h
  | _ => simp [isNest] at h2
theorem CF.call {E : EV} {s U : State} {H : Heap} {locs : List Loc} (h : CF E s) (hS : va_S (eA E) s.heap H locs) (hU : U.heap = H) (hW : s.WarmedH U.vm) : CF E U := by
  obtain ⟨h1, h2, h3, h4, h5, h6, h7, h8⟩ := h
  refine ⟨fun w hw => word_at hW (good_word hw) (h1 w hw), fun w hw => nest_warm hW hw (h2 w hw), ?_, va_K.moved hW.alike h4, fun i hi => (h5 i hi).warm hW, ?_, ?_, ?_⟩
  · rw [hU]
    exact Nat.le_trans h3 hS.1
  · rw [hU]
    exact (h6.moved hW.alike).kept hS.2.1
  · rw [hU]
    exact (h7.moved hW.alike).kept hS.2.1
  · rw [hU]
    exact h8.imp (fun h => (h.moved hW.alike).kept hS.2.1) (fun h => (h.moved hW.alike).kept hS.2.1)
theorem CF.blind {E : EV} {U : State} (h : CF E U) (g : JFrame) (mk : MethodId) (a : Array Value) : CF E (U.calling g mk a) := by
  obtain ⟨h1, h2, h3, h4, h5, h6, h7, h8⟩ := h
  have hW : U.WarmedH (U.calling g mk a).vm := State.WarmedH.refl U
  exact ⟨fun w hw => word_at hW (good_word hw) (h1 w hw), fun w hw => nest_warm hW hw (h2 w hw), h3, va_K.moved hW.alike h4, fun i hi => (h5 i hi).warm hW, h6.moved hW.alike, h7.moved hW.alike, h8.imp (fun h => h.moved hW.alike) (fun h => h.moved hW.alike)⟩
/-- a method's room -/
abbrev rmd (d : Nat) : Room := { frames := d, cells := 0, slots := 0, locals := 60 * d }
/-- a method's end: its answer, the memory behind it -/
def Qr (E : EV) (r : Option Value × Mem) : Array Value → State → Outcome → State → Prop := fun _ st oc t => (oc = .returned (r.1.map (tv E)) ∧ va_P (eD E) vwCl (wl E r.2) t.heap ∧ va_D (eA E) (wl E r.2)) ∧ va_F (eA E) st t
/-- A METHOD'S CONTRACT: with these arguments over this memory it answers so and leaves the memory so -/
def Gm (E : EV) (d : Nat) (k : MD) (av : List Value) (I : Mem) (r : Option Value × Mem) : Prop :=
  Met E.1 k.1 [.code k.1 k.2.1 k.2.2.1 k.2.2.2] (rmd d) (va_Pc (av.map (tv E)) (fun U => CF E U ∧ va_P (eD E) vwCl (wl E I) U.heap ∧ va_D (eA E) (wl E I))) (Qr E r) 0 0 (eA E)
/-- the locals as pairs -/
def asc (E : EV) : Nat → List (Option Value) → List (Nat × Value)
  | _, [] => []
  | i, none :: t => asc E (i + 1) t
  | i, some v :: t => (i, tv E v) :: asc E (i + 1) t
theorem asc_mem (E : EV) {q : Nat × Value} : ∀ (L : List (Option Value)) (i : Nat), q ∈ asc E i L ↔ ∃ k v, q = (i + k, tv E v) ∧ L[k]? = some (some v)
  | [], i => by simp [asc]
  | none :: t, i => by
    rw [asc, asc_mem E t (i + 1)]
    constructor
    · rintro ⟨k, v, h1, h2⟩
      exact ⟨k + 1, v, by rw [h1]; congr 1; omega, by simpa using h2⟩
    · rintro ⟨k, v, h1, h2⟩
      cases k with
      | zero => simp at h2
      | succ k => exact ⟨k, v, by rw [h1]; congr 1; omega, by simpa using h2⟩
  | some w :: t, i => by
    rw [asc, List.mem_cons, asc_mem E t (i + 1)]
    constructor
    · rintro (h | ⟨k, v, h1, h2⟩)
      · exact ⟨0, w, h, rfl⟩
      · exact ⟨k + 1, v, by rw [h1]; congr 1; omega, by simpa using h2⟩
    · rintro ⟨k, v, h1, h2⟩
      cases k with
      | zero =>
        left
        simp at h2
        rw [h1, h2]
        rfl
      | succ k => exact Or.inr ⟨k, v, by rw [h1]; congr 1; omega, by simpa using h2⟩
/-- what holds in a method's body -/
def Cx (E : EV) (k : MD) (p : Program) (s : State) (m : MethodId) (meth : Method) (c : Code) : Prop :=
  p.tables.exec = Jvm.exec ∧ c.code = k.2.1 ∧ meth.sig.returnType = k.2.2.2 ∧ c.maxLocals = k.2.2.1 ∧ s.vm.findClass k.1.cls = some m.cls ∧ meth.locks = false ∧ CF E s
/-- AT A PLACE OF A METHOD: from here, with these locals, this stack and this memory, it comes to the end r -/
def G (E : EV) (d : Nat) (k : MD) (pc : Nat) (L : List (Option Value)) (st : List Value) (I : Mem) (r : Option Value × Mem) : Prop :=
  ∀ (p : Program) (e : Env) (s : State) (m : MethodId) (args : Array Value) (below : List Frame) (meth : Method) (c : Code) (H : Heap) (locs : List Loc) (ls : Array Slot),
    Cx E k p s m meth c → va_P (eD E) vwCl (wl E I) H → va_D (eA E) (wl E I) → va_S (eA E) s.heap H locs → lv_has ls k.2.2.1 (asc E 0 L) →
    W p E.1 e (rmd d) s m args below meth c H locs 0 0 (MQ below (Qr E r) args s 0 0 (eA E)) (F0 m pc ls (st.map (tv E)))
/-- the locals at a method's entry -/
def ent : List Value → List (Option Value)
  | [] => []
  | v :: vs => if v.category = 2 then some v :: none :: ent vs else some v :: ent vs
theorem ent_args (E : EV) : ∀ (vs : List Value) (i : Nat), asc E i (ent vs) = lv_args i (vs.map (tv E))
  | [], i => rfl
  | v :: vs, i => by
    by_cases h : v.category = 2
    · have h2 : (tv E v).category = 2 := by rw [tv_cat]; exact h
      simp only [ent, if_pos h, List.map_cons, lv_args, if_pos h2, asc]
      rw [ent_args E vs]
    · have h2 : ¬ (tv E v).category = 2 := by rw [tv_cat]; exact h
      simp only [ent, if_neg h, List.map_cons, lv_args, if_neg h2, asc]
      rw [ent_args E vs]
theorem asc_app (E : EV) (n : Nat) : ∀ (L : List (Option Value)) (i : Nat), asc E i (L ++ List.replicate n none) = asc E i L
  | [], i => by
    induction n generalizing i with
    | zero => rfl
    | succ n ih =>
      simp only [List.nil_append, List.replicate_succ, asc] at ih ⊢
      exact ih (i + 1)
  | none :: t, i => by simp only [List.cons_append, asc]; exact asc_app E n t (i + 1)
  | some v :: t, i => by simp only [List.cons_append, asc]; rw [asc_app E n t (i + 1)]
theorem lg_sl_tv (E : EV) : ∀ vs : List Value, (lg_sl (vs.map (tv E))).length = (ent vs).length
  | [] => rfl
  | v :: vs => by
    have ih := lg_sl_tv E vs
    by_cases h : v.category = 2
    · have h2 : (tv E v).category = 2 := by rw [tv_cat]; exact h
      simp only [lg_sl, List.map_cons, List.flatMap_cons, List.length_append] at ih ⊢
      simp only [ent, if_pos h, List.length_cons]
      rw [ih]
      cases hv : tv E v <;> rw [hv] at h2 <;> simp_all [Value.category] <;> omega
    · have h2 : ¬ (tv E v).category = 2 := by rw [tv_cat]; exact h
      simp only [lg_sl, List.map_cons, List.flatMap_cons, List.length_append] at ih ⊢
      simp only [ent, if_neg h, List.length_cons]
      rw [ih]
      cases hv : tv E v <;> rw [hv] at h2 <;> simp_all [Value.category] <;> omega
