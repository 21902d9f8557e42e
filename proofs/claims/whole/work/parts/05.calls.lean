section GC
variable {E : EV} {d : Nat} {k : MD} {pc : Nat} {L L' : List (Option Value)} {st : List Value} {I J : Mem} {r : Option Value × Mem} {v : Option Value} {k2 : MD} {av rest : List Value} {idx n b : Nat}
theorem w_back {p : Program} {l : Launch} {e : Env} {R : Room} {s : State} {m : MethodId} {args : Array Value} {below : List Frame} {meth : Method} {c : Code} {H : Heap} {locs : List Loc} {ls : Array Slot} {Q : State → Prop} {pc : Nat} {st0 rest : List Value} {a : Array Value} {v : Option Value} {J : Mem} (hr : va_Run p l e R s m args below meth c H locs 0 0 0 0 (F0 m pc ls st0) rest (Qr E (v, J) a) (eA E)) (hS : va_S (eA E) s.heap H locs)
    (kk : ∀ (H1 : Heap) (locs1 : List Loc), va_P (eD E) vwCl (wl E J) H1 → va_D (eA E) (wl E J) → va_S (eA E) s.heap H1 locs1 → W p l e R s m args below meth c H1 locs1 0 0 Q (F0 m (pc + 3) ls ((v.map (tv E)).toList ++ rest))) : W p l e R s m args below meth c H locs 0 0 Q (F0 m pc ls st0) := by
  intro T hT X
  obtain ⟨v1, st₀, t, T', L, h0, X', hL, e1, e2, ⟨⟨hv, hP1, hD1⟩, hz, hk⟩, st⟩ := hr T hT X
  cases hv
  rw [h0] at hz hk
  obtain ⟨t2, a1, b1⟩ := kk T'.heap (locs ++ L) (by rw [e1]; exact hP1) hD1 ⟨Nat.le_trans hS.1 (by rw [e1]; exact hz), fun q h1 h2 => by rw [e1, hk q (Nat.lt_of_lt_of_le h1 hS.1) h2]; exact hS.2.1 q h1 h2, fun q hq => by
      rcases List.mem_append.mp hq with h | h
      · exact hS.2.2 q h
      · exact hL q h⟩ T' rfl X'
  exact ⟨t2, st t2 a1, b1⟩
theorem Gm_blind (E : EV) (av : List Value) (I : Mem) : FrameBlind (va_Pc (av.map (tv E)) (fun U => CF E U ∧ va_P (eD E) vwCl (wl E I) U.heap ∧ va_D (eA E) (wl E I))) := fun a U g mk h => ⟨h.1, h.2.1.blind g mk a, h.2.2.1, h.2.2.2⟩
theorem Gm_pre {E : EV} {s : State} {H : Heap} {locs : List Loc} {I : Mem} (hC : CF E s) (hP : va_P (eD E) vwCl (wl E I) H) (hD : va_D (eA E) (wl E I)) (hS : va_S (eA E) s.heap H locs) (av : List Value) : ∀ U : State, U.heap = H → s.WarmedH U.vm → va_Pc (av.map (tv E)) (fun U => CF E U ∧ va_P (eD E) vwCl (wl E I) U.heap ∧ va_D (eA E) (wl E I)) (av.map (tv E)).toArray U := fun U hU hW => ⟨rfl, hC.call hS hU hW, by rw [hU]; exact hP, hD⟩
/-- a callee: it is no handle, its parameters, its locals -/
def MK (k2 : MD) (n : Nat) : Prop := Cond.code k2.1 k2.2.1 k2.2.2.1 k2.2.2.2 ∈ lw_g ∧ Cond.initialized k2.1.cls ∈ lw_g ∧ k2.1.cls ≠ "java/lang/invoke/MethodHandle" ∧ k2.1.cls ≠ "java/lang/invoke/VarHandle" ∧ (parseMethodDescriptor k2.1.desc).map (fun d => d.parameters.length) = some n ∧ k2.2.2.1 ≤ 41
def MS (own : String) (idx : Nat) (k2 : MD) (n : Nat) : Prop := MK k2 n ∧ Cond.methodLink own idx k2.1 ∈ lw_g ∧ Cond.static k2.1 ∈ lw_g
def MN (own : String) (idx : Nat) (k2 : MD) (n : Nat) : Prop := MK k2 n ∧ (∃ host, Cond.methodLinkNest own idx k2.1 host ∈ lw_n) ∧ Cond.static k2.1 ∈ lw_g
def MV (own : String) (idx ci : Nat) (k2 : MD) (n : Nat) : Prop := MK k2 n ∧ Cond.methodLink own idx k2.1 ∈ lw_g ∧ Cond.instanceMethod k2.1 ∈ lw_g ∧ Cond.selects k2.1.cls k2.1 k2.1 ∈ lw_g ∧ (∃ (T : u_T) (N : Nat), vwCl[ci]? = some (k2.1.cls, T, N)) ∧ ci < 13
def MO (own : String) (idx ci : Nat) (k2 : MD) (n : Nat) : Prop := MK k2 n ∧ ∃ (C owner : String) (x : MethodName) (T : u_T) (N : Nat) (b0 : ByteArray) (m0 : Nat) (r0 : Option FieldType), vwCl[ci]? = some (C, T, N) ∧ ci < 13 ∧ Cond.methodLink own idx x ∈ lw_g ∧ Cond.sameMethod x.cls owner x.name x.desc ∈ lw_g ∧ Cond.instanceMethod ⟨owner, x.name, x.desc⟩ ∈ lw_g ∧ Cond.selects C x k2.1 ∈ lw_g ∧ Cond.instanceMethod k2.1 ∈ lw_g ∧ Cond.code ⟨owner, x.name, x.desc⟩ b0 m0 r0 ∈ lw_g ∧ owner ≠ "java/lang/invoke/MethodHandle" ∧ owner ≠ "java/lang/invoke/VarHandle" ∧ (parseMethodDescriptor x.desc).map (fun d => d.parameters.length) = some n
def MP (own : String) (idx ci : Nat) (k2 : MD) (n : Nat) : Prop := MK k2 n ∧ Cond.methodLink own idx k2.1 ∈ lw_g ∧ Cond.sameMethod k2.1.cls k2.1.cls k2.1.name k2.1.desc ∈ lw_g ∧ Cond.superclass own k2.1.cls ∈ lw_g ∧ Cond.instanceMethod k2.1 ∈ lw_g ∧ k2.1.name ≠ "<init>" ∧ (∃ (C : String) (T : u_T) (N : Nat), vwCl[ci]? = some (C, T, N)) ∧ ci < 13
theorem mk_words {s : State} {args : Array Value} (hC : CF E s) (h : MK k2 n) : ∀ w ∈ [Cond.code k2.1 k2.2.1 k2.2.2.1 k2.2.2.2], ∀ (a' : Array Value) (U : State), s.WarmedH U.vm → w.before a' U = true := fun w hw a' U hW => by
  rw [List.mem_singleton] at hw
  rw [hw]
  exact word_at hW (good_word h.1) (hC.1 _ h.1)
theorem mk_len (h : MK k2 n) : ∀ sig, parseMethodDescriptor k2.1.desc = some sig → n = sig.parameters.length := fun sig hs => by
  have h2 := h.2.2.2.2.1
  rw [hs] at h2
  exact (Option.some.inj h2).symm
theorem mk_room (h : MK k2 n) : (rmd d).frames + 1 ≤ (rmd (d + 1)).frames ∧ 8 + (k2.2.2.1 + 11) + (rmd d).locals ≤ (rmd (d + 1)).locals := ⟨Nat.le_refl _, by have := h.2.2.2.2.2; show 8 + (k2.2.2.1 + 11) + 60 * d ≤ 60 * (d + 1); omega⟩
theorem st_rev (E : EV) (av rest : List Value) : (av.reverse ++ rest).map (tv E) = (av.map (tv E)).reverse ++ rest.map (tv E) := by rw [List.map_append, List.map_reverse]
theorem st_cat (E : EV) (rest : List Value) : ((rest.map (tv E)).map fun v => v.category).sum = (rest.map fun v => v.category).sum := by
  rw [List.map_map]
  congr 1
  apply List.map_congr_left
  intro v _
  exact tv_cat E v
theorem st_back (E : EV) (v : Option Value) (rest : List Value) : (v.map (tv E)).toList ++ rest.map (tv E) = (v.toList ++ rest).map (tv E) := by cases v <;> rfl
theorem G.callS (hd : decode k.2.1 pc = .ok (.invokestatic idx, 3)) (ms : MS k.1.cls idx k2 n) (hg : Gm E d k2 av I (v, J)) (hst : st = av.reverse ++ rest) (hn : av.length = n) (hW : (rest.map fun v => v.category).sum ≤ 8) (kk : G E (d + 1) k (pc + 3) L (v.toList ++ rest) J r) : G E (d + 1) k pc L st I r := by
  intro p e s m args below meth c H locs ls C hP hD hS hl
  obtain ⟨mk, m1, m2⟩ := ms
  have hts := C.2.2.2.2.2.2.hts args
  have hrun := va_runS (g := F0 m pc ls (st.map (tv E))) (nL := k.2.2.1) (As := av.map (tv E)) (rest := rest.map (tv E)) (n := n) (cells := 0) (slots := 0) (below := below) (e := e) (R := rmd (d + 1)) (locs := locs) (H := H) (bytes := k2.2.1) (maxL := k2.2.2.1) (ret := k2.2.2.2) (meth := meth) ⟨C.1, C.2.1, C.2.2.2.1, C.2.2.2.2.1, hts⟩ hg ⟨⟨rfl, rfl, (mk_room mk).1, (mk_room mk).2, mk_words (args := args) C.2.2.2.2.2.2 mk, List.mem_singleton_self _, hts _ mk.1, hts _ mk.2.1, ⟨mk.2.2.1, mk.2.2.2.1⟩, mk_len mk, hts _ m1⟩, hts _ m2⟩ ⟨Gm_blind E av I, Gm_pre C.2.2.2.2.2.2 hP hD hS av⟩ rfl (by rw [List.length_map]; exact hn) hl.1 (by rw [hst]; exact st_rev E av rest) (lv_room (by rw [st_cat]; exact hW)) hd ⟨Nat.le_refl _, Nat.le_refl _⟩
  refine w_back hrun hS (fun H1 locs1 hP1 hD1 hS1 => ?_)
  rw [st_back]
  exact kk p e s m args below meth c H1 locs1 ls C hP1 hD1 hS1 hl
theorem G.callN (hd : decode k.2.1 pc = .ok (.invokestatic idx, 3)) (ms : MN k.1.cls idx k2 n) (hg : Gm E d k2 av I (v, J)) (hst : st = av.reverse ++ rest) (hn : av.length = n) (hW : (rest.map fun v => v.category).sum ≤ 8) (kk : G E (d + 1) k (pc + 3) L (v.toList ++ rest) J r) : G E (d + 1) k pc L st I r := by
  intro p e s m args below meth c H locs ls C hP hD hS hl
  obtain ⟨mk, ⟨host, m1⟩, m2⟩ := ms
  have hts := C.2.2.2.2.2.2.hts args
  have hrun := va_runSN (g := F0 m pc ls (st.map (tv E))) (nL := k.2.2.1) (As := av.map (tv E)) (rest := rest.map (tv E)) (n := n) (cells := 0) (slots := 0) (below := below) (e := e) (R := rmd (d + 1)) (locs := locs) (H := H) (bytes := k2.2.1) (maxL := k2.2.2.1) (ret := k2.2.2.2) (meth := meth) (host := host) ⟨C.1, C.2.1, C.2.2.2.1, C.2.2.2.2.1, hts⟩ hg ⟨⟨⟨rfl, rfl, (mk_room mk).1, (mk_room mk).2, mk_words (args := args) C.2.2.2.2.2.2 mk, List.mem_singleton_self _⟩, hts _ mk.1, hts _ mk.2.1, ⟨mk.2.2.1, mk.2.2.2.1⟩, mk_len mk, va_Nw.use rfl (C.2.2.2.2.2.2.2.1 _ m1)⟩, hts _ m2, trivial⟩ ⟨Gm_blind E av I, Gm_pre C.2.2.2.2.2.2 hP hD hS av⟩ rfl (by rw [List.length_map]; exact hn) hl.1 (by rw [hst]; exact st_rev E av rest) (lv_room (by rw [st_cat]; exact hW)) hd ⟨Nat.le_refl _, Nat.le_refl _⟩
  refine w_back hrun hS (fun H1 locs1 hP1 hD1 hS1 => ?_)
  rw [st_back]
  exact kk p e s m args below meth c H1 locs1 ls C hP1 hD1 hS1 hl
theorem st_revV (E : EV) (b : Nat) (av rest : List Value) : (av.reverse ++ .ref b :: rest).map (tv E) = (av.map (tv E)).reverse ++ .ref (eAd E b) :: rest.map (tv E) := by rw [List.map_append, List.map_reverse]; rfl
theorem G.callV {ci : Nat} (hd : decode k.2.1 pc = .ok (.invokevirtual idx, 3)) (ms : MV k.1.cls idx ci k2 n) (hg : Gm E d k2 (.ref b :: av) I (v, J)) (hb : b < NC) (hk : lk b = ci) (hst : st = av.reverse ++ .ref b :: rest) (hn : av.length = n) (hW : (rest.map fun v => v.category).sum ≤ 8) (kk : G E (d + 1) k (pc + 3) L (v.toList ++ rest) J r) : G E (d + 1) k pc L st I r := by
  intro p e s m args below meth c H locs ls C hP hD hS hl
  obtain ⟨mk, m1, m2, m3, ⟨T, N, m4⟩, m5⟩ := ms
  subst hk
  have hts := C.2.2.2.2.2.2.hts args
  have hrun := va_runV (g := F0 m pc ls (st.map (tv E))) (nL := k.2.2.1) (b := eAd E b) (As := av.map (tv E)) (rest := rest.map (tv E)) (n := n) (cells := 0) (slots := 0) (below := below) (e := e) (R := rmd (d + 1)) (locs := locs) (H := H) (C := k2.1.cls) (bytes := k2.2.1) (maxL := k2.2.2.1) (ret := k2.2.2.2) (meth := meth) ⟨C.1, C.2.1, C.2.2.2.1, C.2.2.2.2.1, hts⟩ hg ⟨⟨rfl, rfl, (mk_room mk).1, (mk_room mk).2, mk_words (args := args) C.2.2.2.2.2.2 mk, List.mem_singleton_self _, hts _ mk.1, hts _ mk.2.1, ⟨mk.2.2.1, mk.2.2.2.1⟩, mk_len mk, hts _ m1⟩, hts _ m2, hts _ m3⟩ ⟨Gm_blind E _ I, va_recv C.2.2.2.2.2.2.2.2.2.1 hP m4 (by rw [wl_get E I hb, pic_r E I m5]), Gm_pre C.2.2.2.2.2.2 hP hD hS (.ref b :: av)⟩ rfl (by rw [List.length_map]; exact hn) hl.1 (by rw [hst]; exact st_revV E b av rest) (lv_room (by rw [st_cat]; exact hW)) hd ⟨Nat.le_refl _, Nat.le_refl _⟩
  refine w_back hrun hS (fun H1 locs1 hP1 hD1 hS1 => ?_)
  rw [st_back]
  exact kk p e s m args below meth c H1 locs1 ls C hP1 hD1 hS1 hl
theorem G.callO {ci : Nat} (hd : decode k.2.1 pc = .ok (.invokevirtual idx, 3)) (ms : MO k.1.cls idx ci k2 n) (hg : Gm E d k2 (.ref b :: av) I (v, J)) (hb : b < NC) (hk : lk b = ci) (hst : st = av.reverse ++ .ref b :: rest) (hn : av.length = n) (hW : (rest.map fun v => v.category).sum ≤ 8) (kk : G E (d + 1) k (pc + 3) L (v.toList ++ rest) J r) : G E (d + 1) k pc L st I r := by
  intro p e s m args below meth c H locs ls C hP hD hS hl
  obtain ⟨mk, C9, owner, x, T, N, b0, m0, r0, m4, m5, m1, m2, m3, m6, m7, m8, m9, m10, m11⟩ := ms
  subst hk
  have hts := C.2.2.2.2.2.2.hts args
  have hlen : ∀ sig, parseMethodDescriptor x.desc = some sig → n = sig.parameters.length := fun sig hs => by
    rw [hs] at m11
    exact (Option.some.inj m11).symm
  have hrun := va_runU (g := F0 m pc ls (st.map (tv E))) (nL := k.2.2.1) (b := eAd E b) (As := av.map (tv E)) (rest := rest.map (tv E)) (n := n) (cells := 0) (slots := 0) (below := below) (e := e) (R := rmd (d + 1)) (locs := locs) (H := H) (C := C9) (owner := owner) (x := x) (bytes := k2.2.1) (maxL := k2.2.2.1) (ret := k2.2.2.2) (meth := meth) ⟨C.1, C.2.1, C.2.2.2.1, C.2.2.2.2.1, hts⟩ hg ⟨⟨rfl, rfl, (mk_room mk).1, (mk_room mk).2, mk_words (args := args) C.2.2.2.2.2.2 mk, List.mem_singleton_self _⟩, hts _ mk.1, hts _ mk.2.1, ⟨m9, m10⟩, hlen, hts _ m1, hts _ m2, va_Decl.of (hts _ m3) (hts _ m8), hts _ m6, hts _ m7⟩ ⟨Gm_blind E _ I, va_recv C.2.2.2.2.2.2.2.2.2.1 hP m4 (by rw [wl_get E I hb, pic_r E I m5]), Gm_pre C.2.2.2.2.2.2 hP hD hS (.ref b :: av)⟩ rfl (by rw [List.length_map]; exact hn) hl.1 (by rw [hst]; exact st_revV E b av rest) (lv_room (by rw [st_cat]; exact hW)) hd ⟨Nat.le_refl _, Nat.le_refl _⟩
  refine w_back hrun hS (fun H1 locs1 hP1 hD1 hS1 => ?_)
  rw [st_back]
  exact kk p e s m args below meth c H1 locs1 ls C hP1 hD1 hS1 hl
theorem G.callP {ci : Nat} (hd : decode k.2.1 pc = .ok (.invokespecial idx, 3)) (ms : MP k.1.cls idx ci k2 n) (hg : Gm E d k2 (.ref b :: av) I (v, J)) (hb : b < NC) (hk : lk b = ci) (hst : st = av.reverse ++ .ref b :: rest) (hn : av.length = n) (hW : (rest.map fun v => v.category).sum ≤ 8) (kk : G E (d + 1) k (pc + 3) L (v.toList ++ rest) J r) : G E (d + 1) k pc L st I r := by
  intro p e s m args below meth c H locs ls C hP hD hS hl
  obtain ⟨mk, m1, m2, m3, m4, m5, ⟨C9, T, N, m6⟩, m7⟩ := ms
  subst hk
  have hts := C.2.2.2.2.2.2.hts args
  have hat : ClassAt s C9 (E.2.1 (lk b)) := by
    have h9 := C.2.2.2.2.2.2.2.2.2.1.1 _ _ m6
    exact h9.2
  have hrun := va_runSU (g := F0 m pc ls (st.map (tv E))) (nL := k.2.2.1) (b := eAd E b) (As := av.map (tv E)) (rest := rest.map (tv E)) (n := n) (cells := 0) (slots := 0) (below := below) (e := e) (R := rmd (d + 1)) (locs := locs) (H := H) (C := C9) (bytes := k2.2.1) (maxL := k2.2.2.1) (ret := k2.2.2.2) (meth := meth) hat ⟨C.1, C.2.1, C.2.2.2.1, C.2.2.2.2.1, hts⟩ hg ⟨⟨rfl, rfl, (mk_room mk).1, (mk_room mk).2, mk_words (args := args) C.2.2.2.2.2.2 mk, List.mem_singleton_self _⟩, hts _ m1, hts _ m2, hts _ m3, hts _ m4, hts _ mk.2.1, hts _ mk.1, m5, mk_len mk⟩ ⟨Gm_blind E _ I, va_recv C.2.2.2.2.2.2.2.2.2.1 hP m6 (by rw [wl_get E I hb, pic_r E I m7]), Gm_pre C.2.2.2.2.2.2 hP hD hS (.ref b :: av)⟩ rfl (by rw [List.length_map]; exact hn) hl.1 (by rw [hst]; exact st_revV E b av rest) (lv_room (by rw [st_cat]; exact hW)) hd ⟨Nat.le_refl _, Nat.le_refl _⟩
  refine w_back hrun hS (fun H1 locs1 hP1 hD1 hS1 => ?_)
  rw [st_back]
  exact kk p e s m args below meth c H1 locs1 ls C hP1 hD1 hS1 hl
/-- System.arraycopy of ints -/
def cpA (f g : Nat → Int32) (sp dp n : Nat) : Nat → Int32 := va_cpy f g sp dp n
/-- the places are within -/
def cpok (sp dp n : Int32) (n0 n1 : Nat) : Bool := !(decide (sp < 0)) && !(decide (dp < 0)) && !(decide (n < 0)) && decide (ix sp + ix n ≤ n0) && decide (ix dp + ix n ≤ n1)
def MA (own : String) (idx : Nat) : Prop := Cond.methodLink own idx arraycopyName ∈ lw_g ∧ Cond.native arraycopyName ∈ lw_g ∧ Cond.static arraycopyName ∈ lw_g ∧ Cond.initialized "java/lang/System" ∈ lw_g
theorem G.acopy {a a0 : Nat} {sp dp n : Int32} (hd : decode k.2.1 pc = .ok (.invokestatic idx, 3)) (ms : MA k.1.cls idx) (ha0 : a0 < NC) (hk0 : lk a0 = 13) (ha : a < NC) (hk : lk a = 13) (hok : cpok sp dp n (ln a0) (ln a) = true) (hW : (rest.map fun v => v.category).sum ≤ 8) (kk : G E (d + 1) k (pc + 3) L rest (upA I a (cpA (I a0) (I a) (ix sp) (ix dp) (ix n))) r) : G E (d + 1) k pc L (.int n :: .int dp :: .ref a :: .int sp :: .ref a0 :: rest) I r := by
  intro p e s m args below meth c H locs ls C hP hD hS hl
  have hts := C.2.2.2.2.2.2.hts args
  simp only [cpok, Bool.and_eq_true, Bool.not_eq_true', decide_eq_false_iff_not, decide_eq_true_eq] at hok
  obtain ⟨⟨⟨⟨o1, o2⟩, o3⟩, o4⟩, o5⟩ := hok
  have hR1 : 1 ≤ (rmd (d + 1)).frames := by show 1 ≤ d + 1; omega
  have hR2 : ((rest.map (tv E)).map fun v => v.category).sum + (nativeFrameWords "java/lang/System" "arraycopy" 5 + 11) ≤ (rmd (d + 1)).locals := by
    rw [st_cat]
    have h9 : nativeFrameWords "java/lang/System" "arraycopy" 5 + 11 ≤ 40 := by decide
    show _ ≤ 60 * (d + 1)
    omega
  refine va_copyi (R := rmd (d + 1)) (sp := sp) (dp := dp) (n := n) (rest := rest.map (tv E)) C.1 C.2.1 (C.2.2.2.1.trans hl.1.symm) C.2.2.2.2.1 (hts _ ms.1) (hts _ ms.2.1) (hts _ ms.2.2.1) (hts _ ms.2.2.2) C.2.2.2.2.2.2.2.2.2.1 hP hD hS a0 a 0 0 (ty := .int) (by rw [wl_get E I ha0, pic_i E I hk0]) (by rw [wl_get E I ha, pic_i E I hk]) rfl rfl rfl o1 o2 o3 o4 o5 (fun _ _ => rfl) hR1 hR2 hd (fun H1 locs1 hP1 hD1 hS1 => ?_)
  rw [wl_upi E I ha hk] at hP1 hD1
  exact kk p e s m args below meth c H1 locs1 ls C hP1 hD1 hS1 hl
end GC
