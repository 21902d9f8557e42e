/-! contracts where cells are made -/
abbrev rmk (d mc ms : Nat) : Room := { frames := d, cells := mc, slots := ms, locals := 60 * d }
def Qk (E : EV) (r : Nat × KF × Mem) : Array Value → State → Outcome → State → Prop := fun _ st oc t => (oc = .returned none ∧ va_P (eD E) vwCl (wn E r.1 r.2.1 r.2.2) t.heap) ∧ va_F (eA E) st t
def QK (E : EV) (r : Nat × KF × Mem) (mc ms : Nat) : List Frame → Array Value → State → State → Prop := fun below args s => MQ below (Qk E r) args s mc ms (eA E)
def Kp (E : EV) (n : Nat) (F : KF) (I : Mem) (U : State) : Prop := CF E U ∧ (CQ E U ∧ U.heap.size = E.2.2.2.2.2 + n ∧ n ≤ 85) ∧ va_P (eD E) vwCl (wn E n F I) U.heap
/-- a contract: n cells before, r behind -/
def Km (E : EV) (d mc ms : Nat) (k : MD) (av : List Value) (n : Nat) (F : KF) (I : Mem) (r : Nat × KF × Mem) : Prop :=
  Met E.1 k.1 [.code k.1 k.2.1 k.2.2.1 k.2.2.2] (rmk d mc ms) (va_Pc (av.map (tv E)) (Kp E n F I)) (Qk E r) mc ms (eA E)
section KM
variable {E : EV} {R : Room} {QQ : List Frame → Array Value → State → State → Prop} {k : MD} {pc : Nat} {L L' : List (Option Value)} {st : List Value} {ce sl n d mc ms : Nat} {F : KF} {I J : Mem} {r : Nat × KF × Mem}
theorem Km.of {av : List Value} (hy : plainName k.1.cls = true) (hL : ent av ++ List.replicate (k.2.2.1 - (ent av).length) none = L) (hn : (ent av).length ≤ k.2.2.1) (h : GK E (rmk d mc ms) (QK E r mc ms) k 0 L [] (0, 0, n, F, I)) : Km E d mc ms k av n F I r := by
  subst hL
  refine Met.ofW (cc := k.2.1) (maxL := k.2.2.1) (ret := k.2.2.2) hy rfl ?_
  intro p e s m args below meth c s₁ B hml hv
  obtain ⟨rfl, hCF, ⟨hCQ, hz, hn9⟩, hP⟩ := hv
  have hl := lv_entry (av.map (tv E)) (n := k.2.2.1) (by rw [lg_sl_tv]; exact hn)
  rw [lg_entry_eq]
  refine h p e s m _ below meth c s.heap [] _ ⟨B.exec, B.bytes, B.returns, hml, findClass_of_methodNamed B.named, B.notSynchronized, hCF⟩ ⟨⟨hCQ, fun hi => (name_of_methodNamed B.named B.method).1.trans hi⟩, hz, hn9⟩ hP va_S.rf ?_
  rw [asc_app, ent_args]
  exact hl
theorem GK.vret (hd : decode k.2.1 pc = .ok (.return_, 1)) (hr : k.2.2.2 = none) (h1 : ce = mc) (h2 : sl = ms) : GK E R (QK E (n, F, I) mc ms) k pc L [] (ce, sl, n, F, I) := by
  subst h1; subst h2
  intro p e s m args below meth c H locs ls C hk hP hS hl
  exact W.vret C.1 C.2.1 (C.2.2.1.trans hr) (fun t ht _ => ⟨⟨rfl, by rw [ht]; exact hP⟩, hS.F ht⟩) hS.2.2 hd C.2.2.2.2.2.1
theorem wk_back {p : Program} {l : Launch} {e : Env} {s : State} {m : MethodId} {args : Array Value} {below : List Frame} {meth : Method} {c : Code} {H : Heap} {locs : List Loc} {ls : Array Slot} {Q : State → Prop} {st0 rest : List Value} {a : Array Value} (hr : va_Run p l e R s m args below meth c H locs ce sl mc ms (F0 m pc ls st0) rest (Qk E r a) (eA E)) (hS : va_S (eA E) s.heap H locs)
    (kk : ∀ (H1 : Heap) (locs1 : List Loc), va_P (eD E) vwCl (wn E r.1 r.2.1 r.2.2) H1 → va_S (eA E) s.heap H1 locs1 → W p l e R s m args below meth c H1 locs1 (ce + mc) (sl + ms) Q (F0 m (pc + 3) ls rest)) : W p l e R s m args below meth c H locs ce sl Q (F0 m pc ls st0) := by
  intro T hT X
  obtain ⟨v1, st₀, t, T', L, h0, X', hL, e1, e2, ⟨⟨hv, hP1⟩, hz, hk⟩, st⟩ := hr T hT X
  cases hv
  rw [h0] at hz hk
  obtain ⟨t2, a1, b1⟩ := kk T'.heap (locs ++ L) (by rw [e1]; exact hP1) ⟨Nat.le_trans hS.1 (by rw [e1]; exact hz), fun q h1 h2 => by rw [e1, hk q (Nat.lt_of_lt_of_le h1 hS.1) h2]; exact hS.2.1 q h1 h2, fun q hq => by
      rcases List.mem_append.mp hq with h | h
      · exact hS.2.2 q h
      · exact hL q h⟩ T' rfl X'
  exact ⟨t2, st t2 a1, b1⟩
theorem Kp_blind (E : EV) (av : List Value) (n : Nat) (F : KF) (I : Mem) : FrameBlind (va_Pc (av.map (tv E)) (Kp E n F I)) := fun a U g mk h => ⟨h.1, h.2.1.blind g mk a, ⟨h.2.2.1.1.warm (State.WarmedH.refl U), h.2.2.1.2⟩, h.2.2.2⟩
theorem Kp_pre {s : State} {H : Heap} {locs : List Loc} (hC : CF E s) (hQ : CQ E s) (hH : H.size = E.2.2.2.2.2 + n) (hn : n ≤ 85) (hP : va_P (eD E) vwCl (wn E n F I) H) (hS : va_S (eA E) s.heap H locs) (av : List Value) : ∀ U : State, U.heap = H → s.WarmedH U.vm → va_Pc (av.map (tv E)) (Kp E n F I) (av.map (tv E)).toArray U := fun U hU hW => ⟨rfl, hC.call hS hU hW, ⟨hQ.warm hW, by rw [hU]; exact hH, hn⟩, by rw [hU]; exact hP⟩
/-- a constructor's words -/
def MI (own : String) (idx : Nat) (k2 : MD) : Prop := MK k2 0 ∧ k2.2.2.2 = none ∧ k2.1.name = "<init>" ∧ Cond.instanceMethod k2.1 ∈ lw_g ∧ (Cond.methodLink own idx k2.1 ∈ lw_g ∨ ∃ host, Cond.methodLinkNest own idx k2.1 host ∈ lw_n)
theorem GK.init {idx b : Nat} {k2 : MD} {n' : Nat} {F' : KF} {I' : Mem} (hd : decode k.2.1 pc = .ok (.invokespecial idx, 3)) (mi : MI k.1.cls idx k2) (hg : Km E d mc ms k2 [.ref b] n F I (n', F', I')) (hrn : n' = n + mc) (h85 : n + mc ≤ 85) (hR1 : d + 1 ≤ R.frames) (hR2 : 60 * (d + 1) ≤ R.locals) (hR3 : ce + mc ≤ R.cells) (hR4 : sl + ms ≤ R.slots) (hW : (st.map fun v => v.category).sum ≤ 8) (kk : GK E R QQ k (pc + 3) L st (ce + mc, sl + ms, n', F', I')) : GK E R QQ k pc L (.ref b :: st) (ce, sl, n, F, I) := by
  intro p e s m args below meth c H locs ls C hk hP hS hl
  obtain ⟨y, bytes, maxL, ret⟩ := k2
  obtain ⟨mk, hret, hnm, m2, m3⟩ := mi
  dsimp only at hret hnm
  subst hret
  have hts := C.2.2.2.2.2.2.hts args
  refine W.sized fun hsz => ?_
  have hH := wn_size C.2.2.2.2.2.2 hk.1.1.1 hk.2.1 hk.2.2 hP hS hsz
  have hlo : 8 + (maxL + 11) + 60 * d ≤ R.locals := by have : maxL ≤ 41 := mk.2.2.2.2.2; omega
  have hk2 : CK E k s meth ∧ s.heap.size + (ce + mc) = E.2.2.2.2.2 + n' ∧ n' ≤ 85 := ⟨hk.1, by rw [hrn]; have := hk.2.1; dsimp only at this; omega, by omega⟩
  rcases m3 with m3 | ⟨host, m3⟩
  · have hrun := va_runI (g := F0 m pc ls ((.ref b :: st : List Value).map (tv E))) (nL := k.2.2.1) (b := eAd E b) (As := []) (rest := st.map (tv E)) (n := 0) (cells := ce) (slots := sl) (below := below) (e := e) (R := R) (locs := locs) (H := H) (bytes := bytes) (maxL := maxL) (meth := meth) ⟨C.1, C.2.1, C.2.2.2.1, C.2.2.2.2.1, hts⟩ hg ⟨⟨rfl, rfl, hR1, hlo, mk_words (args := args) C.2.2.2.2.2.2 mk, List.mem_singleton_self _, hts _ mk.1, hts _ mk.2.1, ⟨mk.2.2.1, mk.2.2.2.1⟩, mk_len mk, hts _ m3⟩, hnm, hts _ m2⟩ ⟨Kp_blind E _ n F I, Kp_pre C.2.2.2.2.2.2 hk.1.1 hH hk.2.2 hP hS [.ref b]⟩ rfl rfl hl.1 rfl (lv_room (by rw [st_cat]; exact hW)) hd ⟨hR3, hR4⟩
    exact wk_back hrun hS (fun H1 locs1 hP1 hS1 => kk p e s m args below meth c H1 locs1 ls C hk2 hP1 hS1 hl)
  · have hrun := va_runIN (g := F0 m pc ls ((.ref b :: st : List Value).map (tv E))) (nL := k.2.2.1) (b := eAd E b) (As := []) (rest := st.map (tv E)) (n := 0) (cells := ce) (slots := sl) (below := below) (e := e) (R := R) (locs := locs) (H := H) (bytes := bytes) (maxL := maxL) (meth := meth) (host := host) ⟨C.1, C.2.1, C.2.2.2.1, C.2.2.2.2.1, hts⟩ hg ⟨⟨⟨rfl, rfl, hR1, hlo, mk_words (args := args) C.2.2.2.2.2.2 mk, List.mem_singleton_self _⟩, hts _ mk.1, hts _ mk.2.1, ⟨mk.2.2.1, mk.2.2.2.1⟩, mk_len mk, va_Nw.use rfl (C.2.2.2.2.2.2.2.1 _ m3)⟩, hnm, hts _ m2⟩ ⟨Kp_blind E _ n F I, Kp_pre C.2.2.2.2.2.2 hk.1.1 hH hk.2.2 hP hS [.ref b]⟩ rfl rfl hl.1 rfl (lv_room (by rw [st_cat]; exact hW)) hd ⟨hR3, hR4⟩
    exact wk_back hrun hS (fun H1 locs1 hP1 hS1 => kk p e s m args below meth c H1 locs1 ls C hk2 hP1 hS1 hl)
theorem GK.callS {idx q : Nat} {k2 : MD} {av rest : List Value} {n' : Nat} {F' : KF} {I' : Mem} (hd : decode k.2.1 pc = .ok (.invokestatic idx, 3)) (mi : MS k.1.cls idx k2 q) (hg : Km E d mc ms k2 av n F I (n', F', I')) (hst : st = av.reverse ++ rest) (hq : av.length = q) (hrn : n' = n + mc) (h85 : n + mc ≤ 85) (hR1 : d + 1 ≤ R.frames) (hR2 : 60 * (d + 1) ≤ R.locals) (hR3 : ce + mc ≤ R.cells) (hR4 : sl + ms ≤ R.slots) (hW : (rest.map fun v => v.category).sum ≤ 8) (kk : GK E R QQ k (pc + 3) L rest (ce + mc, sl + ms, n', F', I')) : GK E R QQ k pc L st (ce, sl, n, F, I) := by
  intro p e s m args below meth c H locs ls C hk hP hS hl
  obtain ⟨mk, m1, m2⟩ := mi
  have hts := C.2.2.2.2.2.2.hts args
  refine W.sized fun hsz => ?_
  have hH := wn_size C.2.2.2.2.2.2 hk.1.1.1 hk.2.1 hk.2.2 hP hS hsz
  have hlo : 8 + (k2.2.2.1 + 11) + 60 * d ≤ R.locals := by have := mk.2.2.2.2.2; omega
  have hk2 : CK E k s meth ∧ s.heap.size + (ce + mc) = E.2.2.2.2.2 + n' ∧ n' ≤ 85 := ⟨hk.1, by rw [hrn]; have := hk.2.1; dsimp only at this; omega, by omega⟩
  have hrun := va_runS (g := F0 m pc ls (st.map (tv E))) (nL := k.2.2.1) (As := av.map (tv E)) (rest := rest.map (tv E)) (n := q) (cells := ce) (slots := sl) (below := below) (e := e) (R := R) (locs := locs) (H := H) (bytes := k2.2.1) (maxL := k2.2.2.1) (ret := k2.2.2.2) (meth := meth) ⟨C.1, C.2.1, C.2.2.2.1, C.2.2.2.2.1, hts⟩ hg ⟨⟨rfl, rfl, hR1, hlo, mk_words (args := args) C.2.2.2.2.2.2 mk, List.mem_singleton_self _, hts _ mk.1, hts _ mk.2.1, ⟨mk.2.2.1, mk.2.2.2.1⟩, mk_len mk, hts _ m1⟩, hts _ m2⟩ ⟨Kp_blind E _ n F I, Kp_pre C.2.2.2.2.2.2 hk.1.1 hH hk.2.2 hP hS av⟩ rfl (by rw [List.length_map]; exact hq) hl.1 (by rw [hst]; exact st_rev E av rest) (lv_room (by rw [st_cat]; exact hW)) hd ⟨hR3, hR4⟩
  exact wk_back hrun hS (fun H1 locs1 hP1 hS1 => kk p e s m args below meth c H1 locs1 ls C hk2 hP1 hS1 hl)
/-- all final references are as they shall be -/
def FE (F : KF) : Prop := ∀ c, c < 85 → ∀ j, j < 18 → F c j = fin c j
theorem fin_18 {c j : Nat} (h : 18 ≤ j) : fin c j = none := by
  unfold fin
  have hl : ∀ l ∈ finL, l.length ≤ 18 := by decide
  rw [List.getD_eq_getElem?_getD, List.getElem?_eq_none]
  · rfl
  · by_cases hc : c < finL.length
    · have h1 := hl _ (List.getElem_mem hc)
      rw [List.getD_eq_getElem?_getD, List.getElem?_eq_getElem hc]
      show (finL[c]).length ≤ j
      omega
    · rw [List.getD_eq_getElem?_getD, List.getElem?_eq_none (by omega)]
      exact Nat.zero_le _
theorem fk_18 (c : Nat) : (fk c).length ≤ 18 := by
  unfold fk
  have hl : ∀ l ∈ fkL, l.length ≤ 18 := by decide
  by_cases hc : c < fkL.length
  · rw [List.getD_eq_getElem?_getD, List.getElem?_eq_getElem hc]
    exact hl _ (List.getElem_mem hc)
  · rw [List.getD_eq_getElem?_getD, List.getElem?_eq_none (by omega)]
    exact Nat.zero_le _
theorem pn_pic (hF : FE F) {c : Nat} (hc : c < 85) : pn E F I c = pic E I c := by
  have h1 : rfn E F c = fun j => (fin c j).map (eAd E) := by
    funext j
    unfold rfn
    by_cases hj : j < 18
    · rw [if_pos hj, hF c hc j hj]
    · rw [if_neg hj, fin_18 (by omega)]
      rfl
  have h2 : fdn E F I c = fds E I c := by
    unfold fdn fds
    apply List.map_congr_left
    intro i hi
    have h3 := List.mem_range.mp hi
    have h4 := fk_18 (lk c)
    unfold fvn fv
    rw [hF c hc i (by omega)]
  unfold pn pic
  rw [h1, h2]
theorem wn_wl (hF : FE F) : wn E 85 F I = wl E I := by
  unfold wn wl
  apply List.map_congr_left
  intro c hc
  rw [pn_pic hF (List.mem_range.mp hc)]
theorem wl_wn : wn E 85 fin I = wl E I := wn_wl (fun _ _ _ _ => rfl)
/-- a call over the whole world -/
theorem GK.callV {idx q b ci : Nat} {k2 : MD} {av rest : List Value} {v : Option Value} (hF : FE F) (hd : decode k.2.1 pc = .ok (.invokevirtual idx, 3)) (mv : MV k.1.cls idx ci k2 q) (hg : Gm E d k2 (.ref b :: av) I (v, J)) (hb : b < 85) (hlk : lk b = ci) (hst : st = av.reverse ++ .ref b :: rest) (hq : av.length = q) (hR1 : d + 1 ≤ R.frames) (hR2 : 60 * (d + 1) ≤ R.locals) (hR3 : ce ≤ R.cells) (hR4 : sl ≤ R.slots) (hW : (rest.map fun v => v.category).sum ≤ 8) (kk : GK E R QQ k (pc + 3) L (v.toList ++ rest) (ce, sl, 85, F, J)) : GK E R QQ k pc L st (ce, sl, 85, F, I) := by
  intro p e s m args below meth c H locs ls C hk hP hS hl
  obtain ⟨mk, m1, m2, m3, ⟨T, N, m4⟩, m5⟩ := mv
  subst hlk
  have hts := C.2.2.2.2.2.2.hts args
  have hlo : 8 + (k2.2.2.1 + 11) + 60 * d ≤ R.locals := by have := mk.2.2.2.2.2; omega
  have hD := wn_D hk.1.1.1 (Nat.le_refl 85) F I
  dsimp only at hP
  rw [wn_wl hF] at hP hD
  have hrun := va_runV (g := F0 m pc ls (st.map (tv E))) (nL := k.2.2.1) (b := eAd E b) (As := av.map (tv E)) (rest := rest.map (tv E)) (n := q) (cells := ce) (slots := sl) (below := below) (e := e) (R := R) (locs := locs) (H := H) (C := k2.1.cls) (bytes := k2.2.1) (maxL := k2.2.2.1) (ret := k2.2.2.2) (meth := meth) ⟨C.1, C.2.1, C.2.2.2.1, C.2.2.2.2.1, hts⟩ hg ⟨⟨rfl, rfl, hR1, hlo, mk_words (args := args) C.2.2.2.2.2.2 mk, List.mem_singleton_self _, hts _ mk.1, hts _ mk.2.1, ⟨mk.2.2.1, mk.2.2.2.1⟩, mk_len mk, hts _ m1⟩, hts _ m2, hts _ m3⟩ ⟨Gm_blind E _ I, va_recv C.2.2.2.2.2.2.2.2.2.1 hP m4 (by rw [wl_get E I hb, pic_r E I m5]), Gm_pre C.2.2.2.2.2.2 hP hD hS (.ref b :: av)⟩ rfl (by rw [List.length_map]; exact hq) hl.1 (by rw [hst]; exact st_revV E b av rest) (lv_room (by rw [st_cat]; exact hW)) hd ⟨hR3, hR4⟩
  intro T0 hT X
  obtain ⟨v1, st₀, t, T', L9, h0, X', hL, e1, e2, ⟨⟨hv, hP1, hD1⟩, hz, hk9⟩, st9⟩ := hrun T0 hT X
  cases hv
  rw [h0] at hz hk9
  have hP2 : va_P (eD E) vwCl (wn E 85 F J) T'.heap := by rw [wn_wl hF, e1]; exact hP1
  obtain ⟨t2, a1, b1⟩ := kk p e s m args below meth c T'.heap (locs ++ L9) ls C hk hP2 ⟨Nat.le_trans hS.1 (by rw [e1]; exact hz), fun q9 h1 h2 => by rw [e1, hk9 q9 (Nat.lt_of_lt_of_le h1 hS.1) h2]; exact hS.2.1 q9 h1 h2, fun q9 hq9 => by
      rcases List.mem_append.mp hq9 with h | h
      · exact hS.2.2 q9 h
      · exact hL q9 h⟩ hl T' rfl X'
  rw [← st_back] at a1
  exact ⟨t2, st9 t2 a1, b1⟩
end KM
