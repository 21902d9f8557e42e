section GS
variable {E : EV} {d : Nat} {k : MD} {pc : Nat} {L L' : List (Option Value)} {st : List Value} {I J : Mem} {r : Option Value × Mem} {v : Option Value} {k2 : MD} {av rest : List Value} {idx n b i : Nat}
/-- a String constant of the reader -/
theorem G.ldcS (hd : decode k.2.1 pc = .ok (.ldc idx, 2)) (hi : i < 7) (hx : (strT.getD i (0, "")).1 = idx) (hk : k.1.cls = RX8) (kk : G E d k (pc + 2) L (.ref (1000 + i) :: st) I r) : G E d k pc L st I r := by
  intro p e s m args below meth c H locs ls C hP hD hS hl
  subst hx
  exact va_ldcS (own := RX8) C.1 C.2.1 (by rw [← hk]; exact C.2.2.2.2.1) (C.2.2.2.2.2.2.2.2.2.2.1 i hi) hd (kk p e s m args below meth c H locs ls C hP hD hS hl)
theorem G.getSV (hd : decode k.2.1 pc = .ok (.getfield idx, 3)) (hi : i < 7) (hl0 : Cond.fieldLink k.1.cls idx "java/lang/String" "value" "[B" ∈ lw_g) (kk : G E d k (pc + 3) L (.ref (1010 + i) :: st) I r) : G E d k pc L (.ref (1000 + i) :: st) I r := by
  intro p e s m args below meth c H locs ls C hP hD hS hl
  exact vk_getf C.1 C.2.1 (C.2.2.2.2.2.2.2.2.2.2.2.1.1 i hi).2.2.1 hS C.2.2.2.2.1 (C.2.2.2.2.2.2.hts args _ hl0) (fun _ h => h) hd (kk p e s m args below meth c H locs ls C hP hD hS hl)
theorem G.getSC (hd : decode k.2.1 pc = .ok (.getfield idx, 3)) (hi : i < 7) (hl0 : Cond.fieldLink k.1.cls idx "java/lang/String" "coder" "B" ∈ lw_g) (kk : G E d k (pc + 3) L (.int 0 :: st) I r) : G E d k pc L (.ref (1000 + i) :: st) I r := by
  intro p e s m args below meth c H locs ls C hP hD hS hl
  exact vk_getf C.1 C.2.1 (C.2.2.2.2.2.2.2.2.2.2.2.1.1 i hi).2.1 hS C.2.2.2.2.1 (C.2.2.2.2.2.2.hts args _ hl0) (fun _ h => h) hd (kk p e s m args below meth c H locs ls C hP hD hS hl)
theorem G.getCS (hd : decode k.2.1 pc = .ok (.getstatic idx, 3)) (hl0 : Cond.fieldLink k.1.cls idx "java/lang/String" "COMPACT_STRINGS" "Z" ∈ lw_g) (kk : G E d k (pc + 3) L (.int 1 :: st) I r) : G E d k pc L st I r := by
  intro p e s m args below meth c H locs ls C hP hD hS hl
  exact va_gets C.1 C.2.1 C.2.2.2.2.2.2.2.2.2.2.2.2.1 hS C.2.2.2.2.1 (C.2.2.2.2.2.2.hts args _ hl0) (fun _ h => h) hd (kk p e s m args below meth c H locs ls C hP hD hS hl)
theorem G.getSF (hd : decode k.2.1 pc = .ok (.getstatic idx, 3)) (hl0 : Cond.fieldLink k.1.cls idx "jdk/internal/util/Preconditions" "SIOOBE_FORMATTER" "Ljava/util/function/BiFunction;" ∈ lw_g) (kk : ∀ w : Value, (w = .null ∨ w = .ref 1020) → G E d k (pc + 3) L (w :: st) I r) : G E d k pc L st I r := by
  intro p e s m args below meth c H locs ls C hP hD hS hl
  rcases C.2.2.2.2.2.2.2.2.2.2.2.2.2 with h | h
  · exact va_gets C.1 C.2.1 h hS C.2.2.2.2.1 (C.2.2.2.2.2.2.hts args _ hl0) (fun _ h => h) hd (kk .null (Or.inl rfl) p e s m args below meth c H locs ls C hP hD hS hl)
  · exact va_gets C.1 C.2.1 h hS C.2.2.2.2.1 (C.2.2.2.2.2.2.hts args _ hl0) (fun _ h => h) hd (kk (.ref 1020) (Or.inr rfl) p e s m args below meth c H locs ls C hP hD hS hl)
theorem G.slen (hd : decode k.2.1 pc = .ok (.arraylength, 1)) (hi : i < 7) (kk : G E d k (pc + 1) L (.int (nI (strN.getD i 0)) :: st) I r) : G E d k pc L (.ref (1010 + i) :: st) I r := by
  intro p e s m args below meth c H locs ls C hP hD hS hl
  exact va_tlen C.1 C.2.1 (C.2.2.2.2.2.2.2.2.2.2.2.1.1 i hi).2.2.2 hS rfl hd (kk p e s m args below meth c H locs ls C hP hD hS hl)
theorem G.sbld {j : Int32} (hd : decode k.2.1 pc = .ok (.baload, 1)) (hi : i < 7) (hin : inb j (strN.getD i 0) = true) (kk : G E d k (pc + 1) L (.int ((strB.getD i []).getD (ix j) 0) :: st) I r) : G E d k pc L (.int j :: .ref (1010 + i) :: st) I r := by
  intro p e s m args below meth c H locs ls C hP hD hS hl
  exact va_tb C.1 C.2.1 (C.2.2.2.2.2.2.2.2.2.2.2.1.1 i hi).2.2.2 hS (inb_in hin) rfl hd (kk p e s m args below meth c H locs ls C hP hD hS hl)
def MJ (own : String) (idx : Nat) (k2 : MD) (n : Nat) : Prop := MK k2 n ∧ Cond.methodLink own idx k2.1 ∈ lw_g ∧ Cond.instanceMethod k2.1 ∈ lw_g ∧ Cond.selects "java/lang/String" k2.1 k2.1 ∈ lw_g
theorem G.callJ (hd : decode k.2.1 pc = .ok (.invokevirtual idx, 3)) (ms : MJ k.1.cls idx k2 n) (hg : Gm E d k2 (.ref (1000 + i) :: av) I (v, J)) (hi : i < 7) (hst : st = av.reverse ++ .ref (1000 + i) :: rest) (hn : av.length = n) (hW : (rest.map fun v => v.category).sum ≤ 8) (kk : G E (d + 1) k (pc + 3) L (v.toList ++ rest) J r) : G E (d + 1) k pc L st I r := by
  intro p e s m args below meth c H locs ls C hP hD hS hl
  obtain ⟨mk, m1, m2, m3⟩ := ms
  have hts := C.2.2.2.2.2.2.hts args
  have hrun := va_runV (g := F0 m pc ls (st.map (tv E))) (nL := k.2.2.1) (b := eAd E (1000 + i)) (As := av.map (tv E)) (rest := rest.map (tv E)) (n := n) (cells := 0) (slots := 0) (below := below) (e := e) (R := rmd (d + 1)) (locs := locs) (H := H) (C := "java/lang/String") (bytes := k2.2.1) (maxL := k2.2.2.1) (ret := k2.2.2.2) (meth := meth) ⟨C.1, C.2.1, C.2.2.2.1, C.2.2.2.2.1, hts⟩ hg ⟨⟨rfl, rfl, (mk_room mk).1, (mk_room mk).2, mk_words (args := args) C.2.2.2.2.2.2 mk, List.mem_singleton_self _, hts _ mk.1, hts _ mk.2.1, ⟨mk.2.2.1, mk.2.2.2.1⟩, mk_len mk, hts _ m1⟩, hts _ m2, hts _ m3⟩ ⟨Gm_blind E _ I, vk_recv (adK := fun i => eAd E (1000 + i)) (i := i) C.2.2.2.2.2.2.2.2.2.2.2.1 hi hS, Gm_pre C.2.2.2.2.2.2 hP hD hS (.ref (1000 + i) :: av)⟩ rfl (by rw [List.length_map]; exact hn) hl.1 (by rw [hst]; exact st_revV E (1000 + i) av rest) (lv_room (by rw [st_cat]; exact hW)) hd ⟨Nat.le_refl _, Nat.le_refl _⟩
  refine w_back hrun hS (fun H1 locs1 hP1 hD1 hS1 => ?_)
  rw [st_back]
  exact kk p e s m args below meth c H1 locs1 ls C hP1 hD1 hS1 hl
theorem G.callJi {v : Int32} (hd : decode k.2.1 pc = .ok (.invokevirtual idx, 3)) (ms : MJ k.1.cls idx k2 n) (hg : Gm E d k2 (.ref (1000 + i) :: av) I (some (.int v), J)) (hi : i < 7) (hst : st = av.reverse ++ .ref (1000 + i) :: rest) (hn : av.length = n) (hW : (rest.map fun v => v.category).sum ≤ 8) (kk : G E (d + 1) k (pc + 3) L (.int v :: rest) J r) : G E (d + 1) k pc L st I r := G.callJ hd ms hg hi hst hn hW kk
/-- super.m() whose code is the superclass's superclass's -/
def MQ2 (own : String) (idx ci : Nat) (k2 : MD) (n : Nat) : Prop := MK k2 n ∧ ∃ (x : MethodName) (C : String) (T : u_T) (N : Nat), Cond.methodLink own idx x ∈ lw_g ∧ Cond.sameMethod x.cls k2.1.cls x.name x.desc ∈ lw_g ∧ Cond.superclass own x.cls ∈ lw_g ∧ Cond.superclass x.cls k2.1.cls ∈ lw_g ∧ Cond.instanceMethod k2.1 ∈ lw_g ∧ x.name ≠ "<init>" ∧ k2.1 = ⟨k2.1.cls, x.name, x.desc⟩ ∧ vwCl[ci]? = some (C, T, N) ∧ ci < 13
theorem G.callQi {ci : Nat} {v : Int32} (hd : decode k.2.1 pc = .ok (.invokespecial idx, 3)) (ms : MQ2 k.1.cls idx ci k2 n) (hg : Gm E d k2 (.ref b :: av) I (some (.int v), J)) (hb : b < NC) (hk : lk b = ci) (hst : st = av.reverse ++ .ref b :: rest) (hn : av.length = n) (hW : (rest.map fun v => v.category).sum ≤ 8) (kk : G E (d + 1) k (pc + 3) L (.int v :: rest) J r) : G E (d + 1) k pc L st I r := by
  intro p e s m args below meth c H locs ls C hP hD hS hl
  obtain ⟨mk, x, C9, T9, N9, m1, m2, m3, m4, m5, m6, m7, m8, m9⟩ := ms
  subst hk
  have hts := C.2.2.2.2.2.2.hts args
  have hown := C.2.2.2.2.1
  obtain ⟨mk0, methM, hnamed, hmethM, hstM, habM⟩ := Cond.instanceMethod_spec (hts _ m5)
  obtain ⟨methM', cM, hmethM', -, -, -, -, -, -, hsigM⟩ := Cond.code_spec hnamed (hts _ mk.1)
  cases hmethM.symm.trans hmethM'
  obtain ⟨ps, dk, kp, hps, hdk, hkp, hsuper, -, -, hnid⟩ := Cond.superclass_spec hown (hts _ m3)
  obtain ⟨pt, dk2, kp2, hpt, hdk2, hkp2, hsuper2, -, -, -⟩ := Cond.superclass_spec hps (hts _ m4)
  have hpm : pt = mk0.cls := Option.some.inj (hpt.symm.trans (findClass_of_methodNamed hnamed))
  have hsz : ps < s.vm.classes.size := (Array.getElem?_eq_some_iff.mp hdk2).1
  have hsub : s.vm.isSubclass ps mk0.cls = true := by
    rw [← hpm]
    unfold Vm.isSubclass
    obtain ⟨q, hq⟩ : ∃ q, s.vm.classes.size = q + 1 := ⟨s.vm.classes.size - 1, (Nat.succ_pred_eq_of_pos (Nat.lt_of_le_of_lt (Nat.zero_le _) hsz)).symm⟩
    rw [hq]
    simp [Vm.isSubclassAux, hdk2, hsuper2]
  have hn2 : s.methodNamed? ⟨k2.1.cls, x.name, x.desc⟩ = some mk0 := by rw [← m7]; exact hnamed
  obtain ⟨cellB, hcB, hoB, hclB⟩ := va_recv (ci := lk b) (q0 := b) C.2.2.2.2.2.2.2.2.2.1 hP m8 (by rw [wl_get E I hb, pic_r E I m9])
  have hkB : ∃ kB : Class, s.vm.classes[cellB.cls]? = some kB := by
    have h9 := (C.2.2.2.2.2.2.2.2.2.1.1 _ _ m8).2
    obtain ⟨f1, kC, f2, -⟩ := h9
    have e9 := Option.some.inj (hclB.symm.trans f1)
    rw [e9]
    exact ⟨kC, f2⟩
  obtain ⟨kB, hkB⟩ := hkB
  have hlen : (av.map (tv E)).length = methM.sig.parameters.length := by rw [List.length_map, hn]; exact mk_len mk _ hsigM
  have hK : Back E.1 (rmd (d + 1)) p e below s args k2.1 3 8 (PreOf (rmd (d + 1)) 0 0 (va_Pc ((Value.ref b :: av).map (tv E)) (fun U => CF E U ∧ va_P (eD E) vwCl (wl E I) U.heap ∧ va_D (eA E) (wl E I)))) (PostOf (Qr E (some (.int v), J)) 0 0 (eA E)) := back_of (bytes := k2.2.1) (maxL := k2.2.2.1) (ret := k2.2.2.2) hg (Gm_blind E _ I) rfl rfl (mk_room mk).1 (mk_room mk).2 (mk_words (args := args) C.2.2.2.2.2.2 mk) (List.mem_singleton_self _) (fun a' U hW => word_at hW (good_word mk.2.1) (hts _ mk.2.1))
  have hrun : va_Run p E.1 e (rmd (d + 1)) s m args below meth c H locs 0 0 0 0 (F0 m pc ls (st.map (tv E))) (rest.map (tv E)) (Qr E (some (.int v), J) ((Value.ref b :: av).map (tv E)).toArray) (eA E) := by
    intro T hT X
    obtain ⟨vm₁, X₁, hstep₁⟩ := X.invokespecialUp C.1 hown (hts _ m1) (hts _ m2) hn2 hmethM hstM habM m6 hdk hnid hps hsuper hsub (a := eAd E b) (cell := cellB) (by rw [hT]; exact hcB) (fun z h => by rw [h] at hoB; cases hoB) hkB (g := F0 m pc ls (st.map (tv E))) rfl (argsL := av.map (tv E)) (rest := rest.map (tv E)) hlen (by rw [hst]; exact st_revV E b av rest) (by rw [C.2.1]; exact hd)
    obtain ⟨v1, B, X', hpost, hsteps⟩ := hK m meth c ⟨T.setVm vm₁, locs, 0, 0⟩ { F0 m pc ls (st.map (tv E)) with stack := rest.map (tv E) } (.invokespecial idx) mk0 (Value.ref (eAd E b) :: av.map (tv E)).toArray X₁ rfl (hl.1.trans C.2.2.2.1.symm) (by rw [C.2.1]; exact hd) (lv_room (by rw [st_cat]; exact hW)) (X₁.named hnamed) ⟨Nat.le_refl _, Nat.le_refl _, Gm_pre C.2.2.2.2.2.2 hP hD hS (.ref b :: av) (T.setVm vm₁) hT X₁.warmed⟩
    obtain ⟨g', mk9, t, L9, e1, e2, hq, h1, hL9, h2, h3⟩ := hpost
    obtain ⟨U', l2, c2, s2⟩ := B
    dsimp only [Pt.U, Pt.locs, Pt.cells, Pt.slots] at X' e1 e2 h1 h2 h3 hsteps
    subst h1; subst h2; subst h3
    exact ⟨v1, (T.setVm vm₁).calling g' mk9 (Value.ref (eAd E b) :: av.map (tv E)).toArray, t, U', L9, hT, X', hL9, e1, e2, hq, fun target h => hstep₁ _ (by rw [doInvoke_state]; exact hsteps.trans h)⟩
  refine w_back hrun hS (fun H1 locs1 hP1 hD1 hS1 => ?_)
  rw [st_back]
  exact kk p e s m args below meth c H1 locs1 ls C hP1 hD1 hS1 hl
end GS
