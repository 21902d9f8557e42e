theorem tb {w : Cond} (j : Nat) (h : tables_1[j]? = some w) : w ∈ lw_tbl := List.mem_append_right _ (List.mem_of_getElem? h)
def gvL : List Cond := flatC (Jvm.Cond.and given_1 narrow_1)
def tmS (i : Nat) : Term := Term.string RX8 (strT.getD i (0, "")).1
theorem gv_ex : ∀ i, i < 7 → Cond.exactly (tmS i) "java/lang/String" ∈ gvL := by decide +kernel
theorem gv_co : ∀ i, i < 7 → Cond.eq (.field (tmS i) "java/lang/String" "coder" "B") (.int 0) ∈ gvL := by decide +kernel
theorem gv_ar : ∀ i, i < 7 → Cond.arrayOf (.field (tmS i) "java/lang/String" "value" "[B") .byte ∈ gvL := by decide +kernel
theorem gv_le : ∀ i, i < 7 → Cond.eq (.length (.field (tmS i) "java/lang/String" "value" "[B")) (.int (Int32.ofNat (strN.getD i 0))) ∈ gvL := by decide +kernel
theorem gv_el : ∀ i, i < 7 → ∀ j, j < strN.getD i 0 → Cond.eq (.elem (.field (tmS i) "java/lang/String" "value" "[B") (.int (Int32.ofNat j))) (.int ((strB.getD i []).getD j 0)) ∈ gvL := by decide +kernel
theorem gv_ne : ∀ i, i < 7 → ∀ j, j < 7 → i ≠ j → (Cond.not (Cond.eq (tmS i) (tmS j)) ∈ gvL ∨ Cond.not (Cond.eq (tmS j) (tmS i)) ∈ gvL) := by decide +kernel
theorem gv_cs : Cond.eq (.static "java/lang/String" "COMPACT_STRINGS" "Z") (.int 1) ∈ gvL := by decide +kernel
theorem gv_fm : Cond.isRef (.static "jdk/internal/util/Preconditions" "SIOOBE_FORMATTER" "Ljava/util/function/BiFunction;") ∈ gvL := by decide +kernel
theorem tb_str : ∀ i : Nat, i < 7 → Cond.stringRef RX8 (strT.getD i (0, "")).1 (strT.getD i (0, "")).2 ∈ lw_tbl
  | 0, _ => (tb 443 (by decide +kernel))
  | 1, _ => (tb 496 (by decide +kernel))
  | 2, _ => (tb 497 (by decide +kernel))
  | 3, _ => (tb 498 (by decide +kernel))
  | 4, _ => (tb 499 (by decide +kernel))
  | 5, _ => (tb 500 (by decide +kernel))
  | 6, _ => (tb 501 (by decide +kernel))
  | i + 7, h => absurd h (by omega)
theorem st_classes {s : State} (hg : ∀ w ∈ lw_g, w.before #[] s = true) : ∀ c : Nat, ∃ x : ClassId × (Nat → Nat), ∀ q, vwCl[c]? = some q → u_Kn s q.1 q.2.1 q.2.2 x.1 x.2
  | 0 => by
    obtain ⟨cC, iS, h⟩ := u_known (n := 0) hg qX0 (hg (Cond.instantiable RX0 0) (mt 179 (by decide +kernel) rfl))
    exact ⟨(cC, iS), fun q hq => by cases hq; exact h⟩
  | 1 => by
    obtain ⟨cC, iS, h⟩ := u_known (n := 0) hg qX1 (hg (Cond.instantiable RX1 0) (mt 158 (by decide +kernel) rfl))
    exact ⟨(cC, iS), fun q hq => by cases hq; exact h⟩
  | 2 => by
    obtain ⟨cC, iS, h⟩ := u_known (n := 11) hg qX2 (hg (Cond.instantiable RX2 11) (mt 206 (by decide +kernel) rfl))
    exact ⟨(cC, iS), fun q hq => by cases hq; exact h⟩
  | 3 => by
    obtain ⟨cC, iS, h⟩ := u_known (n := 0) hg qX3 (hg (Cond.instantiable RX3 0) (mt 165 (by decide +kernel) rfl))
    exact ⟨(cC, iS), fun q hq => by cases hq; exact h⟩
  | 4 => by
    obtain ⟨cC, iS, h⟩ := u_known (n := 15) hg qX4 (hg (Cond.instantiable RX4 15) (mt 31 (by decide +kernel) rfl))
    exact ⟨(cC, iS), fun q hq => by cases hq; exact h⟩
  | 5 => by
    obtain ⟨cC, iS, h⟩ := u_known (n := 0) hg qX5 (hg (Cond.instantiable RX5 0) (mt 151 (by decide +kernel) rfl))
    exact ⟨(cC, iS), fun q hq => by cases hq; exact h⟩
  | 6 => by
    obtain ⟨cC, iS, h⟩ := u_known (n := 7) hg qX6 (hg (Cond.instantiable RX6 7) (mt 251 (by decide +kernel) rfl))
    exact ⟨(cC, iS), fun q hq => by cases hq; exact h⟩
  | 7 => by
    obtain ⟨cC, iS, h⟩ := u_known (n := 0) hg qX7 (hg (Cond.instantiable RX7 0) (mt 172 (by decide +kernel) rfl))
    exact ⟨(cC, iS), fun q hq => by cases hq; exact h⟩
  | 8 => by
    obtain ⟨cC, iS, h⟩ := u_known (n := 7) hg qX8 (hg (Cond.instantiable RX8 7) (mt 120 (by decide +kernel) rfl))
    exact ⟨(cC, iS), fun q hq => by cases hq; exact h⟩
  | 9 => by
    obtain ⟨cC, iS, h⟩ := u_known (n := 6) hg qX9 (hg (Cond.instantiable RX9 6) (mt 282 (by decide +kernel) rfl))
    exact ⟨(cC, iS), fun q hq => by cases hq; exact h⟩
  | 10 => by
    obtain ⟨cC, iS, h⟩ := u_known (n := 3) hg qX10 (hg (Cond.instantiable RX10 3) (mt 186 (by decide +kernel) rfl))
    exact ⟨(cC, iS), fun q hq => by cases hq; exact h⟩
  | 11 => by
    obtain ⟨cC, iS, h⟩ := u_known (n := 13) hg qX11 (hg (Cond.instantiable RX11 13) (mt 23 (by decide +kernel) rfl))
    exact ⟨(cC, iS), fun q hq => by cases hq; exact h⟩
  | 12 => by
    obtain ⟨cC, iS, h⟩ := u_known (n := 18) hg qX12 (hg (Cond.instantiable RX12 18) (mt 866 (by decide +kernel) rfl))
    exact ⟨(cC, iS), fun q hq => by cases hq; exact h⟩
  | c + 13 => ⟨(0, fun _ => 0), fun q hq => by
      rw [List.getElem?_eq_none (by show 13 ≤ c + 13; omega)] at hq
      cases hq⟩
theorem st_prim {s : State} {ty : FieldType} (h : (Cond.arrayClass ty).before #[] s = true) : ∃ cA, ArrOfT s cA ty ∧ s.vm.findClass ("[" ++ ty.toString) = some cA := by
  obtain ⟨cA, kA, comp, h1, h2, h3⟩ := Cond.arrayClass_spec h
  exact ⟨cA, fun n z => ⟨fun k h => (by cases h), kA, h2, comp, h3⟩, h1⟩
theorem st_obj {s : State} {C : String} (h : va_AO C s) : ∃ cA, ArrOfT s cA (.object C) ∧ va_RA s cA (.object C) := by
  obtain ⟨comp, cA, kA, h1, h2, h3, h4, h5⟩ := Cond.arrayOver_spec h
  exact ⟨cA, fun n z => ⟨fun k h => (by cases h), kA, h3, comp, h4⟩, kA, comp, h3, h4, h1, h5⟩
theorem st_arr {s : State} (h : (Cond.arrayOver (.array .int)).before #[] s = true) : ∃ cA, ArrOfT s cA (.array .int) ∧ va_RA s cA (.array .int) := by
  obtain ⟨comp, cA, kA, h1, h2, h3, h4, h5⟩ := arrayOverA_spec h
  exact ⟨cA, fun n z => ⟨fun k h => (by cases h), kA, h3, comp, h4⟩, h5⟩
theorem start_E {s : State} {b : Nat} (l : Launch) (hts : ∀ w ∈ lw_tbl, w.before #[Value.ref b] s = true) (hgv : (Jvm.Cond.and given_1 narrow_1).before #[Value.ref b] s = true) : ∃ E : EV, E.1 = l ∧ E.2.2.2.2.2 = s.heap.size ∧ eAd E 2000 = b ∧ CF E s ∧ CQ E s := by
  have hg : ∀ w ∈ lw_g, w.before #[] s = true := fun w hw => word_at (State.WarmedH.refl s) (good_word hw) (hts w (List.mem_filter.mp hw).1)
  have hn : ∀ w ∈ lw_n, va_Nw w s := fun w hw => by
    have h2 := (List.mem_filter.mp hw).2
    have h1 := hts w (List.mem_filter.mp hw).1
    cases w with
    | methodLinkNest a i x b9 => exact va_tabs rfl rfl h1
    | _ => simp [isNest] at h2
  have hv : ∀ w ∈ gvL, w.before #[Value.ref b] s = true := flat_of_before _ hgv
  have hA : ∀ a : Nat, a < s.heap.size → ¬ (s.heap.size ≤ a) := fun a h => Nat.not_le.mpr h
  obtain ⟨adK, adV, hSt, hEv⟩ := vk_Sof (args := #[Value.ref b]) (s := s) (N := 7) (tm := tmS) (len := strN) (byt := strB) (A := fun q => s.heap.size ≤ q) (by decide) (fun i hi => hv _ (gv_ex i hi)) (fun i hi => hv _ (gv_co i hi)) (fun i hi => hv _ (gv_ar i hi)) (fun i hi => hv _ (gv_le i hi)) (fun i hi j hj => hv _ (gv_el i hi j hj)) (fun i j hi hj hne => (gv_ne i hi j hj hne).imp (hv _) (hv _)) hA
  have hC := va_Zof (A := fun q => s.heap.size ≤ q) (hts (Cond.laysStatic "java/lang/String" "COMPACT_STRINGS" "Z") (tb 457 (by decide +kernel))) (hts (Cond.initialized "java/lang/String") (tb 15 (by decide +kernel))) (va_eqi (hv _ gv_cs)) hA
  have hZ := va_Zqof (A := fun q => s.heap.size ≤ q) (hts (Cond.laysStatic "jdk/internal/util/Preconditions" "SIOOBE_FORMATTER" "Ljava/util/function/BiFunction;") (tb 473 (by decide +kernel))) (hts (Cond.initialized "jdk/internal/util/Preconditions") (tb 17 (by decide +kernel))) (hv _ gv_fm) hA
  obtain ⟨t, hZ⟩ : ∃ t : Nat, va_Z "jdk/internal/util/Preconditions" "SIOOBE_FORMATTER" "Ljava/util/function/BiFunction;" .null (fun q => s.heap.size ≤ q) s s.heap ∨ va_Z "jdk/internal/util/Preconditions" "SIOOBE_FORMATTER" "Ljava/util/function/BiFunction;" (.ref t) (fun q => s.heap.size ≤ q) s s.heap := by
    rcases hZ with h | ⟨t, h⟩
    · exact ⟨0, Or.inl h⟩
    · exact ⟨t, Or.inr h⟩
  obtain ⟨dk, hdk⟩ := Classical.axiomOfChoice (st_classes hg)
  have hoH : va_AO "AloneRooms$House" s := va_AO.of (hts (Cond.arrayOver (.object "AloneRooms$House")) (tb 118 (by decide +kernel)))
  have hoO : va_AO "AloneRooms$Once" s := va_AO.of (hts (Cond.arrayOver (.object "AloneRooms$Once")) (tb 150 (by decide +kernel)))
  have hoA : (Cond.arrayOver (.array .int)).before #[] s = true := hts (Cond.arrayOver (.array .int)) (tb 212 (by decide +kernel))
  have haI : (Cond.arrayClass .int).before #[] s = true := hg _ acI
  have haZ : (Cond.arrayClass .boolean).before #[] s = true := hg _ acZ
  obtain ⟨c0, p0⟩ := st_prim haI
  obtain ⟨c1, p1⟩ := st_prim haZ
  obtain ⟨c2, p2⟩ := st_obj hoH
  obtain ⟨c3, p3⟩ := st_obj hoO
  obtain ⟨c4, p4⟩ := st_arr hoA
  obtain ⟨ad, a1, a2, a3, a4, a5⟩ : ∃ ad : Nat → Nat, (∀ c, c < 100 → ad c = s.heap.size + c) ∧ ad 2000 = b ∧ ad 1020 = t ∧ (∀ i, i < 7 → ad (1000 + i) = adK i) ∧ ∀ i, i < 7 → ad (1010 + i) = adV i := by
    refine ⟨fun c => if c < 100 then s.heap.size + c else if c = 2000 then b else if c = 1020 then t else if c < 1010 then adK (c - 1000) else adV (c - 1010), fun c hc => if_pos hc, rfl, rfl, fun i hi => ?_, fun i hi => ?_⟩
    · dsimp only
      rw [if_neg (by omega), if_neg (by omega), if_neg (by omega), if_pos (by omega), Nat.add_sub_cancel_left]
    · dsimp only
      rw [if_neg (by omega), if_neg (by omega), if_neg (by omega), if_neg (by omega), Nat.add_sub_cancel_left]
  refine ⟨(l, fun c => (dk c).1, fun c => (dk c).2, fun k => [c0, c1, c2, c3, c4].getD k 0, ad, s.heap.size), rfl, rfl, a2, ⟨hg, hn, Nat.le_refl _, ⟨fun c q hq => hdk c q hq, fun k q hq => ?_⟩, fun i hi => ?_, ⟨fun i hi => ?_, fun i j hi hj h9 => ?_⟩, hC, ?_⟩, ⟨a1, AAI.of hoA haI, hoH, hoO, fun C hC9 => ?_⟩⟩
  · match k, hq with
    | 0, hq => cases hq; exact p0
    | 1, hq => cases hq; exact p1
    | 2, hq => cases hq; exact p2
    | 3, hq => cases hq; exact p3
    | 4, hq => cases hq; exact p4
    | k + 5, hq =>
      rw [List.getElem?_eq_none (by show 5 ≤ k + 5; omega)] at hq
      cases hq
  · show vk_R RX8 _ _ (ad (1000 + i)) s
    rw [a4 i hi]
    exact vk_R.of (hts _ (tb_str i hi)) (hEv i hi)
  · have h9 := hSt.1 i hi
    show va_O "java/lang/String" (ad (1000 + i)) _ s s.heap ∧ va_OF _ _ _ _ (ad (1000 + i)) _ s s.heap ∧ va_OF _ _ _ (.ref (ad (1010 + i))) (ad (1000 + i)) _ s s.heap ∧ va_T .byte (ad (1010 + i)) _ _ _ s s.heap
    rw [a4 i hi, a5 i hi]
    exact h9
  · have h8 : ad (1000 + i) = ad (1000 + j) := h9
    rw [a4 i hi, a4 j hj] at h8
    exact hSt.2 i j hi hj h8
  · show va_Z _ _ _ .null _ s s.heap ∨ va_Z _ _ _ (.ref (ad 1020)) _ s s.heap
    rw [a3]
    exact hZ
  · simp only [List.mem_cons, List.mem_nil_iff, or_false] at hC9
    rcases hC9 with rfl | rfl | rfl | rfl
    · exact va_tabs rfl rfl (hts (Cond.castable "AloneRooms$Each" "AloneRooms$Once") (tb 1269 (by decide +kernel)))
    · exact va_tabs rfl rfl (hts (Cond.castable "AloneRooms$Halves" "AloneRooms$Once") (tb 1270 (by decide +kernel)))
    · exact va_tabs rfl rfl (hts (Cond.castable "AloneRooms$Sleep" "AloneRooms$Once") (tb 1271 (by decide +kernel)))
    · exact va_tabs rfl rfl (hts (Cond.castable "AloneRooms$Comers" "AloneRooms$Once") (tb 1272 (by decide +kernel)))
/-- YOUR PART: from the entry, for every script of at most 2048 ints, the law comes to its end with true -/
theorem whole_start {p : Program} {e : Env} {s : State} {m : MethodId} {below : List Frame} {meth : Method} {c : Code} (l : Launch) {b L : Nat} {xs : Nat → Int32} (hL : L ≤ 2048) (C0 : lw_At p s m meth c b L xs) : W p l e room_1 s m #[Value.ref b] below meth c s.heap [] 0 0 (lw_Z below #[Value.ref b] s) (entryFrame m ([Value.ref b] : List Value).toArray 4) := by
  obtain ⟨hx, hb, hr, hml, hown, hts, hX, hbl, hlk, hgv⟩ := C0
  obtain ⟨E, rfl, ez, e2, hCF, hCQ⟩ := start_E (b := b) l hts hgv
  have hl := lv_entry [Value.ref b] (n := 4) (Nat.le_of_ble_eq_true rfl)
  rw [lg_entry_eq]
  have ha : asc E 0 [some (.ref 2000), none, none, none] = lv_args 0 [Value.ref b] := by
    show [(0, Value.ref (eAd E 2000))] = _
    rw [e2]
    rfl
  rw [← ha] at hl
  have h := law_begin (E := E) (b := b) (N := L) (xs := xs) hL p e s m #[Value.ref b] below meth c s.heap [] _ ⟨hx, hb, hr, hml, hown, hlk, hCF⟩ ⟨⟨hCQ, fun h => absurd h (by decide)⟩, by show s.heap.size + 0 = _; rw [ez], by decide⟩ (wn_P (fun c hc => absurd hc (Nat.not_lt_zero _))) va_S.rf hl
  intro T hT X
  obtain ⟨t, s1, s2⟩ := h T hT X
  exact ⟨t, s1, s2 ⟨rfl, hX, hbl, ez.symm, e2⟩⟩
set_option maxHeartbeats 4000000 in
theorem lw_walk (l : Launch) (b : Addr) (xs : List Int32) : MetFree l x (headSpec (Jvm.Cond.code x code maxLocals ret :: tables_1) room_1) (lw_P b xs) (fun _ _ _ _ _ => True) lw_Q := by
  refine MetFree.of_bodyS (code := code) (maxLocals := maxLocals) (ret := ret) (by decide) ?_ ?_
  · intro args s m h hn
    obtain ⟨meth, c, h1, h2, h3, h4, h5, h6, -, -⟩ := Cond.code_spec hn (atoms_spec (ws := Jvm.Cond.code x code maxLocals ret :: tables_1) h _ List.mem_cons_self)
    exact ⟨meth, c, h1, h2, h3, h4, h5, h6⟩
  · intro p e s m args below meth c s₁ B hml0 hP _
    obtain ⟨rfl, hx, hbd, hgv⟩ := hP
    obtain ⟨scr, harrAt, hlist, hof, hsmall⟩ := hx
    obtain ⟨hcb, hkn, -, -⟩ := State.arrayAt?_spec harrAt
    have hown : s.vm.findClass R_law = some m.cls := findClass_of_methodNamed B.named
    have hts0 : ∀ c ∈ (Jvm.Cond.code x code maxLocals ret :: tables_1), c.before #[Value.ref b] s = true := atoms_spec (ws := Jvm.Cond.code x code maxLocals ret :: tables_1) B.pre
    have hts : ∀ w ∈ lw_tbl, w.before #[Value.ref b] s = true := k2_hts_sels lw_privs (fun w hw => hts0 w (List.mem_cons_of_mem _ hw)) lw_privs_ok
    have hml : c.maxLocals = 4 := B.maxLocals_eq (hts0 _ List.mem_cons_self)
    have X₀ : Stand p l e room_1 s m #[Value.ref b] below meth c s₁ [] 0 0 := Stand.of_body B
    have hh0 : s₁.heap = s.heap := by rw [B.state]; rfl
    have hsz : scr.slots.size = xs.length := by rw [← Array.length_toList, hlist, List.length_map]
    have hval : ∀ j : Nat, j < xs.length → scr.slots[j]? = some (.int (xs.getD j 0)) := fun j hj => by
      rw [← Array.getElem?_toList, hlist]
      simp [hj]
    have hbl : b < s.heap.size := (Array.getElem?_eq_some_iff.mp hcb).1
    have hX : va_X b xs.length (fun j => xs.getD j 0) s s.heap := ⟨scr, hcb, hof, hkn, hsz, hval⟩
    have K : W p l e room_1 s m #[Value.ref b] below meth c s₁.heap [] 0 0 (lw_Z below #[Value.ref b] s) (entryFrame m ([Value.ref b] : List Value).toArray 4) := by
      rw [hh0]
      exact whole_start l hbd ⟨B.exec, B.bytes, B.returns, hml, hown, hts, hX, hbl, B.notSynchronized, hgv⟩
    obtain ⟨t, a1, o, b1, b2, b3⟩ := K s₁ rfl X₀
    exact ⟨t, o, a1, b1, b2, b3⟩
theorem lw_pre_spec {args : Array Value} {s : State} (h : (Jvm.Cond.and given_1 narrow_1).before args s = true) (hr : rest_1_c.before args s = true) : ∃ (b : Addr) (xs : List Int32), lw_P b xs args s := by
  have hs := flat_of_before _ h
  have hq := flat_of_before _ hr
  have hc : (Cond.count 1).before args s = true := hs _ (by decide +kernel)
  have harr : (Cond.arrayOf (.arg 0) .int).before args s = true := hs _ (by decide +kernel)
  have hle : (Cond.le (.length (.arg 0)) (.int 2048)).before args s = true := hs _ (by decide +kernel)
  have hlen : (Cond.isInt (.length (.arg 0))).before args s = true := hq _ (by decide +kernel)
  have hall : (Cond.all (.arg 0) (.isInt (.elem (.arg 0) (.index 0)))).before args s = true := hq _ (by decide +kernel)
  obtain ⟨b, xs, hb, hx⟩ := State.ints_of_pre rfl harr hlen hall
  have hsm : xs.length < 2 ^ 31 := hx.choose_spec.2.2.2
  have hev : (Term.length (.arg 0)).eval args s none [] s = some (.int xs.length.toInt32) := hx.length_eval hb
  have hv := Cond.le_ints hev (show (Term.int 2048).eval args s none [] s = some (.int 2048) from rfl)
  have hd : xs.length.toInt32 ≤ 2048 := by
    simpa [Cond.before, Cond.holds, hv] using hle
  have hN : xs.length ≤ 2048 := (Int32.ofNat_le_ofNat hsm (by decide)).mp (show Int32.ofNat xs.length ≤ Int32.ofNat 2048 from hd)
  exact ⟨b, xs, Cond.one_arg hc (show args[0]? = some (.ref b) from hb), hx, hN, h⟩
theorem lw_comes (l : Launch) : Comes l x (Jvm.Cond.code x code maxLocals ret :: tables_1) room_1 (fun tb e args s => Calls_1 tb e args s ∧ rest_1 tb e args s ∧ Pre_1 tb e args s)
    (fun _ _ args s o t => lw_Q args s o t) := by
  intro p e ha hc hk s m args below hf hfit hheap happ hpre
  obtain ⟨b, xs, hP⟩ := lw_pre_spec hpre.2.2 hpre.2.1
  obtain ⟨k, o, h1, h2, h3, hQ⟩ := lw_walk l b xs p e ha hc hk s m args below hf ((Spec.applies_iff_loose hf).mp happ).1 hP trivial
  exact ⟨k, o, h1, h2, h3, hQ⟩
theorem lw_frame {s t : State} {o : Outcome} {args : Array Value} (h : Framed s o t [] 600000 7302250) :
    Framed s o t (fieldLocs frame_1_writes args s ++ arrayLocs frame_1_arrays args s ++ staticLocs frame_1_statics s) 600000 7302250 := h
theorem lw_limb (L : Cond) (hL : ∀ (args : Array Value) (s t : State), L.after args s (.returned (some (.int 1))) t = true) :
    ArmFor flags0 classFile x code maxLocals ret World_1 tables_1 room_1 Calls_1 rest_1 Pre_1
      (fun tb e a s o t => postC L tb e a s o t ∧ Framed s o t (fieldLocs frame_1_writes a s ++ arrayLocs frame_1_arrays a s ++ staticLocs frame_1_statics s) 600000 7302250) := by
  intro l _ _ _ p e ha hc hk s m args below hf hfit hheap happ hpre
  obtain ⟨k, o, h1, h2, h3, rfl, hF⟩ := lw_comes l p e ha hc hk s m args below hf hfit hheap happ hpre
  exact ⟨k, _, h1, h2, h3, hL args s _, lw_frame hF⟩
theorem i_vc : Claimed_1_1 ∧ Claimed_1_2 := ⟨lw_limb limb_1_1 (fun args s t => by simp [limb_1_1, Cond.after, Cond.holds, Cond.value]), lw_limb limb_1_2 (fun args s t => Cond.after_iff.mpr (by
  first | (rw [show limb_1_2 = Cond.eq .result (.int 1) from rfl, Cond.eq_ints (x := 1) (y := 1) rfl rfl]; simp; done) | (simp [limb_1_2, Cond.value, Term.eval]; done)))⟩
