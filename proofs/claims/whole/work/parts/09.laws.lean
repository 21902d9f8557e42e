theorem dX5_lays_0 : decode cX5_lays 0 = .ok (.iload_n 1, 1) := by decide +kernel
theorem dX5_lays_1 : decode cX5_lays 1 = .ok (.ifCond .eq 7, 3) := by decide +kernel
theorem dX5_lays_4 : decode cX5_lays 4 = .ok (.iload_n 2, 1) := by decide +kernel
theorem dX5_lays_5 : decode cX5_lays 5 = .ok (.ifCond .ne 7, 3) := by decide +kernel
theorem dX5_lays_8 : decode cX5_lays 8 = .ok (.iconst 1, 1) := by decide +kernel
theorem dX5_lays_9 : decode cX5_lays 9 = .ok (.goto 4, 3) := by decide +kernel
theorem dX5_lays_12 : decode cX5_lays 12 = .ok (.iconst 0, 1) := by decide +kernel
theorem dX5_lays_13 : decode cX5_lays 13 = .ok (.ireturn, 1) := by decide +kernel
def fX5_lays (o0 : Nat) (x1 : Int32) (x2 : Int32) (x3 : Int32) (I : Mem) : Option Int32 :=
  if x1 = 0 then
  (some (1 : Int32))
  else
  (if x2 = 0 then
  (some (1 : Int32))
  else
  (some (0 : Int32)))
set_option maxRecDepth 20000 in
theorem gX5_lays (E : EV) (d : Nat) (o0 : Nat) (x1 : Int32) (x2 : Int32) (x3 : Int32) (I : Mem) (ho0 : isL o0) {v : Int32} (hf : fX5_lays o0 x1 x2 x3 I = some v) : Gm E (d + 0) kX5_lays [.ref o0, .int x1, .int x2, .int x3] I (some (.int v), I) := by
  refine (fun (y : Int32) (hf : fX5_lays o0 x1 x2 x3 I = some y) => (?_ : Gm E (d + 0) kX5_lays [.ref o0, .int x1, .int x2, .int x3] I (some (.int y), I))) v hf
  refine Gm.of (by decide) rfl (Nat.le_of_ble_eq_true rfl) ?_
  generalize hrr : ((some (.int y), I) : Option Value × Mem) = rr
  show G E (d + 0) kX5_lays 0 [some (.ref o0), some (.int x1), some (.int x2), some (.int x3)] [] I rr
  have hK : (fun (z : Int32) => (some (.int z), I) = rr) y := hrr
  clear hrr
  unfold fX5_lays at hf
  refine G.iload_n dX5_lays_0 rfl rfl ?_
  refine G.if_eq (tgt := 8) dX5_lays_1 (by decide) (fun c_2 => ?_) (fun c_2 => ?_)
  · have hf := ite_t hf c_2
    refine G.iconst (v := 1) dX5_lays_8 (by decide) ?_
    refine G.goto (tgt := 13) dX5_lays_9 (by decide) ?_
    have hf := Option.some.inj hf
    subst hf
    exact G.zret' dX5_lays_13 rfl (by decide) hK
  · have hf := ite_f hf c_2
    refine G.iload_n dX5_lays_4 rfl rfl ?_
    refine G.if_ne (tgt := 12) dX5_lays_5 (by decide) (fun c_1 => ?_) (fun c_1 => ?_)
    · have hf := ite_f hf c_1
      refine G.iconst (v := 0) dX5_lays_12 (by decide) ?_
      have hf := Option.some.inj hf
      subst hf
      exact G.zret' dX5_lays_13 rfl (by decide) hK
    · have hf := ite_t hf c_1
      refine G.iconst (v := 1) dX5_lays_8 (by decide) ?_
      refine G.goto (tgt := 13) dX5_lays_9 (by decide) ?_
      have hf := Option.some.inj hf
      subst hf
      exact G.zret' dX5_lays_13 rfl (by decide) hK
theorem dX0_lays_0 : decode cX0_lays 0 = .ok (.iload_n 1, 1) := by decide +kernel
theorem dX0_lays_1 : decode cX0_lays 1 = .ok (.ifCond .ne 17, 3) := by decide +kernel
theorem dX0_lays_4 : decode cX0_lays 4 = .ok (.aload_n 0, 1) := by decide +kernel
theorem dX0_lays_5 : decode cX0_lays 5 = .ok (.iload_n 1, 1) := by decide +kernel
theorem dX0_lays_6 : decode cX0_lays 6 = .ok (.iload_n 2, 1) := by decide +kernel
theorem dX0_lays_7 : decode cX0_lays 7 = .ok (.iload_n 3, 1) := by decide +kernel
theorem dX0_lays_8 : decode cX0_lays 8 = .ok (.invokespecial 7, 3) := by decide +kernel
theorem dX0_lays_11 : decode cX0_lays 11 = .ok (.ifCond .eq 7, 3) := by decide +kernel
theorem dX0_lays_14 : decode cX0_lays 14 = .ok (.iconst 1, 1) := by decide +kernel
theorem dX0_lays_15 : decode cX0_lays 15 = .ok (.goto 4, 3) := by decide +kernel
theorem dX0_lays_18 : decode cX0_lays 18 = .ok (.iconst 0, 1) := by decide +kernel
theorem dX0_lays_19 : decode cX0_lays 19 = .ok (.ireturn, 1) := by decide +kernel
def fX0_lays (x1 : Int32) (x2 : Int32) (x3 : Int32) (I : Mem) : Option Int32 :=
  if x1 = 0 then
  (bnd (fX5_lays 42 x1 x2 x3 I) fun v_2 =>
  if v_2 = 0 then
  (some (0 : Int32))
  else
  (some (1 : Int32)))
  else
  (some (0 : Int32))
set_option maxRecDepth 20000 in
theorem gX0_lays (E : EV) (d : Nat) (x1 : Int32) (x2 : Int32) (x3 : Int32) (I : Mem) {v : Int32} (hf : fX0_lays x1 x2 x3 I = some v) : Gm E (d + 1) kX0_lays [.ref 42, .int x1, .int x2, .int x3] I (some (.int v), I) := by
  refine (fun (y : Int32) (hf : fX0_lays x1 x2 x3 I = some y) => (?_ : Gm E (d + 1) kX0_lays [.ref 42, .int x1, .int x2, .int x3] I (some (.int y), I))) v hf
  refine Gm.of (by decide) rfl (Nat.le_of_ble_eq_true rfl) ?_
  generalize hrr : ((some (.int y), I) : Option Value × Mem) = rr
  show G E (d + 1) kX0_lays 0 [some (.ref 42), some (.int x1), some (.int x2), some (.int x3)] [] I rr
  have hK : (fun (z : Int32) => (some (.int z), I) = rr) y := hrr
  clear hrr
  unfold fX0_lays at hf
  refine G.iload_n dX0_lays_0 rfl rfl ?_
  refine G.if_ne (tgt := 18) dX0_lays_1 (by decide) (fun c_4 => ?_) (fun c_4 => ?_)
  · have hf := ite_f hf c_4
    refine G.iconst (v := 0) dX0_lays_18 (by decide) ?_
    have hf := Option.some.inj hf
    subst hf
    exact G.zret' dX0_lays_19 rfl (by decide) hK
  · have hf := ite_t hf c_4
    refine G.aload_n dX0_lays_4 rfl rfl ?_
    refine G.iload_n dX0_lays_5 rfl rfl ?_
    refine G.iload_n dX0_lays_6 rfl rfl ?_
    refine G.iload_n dX0_lays_7 rfl rfl ?_
    obtain ⟨v_2, hc_1, hf⟩ := bnd_at hf
    refine G.callQi (av := [.int x1, .int x2, .int x3]) (rest := []) dX0_lays_8 mqX0_7 (gX5_lays E d 42 x1 x2 x3 I (by unfold isL; decide) hc_1) (by decide) rfl rfl rfl (Nat.le_of_ble_eq_true rfl) ?_
    refine G.if_eq (tgt := 18) dX0_lays_11 (by decide) (fun c_3 => ?_) (fun c_3 => ?_)
    · have hf := ite_t hf c_3
      refine G.iconst (v := 0) dX0_lays_18 (by decide) ?_
      have hf := Option.some.inj hf
      subst hf
      exact G.zret' dX0_lays_19 rfl (by decide) hK
    · have hf := ite_f hf c_3
      refine G.iconst (v := 1) dX0_lays_14 (by decide) ?_
      refine G.goto (tgt := 19) dX0_lays_15 (by decide) ?_
      have hf := Option.some.inj hf
      subst hf
      exact G.zret' dX0_lays_19 rfl (by decide) hK
theorem dX1_lays_0 : decode cX1_lays 0 = .ok (.iconst 1, 1) := by decide +kernel
theorem dX1_lays_1 : decode cX1_lays 1 = .ok (.ireturn, 1) := by decide +kernel
def fX1_lays (o0 : Nat) (x1 : Int32) (x2 : Int32) (x3 : Int32) (I : Mem) : Option Int32 :=
  some (1 : Int32)
set_option maxRecDepth 20000 in
theorem gX1_lays (E : EV) (d : Nat) (o0 : Nat) (x1 : Int32) (x2 : Int32) (x3 : Int32) (I : Mem) (ho0 : isL o0) {v : Int32} (hf : fX1_lays o0 x1 x2 x3 I = some v) : Gm E (d + 0) kX1_lays [.ref o0, .int x1, .int x2, .int x3] I (some (.int v), I) := by
  refine (fun (y : Int32) (hf : fX1_lays o0 x1 x2 x3 I = some y) => (?_ : Gm E (d + 0) kX1_lays [.ref o0, .int x1, .int x2, .int x3] I (some (.int y), I))) v hf
  refine Gm.of (by decide) rfl (Nat.le_of_ble_eq_true rfl) ?_
  generalize hrr : ((some (.int y), I) : Option Value × Mem) = rr
  show G E (d + 0) kX1_lays 0 [some (.ref o0), some (.int x1), some (.int x2), some (.int x3)] [] I rr
  have hK : (fun (z : Int32) => (some (.int z), I) = rr) y := hrr
  clear hrr
  unfold fX1_lays at hf
  refine G.iconst (v := 1) dX1_lays_0 (by decide) ?_
  have hf := Option.some.inj hf
  subst hf
  exact G.zret' dX1_lays_1 rfl (by decide) hK
theorem dX7_lays_0 : decode cX7_lays 0 = .ok (.iload_n 3, 1) := by decide +kernel
theorem dX7_lays_1 : decode cX7_lays 1 = .ok (.iconst 1, 1) := by decide +kernel
theorem dX7_lays_2 : decode cX7_lays 2 = .ok (.iand, 1) := by decide +kernel
theorem dX7_lays_3 : decode cX7_lays 3 = .ok (.iconst 1, 1) := by decide +kernel
theorem dX7_lays_4 : decode cX7_lays 4 = .ok (.if_icmp .ne 17, 3) := by decide +kernel
theorem dX7_lays_7 : decode cX7_lays 7 = .ok (.aload_n 0, 1) := by decide +kernel
theorem dX7_lays_8 : decode cX7_lays 8 = .ok (.iload_n 1, 1) := by decide +kernel
theorem dX7_lays_9 : decode cX7_lays 9 = .ok (.iload_n 2, 1) := by decide +kernel
theorem dX7_lays_10 : decode cX7_lays 10 = .ok (.iload_n 3, 1) := by decide +kernel
theorem dX7_lays_11 : decode cX7_lays 11 = .ok (.invokespecial 7, 3) := by decide +kernel
theorem dX7_lays_14 : decode cX7_lays 14 = .ok (.ifCond .eq 7, 3) := by decide +kernel
theorem dX7_lays_17 : decode cX7_lays 17 = .ok (.iconst 1, 1) := by decide +kernel
theorem dX7_lays_18 : decode cX7_lays 18 = .ok (.goto 4, 3) := by decide +kernel
theorem dX7_lays_21 : decode cX7_lays 21 = .ok (.iconst 0, 1) := by decide +kernel
theorem dX7_lays_22 : decode cX7_lays 22 = .ok (.ireturn, 1) := by decide +kernel
def fX7_lays (x1 : Int32) (x2 : Int32) (x3 : Int32) (I : Mem) : Option Int32 :=
  if (x3 &&& (1 : Int32)) = (1 : Int32) then
  (bnd (fX1_lays 41 x1 x2 x3 I) fun v_2 =>
  if v_2 = 0 then
  (some (0 : Int32))
  else
  (some (1 : Int32)))
  else
  (some (0 : Int32))
set_option maxRecDepth 20000 in
theorem gX7_lays (E : EV) (d : Nat) (x1 : Int32) (x2 : Int32) (x3 : Int32) (I : Mem) {v : Int32} (hf : fX7_lays x1 x2 x3 I = some v) : Gm E (d + 1) kX7_lays [.ref 41, .int x1, .int x2, .int x3] I (some (.int v), I) := by
  refine (fun (y : Int32) (hf : fX7_lays x1 x2 x3 I = some y) => (?_ : Gm E (d + 1) kX7_lays [.ref 41, .int x1, .int x2, .int x3] I (some (.int y), I))) v hf
  refine Gm.of (by decide) rfl (Nat.le_of_ble_eq_true rfl) ?_
  generalize hrr : ((some (.int y), I) : Option Value × Mem) = rr
  show G E (d + 1) kX7_lays 0 [some (.ref 41), some (.int x1), some (.int x2), some (.int x3)] [] I rr
  have hK : (fun (z : Int32) => (some (.int z), I) = rr) y := hrr
  clear hrr
  unfold fX7_lays at hf
  refine G.iload_n dX7_lays_0 rfl rfl ?_
  refine G.iconst (v := 1) dX7_lays_1 (by decide) ?_
  refine G.iand dX7_lays_2 ?_
  refine G.iconst (v := 1) dX7_lays_3 (by decide) ?_
  refine G.icmp_ne (tgt := 21) dX7_lays_4 (by decide) (fun c_4 => ?_) (fun c_4 => ?_)
  · have hf := ite_f hf c_4
    refine G.iconst (v := 0) dX7_lays_21 (by decide) ?_
    have hf := Option.some.inj hf
    subst hf
    exact G.zret' dX7_lays_22 rfl (by decide) hK
  · have hf := ite_t hf c_4
    refine G.aload_n dX7_lays_7 rfl rfl ?_
    refine G.iload_n dX7_lays_8 rfl rfl ?_
    refine G.iload_n dX7_lays_9 rfl rfl ?_
    refine G.iload_n dX7_lays_10 rfl rfl ?_
    obtain ⟨v_2, hc_1, hf⟩ := bnd_at hf
    refine G.callPi (av := [.int x1, .int x2, .int x3]) (rest := []) dX7_lays_11 mpX7_7 (gX1_lays E d 41 x1 x2 x3 I (by unfold isL; decide) hc_1) (by decide) rfl rfl rfl (Nat.le_of_ble_eq_true rfl) ?_
    refine G.if_eq (tgt := 21) dX7_lays_14 (by decide) (fun c_3 => ?_) (fun c_3 => ?_)
    · have hf := ite_t hf c_3
      refine G.iconst (v := 0) dX7_lays_21 (by decide) ?_
      have hf := Option.some.inj hf
      subst hf
      exact G.zret' dX7_lays_22 rfl (by decide) hK
    · have hf := ite_f hf c_3
      refine G.iconst (v := 1) dX7_lays_17 (by decide) ?_
      refine G.goto (tgt := 22) dX7_lays_18 (by decide) ?_
      have hf := Option.some.inj hf
      subst hf
      exact G.zret' dX7_lays_22 rfl (by decide) hK
theorem dX3_share_0 : decode cX3_share 0 = .ok (.iload_n 1, 1) := by decide +kernel
theorem dX3_share_1 : decode cX3_share 1 = .ok (.iconst 2, 1) := by decide +kernel
theorem dX3_share_2 : decode cX3_share 2 = .ok (.idiv, 1) := by decide +kernel
theorem dX3_share_3 : decode cX3_share 3 = .ok (.ireturn, 1) := by decide +kernel
def fX3_share (o0 : Nat) (x1 : Int32) (I : Mem) : Option Int32 :=
  some (x1 / (2 : Int32))
set_option maxRecDepth 20000 in
theorem gX3_share (E : EV) (d : Nat) (o0 : Nat) (x1 : Int32) (I : Mem) (ho0 : isL o0) {v : Int32} (hf : fX3_share o0 x1 I = some v) : Gm E (d + 0) kX3_share [.ref o0, .int x1] I (some (.int v), I) := by
  refine (fun (y : Int32) (hf : fX3_share o0 x1 I = some y) => (?_ : Gm E (d + 0) kX3_share [.ref o0, .int x1] I (some (.int y), I))) v hf
  refine Gm.of (by decide) rfl (Nat.le_of_ble_eq_true rfl) ?_
  generalize hrr : ((some (.int y), I) : Option Value × Mem) = rr
  show G E (d + 0) kX3_share 0 [some (.ref o0), some (.int x1)] [] I rr
  have hK : (fun (z : Int32) => (some (.int z), I) = rr) y := hrr
  clear hrr
  unfold fX3_share at hf
  refine G.iload_n dX3_share_0 rfl rfl ?_
  refine G.iconst (v := 2) dX3_share_1 (by decide) ?_
  refine G.idiv dX3_share_2 (by decide) ?_
  have hf := Option.some.inj hf
  subst hf
  exact G.iret' dX3_share_3 rfl hK
theorem dX5_share_0 : decode cX5_share 0 = .ok (.iconst 0, 1) := by decide +kernel
theorem dX5_share_1 : decode cX5_share 1 = .ok (.ireturn, 1) := by decide +kernel
def fX5_share (o0 : Nat) (x1 : Int32) (I : Mem) : Option Int32 :=
  some (0 : Int32)
set_option maxRecDepth 20000 in
theorem gX5_share (E : EV) (d : Nat) (o0 : Nat) (x1 : Int32) (I : Mem) (ho0 : isL o0) {v : Int32} (hf : fX5_share o0 x1 I = some v) : Gm E (d + 0) kX5_share [.ref o0, .int x1] I (some (.int v), I) := by
  refine (fun (y : Int32) (hf : fX5_share o0 x1 I = some y) => (?_ : Gm E (d + 0) kX5_share [.ref o0, .int x1] I (some (.int y), I))) v hf
  refine Gm.of (by decide) rfl (Nat.le_of_ble_eq_true rfl) ?_
  generalize hrr : ((some (.int y), I) : Option Value × Mem) = rr
  show G E (d + 0) kX5_share 0 [some (.ref o0), some (.int x1)] [] I rr
  have hK : (fun (z : Int32) => (some (.int z), I) = rr) y := hrr
  clear hrr
  unfold fX5_share at hf
  refine G.iconst (v := 0) dX5_share_0 (by decide) ?_
  have hf := Option.some.inj hf
  subst hf
  exact G.iret' dX5_share_1 rfl hK
theorem dX5_mindsBeats_0 : decode cX5_mindsBeats 0 = .ok (.iconst 0, 1) := by decide +kernel
theorem dX5_mindsBeats_1 : decode cX5_mindsBeats 1 = .ok (.ireturn, 1) := by decide +kernel
def fX5_mindsBeats (o0 : Nat) (I : Mem) : Option Int32 :=
  some (0 : Int32)
set_option maxRecDepth 20000 in
theorem gX5_mindsBeats (E : EV) (d : Nat) (o0 : Nat) (I : Mem) (ho0 : isL o0) {v : Int32} (hf : fX5_mindsBeats o0 I = some v) : Gm E (d + 0) kX5_mindsBeats [.ref o0] I (some (.int v), I) := by
  refine (fun (y : Int32) (hf : fX5_mindsBeats o0 I = some y) => (?_ : Gm E (d + 0) kX5_mindsBeats [.ref o0] I (some (.int y), I))) v hf
  refine Gm.of (by decide) rfl (Nat.le_of_ble_eq_true rfl) ?_
  generalize hrr : ((some (.int y), I) : Option Value × Mem) = rr
  show G E (d + 0) kX5_mindsBeats 0 [some (.ref o0)] [] I rr
  have hK : (fun (z : Int32) => (some (.int z), I) = rr) y := hrr
  clear hrr
  unfold fX5_mindsBeats at hf
  refine G.iconst (v := 0) dX5_mindsBeats_0 (by decide) ?_
  have hf := Option.some.inj hf
  subst hf
  exact G.zret' dX5_mindsBeats_1 rfl (by decide) hK
theorem dX7_mindsBeats_0 : decode cX7_mindsBeats 0 = .ok (.iconst 1, 1) := by decide +kernel
theorem dX7_mindsBeats_1 : decode cX7_mindsBeats 1 = .ok (.ireturn, 1) := by decide +kernel
def fX7_mindsBeats (I : Mem) : Option Int32 :=
  some (1 : Int32)
set_option maxRecDepth 20000 in
theorem gX7_mindsBeats (E : EV) (d : Nat) (I : Mem) {v : Int32} (hf : fX7_mindsBeats I = some v) : Gm E (d + 0) kX7_mindsBeats [.ref 41] I (some (.int v), I) := by
  refine (fun (y : Int32) (hf : fX7_mindsBeats I = some y) => (?_ : Gm E (d + 0) kX7_mindsBeats [.ref 41] I (some (.int y), I))) v hf
  refine Gm.of (by decide) rfl (Nat.le_of_ble_eq_true rfl) ?_
  generalize hrr : ((some (.int y), I) : Option Value × Mem) = rr
  show G E (d + 0) kX7_mindsBeats 0 [some (.ref 41)] [] I rr
  have hK : (fun (z : Int32) => (some (.int z), I) = rr) y := hrr
  clear hrr
  unfold fX7_mindsBeats at hf
  refine G.iconst (v := 1) dX7_mindsBeats_0 (by decide) ?_
  have hf := Option.some.inj hf
  subst hf
  exact G.zret' dX7_mindsBeats_1 rfl (by decide) hK
def fD_lays (o : Nat) (x1 x2 x3 : Int32) (I : Mem) : Option Int32 := if o = 38 then fX5_lays 38 x1 x2 x3 I else if o = 39 then fX1_lays 39 x1 x2 x3 I else if o = 40 then fX5_lays 40 x1 x2 x3 I else if o = 41 then fX7_lays x1 x2 x3 I else if o = 42 then fX0_lays x1 x2 x3 I else none
theorem vLX4_102 {E : EV} {d : Nat} {k : MD} {pc o : Nat} {L : List (Option Value)} {rest : List Value} {I : Mem} {r : Option Value × Mem} {x1 x2 x3 : Int32} {v : Int32} (hd : decode k.2.1 pc = .ok (.invokevirtual 102, 3)) (ho : isL o) (hc : fD_lays o x1 x2 x3 I = some v) (hW : (rest.map fun v => v.category).sum ≤ 8) (hk : RX4 = k.1.cls) (kk : G E (d + 2) k (pc + 3) L (.int v :: rest) I r) : G E (d + 2) k pc L (.int x3 :: .int x2 :: .int x1 :: .ref o :: rest) I r := by
  rcases ho with rfl | rfl | rfl | rfl | rfl
  · exact G.callOi (av := [.int x1, .int x2, .int x3]) (rest := rest) hd (hk ▸ moX4_102_5) (gX5_lays E (d + 1) 38 x1 x2 x3 I (by unfold isL; decide) hc) (by decide) rfl rfl rfl hW kk
  · exact G.callOi (av := [.int x1, .int x2, .int x3]) (rest := rest) hd (hk ▸ moX4_102_1) (gX1_lays E (d + 1) 39 x1 x2 x3 I (by unfold isL; decide) hc) (by decide) rfl rfl rfl hW kk
  · exact G.callOi (av := [.int x1, .int x2, .int x3]) (rest := rest) hd (hk ▸ moX4_102_3) (gX5_lays E (d + 1) 40 x1 x2 x3 I (by unfold isL; decide) hc) (by decide) rfl rfl rfl hW kk
  · exact G.callOi (av := [.int x1, .int x2, .int x3]) (rest := rest) hd (hk ▸ moX4_102_7) (gX7_lays E d x1 x2 x3 I hc) (by decide) rfl rfl rfl hW kk
  · exact G.callOi (av := [.int x1, .int x2, .int x3]) (rest := rest) hd (hk ▸ moX4_102_0) (gX0_lays E d x1 x2 x3 I hc) (by decide) rfl rfl rfl hW kk
theorem vLX11_232 {E : EV} {d : Nat} {k : MD} {pc o : Nat} {L : List (Option Value)} {rest : List Value} {I : Mem} {r : Option Value × Mem} {x1 x2 x3 : Int32} {v : Int32} (hd : decode k.2.1 pc = .ok (.invokevirtual 232, 3)) (ho : isL o) (hc : fD_lays o x1 x2 x3 I = some v) (hW : (rest.map fun v => v.category).sum ≤ 8) (hk : RX11 = k.1.cls) (kk : G E (d + 2) k (pc + 3) L (.int v :: rest) I r) : G E (d + 2) k pc L (.int x3 :: .int x2 :: .int x1 :: .ref o :: rest) I r := by
  rcases ho with rfl | rfl | rfl | rfl | rfl
  · exact G.callOi (av := [.int x1, .int x2, .int x3]) (rest := rest) hd (hk ▸ moX11_232_5) (gX5_lays E (d + 1) 38 x1 x2 x3 I (by unfold isL; decide) hc) (by decide) rfl rfl rfl hW kk
  · exact G.callOi (av := [.int x1, .int x2, .int x3]) (rest := rest) hd (hk ▸ moX11_232_1) (gX1_lays E (d + 1) 39 x1 x2 x3 I (by unfold isL; decide) hc) (by decide) rfl rfl rfl hW kk
  · exact G.callOi (av := [.int x1, .int x2, .int x3]) (rest := rest) hd (hk ▸ moX11_232_3) (gX5_lays E (d + 1) 40 x1 x2 x3 I (by unfold isL; decide) hc) (by decide) rfl rfl rfl hW kk
  · exact G.callOi (av := [.int x1, .int x2, .int x3]) (rest := rest) hd (hk ▸ moX11_232_7) (gX7_lays E d x1 x2 x3 I hc) (by decide) rfl rfl rfl hW kk
  · exact G.callOi (av := [.int x1, .int x2, .int x3]) (rest := rest) hd (hk ▸ moX11_232_0) (gX0_lays E d x1 x2 x3 I hc) (by decide) rfl rfl rfl hW kk
def fD_share (o : Nat) (x1 : Int32) (I : Mem) : Option Int32 := if o = 38 then fX5_share 38 x1 I else if o = 39 then fX5_share 39 x1 I else if o = 40 then fX3_share 40 x1 I else if o = 41 then fX5_share 41 x1 I else if o = 42 then fX3_share 42 x1 I else none
theorem vLX4_116 {E : EV} {d : Nat} {k : MD} {pc o : Nat} {L : List (Option Value)} {rest : List Value} {I : Mem} {r : Option Value × Mem} {x1 : Int32} {v : Int32} (hd : decode k.2.1 pc = .ok (.invokevirtual 116, 3)) (ho : isL o) (hc : fD_share o x1 I = some v) (hW : (rest.map fun v => v.category).sum ≤ 8) (hk : RX4 = k.1.cls) (kk : G E (d + 1) k (pc + 3) L (.int v :: rest) I r) : G E (d + 1) k pc L (.int x1 :: .ref o :: rest) I r := by
  rcases ho with rfl | rfl | rfl | rfl | rfl
  · exact G.callOi (av := [.int x1]) (rest := rest) hd (hk ▸ moX4_116_5) (gX5_share E d 38 x1 I (by unfold isL; decide) hc) (by decide) rfl rfl rfl hW kk
  · exact G.callOi (av := [.int x1]) (rest := rest) hd (hk ▸ moX4_116_1) (gX5_share E d 39 x1 I (by unfold isL; decide) hc) (by decide) rfl rfl rfl hW kk
  · exact G.callOi (av := [.int x1]) (rest := rest) hd (hk ▸ moX4_116_3) (gX3_share E d 40 x1 I (by unfold isL; decide) hc) (by decide) rfl rfl rfl hW kk
  · exact G.callOi (av := [.int x1]) (rest := rest) hd (hk ▸ moX4_116_7) (gX5_share E d 41 x1 I (by unfold isL; decide) hc) (by decide) rfl rfl rfl hW kk
  · exact G.callOi (av := [.int x1]) (rest := rest) hd (hk ▸ moX4_116_0) (gX3_share E d 42 x1 I (by unfold isL; decide) hc) (by decide) rfl rfl rfl hW kk
def fD_mindsBeats (o : Nat) (I : Mem) : Option Int32 := if o = 38 then fX5_mindsBeats 38 I else if o = 39 then fX5_mindsBeats 39 I else if o = 40 then fX5_mindsBeats 40 I else if o = 41 then fX7_mindsBeats I else if o = 42 then fX5_mindsBeats 42 I else none
theorem vLX6_91 {E : EV} {d : Nat} {k : MD} {pc o : Nat} {L : List (Option Value)} {rest : List Value} {I : Mem} {r : Option Value × Mem} {v : Int32} (hd : decode k.2.1 pc = .ok (.invokevirtual 91, 3)) (ho : isL o) (hc : fD_mindsBeats o I = some v) (hW : (rest.map fun v => v.category).sum ≤ 8) (hk : RX6 = k.1.cls) (kk : G E (d + 1) k (pc + 3) L (.int v :: rest) I r) : G E (d + 1) k pc L (.ref o :: rest) I r := by
  rcases ho with rfl | rfl | rfl | rfl | rfl
  · exact G.callOi (av := []) (rest := rest) hd (hk ▸ moX6_91_5) (gX5_mindsBeats E d 38 I (by unfold isL; decide) hc) (by decide) rfl rfl rfl hW kk
  · exact G.callOi (av := []) (rest := rest) hd (hk ▸ moX6_91_1) (gX5_mindsBeats E d 39 I (by unfold isL; decide) hc) (by decide) rfl rfl rfl hW kk
  · exact G.callOi (av := []) (rest := rest) hd (hk ▸ moX6_91_3) (gX5_mindsBeats E d 40 I (by unfold isL; decide) hc) (by decide) rfl rfl rfl hW kk
  · exact G.callOi (av := []) (rest := rest) hd (hk ▸ moX6_91_7) (gX7_mindsBeats E d I hc) (by decide) rfl rfl rfl hW kk
  · exact G.callOi (av := []) (rest := rest) hd (hk ▸ moX6_91_0) (gX5_mindsBeats E d 42 I (by unfold isL; decide) hc) (by decide) rfl rfl rfl hW kk
