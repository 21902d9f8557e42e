theorem dX11_alone_0 : decode cX11_alone 0 = .ok (.aload_n 0, 1) := by decide +kernel
theorem dX11_alone_1 : decode cX11_alone 1 = .ok (.iload_n 1, 1) := by decide +kernel
theorem dX11_alone_2 : decode cX11_alone 2 = .ok (.invokevirtual 123, 3) := by decide +kernel
theorem dX11_alone_5 : decode cX11_alone 5 = .ok (.ifCond .ne 10, 3) := by decide +kernel
theorem dX11_alone_8 : decode cX11_alone 8 = .ok (.aload_n 0, 1) := by decide +kernel
theorem dX11_alone_9 : decode cX11_alone 9 = .ok (.bipush (-2), 2) := by decide +kernel
theorem dX11_alone_11 : decode cX11_alone 11 = .ok (.invokevirtual 81, 3) := by decide +kernel
theorem dX11_alone_14 : decode cX11_alone 14 = .ok (.ireturn, 1) := by decide +kernel
theorem dX11_alone_15 : decode cX11_alone 15 = .ok (.aload_n 0, 1) := by decide +kernel
theorem dX11_alone_16 : decode cX11_alone 16 = .ok (.getfield 10, 3) := by decide +kernel
theorem dX11_alone_19 : decode cX11_alone 19 = .ok (.aload_n 0, 1) := by decide +kernel
theorem dX11_alone_20 : decode cX11_alone 20 = .ok (.getfield 10, 3) := by decide +kernel
theorem dX11_alone_23 : decode cX11_alone 23 = .ok (.getfield 151, 3) := by decide +kernel
theorem dX11_alone_26 : decode cX11_alone 26 = .ok (.invokevirtual 174, 3) := by decide +kernel
theorem dX11_alone_29 : decode cX11_alone 29 = .ok (.iload_n 1, 1) := by decide +kernel
theorem dX11_alone_30 : decode cX11_alone 30 = .ok (.invokestatic 101, 3) := by decide +kernel
theorem dX11_alone_33 : decode cX11_alone 33 = .ok (.ifCond .eq 7, 3) := by decide +kernel
theorem dX11_alone_36 : decode cX11_alone 36 = .ok (.iconst 1, 1) := by decide +kernel
theorem dX11_alone_37 : decode cX11_alone 37 = .ok (.goto 4, 3) := by decide +kernel
theorem dX11_alone_40 : decode cX11_alone 40 = .ok (.iconst 0, 1) := by decide +kernel
theorem dX11_alone_41 : decode cX11_alone 41 = .ok (.ireturn, 1) := by decide +kernel
def fX11_alone (x1 : Int32) (I : Mem) : Option (Int32 × Mem) :=
  bnd (fX11_isPerson x1 I) fun v_2 =>
  if v_2 = 0 then
  (bnd2 (fX11_refuse (-2 : Int32) I) fun v_9 I_10 =>
  some (v_9, I_10))
  else
  (bnd (fX4_lone 1 (I 1 3) I) fun v_4 =>
  bnd (fX11_has v_4 x1 I) fun v_6 =>
  if v_6 = 0 then
  (some ((0 : Int32), I))
  else
  (some ((1 : Int32), I)))
set_option maxRecDepth 20000 in
theorem gX11_alone (E : EV) (d : Nat) (x1 : Int32) (I : Mem) {v : Int32} {J : Mem} (hf : fX11_alone x1 I = some (v, J)) : Gm E (d + 2) kX11_alone [.ref 0, .int x1] I (some (.int v), J) := by
  refine (fun (y : (Int32 × Mem)) (hf : fX11_alone x1 I = some y) => (?_ : Gm E (d + 2) kX11_alone [.ref 0, .int x1] I (some (.int y.1), y.2))) (v, J) hf
  refine Gm.of (by decide) rfl (Nat.le_of_ble_eq_true rfl) ?_
  generalize hrr : ((some (.int y.1), y.2) : Option Value × Mem) = rr
  show G E (d + 2) kX11_alone 0 [some (.ref 0), some (.int x1)] [] I rr
  have hK : (fun (z : Int32 × Mem) => (some (.int z.1), z.2) = rr) y := hrr
  clear hrr
  unfold fX11_alone at hf
  refine G.aload_n dX11_alone_0 rfl rfl ?_
  refine G.iload_n dX11_alone_1 rfl rfl ?_
  obtain ⟨v_2, hc_1, hf⟩ := bnd_at hf
  refine G.callVi (av := [.int x1]) (rest := []) dX11_alone_2 mvX11_123 (gX11_isPerson E (d + 1) x1 I hc_1) (by decide) rfl rfl rfl (Nat.le_of_ble_eq_true rfl) ?_
  refine G.if_ne (tgt := 15) dX11_alone_5 (by decide) (fun c_11 => ?_) (fun c_11 => ?_)
  · have hf := ite_f hf c_11
    refine G.aload_n dX11_alone_15 rfl rfl ?_
    refine G.getR (q := 1) dX11_alone_16 flX11_10 (by decide) rfl rfl ?_
    refine G.aload_n dX11_alone_19 rfl rfl ?_
    refine G.getR (q := 1) dX11_alone_20 flX11_10 (by decide) rfl rfl ?_
    refine G.getI dX11_alone_23 flX11_151 (by decide) rfl ?_
    obtain ⟨v_4, hc_3, hf⟩ := bnd_at hf
    refine G.callVi (av := [.int (I 1 3)]) (rest := []) dX11_alone_26 mvX11_174 (gX4_lone E d 1 (I 1 3) I (by unfold isH; decide) hc_3) (by decide) rfl rfl rfl (Nat.le_of_ble_eq_true rfl) ?_
    refine G.iload_n dX11_alone_29 rfl rfl ?_
    obtain ⟨v_6, hc_5, hf⟩ := bnd_at hf
    refine G.callSi (av := [.int v_4, .int x1]) (rest := []) dX11_alone_30 msX11_101 (gX11_has E (d + 1) v_4 x1 I hc_5) rfl rfl (Nat.le_of_ble_eq_true rfl) ?_
    refine G.if_eq (tgt := 40) dX11_alone_33 (by decide) (fun c_7 => ?_) (fun c_7 => ?_)
    · have hf := ite_t hf c_7
      refine G.iconst (v := 0) dX11_alone_40 (by decide) ?_
      have hf := Option.some.inj hf
      subst hf
      exact G.iret' dX11_alone_41 rfl hK
    · have hf := ite_f hf c_7
      refine G.iconst (v := 1) dX11_alone_36 (by decide) ?_
      refine G.goto (tgt := 41) dX11_alone_37 (by decide) ?_
      have hf := Option.some.inj hf
      subst hf
      exact G.iret' dX11_alone_41 rfl hK
  · have hf := ite_t hf c_11
    refine G.aload_n dX11_alone_8 rfl rfl ?_
    refine G.bipush (v := -2) dX11_alone_9 (by decide) ?_
    obtain ⟨v_9, I_10, hc_8, hf⟩ := bnd2_at hf
    refine G.callVi (av := [.int (-2 : Int32)]) (rest := []) dX11_alone_11 mvX11_81 (gX11_refuse E (d + 1) (-2 : Int32) I hc_8) (by decide) rfl rfl rfl (Nat.le_of_ble_eq_true rfl) ?_
    have hf := Option.some.inj hf
    subst hf
    exact G.iret' dX11_alone_14 rfl hK
theorem dX11_plan_0 : decode cX11_plan 0 = .ok (.aload_n 0, 1) := by decide +kernel
theorem dX11_plan_1 : decode cX11_plan 1 = .ok (.iload_n 1, 1) := by decide +kernel
theorem dX11_plan_2 : decode cX11_plan 2 = .ok (.invokevirtual 148, 3) := by decide +kernel
theorem dX11_plan_5 : decode cX11_plan 5 = .ok (.ifCond .ne 10, 3) := by decide +kernel
theorem dX11_plan_8 : decode cX11_plan 8 = .ok (.aload_n 0, 1) := by decide +kernel
theorem dX11_plan_9 : decode cX11_plan 9 = .ok (.bipush (-2), 2) := by decide +kernel
theorem dX11_plan_11 : decode cX11_plan 11 = .ok (.invokevirtual 81, 3) := by decide +kernel
theorem dX11_plan_14 : decode cX11_plan 14 = .ok (.ireturn, 1) := by decide +kernel
theorem dX11_plan_15 : decode cX11_plan 15 = .ok (.aload_n 0, 1) := by decide +kernel
theorem dX11_plan_16 : decode cX11_plan 16 = .ok (.getfield 10, 3) := by decide +kernel
theorem dX11_plan_19 : decode cX11_plan 19 = .ok (.getfield 177, 3) := by decide +kernel
theorem dX11_plan_22 : decode cX11_plan 22 = .ok (.bipush 8, 2) := by decide +kernel
theorem dX11_plan_24 : decode cX11_plan 24 = .ok (.if_icmp .lt 10, 3) := by decide +kernel
theorem dX11_plan_27 : decode cX11_plan 27 = .ok (.aload_n 0, 1) := by decide +kernel
theorem dX11_plan_28 : decode cX11_plan 28 = .ok (.bipush (-4), 2) := by decide +kernel
theorem dX11_plan_30 : decode cX11_plan 30 = .ok (.invokevirtual 81, 3) := by decide +kernel
theorem dX11_plan_33 : decode cX11_plan 33 = .ok (.ireturn, 1) := by decide +kernel
theorem dX11_plan_34 : decode cX11_plan 34 = .ok (.aload_n 0, 1) := by decide +kernel
theorem dX11_plan_35 : decode cX11_plan 35 = .ok (.getfield 10, 3) := by decide +kernel
theorem dX11_plan_38 : decode cX11_plan 38 = .ok (.getfield 180, 3) := by decide +kernel
theorem dX11_plan_41 : decode cX11_plan 41 = .ok (.aload_n 0, 1) := by decide +kernel
theorem dX11_plan_42 : decode cX11_plan 42 = .ok (.getfield 10, 3) := by decide +kernel
theorem dX11_plan_45 : decode cX11_plan 45 = .ok (.getfield 177, 3) := by decide +kernel
theorem dX11_plan_48 : decode cX11_plan 48 = .ok (.iload_n 1, 1) := by decide +kernel
theorem dX11_plan_49 : decode cX11_plan 49 = .ok (.iastore, 1) := by decide +kernel
theorem dX11_plan_50 : decode cX11_plan 50 = .ok (.aload_n 0, 1) := by decide +kernel
theorem dX11_plan_51 : decode cX11_plan 51 = .ok (.getfield 10, 3) := by decide +kernel
theorem dX11_plan_54 : decode cX11_plan 54 = .ok (.dup, 1) := by decide +kernel
theorem dX11_plan_55 : decode cX11_plan 55 = .ok (.getfield 177, 3) := by decide +kernel
theorem dX11_plan_58 : decode cX11_plan 58 = .ok (.iconst 1, 1) := by decide +kernel
theorem dX11_plan_59 : decode cX11_plan 59 = .ok (.iadd, 1) := by decide +kernel
theorem dX11_plan_60 : decode cX11_plan 60 = .ok (.putfield 177, 3) := by decide +kernel
theorem dX11_plan_63 : decode cX11_plan 63 = .ok (.aload_n 0, 1) := by decide +kernel
theorem dX11_plan_64 : decode cX11_plan 64 = .ok (.getfield 10, 3) := by decide +kernel
theorem dX11_plan_67 : decode cX11_plan 67 = .ok (.getfield 177, 3) := by decide +kernel
theorem dX11_plan_70 : decode cX11_plan 70 = .ok (.ireturn, 1) := by decide +kernel
def fX11_plan (x1 : Int32) (I : Mem) : Option (Int32 × Mem) :=
  bnd (fX11_isStanding x1 I) fun v_2 =>
  if v_2 = 0 then
  (bnd2 (fX11_refuse (-2 : Int32) I) fun v_11 I_12 =>
  some (v_11, I_12))
  else
  (if (I 1 6) < (8 : Int32) then
  (chk (inb (I 1 6) 8) <|
  letb (up2 I 7 (ix (I 1 6)) x1) fun I_4 =>
  letb (up2 I_4 1 6 ((I_4 1 6) + (1 : Int32))) fun I_5 =>
  some ((I_5 1 6), I_5))
  else
  (bnd2 (fX11_refuse (-4 : Int32) I) fun v_7 I_8 =>
  some (v_7, I_8)))
set_option maxRecDepth 20000 in
theorem gX11_plan (E : EV) (d : Nat) (x1 : Int32) (I : Mem) {v : Int32} {J : Mem} (hf : fX11_plan x1 I = some (v, J)) : Gm E (d + 2) kX11_plan [.ref 0, .int x1] I (some (.int v), J) := by
  refine (fun (y : (Int32 × Mem)) (hf : fX11_plan x1 I = some y) => (?_ : Gm E (d + 2) kX11_plan [.ref 0, .int x1] I (some (.int y.1), y.2))) (v, J) hf
  refine Gm.of (by decide) rfl (Nat.le_of_ble_eq_true rfl) ?_
  generalize hrr : ((some (.int y.1), y.2) : Option Value × Mem) = rr
  show G E (d + 2) kX11_plan 0 [some (.ref 0), some (.int x1)] [] I rr
  have hK : (fun (z : Int32 × Mem) => (some (.int z.1), z.2) = rr) y := hrr
  clear hrr
  unfold fX11_plan at hf
  refine G.aload_n dX11_plan_0 rfl rfl ?_
  refine G.iload_n dX11_plan_1 rfl rfl ?_
  obtain ⟨v_2, hc_1, hf⟩ := bnd_at hf
  refine G.callVi (av := [.int x1]) (rest := []) dX11_plan_2 mvX11_148 (gX11_isStanding E d x1 I hc_1) (by decide) rfl rfl rfl (Nat.le_of_ble_eq_true rfl) ?_
  refine G.if_ne (tgt := 15) dX11_plan_5 (by decide) (fun c_13 => ?_) (fun c_13 => ?_)
  · have hf := ite_f hf c_13
    refine G.aload_n dX11_plan_15 rfl rfl ?_
    refine G.getR (q := 1) dX11_plan_16 flX11_10 (by decide) rfl rfl ?_
    refine G.getI dX11_plan_19 flX11_177 (by decide) rfl ?_
    refine G.bipush (v := 8) dX11_plan_22 (by decide) ?_
    refine G.icmp_lt (tgt := 34) dX11_plan_24 (by decide) (fun c_9 => ?_) (fun c_9 => ?_)
    · have hf := ite_t hf c_9
      refine G.aload_n dX11_plan_34 rfl rfl ?_
      refine G.getR (q := 1) dX11_plan_35 flX11_10 (by decide) rfl rfl ?_
      refine G.getR (q := 7) dX11_plan_38 flX11_180 (by decide) rfl rfl ?_
      refine G.aload_n dX11_plan_41 rfl rfl ?_
      refine G.getR (q := 1) dX11_plan_42 flX11_10 (by decide) rfl rfl ?_
      refine G.getI dX11_plan_45 flX11_177 (by decide) rfl ?_
      refine G.iload_n dX11_plan_48 rfl rfl ?_
      obtain ⟨hi_3, hf⟩ := chk_at hf
      refine G.iast' dX11_plan_49 (by decide) rfl rfl hi_3 ?_
      refine G.nmI (fun I_4 e_I_4 => ?_)
      have hf := letb_at hf e_I_4
      clear e_I_4
      refine G.aload_n dX11_plan_50 rfl rfl ?_
      refine G.getR (q := 1) dX11_plan_51 flX11_10 (by decide) rfl rfl ?_
      refine G.dup dX11_plan_54 rfl ?_
      refine G.getI dX11_plan_55 flX11_177 (by decide) rfl ?_
      refine G.iconst (v := 1) dX11_plan_58 (by decide) ?_
      refine G.iadd dX11_plan_59 ?_
      refine G.putI dX11_plan_60 flX11_177 (by decide) rfl ?_
      refine G.nmI (fun I_5 e_I_5 => ?_)
      have hf := letb_at hf e_I_5
      clear e_I_5
      refine G.aload_n dX11_plan_63 rfl rfl ?_
      refine G.getR (q := 1) dX11_plan_64 flX11_10 (by decide) rfl rfl ?_
      refine G.getI dX11_plan_67 flX11_177 (by decide) rfl ?_
      have hf := Option.some.inj hf
      subst hf
      exact G.iret' dX11_plan_70 rfl hK
    · have hf := ite_f hf c_9
      refine G.aload_n dX11_plan_27 rfl rfl ?_
      refine G.bipush (v := -4) dX11_plan_28 (by decide) ?_
      obtain ⟨v_7, I_8, hc_6, hf⟩ := bnd2_at hf
      refine G.callVi (av := [.int (-4 : Int32)]) (rest := []) dX11_plan_30 mvX11_81 (gX11_refuse E (d + 1) (-4 : Int32) I hc_6) (by decide) rfl rfl rfl (Nat.le_of_ble_eq_true rfl) ?_
      have hf := Option.some.inj hf
      subst hf
      exact G.iret' dX11_plan_33 rfl hK
  · have hf := ite_t hf c_13
    refine G.aload_n dX11_plan_8 rfl rfl ?_
    refine G.bipush (v := -2) dX11_plan_9 (by decide) ?_
    obtain ⟨v_11, I_12, hc_10, hf⟩ := bnd2_at hf
    refine G.callVi (av := [.int (-2 : Int32)]) (rest := []) dX11_plan_11 mvX11_81 (gX11_refuse E (d + 1) (-2 : Int32) I hc_10) (by decide) rfl rfl rfl (Nat.le_of_ble_eq_true rfl) ?_
    have hf := Option.some.inj hf
    subst hf
    exact G.iret' dX11_plan_14 rfl hK
theorem dX11_scrap_0 : decode cX11_scrap 0 = .ok (.aload_n 0, 1) := by decide +kernel
theorem dX11_scrap_1 : decode cX11_scrap 1 = .ok (.getfield 10, 3) := by decide +kernel
theorem dX11_scrap_4 : decode cX11_scrap 4 = .ok (.getfield 177, 3) := by decide +kernel
theorem dX11_scrap_7 : decode cX11_scrap 7 = .ok (.istore_n 1, 1) := by decide +kernel
theorem dX11_scrap_8 : decode cX11_scrap 8 = .ok (.aload_n 0, 1) := by decide +kernel
theorem dX11_scrap_9 : decode cX11_scrap 9 = .ok (.getfield 10, 3) := by decide +kernel
theorem dX11_scrap_12 : decode cX11_scrap 12 = .ok (.iconst 0, 1) := by decide +kernel
theorem dX11_scrap_13 : decode cX11_scrap 13 = .ok (.putfield 177, 3) := by decide +kernel
theorem dX11_scrap_16 : decode cX11_scrap 16 = .ok (.iload_n 1, 1) := by decide +kernel
theorem dX11_scrap_17 : decode cX11_scrap 17 = .ok (.ireturn, 1) := by decide +kernel
def fX11_scrap (I : Mem) : Option (Int32 × Mem) :=
  letb (I 1 6) fun x1_1 =>
  letb (up2 I 1 6 (0 : Int32)) fun I_2 =>
  some (x1_1, I_2)
set_option maxRecDepth 20000 in
theorem gX11_scrap (E : EV) (d : Nat) (I : Mem) {v : Int32} {J : Mem} (hf : fX11_scrap I = some (v, J)) : Gm E (d + 0) kX11_scrap [.ref 0] I (some (.int v), J) := by
  refine (fun (y : (Int32 × Mem)) (hf : fX11_scrap I = some y) => (?_ : Gm E (d + 0) kX11_scrap [.ref 0] I (some (.int y.1), y.2))) (v, J) hf
  refine Gm.of (by decide) rfl (Nat.le_of_ble_eq_true rfl) ?_
  generalize hrr : ((some (.int y.1), y.2) : Option Value × Mem) = rr
  show G E (d + 0) kX11_scrap 0 [some (.ref 0), none] [] I rr
  have hK : (fun (z : Int32 × Mem) => (some (.int z.1), z.2) = rr) y := hrr
  clear hrr
  unfold fX11_scrap at hf
  refine G.aload_n dX11_scrap_0 rfl rfl ?_
  refine G.getR (q := 1) dX11_scrap_1 flX11_10 (by decide) rfl rfl ?_
  refine G.getI dX11_scrap_4 flX11_177 (by decide) rfl ?_
  refine G.nmi (fun x1_1 e_x1_1 => ?_)
  have hf := letb_at hf e_x1_1
  clear e_x1_1
  refine G.istore_n (L' := [some (.ref 0), some (.int x1_1)]) dX11_scrap_7 rfl (Nat.le_of_ble_eq_true rfl) (Nat.le_of_ble_eq_true rfl) rfl rfl ?_
  refine G.aload_n dX11_scrap_8 rfl rfl ?_
  refine G.getR (q := 1) dX11_scrap_9 flX11_10 (by decide) rfl rfl ?_
  refine G.iconst (v := 0) dX11_scrap_12 (by decide) ?_
  refine G.putI dX11_scrap_13 flX11_177 (by decide) rfl ?_
  refine G.nmI (fun I_2 e_I_2 => ?_)
  have hf := letb_at hf e_I_2
  clear e_I_2
  refine G.iload_n dX11_scrap_16 rfl rfl ?_
  have hf := Option.some.inj hf
  subst hf
  exact G.iret' dX11_scrap_17 rfl hK
theorem dX11_judge_0 : decode cX11_judge 0 = .ok (.aload_n 0, 1) := by decide +kernel
theorem dX11_judge_1 : decode cX11_judge 1 = .ok (.getfield 10, 3) := by decide +kernel
theorem dX11_judge_4 : decode cX11_judge 4 = .ok (.getfield 151, 3) := by decide +kernel
theorem dX11_judge_7 : decode cX11_judge 7 = .ok (.istore_n 1, 1) := by decide +kernel
theorem dX11_judge_8 : decode cX11_judge 8 = .ok (.iconst 0, 1) := by decide +kernel
theorem dX11_judge_9 : decode cX11_judge 9 = .ok (.istore_n 2, 1) := by decide +kernel
theorem dX11_judge_10 : decode cX11_judge 10 = .ok (.iload_n 2, 1) := by decide +kernel
theorem dX11_judge_11 : decode cX11_judge 11 = .ok (.aload_n 0, 1) := by decide +kernel
theorem dX11_judge_12 : decode cX11_judge 12 = .ok (.getfield 10, 3) := by decide +kernel
theorem dX11_judge_15 : decode cX11_judge 15 = .ok (.getfield 177, 3) := by decide +kernel
theorem dX11_judge_18 : decode cX11_judge 18 = .ok (.if_icmp .ge 41, 3) := by decide +kernel
theorem dX11_judge_21 : decode cX11_judge 21 = .ok (.aload_n 0, 1) := by decide +kernel
theorem dX11_judge_22 : decode cX11_judge 22 = .ok (.getfield 10, 3) := by decide +kernel
theorem dX11_judge_25 : decode cX11_judge 25 = .ok (.iload_n 1, 1) := by decide +kernel
theorem dX11_judge_26 : decode cX11_judge 26 = .ok (.aload_n 0, 1) := by decide +kernel
theorem dX11_judge_27 : decode cX11_judge 27 = .ok (.getfield 10, 3) := by decide +kernel
theorem dX11_judge_30 : decode cX11_judge 30 = .ok (.getfield 180, 3) := by decide +kernel
theorem dX11_judge_33 : decode cX11_judge 33 = .ok (.iload_n 2, 1) := by decide +kernel
theorem dX11_judge_34 : decode cX11_judge 34 = .ok (.iaload, 1) := by decide +kernel
theorem dX11_judge_35 : decode cX11_judge 35 = .ok (.invokevirtual 154, 3) := by decide +kernel
theorem dX11_judge_38 : decode cX11_judge 38 = .ok (.ifCond .ne 5, 3) := by decide +kernel
theorem dX11_judge_41 : decode cX11_judge 41 = .ok (.iload_n 2, 1) := by decide +kernel
theorem dX11_judge_42 : decode cX11_judge 42 = .ok (.ireturn, 1) := by decide +kernel
theorem dX11_judge_43 : decode cX11_judge 43 = .ok (.aload_n 0, 1) := by decide +kernel
theorem dX11_judge_44 : decode cX11_judge 44 = .ok (.getfield 10, 3) := by decide +kernel
theorem dX11_judge_47 : decode cX11_judge 47 = .ok (.getfield 180, 3) := by decide +kernel
theorem dX11_judge_50 : decode cX11_judge 50 = .ok (.iload_n 2, 1) := by decide +kernel
theorem dX11_judge_51 : decode cX11_judge 51 = .ok (.iaload, 1) := by decide +kernel
theorem dX11_judge_52 : decode cX11_judge 52 = .ok (.istore_n 1, 1) := by decide +kernel
theorem dX11_judge_53 : decode cX11_judge 53 = .ok (.iinc 2 1, 3) := by decide +kernel
theorem dX11_judge_56 : decode cX11_judge 56 = .ok (.goto (-46), 3) := by decide +kernel
theorem dX11_judge_59 : decode cX11_judge 59 = .ok (.iconst (-1), 1) := by decide +kernel
theorem dX11_judge_60 : decode cX11_judge 60 = .ok (.ireturn, 1) := by decide +kernel
def KX11_judge_10 (E : EV) (d : Nat) (rr : Option Value × Mem) (I : Mem) (Kp : Int32 → Prop) : ((Int32 × Int32) ⊕ Int32) → Prop
  | .inl q => G E (d + 2) kX11_judge 10 [some (.ref 0), some (.int q.1), some (.int q.2)] [] I rr
  | .inr z => Kp z
def bX11_judge_10 (I : Mem) (x1 : Int32) (x2 : Int32) : Option ((Int32 × Int32) ⊕ Int32) :=
  if (I 1 6) ≤ x2 then
  (some (.inr (-1 : Int32)))
  else
  (chk (inb x2 8) <|
  bnd (fX4_canGo 1 x1 (I 7 (ix x2)) I) fun v_4 =>
  if v_4 = 0 then
  (some (.inr x2))
  else
  (chk (inb x2 8) <|
  letb (I 7 (ix x2)) fun x1_6 =>
  some (.inl (x1_6, (x2 + (1 : Int32))))))
def sX11_judge_10 (I : Mem) (q : (Int32 × Int32)) : Option ((Int32 × Int32) ⊕ Int32) := bX11_judge_10 I q.1 q.2
set_option maxRecDepth 20000 in
theorem wX11_judge_10 (E : EV) (d : Nat) (rr : Option Value × Mem) (I : Mem) (x1 : Int32) (x2 : Int32) (y : ((Int32 × Int32) ⊕ Int32)) (hf : bX11_judge_10 I x1 x2 = some y) (hK : (KX11_judge_10 E d rr I (fun (z : Int32) => (some (.int z), I) = rr)) y) : G E (d + 2) kX11_judge 10 [some (.ref 0), some (.int x1), some (.int x2)] [] I rr := by
  unfold bX11_judge_10 at hf
  refine G.iload_n dX11_judge_10 rfl rfl ?_
  refine G.aload_n dX11_judge_11 rfl rfl ?_
  refine G.getR (q := 1) dX11_judge_12 flX11_10 (by decide) rfl rfl ?_
  refine G.getI dX11_judge_15 flX11_177 (by decide) rfl ?_
  refine G.icmp_ge (tgt := 59) dX11_judge_18 (by decide) (fun c_8 => ?_) (fun c_8 => ?_)
  · have hf := ite_t hf c_8
    refine G.iconst (v := -1) dX11_judge_59 (by decide) ?_
    have hf := Option.some.inj hf
    subst hf
    exact G.iret' dX11_judge_60 rfl hK
  · have hf := ite_f hf c_8
    refine G.aload_n dX11_judge_21 rfl rfl ?_
    refine G.getR (q := 1) dX11_judge_22 flX11_10 (by decide) rfl rfl ?_
    refine G.iload_n dX11_judge_25 rfl rfl ?_
    refine G.aload_n dX11_judge_26 rfl rfl ?_
    refine G.getR (q := 1) dX11_judge_27 flX11_10 (by decide) rfl rfl ?_
    refine G.getR (q := 7) dX11_judge_30 flX11_180 (by decide) rfl rfl ?_
    refine G.iload_n dX11_judge_33 rfl rfl ?_
    obtain ⟨hi_2, hf⟩ := chk_at hf
    refine G.iald' dX11_judge_34 (by decide) rfl rfl hi_2 ?_
    obtain ⟨v_4, hc_3, hf⟩ := bnd_at hf
    refine G.callVi (av := [.int x1, .int (I 7 (ix x2))]) (rest := []) dX11_judge_35 mvX11_154 (gX4_canGo E d 1 x1 (I 7 (ix x2)) I (by unfold isH; decide) hc_3) (by decide) rfl rfl rfl (Nat.le_of_ble_eq_true rfl) ?_
    refine G.if_ne (tgt := 43) dX11_judge_38 (by decide) (fun c_7 => ?_) (fun c_7 => ?_)
    · have hf := ite_f hf c_7
      refine G.aload_n dX11_judge_43 rfl rfl ?_
      refine G.getR (q := 1) dX11_judge_44 flX11_10 (by decide) rfl rfl ?_
      refine G.getR (q := 7) dX11_judge_47 flX11_180 (by decide) rfl rfl ?_
      refine G.iload_n dX11_judge_50 rfl rfl ?_
      obtain ⟨hi_5, hf⟩ := chk_at hf
      refine G.iald' dX11_judge_51 (by decide) rfl rfl hi_5 ?_
      refine G.nmi (fun x1_6 e_x1_6 => ?_)
      have hf := letb_at hf e_x1_6
      clear e_x1_6
      refine G.istore_n (L' := [some (.ref 0), some (.int x1_6), some (.int x2)]) dX11_judge_52 rfl (Nat.le_of_ble_eq_true rfl) (Nat.le_of_ble_eq_true rfl) rfl rfl ?_
      refine G.inc (w := 1) (L' := [some (.ref 0), some (.int x1_6), some (.int (x2 + (1 : Int32)))]) dX11_judge_53 (by decide) rfl (Nat.le_of_ble_eq_true rfl) rfl rfl ?_
      refine G.goto (tgt := 10) dX11_judge_56 (by decide) ?_
      have hf := Option.some.inj hf
      subst hf
      exact hK
    · have hf := ite_t hf c_7
      refine G.iload_n dX11_judge_41 rfl rfl ?_
      have hf := Option.some.inj hf
      subst hf
      exact G.iret' dX11_judge_42 rfl hK
theorem lX11_judge_10 (E : EV) (d : Nat) (rr : Option Value × Mem) (I : Mem) (z : Int32) (hK : (fun (z : Int32) => (some (.int z), I) = rr) z) : ∀ (n : Nat) (q : (Int32 × Int32)), iter (sX11_judge_10 I) n q = some z → G E (d + 2) kX11_judge 10 [some (.ref 0), some (.int q.1), some (.int q.2)] [] I rr := by
  intro n
  induction n with
  | zero => intro q h; cases h
  | succ n ih =>
    intro q h
    rcases iter_at h with ⟨q2, hs, h2⟩ | hs
    · exact wX11_judge_10 E d rr I q.1 q.2 _ hs (ih q2 h2)
    · exact wX11_judge_10 E d rr I q.1 q.2 _ hs hK
def fX11_judge (I : Mem) : Option Int32 :=
  letb (I 1 3) fun x1_1 =>
  iter (sX11_judge_10 I) FU (x1_1, (0 : Int32))
set_option maxRecDepth 20000 in
theorem gX11_judge (E : EV) (d : Nat) (I : Mem) {v : Int32} (hf : fX11_judge I = some v) : Gm E (d + 2) kX11_judge [.ref 0] I (some (.int v), I) := by
  refine (fun (y : Int32) (hf : fX11_judge I = some y) => (?_ : Gm E (d + 2) kX11_judge [.ref 0] I (some (.int y), I))) v hf
  refine Gm.of (by decide) rfl (Nat.le_of_ble_eq_true rfl) ?_
  generalize hrr : ((some (.int y), I) : Option Value × Mem) = rr
  show G E (d + 2) kX11_judge 0 [some (.ref 0), none, none] [] I rr
  have hK : (fun (z : Int32) => (some (.int z), I) = rr) y := hrr
  clear hrr
  unfold fX11_judge at hf
  refine G.aload_n dX11_judge_0 rfl rfl ?_
  refine G.getR (q := 1) dX11_judge_1 flX11_10 (by decide) rfl rfl ?_
  refine G.getI dX11_judge_4 flX11_151 (by decide) rfl ?_
  refine G.nmi (fun x1_1 e_x1_1 => ?_)
  have hf := letb_at hf e_x1_1
  clear e_x1_1
  refine G.istore_n (L' := [some (.ref 0), some (.int x1_1), none]) dX11_judge_7 rfl (Nat.le_of_ble_eq_true rfl) (Nat.le_of_ble_eq_true rfl) rfl rfl ?_
  refine G.iconst (v := 0) dX11_judge_8 (by decide) ?_
  refine G.istore_n (L' := [some (.ref 0), some (.int x1_1), some (.int (0 : Int32))]) dX11_judge_9 rfl (Nat.le_of_ble_eq_true rfl) (Nat.le_of_ble_eq_true rfl) rfl rfl ?_
  exact lX11_judge_10 E d rr I _ hK FU _ hf
theorem dX11_cost_0 : decode cX11_cost 0 = .ok (.aload_n 0, 1) := by decide +kernel
theorem dX11_cost_1 : decode cX11_cost 1 = .ok (.iload_n 1, 1) := by decide +kernel
theorem dX11_cost_2 : decode cX11_cost 2 = .ok (.invokevirtual 117, 3) := by decide +kernel
theorem dX11_cost_5 : decode cX11_cost 5 = .ok (.ifCond .ne 10, 3) := by decide +kernel
theorem dX11_cost_8 : decode cX11_cost 8 = .ok (.aload_n 0, 1) := by decide +kernel
theorem dX11_cost_9 : decode cX11_cost 9 = .ok (.bipush (-2), 2) := by decide +kernel
theorem dX11_cost_11 : decode cX11_cost 11 = .ok (.invokevirtual 81, 3) := by decide +kernel
theorem dX11_cost_14 : decode cX11_cost 14 = .ok (.ireturn, 1) := by decide +kernel
theorem dX11_cost_15 : decode cX11_cost 15 = .ok (.aload_n 0, 1) := by decide +kernel
theorem dX11_cost_16 : decode cX11_cost 16 = .ok (.invokevirtual 183, 3) := by decide +kernel
theorem dX11_cost_19 : decode cX11_cost 19 = .ok (.iconst (-1), 1) := by decide +kernel
theorem dX11_cost_20 : decode cX11_cost 20 = .ok (.if_icmp .eq 10, 3) := by decide +kernel
theorem dX11_cost_23 : decode cX11_cost 23 = .ok (.aload_n 0, 1) := by decide +kernel
theorem dX11_cost_24 : decode cX11_cost 24 = .ok (.bipush (-3), 2) := by decide +kernel
theorem dX11_cost_26 : decode cX11_cost 26 = .ok (.invokevirtual 81, 3) := by decide +kernel
theorem dX11_cost_29 : decode cX11_cost 29 = .ok (.ireturn, 1) := by decide +kernel
theorem dX11_cost_30 : decode cX11_cost 30 = .ok (.aload_n 0, 1) := by decide +kernel
theorem dX11_cost_31 : decode cX11_cost 31 = .ok (.getfield 16, 3) := by decide +kernel
theorem dX11_cost_34 : decode cX11_cost 34 = .ok (.aload_n 0, 1) := by decide +kernel
theorem dX11_cost_35 : decode cX11_cost 35 = .ok (.getfield 10, 3) := by decide +kernel
theorem dX11_cost_38 : decode cX11_cost 38 = .ok (.invokevirtual 144, 3) := by decide +kernel
theorem dX11_cost_41 : decode cX11_cost 41 = .ok (.iconst 0, 1) := by decide +kernel
theorem dX11_cost_42 : decode cX11_cost 42 = .ok (.istore_n 2, 1) := by decide +kernel
theorem dX11_cost_43 : decode cX11_cost 43 = .ok (.iconst 0, 1) := by decide +kernel
theorem dX11_cost_44 : decode cX11_cost 44 = .ok (.istore_n 3, 1) := by decide +kernel
theorem dX11_cost_45 : decode cX11_cost 45 = .ok (.iload_n 3, 1) := by decide +kernel
theorem dX11_cost_46 : decode cX11_cost 46 = .ok (.aload_n 0, 1) := by decide +kernel
theorem dX11_cost_47 : decode cX11_cost 47 = .ok (.getfield 10, 3) := by decide +kernel
theorem dX11_cost_50 : decode cX11_cost 50 = .ok (.getfield 177, 3) := by decide +kernel
theorem dX11_cost_53 : decode cX11_cost 53 = .ok (.if_icmp .ge 34, 3) := by decide +kernel
theorem dX11_cost_56 : decode cX11_cost 56 = .ok (.iload_n 2, 1) := by decide +kernel
theorem dX11_cost_57 : decode cX11_cost 57 = .ok (.aload_n 0, 1) := by decide +kernel
theorem dX11_cost_58 : decode cX11_cost 58 = .ok (.getfield 16, 3) := by decide +kernel
theorem dX11_cost_61 : decode cX11_cost 61 = .ok (.aload_n 0, 1) := by decide +kernel
theorem dX11_cost_62 : decode cX11_cost 62 = .ok (.getfield 10, 3) := by decide +kernel
theorem dX11_cost_65 : decode cX11_cost 65 = .ok (.getfield 180, 3) := by decide +kernel
theorem dX11_cost_68 : decode cX11_cost 68 = .ok (.iload_n 3, 1) := by decide +kernel
theorem dX11_cost_69 : decode cX11_cost 69 = .ok (.iaload, 1) := by decide +kernel
theorem dX11_cost_70 : decode cX11_cost 70 = .ok (.aload_n 0, 1) := by decide +kernel
theorem dX11_cost_71 : decode cX11_cost 71 = .ok (.getfield 49, 3) := by decide +kernel
theorem dX11_cost_74 : decode cX11_cost 74 = .ok (.iload_n 1, 1) := by decide +kernel
theorem dX11_cost_75 : decode cX11_cost 75 = .ok (.aaload, 1) := by decide +kernel
theorem dX11_cost_76 : decode cX11_cost 76 = .ok (.invokevirtual 160, 3) := by decide +kernel
theorem dX11_cost_79 : decode cX11_cost 79 = .ok (.iadd, 1) := by decide +kernel
theorem dX11_cost_80 : decode cX11_cost 80 = .ok (.istore_n 2, 1) := by decide +kernel
theorem dX11_cost_81 : decode cX11_cost 81 = .ok (.iinc 3 1, 3) := by decide +kernel
theorem dX11_cost_84 : decode cX11_cost 84 = .ok (.goto (-39), 3) := by decide +kernel
theorem dX11_cost_87 : decode cX11_cost 87 = .ok (.iload_n 2, 1) := by decide +kernel
theorem dX11_cost_88 : decode cX11_cost 88 = .ok (.ireturn, 1) := by decide +kernel
def KX11_cost_45 (E : EV) (d : Nat) (rr : Option Value × Mem) (x1 : Int32) (Kp : (Int32 × Mem) → Prop) : ((Int32 × Int32 × Mem) ⊕ (Int32 × Mem)) → Prop
  | .inl q => G E (d + 4) kX11_cost 45 [some (.ref 0), some (.int x1), some (.int q.1), some (.int q.2.1)] [] q.2.2 rr
  | .inr z => Kp z
def bX11_cost_45 (x1 : Int32) (x2 : Int32) (x3 : Int32) (I : Mem) : Option ((Int32 × Int32 × Mem) ⊕ (Int32 × Mem)) :=
  if (I 1 6) ≤ x3 then
  (some (.inr (x2, I)))
  else
  (chk (inb x3 8) <|
  chk (inb x1 5) <|
  bnd (asL (fin 37 (ix x1))) fun o9_9 =>
  bnd2 (fX4_go 9 (I 7 (ix x3)) o9_9 I) fun v_11 I_12 =>
  letb (x2 + v_11) fun x2_13 =>
  some (.inl (x2_13, (x3 + (1 : Int32)), I_12)))
def sX11_cost_45 (x1 : Int32) (q : (Int32 × Int32 × Mem)) : Option ((Int32 × Int32 × Mem) ⊕ (Int32 × Mem)) := bX11_cost_45 x1 q.1 q.2.1 q.2.2
set_option maxRecDepth 20000 in
theorem wX11_cost_45 (E : EV) (d : Nat) (rr : Option Value × Mem) (x1 : Int32) (x2 : Int32) (x3 : Int32) (I : Mem) (y : ((Int32 × Int32 × Mem) ⊕ (Int32 × Mem))) (hf : bX11_cost_45 x1 x2 x3 I = some y) (hK : (KX11_cost_45 E d rr x1 (fun (z : Int32 × Mem) => (some (.int z.1), z.2) = rr)) y) : G E (d + 4) kX11_cost 45 [some (.ref 0), some (.int x1), some (.int x2), some (.int x3)] [] I rr := by
  unfold bX11_cost_45 at hf
  refine G.iload_n dX11_cost_45 rfl rfl ?_
  refine G.aload_n dX11_cost_46 rfl rfl ?_
  refine G.getR (q := 1) dX11_cost_47 flX11_10 (by decide) rfl rfl ?_
  refine G.getI dX11_cost_50 flX11_177 (by decide) rfl ?_
  refine G.icmp_ge (tgt := 87) dX11_cost_53 (by decide) (fun c_14 => ?_) (fun c_14 => ?_)
  · have hf := ite_t hf c_14
    refine G.iload_n dX11_cost_87 rfl rfl ?_
    have hf := Option.some.inj hf
    subst hf
    exact G.iret' dX11_cost_88 rfl hK
  · have hf := ite_f hf c_14
    refine G.iload_n dX11_cost_56 rfl rfl ?_
    refine G.aload_n dX11_cost_57 rfl rfl ?_
    refine G.getR (q := 9) dX11_cost_58 flX11_16 (by decide) rfl rfl ?_
    refine G.aload_n dX11_cost_61 rfl rfl ?_
    refine G.getR (q := 1) dX11_cost_62 flX11_10 (by decide) rfl rfl ?_
    refine G.getR (q := 7) dX11_cost_65 flX11_180 (by decide) rfl rfl ?_
    refine G.iload_n dX11_cost_68 rfl rfl ?_
    obtain ⟨hi_7, hf⟩ := chk_at hf
    refine G.iald' dX11_cost_69 (by decide) rfl rfl hi_7 ?_
    refine G.aload_n dX11_cost_70 rfl rfl ?_
    refine G.getR (q := 37) dX11_cost_71 flX11_49 (by decide) rfl rfl ?_
    refine G.iload_n dX11_cost_74 rfl rfl ?_
    obtain ⟨hi_8, hf⟩ := chk_at hf
    obtain ⟨o9_9, ho9_9a, hf⟩ := bnd_at hf
    obtain ⟨ho9_9d, ho9_9⟩ := asL_at ho9_9a
    refine G.aaldO (q := o9_9) dX11_cost_75 (by decide) rfl hi_8 ho9_9d ?_
    obtain ⟨v_11, I_12, hc_10, hf⟩ := bnd2_at hf
    refine G.callVi (av := [.int (I 7 (ix x3)), .ref o9_9]) (rest := [.int x2]) dX11_cost_76 mvX11_160 (gX4_go E d 9 (I 7 (ix x3)) o9_9 I (by unfold isH; decide) ho9_9 hc_10) (by decide) rfl rfl rfl (Nat.le_of_ble_eq_true rfl) ?_
    refine G.iadd dX11_cost_79 ?_
    refine G.nmi (fun x2_13 e_x2_13 => ?_)
    have hf := letb_at hf e_x2_13
    clear e_x2_13
    refine G.istore_n (L' := [some (.ref 0), some (.int x1), some (.int x2_13), some (.int x3)]) dX11_cost_80 rfl (Nat.le_of_ble_eq_true rfl) (Nat.le_of_ble_eq_true rfl) rfl rfl ?_
    refine G.inc (w := 1) (L' := [some (.ref 0), some (.int x1), some (.int x2_13), some (.int (x3 + (1 : Int32)))]) dX11_cost_81 (by decide) rfl (Nat.le_of_ble_eq_true rfl) rfl rfl ?_
    refine G.goto (tgt := 45) dX11_cost_84 (by decide) ?_
    have hf := Option.some.inj hf
    subst hf
    exact hK
theorem lX11_cost_45 (E : EV) (d : Nat) (rr : Option Value × Mem) (x1 : Int32) (z : (Int32 × Mem)) (hK : (fun (z : Int32 × Mem) => (some (.int z.1), z.2) = rr) z) : ∀ (n : Nat) (q : (Int32 × Int32 × Mem)), iter (sX11_cost_45 x1) n q = some z → G E (d + 4) kX11_cost 45 [some (.ref 0), some (.int x1), some (.int q.1), some (.int q.2.1)] [] q.2.2 rr := by
  intro n
  induction n with
  | zero => intro q h; cases h
  | succ n ih =>
    intro q h
    rcases iter_at h with ⟨q2, hs, h2⟩ | hs
    · exact wX11_cost_45 E d rr x1 q.1 q.2.1 q.2.2 _ hs (ih q2 h2)
    · exact wX11_cost_45 E d rr x1 q.1 q.2.1 q.2.2 _ hs hK
def fX11_cost (x1 : Int32) (I : Mem) : Option (Int32 × Mem) :=
  bnd (fX11_isLaw x1 I) fun v_2 =>
  if v_2 = 0 then
  (bnd2 (fX11_refuse (-2 : Int32) I) fun v_20 I_21 =>
  some (v_20, I_21))
  else
  (bnd (fX11_judge I) fun v_4 =>
  if v_4 = (-1 : Int32) then
  (bnd (fX4_copy 9 1 I) fun I_6 =>
  iter (sX11_cost_45 x1) FU ((0 : Int32), (0 : Int32), I_6))
  else
  (bnd2 (fX11_refuse (-3 : Int32) I) fun v_16 I_17 =>
  some (v_16, I_17)))
set_option maxRecDepth 20000 in
theorem gX11_cost (E : EV) (d : Nat) (x1 : Int32) (I : Mem) {v : Int32} {J : Mem} (hf : fX11_cost x1 I = some (v, J)) : Gm E (d + 4) kX11_cost [.ref 0, .int x1] I (some (.int v), J) := by
  refine (fun (y : (Int32 × Mem)) (hf : fX11_cost x1 I = some y) => (?_ : Gm E (d + 4) kX11_cost [.ref 0, .int x1] I (some (.int y.1), y.2))) (v, J) hf
  refine Gm.of (by decide) rfl (Nat.le_of_ble_eq_true rfl) ?_
  generalize hrr : ((some (.int y.1), y.2) : Option Value × Mem) = rr
  show G E (d + 4) kX11_cost 0 [some (.ref 0), some (.int x1), none, none] [] I rr
  have hK : (fun (z : Int32 × Mem) => (some (.int z.1), z.2) = rr) y := hrr
  clear hrr
  unfold fX11_cost at hf
  refine G.aload_n dX11_cost_0 rfl rfl ?_
  refine G.iload_n dX11_cost_1 rfl rfl ?_
  obtain ⟨v_2, hc_1, hf⟩ := bnd_at hf
  refine G.callVi (av := [.int x1]) (rest := []) dX11_cost_2 mvX11_117 (gX11_isLaw E (d + 3) x1 I hc_1) (by decide) rfl rfl rfl (Nat.le_of_ble_eq_true rfl) ?_
  refine G.if_ne (tgt := 15) dX11_cost_5 (by decide) (fun c_22 => ?_) (fun c_22 => ?_)
  · have hf := ite_f hf c_22
    refine G.aload_n dX11_cost_15 rfl rfl ?_
    obtain ⟨v_4, hc_3, hf⟩ := bnd_at hf
    refine G.callVi (av := []) (rest := []) dX11_cost_16 mvX11_183 (gX11_judge E (d + 1) I hc_3) (by decide) rfl rfl rfl (Nat.le_of_ble_eq_true rfl) ?_
    refine G.iconst (v := -1) dX11_cost_19 (by decide) ?_
    refine G.icmp_eq (tgt := 30) dX11_cost_20 (by decide) (fun c_18 => ?_) (fun c_18 => ?_)
    · have hf := ite_t hf c_18
      refine G.aload_n dX11_cost_30 rfl rfl ?_
      refine G.getR (q := 9) dX11_cost_31 flX11_16 (by decide) rfl rfl ?_
      refine G.aload_n dX11_cost_34 rfl rfl ?_
      refine G.getR (q := 1) dX11_cost_35 flX11_10 (by decide) rfl rfl ?_
      obtain ⟨I_6, hc_5, hf⟩ := bnd_at hf
      refine G.callVv (av := [.ref 1]) (rest := []) dX11_cost_38 mvX11_144 (gX4_copy E (d + 2) 9 1 I (by unfold isH; decide) (by unfold isH; decide) hc_5) (by decide) rfl rfl rfl (Nat.le_of_ble_eq_true rfl) ?_
      refine G.iconst (v := 0) dX11_cost_41 (by decide) ?_
      refine G.istore_n (L' := [some (.ref 0), some (.int x1), some (.int (0 : Int32)), none]) dX11_cost_42 rfl (Nat.le_of_ble_eq_true rfl) (Nat.le_of_ble_eq_true rfl) rfl rfl ?_
      refine G.iconst (v := 0) dX11_cost_43 (by decide) ?_
      refine G.istore_n (L' := [some (.ref 0), some (.int x1), some (.int (0 : Int32)), some (.int (0 : Int32))]) dX11_cost_44 rfl (Nat.le_of_ble_eq_true rfl) (Nat.le_of_ble_eq_true rfl) rfl rfl ?_
      exact lX11_cost_45 E d rr x1 _ hK FU _ hf
    · have hf := ite_f hf c_18
      refine G.aload_n dX11_cost_23 rfl rfl ?_
      refine G.bipush (v := -3) dX11_cost_24 (by decide) ?_
      obtain ⟨v_16, I_17, hc_15, hf⟩ := bnd2_at hf
      refine G.callVi (av := [.int (-3 : Int32)]) (rest := []) dX11_cost_26 mvX11_81 (gX11_refuse E (d + 3) (-3 : Int32) I hc_15) (by decide) rfl rfl rfl (Nat.le_of_ble_eq_true rfl) ?_
      have hf := Option.some.inj hf
      subst hf
      exact G.iret' dX11_cost_29 rfl hK
  · have hf := ite_t hf c_22
    refine G.aload_n dX11_cost_8 rfl rfl ?_
    refine G.bipush (v := -2) dX11_cost_9 (by decide) ?_
    obtain ⟨v_20, I_21, hc_19, hf⟩ := bnd2_at hf
    refine G.callVi (av := [.int (-2 : Int32)]) (rest := []) dX11_cost_11 mvX11_81 (gX11_refuse E (d + 3) (-2 : Int32) I hc_19) (by decide) rfl rfl rfl (Nat.le_of_ble_eq_true rfl) ?_
    have hf := Option.some.inj hf
    subst hf
    exact G.iret' dX11_cost_14 rfl hK
theorem dX11_least_0 : decode cX11_least 0 = .ok (.iload_n 1, 1) := by decide +kernel
theorem dX11_least_1 : decode cX11_least 1 = .ok (.iconst 1, 1) := by decide +kernel
theorem dX11_least_2 : decode cX11_least 2 = .ok (.if_icmp .lt 17, 3) := by decide +kernel
theorem dX11_least_5 : decode cX11_least 5 = .ok (.iload_n 1, 1) := by decide +kernel
theorem dX11_least_6 : decode cX11_least 6 = .ok (.iconst 4, 1) := by decide +kernel
theorem dX11_least_7 : decode cX11_least 7 = .ok (.if_icmp .gt 12, 3) := by decide +kernel
theorem dX11_least_10 : decode cX11_least 10 = .ok (.iload_n 2, 1) := by decide +kernel
theorem dX11_least_11 : decode cX11_least 11 = .ok (.ifCond .lt 8, 3) := by decide +kernel
theorem dX11_least_14 : decode cX11_least 14 = .ok (.iload_n 2, 1) := by decide +kernel
theorem dX11_least_15 : decode cX11_least 15 = .ok (.iload_n 1, 1) := by decide +kernel
theorem dX11_least_16 : decode cX11_least 16 = .ok (.if_icmp .le 10, 3) := by decide +kernel
theorem dX11_least_19 : decode cX11_least 19 = .ok (.aload_n 0, 1) := by decide +kernel
theorem dX11_least_20 : decode cX11_least 20 = .ok (.bipush (-2), 2) := by decide +kernel
theorem dX11_least_22 : decode cX11_least 22 = .ok (.invokevirtual 81, 3) := by decide +kernel
theorem dX11_least_25 : decode cX11_least 25 = .ok (.ireturn, 1) := by decide +kernel
theorem dX11_least_26 : decode cX11_least 26 = .ok (.aload_n 0, 1) := by decide +kernel
theorem dX11_least_27 : decode cX11_least 27 = .ok (.getfield 63, 3) := by decide +kernel
theorem dX11_least_30 : decode cX11_least 30 = .ok (.aload_n 0, 1) := by decide +kernel
theorem dX11_least_31 : decode cX11_least 31 = .ok (.getfield 10, 3) := by decide +kernel
theorem dX11_least_34 : decode cX11_least 34 = .ok (.aload_n 0, 1) := by decide +kernel
theorem dX11_least_35 : decode cX11_least 35 = .ok (.getfield 49, 3) := by decide +kernel
theorem dX11_least_38 : decode cX11_least 38 = .ok (.aload_n 0, 1) := by decide +kernel
theorem dX11_least_39 : decode cX11_least 39 = .ok (.getfield 10, 3) := by decide +kernel
theorem dX11_least_42 : decode cX11_least 42 = .ok (.getfield 120, 3) := by decide +kernel
theorem dX11_least_45 : decode cX11_least 45 = .ok (.aaload, 1) := by decide +kernel
theorem dX11_least_46 : decode cX11_least 46 = .ok (.iload_n 1, 1) := by decide +kernel
theorem dX11_least_47 : decode cX11_least 47 = .ok (.invokevirtual 187, 3) := by decide +kernel
theorem dX11_least_50 : decode cX11_least 50 = .ok (.istore_n 3, 1) := by decide +kernel
theorem dX11_least_51 : decode cX11_least 51 = .ok (.iload_n 2, 1) := by decide +kernel
theorem dX11_least_52 : decode cX11_least 52 = .ok (.ifCond .eq 8, 3) := by decide +kernel
theorem dX11_least_55 : decode cX11_least 55 = .ok (.iload_n 3, 1) := by decide +kernel
theorem dX11_least_56 : decode cX11_least 56 = .ok (.iconst (-1), 1) := by decide +kernel
theorem dX11_least_57 : decode cX11_least 57 = .ok (.if_icmp .ne 7, 3) := by decide +kernel
theorem dX11_least_60 : decode cX11_least 60 = .ok (.iload_n 3, 1) := by decide +kernel
theorem dX11_least_61 : decode cX11_least 61 = .ok (.goto 12, 3) := by decide +kernel
theorem dX11_least_64 : decode cX11_least 64 = .ok (.aload_n 0, 1) := by decide +kernel
theorem dX11_least_65 : decode cX11_least 65 = .ok (.getfield 63, 3) := by decide +kernel
theorem dX11_least_68 : decode cX11_least 68 = .ok (.getfield 191, 3) := by decide +kernel
theorem dX11_least_71 : decode cX11_least 71 = .ok (.iload_n 2, 1) := by decide +kernel
theorem dX11_least_72 : decode cX11_least 72 = .ok (.iaload, 1) := by decide +kernel
theorem dX11_least_73 : decode cX11_least 73 = .ok (.ireturn, 1) := by decide +kernel
def jX11_least_19 (I : Mem) : Option (Int32 × Mem) :=
  bnd2 (fX11_refuse (-2 : Int32) I) fun v_2 I_3 =>
  some (v_2, I_3)
set_option maxRecDepth 20000 in
theorem tX11_least_19 (E : EV) (d : Nat) (rr : Option Value × Mem) (I : Mem) (y : (Int32 × Mem)) (hf : jX11_least_19 I = some y) (hK : (fun (z : Int32 × Mem) => (some (.int z.1), z.2) = rr) y) : G E (d + 6) kX11_least 19 [some (.ref 0), none, none, none] [] I rr := by
  unfold jX11_least_19 at hf
  refine G.aload_n dX11_least_19 rfl rfl ?_
  refine G.bipush (v := -2) dX11_least_20 (by decide) ?_
  obtain ⟨v_2, I_3, hc_1, hf⟩ := bnd2_at hf
  refine G.callVi (av := [.int (-2 : Int32)]) (rest := []) dX11_least_22 mvX11_81 (gX11_refuse E (d + 5) (-2 : Int32) I hc_1) (by decide) rfl rfl rfl (Nat.le_of_ble_eq_true rfl) ?_
  have hf := Option.some.inj hf
  subst hf
  exact G.iret' dX11_least_25 rfl hK
def fX11_least (x1 : Int32) (x2 : Int32) (I : Mem) : Option (Int32 × Mem) :=
  if x1 < (1 : Int32) then
  (jX11_least_19 I)
  else
  (if (4 : Int32) < x1 then
  (jX11_least_19 I)
  else
  (if x2 < 0 then
  (jX11_least_19 I)
  else
  (if x2 ≤ x1 then
  (chk (inb (I 1 4) 5) <|
  bnd (asL (fin 37 (ix (I 1 4)))) fun o9_5 =>
  bnd2 (fX2_weigh 1 o9_5 x1 I) fun v_7 I_8 =>
  if x2 = 0 then
  (some (v_7, I_8))
  else
  (if v_7 = (-1 : Int32) then
  (some (v_7, I_8))
  else
  (chk (inb x2 5) <|
  some ((I_8 46 (ix x2)), I_8))))
  else
  (jX11_least_19 I))))
set_option maxRecDepth 20000 in
theorem gX11_least (E : EV) (d : Nat) (x1 : Int32) (x2 : Int32) (I : Mem) {v : Int32} {J : Mem} (hf : fX11_least x1 x2 I = some (v, J)) : Gm E (d + 6) kX11_least [.ref 0, .int x1, .int x2] I (some (.int v), J) := by
  refine (fun (y : (Int32 × Mem)) (hf : fX11_least x1 x2 I = some y) => (?_ : Gm E (d + 6) kX11_least [.ref 0, .int x1, .int x2] I (some (.int y.1), y.2))) (v, J) hf
  refine Gm.of (by decide) rfl (Nat.le_of_ble_eq_true rfl) ?_
  generalize hrr : ((some (.int y.1), y.2) : Option Value × Mem) = rr
  show G E (d + 6) kX11_least 0 [some (.ref 0), some (.int x1), some (.int x2), none] [] I rr
  have hK : (fun (z : Int32 × Mem) => (some (.int z.1), z.2) = rr) y := hrr
  clear hrr
  unfold fX11_least at hf
  refine G.iload_n dX11_least_0 rfl rfl ?_
  refine G.iconst (v := 1) dX11_least_1 (by decide) ?_
  refine G.icmp_lt (tgt := 19) dX11_least_2 (by decide) (fun c_15 => ?_) (fun c_15 => ?_)
  · have hf := ite_t hf c_15
    refine G.forget (L' := [some (.ref 0), none, none, none]) [1, 2] rfl ?_
    exact tX11_least_19 E d rr I _ hf hK
  · have hf := ite_f hf c_15
    refine G.iload_n dX11_least_5 rfl rfl ?_
    refine G.iconst (v := 4) dX11_least_6 (by decide) ?_
    refine G.icmp_gt (tgt := 19) dX11_least_7 (by decide) (fun c_14 => ?_) (fun c_14 => ?_)
    · have hf := ite_t hf c_14
      refine G.forget (L' := [some (.ref 0), none, none, none]) [1, 2] rfl ?_
      exact tX11_least_19 E d rr I _ hf hK
    · have hf := ite_f hf c_14
      refine G.iload_n dX11_least_10 rfl rfl ?_
      refine G.if_lt (tgt := 19) dX11_least_11 (by decide) (fun c_13 => ?_) (fun c_13 => ?_)
      · have hf := ite_t hf c_13
        refine G.forget (L' := [some (.ref 0), none, none, none]) [1, 2] rfl ?_
        exact tX11_least_19 E d rr I _ hf hK
      · have hf := ite_f hf c_13
        refine G.iload_n dX11_least_14 rfl rfl ?_
        refine G.iload_n dX11_least_15 rfl rfl ?_
        refine G.icmp_le (tgt := 26) dX11_least_16 (by decide) (fun c_12 => ?_) (fun c_12 => ?_)
        · have hf := ite_t hf c_12
          refine G.aload_n dX11_least_26 rfl rfl ?_
          refine G.getR (q := 45) dX11_least_27 flX11_63 (by decide) rfl rfl ?_
          refine G.aload_n dX11_least_30 rfl rfl ?_
          refine G.getR (q := 1) dX11_least_31 flX11_10 (by decide) rfl rfl ?_
          refine G.aload_n dX11_least_34 rfl rfl ?_
          refine G.getR (q := 37) dX11_least_35 flX11_49 (by decide) rfl rfl ?_
          refine G.aload_n dX11_least_38 rfl rfl ?_
          refine G.getR (q := 1) dX11_least_39 flX11_10 (by decide) rfl rfl ?_
          refine G.getI dX11_least_42 flX11_120 (by decide) rfl ?_
          obtain ⟨hi_4, hf⟩ := chk_at hf
          obtain ⟨o9_5, ho9_5a, hf⟩ := bnd_at hf
          obtain ⟨ho9_5d, ho9_5⟩ := asL_at ho9_5a
          refine G.aaldO (q := o9_5) dX11_least_45 (by decide) rfl hi_4 ho9_5d ?_
          refine G.iload_n dX11_least_46 rfl rfl ?_
          obtain ⟨v_7, I_8, hc_6, hf⟩ := bnd2_at hf
          refine G.callVi (av := [.ref 1, .ref o9_5, .int x1]) (rest := []) dX11_least_47 mvX11_187 (gX2_weigh E d 1 o9_5 x1 I (by unfold isH; decide) ho9_5 hc_6) (by decide) rfl rfl rfl (Nat.le_of_ble_eq_true rfl) ?_
          refine G.istore_n (L' := [some (.ref 0), some (.int x1), some (.int x2), some (.int v_7)]) dX11_least_50 rfl (Nat.le_of_ble_eq_true rfl) (Nat.le_of_ble_eq_true rfl) rfl rfl ?_
          refine G.iload_n dX11_least_51 rfl rfl ?_
          refine G.if_eq (tgt := 60) dX11_least_52 (by decide) (fun c_11 => ?_) (fun c_11 => ?_)
          · have hf := ite_t hf c_11
            refine G.iload_n dX11_least_60 rfl rfl ?_
            refine G.goto (tgt := 73) dX11_least_61 (by decide) ?_
            have hf := Option.some.inj hf
            subst hf
            exact G.iret' dX11_least_73 rfl hK
          · have hf := ite_f hf c_11
            refine G.iload_n dX11_least_55 rfl rfl ?_
            refine G.iconst (v := -1) dX11_least_56 (by decide) ?_
            refine G.icmp_ne (tgt := 64) dX11_least_57 (by decide) (fun c_10 => ?_) (fun c_10 => ?_)
            · have hf := ite_f hf c_10
              refine G.aload_n dX11_least_64 rfl rfl ?_
              refine G.getR (q := 45) dX11_least_65 flX11_63 (by decide) rfl rfl ?_
              refine G.getR (q := 46) dX11_least_68 flX11_191 (by decide) rfl rfl ?_
              refine G.iload_n dX11_least_71 rfl rfl ?_
              obtain ⟨hi_9, hf⟩ := chk_at hf
              refine G.iald' dX11_least_72 (by decide) rfl rfl hi_9 ?_
              have hf := Option.some.inj hf
              subst hf
              exact G.iret' dX11_least_73 rfl hK
            · have hf := ite_t hf c_10
              refine G.iload_n dX11_least_60 rfl rfl ?_
              refine G.goto (tgt := 73) dX11_least_61 (by decide) ?_
              have hf := Option.some.inj hf
              subst hf
              exact G.iret' dX11_least_73 rfl hK
        · have hf := ite_f hf c_12
          refine G.forget (L' := [some (.ref 0), none, none, none]) [1, 2] rfl ?_
          exact tX11_least_19 E d rr I _ hf hK
theorem dX11_fewest_0 : decode cX11_fewest 0 = .ok (.aload_n 0, 1) := by decide +kernel
theorem dX11_fewest_1 : decode cX11_fewest 1 = .ok (.iload_n 1, 1) := by decide +kernel
theorem dX11_fewest_2 : decode cX11_fewest 2 = .ok (.invokevirtual 148, 3) := by decide +kernel
theorem dX11_fewest_5 : decode cX11_fewest 5 = .ok (.ifCond .ne 10, 3) := by decide +kernel
theorem dX11_fewest_8 : decode cX11_fewest 8 = .ok (.aload_n 0, 1) := by decide +kernel
theorem dX11_fewest_9 : decode cX11_fewest 9 = .ok (.bipush (-2), 2) := by decide +kernel
theorem dX11_fewest_11 : decode cX11_fewest 11 = .ok (.invokevirtual 81, 3) := by decide +kernel
theorem dX11_fewest_14 : decode cX11_fewest 14 = .ok (.ireturn, 1) := by decide +kernel
theorem dX11_fewest_15 : decode cX11_fewest 15 = .ok (.aload_n 0, 1) := by decide +kernel
theorem dX11_fewest_16 : decode cX11_fewest 16 = .ok (.getfield 70, 3) := by decide +kernel
theorem dX11_fewest_19 : decode cX11_fewest 19 = .ok (.aload_n 0, 1) := by decide +kernel
theorem dX11_fewest_20 : decode cX11_fewest 20 = .ok (.getfield 10, 3) := by decide +kernel
theorem dX11_fewest_23 : decode cX11_fewest 23 = .ok (.aload_n 0, 1) := by decide +kernel
theorem dX11_fewest_24 : decode cX11_fewest 24 = .ok (.getfield 49, 3) := by decide +kernel
theorem dX11_fewest_27 : decode cX11_fewest 27 = .ok (.aload_n 0, 1) := by decide +kernel
theorem dX11_fewest_28 : decode cX11_fewest 28 = .ok (.getfield 10, 3) := by decide +kernel
theorem dX11_fewest_31 : decode cX11_fewest 31 = .ok (.getfield 120, 3) := by decide +kernel
theorem dX11_fewest_34 : decode cX11_fewest 34 = .ok (.aaload, 1) := by decide +kernel
theorem dX11_fewest_35 : decode cX11_fewest 35 = .ok (.iload_n 1, 1) := by decide +kernel
theorem dX11_fewest_36 : decode cX11_fewest 36 = .ok (.invokevirtual 194, 3) := by decide +kernel
theorem dX11_fewest_39 : decode cX11_fewest 39 = .ok (.ireturn, 1) := by decide +kernel
def fX11_fewest (x1 : Int32) (I : Mem) : Option (Int32 × Mem) :=
  bnd (fX11_isStanding x1 I) fun v_2 =>
  if v_2 = 0 then
  (bnd2 (fX11_refuse (-2 : Int32) I) fun v_9 I_10 =>
  some (v_9, I_10))
  else
  (chk (inb (I 1 4) 5) <|
  bnd (asL (fin 37 (ix (I 1 4)))) fun o9_4 =>
  bnd2 (fX6_beatsTo 1 o9_4 x1 I) fun v_6 I_7 =>
  some (v_6, I_7))
set_option maxRecDepth 20000 in
theorem gX11_fewest (E : EV) (d : Nat) (x1 : Int32) (I : Mem) {v : Int32} {J : Mem} (hf : fX11_fewest x1 I = some (v, J)) : Gm E (d + 5) kX11_fewest [.ref 0, .int x1] I (some (.int v), J) := by
  refine (fun (y : (Int32 × Mem)) (hf : fX11_fewest x1 I = some y) => (?_ : Gm E (d + 5) kX11_fewest [.ref 0, .int x1] I (some (.int y.1), y.2))) (v, J) hf
  refine Gm.of (by decide) rfl (Nat.le_of_ble_eq_true rfl) ?_
  generalize hrr : ((some (.int y.1), y.2) : Option Value × Mem) = rr
  show G E (d + 5) kX11_fewest 0 [some (.ref 0), some (.int x1)] [] I rr
  have hK : (fun (z : Int32 × Mem) => (some (.int z.1), z.2) = rr) y := hrr
  clear hrr
  unfold fX11_fewest at hf
  refine G.aload_n dX11_fewest_0 rfl rfl ?_
  refine G.iload_n dX11_fewest_1 rfl rfl ?_
  obtain ⟨v_2, hc_1, hf⟩ := bnd_at hf
  refine G.callVi (av := [.int x1]) (rest := []) dX11_fewest_2 mvX11_148 (gX11_isStanding E (d + 3) x1 I hc_1) (by decide) rfl rfl rfl (Nat.le_of_ble_eq_true rfl) ?_
  refine G.if_ne (tgt := 15) dX11_fewest_5 (by decide) (fun c_11 => ?_) (fun c_11 => ?_)
  · have hf := ite_f hf c_11
    refine G.aload_n dX11_fewest_15 rfl rfl ?_
    refine G.getR (q := 63) dX11_fewest_16 flX11_70 (by decide) rfl rfl ?_
    refine G.aload_n dX11_fewest_19 rfl rfl ?_
    refine G.getR (q := 1) dX11_fewest_20 flX11_10 (by decide) rfl rfl ?_
    refine G.aload_n dX11_fewest_23 rfl rfl ?_
    refine G.getR (q := 37) dX11_fewest_24 flX11_49 (by decide) rfl rfl ?_
    refine G.aload_n dX11_fewest_27 rfl rfl ?_
    refine G.getR (q := 1) dX11_fewest_28 flX11_10 (by decide) rfl rfl ?_
    refine G.getI dX11_fewest_31 flX11_120 (by decide) rfl ?_
    obtain ⟨hi_3, hf⟩ := chk_at hf
    obtain ⟨o9_4, ho9_4a, hf⟩ := bnd_at hf
    obtain ⟨ho9_4d, ho9_4⟩ := asL_at ho9_4a
    refine G.aaldO (q := o9_4) dX11_fewest_34 (by decide) rfl hi_3 ho9_4d ?_
    refine G.iload_n dX11_fewest_35 rfl rfl ?_
    obtain ⟨v_6, I_7, hc_5, hf⟩ := bnd2_at hf
    refine G.callVi (av := [.ref 1, .ref o9_4, .int x1]) (rest := []) dX11_fewest_36 mvX11_194 (gX6_beatsTo E d 1 o9_4 x1 I (by unfold isH; decide) ho9_4 hc_5) (by decide) rfl rfl rfl (Nat.le_of_ble_eq_true rfl) ?_
    have hf := Option.some.inj hf
    subst hf
    exact G.iret' dX11_fewest_39 rfl hK
  · have hf := ite_t hf c_11
    refine G.aload_n dX11_fewest_8 rfl rfl ?_
    refine G.bipush (v := -2) dX11_fewest_9 (by decide) ?_
    obtain ⟨v_9, I_10, hc_8, hf⟩ := bnd2_at hf
    refine G.callVi (av := [.int (-2 : Int32)]) (rest := []) dX11_fewest_11 mvX11_81 (gX11_refuse E (d + 4) (-2 : Int32) I hc_8) (by decide) rfl rfl rfl (Nat.le_of_ble_eq_true rfl) ?_
    have hf := Option.some.inj hf
    subst hf
    exact G.iret' dX11_fewest_14 rfl hK
theorem dX11_quiet_0 : decode cX11_quiet 0 = .ok (.aload_n 0, 1) := by decide +kernel
theorem dX11_quiet_1 : decode cX11_quiet 1 = .ok (.getfield 56, 3) := by decide +kernel
theorem dX11_quiet_4 : decode cX11_quiet 4 = .ok (.aload_n 0, 1) := by decide +kernel
theorem dX11_quiet_5 : decode cX11_quiet 5 = .ok (.getfield 10, 3) := by decide +kernel
theorem dX11_quiet_8 : decode cX11_quiet 8 = .ok (.invokevirtual 197, 3) := by decide +kernel
theorem dX11_quiet_11 : decode cX11_quiet 11 = .ok (.istore_n 1, 1) := by decide +kernel
theorem dX11_quiet_12 : decode cX11_quiet 12 = .ok (.iconst 0, 1) := by decide +kernel
theorem dX11_quiet_13 : decode cX11_quiet 13 = .ok (.istore_n 2, 1) := by decide +kernel
theorem dX11_quiet_14 : decode cX11_quiet 14 = .ok (.iconst 0, 1) := by decide +kernel
theorem dX11_quiet_15 : decode cX11_quiet 15 = .ok (.istore_n 3, 1) := by decide +kernel
theorem dX11_quiet_16 : decode cX11_quiet 16 = .ok (.iload_n 3, 1) := by decide +kernel
theorem dX11_quiet_17 : decode cX11_quiet 17 = .ok (.iload_n 1, 1) := by decide +kernel
theorem dX11_quiet_18 : decode cX11_quiet 18 = .ok (.if_icmp .ge 36, 3) := by decide +kernel
theorem dX11_quiet_21 : decode cX11_quiet 21 = .ok (.aload_n 0, 1) := by decide +kernel
theorem dX11_quiet_22 : decode cX11_quiet 22 = .ok (.getfield 10, 3) := by decide +kernel
theorem dX11_quiet_25 : decode cX11_quiet 25 = .ok (.aload_n 0, 1) := by decide +kernel
theorem dX11_quiet_26 : decode cX11_quiet 26 = .ok (.getfield 56, 3) := by decide +kernel
theorem dX11_quiet_29 : decode cX11_quiet 29 = .ok (.getfield 200, 3) := by decide +kernel
theorem dX11_quiet_32 : decode cX11_quiet 32 = .ok (.invokevirtual 174, 3) := by decide +kernel
theorem dX11_quiet_35 : decode cX11_quiet 35 = .ok (.ifCond .ne 6, 3) := by decide +kernel
theorem dX11_quiet_38 : decode cX11_quiet 38 = .ok (.iinc 2 1, 3) := by decide +kernel
theorem dX11_quiet_41 : decode cX11_quiet 41 = .ok (.aload_n 0, 1) := by decide +kernel
theorem dX11_quiet_42 : decode cX11_quiet 42 = .ok (.getfield 56, 3) := by decide +kernel
theorem dX11_quiet_45 : decode cX11_quiet 45 = .ok (.invokevirtual 203, 3) := by decide +kernel
theorem dX11_quiet_48 : decode cX11_quiet 48 = .ok (.iinc 3 1, 3) := by decide +kernel
theorem dX11_quiet_51 : decode cX11_quiet 51 = .ok (.goto (-35), 3) := by decide +kernel
theorem dX11_quiet_54 : decode cX11_quiet 54 = .ok (.iload_n 2, 1) := by decide +kernel
theorem dX11_quiet_55 : decode cX11_quiet 55 = .ok (.ireturn, 1) := by decide +kernel
def KX11_quiet_16 (E : EV) (d : Nat) (rr : Option Value × Mem) (x1 : Int32) (Kp : (Int32 × Mem) → Prop) : ((Int32 × Int32 × Mem) ⊕ (Int32 × Mem)) → Prop
  | .inl q => G E (d + 3) kX11_quiet 16 [some (.ref 0), some (.int x1), some (.int q.1), some (.int q.2.1)] [] q.2.2 rr
  | .inr z => Kp z
def jX11_quiet_41 (x1 : Int32) (x2 : Int32) (x3 : Int32) (I : Mem) : Option ((Int32 × Int32 × Mem) ⊕ (Int32 × Mem)) :=
  bnd (fX10_step 43 I) fun I_7 =>
  some (.inl (x2, (x3 + (1 : Int32)), I_7))
set_option maxRecDepth 20000 in
theorem tX11_quiet_41 (E : EV) (d : Nat) (rr : Option Value × Mem) (x1 : Int32) (x2 : Int32) (x3 : Int32) (I : Mem) (y : ((Int32 × Int32 × Mem) ⊕ (Int32 × Mem))) (hf : jX11_quiet_41 x1 x2 x3 I = some y) (hK : (KX11_quiet_16 E d rr x1 (fun (z : Int32 × Mem) => (some (.int z.1), z.2) = rr)) y) : G E (d + 3) kX11_quiet 41 [some (.ref 0), some (.int x1), some (.int x2), some (.int x3)] [] I rr := by
  unfold jX11_quiet_41 at hf
  refine G.aload_n dX11_quiet_41 rfl rfl ?_
  refine G.getR (q := 43) dX11_quiet_42 flX11_56 (by decide) rfl rfl ?_
  obtain ⟨I_7, hc_6, hf⟩ := bnd_at hf
  refine G.callVv (av := []) (rest := []) dX11_quiet_45 mvX11_203 (gX10_step E (d + 1) 43 I (by unfold isW; decide) hc_6) (by decide) rfl rfl rfl (Nat.le_of_ble_eq_true rfl) ?_
  refine G.inc (w := 1) (L' := [some (.ref 0), some (.int x1), some (.int x2), some (.int (x3 + (1 : Int32)))]) dX11_quiet_48 (by decide) rfl (Nat.le_of_ble_eq_true rfl) rfl rfl ?_
  refine G.goto (tgt := 16) dX11_quiet_51 (by decide) ?_
  have hf := Option.some.inj hf
  subst hf
  exact hK
def bX11_quiet_16 (x1 : Int32) (x2 : Int32) (x3 : Int32) (I : Mem) : Option ((Int32 × Int32 × Mem) ⊕ (Int32 × Mem)) :=
  if x1 ≤ x3 then
  (some (.inr (x2, I)))
  else
  (bnd (fX4_lone 1 (I 43 0) I) fun v_5 =>
  if v_5 = 0 then
  (jX11_quiet_41 x1 (x2 + (1 : Int32)) x3 I)
  else
  (jX11_quiet_41 x1 x2 x3 I))
def sX11_quiet_16 (x1 : Int32) (q : (Int32 × Int32 × Mem)) : Option ((Int32 × Int32 × Mem) ⊕ (Int32 × Mem)) := bX11_quiet_16 x1 q.1 q.2.1 q.2.2
set_option maxRecDepth 20000 in
theorem wX11_quiet_16 (E : EV) (d : Nat) (rr : Option Value × Mem) (x1 : Int32) (x2 : Int32) (x3 : Int32) (I : Mem) (y : ((Int32 × Int32 × Mem) ⊕ (Int32 × Mem))) (hf : bX11_quiet_16 x1 x2 x3 I = some y) (hK : (KX11_quiet_16 E d rr x1 (fun (z : Int32 × Mem) => (some (.int z.1), z.2) = rr)) y) : G E (d + 3) kX11_quiet 16 [some (.ref 0), some (.int x1), some (.int x2), some (.int x3)] [] I rr := by
  unfold bX11_quiet_16 at hf
  refine G.iload_n dX11_quiet_16 rfl rfl ?_
  refine G.iload_n dX11_quiet_17 rfl rfl ?_
  refine G.icmp_ge (tgt := 54) dX11_quiet_18 (by decide) (fun c_9 => ?_) (fun c_9 => ?_)
  · have hf := ite_t hf c_9
    refine G.iload_n dX11_quiet_54 rfl rfl ?_
    have hf := Option.some.inj hf
    subst hf
    exact G.iret' dX11_quiet_55 rfl hK
  · have hf := ite_f hf c_9
    refine G.aload_n dX11_quiet_21 rfl rfl ?_
    refine G.getR (q := 1) dX11_quiet_22 flX11_10 (by decide) rfl rfl ?_
    refine G.aload_n dX11_quiet_25 rfl rfl ?_
    refine G.getR (q := 43) dX11_quiet_26 flX11_56 (by decide) rfl rfl ?_
    refine G.getI dX11_quiet_29 flX11_200 (by decide) rfl ?_
    obtain ⟨v_5, hc_4, hf⟩ := bnd_at hf
    refine G.callVi (av := [.int (I 43 0)]) (rest := []) dX11_quiet_32 mvX11_174 (gX4_lone E (d + 1) 1 (I 43 0) I (by unfold isH; decide) hc_4) (by decide) rfl rfl rfl (Nat.le_of_ble_eq_true rfl) ?_
    refine G.if_ne (tgt := 41) dX11_quiet_35 (by decide) (fun c_8 => ?_) (fun c_8 => ?_)
    · have hf := ite_f hf c_8
      exact tX11_quiet_41 E d rr x1 x2 x3 I _ hf hK
    · have hf := ite_t hf c_8
      refine G.inc (w := 1) (L' := [some (.ref 0), some (.int x1), some (.int (x2 + (1 : Int32))), some (.int x3)]) dX11_quiet_38 (by decide) rfl (Nat.le_of_ble_eq_true rfl) rfl rfl ?_
      exact tX11_quiet_41 E d rr x1 (x2 + (1 : Int32)) x3 I _ hf hK
theorem lX11_quiet_16 (E : EV) (d : Nat) (rr : Option Value × Mem) (x1 : Int32) (z : (Int32 × Mem)) (hK : (fun (z : Int32 × Mem) => (some (.int z.1), z.2) = rr) z) : ∀ (n : Nat) (q : (Int32 × Int32 × Mem)), iter (sX11_quiet_16 x1) n q = some z → G E (d + 3) kX11_quiet 16 [some (.ref 0), some (.int x1), some (.int q.1), some (.int q.2.1)] [] q.2.2 rr := by
  intro n
  induction n with
  | zero => intro q h; cases h
  | succ n ih =>
    intro q h
    rcases iter_at h with ⟨q2, hs, h2⟩ | hs
    · exact wX11_quiet_16 E d rr x1 q.1 q.2.1 q.2.2 _ hs (ih q2 h2)
    · exact wX11_quiet_16 E d rr x1 q.1 q.2.1 q.2.2 _ hs hK
def fX11_quiet (I : Mem) : Option (Int32 × Mem) :=
  bnd2 (fX10_all 43 1 I) fun v_2 I_3 =>
  iter (sX11_quiet_16 v_2) FU ((0 : Int32), (0 : Int32), I_3)
set_option maxRecDepth 20000 in
theorem gX11_quiet (E : EV) (d : Nat) (I : Mem) {v : Int32} {J : Mem} (hf : fX11_quiet I = some (v, J)) : Gm E (d + 3) kX11_quiet [.ref 0] I (some (.int v), J) := by
  refine (fun (y : (Int32 × Mem)) (hf : fX11_quiet I = some y) => (?_ : Gm E (d + 3) kX11_quiet [.ref 0] I (some (.int y.1), y.2))) (v, J) hf
  refine Gm.of (by decide) rfl (Nat.le_of_ble_eq_true rfl) ?_
  generalize hrr : ((some (.int y.1), y.2) : Option Value × Mem) = rr
  show G E (d + 3) kX11_quiet 0 [some (.ref 0), none, none, none] [] I rr
  have hK : (fun (z : Int32 × Mem) => (some (.int z.1), z.2) = rr) y := hrr
  clear hrr
  unfold fX11_quiet at hf
  refine G.aload_n dX11_quiet_0 rfl rfl ?_
  refine G.getR (q := 43) dX11_quiet_1 flX11_56 (by decide) rfl rfl ?_
  refine G.aload_n dX11_quiet_4 rfl rfl ?_
  refine G.getR (q := 1) dX11_quiet_5 flX11_10 (by decide) rfl rfl ?_
  obtain ⟨v_2, I_3, hc_1, hf⟩ := bnd2_at hf
  refine G.callVi (av := [.ref 1]) (rest := []) dX11_quiet_8 mvX11_197 (gX10_all E d 43 1 I (by unfold isW; decide) (by unfold isH; decide) hc_1) (by decide) rfl rfl rfl (Nat.le_of_ble_eq_true rfl) ?_
  refine G.istore_n (L' := [some (.ref 0), some (.int v_2), none, none]) dX11_quiet_11 rfl (Nat.le_of_ble_eq_true rfl) (Nat.le_of_ble_eq_true rfl) rfl rfl ?_
  refine G.iconst (v := 0) dX11_quiet_12 (by decide) ?_
  refine G.istore_n (L' := [some (.ref 0), some (.int v_2), some (.int (0 : Int32)), none]) dX11_quiet_13 rfl (Nat.le_of_ble_eq_true rfl) (Nat.le_of_ble_eq_true rfl) rfl rfl ?_
  refine G.iconst (v := 0) dX11_quiet_14 (by decide) ?_
  refine G.istore_n (L' := [some (.ref 0), some (.int v_2), some (.int (0 : Int32)), some (.int (0 : Int32))]) dX11_quiet_15 rfl (Nat.le_of_ble_eq_true rfl) (Nat.le_of_ble_eq_true rfl) rfl rfl ?_
  exact lX11_quiet_16 E d rr v_2 _ hK FU _ hf
theorem dX11_picks_0 : decode cX11_picks 0 = .ok (.aload_n 0, 1) := by decide +kernel
theorem dX11_picks_1 : decode cX11_picks 1 = .ok (.iload_n 1, 1) := by decide +kernel
theorem dX11_picks_2 : decode cX11_picks 2 = .ok (.invokevirtual 93, 3) := by decide +kernel
theorem dX11_picks_5 : decode cX11_picks 5 = .ok (.ifCond .eq 18, 3) := by decide +kernel
theorem dX11_picks_8 : decode cX11_picks 8 = .ok (.iload_n 2, 1) := by decide +kernel
theorem dX11_picks_9 : decode cX11_picks 9 = .ok (.ifCond .lt 14, 3) := by decide +kernel
theorem dX11_picks_12 : decode cX11_picks 12 = .ok (.iload_n 2, 1) := by decide +kernel
theorem dX11_picks_13 : decode cX11_picks 13 = .ok (.bipush 6, 2) := by decide +kernel
theorem dX11_picks_15 : decode cX11_picks 15 = .ok (.if_icmp .gt 8, 3) := by decide +kernel
theorem dX11_picks_18 : decode cX11_picks 18 = .ok (.iload_n 3, 1) := by decide +kernel
theorem dX11_picks_19 : decode cX11_picks 19 = .ok (.iconst (-1), 1) := by decide +kernel
theorem dX11_picks_20 : decode cX11_picks 20 = .ok (.if_icmp .ge 13, 3) := by decide +kernel
theorem dX11_picks_23 : decode cX11_picks 23 = .ok (.aload_n 0, 1) := by decide +kernel
theorem dX11_picks_24 : decode cX11_picks 24 = .ok (.bipush (-2), 2) := by decide +kernel
theorem dX11_picks_26 : decode cX11_picks 26 = .ok (.invokevirtual 81, 3) := by decide +kernel
theorem dX11_picks_29 : decode cX11_picks 29 = .ok (.pop, 1) := by decide +kernel
theorem dX11_picks_30 : decode cX11_picks 30 = .ok (.bipush (-10), 2) := by decide +kernel
theorem dX11_picks_32 : decode cX11_picks 32 = .ok (.ireturn, 1) := by decide +kernel
theorem dX11_picks_33 : decode cX11_picks 33 = .ok (.aload_n 0, 1) := by decide +kernel
theorem dX11_picks_34 : decode cX11_picks 34 = .ok (.getfield 77, 3) := by decide +kernel
theorem dX11_picks_37 : decode cX11_picks 37 = .ok (.aload_n 0, 1) := by decide +kernel
theorem dX11_picks_38 : decode cX11_picks 38 = .ok (.getfield 10, 3) := by decide +kernel
theorem dX11_picks_41 : decode cX11_picks 41 = .ok (.iload_n 1, 1) := by decide +kernel
theorem dX11_picks_42 : decode cX11_picks 42 = .ok (.iload_n 2, 1) := by decide +kernel
theorem dX11_picks_43 : decode cX11_picks 43 = .ok (.invokevirtual 206, 3) := by decide +kernel
theorem dX11_picks_46 : decode cX11_picks 46 = .ok (.iload_n 3, 1) := by decide +kernel
theorem dX11_picks_47 : decode cX11_picks 47 = .ok (.iconst (-1), 1) := by decide +kernel
theorem dX11_picks_48 : decode cX11_picks 48 = .ok (.if_icmp .ne 11, 3) := by decide +kernel
theorem dX11_picks_51 : decode cX11_picks 51 = .ok (.aload_n 0, 1) := by decide +kernel
theorem dX11_picks_52 : decode cX11_picks 52 = .ok (.getfield 77, 3) := by decide +kernel
theorem dX11_picks_55 : decode cX11_picks 55 = .ok (.getfield 210, 3) := by decide +kernel
theorem dX11_picks_58 : decode cX11_picks 58 = .ok (.ireturn, 1) := by decide +kernel
theorem dX11_picks_59 : decode cX11_picks 59 = .ok (.iload_n 3, 1) := by decide +kernel
theorem dX11_picks_60 : decode cX11_picks 60 = .ok (.aload_n 0, 1) := by decide +kernel
theorem dX11_picks_61 : decode cX11_picks 61 = .ok (.getfield 77, 3) := by decide +kernel
theorem dX11_picks_64 : decode cX11_picks 64 = .ok (.getfield 213, 3) := by decide +kernel
theorem dX11_picks_67 : decode cX11_picks 67 = .ok (.if_icmp .le 8, 3) := by decide +kernel
theorem dX11_picks_70 : decode cX11_picks 70 = .ok (.bipush (-5), 2) := by decide +kernel
theorem dX11_picks_72 : decode cX11_picks 72 = .ok (.goto 12, 3) := by decide +kernel
theorem dX11_picks_75 : decode cX11_picks 75 = .ok (.aload_n 0, 1) := by decide +kernel
theorem dX11_picks_76 : decode cX11_picks 76 = .ok (.getfield 77, 3) := by decide +kernel
theorem dX11_picks_79 : decode cX11_picks 79 = .ok (.getfield 216, 3) := by decide +kernel
theorem dX11_picks_82 : decode cX11_picks 82 = .ok (.iload_n 3, 1) := by decide +kernel
theorem dX11_picks_83 : decode cX11_picks 83 = .ok (.iaload, 1) := by decide +kernel
theorem dX11_picks_84 : decode cX11_picks 84 = .ok (.ireturn, 1) := by decide +kernel
def jX11_picks_23 (I : Mem) : Option (Int32 × Mem) :=
  bnd2 (fX11_refuse (-2 : Int32) I) fun v_4 I_5 =>
  some ((-10 : Int32), I_5)
set_option maxRecDepth 20000 in
theorem tX11_picks_23 (E : EV) (d : Nat) (rr : Option Value × Mem) (I : Mem) (y : (Int32 × Mem)) (hf : jX11_picks_23 I = some y) (hK : (fun (z : Int32 × Mem) => (some (.int z.1), z.2) = rr) y) : G E (d + 11) kX11_picks 23 [some (.ref 0), none, none, none] [] I rr := by
  unfold jX11_picks_23 at hf
  refine G.aload_n dX11_picks_23 rfl rfl ?_
  refine G.bipush (v := -2) dX11_picks_24 (by decide) ?_
  obtain ⟨v_4, I_5, hc_3, hf⟩ := bnd2_at hf
  refine G.callVi (av := [.int (-2 : Int32)]) (rest := []) dX11_picks_26 mvX11_81 (gX11_refuse E (d + 10) (-2 : Int32) I hc_3) (by decide) rfl rfl rfl (Nat.le_of_ble_eq_true rfl) ?_
  refine G.pop dX11_picks_29 rfl ?_
  refine G.bipush (v := -10) dX11_picks_30 (by decide) ?_
  have hf := Option.some.inj hf
  subst hf
  exact G.iret' dX11_picks_32 rfl hK
def fX11_picks (x1 : Int32) (x2 : Int32) (x3 : Int32) (I : Mem) : Option (Int32 × Mem) :=
  bnd (fX11_isRoom x1 I) fun v_2 =>
  if v_2 = 0 then
  (jX11_picks_23 I)
  else
  (if x2 < 0 then
  (jX11_picks_23 I)
  else
  (if (6 : Int32) < x2 then
  (jX11_picks_23 I)
  else
  (if (-1 : Int32) ≤ x3 then
  (bnd (fX9_look 1 x1 x2 I) fun I_7 =>
  if x3 = (-1 : Int32) then
  (some ((I_7 71 0), I_7))
  else
  (if x3 ≤ (I_7 71 1) then
  (chk (inb x3 7) <|
  some ((I_7 72 (ix x3)), I_7))
  else
  (some ((-5 : Int32), I_7))))
  else
  (jX11_picks_23 I))))
set_option maxRecDepth 20000 in
theorem gX11_picks (E : EV) (d : Nat) (x1 : Int32) (x2 : Int32) (x3 : Int32) (I : Mem) {v : Int32} {J : Mem} (hf : fX11_picks x1 x2 x3 I = some (v, J)) : Gm E (d + 11) kX11_picks [.ref 0, .int x1, .int x2, .int x3] I (some (.int v), J) := by
  refine (fun (y : (Int32 × Mem)) (hf : fX11_picks x1 x2 x3 I = some y) => (?_ : Gm E (d + 11) kX11_picks [.ref 0, .int x1, .int x2, .int x3] I (some (.int y.1), y.2))) (v, J) hf
  refine Gm.of (by decide) rfl (Nat.le_of_ble_eq_true rfl) ?_
  generalize hrr : ((some (.int y.1), y.2) : Option Value × Mem) = rr
  show G E (d + 11) kX11_picks 0 [some (.ref 0), some (.int x1), some (.int x2), some (.int x3)] [] I rr
  have hK : (fun (z : Int32 × Mem) => (some (.int z.1), z.2) = rr) y := hrr
  clear hrr
  unfold fX11_picks at hf
  refine G.aload_n dX11_picks_0 rfl rfl ?_
  refine G.iload_n dX11_picks_1 rfl rfl ?_
  obtain ⟨v_2, hc_1, hf⟩ := bnd_at hf
  refine G.callVi (av := [.int x1]) (rest := []) dX11_picks_2 mvX11_93 (gX11_isRoom E (d + 10) x1 I hc_1) (by decide) rfl rfl rfl (Nat.le_of_ble_eq_true rfl) ?_
  refine G.if_eq (tgt := 23) dX11_picks_5 (by decide) (fun c_14 => ?_) (fun c_14 => ?_)
  · have hf := ite_t hf c_14
    refine G.forget (L' := [some (.ref 0), none, none, none]) [1, 2, 3] rfl ?_
    exact tX11_picks_23 E d rr I _ hf hK
  · have hf := ite_f hf c_14
    refine G.iload_n dX11_picks_8 rfl rfl ?_
    refine G.if_lt (tgt := 23) dX11_picks_9 (by decide) (fun c_13 => ?_) (fun c_13 => ?_)
    · have hf := ite_t hf c_13
      refine G.forget (L' := [some (.ref 0), none, none, none]) [1, 2, 3] rfl ?_
      exact tX11_picks_23 E d rr I _ hf hK
    · have hf := ite_f hf c_13
      refine G.iload_n dX11_picks_12 rfl rfl ?_
      refine G.bipush (v := 6) dX11_picks_13 (by decide) ?_
      refine G.icmp_gt (tgt := 23) dX11_picks_15 (by decide) (fun c_12 => ?_) (fun c_12 => ?_)
      · have hf := ite_t hf c_12
        refine G.forget (L' := [some (.ref 0), none, none, none]) [1, 2, 3] rfl ?_
        exact tX11_picks_23 E d rr I _ hf hK
      · have hf := ite_f hf c_12
        refine G.iload_n dX11_picks_18 rfl rfl ?_
        refine G.iconst (v := -1) dX11_picks_19 (by decide) ?_
        refine G.icmp_ge (tgt := 33) dX11_picks_20 (by decide) (fun c_11 => ?_) (fun c_11 => ?_)
        · have hf := ite_t hf c_11
          refine G.aload_n dX11_picks_33 rfl rfl ?_
          refine G.getR (q := 71) dX11_picks_34 flX11_77 (by decide) rfl rfl ?_
          refine G.aload_n dX11_picks_37 rfl rfl ?_
          refine G.getR (q := 1) dX11_picks_38 flX11_10 (by decide) rfl rfl ?_
          refine G.iload_n dX11_picks_41 rfl rfl ?_
          refine G.iload_n dX11_picks_42 rfl rfl ?_
          obtain ⟨I_7, hc_6, hf⟩ := bnd_at hf
          refine G.callVv (av := [.ref 1, .int x1, .int x2]) (rest := []) dX11_picks_43 mvX11_206 (gX9_look E d 1 x1 x2 I (by unfold isH; decide) hc_6) (by decide) rfl rfl rfl (Nat.le_of_ble_eq_true rfl) ?_
          refine G.iload_n dX11_picks_46 rfl rfl ?_
          refine G.iconst (v := -1) dX11_picks_47 (by decide) ?_
          refine G.icmp_ne (tgt := 59) dX11_picks_48 (by decide) (fun c_10 => ?_) (fun c_10 => ?_)
          · have hf := ite_f hf c_10
            refine G.iload_n dX11_picks_59 rfl rfl ?_
            refine G.aload_n dX11_picks_60 rfl rfl ?_
            refine G.getR (q := 71) dX11_picks_61 flX11_77 (by decide) rfl rfl ?_
            refine G.getI dX11_picks_64 flX11_213 (by decide) rfl ?_
            refine G.icmp_le (tgt := 75) dX11_picks_67 (by decide) (fun c_9 => ?_) (fun c_9 => ?_)
            · have hf := ite_t hf c_9
              refine G.aload_n dX11_picks_75 rfl rfl ?_
              refine G.getR (q := 71) dX11_picks_76 flX11_77 (by decide) rfl rfl ?_
              refine G.getR (q := 72) dX11_picks_79 flX11_216 (by decide) rfl rfl ?_
              refine G.iload_n dX11_picks_82 rfl rfl ?_
              obtain ⟨hi_8, hf⟩ := chk_at hf
              refine G.iald' dX11_picks_83 (by decide) rfl rfl hi_8 ?_
              have hf := Option.some.inj hf
              subst hf
              exact G.iret' dX11_picks_84 rfl hK
            · have hf := ite_f hf c_9
              refine G.bipush (v := -5) dX11_picks_70 (by decide) ?_
              refine G.goto (tgt := 84) dX11_picks_72 (by decide) ?_
              have hf := Option.some.inj hf
              subst hf
              exact G.iret' dX11_picks_84 rfl hK
          · have hf := ite_t hf c_10
            refine G.aload_n dX11_picks_51 rfl rfl ?_
            refine G.getR (q := 71) dX11_picks_52 flX11_77 (by decide) rfl rfl ?_
            refine G.getI dX11_picks_55 flX11_210 (by decide) rfl ?_
            have hf := Option.some.inj hf
            subst hf
            exact G.iret' dX11_picks_58 rfl hK
        · have hf := ite_f hf c_11
          refine G.forget (L' := [some (.ref 0), none, none, none]) [1, 2, 3] rfl ?_
          exact tX11_picks_23 E d rr I _ hf hK
theorem dX11_join_0 : decode cX11_join 0 = .ok (.iload_n 1, 1) := by decide +kernel
theorem dX11_join_1 : decode cX11_join 1 = .ok (.iconst 1, 1) := by decide +kernel
theorem dX11_join_2 : decode cX11_join 2 = .ok (.if_icmp .lt 8, 3) := by decide +kernel
theorem dX11_join_5 : decode cX11_join 5 = .ok (.iload_n 1, 1) := by decide +kernel
theorem dX11_join_6 : decode cX11_join 6 = .ok (.iconst 4, 1) := by decide +kernel
theorem dX11_join_7 : decode cX11_join 7 = .ok (.if_icmp .le 10, 3) := by decide +kernel
theorem dX11_join_10 : decode cX11_join 10 = .ok (.aload_n 0, 1) := by decide +kernel
theorem dX11_join_11 : decode cX11_join 11 = .ok (.bipush (-2), 2) := by decide +kernel
theorem dX11_join_13 : decode cX11_join 13 = .ok (.invokevirtual 81, 3) := by decide +kernel
theorem dX11_join_16 : decode cX11_join 16 = .ok (.ireturn, 1) := by decide +kernel
theorem dX11_join_17 : decode cX11_join 17 = .ok (.aload_n 0, 1) := by decide +kernel
theorem dX11_join_18 : decode cX11_join 18 = .ok (.getfield 10, 3) := by decide +kernel
theorem dX11_join_21 : decode cX11_join 21 = .ok (.getfield 111, 3) := by decide +kernel
theorem dX11_join_24 : decode cX11_join 24 = .ok (.iconst 4, 1) := by decide +kernel
theorem dX11_join_25 : decode cX11_join 25 = .ok (.if_icmp .lt 10, 3) := by decide +kernel
theorem dX11_join_28 : decode cX11_join 28 = .ok (.aload_n 0, 1) := by decide +kernel
theorem dX11_join_29 : decode cX11_join 29 = .ok (.bipush (-3), 2) := by decide +kernel
theorem dX11_join_31 : decode cX11_join 31 = .ok (.invokevirtual 81, 3) := by decide +kernel
theorem dX11_join_34 : decode cX11_join 34 = .ok (.ireturn, 1) := by decide +kernel
theorem dX11_join_35 : decode cX11_join 35 = .ok (.aload_n 0, 1) := by decide +kernel
theorem dX11_join_36 : decode cX11_join 36 = .ok (.getfield 63, 3) := by decide +kernel
theorem dX11_join_39 : decode cX11_join 39 = .ok (.aload_n 0, 1) := by decide +kernel
theorem dX11_join_40 : decode cX11_join 40 = .ok (.getfield 10, 3) := by decide +kernel
theorem dX11_join_43 : decode cX11_join 43 = .ok (.aload_n 0, 1) := by decide +kernel
theorem dX11_join_44 : decode cX11_join 44 = .ok (.getfield 49, 3) := by decide +kernel
theorem dX11_join_47 : decode cX11_join 47 = .ok (.aload_n 0, 1) := by decide +kernel
theorem dX11_join_48 : decode cX11_join 48 = .ok (.getfield 10, 3) := by decide +kernel
theorem dX11_join_51 : decode cX11_join 51 = .ok (.getfield 120, 3) := by decide +kernel
theorem dX11_join_54 : decode cX11_join 54 = .ok (.aaload, 1) := by decide +kernel
theorem dX11_join_55 : decode cX11_join 55 = .ok (.iload_n 1, 1) := by decide +kernel
theorem dX11_join_56 : decode cX11_join 56 = .ok (.invokevirtual 187, 3) := by decide +kernel
theorem dX11_join_59 : decode cX11_join 59 = .ok (.istore_n 2, 1) := by decide +kernel
theorem dX11_join_60 : decode cX11_join 60 = .ok (.iconst (-1), 1) := by decide +kernel
theorem dX11_join_61 : decode cX11_join 61 = .ok (.istore_n 3, 1) := by decide +kernel
theorem dX11_join_62 : decode cX11_join 62 = .ok (.iconst 0, 1) := by decide +kernel
theorem dX11_join_63 : decode cX11_join 63 = .ok (.istore 4, 2) := by decide +kernel
theorem dX11_join_65 : decode cX11_join 65 = .ok (.iload 4, 2) := by decide +kernel
theorem dX11_join_67 : decode cX11_join 67 = .ok (.aload_n 0, 1) := by decide +kernel
theorem dX11_join_68 : decode cX11_join 68 = .ok (.getfield 10, 3) := by decide +kernel
theorem dX11_join_71 : decode cX11_join 71 = .ok (.getfield 85, 3) := by decide +kernel
theorem dX11_join_74 : decode cX11_join 74 = .ok (.if_icmp .ge 110, 3) := by decide +kernel
theorem dX11_join_77 : decode cX11_join 77 = .ok (.iload 4, 2) := by decide +kernel
theorem dX11_join_79 : decode cX11_join 79 = .ok (.iconst 1, 1) := by decide +kernel
theorem dX11_join_80 : decode cX11_join 80 = .ok (.iadd, 1) := by decide +kernel
theorem dX11_join_81 : decode cX11_join 81 = .ok (.istore 5, 2) := by decide +kernel
theorem dX11_join_83 : decode cX11_join 83 = .ok (.iload 5, 2) := by decide +kernel
theorem dX11_join_85 : decode cX11_join 85 = .ok (.aload_n 0, 1) := by decide +kernel
theorem dX11_join_86 : decode cX11_join 86 = .ok (.getfield 10, 3) := by decide +kernel
theorem dX11_join_89 : decode cX11_join 89 = .ok (.getfield 85, 3) := by decide +kernel
theorem dX11_join_92 : decode cX11_join 92 = .ok (.if_icmp .ge 86, 3) := by decide +kernel
theorem dX11_join_95 : decode cX11_join 95 = .ok (.aload_n 0, 1) := by decide +kernel
theorem dX11_join_96 : decode cX11_join 96 = .ok (.getfield 16, 3) := by decide +kernel
theorem dX11_join_99 : decode cX11_join 99 = .ok (.aload_n 0, 1) := by decide +kernel
theorem dX11_join_100 : decode cX11_join 100 = .ok (.getfield 10, 3) := by decide +kernel
theorem dX11_join_103 : decode cX11_join 103 = .ok (.invokevirtual 144, 3) := by decide +kernel
theorem dX11_join_106 : decode cX11_join 106 = .ok (.aload_n 0, 1) := by decide +kernel
theorem dX11_join_107 : decode cX11_join 107 = .ok (.getfield 16, 3) := by decide +kernel
theorem dX11_join_110 : decode cX11_join 110 = .ok (.iload 4, 2) := by decide +kernel
theorem dX11_join_112 : decode cX11_join 112 = .ok (.iload 5, 2) := by decide +kernel
theorem dX11_join_114 : decode cX11_join 114 = .ok (.invokevirtual 219, 3) := by decide +kernel
theorem dX11_join_117 : decode cX11_join 117 = .ok (.aload_n 0, 1) := by decide +kernel
theorem dX11_join_118 : decode cX11_join 118 = .ok (.getfield 63, 3) := by decide +kernel
theorem dX11_join_121 : decode cX11_join 121 = .ok (.aload_n 0, 1) := by decide +kernel
theorem dX11_join_122 : decode cX11_join 122 = .ok (.getfield 16, 3) := by decide +kernel
theorem dX11_join_125 : decode cX11_join 125 = .ok (.aload_n 0, 1) := by decide +kernel
theorem dX11_join_126 : decode cX11_join 126 = .ok (.getfield 49, 3) := by decide +kernel
theorem dX11_join_129 : decode cX11_join 129 = .ok (.aload_n 0, 1) := by decide +kernel
theorem dX11_join_130 : decode cX11_join 130 = .ok (.getfield 10, 3) := by decide +kernel
theorem dX11_join_133 : decode cX11_join 133 = .ok (.getfield 120, 3) := by decide +kernel
theorem dX11_join_136 : decode cX11_join 136 = .ok (.aaload, 1) := by decide +kernel
theorem dX11_join_137 : decode cX11_join 137 = .ok (.iload_n 1, 1) := by decide +kernel
theorem dX11_join_138 : decode cX11_join 138 = .ok (.invokevirtual 187, 3) := by decide +kernel
theorem dX11_join_141 : decode cX11_join 141 = .ok (.istore 6, 2) := by decide +kernel
theorem dX11_join_143 : decode cX11_join 143 = .ok (.iload 6, 2) := by decide +kernel
theorem dX11_join_145 : decode cX11_join 145 = .ok (.iconst (-1), 1) := by decide +kernel
theorem dX11_join_146 : decode cX11_join 146 = .ok (.if_icmp .eq 26, 3) := by decide +kernel
theorem dX11_join_149 : decode cX11_join 149 = .ok (.iload_n 2, 1) := by decide +kernel
theorem dX11_join_150 : decode cX11_join 150 = .ok (.iconst (-1), 1) := by decide +kernel
theorem dX11_join_151 : decode cX11_join 151 = .ok (.if_icmp .eq 9, 3) := by decide +kernel
theorem dX11_join_154 : decode cX11_join 154 = .ok (.iload 6, 2) := by decide +kernel
theorem dX11_join_156 : decode cX11_join 156 = .ok (.iload_n 2, 1) := by decide +kernel
theorem dX11_join_157 : decode cX11_join 157 = .ok (.if_icmp .ge 15, 3) := by decide +kernel
theorem dX11_join_160 : decode cX11_join 160 = .ok (.iload 6, 2) := by decide +kernel
theorem dX11_join_162 : decode cX11_join 162 = .ok (.istore_n 2, 1) := by decide +kernel
theorem dX11_join_163 : decode cX11_join 163 = .ok (.bipush 10, 2) := by decide +kernel
theorem dX11_join_165 : decode cX11_join 165 = .ok (.iload 4, 2) := by decide +kernel
theorem dX11_join_167 : decode cX11_join 167 = .ok (.imul, 1) := by decide +kernel
theorem dX11_join_168 : decode cX11_join 168 = .ok (.iload 5, 2) := by decide +kernel
theorem dX11_join_170 : decode cX11_join 170 = .ok (.iadd, 1) := by decide +kernel
theorem dX11_join_171 : decode cX11_join 171 = .ok (.istore_n 3, 1) := by decide +kernel
theorem dX11_join_172 : decode cX11_join 172 = .ok (.iinc 5 1, 3) := by decide +kernel
theorem dX11_join_175 : decode cX11_join 175 = .ok (.goto (-92), 3) := by decide +kernel
theorem dX11_join_178 : decode cX11_join 178 = .ok (.iinc 4 1, 3) := by decide +kernel
theorem dX11_join_181 : decode cX11_join 181 = .ok (.goto (-116), 3) := by decide +kernel
theorem dX11_join_184 : decode cX11_join 184 = .ok (.iload_n 3, 1) := by decide +kernel
theorem dX11_join_185 : decode cX11_join 185 = .ok (.ireturn, 1) := by decide +kernel
def jX11_join_10 (I : Mem) : Option (Int32 × Mem) :=
  bnd2 (fX11_refuse (-2 : Int32) I) fun v_2 I_3 =>
  some (v_2, I_3)
set_option maxRecDepth 20000 in
theorem tX11_join_10 (E : EV) (d : Nat) (rr : Option Value × Mem) (I : Mem) (y : (Int32 × Mem)) (hf : jX11_join_10 I = some y) (hK : (fun (z : Int32 × Mem) => (some (.int z.1), z.2) = rr) y) : G E (d + 6) kX11_join 10 [some (.ref 0), none, none, none, none, none, none] [] I rr := by
  unfold jX11_join_10 at hf
  refine G.aload_n dX11_join_10 rfl rfl ?_
  refine G.bipush (v := -2) dX11_join_11 (by decide) ?_
  obtain ⟨v_2, I_3, hc_1, hf⟩ := bnd2_at hf
  refine G.callVi (av := [.int (-2 : Int32)]) (rest := []) dX11_join_13 mvX11_81 (gX11_refuse E (d + 5) (-2 : Int32) I hc_1) (by decide) rfl rfl rfl (Nat.le_of_ble_eq_true rfl) ?_
  have hf := Option.some.inj hf
  subst hf
  exact G.iret' dX11_join_16 rfl hK
def KX11_join_65 (E : EV) (d : Nat) (rr : Option Value × Mem) (x1 : Int32) (Kp : (Int32 × Mem) → Prop) : ((Int32 × Int32 × Int32 × Mem) ⊕ (Int32 × Mem)) → Prop
  | .inl q => G E (d + 6) kX11_join 65 [some (.ref 0), some (.int x1), some (.int q.1), some (.int q.2.1), some (.int q.2.2.1), none, none] [] q.2.2.2 rr
  | .inr z => Kp z
def KX11_join_83 (E : EV) (d : Nat) (rr : Option Value × Mem) (x1 : Int32) (x4 : Int32) (Kp : ((Int32 × Int32 × Int32 × Mem) ⊕ (Int32 × Mem)) → Prop) : ((Int32 × Int32 × Int32 × Mem) ⊕ ((Int32 × Int32 × Int32 × Mem) ⊕ (Int32 × Mem))) → Prop
  | .inl q => G E (d + 6) kX11_join 83 [some (.ref 0), some (.int x1), some (.int q.1), some (.int q.2.1), some (.int x4), some (.int q.2.2.1), none] [] q.2.2.2 rr
  | .inr z => Kp z
def jX11_join_160 (x1 : Int32) (x4 : Int32) (x5 : Int32) (x6 : Int32) (I : Mem) : Option ((Int32 × Int32 × Int32 × Mem) ⊕ ((Int32 × Int32 × Int32 × Mem) ⊕ (Int32 × Mem))) :=
  letb (((10 : Int32) * x4) + x5) fun x3_19 =>
  some (.inl (x6, x3_19, (x5 + (1 : Int32)), I))
set_option maxRecDepth 20000 in
theorem tX11_join_160 (E : EV) (d : Nat) (rr : Option Value × Mem) (x1 : Int32) (x4 : Int32) (x5 : Int32) (x6 : Int32) (I : Mem) (y : ((Int32 × Int32 × Int32 × Mem) ⊕ ((Int32 × Int32 × Int32 × Mem) ⊕ (Int32 × Mem)))) (hf : jX11_join_160 x1 x4 x5 x6 I = some y) (hK : (KX11_join_83 E d rr x1 x4 (KX11_join_65 E d rr x1 (fun (z : Int32 × Mem) => (some (.int z.1), z.2) = rr))) y) : G E (d + 6) kX11_join 160 [some (.ref 0), some (.int x1), none, none, some (.int x4), some (.int x5), some (.int x6)] [] I rr := by
  unfold jX11_join_160 at hf
  refine G.iload dX11_join_160 rfl ?_
  refine G.istore_n (L' := [some (.ref 0), some (.int x1), some (.int x6), none, some (.int x4), some (.int x5), some (.int x6)]) dX11_join_162 rfl (Nat.le_of_ble_eq_true rfl) (Nat.le_of_ble_eq_true rfl) rfl rfl ?_
  refine G.bipush (v := 10) dX11_join_163 (by decide) ?_
  refine G.iload dX11_join_165 rfl ?_
  refine G.imul dX11_join_167 ?_
  refine G.iload dX11_join_168 rfl ?_
  refine G.iadd dX11_join_170 ?_
  refine G.nmi (fun x3_19 e_x3_19 => ?_)
  have hf := letb_at hf e_x3_19
  clear e_x3_19
  refine G.istore_n (L' := [some (.ref 0), some (.int x1), some (.int x6), some (.int x3_19), some (.int x4), some (.int x5), some (.int x6)]) dX11_join_171 rfl (Nat.le_of_ble_eq_true rfl) (Nat.le_of_ble_eq_true rfl) rfl rfl ?_
  refine G.inc (w := 1) (L' := [some (.ref 0), some (.int x1), some (.int x6), some (.int x3_19), some (.int x4), some (.int (x5 + (1 : Int32))), some (.int x6)]) dX11_join_172 (by decide) rfl (Nat.le_of_ble_eq_true rfl) rfl rfl ?_
  refine G.goto (tgt := 83) dX11_join_175 (by decide) ?_
  have hf := Option.some.inj hf
  subst hf
  refine G.forget (L' := [some (.ref 0), some (.int x1), some (.int x6), some (.int x3_19), some (.int x4), some (.int (x5 + (1 : Int32))), none]) [6] rfl ?_
  exact hK
def bX11_join_83 (x1 : Int32) (x4 : Int32) (x2 : Int32) (x3 : Int32) (x5 : Int32) (I : Mem) : Option ((Int32 × Int32 × Int32 × Mem) ⊕ ((Int32 × Int32 × Int32 × Mem) ⊕ (Int32 × Mem))) :=
  if (I 1 0) ≤ x5 then
  (some (.inr (.inl (x2, x3, (x4 + (1 : Int32)), I))))
  else
  (bnd (fX4_copy 9 1 I) fun I_11 =>
  bnd (fX4_merge 9 x4 x5 I_11) fun I_13 =>
  chk (inb (I_13 1 4) 5) <|
  bnd (asL (fin 37 (ix (I_13 1 4)))) fun o9_15 =>
  bnd2 (fX2_weigh 9 o9_15 x1 I_13) fun v_17 I_18 =>
  if v_17 = (-1 : Int32) then
  (some (.inl (x2, x3, (x5 + (1 : Int32)), I_18)))
  else
  (if x2 = (-1 : Int32) then
  (jX11_join_160 x1 x4 x5 v_17 I_18)
  else
  (if x2 ≤ v_17 then
  (some (.inl (x2, x3, (x5 + (1 : Int32)), I_18)))
  else
  (jX11_join_160 x1 x4 x5 v_17 I_18))))
def sX11_join_83 (x1 : Int32) (x4 : Int32) (q : (Int32 × Int32 × Int32 × Mem)) : Option ((Int32 × Int32 × Int32 × Mem) ⊕ ((Int32 × Int32 × Int32 × Mem) ⊕ (Int32 × Mem))) := bX11_join_83 x1 x4 q.1 q.2.1 q.2.2.1 q.2.2.2
set_option maxRecDepth 20000 in
theorem wX11_join_83 (E : EV) (d : Nat) (rr : Option Value × Mem) (x1 : Int32) (x4 : Int32) (x2 : Int32) (x3 : Int32) (x5 : Int32) (I : Mem) (y : ((Int32 × Int32 × Int32 × Mem) ⊕ ((Int32 × Int32 × Int32 × Mem) ⊕ (Int32 × Mem)))) (hf : bX11_join_83 x1 x4 x2 x3 x5 I = some y) (hK : (KX11_join_83 E d rr x1 x4 (KX11_join_65 E d rr x1 (fun (z : Int32 × Mem) => (some (.int z.1), z.2) = rr))) y) : G E (d + 6) kX11_join 83 [some (.ref 0), some (.int x1), some (.int x2), some (.int x3), some (.int x4), some (.int x5), none] [] I rr := by
  unfold bX11_join_83 at hf
  refine G.iload dX11_join_83 rfl ?_
  refine G.aload_n dX11_join_85 rfl rfl ?_
  refine G.getR (q := 1) dX11_join_86 flX11_10 (by decide) rfl rfl ?_
  refine G.getI dX11_join_89 flX11_85 (by decide) rfl ?_
  refine G.icmp_ge (tgt := 178) dX11_join_92 (by decide) (fun c_23 => ?_) (fun c_23 => ?_)
  · have hf := ite_t hf c_23
    refine G.inc (w := 1) (L' := [some (.ref 0), some (.int x1), some (.int x2), some (.int x3), some (.int (x4 + (1 : Int32))), some (.int x5), none]) dX11_join_178 (by decide) rfl (Nat.le_of_ble_eq_true rfl) rfl rfl ?_
    refine G.goto (tgt := 65) dX11_join_181 (by decide) ?_
    have hf := Option.some.inj hf
    subst hf
    refine G.forget (L' := [some (.ref 0), some (.int x1), some (.int x2), some (.int x3), some (.int (x4 + (1 : Int32))), none, none]) [5] rfl ?_
    exact hK
  · have hf := ite_f hf c_23
    refine G.aload_n dX11_join_95 rfl rfl ?_
    refine G.getR (q := 9) dX11_join_96 flX11_16 (by decide) rfl rfl ?_
    refine G.aload_n dX11_join_99 rfl rfl ?_
    refine G.getR (q := 1) dX11_join_100 flX11_10 (by decide) rfl rfl ?_
    obtain ⟨I_11, hc_10, hf⟩ := bnd_at hf
    refine G.callVv (av := [.ref 1]) (rest := []) dX11_join_103 mvX11_144 (gX4_copy E (d + 4) 9 1 I (by unfold isH; decide) (by unfold isH; decide) hc_10) (by decide) rfl rfl rfl (Nat.le_of_ble_eq_true rfl) ?_
    refine G.aload_n dX11_join_106 rfl rfl ?_
    refine G.getR (q := 9) dX11_join_107 flX11_16 (by decide) rfl rfl ?_
    refine G.iload dX11_join_110 rfl ?_
    refine G.iload dX11_join_112 rfl ?_
    obtain ⟨I_13, hc_12, hf⟩ := bnd_at hf
    refine G.callVv (av := [.int x4, .int x5]) (rest := []) dX11_join_114 mvX11_219 (gX4_merge E (d + 4) 9 x4 x5 I_11 (by unfold isH; decide) hc_12) (by decide) rfl rfl rfl (Nat.le_of_ble_eq_true rfl) ?_
    refine G.aload_n dX11_join_117 rfl rfl ?_
    refine G.getR (q := 45) dX11_join_118 flX11_63 (by decide) rfl rfl ?_
    refine G.aload_n dX11_join_121 rfl rfl ?_
    refine G.getR (q := 9) dX11_join_122 flX11_16 (by decide) rfl rfl ?_
    refine G.aload_n dX11_join_125 rfl rfl ?_
    refine G.getR (q := 37) dX11_join_126 flX11_49 (by decide) rfl rfl ?_
    refine G.aload_n dX11_join_129 rfl rfl ?_
    refine G.getR (q := 1) dX11_join_130 flX11_10 (by decide) rfl rfl ?_
    refine G.getI dX11_join_133 flX11_120 (by decide) rfl ?_
    obtain ⟨hi_14, hf⟩ := chk_at hf
    obtain ⟨o9_15, ho9_15a, hf⟩ := bnd_at hf
    obtain ⟨ho9_15d, ho9_15⟩ := asL_at ho9_15a
    refine G.aaldO (q := o9_15) dX11_join_136 (by decide) rfl hi_14 ho9_15d ?_
    refine G.iload_n dX11_join_137 rfl rfl ?_
    obtain ⟨v_17, I_18, hc_16, hf⟩ := bnd2_at hf
    refine G.callVi (av := [.ref 9, .ref o9_15, .int x1]) (rest := []) dX11_join_138 mvX11_187 (gX2_weigh E d 9 o9_15 x1 I_13 (by unfold isH; decide) ho9_15 hc_16) (by decide) rfl rfl rfl (Nat.le_of_ble_eq_true rfl) ?_
    refine G.istore (L' := [some (.ref 0), some (.int x1), some (.int x2), some (.int x3), some (.int x4), some (.int x5), some (.int v_17)]) dX11_join_141 (Nat.le_of_ble_eq_true rfl) (Nat.le_of_ble_eq_true rfl) rfl rfl ?_
    refine G.iload dX11_join_143 rfl ?_
    refine G.iconst (v := -1) dX11_join_145 (by decide) ?_
    refine G.icmp_eq (tgt := 172) dX11_join_146 (by decide) (fun c_22 => ?_) (fun c_22 => ?_)
    · have hf := ite_t hf c_22
      refine G.inc (w := 1) (L' := [some (.ref 0), some (.int x1), some (.int x2), some (.int x3), some (.int x4), some (.int (x5 + (1 : Int32))), some (.int v_17)]) dX11_join_172 (by decide) rfl (Nat.le_of_ble_eq_true rfl) rfl rfl ?_
      refine G.goto (tgt := 83) dX11_join_175 (by decide) ?_
      have hf := Option.some.inj hf
      subst hf
      refine G.forget (L' := [some (.ref 0), some (.int x1), some (.int x2), some (.int x3), some (.int x4), some (.int (x5 + (1 : Int32))), none]) [6] rfl ?_
      exact hK
    · have hf := ite_f hf c_22
      refine G.iload_n dX11_join_149 rfl rfl ?_
      refine G.iconst (v := -1) dX11_join_150 (by decide) ?_
      refine G.icmp_eq (tgt := 160) dX11_join_151 (by decide) (fun c_21 => ?_) (fun c_21 => ?_)
      · have hf := ite_t hf c_21
        refine G.forget (L' := [some (.ref 0), some (.int x1), none, none, some (.int x4), some (.int x5), some (.int v_17)]) [2, 3] rfl ?_
        exact tX11_join_160 E d rr x1 x4 x5 v_17 I_18 _ hf hK
      · have hf := ite_f hf c_21
        refine G.iload dX11_join_154 rfl ?_
        refine G.iload_n dX11_join_156 rfl rfl ?_
        refine G.icmp_ge (tgt := 172) dX11_join_157 (by decide) (fun c_20 => ?_) (fun c_20 => ?_)
        · have hf := ite_t hf c_20
          refine G.inc (w := 1) (L' := [some (.ref 0), some (.int x1), some (.int x2), some (.int x3), some (.int x4), some (.int (x5 + (1 : Int32))), some (.int v_17)]) dX11_join_172 (by decide) rfl (Nat.le_of_ble_eq_true rfl) rfl rfl ?_
          refine G.goto (tgt := 83) dX11_join_175 (by decide) ?_
          have hf := Option.some.inj hf
          subst hf
          refine G.forget (L' := [some (.ref 0), some (.int x1), some (.int x2), some (.int x3), some (.int x4), some (.int (x5 + (1 : Int32))), none]) [6] rfl ?_
          exact hK
        · have hf := ite_f hf c_20
          refine G.forget (L' := [some (.ref 0), some (.int x1), none, none, some (.int x4), some (.int x5), some (.int v_17)]) [2, 3] rfl ?_
          exact tX11_join_160 E d rr x1 x4 x5 v_17 I_18 _ hf hK
theorem lX11_join_83 (E : EV) (d : Nat) (rr : Option Value × Mem) (x1 : Int32) (x4 : Int32) (z : ((Int32 × Int32 × Int32 × Mem) ⊕ (Int32 × Mem))) (hK : (KX11_join_65 E d rr x1 (fun (z : Int32 × Mem) => (some (.int z.1), z.2) = rr)) z) : ∀ (n : Nat) (q : (Int32 × Int32 × Int32 × Mem)), iter (sX11_join_83 x1 x4) n q = some z → G E (d + 6) kX11_join 83 [some (.ref 0), some (.int x1), some (.int q.1), some (.int q.2.1), some (.int x4), some (.int q.2.2.1), none] [] q.2.2.2 rr := by
  intro n
  induction n with
  | zero => intro q h; cases h
  | succ n ih =>
    intro q h
    rcases iter_at h with ⟨q2, hs, h2⟩ | hs
    · exact wX11_join_83 E d rr x1 x4 q.1 q.2.1 q.2.2.1 q.2.2.2 _ hs (ih q2 h2)
    · exact wX11_join_83 E d rr x1 x4 q.1 q.2.1 q.2.2.1 q.2.2.2 _ hs hK
def bX11_join_65 (x1 : Int32) (x2 : Int32) (x3 : Int32) (x4 : Int32) (I : Mem) : Option ((Int32 × Int32 × Int32 × Mem) ⊕ (Int32 × Mem)) :=
  if (I 1 0) ≤ x4 then
  (some (.inr (x3, I)))
  else
  (letb (x4 + (1 : Int32)) fun x5_9 =>
  iter (sX11_join_83 x1 x4) FU (x2, x3, x5_9, I))
def sX11_join_65 (x1 : Int32) (q : (Int32 × Int32 × Int32 × Mem)) : Option ((Int32 × Int32 × Int32 × Mem) ⊕ (Int32 × Mem)) := bX11_join_65 x1 q.1 q.2.1 q.2.2.1 q.2.2.2
set_option maxRecDepth 20000 in
theorem wX11_join_65 (E : EV) (d : Nat) (rr : Option Value × Mem) (x1 : Int32) (x2 : Int32) (x3 : Int32) (x4 : Int32) (I : Mem) (y : ((Int32 × Int32 × Int32 × Mem) ⊕ (Int32 × Mem))) (hf : bX11_join_65 x1 x2 x3 x4 I = some y) (hK : (KX11_join_65 E d rr x1 (fun (z : Int32 × Mem) => (some (.int z.1), z.2) = rr)) y) : G E (d + 6) kX11_join 65 [some (.ref 0), some (.int x1), some (.int x2), some (.int x3), some (.int x4), none, none] [] I rr := by
  unfold bX11_join_65 at hf
  refine G.iload dX11_join_65 rfl ?_
  refine G.aload_n dX11_join_67 rfl rfl ?_
  refine G.getR (q := 1) dX11_join_68 flX11_10 (by decide) rfl rfl ?_
  refine G.getI dX11_join_71 flX11_85 (by decide) rfl ?_
  refine G.icmp_ge (tgt := 184) dX11_join_74 (by decide) (fun c_24 => ?_) (fun c_24 => ?_)
  · have hf := ite_t hf c_24
    refine G.iload_n dX11_join_184 rfl rfl ?_
    have hf := Option.some.inj hf
    subst hf
    exact G.iret' dX11_join_185 rfl hK
  · have hf := ite_f hf c_24
    refine G.iload dX11_join_77 rfl ?_
    refine G.iconst (v := 1) dX11_join_79 (by decide) ?_
    refine G.iadd dX11_join_80 ?_
    refine G.nmi (fun x5_9 e_x5_9 => ?_)
    have hf := letb_at hf e_x5_9
    clear e_x5_9
    refine G.istore (L' := [some (.ref 0), some (.int x1), some (.int x2), some (.int x3), some (.int x4), some (.int x5_9), none]) dX11_join_81 (Nat.le_of_ble_eq_true rfl) (Nat.le_of_ble_eq_true rfl) rfl rfl ?_
    exact lX11_join_83 E d rr x1 x4 _ hK FU _ hf
theorem lX11_join_65 (E : EV) (d : Nat) (rr : Option Value × Mem) (x1 : Int32) (z : (Int32 × Mem)) (hK : (fun (z : Int32 × Mem) => (some (.int z.1), z.2) = rr) z) : ∀ (n : Nat) (q : (Int32 × Int32 × Int32 × Mem)), iter (sX11_join_65 x1) n q = some z → G E (d + 6) kX11_join 65 [some (.ref 0), some (.int x1), some (.int q.1), some (.int q.2.1), some (.int q.2.2.1), none, none] [] q.2.2.2 rr := by
  intro n
  induction n with
  | zero => intro q h; cases h
  | succ n ih =>
    intro q h
    rcases iter_at h with ⟨q2, hs, h2⟩ | hs
    · exact wX11_join_65 E d rr x1 q.1 q.2.1 q.2.2.1 q.2.2.2 _ hs (ih q2 h2)
    · exact wX11_join_65 E d rr x1 q.1 q.2.1 q.2.2.1 q.2.2.2 _ hs hK
def fX11_join (x1 : Int32) (I : Mem) : Option (Int32 × Mem) :=
  if x1 < (1 : Int32) then
  (jX11_join_10 I)
  else
  (if x1 ≤ (4 : Int32) then
  (if (I 1 2) < (4 : Int32) then
  (chk (inb (I 1 4) 5) <|
  bnd (asL (fin 37 (ix (I 1 4)))) fun o9_5 =>
  bnd2 (fX2_weigh 1 o9_5 x1 I) fun v_7 I_8 =>
  iter (sX11_join_65 x1) FU (v_7, (-1 : Int32), (0 : Int32), I_8))
  else
  (bnd2 (fX11_refuse (-3 : Int32) I) fun v_26 I_27 =>
  some (v_26, I_27)))
  else
  (jX11_join_10 I))
set_option maxRecDepth 20000 in
theorem gX11_join (E : EV) (d : Nat) (x1 : Int32) (I : Mem) {v : Int32} {J : Mem} (hf : fX11_join x1 I = some (v, J)) : Gm E (d + 6) kX11_join [.ref 0, .int x1] I (some (.int v), J) := by
  refine (fun (y : (Int32 × Mem)) (hf : fX11_join x1 I = some y) => (?_ : Gm E (d + 6) kX11_join [.ref 0, .int x1] I (some (.int y.1), y.2))) (v, J) hf
  refine Gm.of (by decide) rfl (Nat.le_of_ble_eq_true rfl) ?_
  generalize hrr : ((some (.int y.1), y.2) : Option Value × Mem) = rr
  show G E (d + 6) kX11_join 0 [some (.ref 0), some (.int x1), none, none, none, none, none] [] I rr
  have hK : (fun (z : Int32 × Mem) => (some (.int z.1), z.2) = rr) y := hrr
  clear hrr
  unfold fX11_join at hf
  refine G.iload_n dX11_join_0 rfl rfl ?_
  refine G.iconst (v := 1) dX11_join_1 (by decide) ?_
  refine G.icmp_lt (tgt := 10) dX11_join_2 (by decide) (fun c_30 => ?_) (fun c_30 => ?_)
  · have hf := ite_t hf c_30
    refine G.forget (L' := [some (.ref 0), none, none, none, none, none, none]) [1] rfl ?_
    exact tX11_join_10 E d rr I _ hf hK
  · have hf := ite_f hf c_30
    refine G.iload_n dX11_join_5 rfl rfl ?_
    refine G.iconst (v := 4) dX11_join_6 (by decide) ?_
    refine G.icmp_le (tgt := 17) dX11_join_7 (by decide) (fun c_29 => ?_) (fun c_29 => ?_)
    · have hf := ite_t hf c_29
      refine G.aload_n dX11_join_17 rfl rfl ?_
      refine G.getR (q := 1) dX11_join_18 flX11_10 (by decide) rfl rfl ?_
      refine G.getI dX11_join_21 flX11_111 (by decide) rfl ?_
      refine G.iconst (v := 4) dX11_join_24 (by decide) ?_
      refine G.icmp_lt (tgt := 35) dX11_join_25 (by decide) (fun c_28 => ?_) (fun c_28 => ?_)
      · have hf := ite_t hf c_28
        refine G.aload_n dX11_join_35 rfl rfl ?_
        refine G.getR (q := 45) dX11_join_36 flX11_63 (by decide) rfl rfl ?_
        refine G.aload_n dX11_join_39 rfl rfl ?_
        refine G.getR (q := 1) dX11_join_40 flX11_10 (by decide) rfl rfl ?_
        refine G.aload_n dX11_join_43 rfl rfl ?_
        refine G.getR (q := 37) dX11_join_44 flX11_49 (by decide) rfl rfl ?_
        refine G.aload_n dX11_join_47 rfl rfl ?_
        refine G.getR (q := 1) dX11_join_48 flX11_10 (by decide) rfl rfl ?_
        refine G.getI dX11_join_51 flX11_120 (by decide) rfl ?_
        obtain ⟨hi_4, hf⟩ := chk_at hf
        obtain ⟨o9_5, ho9_5a, hf⟩ := bnd_at hf
        obtain ⟨ho9_5d, ho9_5⟩ := asL_at ho9_5a
        refine G.aaldO (q := o9_5) dX11_join_54 (by decide) rfl hi_4 ho9_5d ?_
        refine G.iload_n dX11_join_55 rfl rfl ?_
        obtain ⟨v_7, I_8, hc_6, hf⟩ := bnd2_at hf
        refine G.callVi (av := [.ref 1, .ref o9_5, .int x1]) (rest := []) dX11_join_56 mvX11_187 (gX2_weigh E d 1 o9_5 x1 I (by unfold isH; decide) ho9_5 hc_6) (by decide) rfl rfl rfl (Nat.le_of_ble_eq_true rfl) ?_
        refine G.istore_n (L' := [some (.ref 0), some (.int x1), some (.int v_7), none, none, none, none]) dX11_join_59 rfl (Nat.le_of_ble_eq_true rfl) (Nat.le_of_ble_eq_true rfl) rfl rfl ?_
        refine G.iconst (v := -1) dX11_join_60 (by decide) ?_
        refine G.istore_n (L' := [some (.ref 0), some (.int x1), some (.int v_7), some (.int (-1 : Int32)), none, none, none]) dX11_join_61 rfl (Nat.le_of_ble_eq_true rfl) (Nat.le_of_ble_eq_true rfl) rfl rfl ?_
        refine G.iconst (v := 0) dX11_join_62 (by decide) ?_
        refine G.istore (L' := [some (.ref 0), some (.int x1), some (.int v_7), some (.int (-1 : Int32)), some (.int (0 : Int32)), none, none]) dX11_join_63 (Nat.le_of_ble_eq_true rfl) (Nat.le_of_ble_eq_true rfl) rfl rfl ?_
        exact lX11_join_65 E d rr x1 _ hK FU _ hf
      · have hf := ite_f hf c_28
        refine G.aload_n dX11_join_28 rfl rfl ?_
        refine G.bipush (v := -3) dX11_join_29 (by decide) ?_
        obtain ⟨v_26, I_27, hc_25, hf⟩ := bnd2_at hf
        refine G.callVi (av := [.int (-3 : Int32)]) (rest := []) dX11_join_31 mvX11_81 (gX11_refuse E (d + 5) (-3 : Int32) I hc_25) (by decide) rfl rfl rfl (Nat.le_of_ble_eq_true rfl) ?_
        have hf := Option.some.inj hf
        subst hf
        exact G.iret' dX11_join_34 rfl hK
    · have hf := ite_f hf c_29
      refine G.forget (L' := [some (.ref 0), none, none, none, none, none, none]) [1] rfl ?_
      exact tX11_join_10 E d rr I _ hf hK
theorem dX11_spy_0 : decode cX11_spy 0 = .ok (.aload_n 0, 1) := by decide +kernel
theorem dX11_spy_1 : decode cX11_spy 1 = .ok (.iload_n 1, 1) := by decide +kernel
theorem dX11_spy_2 : decode cX11_spy 2 = .ok (.invokevirtual 93, 3) := by decide +kernel
theorem dX11_spy_5 : decode cX11_spy 5 = .ok (.ifCond .eq 14, 3) := by decide +kernel
theorem dX11_spy_8 : decode cX11_spy 8 = .ok (.iload_n 2, 1) := by decide +kernel
theorem dX11_spy_9 : decode cX11_spy 9 = .ok (.ifCond .lt 10, 3) := by decide +kernel
theorem dX11_spy_12 : decode cX11_spy 12 = .ok (.iload_n 2, 1) := by decide +kernel
theorem dX11_spy_13 : decode cX11_spy 13 = .ok (.sipush 1999, 3) := by decide +kernel
theorem dX11_spy_16 : decode cX11_spy 16 = .ok (.if_icmp .le 10, 3) := by decide +kernel
theorem dX11_spy_19 : decode cX11_spy 19 = .ok (.aload_n 0, 1) := by decide +kernel
theorem dX11_spy_20 : decode cX11_spy 20 = .ok (.bipush (-2), 2) := by decide +kernel
theorem dX11_spy_22 : decode cX11_spy 22 = .ok (.invokevirtual 81, 3) := by decide +kernel
theorem dX11_spy_25 : decode cX11_spy 25 = .ok (.ireturn, 1) := by decide +kernel
theorem dX11_spy_26 : decode cX11_spy 26 = .ok (.aload_n 0, 1) := by decide +kernel
theorem dX11_spy_27 : decode cX11_spy 27 = .ok (.getfield 10, 3) := by decide +kernel
theorem dX11_spy_30 : decode cX11_spy 30 = .ok (.getfield 223, 3) := by decide +kernel
theorem dX11_spy_33 : decode cX11_spy 33 = .ok (.iload_n 1, 1) := by decide +kernel
theorem dX11_spy_34 : decode cX11_spy 34 = .ok (.iaload, 1) := by decide +kernel
theorem dX11_spy_35 : decode cX11_spy 35 = .ok (.istore_n 3, 1) := by decide +kernel
theorem dX11_spy_36 : decode cX11_spy 36 = .ok (.aload_n 0, 1) := by decide +kernel
theorem dX11_spy_37 : decode cX11_spy 37 = .ok (.getfield 10, 3) := by decide +kernel
theorem dX11_spy_40 : decode cX11_spy 40 = .ok (.getfield 223, 3) := by decide +kernel
theorem dX11_spy_43 : decode cX11_spy 43 = .ok (.iload_n 1, 1) := by decide +kernel
theorem dX11_spy_44 : decode cX11_spy 44 = .ok (.iload_n 2, 1) := by decide +kernel
theorem dX11_spy_45 : decode cX11_spy 45 = .ok (.iastore, 1) := by decide +kernel
theorem dX11_spy_46 : decode cX11_spy 46 = .ok (.iload_n 3, 1) := by decide +kernel
theorem dX11_spy_47 : decode cX11_spy 47 = .ok (.ireturn, 1) := by decide +kernel
def jX11_spy_19 (I : Mem) : Option (Int32 × Mem) :=
  bnd2 (fX11_refuse (-2 : Int32) I) fun v_4 I_5 =>
  some (v_4, I_5)
set_option maxRecDepth 20000 in
theorem tX11_spy_19 (E : EV) (d : Nat) (rr : Option Value × Mem) (I : Mem) (y : (Int32 × Mem)) (hf : jX11_spy_19 I = some y) (hK : (fun (z : Int32 × Mem) => (some (.int z.1), z.2) = rr) y) : G E (d + 1) kX11_spy 19 [some (.ref 0), none, none, none] [] I rr := by
  unfold jX11_spy_19 at hf
  refine G.aload_n dX11_spy_19 rfl rfl ?_
  refine G.bipush (v := -2) dX11_spy_20 (by decide) ?_
  obtain ⟨v_4, I_5, hc_3, hf⟩ := bnd2_at hf
  refine G.callVi (av := [.int (-2 : Int32)]) (rest := []) dX11_spy_22 mvX11_81 (gX11_refuse E d (-2 : Int32) I hc_3) (by decide) rfl rfl rfl (Nat.le_of_ble_eq_true rfl) ?_
  have hf := Option.some.inj hf
  subst hf
  exact G.iret' dX11_spy_25 rfl hK
def fX11_spy (x1 : Int32) (x2 : Int32) (I : Mem) : Option (Int32 × Mem) :=
  bnd (fX11_isRoom x1 I) fun v_2 =>
  if v_2 = 0 then
  (jX11_spy_19 I)
  else
  (if x2 < 0 then
  (jX11_spy_19 I)
  else
  (if x2 ≤ (1999 : Int32) then
  (chk (inb x1 5) <|
  letb (I 4 (ix x1)) fun x3_7 =>
  chk (inb x1 5) <|
  letb (up2 I 4 (ix x1) x2) fun I_9 =>
  some (x3_7, I_9))
  else
  (jX11_spy_19 I)))
set_option maxRecDepth 20000 in
theorem gX11_spy (E : EV) (d : Nat) (x1 : Int32) (x2 : Int32) (I : Mem) {v : Int32} {J : Mem} (hf : fX11_spy x1 x2 I = some (v, J)) : Gm E (d + 1) kX11_spy [.ref 0, .int x1, .int x2] I (some (.int v), J) := by
  refine (fun (y : (Int32 × Mem)) (hf : fX11_spy x1 x2 I = some y) => (?_ : Gm E (d + 1) kX11_spy [.ref 0, .int x1, .int x2] I (some (.int y.1), y.2))) (v, J) hf
  refine Gm.of (by decide) rfl (Nat.le_of_ble_eq_true rfl) ?_
  generalize hrr : ((some (.int y.1), y.2) : Option Value × Mem) = rr
  show G E (d + 1) kX11_spy 0 [some (.ref 0), some (.int x1), some (.int x2), none] [] I rr
  have hK : (fun (z : Int32 × Mem) => (some (.int z.1), z.2) = rr) y := hrr
  clear hrr
  unfold fX11_spy at hf
  refine G.aload_n dX11_spy_0 rfl rfl ?_
  refine G.iload_n dX11_spy_1 rfl rfl ?_
  obtain ⟨v_2, hc_1, hf⟩ := bnd_at hf
  refine G.callVi (av := [.int x1]) (rest := []) dX11_spy_2 mvX11_93 (gX11_isRoom E d x1 I hc_1) (by decide) rfl rfl rfl (Nat.le_of_ble_eq_true rfl) ?_
  refine G.if_eq (tgt := 19) dX11_spy_5 (by decide) (fun c_12 => ?_) (fun c_12 => ?_)
  · have hf := ite_t hf c_12
    refine G.forget (L' := [some (.ref 0), none, none, none]) [1, 2] rfl ?_
    exact tX11_spy_19 E d rr I _ hf hK
  · have hf := ite_f hf c_12
    refine G.iload_n dX11_spy_8 rfl rfl ?_
    refine G.if_lt (tgt := 19) dX11_spy_9 (by decide) (fun c_11 => ?_) (fun c_11 => ?_)
    · have hf := ite_t hf c_11
      refine G.forget (L' := [some (.ref 0), none, none, none]) [1, 2] rfl ?_
      exact tX11_spy_19 E d rr I _ hf hK
    · have hf := ite_f hf c_11
      refine G.iload_n dX11_spy_12 rfl rfl ?_
      refine G.sipush (v := 1999) dX11_spy_13 (by decide) ?_
      refine G.icmp_le (tgt := 26) dX11_spy_16 (by decide) (fun c_10 => ?_) (fun c_10 => ?_)
      · have hf := ite_t hf c_10
        refine G.aload_n dX11_spy_26 rfl rfl ?_
        refine G.getR (q := 1) dX11_spy_27 flX11_10 (by decide) rfl rfl ?_
        refine G.getR (q := 4) dX11_spy_30 flX11_223 (by decide) rfl rfl ?_
        refine G.iload_n dX11_spy_33 rfl rfl ?_
        obtain ⟨hi_6, hf⟩ := chk_at hf
        refine G.iald' dX11_spy_34 (by decide) rfl rfl hi_6 ?_
        refine G.nmi (fun x3_7 e_x3_7 => ?_)
        have hf := letb_at hf e_x3_7
        clear e_x3_7
        refine G.istore_n (L' := [some (.ref 0), some (.int x1), some (.int x2), some (.int x3_7)]) dX11_spy_35 rfl (Nat.le_of_ble_eq_true rfl) (Nat.le_of_ble_eq_true rfl) rfl rfl ?_
        refine G.aload_n dX11_spy_36 rfl rfl ?_
        refine G.getR (q := 1) dX11_spy_37 flX11_10 (by decide) rfl rfl ?_
        refine G.getR (q := 4) dX11_spy_40 flX11_223 (by decide) rfl rfl ?_
        refine G.iload_n dX11_spy_43 rfl rfl ?_
        refine G.iload_n dX11_spy_44 rfl rfl ?_
        obtain ⟨hi_8, hf⟩ := chk_at hf
        refine G.iast' dX11_spy_45 (by decide) rfl rfl hi_8 ?_
        refine G.nmI (fun I_9 e_I_9 => ?_)
        have hf := letb_at hf e_I_9
        clear e_I_9
        refine G.iload_n dX11_spy_46 rfl rfl ?_
        have hf := Option.some.inj hf
        subst hf
        exact G.iret' dX11_spy_47 rfl hK
      · have hf := ite_f hf c_10
        refine G.forget (L' := [some (.ref 0), none, none, none]) [1, 2] rfl ?_
        exact tX11_spy_19 E d rr I _ hf hK
theorem dX11_countFits_0 : decode cX11_countFits 0 = .ok (.aload_n 0, 1) := by decide +kernel
theorem dX11_countFits_1 : decode cX11_countFits 1 = .ok (.getfield 16, 3) := by decide +kernel
theorem dX11_countFits_4 : decode cX11_countFits 4 = .ok (.aload_n 0, 1) := by decide +kernel
theorem dX11_countFits_5 : decode cX11_countFits 5 = .ok (.getfield 10, 3) := by decide +kernel
theorem dX11_countFits_8 : decode cX11_countFits 8 = .ok (.invokevirtual 144, 3) := by decide +kernel
theorem dX11_countFits_11 : decode cX11_countFits 11 = .ok (.aload_n 0, 1) := by decide +kernel
theorem dX11_countFits_12 : decode cX11_countFits 12 = .ok (.getfield 56, 3) := by decide +kernel
theorem dX11_countFits_15 : decode cX11_countFits 15 = .ok (.aload_n 0, 1) := by decide +kernel
theorem dX11_countFits_16 : decode cX11_countFits 16 = .ok (.getfield 10, 3) := by decide +kernel
theorem dX11_countFits_19 : decode cX11_countFits 19 = .ok (.aload_n 0, 1) := by decide +kernel
theorem dX11_countFits_20 : decode cX11_countFits 20 = .ok (.getfield 10, 3) := by decide +kernel
theorem dX11_countFits_23 : decode cX11_countFits 23 = .ok (.getfield 151, 3) := by decide +kernel
theorem dX11_countFits_26 : decode cX11_countFits 26 = .ok (.invokevirtual 282, 3) := by decide +kernel
theorem dX11_countFits_29 : decode cX11_countFits 29 = .ok (.istore_n 3, 1) := by decide +kernel
theorem dX11_countFits_30 : decode cX11_countFits 30 = .ok (.iconst 0, 1) := by decide +kernel
theorem dX11_countFits_31 : decode cX11_countFits 31 = .ok (.istore 4, 2) := by decide +kernel
theorem dX11_countFits_33 : decode cX11_countFits 33 = .ok (.iconst 0, 1) := by decide +kernel
theorem dX11_countFits_34 : decode cX11_countFits 34 = .ok (.istore 5, 2) := by decide +kernel
theorem dX11_countFits_36 : decode cX11_countFits 36 = .ok (.iload 5, 2) := by decide +kernel
theorem dX11_countFits_38 : decode cX11_countFits 38 = .ok (.iload_n 3, 1) := by decide +kernel
theorem dX11_countFits_39 : decode cX11_countFits 39 = .ok (.if_icmp .ge 87, 3) := by decide +kernel
theorem dX11_countFits_42 : decode cX11_countFits 42 = .ok (.aload_n 0, 1) := by decide +kernel
theorem dX11_countFits_43 : decode cX11_countFits 43 = .ok (.getfield 16, 3) := by decide +kernel
theorem dX11_countFits_46 : decode cX11_countFits 46 = .ok (.invokevirtual 157, 3) := by decide +kernel
theorem dX11_countFits_49 : decode cX11_countFits 49 = .ok (.aload_n 0, 1) := by decide +kernel
theorem dX11_countFits_50 : decode cX11_countFits 50 = .ok (.getfield 16, 3) := by decide +kernel
theorem dX11_countFits_53 : decode cX11_countFits 53 = .ok (.aload_n 0, 1) := by decide +kernel
theorem dX11_countFits_54 : decode cX11_countFits 54 = .ok (.getfield 56, 3) := by decide +kernel
theorem dX11_countFits_57 : decode cX11_countFits 57 = .ok (.getfield 200, 3) := by decide +kernel
theorem dX11_countFits_60 : decode cX11_countFits 60 = .ok (.aload_n 0, 1) := by decide +kernel
theorem dX11_countFits_61 : decode cX11_countFits 61 = .ok (.getfield 49, 3) := by decide +kernel
theorem dX11_countFits_64 : decode cX11_countFits 64 = .ok (.aload_n 0, 1) := by decide +kernel
theorem dX11_countFits_65 : decode cX11_countFits 65 = .ok (.getfield 10, 3) := by decide +kernel
theorem dX11_countFits_68 : decode cX11_countFits 68 = .ok (.getfield 120, 3) := by decide +kernel
theorem dX11_countFits_71 : decode cX11_countFits 71 = .ok (.aaload, 1) := by decide +kernel
theorem dX11_countFits_72 : decode cX11_countFits 72 = .ok (.invokevirtual 160, 3) := by decide +kernel
theorem dX11_countFits_75 : decode cX11_countFits 75 = .ok (.pop, 1) := by decide +kernel
theorem dX11_countFits_76 : decode cX11_countFits 76 = .ok (.aload_n 0, 1) := by decide +kernel
theorem dX11_countFits_77 : decode cX11_countFits 77 = .ok (.getfield 16, 3) := by decide +kernel
theorem dX11_countFits_80 : decode cX11_countFits 80 = .ok (.invokevirtual 286, 3) := by decide +kernel
theorem dX11_countFits_83 : decode cX11_countFits 83 = .ok (.ifCond .eq 23, 3) := by decide +kernel
theorem dX11_countFits_86 : decode cX11_countFits 86 = .ok (.iload_n 1, 1) := by decide +kernel
theorem dX11_countFits_87 : decode cX11_countFits 87 = .ok (.iconst (-1), 1) := by decide +kernel
theorem dX11_countFits_88 : decode cX11_countFits 88 = .ok (.if_icmp .eq 15, 3) := by decide +kernel
theorem dX11_countFits_91 : decode cX11_countFits 91 = .ok (.aload_n 0, 1) := by decide +kernel
theorem dX11_countFits_92 : decode cX11_countFits 92 = .ok (.getfield 16, 3) := by decide +kernel
theorem dX11_countFits_95 : decode cX11_countFits 95 = .ok (.iload_n 1, 1) := by decide +kernel
theorem dX11_countFits_96 : decode cX11_countFits 96 = .ok (.iload_n 2, 1) := by decide +kernel
theorem dX11_countFits_97 : decode cX11_countFits 97 = .ok (.invokevirtual 290, 3) := by decide +kernel
theorem dX11_countFits_100 : decode cX11_countFits 100 = .ok (.ifCond .eq 6, 3) := by decide +kernel
theorem dX11_countFits_103 : decode cX11_countFits 103 = .ok (.iinc 4 1, 3) := by decide +kernel
theorem dX11_countFits_106 : decode cX11_countFits 106 = .ok (.aload_n 0, 1) := by decide +kernel
theorem dX11_countFits_107 : decode cX11_countFits 107 = .ok (.getfield 16, 3) := by decide +kernel
theorem dX11_countFits_110 : decode cX11_countFits 110 = .ok (.invokevirtual 167, 3) := by decide +kernel
theorem dX11_countFits_113 : decode cX11_countFits 113 = .ok (.aload_n 0, 1) := by decide +kernel
theorem dX11_countFits_114 : decode cX11_countFits 114 = .ok (.getfield 56, 3) := by decide +kernel
theorem dX11_countFits_117 : decode cX11_countFits 117 = .ok (.invokevirtual 203, 3) := by decide +kernel
theorem dX11_countFits_120 : decode cX11_countFits 120 = .ok (.iinc 5 1, 3) := by decide +kernel
theorem dX11_countFits_123 : decode cX11_countFits 123 = .ok (.goto (-87), 3) := by decide +kernel
theorem dX11_countFits_126 : decode cX11_countFits 126 = .ok (.iload 4, 2) := by decide +kernel
theorem dX11_countFits_128 : decode cX11_countFits 128 = .ok (.ireturn, 1) := by decide +kernel
def KX11_countFits_36 (E : EV) (d : Nat) (rr : Option Value × Mem) (x1 : Int32) (x2 : Int32) (x3 : Int32) (Kp : (Int32 × Mem) → Prop) : ((Int32 × Int32 × Mem) ⊕ (Int32 × Mem)) → Prop
  | .inl q => G E (d + 4) kX11_countFits 36 [some (.ref 0), some (.int x1), some (.int x2), some (.int x3), some (.int q.1), some (.int q.2.1)] [] q.2.2 rr
  | .inr z => Kp z
def jX11_countFits_106 (x1 : Int32) (x2 : Int32) (x3 : Int32) (x4 : Int32) (x5 : Int32) (I : Mem) : Option ((Int32 × Int32 × Mem) ⊕ (Int32 × Mem)) :=
  bnd (fX4_goBack 9 I) fun I_16 =>
  bnd (fX10_step 43 I_16) fun I_18 =>
  some (.inl (x4, (x5 + (1 : Int32)), I_18))
set_option maxRecDepth 20000 in
theorem tX11_countFits_106 (E : EV) (d : Nat) (rr : Option Value × Mem) (x1 : Int32) (x2 : Int32) (x3 : Int32) (x4 : Int32) (x5 : Int32) (I : Mem) (y : ((Int32 × Int32 × Mem) ⊕ (Int32 × Mem))) (hf : jX11_countFits_106 x1 x2 x3 x4 x5 I = some y) (hK : (KX11_countFits_36 E d rr x1 x2 x3 (fun (z : Int32 × Mem) => (some (.int z.1), z.2) = rr)) y) : G E (d + 4) kX11_countFits 106 [some (.ref 0), some (.int x1), some (.int x2), some (.int x3), some (.int x4), some (.int x5)] [] I rr := by
  unfold jX11_countFits_106 at hf
  refine G.aload_n dX11_countFits_106 rfl rfl ?_
  refine G.getR (q := 9) dX11_countFits_107 flX11_16 (by decide) rfl rfl ?_
  obtain ⟨I_16, hc_15, hf⟩ := bnd_at hf
  refine G.callVv (av := []) (rest := []) dX11_countFits_110 mvX11_167 (gX4_goBack E (d + 2) 9 I (by unfold isH; decide) hc_15) (by decide) rfl rfl rfl (Nat.le_of_ble_eq_true rfl) ?_
  refine G.aload_n dX11_countFits_113 rfl rfl ?_
  refine G.getR (q := 43) dX11_countFits_114 flX11_56 (by decide) rfl rfl ?_
  obtain ⟨I_18, hc_17, hf⟩ := bnd_at hf
  refine G.callVv (av := []) (rest := []) dX11_countFits_117 mvX11_203 (gX10_step E (d + 2) 43 I_16 (by unfold isW; decide) hc_17) (by decide) rfl rfl rfl (Nat.le_of_ble_eq_true rfl) ?_
  refine G.inc (w := 1) (L' := [some (.ref 0), some (.int x1), some (.int x2), some (.int x3), some (.int x4), some (.int (x5 + (1 : Int32)))]) dX11_countFits_120 (by decide) rfl (Nat.le_of_ble_eq_true rfl) rfl rfl ?_
  refine G.goto (tgt := 36) dX11_countFits_123 (by decide) ?_
  have hf := Option.some.inj hf
  subst hf
  exact hK
def jX11_countFits_103 (x1 : Int32) (x2 : Int32) (x3 : Int32) (x4 : Int32) (x5 : Int32) (I : Mem) : Option ((Int32 × Int32 × Mem) ⊕ (Int32 × Mem)) :=
  jX11_countFits_106 x1 x2 x3 (x4 + (1 : Int32)) x5 I
set_option maxRecDepth 20000 in
theorem tX11_countFits_103 (E : EV) (d : Nat) (rr : Option Value × Mem) (x1 : Int32) (x2 : Int32) (x3 : Int32) (x4 : Int32) (x5 : Int32) (I : Mem) (y : ((Int32 × Int32 × Mem) ⊕ (Int32 × Mem))) (hf : jX11_countFits_103 x1 x2 x3 x4 x5 I = some y) (hK : (KX11_countFits_36 E d rr x1 x2 x3 (fun (z : Int32 × Mem) => (some (.int z.1), z.2) = rr)) y) : G E (d + 4) kX11_countFits 103 [some (.ref 0), some (.int x1), some (.int x2), some (.int x3), some (.int x4), some (.int x5)] [] I rr := by
  unfold jX11_countFits_103 at hf
  refine G.inc (w := 1) (L' := [some (.ref 0), some (.int x1), some (.int x2), some (.int x3), some (.int (x4 + (1 : Int32))), some (.int x5)]) dX11_countFits_103 (by decide) rfl (Nat.le_of_ble_eq_true rfl) rfl rfl ?_
  exact tX11_countFits_106 E d rr x1 x2 x3 (x4 + (1 : Int32)) x5 I _ hf hK
def bX11_countFits_36 (x1 : Int32) (x2 : Int32) (x3 : Int32) (x4 : Int32) (x5 : Int32) (I : Mem) : Option ((Int32 × Int32 × Mem) ⊕ (Int32 × Mem)) :=
  if x3 ≤ x5 then
  (some (.inr (x4, I)))
  else
  (bnd (fX4_remember 9 I) fun I_7 =>
  chk (inb (I_7 1 4) 5) <|
  bnd (asL (fin 37 (ix (I_7 1 4)))) fun o9_9 =>
  bnd2 (fX4_go 9 (I_7 43 0) o9_9 I_7) fun v_11 I_12 =>
  bnd (fX4_isAsTold 9 I_12) fun v_14 =>
  if v_14 = 0 then
  (jX11_countFits_106 x1 x2 x3 x4 x5 I_12)
  else
  (if x1 = (-1 : Int32) then
  (jX11_countFits_103 x1 x2 x3 x4 x5 I_12)
  else
  (bnd (fX4_isAloneIn 9 x1 x2 I_12) fun v_20 =>
  if v_20 = 0 then
  (jX11_countFits_106 x1 x2 x3 x4 x5 I_12)
  else
  (jX11_countFits_103 x1 x2 x3 x4 x5 I_12))))
def sX11_countFits_36 (x1 : Int32) (x2 : Int32) (x3 : Int32) (q : (Int32 × Int32 × Mem)) : Option ((Int32 × Int32 × Mem) ⊕ (Int32 × Mem)) := bX11_countFits_36 x1 x2 x3 q.1 q.2.1 q.2.2
set_option maxRecDepth 20000 in
theorem wX11_countFits_36 (E : EV) (d : Nat) (rr : Option Value × Mem) (x1 : Int32) (x2 : Int32) (x3 : Int32) (x4 : Int32) (x5 : Int32) (I : Mem) (y : ((Int32 × Int32 × Mem) ⊕ (Int32 × Mem))) (hf : bX11_countFits_36 x1 x2 x3 x4 x5 I = some y) (hK : (KX11_countFits_36 E d rr x1 x2 x3 (fun (z : Int32 × Mem) => (some (.int z.1), z.2) = rr)) y) : G E (d + 4) kX11_countFits 36 [some (.ref 0), some (.int x1), some (.int x2), some (.int x3), some (.int x4), some (.int x5)] [] I rr := by
  unfold bX11_countFits_36 at hf
  refine G.iload dX11_countFits_36 rfl ?_
  refine G.iload_n dX11_countFits_38 rfl rfl ?_
  refine G.icmp_ge (tgt := 126) dX11_countFits_39 (by decide) (fun c_24 => ?_) (fun c_24 => ?_)
  · have hf := ite_t hf c_24
    refine G.iload dX11_countFits_126 rfl ?_
    have hf := Option.some.inj hf
    subst hf
    exact G.iret' dX11_countFits_128 rfl hK
  · have hf := ite_f hf c_24
    refine G.aload_n dX11_countFits_42 rfl rfl ?_
    refine G.getR (q := 9) dX11_countFits_43 flX11_16 (by decide) rfl rfl ?_
    obtain ⟨I_7, hc_6, hf⟩ := bnd_at hf
    refine G.callVv (av := []) (rest := []) dX11_countFits_46 mvX11_157 (gX4_remember E (d + 2) 9 I (by unfold isH; decide) hc_6) (by decide) rfl rfl rfl (Nat.le_of_ble_eq_true rfl) ?_
    refine G.aload_n dX11_countFits_49 rfl rfl ?_
    refine G.getR (q := 9) dX11_countFits_50 flX11_16 (by decide) rfl rfl ?_
    refine G.aload_n dX11_countFits_53 rfl rfl ?_
    refine G.getR (q := 43) dX11_countFits_54 flX11_56 (by decide) rfl rfl ?_
    refine G.getI dX11_countFits_57 flX11_200 (by decide) rfl ?_
    refine G.aload_n dX11_countFits_60 rfl rfl ?_
    refine G.getR (q := 37) dX11_countFits_61 flX11_49 (by decide) rfl rfl ?_
    refine G.aload_n dX11_countFits_64 rfl rfl ?_
    refine G.getR (q := 1) dX11_countFits_65 flX11_10 (by decide) rfl rfl ?_
    refine G.getI dX11_countFits_68 flX11_120 (by decide) rfl ?_
    obtain ⟨hi_8, hf⟩ := chk_at hf
    obtain ⟨o9_9, ho9_9a, hf⟩ := bnd_at hf
    obtain ⟨ho9_9d, ho9_9⟩ := asL_at ho9_9a
    refine G.aaldO (q := o9_9) dX11_countFits_71 (by decide) rfl hi_8 ho9_9d ?_
    obtain ⟨v_11, I_12, hc_10, hf⟩ := bnd2_at hf
    refine G.callVi (av := [.int (I_7 43 0), .ref o9_9]) (rest := []) dX11_countFits_72 mvX11_160 (gX4_go E d 9 (I_7 43 0) o9_9 I_7 (by unfold isH; decide) ho9_9 hc_10) (by decide) rfl rfl rfl (Nat.le_of_ble_eq_true rfl) ?_
    refine G.pop dX11_countFits_75 rfl ?_
    refine G.aload_n dX11_countFits_76 rfl rfl ?_
    refine G.getR (q := 9) dX11_countFits_77 flX11_16 (by decide) rfl rfl ?_
    obtain ⟨v_14, hc_13, hf⟩ := bnd_at hf
    refine G.callVi (av := []) (rest := []) dX11_countFits_80 mvX11_286 (gX4_isAsTold E (d + 3) 9 I_12 (by unfold isH; decide) hc_13) (by decide) rfl rfl rfl (Nat.le_of_ble_eq_true rfl) ?_
    refine G.if_eq (tgt := 106) dX11_countFits_83 (by decide) (fun c_23 => ?_) (fun c_23 => ?_)
    · have hf := ite_t hf c_23
      exact tX11_countFits_106 E d rr x1 x2 x3 x4 x5 I_12 _ hf hK
    · have hf := ite_f hf c_23
      refine G.iload_n dX11_countFits_86 rfl rfl ?_
      refine G.iconst (v := -1) dX11_countFits_87 (by decide) ?_
      refine G.icmp_eq (tgt := 103) dX11_countFits_88 (by decide) (fun c_22 => ?_) (fun c_22 => ?_)
      · have hf := ite_t hf c_22
        exact tX11_countFits_103 E d rr x1 x2 x3 x4 x5 I_12 _ hf hK
      · have hf := ite_f hf c_22
        refine G.aload_n dX11_countFits_91 rfl rfl ?_
        refine G.getR (q := 9) dX11_countFits_92 flX11_16 (by decide) rfl rfl ?_
        refine G.iload_n dX11_countFits_95 rfl rfl ?_
        refine G.iload_n dX11_countFits_96 rfl rfl ?_
        obtain ⟨v_20, hc_19, hf⟩ := bnd_at hf
        refine G.callVi (av := [.int x1, .int x2]) (rest := []) dX11_countFits_97 mvX11_290 (gX4_isAloneIn E (d + 1) 9 x1 x2 I_12 (by unfold isH; decide) hc_19) (by decide) rfl rfl rfl (Nat.le_of_ble_eq_true rfl) ?_
        refine G.if_eq (tgt := 106) dX11_countFits_100 (by decide) (fun c_21 => ?_) (fun c_21 => ?_)
        · have hf := ite_t hf c_21
          exact tX11_countFits_106 E d rr x1 x2 x3 x4 x5 I_12 _ hf hK
        · have hf := ite_f hf c_21
          exact tX11_countFits_103 E d rr x1 x2 x3 x4 x5 I_12 _ hf hK
theorem lX11_countFits_36 (E : EV) (d : Nat) (rr : Option Value × Mem) (x1 : Int32) (x2 : Int32) (x3 : Int32) (z : (Int32 × Mem)) (hK : (fun (z : Int32 × Mem) => (some (.int z.1), z.2) = rr) z) : ∀ (n : Nat) (q : (Int32 × Int32 × Mem)), iter (sX11_countFits_36 x1 x2 x3) n q = some z → G E (d + 4) kX11_countFits 36 [some (.ref 0), some (.int x1), some (.int x2), some (.int x3), some (.int q.1), some (.int q.2.1)] [] q.2.2 rr := by
  intro n
  induction n with
  | zero => intro q h; cases h
  | succ n ih =>
    intro q h
    rcases iter_at h with ⟨q2, hs, h2⟩ | hs
    · exact wX11_countFits_36 E d rr x1 x2 x3 q.1 q.2.1 q.2.2 _ hs (ih q2 h2)
    · exact wX11_countFits_36 E d rr x1 x2 x3 q.1 q.2.1 q.2.2 _ hs hK
def fX11_countFits (x1 : Int32) (x2 : Int32) (I : Mem) : Option (Int32 × Mem) :=
  bnd (fX4_copy 9 1 I) fun I_2 =>
  bnd2 (fX10_onward 43 1 (I_2 1 3) I_2) fun v_4 I_5 =>
  iter (sX11_countFits_36 x1 x2 v_4) FU ((0 : Int32), (0 : Int32), I_5)
set_option maxRecDepth 20000 in
theorem gX11_countFits (E : EV) (d : Nat) (x1 : Int32) (x2 : Int32) (I : Mem) {v : Int32} {J : Mem} (hf : fX11_countFits x1 x2 I = some (v, J)) : Gm E (d + 4) kX11_countFits [.ref 0, .int x1, .int x2] I (some (.int v), J) := by
  refine (fun (y : (Int32 × Mem)) (hf : fX11_countFits x1 x2 I = some y) => (?_ : Gm E (d + 4) kX11_countFits [.ref 0, .int x1, .int x2] I (some (.int y.1), y.2))) (v, J) hf
  refine Gm.of (by decide) rfl (Nat.le_of_ble_eq_true rfl) ?_
  generalize hrr : ((some (.int y.1), y.2) : Option Value × Mem) = rr
  show G E (d + 4) kX11_countFits 0 [some (.ref 0), some (.int x1), some (.int x2), none, none, none] [] I rr
  have hK : (fun (z : Int32 × Mem) => (some (.int z.1), z.2) = rr) y := hrr
  clear hrr
  unfold fX11_countFits at hf
  refine G.aload_n dX11_countFits_0 rfl rfl ?_
  refine G.getR (q := 9) dX11_countFits_1 flX11_16 (by decide) rfl rfl ?_
  refine G.aload_n dX11_countFits_4 rfl rfl ?_
  refine G.getR (q := 1) dX11_countFits_5 flX11_10 (by decide) rfl rfl ?_
  obtain ⟨I_2, hc_1, hf⟩ := bnd_at hf
  refine G.callVv (av := [.ref 1]) (rest := []) dX11_countFits_8 mvX11_144 (gX4_copy E (d + 2) 9 1 I (by unfold isH; decide) (by unfold isH; decide) hc_1) (by decide) rfl rfl rfl (Nat.le_of_ble_eq_true rfl) ?_
  refine G.aload_n dX11_countFits_11 rfl rfl ?_
  refine G.getR (q := 43) dX11_countFits_12 flX11_56 (by decide) rfl rfl ?_
  refine G.aload_n dX11_countFits_15 rfl rfl ?_
  refine G.getR (q := 1) dX11_countFits_16 flX11_10 (by decide) rfl rfl ?_
  refine G.aload_n dX11_countFits_19 rfl rfl ?_
  refine G.getR (q := 1) dX11_countFits_20 flX11_10 (by decide) rfl rfl ?_
  refine G.getI dX11_countFits_23 flX11_151 (by decide) rfl ?_
  obtain ⟨v_4, I_5, hc_3, hf⟩ := bnd2_at hf
  refine G.callVi (av := [.ref 1, .int (I_2 1 3)]) (rest := []) dX11_countFits_26 mvX11_282 (gX10_onward E (d + 1) 43 1 (I_2 1 3) I_2 (by unfold isW; decide) (by unfold isH; decide) hc_3) (by decide) rfl rfl rfl (Nat.le_of_ble_eq_true rfl) ?_
  refine G.istore_n (L' := [some (.ref 0), some (.int x1), some (.int x2), some (.int v_4), none, none]) dX11_countFits_29 rfl (Nat.le_of_ble_eq_true rfl) (Nat.le_of_ble_eq_true rfl) rfl rfl ?_
  refine G.iconst (v := 0) dX11_countFits_30 (by decide) ?_
  refine G.istore (L' := [some (.ref 0), some (.int x1), some (.int x2), some (.int v_4), some (.int (0 : Int32)), none]) dX11_countFits_31 (Nat.le_of_ble_eq_true rfl) (Nat.le_of_ble_eq_true rfl) rfl rfl ?_
  refine G.iconst (v := 0) dX11_countFits_33 (by decide) ?_
  refine G.istore (L' := [some (.ref 0), some (.int x1), some (.int x2), some (.int v_4), some (.int (0 : Int32)), some (.int (0 : Int32))]) dX11_countFits_34 (Nat.le_of_ble_eq_true rfl) (Nat.le_of_ble_eq_true rfl) rfl rfl ?_
  exact lX11_countFits_36 E d rr x1 x2 v_4 _ hK FU _ hf
theorem dX11_fits_0 : decode cX11_fits 0 = .ok (.aload_n 0, 1) := by decide +kernel
theorem dX11_fits_1 : decode cX11_fits 1 = .ok (.iconst (-1), 1) := by decide +kernel
theorem dX11_fits_2 : decode cX11_fits 2 = .ok (.iconst (-1), 1) := by decide +kernel
theorem dX11_fits_3 : decode cX11_fits 3 = .ok (.invokevirtual 226, 3) := by decide +kernel
theorem dX11_fits_6 : decode cX11_fits 6 = .ok (.ireturn, 1) := by decide +kernel
def fX11_fits (I : Mem) : Option (Int32 × Mem) :=
  bnd2 (fX11_countFits (-1 : Int32) (-1 : Int32) I) fun v_2 I_3 =>
  some (v_2, I_3)
set_option maxRecDepth 20000 in
theorem gX11_fits (E : EV) (d : Nat) (I : Mem) {v : Int32} {J : Mem} (hf : fX11_fits I = some (v, J)) : Gm E (d + 5) kX11_fits [.ref 0] I (some (.int v), J) := by
  refine (fun (y : (Int32 × Mem)) (hf : fX11_fits I = some y) => (?_ : Gm E (d + 5) kX11_fits [.ref 0] I (some (.int y.1), y.2))) (v, J) hf
  refine Gm.of (by decide) rfl (Nat.le_of_ble_eq_true rfl) ?_
  generalize hrr : ((some (.int y.1), y.2) : Option Value × Mem) = rr
  show G E (d + 5) kX11_fits 0 [some (.ref 0)] [] I rr
  have hK : (fun (z : Int32 × Mem) => (some (.int z.1), z.2) = rr) y := hrr
  clear hrr
  unfold fX11_fits at hf
  refine G.aload_n dX11_fits_0 rfl rfl ?_
  refine G.iconst (v := -1) dX11_fits_1 (by decide) ?_
  refine G.iconst (v := -1) dX11_fits_2 (by decide) ?_
  obtain ⟨v_2, I_3, hc_1, hf⟩ := bnd2_at hf
  refine G.callVi (av := [.int (-1 : Int32), .int (-1 : Int32)]) (rest := []) dX11_fits_3 mvX11_226 (gX11_countFits E d (-1 : Int32) (-1 : Int32) I hc_1) (by decide) rfl rfl rfl (Nat.le_of_ble_eq_true rfl) ?_
  have hf := Option.some.inj hf
  subst hf
  exact G.iret' dX11_fits_6 rfl hK
theorem dX11_was_0 : decode cX11_was 0 = .ok (.aload_n 0, 1) := by decide +kernel
theorem dX11_was_1 : decode cX11_was 1 = .ok (.iload_n 1, 1) := by decide +kernel
theorem dX11_was_2 : decode cX11_was 2 = .ok (.invokevirtual 123, 3) := by decide +kernel
theorem dX11_was_5 : decode cX11_was 5 = .ok (.ifCond .eq 11, 3) := by decide +kernel
theorem dX11_was_8 : decode cX11_was 8 = .ok (.aload_n 0, 1) := by decide +kernel
theorem dX11_was_9 : decode cX11_was 9 = .ok (.iload_n 2, 1) := by decide +kernel
theorem dX11_was_10 : decode cX11_was 10 = .ok (.invokevirtual 93, 3) := by decide +kernel
theorem dX11_was_13 : decode cX11_was 13 = .ok (.ifCond .ne 10, 3) := by decide +kernel
theorem dX11_was_16 : decode cX11_was 16 = .ok (.aload_n 0, 1) := by decide +kernel
theorem dX11_was_17 : decode cX11_was 17 = .ok (.bipush (-2), 2) := by decide +kernel
theorem dX11_was_19 : decode cX11_was 19 = .ok (.invokevirtual 81, 3) := by decide +kernel
theorem dX11_was_22 : decode cX11_was 22 = .ok (.ireturn, 1) := by decide +kernel
theorem dX11_was_23 : decode cX11_was 23 = .ok (.aload_n 0, 1) := by decide +kernel
theorem dX11_was_24 : decode cX11_was 24 = .ok (.iload_n 1, 1) := by decide +kernel
theorem dX11_was_25 : decode cX11_was 25 = .ok (.iload_n 2, 1) := by decide +kernel
theorem dX11_was_26 : decode cX11_was 26 = .ok (.invokevirtual 226, 3) := by decide +kernel
theorem dX11_was_29 : decode cX11_was 29 = .ok (.ireturn, 1) := by decide +kernel
def jX11_was_16 (I : Mem) : Option (Int32 × Mem) :=
  bnd2 (fX11_refuse (-2 : Int32) I) fun v_4 I_5 =>
  some (v_4, I_5)
set_option maxRecDepth 20000 in
theorem tX11_was_16 (E : EV) (d : Nat) (rr : Option Value × Mem) (I : Mem) (y : (Int32 × Mem)) (hf : jX11_was_16 I = some y) (hK : (fun (z : Int32 × Mem) => (some (.int z.1), z.2) = rr) y) : G E (d + 5) kX11_was 16 [some (.ref 0), none, none] [] I rr := by
  unfold jX11_was_16 at hf
  refine G.aload_n dX11_was_16 rfl rfl ?_
  refine G.bipush (v := -2) dX11_was_17 (by decide) ?_
  obtain ⟨v_4, I_5, hc_3, hf⟩ := bnd2_at hf
  refine G.callVi (av := [.int (-2 : Int32)]) (rest := []) dX11_was_19 mvX11_81 (gX11_refuse E (d + 4) (-2 : Int32) I hc_3) (by decide) rfl rfl rfl (Nat.le_of_ble_eq_true rfl) ?_
  have hf := Option.some.inj hf
  subst hf
  exact G.iret' dX11_was_22 rfl hK
def fX11_was (x1 : Int32) (x2 : Int32) (I : Mem) : Option (Int32 × Mem) :=
  bnd (fX11_isPerson x1 I) fun v_2 =>
  if v_2 = 0 then
  (jX11_was_16 I)
  else
  (bnd (fX11_isRoom x2 I) fun v_7 =>
  if v_7 = 0 then
  (jX11_was_16 I)
  else
  (bnd2 (fX11_countFits x1 x2 I) fun v_9 I_10 =>
  some (v_9, I_10)))
set_option maxRecDepth 20000 in
theorem gX11_was (E : EV) (d : Nat) (x1 : Int32) (x2 : Int32) (I : Mem) {v : Int32} {J : Mem} (hf : fX11_was x1 x2 I = some (v, J)) : Gm E (d + 5) kX11_was [.ref 0, .int x1, .int x2] I (some (.int v), J) := by
  refine (fun (y : (Int32 × Mem)) (hf : fX11_was x1 x2 I = some y) => (?_ : Gm E (d + 5) kX11_was [.ref 0, .int x1, .int x2] I (some (.int y.1), y.2))) (v, J) hf
  refine Gm.of (by decide) rfl (Nat.le_of_ble_eq_true rfl) ?_
  generalize hrr : ((some (.int y.1), y.2) : Option Value × Mem) = rr
  show G E (d + 5) kX11_was 0 [some (.ref 0), some (.int x1), some (.int x2)] [] I rr
  have hK : (fun (z : Int32 × Mem) => (some (.int z.1), z.2) = rr) y := hrr
  clear hrr
  unfold fX11_was at hf
  refine G.aload_n dX11_was_0 rfl rfl ?_
  refine G.iload_n dX11_was_1 rfl rfl ?_
  obtain ⟨v_2, hc_1, hf⟩ := bnd_at hf
  refine G.callVi (av := [.int x1]) (rest := []) dX11_was_2 mvX11_123 (gX11_isPerson E (d + 4) x1 I hc_1) (by decide) rfl rfl rfl (Nat.le_of_ble_eq_true rfl) ?_
  refine G.if_eq (tgt := 16) dX11_was_5 (by decide) (fun c_12 => ?_) (fun c_12 => ?_)
  · have hf := ite_t hf c_12
    refine G.forget (L' := [some (.ref 0), none, none]) [1, 2] rfl ?_
    exact tX11_was_16 E d rr I _ hf hK
  · have hf := ite_f hf c_12
    refine G.aload_n dX11_was_8 rfl rfl ?_
    refine G.iload_n dX11_was_9 rfl rfl ?_
    obtain ⟨v_7, hc_6, hf⟩ := bnd_at hf
    refine G.callVi (av := [.int x2]) (rest := []) dX11_was_10 mvX11_93 (gX11_isRoom E (d + 4) x2 I hc_6) (by decide) rfl rfl rfl (Nat.le_of_ble_eq_true rfl) ?_
    refine G.if_ne (tgt := 23) dX11_was_13 (by decide) (fun c_11 => ?_) (fun c_11 => ?_)
    · have hf := ite_f hf c_11
      refine G.aload_n dX11_was_23 rfl rfl ?_
      refine G.iload_n dX11_was_24 rfl rfl ?_
      refine G.iload_n dX11_was_25 rfl rfl ?_
      obtain ⟨v_9, I_10, hc_8, hf⟩ := bnd2_at hf
      refine G.callVi (av := [.int x1, .int x2]) (rest := []) dX11_was_26 mvX11_226 (gX11_countFits E d x1 x2 I hc_8) (by decide) rfl rfl rfl (Nat.le_of_ble_eq_true rfl) ?_
      have hf := Option.some.inj hf
      subst hf
      exact G.iret' dX11_was_29 rfl hK
    · have hf := ite_t hf c_11
      refine G.forget (L' := [some (.ref 0), none, none]) [1, 2] rfl ?_
      exact tX11_was_16 E d rr I _ hf hK
theorem dX11_rent_0 : decode cX11_rent 0 = .ok (.iload_n 1, 1) := by decide +kernel
theorem dX11_rent_1 : decode cX11_rent 1 = .ok (.ifCond .lt 18, 3) := by decide +kernel
theorem dX11_rent_4 : decode cX11_rent 4 = .ok (.iload_n 1, 1) := by decide +kernel
theorem dX11_rent_5 : decode cX11_rent 5 = .ok (.bipush 99, 2) := by decide +kernel
theorem dX11_rent_7 : decode cX11_rent 7 = .ok (.if_icmp .gt 12, 3) := by decide +kernel
theorem dX11_rent_10 : decode cX11_rent 10 = .ok (.iload_n 2, 1) := by decide +kernel
theorem dX11_rent_11 : decode cX11_rent 11 = .ok (.ifCond .lt 8, 3) := by decide +kernel
theorem dX11_rent_14 : decode cX11_rent 14 = .ok (.iload_n 2, 1) := by decide +kernel
theorem dX11_rent_15 : decode cX11_rent 15 = .ok (.iconst 1, 1) := by decide +kernel
theorem dX11_rent_16 : decode cX11_rent 16 = .ok (.if_icmp .le 10, 3) := by decide +kernel
theorem dX11_rent_19 : decode cX11_rent 19 = .ok (.aload_n 0, 1) := by decide +kernel
theorem dX11_rent_20 : decode cX11_rent 20 = .ok (.bipush (-2), 2) := by decide +kernel
theorem dX11_rent_22 : decode cX11_rent 22 = .ok (.invokevirtual 81, 3) := by decide +kernel
theorem dX11_rent_25 : decode cX11_rent 25 = .ok (.ireturn, 1) := by decide +kernel
theorem dX11_rent_26 : decode cX11_rent 26 = .ok (.aload_n 0, 1) := by decide +kernel
theorem dX11_rent_27 : decode cX11_rent 27 = .ok (.getfield 49, 3) := by decide +kernel
theorem dX11_rent_30 : decode cX11_rent 30 = .ok (.aload_n 0, 1) := by decide +kernel
theorem dX11_rent_31 : decode cX11_rent 31 = .ok (.getfield 10, 3) := by decide +kernel
theorem dX11_rent_34 : decode cX11_rent 34 = .ok (.getfield 120, 3) := by decide +kernel
theorem dX11_rent_37 : decode cX11_rent 37 = .ok (.aaload, 1) := by decide +kernel
theorem dX11_rent_38 : decode cX11_rent 38 = .ok (.astore_n 3, 1) := by decide +kernel
theorem dX11_rent_39 : decode cX11_rent 39 = .ok (.iconst 0, 1) := by decide +kernel
theorem dX11_rent_40 : decode cX11_rent 40 = .ok (.istore 4, 2) := by decide +kernel
theorem dX11_rent_42 : decode cX11_rent 42 = .ok (.iconst 1, 1) := by decide +kernel
theorem dX11_rent_43 : decode cX11_rent 43 = .ok (.istore 5, 2) := by decide +kernel
theorem dX11_rent_45 : decode cX11_rent 45 = .ok (.iload 5, 2) := by decide +kernel
theorem dX11_rent_47 : decode cX11_rent 47 = .ok (.iload_n 1, 1) := by decide +kernel
theorem dX11_rent_48 : decode cX11_rent 48 = .ok (.if_icmp .gt 46, 3) := by decide +kernel
theorem dX11_rent_51 : decode cX11_rent 51 = .ok (.aload_n 3, 1) := by decide +kernel
theorem dX11_rent_52 : decode cX11_rent 52 = .ok (.iconst 1, 1) := by decide +kernel
theorem dX11_rent_53 : decode cX11_rent 53 = .ok (.iload 5, 2) := by decide +kernel
theorem dX11_rent_55 : decode cX11_rent 55 = .ok (.iconst 1, 1) := by decide +kernel
theorem dX11_rent_56 : decode cX11_rent 56 = .ok (.if_icmp .gt 8, 3) := by decide +kernel
theorem dX11_rent_59 : decode cX11_rent 59 = .ok (.iload_n 2, 1) := by decide +kernel
theorem dX11_rent_60 : decode cX11_rent 60 = .ok (.iconst 1, 1) := by decide +kernel
theorem dX11_rent_61 : decode cX11_rent 61 = .ok (.if_icmp .ne 7, 3) := by decide +kernel
theorem dX11_rent_64 : decode cX11_rent 64 = .ok (.iconst 1, 1) := by decide +kernel
theorem dX11_rent_65 : decode cX11_rent 65 = .ok (.goto 4, 3) := by decide +kernel
theorem dX11_rent_68 : decode cX11_rent 68 = .ok (.iconst 0, 1) := by decide +kernel
theorem dX11_rent_69 : decode cX11_rent 69 = .ok (.aload_n 0, 1) := by decide +kernel
theorem dX11_rent_70 : decode cX11_rent 70 = .ok (.getfield 10, 3) := by decide +kernel
theorem dX11_rent_73 : decode cX11_rent 73 = .ok (.getfield 229, 3) := by decide +kernel
theorem dX11_rent_76 : decode cX11_rent 76 = .ok (.iload 5, 2) := by decide +kernel
theorem dX11_rent_78 : decode cX11_rent 78 = .ok (.iadd, 1) := by decide +kernel
theorem dX11_rent_79 : decode cX11_rent 79 = .ok (.invokevirtual 232, 3) := by decide +kernel
theorem dX11_rent_82 : decode cX11_rent 82 = .ok (.ifCond .eq 6, 3) := by decide +kernel
theorem dX11_rent_85 : decode cX11_rent 85 = .ok (.iinc 4 1, 3) := by decide +kernel
theorem dX11_rent_88 : decode cX11_rent 88 = .ok (.iinc 5 1, 3) := by decide +kernel
theorem dX11_rent_91 : decode cX11_rent 91 = .ok (.goto (-46), 3) := by decide +kernel
theorem dX11_rent_94 : decode cX11_rent 94 = .ok (.iload 4, 2) := by decide +kernel
theorem dX11_rent_96 : decode cX11_rent 96 = .ok (.ireturn, 1) := by decide +kernel
def jX11_rent_19 (I : Mem) : Option (Int32 × Mem) :=
  bnd2 (fX11_refuse (-2 : Int32) I) fun v_2 I_3 =>
  some (v_2, I_3)
set_option maxRecDepth 20000 in
theorem tX11_rent_19 (E : EV) (d : Nat) (rr : Option Value × Mem) (I : Mem) (y : (Int32 × Mem)) (hf : jX11_rent_19 I = some y) (hK : (fun (z : Int32 × Mem) => (some (.int z.1), z.2) = rr) y) : G E (d + 2) kX11_rent 19 [some (.ref 0), none, none, none, none, none] [] I rr := by
  unfold jX11_rent_19 at hf
  refine G.aload_n dX11_rent_19 rfl rfl ?_
  refine G.bipush (v := -2) dX11_rent_20 (by decide) ?_
  obtain ⟨v_2, I_3, hc_1, hf⟩ := bnd2_at hf
  refine G.callVi (av := [.int (-2 : Int32)]) (rest := []) dX11_rent_22 mvX11_81 (gX11_refuse E (d + 1) (-2 : Int32) I hc_1) (by decide) rfl rfl rfl (Nat.le_of_ble_eq_true rfl) ?_
  have hf := Option.some.inj hf
  subst hf
  exact G.iret' dX11_rent_25 rfl hK
def KX11_rent_45 (E : EV) (d : Nat) (rr : Option Value × Mem) (o9_5 : Nat) (x1 : Int32) (x2 : Int32) (I : Mem) (Kp : (Int32 × Mem) → Prop) : ((Int32 × Int32) ⊕ (Int32 × Mem)) → Prop
  | .inl q => G E (d + 2) kX11_rent 45 [some (.ref 0), some (.int x1), some (.int x2), some (.ref o9_5), some (.int q.1), some (.int q.2)] [] I rr
  | .inr z => Kp z
def jX11_rent_69 (o9_5 : Nat) (x1 : Int32) (x2 : Int32) (x4 : Int32) (x5 : Int32) (u0 : Int32) (u1 : Int32) (I : Mem) : Option ((Int32 × Int32) ⊕ (Int32 × Mem)) :=
  bnd (fD_lays o9_5 u1 u0 ((I 1 5) + x5) I) fun v_6 =>
  if v_6 = 0 then
  (some (.inl (x4, (x5 + (1 : Int32)))))
  else
  (some (.inl ((x4 + (1 : Int32)), (x5 + (1 : Int32)))))
set_option maxRecDepth 20000 in
theorem tX11_rent_69 (E : EV) (d : Nat) (rr : Option Value × Mem) (o9_5 : Nat) (x1 : Int32) (x2 : Int32) (x4 : Int32) (x5 : Int32) (u0 : Int32) (u1 : Int32) (I : Mem) (ho9_5 : isL o9_5) (y : ((Int32 × Int32) ⊕ (Int32 × Mem))) (hf : jX11_rent_69 o9_5 x1 x2 x4 x5 u0 u1 I = some y) (hK : (KX11_rent_45 E d rr o9_5 x1 x2 I (fun (z : Int32 × Mem) => (some (.int z.1), z.2) = rr)) y) : G E (d + 2) kX11_rent 69 [some (.ref 0), some (.int x1), some (.int x2), some (.ref o9_5), some (.int x4), some (.int x5)] [.int u0, .int u1, .ref o9_5] I rr := by
  unfold jX11_rent_69 at hf
  refine G.aload_n dX11_rent_69 rfl rfl ?_
  refine G.getR (q := 1) dX11_rent_70 flX11_10 (by decide) rfl rfl ?_
  refine G.getI dX11_rent_73 flX11_229 (by decide) rfl ?_
  refine G.iload dX11_rent_76 rfl ?_
  refine G.iadd dX11_rent_78 ?_
  obtain ⟨v_6, hc_7, hf⟩ := bnd_at hf
  refine vLX11_232 (rest := []) dX11_rent_79 ho9_5 hc_7 (Nat.le_of_ble_eq_true rfl) rfl ?_
  refine G.if_eq (tgt := 88) dX11_rent_82 (by decide) (fun c_8 => ?_) (fun c_8 => ?_)
  · have hf := ite_t hf c_8
    refine G.inc (w := 1) (L' := [some (.ref 0), some (.int x1), some (.int x2), some (.ref o9_5), some (.int x4), some (.int (x5 + (1 : Int32)))]) dX11_rent_88 (by decide) rfl (Nat.le_of_ble_eq_true rfl) rfl rfl ?_
    refine G.goto (tgt := 45) dX11_rent_91 (by decide) ?_
    have hf := Option.some.inj hf
    subst hf
    exact hK
  · have hf := ite_f hf c_8
    refine G.inc (w := 1) (L' := [some (.ref 0), some (.int x1), some (.int x2), some (.ref o9_5), some (.int (x4 + (1 : Int32))), some (.int x5)]) dX11_rent_85 (by decide) rfl (Nat.le_of_ble_eq_true rfl) rfl rfl ?_
    refine G.inc (w := 1) (L' := [some (.ref 0), some (.int x1), some (.int x2), some (.ref o9_5), some (.int (x4 + (1 : Int32))), some (.int (x5 + (1 : Int32)))]) dX11_rent_88 (by decide) rfl (Nat.le_of_ble_eq_true rfl) rfl rfl ?_
    refine G.goto (tgt := 45) dX11_rent_91 (by decide) ?_
    have hf := Option.some.inj hf
    subst hf
    exact hK
def jX11_rent_64 (o9_5 : Nat) (x1 : Int32) (x2 : Int32) (x4 : Int32) (x5 : Int32) (u0 : Int32) (I : Mem) : Option ((Int32 × Int32) ⊕ (Int32 × Mem)) :=
  jX11_rent_69 o9_5 x1 x2 x4 x5 (1 : Int32) u0 I
set_option maxRecDepth 20000 in
theorem tX11_rent_64 (E : EV) (d : Nat) (rr : Option Value × Mem) (o9_5 : Nat) (x1 : Int32) (x2 : Int32) (x4 : Int32) (x5 : Int32) (u0 : Int32) (I : Mem) (ho9_5 : isL o9_5) (y : ((Int32 × Int32) ⊕ (Int32 × Mem))) (hf : jX11_rent_64 o9_5 x1 x2 x4 x5 u0 I = some y) (hK : (KX11_rent_45 E d rr o9_5 x1 x2 I (fun (z : Int32 × Mem) => (some (.int z.1), z.2) = rr)) y) : G E (d + 2) kX11_rent 64 [some (.ref 0), some (.int x1), some (.int x2), some (.ref o9_5), some (.int x4), some (.int x5)] [.int u0, .ref o9_5] I rr := by
  unfold jX11_rent_64 at hf
  refine G.iconst (v := 1) dX11_rent_64 (by decide) ?_
  refine G.goto (tgt := 69) dX11_rent_65 (by decide) ?_
  exact tX11_rent_69 E d rr o9_5 x1 x2 x4 x5 (1 : Int32) u0 I ho9_5 _ hf hK
def bX11_rent_45 (o9_5 : Nat) (x1 : Int32) (x2 : Int32) (I : Mem) (x4 : Int32) (x5 : Int32) : Option ((Int32 × Int32) ⊕ (Int32 × Mem)) :=
  if x1 < x5 then
  (some (.inr (x4, I)))
  else
  (if (1 : Int32) < x5 then
  (jX11_rent_64 o9_5 x1 x2 x4 x5 (1 : Int32) I)
  else
  (if x2 = (1 : Int32) then
  (jX11_rent_64 o9_5 x1 x2 x4 x5 (1 : Int32) I)
  else
  (jX11_rent_69 o9_5 x1 x2 x4 x5 (0 : Int32) (1 : Int32) I)))
def sX11_rent_45 (o9_5 : Nat) (x1 : Int32) (x2 : Int32) (I : Mem) (q : (Int32 × Int32)) : Option ((Int32 × Int32) ⊕ (Int32 × Mem)) := bX11_rent_45 o9_5 x1 x2 I q.1 q.2
set_option maxRecDepth 20000 in
theorem wX11_rent_45 (E : EV) (d : Nat) (rr : Option Value × Mem) (o9_5 : Nat) (x1 : Int32) (x2 : Int32) (I : Mem) (x4 : Int32) (x5 : Int32) (ho9_5 : isL o9_5) (y : ((Int32 × Int32) ⊕ (Int32 × Mem))) (hf : bX11_rent_45 o9_5 x1 x2 I x4 x5 = some y) (hK : (KX11_rent_45 E d rr o9_5 x1 x2 I (fun (z : Int32 × Mem) => (some (.int z.1), z.2) = rr)) y) : G E (d + 2) kX11_rent 45 [some (.ref 0), some (.int x1), some (.int x2), some (.ref o9_5), some (.int x4), some (.int x5)] [] I rr := by
  unfold bX11_rent_45 at hf
  refine G.iload dX11_rent_45 rfl ?_
  refine G.iload_n dX11_rent_47 rfl rfl ?_
  refine G.icmp_gt (tgt := 94) dX11_rent_48 (by decide) (fun c_11 => ?_) (fun c_11 => ?_)
  · have hf := ite_t hf c_11
    refine G.iload dX11_rent_94 rfl ?_
    have hf := Option.some.inj hf
    subst hf
    exact G.iret' dX11_rent_96 rfl hK
  · have hf := ite_f hf c_11
    refine G.aload_n dX11_rent_51 rfl rfl ?_
    refine G.iconst (v := 1) dX11_rent_52 (by decide) ?_
    refine G.iload dX11_rent_53 rfl ?_
    refine G.iconst (v := 1) dX11_rent_55 (by decide) ?_
    refine G.icmp_gt (tgt := 64) dX11_rent_56 (by decide) (fun c_10 => ?_) (fun c_10 => ?_)
    · have hf := ite_t hf c_10
      exact tX11_rent_64 E d rr o9_5 x1 x2 x4 x5 (1 : Int32) I ho9_5 _ hf hK
    · have hf := ite_f hf c_10
      refine G.iload_n dX11_rent_59 rfl rfl ?_
      refine G.iconst (v := 1) dX11_rent_60 (by decide) ?_
      refine G.icmp_ne (tgt := 68) dX11_rent_61 (by decide) (fun c_9 => ?_) (fun c_9 => ?_)
      · have hf := ite_f hf c_9
        refine G.iconst (v := 0) dX11_rent_68 (by decide) ?_
        exact tX11_rent_69 E d rr o9_5 x1 x2 x4 x5 (0 : Int32) (1 : Int32) I ho9_5 _ hf hK
      · have hf := ite_t hf c_9
        exact tX11_rent_64 E d rr o9_5 x1 x2 x4 x5 (1 : Int32) I ho9_5 _ hf hK
theorem lX11_rent_45 (E : EV) (d : Nat) (rr : Option Value × Mem) (o9_5 : Nat) (x1 : Int32) (x2 : Int32) (I : Mem) (ho9_5 : isL o9_5) (z : (Int32 × Mem)) (hK : (fun (z : Int32 × Mem) => (some (.int z.1), z.2) = rr) z) : ∀ (n : Nat) (q : (Int32 × Int32)), iter (sX11_rent_45 o9_5 x1 x2 I) n q = some z → G E (d + 2) kX11_rent 45 [some (.ref 0), some (.int x1), some (.int x2), some (.ref o9_5), some (.int q.1), some (.int q.2)] [] I rr := by
  intro n
  induction n with
  | zero => intro q h; cases h
  | succ n ih =>
    intro q h
    rcases iter_at h with ⟨q2, hs, h2⟩ | hs
    · exact wX11_rent_45 E d rr o9_5 x1 x2 I q.1 q.2 ho9_5 _ hs (ih q2 h2)
    · exact wX11_rent_45 E d rr o9_5 x1 x2 I q.1 q.2 ho9_5 _ hs hK
def fX11_rent (x1 : Int32) (x2 : Int32) (I : Mem) : Option (Int32 × Mem) :=
  if x1 < 0 then
  (jX11_rent_19 I)
  else
  (if (99 : Int32) < x1 then
  (jX11_rent_19 I)
  else
  (if x2 < 0 then
  (jX11_rent_19 I)
  else
  (if x2 ≤ (1 : Int32) then
  (chk (inb (I 1 4) 5) <|
  bnd (asL (fin 37 (ix (I 1 4)))) fun o9_5 =>
  iter (sX11_rent_45 o9_5 x1 x2 I) FU ((0 : Int32), (1 : Int32)))
  else
  (jX11_rent_19 I))))
set_option maxRecDepth 20000 in
theorem gX11_rent (E : EV) (d : Nat) (x1 : Int32) (x2 : Int32) (I : Mem) {v : Int32} {J : Mem} (hf : fX11_rent x1 x2 I = some (v, J)) : Gm E (d + 2) kX11_rent [.ref 0, .int x1, .int x2] I (some (.int v), J) := by
  refine (fun (y : (Int32 × Mem)) (hf : fX11_rent x1 x2 I = some y) => (?_ : Gm E (d + 2) kX11_rent [.ref 0, .int x1, .int x2] I (some (.int y.1), y.2))) (v, J) hf
  refine Gm.of (by decide) rfl (Nat.le_of_ble_eq_true rfl) ?_
  generalize hrr : ((some (.int y.1), y.2) : Option Value × Mem) = rr
  show G E (d + 2) kX11_rent 0 [some (.ref 0), some (.int x1), some (.int x2), none, none, none] [] I rr
  have hK : (fun (z : Int32 × Mem) => (some (.int z.1), z.2) = rr) y := hrr
  clear hrr
  unfold fX11_rent at hf
  refine G.iload_n dX11_rent_0 rfl rfl ?_
  refine G.if_lt (tgt := 19) dX11_rent_1 (by decide) (fun c_15 => ?_) (fun c_15 => ?_)
  · have hf := ite_t hf c_15
    refine G.forget (L' := [some (.ref 0), none, none, none, none, none]) [1, 2] rfl ?_
    exact tX11_rent_19 E d rr I _ hf hK
  · have hf := ite_f hf c_15
    refine G.iload_n dX11_rent_4 rfl rfl ?_
    refine G.bipush (v := 99) dX11_rent_5 (by decide) ?_
    refine G.icmp_gt (tgt := 19) dX11_rent_7 (by decide) (fun c_14 => ?_) (fun c_14 => ?_)
    · have hf := ite_t hf c_14
      refine G.forget (L' := [some (.ref 0), none, none, none, none, none]) [1, 2] rfl ?_
      exact tX11_rent_19 E d rr I _ hf hK
    · have hf := ite_f hf c_14
      refine G.iload_n dX11_rent_10 rfl rfl ?_
      refine G.if_lt (tgt := 19) dX11_rent_11 (by decide) (fun c_13 => ?_) (fun c_13 => ?_)
      · have hf := ite_t hf c_13
        refine G.forget (L' := [some (.ref 0), none, none, none, none, none]) [1, 2] rfl ?_
        exact tX11_rent_19 E d rr I _ hf hK
      · have hf := ite_f hf c_13
        refine G.iload_n dX11_rent_14 rfl rfl ?_
        refine G.iconst (v := 1) dX11_rent_15 (by decide) ?_
        refine G.icmp_le (tgt := 26) dX11_rent_16 (by decide) (fun c_12 => ?_) (fun c_12 => ?_)
        · have hf := ite_t hf c_12
          refine G.aload_n dX11_rent_26 rfl rfl ?_
          refine G.getR (q := 37) dX11_rent_27 flX11_49 (by decide) rfl rfl ?_
          refine G.aload_n dX11_rent_30 rfl rfl ?_
          refine G.getR (q := 1) dX11_rent_31 flX11_10 (by decide) rfl rfl ?_
          refine G.getI dX11_rent_34 flX11_120 (by decide) rfl ?_
          obtain ⟨hi_4, hf⟩ := chk_at hf
          obtain ⟨o9_5, ho9_5a, hf⟩ := bnd_at hf
          obtain ⟨ho9_5d, ho9_5⟩ := asL_at ho9_5a
          refine G.aaldO (q := o9_5) dX11_rent_37 (by decide) rfl hi_4 ho9_5d ?_
          refine G.astore_n (L' := [some (.ref 0), some (.int x1), some (.int x2), some (.ref o9_5), none, none]) dX11_rent_38 rfl (Nat.le_of_ble_eq_true rfl) (Nat.le_of_ble_eq_true rfl) rfl rfl ?_
          refine G.iconst (v := 0) dX11_rent_39 (by decide) ?_
          refine G.istore (L' := [some (.ref 0), some (.int x1), some (.int x2), some (.ref o9_5), some (.int (0 : Int32)), none]) dX11_rent_40 (Nat.le_of_ble_eq_true rfl) (Nat.le_of_ble_eq_true rfl) rfl rfl ?_
          refine G.iconst (v := 1) dX11_rent_42 (by decide) ?_
          refine G.istore (L' := [some (.ref 0), some (.int x1), some (.int x2), some (.ref o9_5), some (.int (0 : Int32)), some (.int (1 : Int32))]) dX11_rent_43 (Nat.le_of_ble_eq_true rfl) (Nat.le_of_ble_eq_true rfl) rfl rfl ?_
          exact lX11_rent_45 E d rr o9_5 x1 x2 I ho9_5 _ hK FU _ hf
        · have hf := ite_f hf c_12
          refine G.forget (L' := [some (.ref 0), none, none, none, none, none]) [1, 2] rfl ?_
          exact tX11_rent_19 E d rr I _ hf hK
theorem dX11_drawn_0 : decode cX11_drawn 0 = .ok (.iload_n 1, 1) := by decide +kernel
theorem dX11_drawn_1 : decode cX11_drawn 1 = .ok (.ifCond .lt 28, 3) := by decide +kernel
theorem dX11_drawn_4 : decode cX11_drawn 4 = .ok (.iload_n 1, 1) := by decide +kernel
theorem dX11_drawn_5 : decode cX11_drawn 5 = .ok (.ldc 236, 2) := by decide +kernel
theorem dX11_drawn_7 : decode cX11_drawn 7 = .ok (.if_icmp .gt 22, 3) := by decide +kernel
theorem dX11_drawn_10 : decode cX11_drawn 10 = .ok (.iload_n 2, 1) := by decide +kernel
theorem dX11_drawn_11 : decode cX11_drawn 11 = .ok (.ifCond .lt 18, 3) := by decide +kernel
theorem dX11_drawn_14 : decode cX11_drawn 14 = .ok (.iload_n 2, 1) := by decide +kernel
theorem dX11_drawn_15 : decode cX11_drawn 15 = .ok (.bipush 20, 2) := by decide +kernel
theorem dX11_drawn_17 : decode cX11_drawn 17 = .ok (.if_icmp .gt 12, 3) := by decide +kernel
theorem dX11_drawn_20 : decode cX11_drawn 20 = .ok (.iload_n 3, 1) := by decide +kernel
theorem dX11_drawn_21 : decode cX11_drawn 21 = .ok (.ifCond .lt 8, 3) := by decide +kernel
theorem dX11_drawn_24 : decode cX11_drawn 24 = .ok (.iload_n 3, 1) := by decide +kernel
theorem dX11_drawn_25 : decode cX11_drawn 25 = .ok (.iconst 1, 1) := by decide +kernel
theorem dX11_drawn_26 : decode cX11_drawn 26 = .ok (.if_icmp .le 10, 3) := by decide +kernel
theorem dX11_drawn_29 : decode cX11_drawn 29 = .ok (.aload_n 0, 1) := by decide +kernel
theorem dX11_drawn_30 : decode cX11_drawn 30 = .ok (.bipush (-2), 2) := by decide +kernel
theorem dX11_drawn_32 : decode cX11_drawn 32 = .ok (.invokevirtual 81, 3) := by decide +kernel
theorem dX11_drawn_35 : decode cX11_drawn 35 = .ok (.ireturn, 1) := by decide +kernel
theorem dX11_drawn_36 : decode cX11_drawn 36 = .ok (.aload_n 0, 1) := by decide +kernel
theorem dX11_drawn_37 : decode cX11_drawn 37 = .ok (.getfield 16, 3) := by decide +kernel
theorem dX11_drawn_40 : decode cX11_drawn 40 = .ok (.aload_n 0, 1) := by decide +kernel
theorem dX11_drawn_41 : decode cX11_drawn 41 = .ok (.getfield 10, 3) := by decide +kernel
theorem dX11_drawn_44 : decode cX11_drawn 44 = .ok (.invokevirtual 144, 3) := by decide +kernel
theorem dX11_drawn_47 : decode cX11_drawn 47 = .ok (.iload_n 1, 1) := by decide +kernel
theorem dX11_drawn_48 : decode cX11_drawn 48 = .ok (.i2l, 1) := by decide +kernel
theorem dX11_drawn_49 : decode cX11_drawn 49 = .ok (.lstore 4, 2) := by decide +kernel
theorem dX11_drawn_51 : decode cX11_drawn 51 = .ok (.iconst 0, 1) := by decide +kernel
theorem dX11_drawn_52 : decode cX11_drawn 52 = .ok (.istore 6, 2) := by decide +kernel
theorem dX11_drawn_54 : decode cX11_drawn 54 = .ok (.iconst 0, 1) := by decide +kernel
theorem dX11_drawn_55 : decode cX11_drawn 55 = .ok (.istore 7, 2) := by decide +kernel
theorem dX11_drawn_57 : decode cX11_drawn 57 = .ok (.iload 7, 2) := by decide +kernel
theorem dX11_drawn_59 : decode cX11_drawn 59 = .ok (.iload_n 2, 1) := by decide +kernel
theorem dX11_drawn_60 : decode cX11_drawn 60 = .ok (.if_icmp .ge 117, 3) := by decide +kernel
theorem dX11_drawn_63 : decode cX11_drawn 63 = .ok (.iconst 0, 1) := by decide +kernel
theorem dX11_drawn_64 : decode cX11_drawn 64 = .ok (.istore 8, 2) := by decide +kernel
theorem dX11_drawn_66 : decode cX11_drawn 66 = .ok (.iconst 0, 1) := by decide +kernel
theorem dX11_drawn_67 : decode cX11_drawn 67 = .ok (.istore 9, 2) := by decide +kernel
theorem dX11_drawn_69 : decode cX11_drawn 69 = .ok (.iload 9, 2) := by decide +kernel
theorem dX11_drawn_71 : decode cX11_drawn 71 = .ok (.aload_n 0, 1) := by decide +kernel
theorem dX11_drawn_72 : decode cX11_drawn 72 = .ok (.getfield 16, 3) := by decide +kernel
theorem dX11_drawn_75 : decode cX11_drawn 75 = .ok (.getfield 111, 3) := by decide +kernel
theorem dX11_drawn_78 : decode cX11_drawn 78 = .ok (.if_icmp .ge 67, 3) := by decide +kernel
theorem dX11_drawn_81 : decode cX11_drawn 81 = .ok (.lload 4, 2) := by decide +kernel
theorem dX11_drawn_83 : decode cX11_drawn 83 = .ok (.ldc2_w 237, 3) := by decide +kernel
theorem dX11_drawn_86 : decode cX11_drawn 86 = .ok (.lmul, 1) := by decide +kernel
theorem dX11_drawn_87 : decode cX11_drawn 87 = .ok (.ldc2_w 239, 3) := by decide +kernel
theorem dX11_drawn_90 : decode cX11_drawn 90 = .ok (.ladd, 1) := by decide +kernel
theorem dX11_drawn_91 : decode cX11_drawn 91 = .ok (.ldc2_w 241, 3) := by decide +kernel
theorem dX11_drawn_94 : decode cX11_drawn 94 = .ok (.lrem, 1) := by decide +kernel
theorem dX11_drawn_95 : decode cX11_drawn 95 = .ok (.lstore 4, 2) := by decide +kernel
theorem dX11_drawn_97 : decode cX11_drawn 97 = .ok (.aload_n 0, 1) := by decide +kernel
theorem dX11_drawn_98 : decode cX11_drawn 98 = .ok (.getfield 16, 3) := by decide +kernel
theorem dX11_drawn_101 : decode cX11_drawn 101 = .ok (.aload_n 0, 1) := by decide +kernel
theorem dX11_drawn_102 : decode cX11_drawn 102 = .ok (.getfield 16, 3) := by decide +kernel
theorem dX11_drawn_105 : decode cX11_drawn 105 = .ok (.getfield 151, 3) := by decide +kernel
theorem dX11_drawn_108 : decode cX11_drawn 108 = .ok (.iload 9, 2) := by decide +kernel
theorem dX11_drawn_110 : decode cX11_drawn 110 = .ok (.invokestatic 243, 3) := by decide +kernel
theorem dX11_drawn_113 : decode cX11_drawn 113 = .ok (.invokevirtual 246, 3) := by decide +kernel
theorem dX11_drawn_116 : decode cX11_drawn 116 = .ok (.istore 10, 2) := by decide +kernel
theorem dX11_drawn_118 : decode cX11_drawn 118 = .ok (.iload 8, 2) := by decide +kernel
theorem dX11_drawn_120 : decode cX11_drawn 120 = .ok (.iload 10, 2) := by decide +kernel
theorem dX11_drawn_122 : decode cX11_drawn 122 = .ok (.lload 4, 2) := by decide +kernel
theorem dX11_drawn_124 : decode cX11_drawn 124 = .ok (.ldc2_w 249, 3) := by decide +kernel
theorem dX11_drawn_127 : decode cX11_drawn 127 = .ok (.ldiv, 1) := by decide +kernel
theorem dX11_drawn_128 : decode cX11_drawn 128 = .ok (.invokestatic 251, 3) := by decide +kernel
theorem dX11_drawn_131 : decode cX11_drawn 131 = .ok (.iconst 3, 1) := by decide +kernel
theorem dX11_drawn_132 : decode cX11_drawn 132 = .ok (.iload 9, 2) := by decide +kernel
theorem dX11_drawn_134 : decode cX11_drawn 134 = .ok (.imul, 1) := by decide +kernel
theorem dX11_drawn_135 : decode cX11_drawn 135 = .ok (.ishl, 1) := by decide +kernel
theorem dX11_drawn_136 : decode cX11_drawn 136 = .ok (.ior, 1) := by decide +kernel
theorem dX11_drawn_137 : decode cX11_drawn 137 = .ok (.istore 8, 2) := by decide +kernel
theorem dX11_drawn_139 : decode cX11_drawn 139 = .ok (.iinc 9 1, 3) := by decide +kernel
theorem dX11_drawn_142 : decode cX11_drawn 142 = .ok (.goto (-73), 3) := by decide +kernel
theorem dX11_drawn_145 : decode cX11_drawn 145 = .ok (.iload 6, 2) := by decide +kernel
theorem dX11_drawn_147 : decode cX11_drawn 147 = .ok (.aload_n 0, 1) := by decide +kernel
theorem dX11_drawn_148 : decode cX11_drawn 148 = .ok (.getfield 16, 3) := by decide +kernel
theorem dX11_drawn_151 : decode cX11_drawn 151 = .ok (.iload 8, 2) := by decide +kernel
theorem dX11_drawn_153 : decode cX11_drawn 153 = .ok (.aload_n 0, 1) := by decide +kernel
theorem dX11_drawn_154 : decode cX11_drawn 154 = .ok (.getfield 49, 3) := by decide +kernel
theorem dX11_drawn_157 : decode cX11_drawn 157 = .ok (.aload_n 0, 1) := by decide +kernel
theorem dX11_drawn_158 : decode cX11_drawn 158 = .ok (.getfield 16, 3) := by decide +kernel
theorem dX11_drawn_161 : decode cX11_drawn 161 = .ok (.getfield 120, 3) := by decide +kernel
theorem dX11_drawn_164 : decode cX11_drawn 164 = .ok (.aaload, 1) := by decide +kernel
theorem dX11_drawn_165 : decode cX11_drawn 165 = .ok (.invokevirtual 160, 3) := by decide +kernel
theorem dX11_drawn_168 : decode cX11_drawn 168 = .ok (.iadd, 1) := by decide +kernel
theorem dX11_drawn_169 : decode cX11_drawn 169 = .ok (.istore 6, 2) := by decide +kernel
theorem dX11_drawn_171 : decode cX11_drawn 171 = .ok (.iinc 7 1, 3) := by decide +kernel
theorem dX11_drawn_174 : decode cX11_drawn 174 = .ok (.goto (-117), 3) := by decide +kernel
theorem dX11_drawn_177 : decode cX11_drawn 177 = .ok (.iload_n 3, 1) := by decide +kernel
theorem dX11_drawn_178 : decode cX11_drawn 178 = .ok (.ifCond .ne 8, 3) := by decide +kernel
theorem dX11_drawn_181 : decode cX11_drawn 181 = .ok (.iload 6, 2) := by decide +kernel
theorem dX11_drawn_183 : decode cX11_drawn 183 = .ok (.goto 13, 3) := by decide +kernel
theorem dX11_drawn_186 : decode cX11_drawn 186 = .ok (.aload_n 0, 1) := by decide +kernel
theorem dX11_drawn_187 : decode cX11_drawn 187 = .ok (.getfield 16, 3) := by decide +kernel
theorem dX11_drawn_190 : decode cX11_drawn 190 = .ok (.invokevirtual 255, 3) := by decide +kernel
theorem dX11_drawn_193 : decode cX11_drawn 193 = .ok (.invokestatic 258, 3) := by decide +kernel
theorem dX11_drawn_196 : decode cX11_drawn 196 = .ok (.ireturn, 1) := by decide +kernel
def jX11_drawn_29 (I : Mem) : Option (Int32 × Mem) :=
  bnd2 (fX11_refuse (-2 : Int32) I) fun v_2 I_3 =>
  some (v_2, I_3)
set_option maxRecDepth 20000 in
theorem tX11_drawn_29 (E : EV) (d : Nat) (rr : Option Value × Mem) (I : Mem) (y : (Int32 × Mem)) (hf : jX11_drawn_29 I = some y) (hK : (fun (z : Int32 × Mem) => (some (.int z.1), z.2) = rr) y) : G E (d + 4) kX11_drawn 29 [some (.ref 0), none, none, none, none, none, none, none, none, none, none] [] I rr := by
  unfold jX11_drawn_29 at hf
  refine G.aload_n dX11_drawn_29 rfl rfl ?_
  refine G.bipush (v := -2) dX11_drawn_30 (by decide) ?_
  obtain ⟨v_2, I_3, hc_1, hf⟩ := bnd2_at hf
  refine G.callVi (av := [.int (-2 : Int32)]) (rest := []) dX11_drawn_32 mvX11_81 (gX11_refuse E (d + 3) (-2 : Int32) I hc_1) (by decide) rfl rfl rfl (Nat.le_of_ble_eq_true rfl) ?_
  have hf := Option.some.inj hf
  subst hf
  exact G.iret' dX11_drawn_35 rfl hK
def KX11_drawn_57 (E : EV) (d : Nat) (rr : Option Value × Mem) (x2 : Int32) (x3 : Int32) (Kp : (Int32 × Mem) → Prop) : ((Int64 × Int32 × Int32 × Mem) ⊕ (Int32 × Mem)) → Prop
  | .inl q => G E (d + 4) kX11_drawn 57 [some (.ref 0), none, some (.int x2), some (.int x3), some (.long q.1), none, some (.int q.2.1), some (.int q.2.2.1), none, none, none] [] q.2.2.2 rr
  | .inr z => Kp z
def KX11_drawn_69 (E : EV) (d : Nat) (rr : Option Value × Mem) (x2 : Int32) (x3 : Int32) (x6 : Int32) (x7 : Int32) (I : Mem) (Kp : ((Int64 × Int32 × Int32 × Mem) ⊕ (Int32 × Mem)) → Prop) : ((Int64 × Int32 × Int32) ⊕ ((Int64 × Int32 × Int32 × Mem) ⊕ (Int32 × Mem))) → Prop
  | .inl q => G E (d + 4) kX11_drawn 69 [some (.ref 0), none, some (.int x2), some (.int x3), some (.long q.1), none, some (.int x6), some (.int x7), some (.int q.2.1), some (.int q.2.2), none] [] I rr
  | .inr z => Kp z
def bX11_drawn_69 (x2 : Int32) (x3 : Int32) (x6 : Int32) (x7 : Int32) (I : Mem) (l4 : Int64) (x8 : Int32) (x9 : Int32) : Option ((Int64 × Int32 × Int32) ⊕ ((Int64 × Int32 × Int32 × Mem) ⊕ (Int32 × Mem))) :=
  if (I 9 2) ≤ x9 then
  (chk (inb (I 9 4) 5) <|
  bnd (asL (fin 37 (ix (I 9 4)))) fun o9_14 =>
  bnd2 (fX4_go 9 x8 o9_14 I) fun v_16 I_17 =>
  letb (x6 + v_16) fun x6_18 =>
  some (.inr (.inl (l4, x6_18, (x7 + (1 : Int32)), I_17))))
  else
  (letb (((l4 * (1103515245 : Int64)) + (12345 : Int64)) - ((l4 * (1103515245 : Int64)) + (12345 : Int64)) / (2147483648 : Int64) * (2147483648 : Int64)) fun l4_19 =>
  bnd (fX11_roomOf (I 9 3) x9 I) fun v_21 =>
  bnd (fX4_reach 9 v_21 I) fun v_23 =>
  bnd (fX11_drawRoom v_23 (l4_19 / (65536 : Int64)) I) fun v_25 =>
  letb (x8 ||| (v_25 <<< (((3 : Int32) * x9) &&& 31))) fun x8_26 =>
  some (.inl (l4_19, x8_26, (x9 + (1 : Int32)))))
def sX11_drawn_69 (x2 : Int32) (x3 : Int32) (x6 : Int32) (x7 : Int32) (I : Mem) (q : (Int64 × Int32 × Int32)) : Option ((Int64 × Int32 × Int32) ⊕ ((Int64 × Int32 × Int32 × Mem) ⊕ (Int32 × Mem))) := bX11_drawn_69 x2 x3 x6 x7 I q.1 q.2.1 q.2.2
set_option maxRecDepth 20000 in
theorem wX11_drawn_69 (E : EV) (d : Nat) (rr : Option Value × Mem) (x2 : Int32) (x3 : Int32) (x6 : Int32) (x7 : Int32) (I : Mem) (l4 : Int64) (x8 : Int32) (x9 : Int32) (y : ((Int64 × Int32 × Int32) ⊕ ((Int64 × Int32 × Int32 × Mem) ⊕ (Int32 × Mem)))) (hf : bX11_drawn_69 x2 x3 x6 x7 I l4 x8 x9 = some y) (hK : (KX11_drawn_69 E d rr x2 x3 x6 x7 I (KX11_drawn_57 E d rr x2 x3 (fun (z : Int32 × Mem) => (some (.int z.1), z.2) = rr))) y) : G E (d + 4) kX11_drawn 69 [some (.ref 0), none, some (.int x2), some (.int x3), some (.long l4), none, some (.int x6), some (.int x7), some (.int x8), some (.int x9), none] [] I rr := by
  unfold bX11_drawn_69 at hf
  refine G.iload dX11_drawn_69 rfl ?_
  refine G.aload_n dX11_drawn_71 rfl rfl ?_
  refine G.getR (q := 9) dX11_drawn_72 flX11_16 (by decide) rfl rfl ?_
  refine G.getI dX11_drawn_75 flX11_111 (by decide) rfl ?_
  refine G.icmp_ge (tgt := 145) dX11_drawn_78 (by decide) (fun c_27 => ?_) (fun c_27 => ?_)
  · have hf := ite_t hf c_27
    refine G.iload dX11_drawn_145 rfl ?_
    refine G.aload_n dX11_drawn_147 rfl rfl ?_
    refine G.getR (q := 9) dX11_drawn_148 flX11_16 (by decide) rfl rfl ?_
    refine G.iload dX11_drawn_151 rfl ?_
    refine G.aload_n dX11_drawn_153 rfl rfl ?_
    refine G.getR (q := 37) dX11_drawn_154 flX11_49 (by decide) rfl rfl ?_
    refine G.aload_n dX11_drawn_157 rfl rfl ?_
    refine G.getR (q := 9) dX11_drawn_158 flX11_16 (by decide) rfl rfl ?_
    refine G.getI dX11_drawn_161 flX11_120 (by decide) rfl ?_
    obtain ⟨hi_13, hf⟩ := chk_at hf
    obtain ⟨o9_14, ho9_14a, hf⟩ := bnd_at hf
    obtain ⟨ho9_14d, ho9_14⟩ := asL_at ho9_14a
    refine G.aaldO (q := o9_14) dX11_drawn_164 (by decide) rfl hi_13 ho9_14d ?_
    obtain ⟨v_16, I_17, hc_15, hf⟩ := bnd2_at hf
    refine G.callVi (av := [.int x8, .ref o9_14]) (rest := [.int x6]) dX11_drawn_165 mvX11_160 (gX4_go E d 9 x8 o9_14 I (by unfold isH; decide) ho9_14 hc_15) (by decide) rfl rfl rfl (Nat.le_of_ble_eq_true rfl) ?_
    refine G.iadd dX11_drawn_168 ?_
    refine G.nmi (fun x6_18 e_x6_18 => ?_)
    have hf := letb_at hf e_x6_18
    clear e_x6_18
    refine G.istore (L' := [some (.ref 0), none, some (.int x2), some (.int x3), some (.long l4), none, some (.int x6_18), some (.int x7), some (.int x8), some (.int x9), none]) dX11_drawn_169 (Nat.le_of_ble_eq_true rfl) (Nat.le_of_ble_eq_true rfl) rfl rfl ?_
    refine G.inc (w := 1) (L' := [some (.ref 0), none, some (.int x2), some (.int x3), some (.long l4), none, some (.int x6_18), some (.int (x7 + (1 : Int32))), some (.int x8), some (.int x9), none]) dX11_drawn_171 (by decide) rfl (Nat.le_of_ble_eq_true rfl) rfl rfl ?_
    refine G.goto (tgt := 57) dX11_drawn_174 (by decide) ?_
    have hf := Option.some.inj hf
    subst hf
    refine G.forget (L' := [some (.ref 0), none, some (.int x2), some (.int x3), some (.long l4), none, some (.int x6_18), some (.int (x7 + (1 : Int32))), none, none, none]) [8, 9] rfl ?_
    exact hK
  · have hf := ite_f hf c_27
    refine G.lload dX11_drawn_81 rfl ?_
    refine G.ldc2 (v := 1103515245) dX11_drawn_83 kcX11_237 ?_
    refine G.lmul dX11_drawn_86 ?_
    refine G.ldc2 (v := 12345) dX11_drawn_87 kcX11_239 ?_
    refine G.ladd dX11_drawn_90 ?_
    refine G.ldc2 (v := 2147483648) dX11_drawn_91 kcX11_241 ?_
    refine G.lrem dX11_drawn_94 (by decide) ?_
    refine G.nml (fun l4_19 e_l4_19 => ?_)
    have hf := letb_at hf e_l4_19
    clear e_l4_19
    refine G.lstore (L' := [some (.ref 0), none, some (.int x2), some (.int x3), some (.long l4_19), none, some (.int x6), some (.int x7), some (.int x8), some (.int x9), none]) dX11_drawn_95 (Nat.le_of_ble_eq_true rfl) (Nat.le_of_ble_eq_true rfl) rfl rfl ?_
    refine G.aload_n dX11_drawn_97 rfl rfl ?_
    refine G.getR (q := 9) dX11_drawn_98 flX11_16 (by decide) rfl rfl ?_
    refine G.aload_n dX11_drawn_101 rfl rfl ?_
    refine G.getR (q := 9) dX11_drawn_102 flX11_16 (by decide) rfl rfl ?_
    refine G.getI dX11_drawn_105 flX11_151 (by decide) rfl ?_
    refine G.iload dX11_drawn_108 rfl ?_
    obtain ⟨v_21, hc_20, hf⟩ := bnd_at hf
    refine G.callSi (av := [.int (I 9 3), .int x9]) (rest := [.ref 9]) dX11_drawn_110 msX11_243 (gX11_roomOf E (d + 3) (I 9 3) x9 I hc_20) rfl rfl (Nat.le_of_ble_eq_true rfl) ?_
    obtain ⟨v_23, hc_22, hf⟩ := bnd_at hf
    refine G.callVi (av := [.int v_21]) (rest := []) dX11_drawn_113 mvX11_246 (gX4_reach E (d + 3) 9 v_21 I (by unfold isH; decide) hc_22) (by decide) rfl rfl rfl (Nat.le_of_ble_eq_true rfl) ?_
    refine G.istore (L' := [some (.ref 0), none, some (.int x2), some (.int x3), some (.long l4_19), none, some (.int x6), some (.int x7), some (.int x8), some (.int x9), some (.int v_23)]) dX11_drawn_116 (Nat.le_of_ble_eq_true rfl) (Nat.le_of_ble_eq_true rfl) rfl rfl ?_
    refine G.iload dX11_drawn_118 rfl ?_
    refine G.iload dX11_drawn_120 rfl ?_
    refine G.lload dX11_drawn_122 rfl ?_
    refine G.ldc2 (v := 65536) dX11_drawn_124 kcX11_249 ?_
    refine G.ldiv dX11_drawn_127 (by decide) ?_
    obtain ⟨v_25, hc_24, hf⟩ := bnd_at hf
    refine G.callSi (av := [.int v_23, .long (l4_19 / (65536 : Int64))]) (rest := [.int x8]) dX11_drawn_128 msX11_251 (gX11_drawRoom E (d + 2) v_23 (l4_19 / (65536 : Int64)) I hc_24) rfl rfl (Nat.le_of_ble_eq_true rfl) ?_
    refine G.iconst (v := 3) dX11_drawn_131 (by decide) ?_
    refine G.iload dX11_drawn_132 rfl ?_
    refine G.imul dX11_drawn_134 ?_
    refine G.ishl dX11_drawn_135 ?_
    refine G.ior dX11_drawn_136 ?_
    refine G.nmi (fun x8_26 e_x8_26 => ?_)
    have hf := letb_at hf e_x8_26
    clear e_x8_26
    refine G.istore (L' := [some (.ref 0), none, some (.int x2), some (.int x3), some (.long l4_19), none, some (.int x6), some (.int x7), some (.int x8_26), some (.int x9), some (.int v_23)]) dX11_drawn_137 (Nat.le_of_ble_eq_true rfl) (Nat.le_of_ble_eq_true rfl) rfl rfl ?_
    refine G.inc (w := 1) (L' := [some (.ref 0), none, some (.int x2), some (.int x3), some (.long l4_19), none, some (.int x6), some (.int x7), some (.int x8_26), some (.int (x9 + (1 : Int32))), some (.int v_23)]) dX11_drawn_139 (by decide) rfl (Nat.le_of_ble_eq_true rfl) rfl rfl ?_
    refine G.goto (tgt := 69) dX11_drawn_142 (by decide) ?_
    have hf := Option.some.inj hf
    subst hf
    refine G.forget (L' := [some (.ref 0), none, some (.int x2), some (.int x3), some (.long l4_19), none, some (.int x6), some (.int x7), some (.int x8_26), some (.int (x9 + (1 : Int32))), none]) [10] rfl ?_
    exact hK
theorem lX11_drawn_69 (E : EV) (d : Nat) (rr : Option Value × Mem) (x2 : Int32) (x3 : Int32) (x6 : Int32) (x7 : Int32) (I : Mem) (z : ((Int64 × Int32 × Int32 × Mem) ⊕ (Int32 × Mem))) (hK : (KX11_drawn_57 E d rr x2 x3 (fun (z : Int32 × Mem) => (some (.int z.1), z.2) = rr)) z) : ∀ (n : Nat) (q : (Int64 × Int32 × Int32)), iter (sX11_drawn_69 x2 x3 x6 x7 I) n q = some z → G E (d + 4) kX11_drawn 69 [some (.ref 0), none, some (.int x2), some (.int x3), some (.long q.1), none, some (.int x6), some (.int x7), some (.int q.2.1), some (.int q.2.2), none] [] I rr := by
  intro n
  induction n with
  | zero => intro q h; cases h
  | succ n ih =>
    intro q h
    rcases iter_at h with ⟨q2, hs, h2⟩ | hs
    · exact wX11_drawn_69 E d rr x2 x3 x6 x7 I q.1 q.2.1 q.2.2 _ hs (ih q2 h2)
    · exact wX11_drawn_69 E d rr x2 x3 x6 x7 I q.1 q.2.1 q.2.2 _ hs hK
def bX11_drawn_57 (x2 : Int32) (x3 : Int32) (l4 : Int64) (x6 : Int32) (x7 : Int32) (I : Mem) : Option ((Int64 × Int32 × Int32 × Mem) ⊕ (Int32 × Mem)) :=
  if x2 ≤ x7 then
  (if x3 = 0 then
  (some (.inr (x6, I)))
  else
  (bnd (fX4_peopled 9 I) fun v_9 =>
  bnd (fJ6_bitCount_0f7a4 v_9 I) fun v_11 =>
  some (.inr (v_11, I))))
  else
  (iter (sX11_drawn_69 x2 x3 x6 x7 I) FU (l4, (0 : Int32), (0 : Int32)))
def sX11_drawn_57 (x2 : Int32) (x3 : Int32) (q : (Int64 × Int32 × Int32 × Mem)) : Option ((Int64 × Int32 × Int32 × Mem) ⊕ (Int32 × Mem)) := bX11_drawn_57 x2 x3 q.1 q.2.1 q.2.2.1 q.2.2.2
set_option maxRecDepth 20000 in
theorem wX11_drawn_57 (E : EV) (d : Nat) (rr : Option Value × Mem) (x2 : Int32) (x3 : Int32) (l4 : Int64) (x6 : Int32) (x7 : Int32) (I : Mem) (y : ((Int64 × Int32 × Int32 × Mem) ⊕ (Int32 × Mem))) (hf : bX11_drawn_57 x2 x3 l4 x6 x7 I = some y) (hK : (KX11_drawn_57 E d rr x2 x3 (fun (z : Int32 × Mem) => (some (.int z.1), z.2) = rr)) y) : G E (d + 4) kX11_drawn 57 [some (.ref 0), none, some (.int x2), some (.int x3), some (.long l4), none, some (.int x6), some (.int x7), none, none, none] [] I rr := by
  unfold bX11_drawn_57 at hf
  refine G.iload dX11_drawn_57 rfl ?_
  refine G.iload_n dX11_drawn_59 rfl rfl ?_
  refine G.icmp_ge (tgt := 177) dX11_drawn_60 (by decide) (fun c_28 => ?_) (fun c_28 => ?_)
  · have hf := ite_t hf c_28
    refine G.iload_n dX11_drawn_177 rfl rfl ?_
    refine G.if_ne (tgt := 186) dX11_drawn_178 (by decide) (fun c_12 => ?_) (fun c_12 => ?_)
    · have hf := ite_f hf c_12
      refine G.aload_n dX11_drawn_186 rfl rfl ?_
      refine G.getR (q := 9) dX11_drawn_187 flX11_16 (by decide) rfl rfl ?_
      obtain ⟨v_9, hc_8, hf⟩ := bnd_at hf
      refine G.callVi (av := []) (rest := []) dX11_drawn_190 mvX11_255 (gX4_peopled E (d + 2) 9 I (by unfold isH; decide) hc_8) (by decide) rfl rfl rfl (Nat.le_of_ble_eq_true rfl) ?_
      obtain ⟨v_11, hc_10, hf⟩ := bnd_at hf
      refine G.callSi (av := [.int v_9]) (rest := []) dX11_drawn_193 msX11_258 (gJ6_bitCount_0f7a4 E (d + 3) v_9 I hc_10) rfl rfl (Nat.le_of_ble_eq_true rfl) ?_
      have hf := Option.some.inj hf
      subst hf
      exact G.iret' dX11_drawn_196 rfl hK
    · have hf := ite_t hf c_12
      refine G.iload dX11_drawn_181 rfl ?_
      refine G.goto (tgt := 196) dX11_drawn_183 (by decide) ?_
      have hf := Option.some.inj hf
      subst hf
      exact G.iret' dX11_drawn_196 rfl hK
  · have hf := ite_f hf c_28
    refine G.iconst (v := 0) dX11_drawn_63 (by decide) ?_
    refine G.istore (L' := [some (.ref 0), none, some (.int x2), some (.int x3), some (.long l4), none, some (.int x6), some (.int x7), some (.int (0 : Int32)), none, none]) dX11_drawn_64 (Nat.le_of_ble_eq_true rfl) (Nat.le_of_ble_eq_true rfl) rfl rfl ?_
    refine G.iconst (v := 0) dX11_drawn_66 (by decide) ?_
    refine G.istore (L' := [some (.ref 0), none, some (.int x2), some (.int x3), some (.long l4), none, some (.int x6), some (.int x7), some (.int (0 : Int32)), some (.int (0 : Int32)), none]) dX11_drawn_67 (Nat.le_of_ble_eq_true rfl) (Nat.le_of_ble_eq_true rfl) rfl rfl ?_
    exact lX11_drawn_69 E d rr x2 x3 x6 x7 I _ hK FU _ hf
theorem lX11_drawn_57 (E : EV) (d : Nat) (rr : Option Value × Mem) (x2 : Int32) (x3 : Int32) (z : (Int32 × Mem)) (hK : (fun (z : Int32 × Mem) => (some (.int z.1), z.2) = rr) z) : ∀ (n : Nat) (q : (Int64 × Int32 × Int32 × Mem)), iter (sX11_drawn_57 x2 x3) n q = some z → G E (d + 4) kX11_drawn 57 [some (.ref 0), none, some (.int x2), some (.int x3), some (.long q.1), none, some (.int q.2.1), some (.int q.2.2.1), none, none, none] [] q.2.2.2 rr := by
  intro n
  induction n with
  | zero => intro q h; cases h
  | succ n ih =>
    intro q h
    rcases iter_at h with ⟨q2, hs, h2⟩ | hs
    · exact wX11_drawn_57 E d rr x2 x3 q.1 q.2.1 q.2.2.1 q.2.2.2 _ hs (ih q2 h2)
    · exact wX11_drawn_57 E d rr x2 x3 q.1 q.2.1 q.2.2.1 q.2.2.2 _ hs hK
def fX11_drawn (x1 : Int32) (x2 : Int32) (x3 : Int32) (I : Mem) : Option (Int32 × Mem) :=
  if x1 < 0 then
  (jX11_drawn_29 I)
  else
  (letb (999999 : Int32) fun k9_4 =>
  if k9_4 < x1 then
  (jX11_drawn_29 I)
  else
  (if x2 < 0 then
  (jX11_drawn_29 I)
  else
  (if (20 : Int32) < x2 then
  (jX11_drawn_29 I)
  else
  (if x3 < 0 then
  (jX11_drawn_29 I)
  else
  (if x3 ≤ (1 : Int32) then
  (bnd (fX4_copy 9 1 I) fun I_6 =>
  letb (Int32.toInt64 x1) fun l4_7 =>
  iter (sX11_drawn_57 x2 x3) FU (l4_7, (0 : Int32), (0 : Int32), I_6))
  else
  (jX11_drawn_29 I))))))
set_option maxRecDepth 20000 in
theorem gX11_drawn (E : EV) (d : Nat) (x1 : Int32) (x2 : Int32) (x3 : Int32) (I : Mem) {v : Int32} {J : Mem} (hf : fX11_drawn x1 x2 x3 I = some (v, J)) : Gm E (d + 4) kX11_drawn [.ref 0, .int x1, .int x2, .int x3] I (some (.int v), J) := by
  refine (fun (y : (Int32 × Mem)) (hf : fX11_drawn x1 x2 x3 I = some y) => (?_ : Gm E (d + 4) kX11_drawn [.ref 0, .int x1, .int x2, .int x3] I (some (.int y.1), y.2))) (v, J) hf
  refine Gm.of (by decide) rfl (Nat.le_of_ble_eq_true rfl) ?_
  generalize hrr : ((some (.int y.1), y.2) : Option Value × Mem) = rr
  show G E (d + 4) kX11_drawn 0 [some (.ref 0), some (.int x1), some (.int x2), some (.int x3), none, none, none, none, none, none, none] [] I rr
  have hK : (fun (z : Int32 × Mem) => (some (.int z.1), z.2) = rr) y := hrr
  clear hrr
  unfold fX11_drawn at hf
  refine G.iload_n dX11_drawn_0 rfl rfl ?_
  refine G.if_lt (tgt := 29) dX11_drawn_1 (by decide) (fun c_34 => ?_) (fun c_34 => ?_)
  · have hf := ite_t hf c_34
    refine G.forget (L' := [some (.ref 0), none, none, none, none, none, none, none, none, none, none]) [1, 2, 3] rfl ?_
    exact tX11_drawn_29 E d rr I _ hf hK
  · have hf := ite_f hf c_34
    refine G.iload_n dX11_drawn_4 rfl rfl ?_
    refine G.ldc (v := 999999) dX11_drawn_5 kcX11_236 ?_
    refine G.nmi (fun k9_4 e_k9_4 => ?_)
    have hf := letb_at hf e_k9_4
    clear e_k9_4
    refine G.icmp_gt (tgt := 29) dX11_drawn_7 (by decide) (fun c_33 => ?_) (fun c_33 => ?_)
    · have hf := ite_t hf c_33
      refine G.forget (L' := [some (.ref 0), none, none, none, none, none, none, none, none, none, none]) [1, 2, 3] rfl ?_
      exact tX11_drawn_29 E d rr I _ hf hK
    · have hf := ite_f hf c_33
      refine G.iload_n dX11_drawn_10 rfl rfl ?_
      refine G.if_lt (tgt := 29) dX11_drawn_11 (by decide) (fun c_32 => ?_) (fun c_32 => ?_)
      · have hf := ite_t hf c_32
        refine G.forget (L' := [some (.ref 0), none, none, none, none, none, none, none, none, none, none]) [1, 2, 3] rfl ?_
        exact tX11_drawn_29 E d rr I _ hf hK
      · have hf := ite_f hf c_32
        refine G.iload_n dX11_drawn_14 rfl rfl ?_
        refine G.bipush (v := 20) dX11_drawn_15 (by decide) ?_
        refine G.icmp_gt (tgt := 29) dX11_drawn_17 (by decide) (fun c_31 => ?_) (fun c_31 => ?_)
        · have hf := ite_t hf c_31
          refine G.forget (L' := [some (.ref 0), none, none, none, none, none, none, none, none, none, none]) [1, 2, 3] rfl ?_
          exact tX11_drawn_29 E d rr I _ hf hK
        · have hf := ite_f hf c_31
          refine G.iload_n dX11_drawn_20 rfl rfl ?_
          refine G.if_lt (tgt := 29) dX11_drawn_21 (by decide) (fun c_30 => ?_) (fun c_30 => ?_)
          · have hf := ite_t hf c_30
            refine G.forget (L' := [some (.ref 0), none, none, none, none, none, none, none, none, none, none]) [1, 2, 3] rfl ?_
            exact tX11_drawn_29 E d rr I _ hf hK
          · have hf := ite_f hf c_30
            refine G.iload_n dX11_drawn_24 rfl rfl ?_
            refine G.iconst (v := 1) dX11_drawn_25 (by decide) ?_
            refine G.icmp_le (tgt := 36) dX11_drawn_26 (by decide) (fun c_29 => ?_) (fun c_29 => ?_)
            · have hf := ite_t hf c_29
              refine G.aload_n dX11_drawn_36 rfl rfl ?_
              refine G.getR (q := 9) dX11_drawn_37 flX11_16 (by decide) rfl rfl ?_
              refine G.aload_n dX11_drawn_40 rfl rfl ?_
              refine G.getR (q := 1) dX11_drawn_41 flX11_10 (by decide) rfl rfl ?_
              obtain ⟨I_6, hc_5, hf⟩ := bnd_at hf
              refine G.callVv (av := [.ref 1]) (rest := []) dX11_drawn_44 mvX11_144 (gX4_copy E (d + 2) 9 1 I (by unfold isH; decide) (by unfold isH; decide) hc_5) (by decide) rfl rfl rfl (Nat.le_of_ble_eq_true rfl) ?_
              refine G.iload_n dX11_drawn_47 rfl rfl ?_
              refine G.i2l dX11_drawn_48 ?_
              refine G.nml (fun l4_7 e_l4_7 => ?_)
              have hf := letb_at hf e_l4_7
              clear e_l4_7
              refine G.lstore (L' := [some (.ref 0), some (.int x1), some (.int x2), some (.int x3), some (.long l4_7), none, none, none, none, none, none]) dX11_drawn_49 (Nat.le_of_ble_eq_true rfl) (Nat.le_of_ble_eq_true rfl) rfl rfl ?_
              refine G.iconst (v := 0) dX11_drawn_51 (by decide) ?_
              refine G.istore (L' := [some (.ref 0), some (.int x1), some (.int x2), some (.int x3), some (.long l4_7), none, some (.int (0 : Int32)), none, none, none, none]) dX11_drawn_52 (Nat.le_of_ble_eq_true rfl) (Nat.le_of_ble_eq_true rfl) rfl rfl ?_
              refine G.iconst (v := 0) dX11_drawn_54 (by decide) ?_
              refine G.istore (L' := [some (.ref 0), some (.int x1), some (.int x2), some (.int x3), some (.long l4_7), none, some (.int (0 : Int32)), some (.int (0 : Int32)), none, none, none]) dX11_drawn_55 (Nat.le_of_ble_eq_true rfl) (Nat.le_of_ble_eq_true rfl) rfl rfl ?_
              refine G.forget (L' := [some (.ref 0), none, some (.int x2), some (.int x3), some (.long l4_7), none, some (.int (0 : Int32)), some (.int (0 : Int32)), none, none, none]) [1] rfl ?_
              exact lX11_drawn_57 E d rr x2 x3 _ hK FU _ hf
            · have hf := ite_f hf c_29
              refine G.forget (L' := [some (.ref 0), none, none, none, none, none, none, none, none, none, none]) [1, 2, 3] rfl ?_
              exact tX11_drawn_29 E d rr I _ hf hK
theorem dX11_image_0 : decode cX11_image 0 = .ok (.iload_n 1, 1) := by decide +kernel
theorem dX11_image_1 : decode cX11_image 1 = .ok (.ifCond .lt 8, 3) := by decide +kernel
theorem dX11_image_4 : decode cX11_image 4 = .ok (.iload_n 1, 1) := by decide +kernel
theorem dX11_image_5 : decode cX11_image 5 = .ok (.iconst 2, 1) := by decide +kernel
theorem dX11_image_6 : decode cX11_image 6 = .ok (.if_icmp .lt 10, 3) := by decide +kernel
theorem dX11_image_9 : decode cX11_image 9 = .ok (.aload_n 0, 1) := by decide +kernel
theorem dX11_image_10 : decode cX11_image 10 = .ok (.bipush (-2), 2) := by decide +kernel
theorem dX11_image_12 : decode cX11_image 12 = .ok (.invokevirtual 81, 3) := by decide +kernel
theorem dX11_image_15 : decode cX11_image 15 = .ok (.ireturn, 1) := by decide +kernel
theorem dX11_image_16 : decode cX11_image 16 = .ok (.aload_n 0, 1) := by decide +kernel
theorem dX11_image_17 : decode cX11_image 17 = .ok (.getfield 19, 3) := by decide +kernel
theorem dX11_image_20 : decode cX11_image 20 = .ok (.iload_n 1, 1) := by decide +kernel
theorem dX11_image_21 : decode cX11_image 21 = .ok (.aaload, 1) := by decide +kernel
theorem dX11_image_22 : decode cX11_image 22 = .ok (.aload_n 0, 1) := by decide +kernel
theorem dX11_image_23 : decode cX11_image 23 = .ok (.getfield 10, 3) := by decide +kernel
theorem dX11_image_26 : decode cX11_image 26 = .ok (.invokevirtual 144, 3) := by decide +kernel
theorem dX11_image_29 : decode cX11_image 29 = .ok (.aload_n 0, 1) := by decide +kernel
theorem dX11_image_30 : decode cX11_image 30 = .ok (.getfield 23, 3) := by decide +kernel
theorem dX11_image_33 : decode cX11_image 33 = .ok (.iload_n 1, 1) := by decide +kernel
theorem dX11_image_34 : decode cX11_image 34 = .ok (.iconst 1, 1) := by decide +kernel
theorem dX11_image_35 : decode cX11_image 35 = .ok (.bastore, 1) := by decide +kernel
theorem dX11_image_36 : decode cX11_image 36 = .ok (.iconst 1, 1) := by decide +kernel
theorem dX11_image_37 : decode cX11_image 37 = .ok (.ireturn, 1) := by decide +kernel
def jX11_image_9 (I : Mem) : Option (Int32 × Mem) :=
  bnd2 (fX11_refuse (-2 : Int32) I) fun v_2 I_3 =>
  some (v_2, I_3)
set_option maxRecDepth 20000 in
theorem tX11_image_9 (E : EV) (d : Nat) (rr : Option Value × Mem) (I : Mem) (y : (Int32 × Mem)) (hf : jX11_image_9 I = some y) (hK : (fun (z : Int32 × Mem) => (some (.int z.1), z.2) = rr) y) : G E (d + 2) kX11_image 9 [some (.ref 0), none] [] I rr := by
  unfold jX11_image_9 at hf
  refine G.aload_n dX11_image_9 rfl rfl ?_
  refine G.bipush (v := -2) dX11_image_10 (by decide) ?_
  obtain ⟨v_2, I_3, hc_1, hf⟩ := bnd2_at hf
  refine G.callVi (av := [.int (-2 : Int32)]) (rest := []) dX11_image_12 mvX11_81 (gX11_refuse E (d + 1) (-2 : Int32) I hc_1) (by decide) rfl rfl rfl (Nat.le_of_ble_eq_true rfl) ?_
  have hf := Option.some.inj hf
  subst hf
  exact G.iret' dX11_image_15 rfl hK
def fX11_image (x1 : Int32) (I : Mem) : Option (Int32 × Mem) :=
  if x1 < 0 then
  (jX11_image_9 I)
  else
  (if x1 < (2 : Int32) then
  (chk (inb x1 2) <|
  bnd (asH (fin 17 (ix x1))) fun b9_5 =>
  bnd (fX4_copy b9_5 1 I) fun I_7 =>
  chk (inb x1 2) <|
  letb (up2 I_7 34 (ix x1) (1 : Int32)) fun I_9 =>
  some ((1 : Int32), I_9))
  else
  (jX11_image_9 I))
set_option maxRecDepth 20000 in
theorem gX11_image (E : EV) (d : Nat) (x1 : Int32) (I : Mem) {v : Int32} {J : Mem} (hf : fX11_image x1 I = some (v, J)) : Gm E (d + 2) kX11_image [.ref 0, .int x1] I (some (.int v), J) := by
  refine (fun (y : (Int32 × Mem)) (hf : fX11_image x1 I = some y) => (?_ : Gm E (d + 2) kX11_image [.ref 0, .int x1] I (some (.int y.1), y.2))) (v, J) hf
  refine Gm.of (by decide) rfl (Nat.le_of_ble_eq_true rfl) ?_
  generalize hrr : ((some (.int y.1), y.2) : Option Value × Mem) = rr
  show G E (d + 2) kX11_image 0 [some (.ref 0), some (.int x1)] [] I rr
  have hK : (fun (z : Int32 × Mem) => (some (.int z.1), z.2) = rr) y := hrr
  clear hrr
  unfold fX11_image at hf
  refine G.iload_n dX11_image_0 rfl rfl ?_
  refine G.if_lt (tgt := 9) dX11_image_1 (by decide) (fun c_11 => ?_) (fun c_11 => ?_)
  · have hf := ite_t hf c_11
    refine G.forget (L' := [some (.ref 0), none]) [1] rfl ?_
    exact tX11_image_9 E d rr I _ hf hK
  · have hf := ite_f hf c_11
    refine G.iload_n dX11_image_4 rfl rfl ?_
    refine G.iconst (v := 2) dX11_image_5 (by decide) ?_
    refine G.icmp_lt (tgt := 16) dX11_image_6 (by decide) (fun c_10 => ?_) (fun c_10 => ?_)
    · have hf := ite_t hf c_10
      refine G.aload_n dX11_image_16 rfl rfl ?_
      refine G.getR (q := 17) dX11_image_17 flX11_19 (by decide) rfl rfl ?_
      refine G.iload_n dX11_image_20 rfl rfl ?_
      obtain ⟨hi_4, hf⟩ := chk_at hf
      obtain ⟨b9_5, hb9_5a, hf⟩ := bnd_at hf
      obtain ⟨hb9_5d, hb9_5⟩ := asH_at hb9_5a
      refine G.aaldH (q := b9_5) dX11_image_21 (by decide) rfl hi_4 hb9_5d ?_
      refine G.aload_n dX11_image_22 rfl rfl ?_
      refine G.getR (q := 1) dX11_image_23 flX11_10 (by decide) rfl rfl ?_
      obtain ⟨I_7, hc_6, hf⟩ := bnd_at hf
      refine G.callVv (av := [.ref 1]) (rest := []) dX11_image_26 mvX11_144 (gX4_copy E d b9_5 1 I hb9_5 (by unfold isH; decide) hc_6) (isH_lt hb9_5) (isH_lk hb9_5) rfl rfl (Nat.le_of_ble_eq_true rfl) ?_
      refine G.aload_n dX11_image_29 rfl rfl ?_
      refine G.getR (q := 34) dX11_image_30 flX11_23 (by decide) rfl rfl ?_
      refine G.iload_n dX11_image_33 rfl rfl ?_
      refine G.iconst (v := 1) dX11_image_34 (by decide) ?_
      obtain ⟨hi_8, hf⟩ := chk_at hf
      refine G.zast (v := 1) dX11_image_35 (by decide) rfl hi_8 (by decide) ?_
      refine G.nmI (fun I_9 e_I_9 => ?_)
      have hf := letb_at hf e_I_9
      clear e_I_9
      refine G.iconst (v := 1) dX11_image_36 (by decide) ?_
      have hf := Option.some.inj hf
      subst hf
      exact G.iret' dX11_image_37 rfl hK
    · have hf := ite_f hf c_10
      refine G.forget (L' := [some (.ref 0), none]) [1] rfl ?_
      exact tX11_image_9 E d rr I _ hf hK
theorem dX11_from_0 : decode cX11_from 0 = .ok (.iload_n 1, 1) := by decide +kernel
theorem dX11_from_1 : decode cX11_from 1 = .ok (.ifCond .lt 8, 3) := by decide +kernel
theorem dX11_from_4 : decode cX11_from 4 = .ok (.iload_n 1, 1) := by decide +kernel
theorem dX11_from_5 : decode cX11_from 5 = .ok (.iconst 2, 1) := by decide +kernel
theorem dX11_from_6 : decode cX11_from 6 = .ok (.if_icmp .lt 10, 3) := by decide +kernel
theorem dX11_from_9 : decode cX11_from 9 = .ok (.aload_n 0, 1) := by decide +kernel
theorem dX11_from_10 : decode cX11_from 10 = .ok (.bipush (-2), 2) := by decide +kernel
theorem dX11_from_12 : decode cX11_from 12 = .ok (.invokevirtual 81, 3) := by decide +kernel
theorem dX11_from_15 : decode cX11_from 15 = .ok (.ireturn, 1) := by decide +kernel
theorem dX11_from_16 : decode cX11_from 16 = .ok (.aload_n 0, 1) := by decide +kernel
theorem dX11_from_17 : decode cX11_from 17 = .ok (.getfield 23, 3) := by decide +kernel
theorem dX11_from_20 : decode cX11_from 20 = .ok (.iload_n 1, 1) := by decide +kernel
theorem dX11_from_21 : decode cX11_from 21 = .ok (.baload, 1) := by decide +kernel
theorem dX11_from_22 : decode cX11_from 22 = .ok (.ifCond .ne 10, 3) := by decide +kernel
theorem dX11_from_25 : decode cX11_from 25 = .ok (.aload_n 0, 1) := by decide +kernel
theorem dX11_from_26 : decode cX11_from 26 = .ok (.bipush (-3), 2) := by decide +kernel
theorem dX11_from_28 : decode cX11_from 28 = .ok (.invokevirtual 81, 3) := by decide +kernel
theorem dX11_from_31 : decode cX11_from 31 = .ok (.ireturn, 1) := by decide +kernel
theorem dX11_from_32 : decode cX11_from 32 = .ok (.aload_n 0, 1) := by decide +kernel
theorem dX11_from_33 : decode cX11_from 33 = .ok (.getfield 10, 3) := by decide +kernel
theorem dX11_from_36 : decode cX11_from 36 = .ok (.aload_n 0, 1) := by decide +kernel
theorem dX11_from_37 : decode cX11_from 37 = .ok (.getfield 19, 3) := by decide +kernel
theorem dX11_from_40 : decode cX11_from 40 = .ok (.iload_n 1, 1) := by decide +kernel
theorem dX11_from_41 : decode cX11_from 41 = .ok (.aaload, 1) := by decide +kernel
theorem dX11_from_42 : decode cX11_from 42 = .ok (.invokevirtual 144, 3) := by decide +kernel
theorem dX11_from_45 : decode cX11_from 45 = .ok (.iconst 1, 1) := by decide +kernel
theorem dX11_from_46 : decode cX11_from 46 = .ok (.ireturn, 1) := by decide +kernel
def jX11_from_9 (I : Mem) : Option (Int32 × Mem) :=
  bnd2 (fX11_refuse (-2 : Int32) I) fun v_2 I_3 =>
  some (v_2, I_3)
set_option maxRecDepth 20000 in
theorem tX11_from_9 (E : EV) (d : Nat) (rr : Option Value × Mem) (I : Mem) (y : (Int32 × Mem)) (hf : jX11_from_9 I = some y) (hK : (fun (z : Int32 × Mem) => (some (.int z.1), z.2) = rr) y) : G E (d + 2) kX11_from 9 [some (.ref 0), none] [] I rr := by
  unfold jX11_from_9 at hf
  refine G.aload_n dX11_from_9 rfl rfl ?_
  refine G.bipush (v := -2) dX11_from_10 (by decide) ?_
  obtain ⟨v_2, I_3, hc_1, hf⟩ := bnd2_at hf
  refine G.callVi (av := [.int (-2 : Int32)]) (rest := []) dX11_from_12 mvX11_81 (gX11_refuse E (d + 1) (-2 : Int32) I hc_1) (by decide) rfl rfl rfl (Nat.le_of_ble_eq_true rfl) ?_
  have hf := Option.some.inj hf
  subst hf
  exact G.iret' dX11_from_15 rfl hK
def fX11_from (x1 : Int32) (I : Mem) : Option (Int32 × Mem) :=
  if x1 < 0 then
  (jX11_from_9 I)
  else
  (if x1 < (2 : Int32) then
  (chk (inb x1 2) <|
  if (I 34 (ix x1)) = 0 then
  (bnd2 (fX11_refuse (-3 : Int32) I) fun v_10 I_11 =>
  some (v_10, I_11))
  else
  (chk (inb x1 2) <|
  bnd (asH (fin 17 (ix x1))) fun b9_6 =>
  bnd (fX4_copy 1 b9_6 I) fun I_8 =>
  some ((1 : Int32), I_8)))
  else
  (jX11_from_9 I))
set_option maxRecDepth 20000 in
theorem gX11_from (E : EV) (d : Nat) (x1 : Int32) (I : Mem) {v : Int32} {J : Mem} (hf : fX11_from x1 I = some (v, J)) : Gm E (d + 2) kX11_from [.ref 0, .int x1] I (some (.int v), J) := by
  refine (fun (y : (Int32 × Mem)) (hf : fX11_from x1 I = some y) => (?_ : Gm E (d + 2) kX11_from [.ref 0, .int x1] I (some (.int y.1), y.2))) (v, J) hf
  refine Gm.of (by decide) rfl (Nat.le_of_ble_eq_true rfl) ?_
  generalize hrr : ((some (.int y.1), y.2) : Option Value × Mem) = rr
  show G E (d + 2) kX11_from 0 [some (.ref 0), some (.int x1)] [] I rr
  have hK : (fun (z : Int32 × Mem) => (some (.int z.1), z.2) = rr) y := hrr
  clear hrr
  unfold fX11_from at hf
  refine G.iload_n dX11_from_0 rfl rfl ?_
  refine G.if_lt (tgt := 9) dX11_from_1 (by decide) (fun c_14 => ?_) (fun c_14 => ?_)
  · have hf := ite_t hf c_14
    refine G.forget (L' := [some (.ref 0), none]) [1] rfl ?_
    exact tX11_from_9 E d rr I _ hf hK
  · have hf := ite_f hf c_14
    refine G.iload_n dX11_from_4 rfl rfl ?_
    refine G.iconst (v := 2) dX11_from_5 (by decide) ?_
    refine G.icmp_lt (tgt := 16) dX11_from_6 (by decide) (fun c_13 => ?_) (fun c_13 => ?_)
    · have hf := ite_t hf c_13
      refine G.aload_n dX11_from_16 rfl rfl ?_
      refine G.getR (q := 34) dX11_from_17 flX11_23 (by decide) rfl rfl ?_
      refine G.iload_n dX11_from_20 rfl rfl ?_
      obtain ⟨hi_4, hf⟩ := chk_at hf
      refine G.zald dX11_from_21 (by decide) rfl hi_4 ?_
      refine G.if_ne (tgt := 32) dX11_from_22 (by decide) (fun c_12 => ?_) (fun c_12 => ?_)
      · have hf := ite_f hf c_12
        refine G.aload_n dX11_from_32 rfl rfl ?_
        refine G.getR (q := 1) dX11_from_33 flX11_10 (by decide) rfl rfl ?_
        refine G.aload_n dX11_from_36 rfl rfl ?_
        refine G.getR (q := 17) dX11_from_37 flX11_19 (by decide) rfl rfl ?_
        refine G.iload_n dX11_from_40 rfl rfl ?_
        obtain ⟨hi_5, hf⟩ := chk_at hf
        obtain ⟨b9_6, hb9_6a, hf⟩ := bnd_at hf
        obtain ⟨hb9_6d, hb9_6⟩ := asH_at hb9_6a
        refine G.aaldH (q := b9_6) dX11_from_41 (by decide) rfl hi_5 hb9_6d ?_
        obtain ⟨I_8, hc_7, hf⟩ := bnd_at hf
        refine G.callVv (av := [.ref b9_6]) (rest := []) dX11_from_42 mvX11_144 (gX4_copy E d 1 b9_6 I (by unfold isH; decide) hb9_6 hc_7) (by decide) rfl rfl rfl (Nat.le_of_ble_eq_true rfl) ?_
        refine G.iconst (v := 1) dX11_from_45 (by decide) ?_
        have hf := Option.some.inj hf
        subst hf
        exact G.iret' dX11_from_46 rfl hK
      · have hf := ite_t hf c_12
        refine G.aload_n dX11_from_25 rfl rfl ?_
        refine G.bipush (v := -3) dX11_from_26 (by decide) ?_
        obtain ⟨v_10, I_11, hc_9, hf⟩ := bnd2_at hf
        refine G.callVi (av := [.int (-3 : Int32)]) (rest := []) dX11_from_28 mvX11_81 (gX11_refuse E (d + 1) (-3 : Int32) I hc_9) (by decide) rfl rfl rfl (Nat.le_of_ble_eq_true rfl) ?_
        have hf := Option.some.inj hf
        subst hf
        exact G.iret' dX11_from_31 rfl hK
    · have hf := ite_f hf c_13
      refine G.forget (L' := [some (.ref 0), none]) [1] rfl ?_
      exact tX11_from_9 E d rr I _ hf hK
theorem dX11_status_0 : decode cX11_status 0 = .ok (.iload_n 1, 1) := by decide +kernel
theorem dX11_status_1 : decode cX11_status 1 = .ok (.tableswitch 42 0 2 #[27, 32, 37], 27) := by decide +kernel
theorem dX11_status_28 : decode cX11_status 28 = .ok (.aload_n 0, 1) := by decide +kernel
theorem dX11_status_29 : decode cX11_status 29 = .ok (.getfield 263, 3) := by decide +kernel
theorem dX11_status_32 : decode cX11_status 32 = .ok (.ireturn, 1) := by decide +kernel
theorem dX11_status_33 : decode cX11_status 33 = .ok (.aload_n 0, 1) := by decide +kernel
theorem dX11_status_34 : decode cX11_status 34 = .ok (.getfield 266, 3) := by decide +kernel
theorem dX11_status_37 : decode cX11_status 37 = .ok (.ireturn, 1) := by decide +kernel
theorem dX11_status_38 : decode cX11_status 38 = .ok (.aload_n 0, 1) := by decide +kernel
theorem dX11_status_39 : decode cX11_status 39 = .ok (.getfield 269, 3) := by decide +kernel
theorem dX11_status_42 : decode cX11_status 42 = .ok (.ireturn, 1) := by decide +kernel
theorem dX11_status_43 : decode cX11_status 43 = .ok (.aload_n 0, 1) := by decide +kernel
theorem dX11_status_44 : decode cX11_status 44 = .ok (.bipush (-2), 2) := by decide +kernel
theorem dX11_status_46 : decode cX11_status 46 = .ok (.invokevirtual 81, 3) := by decide +kernel
theorem dX11_status_49 : decode cX11_status 49 = .ok (.pop, 1) := by decide +kernel
theorem dX11_status_50 : decode cX11_status 50 = .ok (.iconst (-1), 1) := by decide +kernel
theorem dX11_status_51 : decode cX11_status 51 = .ok (.ireturn, 1) := by decide +kernel
def fX11_status (x1 : Int32) (I : Mem) : Option (Int32 × Mem) :=
  if x1 = 0 then
  (some ((I 0 10), I))
  else
  (if x1 = 1 then
  (some ((I 0 11), I))
  else
  (if x1 = 2 then
  (some ((I 0 12), I))
  else
  (bnd2 (fX11_refuse (-2 : Int32) I) fun v_5 I_6 =>
  some ((-1 : Int32), I_6))))
set_option maxRecDepth 20000 in
theorem gX11_status (E : EV) (d : Nat) (x1 : Int32) (I : Mem) {v : Int32} {J : Mem} (hf : fX11_status x1 I = some (v, J)) : Gm E (d + 1) kX11_status [.ref 0, .int x1] I (some (.int v), J) := by
  refine (fun (y : (Int32 × Mem)) (hf : fX11_status x1 I = some y) => (?_ : Gm E (d + 1) kX11_status [.ref 0, .int x1] I (some (.int y.1), y.2))) (v, J) hf
  refine Gm.of (by decide) rfl (Nat.le_of_ble_eq_true rfl) ?_
  generalize hrr : ((some (.int y.1), y.2) : Option Value × Mem) = rr
  show G E (d + 1) kX11_status 0 [some (.ref 0), some (.int x1)] [] I rr
  have hK : (fun (z : Int32 × Mem) => (some (.int z.1), z.2) = rr) y := hrr
  clear hrr
  unfold fX11_status at hf
  refine G.iload_n dX11_status_0 rfl rfl ?_
  by_cases c_1 : x1 = 0
  · have hf := ite_t hf c_1
    refine G.tsw_at (j := 0) (tgt := 28) dX11_status_1 c_1 (by decide) (by decide) rfl (by decide) ?_
    refine G.aload_n dX11_status_28 rfl rfl ?_
    refine G.getI dX11_status_29 flX11_263 (by decide) rfl ?_
    have hf := Option.some.inj hf
    subst hf
    exact G.iret' dX11_status_32 rfl hK
  · have hf := ite_f hf c_1
    by_cases c_2 : x1 = 1
    · have hf := ite_t hf c_2
      refine G.tsw_at (j := 1) (tgt := 33) dX11_status_1 c_2 (by decide) (by decide) rfl (by decide) ?_
      refine G.aload_n dX11_status_33 rfl rfl ?_
      refine G.getI dX11_status_34 flX11_266 (by decide) rfl ?_
      have hf := Option.some.inj hf
      subst hf
      exact G.iret' dX11_status_37 rfl hK
    · have hf := ite_f hf c_2
      by_cases c_3 : x1 = 2
      · have hf := ite_t hf c_3
        refine G.tsw_at (j := 2) (tgt := 38) dX11_status_1 c_3 (by decide) (by decide) rfl (by decide) ?_
        refine G.aload_n dX11_status_38 rfl rfl ?_
        refine G.getI dX11_status_39 flX11_269 (by decide) rfl ?_
        have hf := Option.some.inj hf
        subst hf
        exact G.iret' dX11_status_42 rfl hK
      · have hf := ite_f hf c_3
        refine G.tsw_out (tgt := 43) dX11_status_1 (by have q0 := lv_neT (a := 0) c_1 rfl; have q1 := lv_neT (a := 1) c_2 rfl; have q2 := lv_neT (a := 2) c_3 rfl; omega) (by decide) ?_
        refine G.aload_n dX11_status_43 rfl rfl ?_
        refine G.bipush (v := -2) dX11_status_44 (by decide) ?_
        obtain ⟨v_5, I_6, hc_4, hf⟩ := bnd2_at hf
        refine G.callVi (av := [.int (-2 : Int32)]) (rest := []) dX11_status_46 mvX11_81 (gX11_refuse E d (-2 : Int32) I hc_4) (by decide) rfl rfl rfl (Nat.le_of_ble_eq_true rfl) ?_
        refine G.pop dX11_status_49 rfl ?_
        refine G.iconst (v := -1) dX11_status_50 (by decide) ?_
        have hf := Option.some.inj hf
        subst hf
        exact G.iret' dX11_status_51 rfl hK
theorem dX11_count_0 : decode cX11_count 0 = .ok (.iload_n 1, 1) := by decide +kernel
theorem dX11_count_1 : decode cX11_count 1 = .ok (.tableswitch 114 0 7 #[47, 55, 63, 71, 82, 90, 98, 106], 47) := by decide +kernel
theorem dX11_count_48 : decode cX11_count 48 = .ok (.aload_n 0, 1) := by decide +kernel
theorem dX11_count_49 : decode cX11_count 49 = .ok (.getfield 10, 3) := by decide +kernel
theorem dX11_count_52 : decode cX11_count 52 = .ok (.getfield 85, 3) := by decide +kernel
theorem dX11_count_55 : decode cX11_count 55 = .ok (.ireturn, 1) := by decide +kernel
theorem dX11_count_56 : decode cX11_count 56 = .ok (.aload_n 0, 1) := by decide +kernel
theorem dX11_count_57 : decode cX11_count 57 = .ok (.getfield 10, 3) := by decide +kernel
theorem dX11_count_60 : decode cX11_count 60 = .ok (.getfield 111, 3) := by decide +kernel
theorem dX11_count_63 : decode cX11_count 63 = .ok (.ireturn, 1) := by decide +kernel
theorem dX11_count_64 : decode cX11_count 64 = .ok (.aload_n 0, 1) := by decide +kernel
theorem dX11_count_65 : decode cX11_count 65 = .ok (.getfield 10, 3) := by decide +kernel
theorem dX11_count_68 : decode cX11_count 68 = .ok (.invokevirtual 272, 3) := by decide +kernel
theorem dX11_count_71 : decode cX11_count 71 = .ok (.ireturn, 1) := by decide +kernel
theorem dX11_count_72 : decode cX11_count 72 = .ok (.aload_n 0, 1) := by decide +kernel
theorem dX11_count_73 : decode cX11_count 73 = .ok (.getfield 10, 3) := by decide +kernel
theorem dX11_count_76 : decode cX11_count 76 = .ok (.getfield 105, 3) := by decide +kernel
theorem dX11_count_79 : decode cX11_count 79 = .ok (.invokestatic 258, 3) := by decide +kernel
theorem dX11_count_82 : decode cX11_count 82 = .ok (.ireturn, 1) := by decide +kernel
theorem dX11_count_83 : decode cX11_count 83 = .ok (.aload_n 0, 1) := by decide +kernel
theorem dX11_count_84 : decode cX11_count 84 = .ok (.getfield 10, 3) := by decide +kernel
theorem dX11_count_87 : decode cX11_count 87 = .ok (.getfield 229, 3) := by decide +kernel
theorem dX11_count_90 : decode cX11_count 90 = .ok (.ireturn, 1) := by decide +kernel
theorem dX11_count_91 : decode cX11_count 91 = .ok (.aload_n 0, 1) := by decide +kernel
theorem dX11_count_92 : decode cX11_count 92 = .ok (.getfield 10, 3) := by decide +kernel
theorem dX11_count_95 : decode cX11_count 95 = .ok (.getfield 177, 3) := by decide +kernel
theorem dX11_count_98 : decode cX11_count 98 = .ok (.ireturn, 1) := by decide +kernel
theorem dX11_count_99 : decode cX11_count 99 = .ok (.aload_n 0, 1) := by decide +kernel
theorem dX11_count_100 : decode cX11_count 100 = .ok (.getfield 10, 3) := by decide +kernel
theorem dX11_count_103 : decode cX11_count 103 = .ok (.getfield 164, 3) := by decide +kernel
theorem dX11_count_106 : decode cX11_count 106 = .ok (.ireturn, 1) := by decide +kernel
theorem dX11_count_107 : decode cX11_count 107 = .ok (.aload_n 0, 1) := by decide +kernel
theorem dX11_count_108 : decode cX11_count 108 = .ok (.getfield 30, 3) := by decide +kernel
theorem dX11_count_111 : decode cX11_count 111 = .ok (.getfield 133, 3) := by decide +kernel
theorem dX11_count_114 : decode cX11_count 114 = .ok (.ireturn, 1) := by decide +kernel
theorem dX11_count_115 : decode cX11_count 115 = .ok (.aload_n 0, 1) := by decide +kernel
theorem dX11_count_116 : decode cX11_count 116 = .ok (.bipush (-2), 2) := by decide +kernel
theorem dX11_count_118 : decode cX11_count 118 = .ok (.invokevirtual 81, 3) := by decide +kernel
theorem dX11_count_121 : decode cX11_count 121 = .ok (.ireturn, 1) := by decide +kernel
def fX11_count (x1 : Int32) (I : Mem) : Option (Int32 × Mem) :=
  if x1 = 0 then
  (some ((I 1 0), I))
  else
  (if x1 = 1 then
  (some ((I 1 2), I))
  else
  (if x1 = 2 then
  (bnd (fX4_doorCount 1 I) fun v_5 =>
  some (v_5, I))
  else
  (if x1 = 3 then
  (bnd (fJ6_bitCount_0f7a4 (I 1 1) I) fun v_8 =>
  some (v_8, I))
  else
  (if x1 = 4 then
  (some ((I 1 5), I))
  else
  (if x1 = 5 then
  (some ((I 1 6), I))
  else
  (if x1 = 6 then
  (some ((I 1 7), I))
  else
  (if x1 = 7 then
  (some ((I 35 0), I))
  else
  (bnd2 (fX11_refuse (-2 : Int32) I) fun v_14 I_15 =>
  some (v_14, I_15)))))))))
set_option maxRecDepth 20000 in
theorem gX11_count (E : EV) (d : Nat) (x1 : Int32) (I : Mem) {v : Int32} {J : Mem} (hf : fX11_count x1 I = some (v, J)) : Gm E (d + 2) kX11_count [.ref 0, .int x1] I (some (.int v), J) := by
  refine (fun (y : (Int32 × Mem)) (hf : fX11_count x1 I = some y) => (?_ : Gm E (d + 2) kX11_count [.ref 0, .int x1] I (some (.int y.1), y.2))) (v, J) hf
  refine Gm.of (by decide) rfl (Nat.le_of_ble_eq_true rfl) ?_
  generalize hrr : ((some (.int y.1), y.2) : Option Value × Mem) = rr
  show G E (d + 2) kX11_count 0 [some (.ref 0), some (.int x1)] [] I rr
  have hK : (fun (z : Int32 × Mem) => (some (.int z.1), z.2) = rr) y := hrr
  clear hrr
  unfold fX11_count at hf
  refine G.iload_n dX11_count_0 rfl rfl ?_
  by_cases c_1 : x1 = 0
  · have hf := ite_t hf c_1
    refine G.tsw_at (j := 0) (tgt := 48) dX11_count_1 c_1 (by decide) (by decide) rfl (by decide) ?_
    refine G.aload_n dX11_count_48 rfl rfl ?_
    refine G.getR (q := 1) dX11_count_49 flX11_10 (by decide) rfl rfl ?_
    refine G.getI dX11_count_52 flX11_85 (by decide) rfl ?_
    have hf := Option.some.inj hf
    subst hf
    exact G.iret' dX11_count_55 rfl hK
  · have hf := ite_f hf c_1
    by_cases c_2 : x1 = 1
    · have hf := ite_t hf c_2
      refine G.tsw_at (j := 1) (tgt := 56) dX11_count_1 c_2 (by decide) (by decide) rfl (by decide) ?_
      refine G.aload_n dX11_count_56 rfl rfl ?_
      refine G.getR (q := 1) dX11_count_57 flX11_10 (by decide) rfl rfl ?_
      refine G.getI dX11_count_60 flX11_111 (by decide) rfl ?_
      have hf := Option.some.inj hf
      subst hf
      exact G.iret' dX11_count_63 rfl hK
    · have hf := ite_f hf c_2
      by_cases c_3 : x1 = 2
      · have hf := ite_t hf c_3
        refine G.tsw_at (j := 2) (tgt := 64) dX11_count_1 c_3 (by decide) (by decide) rfl (by decide) ?_
        refine G.aload_n dX11_count_64 rfl rfl ?_
        refine G.getR (q := 1) dX11_count_65 flX11_10 (by decide) rfl rfl ?_
        obtain ⟨v_5, hc_4, hf⟩ := bnd_at hf
        refine G.callVi (av := []) (rest := []) dX11_count_68 mvX11_272 (gX4_doorCount E d 1 I (by unfold isH; decide) hc_4) (by decide) rfl rfl rfl (Nat.le_of_ble_eq_true rfl) ?_
        have hf := Option.some.inj hf
        subst hf
        exact G.iret' dX11_count_71 rfl hK
      · have hf := ite_f hf c_3
        by_cases c_6 : x1 = 3
        · have hf := ite_t hf c_6
          refine G.tsw_at (j := 3) (tgt := 72) dX11_count_1 c_6 (by decide) (by decide) rfl (by decide) ?_
          refine G.aload_n dX11_count_72 rfl rfl ?_
          refine G.getR (q := 1) dX11_count_73 flX11_10 (by decide) rfl rfl ?_
          refine G.getI dX11_count_76 flX11_105 (by decide) rfl ?_
          obtain ⟨v_8, hc_7, hf⟩ := bnd_at hf
          refine G.callSi (av := [.int (I 1 1)]) (rest := []) dX11_count_79 msX11_258 (gJ6_bitCount_0f7a4 E (d + 1) (I 1 1) I hc_7) rfl rfl (Nat.le_of_ble_eq_true rfl) ?_
          have hf := Option.some.inj hf
          subst hf
          exact G.iret' dX11_count_82 rfl hK
        · have hf := ite_f hf c_6
          by_cases c_9 : x1 = 4
          · have hf := ite_t hf c_9
            refine G.tsw_at (j := 4) (tgt := 83) dX11_count_1 c_9 (by decide) (by decide) rfl (by decide) ?_
            refine G.aload_n dX11_count_83 rfl rfl ?_
            refine G.getR (q := 1) dX11_count_84 flX11_10 (by decide) rfl rfl ?_
            refine G.getI dX11_count_87 flX11_229 (by decide) rfl ?_
            have hf := Option.some.inj hf
            subst hf
            exact G.iret' dX11_count_90 rfl hK
          · have hf := ite_f hf c_9
            by_cases c_10 : x1 = 5
            · have hf := ite_t hf c_10
              refine G.tsw_at (j := 5) (tgt := 91) dX11_count_1 c_10 (by decide) (by decide) rfl (by decide) ?_
              refine G.aload_n dX11_count_91 rfl rfl ?_
              refine G.getR (q := 1) dX11_count_92 flX11_10 (by decide) rfl rfl ?_
              refine G.getI dX11_count_95 flX11_177 (by decide) rfl ?_
              have hf := Option.some.inj hf
              subst hf
              exact G.iret' dX11_count_98 rfl hK
            · have hf := ite_f hf c_10
              by_cases c_11 : x1 = 6
              · have hf := ite_t hf c_11
                refine G.tsw_at (j := 6) (tgt := 99) dX11_count_1 c_11 (by decide) (by decide) rfl (by decide) ?_
                refine G.aload_n dX11_count_99 rfl rfl ?_
                refine G.getR (q := 1) dX11_count_100 flX11_10 (by decide) rfl rfl ?_
                refine G.getI dX11_count_103 flX11_164 (by decide) rfl ?_
                have hf := Option.some.inj hf
                subst hf
                exact G.iret' dX11_count_106 rfl hK
              · have hf := ite_f hf c_11
                by_cases c_12 : x1 = 7
                · have hf := ite_t hf c_12
                  refine G.tsw_at (j := 7) (tgt := 107) dX11_count_1 c_12 (by decide) (by decide) rfl (by decide) ?_
                  refine G.aload_n dX11_count_107 rfl rfl ?_
                  refine G.getR (q := 35) dX11_count_108 flX11_30 (by decide) rfl rfl ?_
                  refine G.getI dX11_count_111 flX11_133 (by decide) rfl ?_
                  have hf := Option.some.inj hf
                  subst hf
                  exact G.iret' dX11_count_114 rfl hK
                · have hf := ite_f hf c_12
                  refine G.tsw_out (tgt := 115) dX11_count_1 (by have q0 := lv_neT (a := 0) c_1 rfl; have q1 := lv_neT (a := 1) c_2 rfl; have q2 := lv_neT (a := 2) c_3 rfl; have q3 := lv_neT (a := 3) c_6 rfl; have q4 := lv_neT (a := 4) c_9 rfl; have q5 := lv_neT (a := 5) c_10 rfl; have q6 := lv_neT (a := 6) c_11 rfl; have q7 := lv_neT (a := 7) c_12 rfl; omega) (by decide) ?_
                  refine G.aload_n dX11_count_115 rfl rfl ?_
                  refine G.bipush (v := -2) dX11_count_116 (by decide) ?_
                  obtain ⟨v_14, I_15, hc_13, hf⟩ := bnd2_at hf
                  refine G.callVi (av := [.int (-2 : Int32)]) (rest := []) dX11_count_118 mvX11_81 (gX11_refuse E (d + 1) (-2 : Int32) I hc_13) (by decide) rfl rfl rfl (Nat.le_of_ble_eq_true rfl) ?_
                  have hf := Option.some.inj hf
                  subst hf
                  exact G.iret' dX11_count_121 rfl hK
theorem dX11_digest_0 : decode cX11_digest 0 = .ok (.ldc2_w 275, 3) := by decide +kernel
theorem dX11_digest_3 : decode cX11_digest 3 = .ok (.lstore_n 1, 1) := by decide +kernel
theorem dX11_digest_4 : decode cX11_digest 4 = .ok (.iconst 0, 1) := by decide +kernel
theorem dX11_digest_5 : decode cX11_digest 5 = .ok (.istore_n 3, 1) := by decide +kernel
theorem dX11_digest_6 : decode cX11_digest 6 = .ok (.iload_n 3, 1) := by decide +kernel
theorem dX11_digest_7 : decode cX11_digest 7 = .ok (.bipush 8, 2) := by decide +kernel
theorem dX11_digest_9 : decode cX11_digest 9 = .ok (.if_icmp .ge 22, 3) := by decide +kernel
theorem dX11_digest_12 : decode cX11_digest 12 = .ok (.ldc2_w 277, 3) := by decide +kernel
theorem dX11_digest_15 : decode cX11_digest 15 = .ok (.lload_n 1, 1) := by decide +kernel
theorem dX11_digest_16 : decode cX11_digest 16 = .ok (.lmul, 1) := by decide +kernel
theorem dX11_digest_17 : decode cX11_digest 17 = .ok (.aload_n 0, 1) := by decide +kernel
theorem dX11_digest_18 : decode cX11_digest 18 = .ok (.iload_n 3, 1) := by decide +kernel
theorem dX11_digest_19 : decode cX11_digest 19 = .ok (.invokevirtual 279, 3) := by decide +kernel
theorem dX11_digest_22 : decode cX11_digest 22 = .ok (.i2l, 1) := by decide +kernel
theorem dX11_digest_23 : decode cX11_digest 23 = .ok (.ladd, 1) := by decide +kernel
theorem dX11_digest_24 : decode cX11_digest 24 = .ok (.lstore_n 1, 1) := by decide +kernel
theorem dX11_digest_25 : decode cX11_digest 25 = .ok (.iinc 3 1, 3) := by decide +kernel
theorem dX11_digest_28 : decode cX11_digest 28 = .ok (.goto (-22), 3) := by decide +kernel
theorem dX11_digest_31 : decode cX11_digest 31 = .ok (.ldc2_w 277, 3) := by decide +kernel
theorem dX11_digest_34 : decode cX11_digest 34 = .ok (.lload_n 1, 1) := by decide +kernel
theorem dX11_digest_35 : decode cX11_digest 35 = .ok (.lmul, 1) := by decide +kernel
theorem dX11_digest_36 : decode cX11_digest 36 = .ok (.aload_n 0, 1) := by decide +kernel
theorem dX11_digest_37 : decode cX11_digest 37 = .ok (.getfield 10, 3) := by decide +kernel
theorem dX11_digest_40 : decode cX11_digest 40 = .ok (.getfield 120, 3) := by decide +kernel
theorem dX11_digest_43 : decode cX11_digest 43 = .ok (.i2l, 1) := by decide +kernel
theorem dX11_digest_44 : decode cX11_digest 44 = .ok (.ladd, 1) := by decide +kernel
theorem dX11_digest_45 : decode cX11_digest 45 = .ok (.lstore_n 1, 1) := by decide +kernel
theorem dX11_digest_46 : decode cX11_digest 46 = .ok (.ldc2_w 277, 3) := by decide +kernel
theorem dX11_digest_49 : decode cX11_digest 49 = .ok (.lload_n 1, 1) := by decide +kernel
theorem dX11_digest_50 : decode cX11_digest 50 = .ok (.lmul, 1) := by decide +kernel
theorem dX11_digest_51 : decode cX11_digest 51 = .ok (.aload_n 0, 1) := by decide +kernel
theorem dX11_digest_52 : decode cX11_digest 52 = .ok (.getfield 10, 3) := by decide +kernel
theorem dX11_digest_55 : decode cX11_digest 55 = .ok (.getfield 151, 3) := by decide +kernel
theorem dX11_digest_58 : decode cX11_digest 58 = .ok (.i2l, 1) := by decide +kernel
theorem dX11_digest_59 : decode cX11_digest 59 = .ok (.ladd, 1) := by decide +kernel
theorem dX11_digest_60 : decode cX11_digest 60 = .ok (.lstore_n 1, 1) := by decide +kernel
theorem dX11_digest_61 : decode cX11_digest 61 = .ok (.iconst 0, 1) := by decide +kernel
theorem dX11_digest_62 : decode cX11_digest 62 = .ok (.istore_n 3, 1) := by decide +kernel
theorem dX11_digest_63 : decode cX11_digest 63 = .ok (.iload_n 3, 1) := by decide +kernel
theorem dX11_digest_64 : decode cX11_digest 64 = .ok (.aload_n 0, 1) := by decide +kernel
theorem dX11_digest_65 : decode cX11_digest 65 = .ok (.getfield 10, 3) := by decide +kernel
theorem dX11_digest_68 : decode cX11_digest 68 = .ok (.getfield 111, 3) := by decide +kernel
theorem dX11_digest_71 : decode cX11_digest 71 = .ok (.if_icmp .ge 63, 3) := by decide +kernel
theorem dX11_digest_74 : decode cX11_digest 74 = .ok (.ldc2_w 277, 3) := by decide +kernel
theorem dX11_digest_77 : decode cX11_digest 77 = .ok (.lload_n 1, 1) := by decide +kernel
theorem dX11_digest_78 : decode cX11_digest 78 = .ok (.lmul, 1) := by decide +kernel
theorem dX11_digest_79 : decode cX11_digest 79 = .ok (.aload_n 0, 1) := by decide +kernel
theorem dX11_digest_80 : decode cX11_digest 80 = .ok (.getfield 10, 3) := by decide +kernel
theorem dX11_digest_83 : decode cX11_digest 83 = .ok (.getfield 171, 3) := by decide +kernel
theorem dX11_digest_86 : decode cX11_digest 86 = .ok (.iload_n 3, 1) := by decide +kernel
theorem dX11_digest_87 : decode cX11_digest 87 = .ok (.iaload, 1) := by decide +kernel
theorem dX11_digest_88 : decode cX11_digest 88 = .ok (.i2l, 1) := by decide +kernel
theorem dX11_digest_89 : decode cX11_digest 89 = .ok (.ladd, 1) := by decide +kernel
theorem dX11_digest_90 : decode cX11_digest 90 = .ok (.lstore_n 1, 1) := by decide +kernel
theorem dX11_digest_91 : decode cX11_digest 91 = .ok (.iconst 1, 1) := by decide +kernel
theorem dX11_digest_92 : decode cX11_digest 92 = .ok (.istore 4, 2) := by decide +kernel
theorem dX11_digest_94 : decode cX11_digest 94 = .ok (.iload 4, 2) := by decide +kernel
theorem dX11_digest_96 : decode cX11_digest 96 = .ok (.iconst 4, 1) := by decide +kernel
theorem dX11_digest_97 : decode cX11_digest 97 = .ok (.if_icmp .gt 31, 3) := by decide +kernel
theorem dX11_digest_100 : decode cX11_digest 100 = .ok (.ldc2_w 277, 3) := by decide +kernel
theorem dX11_digest_103 : decode cX11_digest 103 = .ok (.lload_n 1, 1) := by decide +kernel
theorem dX11_digest_104 : decode cX11_digest 104 = .ok (.lmul, 1) := by decide +kernel
theorem dX11_digest_105 : decode cX11_digest 105 = .ok (.aload_n 0, 1) := by decide +kernel
theorem dX11_digest_106 : decode cX11_digest 106 = .ok (.getfield 10, 3) := by decide +kernel
theorem dX11_digest_109 : decode cX11_digest 109 = .ok (.getfield 130, 3) := by decide +kernel
theorem dX11_digest_112 : decode cX11_digest 112 = .ok (.iload_n 3, 1) := by decide +kernel
theorem dX11_digest_113 : decode cX11_digest 113 = .ok (.iload 4, 2) := by decide +kernel
theorem dX11_digest_115 : decode cX11_digest 115 = .ok (.invokestatic 126, 3) := by decide +kernel
theorem dX11_digest_118 : decode cX11_digest 118 = .ok (.iaload, 1) := by decide +kernel
theorem dX11_digest_119 : decode cX11_digest 119 = .ok (.i2l, 1) := by decide +kernel
theorem dX11_digest_120 : decode cX11_digest 120 = .ok (.ladd, 1) := by decide +kernel
theorem dX11_digest_121 : decode cX11_digest 121 = .ok (.lstore_n 1, 1) := by decide +kernel
theorem dX11_digest_122 : decode cX11_digest 122 = .ok (.iinc 4 1, 3) := by decide +kernel
theorem dX11_digest_125 : decode cX11_digest 125 = .ok (.goto (-31), 3) := by decide +kernel
theorem dX11_digest_128 : decode cX11_digest 128 = .ok (.iinc 3 1, 3) := by decide +kernel
theorem dX11_digest_131 : decode cX11_digest 131 = .ok (.goto (-68), 3) := by decide +kernel
theorem dX11_digest_134 : decode cX11_digest 134 = .ok (.iconst 0, 1) := by decide +kernel
theorem dX11_digest_135 : decode cX11_digest 135 = .ok (.istore_n 3, 1) := by decide +kernel
theorem dX11_digest_136 : decode cX11_digest 136 = .ok (.iload_n 3, 1) := by decide +kernel
theorem dX11_digest_137 : decode cX11_digest 137 = .ok (.aload_n 0, 1) := by decide +kernel
theorem dX11_digest_138 : decode cX11_digest 138 = .ok (.getfield 10, 3) := by decide +kernel
theorem dX11_digest_141 : decode cX11_digest 141 = .ok (.getfield 85, 3) := by decide +kernel
theorem dX11_digest_144 : decode cX11_digest 144 = .ok (.if_icmp .ge 87, 3) := by decide +kernel
theorem dX11_digest_147 : decode cX11_digest 147 = .ok (.ldc2_w 277, 3) := by decide +kernel
theorem dX11_digest_150 : decode cX11_digest 150 = .ok (.lload_n 1, 1) := by decide +kernel
theorem dX11_digest_151 : decode cX11_digest 151 = .ok (.lmul, 1) := by decide +kernel
theorem dX11_digest_152 : decode cX11_digest 152 = .ok (.aload_n 0, 1) := by decide +kernel
theorem dX11_digest_153 : decode cX11_digest 153 = .ok (.getfield 10, 3) := by decide +kernel
theorem dX11_digest_156 : decode cX11_digest 156 = .ok (.getfield 108, 3) := by decide +kernel
theorem dX11_digest_159 : decode cX11_digest 159 = .ok (.iload_n 3, 1) := by decide +kernel
theorem dX11_digest_160 : decode cX11_digest 160 = .ok (.iaload, 1) := by decide +kernel
theorem dX11_digest_161 : decode cX11_digest 161 = .ok (.i2l, 1) := by decide +kernel
theorem dX11_digest_162 : decode cX11_digest 162 = .ok (.ladd, 1) := by decide +kernel
theorem dX11_digest_163 : decode cX11_digest 163 = .ok (.lstore_n 1, 1) := by decide +kernel
theorem dX11_digest_164 : decode cX11_digest 164 = .ok (.ldc2_w 277, 3) := by decide +kernel
theorem dX11_digest_167 : decode cX11_digest 167 = .ok (.lload_n 1, 1) := by decide +kernel
theorem dX11_digest_168 : decode cX11_digest 168 = .ok (.lmul, 1) := by decide +kernel
theorem dX11_digest_169 : decode cX11_digest 169 = .ok (.aload_n 0, 1) := by decide +kernel
theorem dX11_digest_170 : decode cX11_digest 170 = .ok (.getfield 10, 3) := by decide +kernel
theorem dX11_digest_173 : decode cX11_digest 173 = .ok (.getfield 105, 3) := by decide +kernel
theorem dX11_digest_176 : decode cX11_digest 176 = .ok (.iload_n 3, 1) := by decide +kernel
theorem dX11_digest_177 : decode cX11_digest 177 = .ok (.invokestatic 101, 3) := by decide +kernel
theorem dX11_digest_180 : decode cX11_digest 180 = .ok (.ifCond .eq 7, 3) := by decide +kernel
theorem dX11_digest_183 : decode cX11_digest 183 = .ok (.iconst 1, 1) := by decide +kernel
theorem dX11_digest_184 : decode cX11_digest 184 = .ok (.goto 4, 3) := by decide +kernel
theorem dX11_digest_187 : decode cX11_digest 187 = .ok (.iconst 0, 1) := by decide +kernel
theorem dX11_digest_188 : decode cX11_digest 188 = .ok (.i2l, 1) := by decide +kernel
theorem dX11_digest_189 : decode cX11_digest 189 = .ok (.ladd, 1) := by decide +kernel
theorem dX11_digest_190 : decode cX11_digest 190 = .ok (.lstore_n 1, 1) := by decide +kernel
theorem dX11_digest_191 : decode cX11_digest 191 = .ok (.ldc2_w 277, 3) := by decide +kernel
theorem dX11_digest_194 : decode cX11_digest 194 = .ok (.lload_n 1, 1) := by decide +kernel
theorem dX11_digest_195 : decode cX11_digest 195 = .ok (.lmul, 1) := by decide +kernel
theorem dX11_digest_196 : decode cX11_digest 196 = .ok (.aload_n 0, 1) := by decide +kernel
theorem dX11_digest_197 : decode cX11_digest 197 = .ok (.getfield 10, 3) := by decide +kernel
theorem dX11_digest_200 : decode cX11_digest 200 = .ok (.getfield 97, 3) := by decide +kernel
theorem dX11_digest_203 : decode cX11_digest 203 = .ok (.iload_n 3, 1) := by decide +kernel
theorem dX11_digest_204 : decode cX11_digest 204 = .ok (.iaload, 1) := by decide +kernel
theorem dX11_digest_205 : decode cX11_digest 205 = .ok (.i2l, 1) := by decide +kernel
theorem dX11_digest_206 : decode cX11_digest 206 = .ok (.ladd, 1) := by decide +kernel
theorem dX11_digest_207 : decode cX11_digest 207 = .ok (.lstore_n 1, 1) := by decide +kernel
theorem dX11_digest_208 : decode cX11_digest 208 = .ok (.ldc2_w 277, 3) := by decide +kernel
theorem dX11_digest_211 : decode cX11_digest 211 = .ok (.lload_n 1, 1) := by decide +kernel
theorem dX11_digest_212 : decode cX11_digest 212 = .ok (.lmul, 1) := by decide +kernel
theorem dX11_digest_213 : decode cX11_digest 213 = .ok (.aload_n 0, 1) := by decide +kernel
theorem dX11_digest_214 : decode cX11_digest 214 = .ok (.getfield 10, 3) := by decide +kernel
theorem dX11_digest_217 : decode cX11_digest 217 = .ok (.getfield 223, 3) := by decide +kernel
theorem dX11_digest_220 : decode cX11_digest 220 = .ok (.iload_n 3, 1) := by decide +kernel
theorem dX11_digest_221 : decode cX11_digest 221 = .ok (.iaload, 1) := by decide +kernel
theorem dX11_digest_222 : decode cX11_digest 222 = .ok (.i2l, 1) := by decide +kernel
theorem dX11_digest_223 : decode cX11_digest 223 = .ok (.ladd, 1) := by decide +kernel
theorem dX11_digest_224 : decode cX11_digest 224 = .ok (.lstore_n 1, 1) := by decide +kernel
theorem dX11_digest_225 : decode cX11_digest 225 = .ok (.iinc 3 1, 3) := by decide +kernel
theorem dX11_digest_228 : decode cX11_digest 228 = .ok (.goto (-92), 3) := by decide +kernel
theorem dX11_digest_231 : decode cX11_digest 231 = .ok (.iconst 0, 1) := by decide +kernel
theorem dX11_digest_232 : decode cX11_digest 232 = .ok (.istore_n 3, 1) := by decide +kernel
theorem dX11_digest_233 : decode cX11_digest 233 = .ok (.iload_n 3, 1) := by decide +kernel
theorem dX11_digest_234 : decode cX11_digest 234 = .ok (.aload_n 0, 1) := by decide +kernel
theorem dX11_digest_235 : decode cX11_digest 235 = .ok (.getfield 10, 3) := by decide +kernel
theorem dX11_digest_238 : decode cX11_digest 238 = .ok (.getfield 177, 3) := by decide +kernel
theorem dX11_digest_241 : decode cX11_digest 241 = .ok (.if_icmp .ge 26, 3) := by decide +kernel
theorem dX11_digest_244 : decode cX11_digest 244 = .ok (.ldc2_w 277, 3) := by decide +kernel
theorem dX11_digest_247 : decode cX11_digest 247 = .ok (.lload_n 1, 1) := by decide +kernel
theorem dX11_digest_248 : decode cX11_digest 248 = .ok (.lmul, 1) := by decide +kernel
theorem dX11_digest_249 : decode cX11_digest 249 = .ok (.aload_n 0, 1) := by decide +kernel
theorem dX11_digest_250 : decode cX11_digest 250 = .ok (.getfield 10, 3) := by decide +kernel
theorem dX11_digest_253 : decode cX11_digest 253 = .ok (.getfield 180, 3) := by decide +kernel
theorem dX11_digest_256 : decode cX11_digest 256 = .ok (.iload_n 3, 1) := by decide +kernel
theorem dX11_digest_257 : decode cX11_digest 257 = .ok (.iaload, 1) := by decide +kernel
theorem dX11_digest_258 : decode cX11_digest 258 = .ok (.i2l, 1) := by decide +kernel
theorem dX11_digest_259 : decode cX11_digest 259 = .ok (.ladd, 1) := by decide +kernel
theorem dX11_digest_260 : decode cX11_digest 260 = .ok (.lstore_n 1, 1) := by decide +kernel
theorem dX11_digest_261 : decode cX11_digest 261 = .ok (.iinc 3 1, 3) := by decide +kernel
theorem dX11_digest_264 : decode cX11_digest 264 = .ok (.goto (-31), 3) := by decide +kernel
theorem dX11_digest_267 : decode cX11_digest 267 = .ok (.lload_n 1, 1) := by decide +kernel
theorem dX11_digest_268 : decode cX11_digest 268 = .ok (.lreturn, 1) := by decide +kernel
def KX11_digest_6 (E : EV) (d : Nat) (rr : Option Value × Mem) (Kp : (Int64 × Mem) → Prop) : ((Int64 × Int32 × Mem) ⊕ (Int64 × Mem)) → Prop
  | .inl q => G E (d + 3) kX11_digest 6 [some (.ref 0), some (.long q.1), none, some (.int q.2.1), none] [] q.2.2 rr
  | .inr z => Kp z
def KX11_digest_63 (E : EV) (d : Nat) (rr : Option Value × Mem) (I : Mem) (Kp : (Int64 × Mem) → Prop) : ((Int64 × Int32) ⊕ (Int64 × Mem)) → Prop
  | .inl q => G E (d + 3) kX11_digest 63 [some (.ref 0), some (.long q.1), none, some (.int q.2), none] [] I rr
  | .inr z => Kp z
def KX11_digest_136 (E : EV) (d : Nat) (rr : Option Value × Mem) (I : Mem) (Kp : (Int64 × Mem) → Prop) : ((Int64 × Int32) ⊕ (Int64 × Mem)) → Prop
  | .inl q => G E (d + 3) kX11_digest 136 [some (.ref 0), some (.long q.1), none, some (.int q.2), none] [] I rr
  | .inr z => Kp z
def KX11_digest_233 (E : EV) (d : Nat) (rr : Option Value × Mem) (I : Mem) (Kp : (Int64 × Mem) → Prop) : ((Int64 × Int32) ⊕ (Int64 × Mem)) → Prop
  | .inl q => G E (d + 3) kX11_digest 233 [some (.ref 0), some (.long q.1), none, some (.int q.2), none] [] I rr
  | .inr z => Kp z
def bX11_digest_233 (I : Mem) (l1 : Int64) (x3 : Int32) : Option ((Int64 × Int32) ⊕ (Int64 × Mem)) :=
  if (I 1 6) ≤ x3 then
  (some (.inr (l1, I)))
  else
  (chk (inb x3 8) <|
  letb (((31 : Int64) * l1) + (Int32.toInt64 (I 7 (ix x3)))) fun l1_4 =>
  some (.inl (l1_4, (x3 + (1 : Int32)))))
def sX11_digest_233 (I : Mem) (q : (Int64 × Int32)) : Option ((Int64 × Int32) ⊕ (Int64 × Mem)) := bX11_digest_233 I q.1 q.2
set_option maxRecDepth 20000 in
theorem wX11_digest_233 (E : EV) (d : Nat) (rr : Option Value × Mem) (I : Mem) (l1 : Int64) (x3 : Int32) (y : ((Int64 × Int32) ⊕ (Int64 × Mem))) (hf : bX11_digest_233 I l1 x3 = some y) (hK : (KX11_digest_233 E d rr I (fun (z : Int64 × Mem) => (some (.long z.1), z.2) = rr)) y) : G E (d + 3) kX11_digest 233 [some (.ref 0), some (.long l1), none, some (.int x3), none] [] I rr := by
  unfold bX11_digest_233 at hf
  refine G.iload_n dX11_digest_233 rfl rfl ?_
  refine G.aload_n dX11_digest_234 rfl rfl ?_
  refine G.getR (q := 1) dX11_digest_235 flX11_10 (by decide) rfl rfl ?_
  refine G.getI dX11_digest_238 flX11_177 (by decide) rfl ?_
  refine G.icmp_ge (tgt := 267) dX11_digest_241 (by decide) (fun c_5 => ?_) (fun c_5 => ?_)
  · have hf := ite_t hf c_5
    refine G.lload_n dX11_digest_267 rfl rfl ?_
    have hf := Option.some.inj hf
    subst hf
    exact G.lret' dX11_digest_268 rfl hK
  · have hf := ite_f hf c_5
    refine G.ldc2 (v := 31) dX11_digest_244 kcX11_277 ?_
    refine G.lload_n dX11_digest_247 rfl rfl ?_
    refine G.lmul dX11_digest_248 ?_
    refine G.aload_n dX11_digest_249 rfl rfl ?_
    refine G.getR (q := 1) dX11_digest_250 flX11_10 (by decide) rfl rfl ?_
    refine G.getR (q := 7) dX11_digest_253 flX11_180 (by decide) rfl rfl ?_
    refine G.iload_n dX11_digest_256 rfl rfl ?_
    obtain ⟨hi_3, hf⟩ := chk_at hf
    refine G.iald' dX11_digest_257 (by decide) rfl rfl hi_3 ?_
    refine G.i2l dX11_digest_258 ?_
    refine G.ladd dX11_digest_259 ?_
    refine G.nml (fun l1_4 e_l1_4 => ?_)
    have hf := letb_at hf e_l1_4
    clear e_l1_4
    refine G.lstore_n (L' := [some (.ref 0), some (.long l1_4), none, some (.int x3), none]) dX11_digest_260 rfl (Nat.le_of_ble_eq_true rfl) (Nat.le_of_ble_eq_true rfl) rfl rfl ?_
    refine G.inc (w := 1) (L' := [some (.ref 0), some (.long l1_4), none, some (.int (x3 + (1 : Int32))), none]) dX11_digest_261 (by decide) rfl (Nat.le_of_ble_eq_true rfl) rfl rfl ?_
    refine G.goto (tgt := 233) dX11_digest_264 (by decide) ?_
    have hf := Option.some.inj hf
    subst hf
    exact hK
theorem lX11_digest_233 (E : EV) (d : Nat) (rr : Option Value × Mem) (I : Mem) (z : (Int64 × Mem)) (hK : (fun (z : Int64 × Mem) => (some (.long z.1), z.2) = rr) z) : ∀ (n : Nat) (q : (Int64 × Int32)), iter (sX11_digest_233 I) n q = some z → G E (d + 3) kX11_digest 233 [some (.ref 0), some (.long q.1), none, some (.int q.2), none] [] I rr := by
  intro n
  induction n with
  | zero => intro q h; cases h
  | succ n ih =>
    intro q h
    rcases iter_at h with ⟨q2, hs, h2⟩ | hs
    · exact wX11_digest_233 E d rr I q.1 q.2 _ hs (ih q2 h2)
    · exact wX11_digest_233 E d rr I q.1 q.2 _ hs hK
def jX11_digest_188 (x3 : Int32) (u0 : Int32) (u1 : Int64) (I : Mem) : Option ((Int64 × Int32) ⊕ (Int64 × Mem)) :=
  letb (u1 + (Int32.toInt64 u0)) fun l1_11 =>
  chk (inb x3 5) <|
  letb (((31 : Int64) * l1_11) + (Int32.toInt64 (I 2 (ix x3)))) fun l1_13 =>
  chk (inb x3 5) <|
  letb (((31 : Int64) * l1_13) + (Int32.toInt64 (I 4 (ix x3)))) fun l1_15 =>
  some (.inl (l1_15, (x3 + (1 : Int32))))
set_option maxRecDepth 20000 in
theorem tX11_digest_188 (E : EV) (d : Nat) (rr : Option Value × Mem) (x3 : Int32) (u0 : Int32) (u1 : Int64) (I : Mem) (y : ((Int64 × Int32) ⊕ (Int64 × Mem))) (hf : jX11_digest_188 x3 u0 u1 I = some y) (hK : (KX11_digest_136 E d rr I (fun (z : Int64 × Mem) => (some (.long z.1), z.2) = rr)) y) : G E (d + 3) kX11_digest 188 [some (.ref 0), none, none, some (.int x3), none] [.int u0, .long u1] I rr := by
  unfold jX11_digest_188 at hf
  refine G.i2l dX11_digest_188 ?_
  refine G.ladd dX11_digest_189 ?_
  refine G.nml (fun l1_11 e_l1_11 => ?_)
  have hf := letb_at hf e_l1_11
  clear e_l1_11
  refine G.lstore_n (L' := [some (.ref 0), some (.long l1_11), none, some (.int x3), none]) dX11_digest_190 rfl (Nat.le_of_ble_eq_true rfl) (Nat.le_of_ble_eq_true rfl) rfl rfl ?_
  refine G.ldc2 (v := 31) dX11_digest_191 kcX11_277 ?_
  refine G.lload_n dX11_digest_194 rfl rfl ?_
  refine G.lmul dX11_digest_195 ?_
  refine G.aload_n dX11_digest_196 rfl rfl ?_
  refine G.getR (q := 1) dX11_digest_197 flX11_10 (by decide) rfl rfl ?_
  refine G.getR (q := 2) dX11_digest_200 flX11_97 (by decide) rfl rfl ?_
  refine G.iload_n dX11_digest_203 rfl rfl ?_
  obtain ⟨hi_12, hf⟩ := chk_at hf
  refine G.iald' dX11_digest_204 (by decide) rfl rfl hi_12 ?_
  refine G.i2l dX11_digest_205 ?_
  refine G.ladd dX11_digest_206 ?_
  refine G.nml (fun l1_13 e_l1_13 => ?_)
  have hf := letb_at hf e_l1_13
  clear e_l1_13
  refine G.lstore_n (L' := [some (.ref 0), some (.long l1_13), none, some (.int x3), none]) dX11_digest_207 rfl (Nat.le_of_ble_eq_true rfl) (Nat.le_of_ble_eq_true rfl) rfl rfl ?_
  refine G.ldc2 (v := 31) dX11_digest_208 kcX11_277 ?_
  refine G.lload_n dX11_digest_211 rfl rfl ?_
  refine G.lmul dX11_digest_212 ?_
  refine G.aload_n dX11_digest_213 rfl rfl ?_
  refine G.getR (q := 1) dX11_digest_214 flX11_10 (by decide) rfl rfl ?_
  refine G.getR (q := 4) dX11_digest_217 flX11_223 (by decide) rfl rfl ?_
  refine G.iload_n dX11_digest_220 rfl rfl ?_
  obtain ⟨hi_14, hf⟩ := chk_at hf
  refine G.iald' dX11_digest_221 (by decide) rfl rfl hi_14 ?_
  refine G.i2l dX11_digest_222 ?_
  refine G.ladd dX11_digest_223 ?_
  refine G.nml (fun l1_15 e_l1_15 => ?_)
  have hf := letb_at hf e_l1_15
  clear e_l1_15
  refine G.lstore_n (L' := [some (.ref 0), some (.long l1_15), none, some (.int x3), none]) dX11_digest_224 rfl (Nat.le_of_ble_eq_true rfl) (Nat.le_of_ble_eq_true rfl) rfl rfl ?_
  refine G.inc (w := 1) (L' := [some (.ref 0), some (.long l1_15), none, some (.int (x3 + (1 : Int32))), none]) dX11_digest_225 (by decide) rfl (Nat.le_of_ble_eq_true rfl) rfl rfl ?_
  refine G.goto (tgt := 136) dX11_digest_228 (by decide) ?_
  have hf := Option.some.inj hf
  subst hf
  exact hK
def bX11_digest_136 (I : Mem) (l1 : Int64) (x3 : Int32) : Option ((Int64 × Int32) ⊕ (Int64 × Mem)) :=
  if (I 1 0) ≤ x3 then
  (inrO (iter (sX11_digest_233 I) FU (l1, (0 : Int32))))
  else
  (chk (inb x3 5) <|
  letb (((31 : Int64) * l1) + (Int32.toInt64 (I 3 (ix x3)))) fun l1_8 =>
  bnd (fX11_has (I 1 1) x3 I) fun v_10 =>
  if v_10 = 0 then
  (jX11_digest_188 x3 (0 : Int32) ((31 : Int64) * l1_8) I)
  else
  (jX11_digest_188 x3 (1 : Int32) ((31 : Int64) * l1_8) I))
def sX11_digest_136 (I : Mem) (q : (Int64 × Int32)) : Option ((Int64 × Int32) ⊕ (Int64 × Mem)) := bX11_digest_136 I q.1 q.2
set_option maxRecDepth 20000 in
theorem wX11_digest_136 (E : EV) (d : Nat) (rr : Option Value × Mem) (I : Mem) (l1 : Int64) (x3 : Int32) (y : ((Int64 × Int32) ⊕ (Int64 × Mem))) (hf : bX11_digest_136 I l1 x3 = some y) (hK : (KX11_digest_136 E d rr I (fun (z : Int64 × Mem) => (some (.long z.1), z.2) = rr)) y) : G E (d + 3) kX11_digest 136 [some (.ref 0), some (.long l1), none, some (.int x3), none] [] I rr := by
  unfold bX11_digest_136 at hf
  refine G.iload_n dX11_digest_136 rfl rfl ?_
  refine G.aload_n dX11_digest_137 rfl rfl ?_
  refine G.getR (q := 1) dX11_digest_138 flX11_10 (by decide) rfl rfl ?_
  refine G.getI dX11_digest_141 flX11_85 (by decide) rfl ?_
  refine G.icmp_ge (tgt := 231) dX11_digest_144 (by decide) (fun c_17 => ?_) (fun c_17 => ?_)
  · have hf := ite_t hf c_17
    refine G.iconst (v := 0) dX11_digest_231 (by decide) ?_
    refine G.istore_n (L' := [some (.ref 0), some (.long l1), none, some (.int (0 : Int32)), none]) dX11_digest_232 rfl (Nat.le_of_ble_eq_true rfl) (Nat.le_of_ble_eq_true rfl) rfl rfl ?_
    obtain ⟨z_6, hz_6, rfl⟩ := inrO_at hf
    have hf := hz_6
    exact lX11_digest_233 E d rr I _ hK FU _ hf
  · have hf := ite_f hf c_17
    refine G.ldc2 (v := 31) dX11_digest_147 kcX11_277 ?_
    refine G.lload_n dX11_digest_150 rfl rfl ?_
    refine G.lmul dX11_digest_151 ?_
    refine G.aload_n dX11_digest_152 rfl rfl ?_
    refine G.getR (q := 1) dX11_digest_153 flX11_10 (by decide) rfl rfl ?_
    refine G.getR (q := 3) dX11_digest_156 flX11_108 (by decide) rfl rfl ?_
    refine G.iload_n dX11_digest_159 rfl rfl ?_
    obtain ⟨hi_7, hf⟩ := chk_at hf
    refine G.iald' dX11_digest_160 (by decide) rfl rfl hi_7 ?_
    refine G.i2l dX11_digest_161 ?_
    refine G.ladd dX11_digest_162 ?_
    refine G.nml (fun l1_8 e_l1_8 => ?_)
    have hf := letb_at hf e_l1_8
    clear e_l1_8
    refine G.lstore_n (L' := [some (.ref 0), some (.long l1_8), none, some (.int x3), none]) dX11_digest_163 rfl (Nat.le_of_ble_eq_true rfl) (Nat.le_of_ble_eq_true rfl) rfl rfl ?_
    refine G.ldc2 (v := 31) dX11_digest_164 kcX11_277 ?_
    refine G.lload_n dX11_digest_167 rfl rfl ?_
    refine G.lmul dX11_digest_168 ?_
    refine G.aload_n dX11_digest_169 rfl rfl ?_
    refine G.getR (q := 1) dX11_digest_170 flX11_10 (by decide) rfl rfl ?_
    refine G.getI dX11_digest_173 flX11_105 (by decide) rfl ?_
    refine G.iload_n dX11_digest_176 rfl rfl ?_
    obtain ⟨v_10, hc_9, hf⟩ := bnd_at hf
    refine G.callSi (av := [.int (I 1 1), .int x3]) (rest := [.long ((31 : Int64) * l1_8)]) dX11_digest_177 msX11_101 (gX11_has E (d + 2) (I 1 1) x3 I hc_9) rfl rfl (Nat.le_of_ble_eq_true rfl) ?_
    refine G.if_eq (tgt := 187) dX11_digest_180 (by decide) (fun c_16 => ?_) (fun c_16 => ?_)
    · have hf := ite_t hf c_16
      refine G.iconst (v := 0) dX11_digest_187 (by decide) ?_
      refine G.forget (L' := [some (.ref 0), none, none, some (.int x3), none]) [1] rfl ?_
      exact tX11_digest_188 E d rr x3 (0 : Int32) ((31 : Int64) * l1_8) I _ hf hK
    · have hf := ite_f hf c_16
      refine G.iconst (v := 1) dX11_digest_183 (by decide) ?_
      refine G.goto (tgt := 188) dX11_digest_184 (by decide) ?_
      refine G.forget (L' := [some (.ref 0), none, none, some (.int x3), none]) [1] rfl ?_
      exact tX11_digest_188 E d rr x3 (1 : Int32) ((31 : Int64) * l1_8) I _ hf hK
theorem lX11_digest_136 (E : EV) (d : Nat) (rr : Option Value × Mem) (I : Mem) (z : (Int64 × Mem)) (hK : (fun (z : Int64 × Mem) => (some (.long z.1), z.2) = rr) z) : ∀ (n : Nat) (q : (Int64 × Int32)), iter (sX11_digest_136 I) n q = some z → G E (d + 3) kX11_digest 136 [some (.ref 0), some (.long q.1), none, some (.int q.2), none] [] I rr := by
  intro n
  induction n with
  | zero => intro q h; cases h
  | succ n ih =>
    intro q h
    rcases iter_at h with ⟨q2, hs, h2⟩ | hs
    · exact wX11_digest_136 E d rr I q.1 q.2 _ hs (ih q2 h2)
    · exact wX11_digest_136 E d rr I q.1 q.2 _ hs hK
def KX11_digest_94 (E : EV) (d : Nat) (rr : Option Value × Mem) (x3 : Int32) (I : Mem) (Kp : ((Int64 × Int32) ⊕ (Int64 × Mem)) → Prop) : ((Int64 × Int32) ⊕ ((Int64 × Int32) ⊕ (Int64 × Mem))) → Prop
  | .inl q => G E (d + 3) kX11_digest 94 [some (.ref 0), some (.long q.1), none, some (.int x3), some (.int q.2)] [] I rr
  | .inr z => Kp z
def bX11_digest_94 (x3 : Int32) (I : Mem) (l1 : Int64) (x4 : Int32) : Option ((Int64 × Int32) ⊕ ((Int64 × Int32) ⊕ (Int64 × Mem))) :=
  if (4 : Int32) < x4 then
  (some (.inr (.inl (l1, (x3 + (1 : Int32))))))
  else
  (bnd (fX11_wishPlace x3 x4 I) fun v_22 =>
  chk (inb v_22 16) <|
  letb (((31 : Int64) * l1) + (Int32.toInt64 (I 6 (ix v_22)))) fun l1_24 =>
  some (.inl (l1_24, (x4 + (1 : Int32)))))
def sX11_digest_94 (x3 : Int32) (I : Mem) (q : (Int64 × Int32)) : Option ((Int64 × Int32) ⊕ ((Int64 × Int32) ⊕ (Int64 × Mem))) := bX11_digest_94 x3 I q.1 q.2
set_option maxRecDepth 20000 in
theorem wX11_digest_94 (E : EV) (d : Nat) (rr : Option Value × Mem) (x3 : Int32) (I : Mem) (l1 : Int64) (x4 : Int32) (y : ((Int64 × Int32) ⊕ ((Int64 × Int32) ⊕ (Int64 × Mem)))) (hf : bX11_digest_94 x3 I l1 x4 = some y) (hK : (KX11_digest_94 E d rr x3 I (KX11_digest_63 E d rr I (fun (z : Int64 × Mem) => (some (.long z.1), z.2) = rr))) y) : G E (d + 3) kX11_digest 94 [some (.ref 0), some (.long l1), none, some (.int x3), some (.int x4)] [] I rr := by
  unfold bX11_digest_94 at hf
  refine G.iload dX11_digest_94 rfl ?_
  refine G.iconst (v := 4) dX11_digest_96 (by decide) ?_
  refine G.icmp_gt (tgt := 128) dX11_digest_97 (by decide) (fun c_25 => ?_) (fun c_25 => ?_)
  · have hf := ite_t hf c_25
    refine G.inc (w := 1) (L' := [some (.ref 0), some (.long l1), none, some (.int (x3 + (1 : Int32))), some (.int x4)]) dX11_digest_128 (by decide) rfl (Nat.le_of_ble_eq_true rfl) rfl rfl ?_
    refine G.goto (tgt := 63) dX11_digest_131 (by decide) ?_
    have hf := Option.some.inj hf
    subst hf
    refine G.forget (L' := [some (.ref 0), some (.long l1), none, some (.int (x3 + (1 : Int32))), none]) [4] rfl ?_
    exact hK
  · have hf := ite_f hf c_25
    refine G.ldc2 (v := 31) dX11_digest_100 kcX11_277 ?_
    refine G.lload_n dX11_digest_103 rfl rfl ?_
    refine G.lmul dX11_digest_104 ?_
    refine G.aload_n dX11_digest_105 rfl rfl ?_
    refine G.getR (q := 1) dX11_digest_106 flX11_10 (by decide) rfl rfl ?_
    refine G.getR (q := 6) dX11_digest_109 flX11_130 (by decide) rfl rfl ?_
    refine G.iload_n dX11_digest_112 rfl rfl ?_
    refine G.iload dX11_digest_113 rfl ?_
    obtain ⟨v_22, hc_21, hf⟩ := bnd_at hf
    refine G.callSi (av := [.int x3, .int x4]) (rest := [.ref 6, .long ((31 : Int64) * l1)]) dX11_digest_115 msX11_126 (gX11_wishPlace E (d + 2) x3 x4 I hc_21) rfl rfl (Nat.le_of_ble_eq_true rfl) ?_
    obtain ⟨hi_23, hf⟩ := chk_at hf
    refine G.iald' dX11_digest_118 (by decide) rfl rfl hi_23 ?_
    refine G.i2l dX11_digest_119 ?_
    refine G.ladd dX11_digest_120 ?_
    refine G.nml (fun l1_24 e_l1_24 => ?_)
    have hf := letb_at hf e_l1_24
    clear e_l1_24
    refine G.lstore_n (L' := [some (.ref 0), some (.long l1_24), none, some (.int x3), some (.int x4)]) dX11_digest_121 rfl (Nat.le_of_ble_eq_true rfl) (Nat.le_of_ble_eq_true rfl) rfl rfl ?_
    refine G.inc (w := 1) (L' := [some (.ref 0), some (.long l1_24), none, some (.int x3), some (.int (x4 + (1 : Int32)))]) dX11_digest_122 (by decide) rfl (Nat.le_of_ble_eq_true rfl) rfl rfl ?_
    refine G.goto (tgt := 94) dX11_digest_125 (by decide) ?_
    have hf := Option.some.inj hf
    subst hf
    exact hK
theorem lX11_digest_94 (E : EV) (d : Nat) (rr : Option Value × Mem) (x3 : Int32) (I : Mem) (z : ((Int64 × Int32) ⊕ (Int64 × Mem))) (hK : (KX11_digest_63 E d rr I (fun (z : Int64 × Mem) => (some (.long z.1), z.2) = rr)) z) : ∀ (n : Nat) (q : (Int64 × Int32)), iter (sX11_digest_94 x3 I) n q = some z → G E (d + 3) kX11_digest 94 [some (.ref 0), some (.long q.1), none, some (.int x3), some (.int q.2)] [] I rr := by
  intro n
  induction n with
  | zero => intro q h; cases h
  | succ n ih =>
    intro q h
    rcases iter_at h with ⟨q2, hs, h2⟩ | hs
    · exact wX11_digest_94 E d rr x3 I q.1 q.2 _ hs (ih q2 h2)
    · exact wX11_digest_94 E d rr x3 I q.1 q.2 _ hs hK
def bX11_digest_63 (I : Mem) (l1 : Int64) (x3 : Int32) : Option ((Int64 × Int32) ⊕ (Int64 × Mem)) :=
  if (I 1 2) ≤ x3 then
  (inrO (iter (sX11_digest_136 I) FU (l1, (0 : Int32))))
  else
  (chk (inb x3 4) <|
  letb (((31 : Int64) * l1) + (Int32.toInt64 (I 5 (ix x3)))) fun l1_20 =>
  iter (sX11_digest_94 x3 I) FU (l1_20, (1 : Int32)))
def sX11_digest_63 (I : Mem) (q : (Int64 × Int32)) : Option ((Int64 × Int32) ⊕ (Int64 × Mem)) := bX11_digest_63 I q.1 q.2
set_option maxRecDepth 20000 in
theorem wX11_digest_63 (E : EV) (d : Nat) (rr : Option Value × Mem) (I : Mem) (l1 : Int64) (x3 : Int32) (y : ((Int64 × Int32) ⊕ (Int64 × Mem))) (hf : bX11_digest_63 I l1 x3 = some y) (hK : (KX11_digest_63 E d rr I (fun (z : Int64 × Mem) => (some (.long z.1), z.2) = rr)) y) : G E (d + 3) kX11_digest 63 [some (.ref 0), some (.long l1), none, some (.int x3), none] [] I rr := by
  unfold bX11_digest_63 at hf
  refine G.iload_n dX11_digest_63 rfl rfl ?_
  refine G.aload_n dX11_digest_64 rfl rfl ?_
  refine G.getR (q := 1) dX11_digest_65 flX11_10 (by decide) rfl rfl ?_
  refine G.getI dX11_digest_68 flX11_111 (by decide) rfl ?_
  refine G.icmp_ge (tgt := 134) dX11_digest_71 (by decide) (fun c_26 => ?_) (fun c_26 => ?_)
  · have hf := ite_t hf c_26
    refine G.iconst (v := 0) dX11_digest_134 (by decide) ?_
    refine G.istore_n (L' := [some (.ref 0), some (.long l1), none, some (.int (0 : Int32)), none]) dX11_digest_135 rfl (Nat.le_of_ble_eq_true rfl) (Nat.le_of_ble_eq_true rfl) rfl rfl ?_
    obtain ⟨z_18, hz_18, rfl⟩ := inrO_at hf
    have hf := hz_18
    exact lX11_digest_136 E d rr I _ hK FU _ hf
  · have hf := ite_f hf c_26
    refine G.ldc2 (v := 31) dX11_digest_74 kcX11_277 ?_
    refine G.lload_n dX11_digest_77 rfl rfl ?_
    refine G.lmul dX11_digest_78 ?_
    refine G.aload_n dX11_digest_79 rfl rfl ?_
    refine G.getR (q := 1) dX11_digest_80 flX11_10 (by decide) rfl rfl ?_
    refine G.getR (q := 5) dX11_digest_83 flX11_171 (by decide) rfl rfl ?_
    refine G.iload_n dX11_digest_86 rfl rfl ?_
    obtain ⟨hi_19, hf⟩ := chk_at hf
    refine G.iald' dX11_digest_87 (by decide) rfl rfl hi_19 ?_
    refine G.i2l dX11_digest_88 ?_
    refine G.ladd dX11_digest_89 ?_
    refine G.nml (fun l1_20 e_l1_20 => ?_)
    have hf := letb_at hf e_l1_20
    clear e_l1_20
    refine G.lstore_n (L' := [some (.ref 0), some (.long l1_20), none, some (.int x3), none]) dX11_digest_90 rfl (Nat.le_of_ble_eq_true rfl) (Nat.le_of_ble_eq_true rfl) rfl rfl ?_
    refine G.iconst (v := 1) dX11_digest_91 (by decide) ?_
    refine G.istore (L' := [some (.ref 0), some (.long l1_20), none, some (.int x3), some (.int (1 : Int32))]) dX11_digest_92 (Nat.le_of_ble_eq_true rfl) (Nat.le_of_ble_eq_true rfl) rfl rfl ?_
    exact lX11_digest_94 E d rr x3 I _ hK FU _ hf
theorem lX11_digest_63 (E : EV) (d : Nat) (rr : Option Value × Mem) (I : Mem) (z : (Int64 × Mem)) (hK : (fun (z : Int64 × Mem) => (some (.long z.1), z.2) = rr) z) : ∀ (n : Nat) (q : (Int64 × Int32)), iter (sX11_digest_63 I) n q = some z → G E (d + 3) kX11_digest 63 [some (.ref 0), some (.long q.1), none, some (.int q.2), none] [] I rr := by
  intro n
  induction n with
  | zero => intro q h; cases h
  | succ n ih =>
    intro q h
    rcases iter_at h with ⟨q2, hs, h2⟩ | hs
    · exact wX11_digest_63 E d rr I q.1 q.2 _ hs (ih q2 h2)
    · exact wX11_digest_63 E d rr I q.1 q.2 _ hs hK
def bX11_digest_6 (l1 : Int64) (x3 : Int32) (I : Mem) : Option ((Int64 × Int32 × Mem) ⊕ (Int64 × Mem)) :=
  if (8 : Int32) ≤ x3 then
  (letb (((31 : Int64) * l1) + (Int32.toInt64 (I 1 4))) fun l1_1 =>
  letb (((31 : Int64) * l1_1) + (Int32.toInt64 (I 1 3))) fun l1_2 =>
  inrO (iter (sX11_digest_63 I) FU (l1_2, (0 : Int32))))
  else
  (bnd2 (fX11_count x3 I) fun v_29 I_30 =>
  letb (((31 : Int64) * l1) + (Int32.toInt64 v_29)) fun l1_31 =>
  some (.inl (l1_31, (x3 + (1 : Int32)), I_30)))
def sX11_digest_6 (q : (Int64 × Int32 × Mem)) : Option ((Int64 × Int32 × Mem) ⊕ (Int64 × Mem)) := bX11_digest_6 q.1 q.2.1 q.2.2
set_option maxRecDepth 20000 in
theorem wX11_digest_6 (E : EV) (d : Nat) (rr : Option Value × Mem) (l1 : Int64) (x3 : Int32) (I : Mem) (y : ((Int64 × Int32 × Mem) ⊕ (Int64 × Mem))) (hf : bX11_digest_6 l1 x3 I = some y) (hK : (KX11_digest_6 E d rr  (fun (z : Int64 × Mem) => (some (.long z.1), z.2) = rr)) y) : G E (d + 3) kX11_digest 6 [some (.ref 0), some (.long l1), none, some (.int x3), none] [] I rr := by
  unfold bX11_digest_6 at hf
  refine G.iload_n dX11_digest_6 rfl rfl ?_
  refine G.bipush (v := 8) dX11_digest_7 (by decide) ?_
  refine G.icmp_ge (tgt := 31) dX11_digest_9 (by decide) (fun c_32 => ?_) (fun c_32 => ?_)
  · have hf := ite_t hf c_32
    refine G.ldc2 (v := 31) dX11_digest_31 kcX11_277 ?_
    refine G.lload_n dX11_digest_34 rfl rfl ?_
    refine G.lmul dX11_digest_35 ?_
    refine G.aload_n dX11_digest_36 rfl rfl ?_
    refine G.getR (q := 1) dX11_digest_37 flX11_10 (by decide) rfl rfl ?_
    refine G.getI dX11_digest_40 flX11_120 (by decide) rfl ?_
    refine G.i2l dX11_digest_43 ?_
    refine G.ladd dX11_digest_44 ?_
    refine G.nml (fun l1_1 e_l1_1 => ?_)
    have hf := letb_at hf e_l1_1
    clear e_l1_1
    refine G.lstore_n (L' := [some (.ref 0), some (.long l1_1), none, some (.int x3), none]) dX11_digest_45 rfl (Nat.le_of_ble_eq_true rfl) (Nat.le_of_ble_eq_true rfl) rfl rfl ?_
    refine G.ldc2 (v := 31) dX11_digest_46 kcX11_277 ?_
    refine G.lload_n dX11_digest_49 rfl rfl ?_
    refine G.lmul dX11_digest_50 ?_
    refine G.aload_n dX11_digest_51 rfl rfl ?_
    refine G.getR (q := 1) dX11_digest_52 flX11_10 (by decide) rfl rfl ?_
    refine G.getI dX11_digest_55 flX11_151 (by decide) rfl ?_
    refine G.i2l dX11_digest_58 ?_
    refine G.ladd dX11_digest_59 ?_
    refine G.nml (fun l1_2 e_l1_2 => ?_)
    have hf := letb_at hf e_l1_2
    clear e_l1_2
    refine G.lstore_n (L' := [some (.ref 0), some (.long l1_2), none, some (.int x3), none]) dX11_digest_60 rfl (Nat.le_of_ble_eq_true rfl) (Nat.le_of_ble_eq_true rfl) rfl rfl ?_
    refine G.iconst (v := 0) dX11_digest_61 (by decide) ?_
    refine G.istore_n (L' := [some (.ref 0), some (.long l1_2), none, some (.int (0 : Int32)), none]) dX11_digest_62 rfl (Nat.le_of_ble_eq_true rfl) (Nat.le_of_ble_eq_true rfl) rfl rfl ?_
    obtain ⟨z_27, hz_27, rfl⟩ := inrO_at hf
    have hf := hz_27
    exact lX11_digest_63 E d rr I _ hK FU _ hf
  · have hf := ite_f hf c_32
    refine G.ldc2 (v := 31) dX11_digest_12 kcX11_277 ?_
    refine G.lload_n dX11_digest_15 rfl rfl ?_
    refine G.lmul dX11_digest_16 ?_
    refine G.aload_n dX11_digest_17 rfl rfl ?_
    refine G.iload_n dX11_digest_18 rfl rfl ?_
    obtain ⟨v_29, I_30, hc_28, hf⟩ := bnd2_at hf
    refine G.callVi (av := [.int x3]) (rest := [.long ((31 : Int64) * l1)]) dX11_digest_19 mvX11_279 (gX11_count E d x3 I hc_28) (by decide) rfl rfl rfl (Nat.le_of_ble_eq_true rfl) ?_
    refine G.i2l dX11_digest_22 ?_
    refine G.ladd dX11_digest_23 ?_
    refine G.nml (fun l1_31 e_l1_31 => ?_)
    have hf := letb_at hf e_l1_31
    clear e_l1_31
    refine G.lstore_n (L' := [some (.ref 0), some (.long l1_31), none, some (.int x3), none]) dX11_digest_24 rfl (Nat.le_of_ble_eq_true rfl) (Nat.le_of_ble_eq_true rfl) rfl rfl ?_
    refine G.inc (w := 1) (L' := [some (.ref 0), some (.long l1_31), none, some (.int (x3 + (1 : Int32))), none]) dX11_digest_25 (by decide) rfl (Nat.le_of_ble_eq_true rfl) rfl rfl ?_
    refine G.goto (tgt := 6) dX11_digest_28 (by decide) ?_
    have hf := Option.some.inj hf
    subst hf
    exact hK
theorem lX11_digest_6 (E : EV) (d : Nat) (rr : Option Value × Mem) (z : (Int64 × Mem)) (hK : (fun (z : Int64 × Mem) => (some (.long z.1), z.2) = rr) z) : ∀ (n : Nat) (q : (Int64 × Int32 × Mem)), iter (sX11_digest_6) n q = some z → G E (d + 3) kX11_digest 6 [some (.ref 0), some (.long q.1), none, some (.int q.2.1), none] [] q.2.2 rr := by
  intro n
  induction n with
  | zero => intro q h; cases h
  | succ n ih =>
    intro q h
    rcases iter_at h with ⟨q2, hs, h2⟩ | hs
    · exact wX11_digest_6 E d rr q.1 q.2.1 q.2.2 _ hs (ih q2 h2)
    · exact wX11_digest_6 E d rr q.1 q.2.1 q.2.2 _ hs hK
def fX11_digest (I : Mem) : Option (Int64 × Mem) :=
  iter (sX11_digest_6) FU ((757 : Int64), (0 : Int32), I)
set_option maxRecDepth 20000 in
theorem gX11_digest (E : EV) (d : Nat) (I : Mem) {v : Int64} {J : Mem} (hf : fX11_digest I = some (v, J)) : Gm E (d + 3) kX11_digest [.ref 0] I (some (.long v), J) := by
  refine (fun (y : (Int64 × Mem)) (hf : fX11_digest I = some y) => (?_ : Gm E (d + 3) kX11_digest [.ref 0] I (some (.long y.1), y.2))) (v, J) hf
  refine Gm.of (by decide) rfl (Nat.le_of_ble_eq_true rfl) ?_
  generalize hrr : ((some (.long y.1), y.2) : Option Value × Mem) = rr
  show G E (d + 3) kX11_digest 0 [some (.ref 0), none, none, none, none] [] I rr
  have hK : (fun (z : Int64 × Mem) => (some (.long z.1), z.2) = rr) y := hrr
  clear hrr
  unfold fX11_digest at hf
  refine G.ldc2 (v := 757) dX11_digest_0 kcX11_275 ?_
  refine G.lstore_n (L' := [some (.ref 0), some (.long (757 : Int64)), none, none, none]) dX11_digest_3 rfl (Nat.le_of_ble_eq_true rfl) (Nat.le_of_ble_eq_true rfl) rfl rfl ?_
  refine G.iconst (v := 0) dX11_digest_4 (by decide) ?_
  refine G.istore_n (L' := [some (.ref 0), some (.long (757 : Int64)), none, some (.int (0 : Int32)), none]) dX11_digest_5 rfl (Nat.le_of_ble_eq_true rfl) (Nat.le_of_ble_eq_true rfl) rfl rfl ?_
  exact lX11_digest_6 E d rr _ hK FU _ hf
