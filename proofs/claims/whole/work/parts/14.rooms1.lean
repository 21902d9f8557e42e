theorem dX11_refuse_0 : decode cX11_refuse 0 = .ok (.iload_n 1, 1) := by decide +kernel
theorem dX11_refuse_1 : decode cX11_refuse 1 = .ok (.bipush (-2), 2) := by decide +kernel
theorem dX11_refuse_3 : decode cX11_refuse 3 = .ok (.if_icmp .ne 16, 3) := by decide +kernel
theorem dX11_refuse_6 : decode cX11_refuse 6 = .ok (.aload_n 0, 1) := by decide +kernel
theorem dX11_refuse_7 : decode cX11_refuse 7 = .ok (.dup, 1) := by decide +kernel
theorem dX11_refuse_8 : decode cX11_refuse 8 = .ok (.getfield 263, 3) := by decide +kernel
theorem dX11_refuse_11 : decode cX11_refuse 11 = .ok (.iconst 1, 1) := by decide +kernel
theorem dX11_refuse_12 : decode cX11_refuse 12 = .ok (.iadd, 1) := by decide +kernel
theorem dX11_refuse_13 : decode cX11_refuse 13 = .ok (.putfield 263, 3) := by decide +kernel
theorem dX11_refuse_16 : decode cX11_refuse 16 = .ok (.goto 32, 3) := by decide +kernel
theorem dX11_refuse_19 : decode cX11_refuse 19 = .ok (.iload_n 1, 1) := by decide +kernel
theorem dX11_refuse_20 : decode cX11_refuse 20 = .ok (.bipush (-3), 2) := by decide +kernel
theorem dX11_refuse_22 : decode cX11_refuse 22 = .ok (.if_icmp .ne 16, 3) := by decide +kernel
theorem dX11_refuse_25 : decode cX11_refuse 25 = .ok (.aload_n 0, 1) := by decide +kernel
theorem dX11_refuse_26 : decode cX11_refuse 26 = .ok (.dup, 1) := by decide +kernel
theorem dX11_refuse_27 : decode cX11_refuse 27 = .ok (.getfield 266, 3) := by decide +kernel
theorem dX11_refuse_30 : decode cX11_refuse 30 = .ok (.iconst 1, 1) := by decide +kernel
theorem dX11_refuse_31 : decode cX11_refuse 31 = .ok (.iadd, 1) := by decide +kernel
theorem dX11_refuse_32 : decode cX11_refuse 32 = .ok (.putfield 266, 3) := by decide +kernel
theorem dX11_refuse_35 : decode cX11_refuse 35 = .ok (.goto 13, 3) := by decide +kernel
theorem dX11_refuse_38 : decode cX11_refuse 38 = .ok (.aload_n 0, 1) := by decide +kernel
theorem dX11_refuse_39 : decode cX11_refuse 39 = .ok (.dup, 1) := by decide +kernel
theorem dX11_refuse_40 : decode cX11_refuse 40 = .ok (.getfield 269, 3) := by decide +kernel
theorem dX11_refuse_43 : decode cX11_refuse 43 = .ok (.iconst 1, 1) := by decide +kernel
theorem dX11_refuse_44 : decode cX11_refuse 44 = .ok (.iadd, 1) := by decide +kernel
theorem dX11_refuse_45 : decode cX11_refuse 45 = .ok (.putfield 269, 3) := by decide +kernel
theorem dX11_refuse_48 : decode cX11_refuse 48 = .ok (.iload_n 1, 1) := by decide +kernel
theorem dX11_refuse_49 : decode cX11_refuse 49 = .ok (.ireturn, 1) := by decide +kernel
def fX11_refuse (x1 : Int32) (I : Mem) : Option (Int32 × Mem) :=
  if x1 = (-2 : Int32) then
  (letb (up2 I 0 10 ((I 0 10) + (1 : Int32))) fun I_4 =>
  some (x1, I_4))
  else
  (if x1 = (-3 : Int32) then
  (letb (up2 I 0 11 ((I 0 11) + (1 : Int32))) fun I_2 =>
  some (x1, I_2))
  else
  (letb (up2 I 0 12 ((I 0 12) + (1 : Int32))) fun I_1 =>
  some (x1, I_1)))
set_option maxRecDepth 20000 in
theorem gX11_refuse (E : EV) (d : Nat) (x1 : Int32) (I : Mem) {v : Int32} {J : Mem} (hf : fX11_refuse x1 I = some (v, J)) : Gm E (d + 0) kX11_refuse [.ref 0, .int x1] I (some (.int v), J) := by
  refine (fun (y : (Int32 × Mem)) (hf : fX11_refuse x1 I = some y) => (?_ : Gm E (d + 0) kX11_refuse [.ref 0, .int x1] I (some (.int y.1), y.2))) (v, J) hf
  refine Gm.of (by decide) rfl (Nat.le_of_ble_eq_true rfl) ?_
  generalize hrr : ((some (.int y.1), y.2) : Option Value × Mem) = rr
  show G E (d + 0) kX11_refuse 0 [some (.ref 0), some (.int x1)] [] I rr
  have hK : (fun (z : Int32 × Mem) => (some (.int z.1), z.2) = rr) y := hrr
  clear hrr
  unfold fX11_refuse at hf
  refine G.iload_n dX11_refuse_0 rfl rfl ?_
  refine G.bipush (v := -2) dX11_refuse_1 (by decide) ?_
  refine G.icmp_ne (tgt := 19) dX11_refuse_3 (by decide) (fun c_5 => ?_) (fun c_5 => ?_)
  · have hf := ite_f hf c_5
    refine G.iload_n dX11_refuse_19 rfl rfl ?_
    refine G.bipush (v := -3) dX11_refuse_20 (by decide) ?_
    refine G.icmp_ne (tgt := 38) dX11_refuse_22 (by decide) (fun c_3 => ?_) (fun c_3 => ?_)
    · have hf := ite_f hf c_3
      refine G.aload_n dX11_refuse_38 rfl rfl ?_
      refine G.dup dX11_refuse_39 rfl ?_
      refine G.getI dX11_refuse_40 flX11_269 (by decide) rfl ?_
      refine G.iconst (v := 1) dX11_refuse_43 (by decide) ?_
      refine G.iadd dX11_refuse_44 ?_
      refine G.putI dX11_refuse_45 flX11_269 (by decide) rfl ?_
      refine G.nmI (fun I_1 e_I_1 => ?_)
      have hf := letb_at hf e_I_1
      clear e_I_1
      refine G.iload_n dX11_refuse_48 rfl rfl ?_
      have hf := Option.some.inj hf
      subst hf
      exact G.iret' dX11_refuse_49 rfl hK
    · have hf := ite_t hf c_3
      refine G.aload_n dX11_refuse_25 rfl rfl ?_
      refine G.dup dX11_refuse_26 rfl ?_
      refine G.getI dX11_refuse_27 flX11_266 (by decide) rfl ?_
      refine G.iconst (v := 1) dX11_refuse_30 (by decide) ?_
      refine G.iadd dX11_refuse_31 ?_
      refine G.putI dX11_refuse_32 flX11_266 (by decide) rfl ?_
      refine G.nmI (fun I_2 e_I_2 => ?_)
      have hf := letb_at hf e_I_2
      clear e_I_2
      refine G.goto (tgt := 48) dX11_refuse_35 (by decide) ?_
      refine G.iload_n dX11_refuse_48 rfl rfl ?_
      have hf := Option.some.inj hf
      subst hf
      exact G.iret' dX11_refuse_49 rfl hK
  · have hf := ite_t hf c_5
    refine G.aload_n dX11_refuse_6 rfl rfl ?_
    refine G.dup dX11_refuse_7 rfl ?_
    refine G.getI dX11_refuse_8 flX11_263 (by decide) rfl ?_
    refine G.iconst (v := 1) dX11_refuse_11 (by decide) ?_
    refine G.iadd dX11_refuse_12 ?_
    refine G.putI dX11_refuse_13 flX11_263 (by decide) rfl ?_
    refine G.nmI (fun I_4 e_I_4 => ?_)
    have hf := letb_at hf e_I_4
    clear e_I_4
    refine G.goto (tgt := 48) dX11_refuse_16 (by decide) ?_
    refine G.iload_n dX11_refuse_48 rfl rfl ?_
    have hf := Option.some.inj hf
    subst hf
    exact G.iret' dX11_refuse_49 rfl hK
theorem dX11_rooms_0 : decode cX11_rooms 0 = .ok (.iload_n 1, 1) := by decide +kernel
theorem dX11_rooms_1 : decode cX11_rooms 1 = .ok (.iconst 1, 1) := by decide +kernel
theorem dX11_rooms_2 : decode cX11_rooms 2 = .ok (.if_icmp .lt 8, 3) := by decide +kernel
theorem dX11_rooms_5 : decode cX11_rooms 5 = .ok (.iload_n 1, 1) := by decide +kernel
theorem dX11_rooms_6 : decode cX11_rooms 6 = .ok (.iconst 5, 1) := by decide +kernel
theorem dX11_rooms_7 : decode cX11_rooms 7 = .ok (.if_icmp .le 10, 3) := by decide +kernel
theorem dX11_rooms_10 : decode cX11_rooms 10 = .ok (.aload_n 0, 1) := by decide +kernel
theorem dX11_rooms_11 : decode cX11_rooms 11 = .ok (.bipush (-2), 2) := by decide +kernel
theorem dX11_rooms_13 : decode cX11_rooms 13 = .ok (.invokevirtual 81, 3) := by decide +kernel
theorem dX11_rooms_16 : decode cX11_rooms 16 = .ok (.ireturn, 1) := by decide +kernel
theorem dX11_rooms_17 : decode cX11_rooms 17 = .ok (.aload_n 0, 1) := by decide +kernel
theorem dX11_rooms_18 : decode cX11_rooms 18 = .ok (.getfield 10, 3) := by decide +kernel
theorem dX11_rooms_21 : decode cX11_rooms 21 = .ok (.getfield 85, 3) := by decide +kernel
theorem dX11_rooms_24 : decode cX11_rooms 24 = .ok (.istore_n 2, 1) := by decide +kernel
theorem dX11_rooms_25 : decode cX11_rooms 25 = .ok (.aload_n 0, 1) := by decide +kernel
theorem dX11_rooms_26 : decode cX11_rooms 26 = .ok (.getfield 10, 3) := by decide +kernel
theorem dX11_rooms_29 : decode cX11_rooms 29 = .ok (.iload_n 1, 1) := by decide +kernel
theorem dX11_rooms_30 : decode cX11_rooms 30 = .ok (.invokevirtual 89, 3) := by decide +kernel
theorem dX11_rooms_33 : decode cX11_rooms 33 = .ok (.iload_n 2, 1) := by decide +kernel
theorem dX11_rooms_34 : decode cX11_rooms 34 = .ok (.ireturn, 1) := by decide +kernel
def jX11_rooms_10 (I : Mem) : Option (Int32 × Mem) :=
  bnd2 (fX11_refuse (-2 : Int32) I) fun v_2 I_3 =>
  some (v_2, I_3)
set_option maxRecDepth 20000 in
theorem tX11_rooms_10 (E : EV) (d : Nat) (rr : Option Value × Mem) (I : Mem) (y : (Int32 × Mem)) (hf : jX11_rooms_10 I = some y) (hK : (fun (z : Int32 × Mem) => (some (.int z.1), z.2) = rr) y) : G E (d + 2) kX11_rooms 10 [some (.ref 0), none, none] [] I rr := by
  unfold jX11_rooms_10 at hf
  refine G.aload_n dX11_rooms_10 rfl rfl ?_
  refine G.bipush (v := -2) dX11_rooms_11 (by decide) ?_
  obtain ⟨v_2, I_3, hc_1, hf⟩ := bnd2_at hf
  refine G.callVi (av := [.int (-2 : Int32)]) (rest := []) dX11_rooms_13 mvX11_81 (gX11_refuse E (d + 1) (-2 : Int32) I hc_1) (by decide) rfl rfl rfl (Nat.le_of_ble_eq_true rfl) ?_
  have hf := Option.some.inj hf
  subst hf
  exact G.iret' dX11_rooms_16 rfl hK
def fX11_rooms (x1 : Int32) (I : Mem) : Option (Int32 × Mem) :=
  if x1 < (1 : Int32) then
  (jX11_rooms_10 I)
  else
  (if x1 ≤ (5 : Int32) then
  (letb (I 1 0) fun x2_4 =>
  bnd (fX4_empty 1 x1 I) fun I_6 =>
  some (x2_4, I_6))
  else
  (jX11_rooms_10 I))
set_option maxRecDepth 20000 in
theorem gX11_rooms (E : EV) (d : Nat) (x1 : Int32) (I : Mem) {v : Int32} {J : Mem} (hf : fX11_rooms x1 I = some (v, J)) : Gm E (d + 2) kX11_rooms [.ref 0, .int x1] I (some (.int v), J) := by
  refine (fun (y : (Int32 × Mem)) (hf : fX11_rooms x1 I = some y) => (?_ : Gm E (d + 2) kX11_rooms [.ref 0, .int x1] I (some (.int y.1), y.2))) (v, J) hf
  refine Gm.of (by decide) rfl (Nat.le_of_ble_eq_true rfl) ?_
  generalize hrr : ((some (.int y.1), y.2) : Option Value × Mem) = rr
  show G E (d + 2) kX11_rooms 0 [some (.ref 0), some (.int x1), none] [] I rr
  have hK : (fun (z : Int32 × Mem) => (some (.int z.1), z.2) = rr) y := hrr
  clear hrr
  unfold fX11_rooms at hf
  refine G.iload_n dX11_rooms_0 rfl rfl ?_
  refine G.iconst (v := 1) dX11_rooms_1 (by decide) ?_
  refine G.icmp_lt (tgt := 10) dX11_rooms_2 (by decide) (fun c_8 => ?_) (fun c_8 => ?_)
  · have hf := ite_t hf c_8
    refine G.forget (L' := [some (.ref 0), none, none]) [1] rfl ?_
    exact tX11_rooms_10 E d rr I _ hf hK
  · have hf := ite_f hf c_8
    refine G.iload_n dX11_rooms_5 rfl rfl ?_
    refine G.iconst (v := 5) dX11_rooms_6 (by decide) ?_
    refine G.icmp_le (tgt := 17) dX11_rooms_7 (by decide) (fun c_7 => ?_) (fun c_7 => ?_)
    · have hf := ite_t hf c_7
      refine G.aload_n dX11_rooms_17 rfl rfl ?_
      refine G.getR (q := 1) dX11_rooms_18 flX11_10 (by decide) rfl rfl ?_
      refine G.getI dX11_rooms_21 flX11_85 (by decide) rfl ?_
      refine G.nmi (fun x2_4 e_x2_4 => ?_)
      have hf := letb_at hf e_x2_4
      clear e_x2_4
      refine G.istore_n (L' := [some (.ref 0), some (.int x1), some (.int x2_4)]) dX11_rooms_24 rfl (Nat.le_of_ble_eq_true rfl) (Nat.le_of_ble_eq_true rfl) rfl rfl ?_
      refine G.aload_n dX11_rooms_25 rfl rfl ?_
      refine G.getR (q := 1) dX11_rooms_26 flX11_10 (by decide) rfl rfl ?_
      refine G.iload_n dX11_rooms_29 rfl rfl ?_
      obtain ⟨I_6, hc_5, hf⟩ := bnd_at hf
      refine G.callVv (av := [.int x1]) (rest := []) dX11_rooms_30 mvX11_89 (gX4_empty E d 1 x1 I (by unfold isH; decide) hc_5) (by decide) rfl rfl rfl (Nat.le_of_ble_eq_true rfl) ?_
      refine G.iload_n dX11_rooms_33 rfl rfl ?_
      have hf := Option.some.inj hf
      subst hf
      exact G.iret' dX11_rooms_34 rfl hK
    · have hf := ite_f hf c_7
      refine G.forget (L' := [some (.ref 0), none, none]) [1] rfl ?_
      exact tX11_rooms_10 E d rr I _ hf hK
theorem dX11_isRoom_0 : decode cX11_isRoom 0 = .ok (.iload_n 1, 1) := by decide +kernel
theorem dX11_isRoom_1 : decode cX11_isRoom 1 = .ok (.ifCond .lt 18, 3) := by decide +kernel
theorem dX11_isRoom_4 : decode cX11_isRoom 4 = .ok (.iload_n 1, 1) := by decide +kernel
theorem dX11_isRoom_5 : decode cX11_isRoom 5 = .ok (.aload_n 0, 1) := by decide +kernel
theorem dX11_isRoom_6 : decode cX11_isRoom 6 = .ok (.getfield 10, 3) := by decide +kernel
theorem dX11_isRoom_9 : decode cX11_isRoom 9 = .ok (.getfield 85, 3) := by decide +kernel
theorem dX11_isRoom_12 : decode cX11_isRoom 12 = .ok (.if_icmp .ge 7, 3) := by decide +kernel
theorem dX11_isRoom_15 : decode cX11_isRoom 15 = .ok (.iconst 1, 1) := by decide +kernel
theorem dX11_isRoom_16 : decode cX11_isRoom 16 = .ok (.goto 4, 3) := by decide +kernel
theorem dX11_isRoom_19 : decode cX11_isRoom 19 = .ok (.iconst 0, 1) := by decide +kernel
theorem dX11_isRoom_20 : decode cX11_isRoom 20 = .ok (.ireturn, 1) := by decide +kernel
def fX11_isRoom (x1 : Int32) (I : Mem) : Option Int32 :=
  if x1 < 0 then
  (some (0 : Int32))
  else
  (if (I 1 0) ≤ x1 then
  (some (0 : Int32))
  else
  (some (1 : Int32)))
set_option maxRecDepth 20000 in
theorem gX11_isRoom (E : EV) (d : Nat) (x1 : Int32) (I : Mem) {v : Int32} (hf : fX11_isRoom x1 I = some v) : Gm E (d + 0) kX11_isRoom [.ref 0, .int x1] I (some (.int v), I) := by
  refine (fun (y : Int32) (hf : fX11_isRoom x1 I = some y) => (?_ : Gm E (d + 0) kX11_isRoom [.ref 0, .int x1] I (some (.int y), I))) v hf
  refine Gm.of (by decide) rfl (Nat.le_of_ble_eq_true rfl) ?_
  generalize hrr : ((some (.int y), I) : Option Value × Mem) = rr
  show G E (d + 0) kX11_isRoom 0 [some (.ref 0), some (.int x1)] [] I rr
  have hK : (fun (z : Int32) => (some (.int z), I) = rr) y := hrr
  clear hrr
  unfold fX11_isRoom at hf
  refine G.iload_n dX11_isRoom_0 rfl rfl ?_
  refine G.if_lt (tgt := 19) dX11_isRoom_1 (by decide) (fun c_2 => ?_) (fun c_2 => ?_)
  · have hf := ite_t hf c_2
    refine G.iconst (v := 0) dX11_isRoom_19 (by decide) ?_
    have hf := Option.some.inj hf
    subst hf
    exact G.zret' dX11_isRoom_20 rfl (by decide) hK
  · have hf := ite_f hf c_2
    refine G.iload_n dX11_isRoom_4 rfl rfl ?_
    refine G.aload_n dX11_isRoom_5 rfl rfl ?_
    refine G.getR (q := 1) dX11_isRoom_6 flX11_10 (by decide) rfl rfl ?_
    refine G.getI dX11_isRoom_9 flX11_85 (by decide) rfl ?_
    refine G.icmp_ge (tgt := 19) dX11_isRoom_12 (by decide) (fun c_1 => ?_) (fun c_1 => ?_)
    · have hf := ite_t hf c_1
      refine G.iconst (v := 0) dX11_isRoom_19 (by decide) ?_
      have hf := Option.some.inj hf
      subst hf
      exact G.zret' dX11_isRoom_20 rfl (by decide) hK
    · have hf := ite_f hf c_1
      refine G.iconst (v := 1) dX11_isRoom_15 (by decide) ?_
      refine G.goto (tgt := 20) dX11_isRoom_16 (by decide) ?_
      have hf := Option.some.inj hf
      subst hf
      exact G.zret' dX11_isRoom_20 rfl (by decide) hK
theorem dX11_door_0 : decode cX11_door 0 = .ok (.aload_n 0, 1) := by decide +kernel
theorem dX11_door_1 : decode cX11_door 1 = .ok (.iload_n 1, 1) := by decide +kernel
theorem dX11_door_2 : decode cX11_door 2 = .ok (.invokevirtual 93, 3) := by decide +kernel
theorem dX11_door_5 : decode cX11_door 5 = .ok (.ifCond .eq 16, 3) := by decide +kernel
theorem dX11_door_8 : decode cX11_door 8 = .ok (.aload_n 0, 1) := by decide +kernel
theorem dX11_door_9 : decode cX11_door 9 = .ok (.iload_n 2, 1) := by decide +kernel
theorem dX11_door_10 : decode cX11_door 10 = .ok (.invokevirtual 93, 3) := by decide +kernel
theorem dX11_door_13 : decode cX11_door 13 = .ok (.ifCond .eq 8, 3) := by decide +kernel
theorem dX11_door_16 : decode cX11_door 16 = .ok (.iload_n 1, 1) := by decide +kernel
theorem dX11_door_17 : decode cX11_door 17 = .ok (.iload_n 2, 1) := by decide +kernel
theorem dX11_door_18 : decode cX11_door 18 = .ok (.if_icmp .ne 10, 3) := by decide +kernel
theorem dX11_door_21 : decode cX11_door 21 = .ok (.aload_n 0, 1) := by decide +kernel
theorem dX11_door_22 : decode cX11_door 22 = .ok (.bipush (-2), 2) := by decide +kernel
theorem dX11_door_24 : decode cX11_door 24 = .ok (.invokevirtual 81, 3) := by decide +kernel
theorem dX11_door_27 : decode cX11_door 27 = .ok (.ireturn, 1) := by decide +kernel
theorem dX11_door_28 : decode cX11_door 28 = .ok (.aload_n 0, 1) := by decide +kernel
theorem dX11_door_29 : decode cX11_door 29 = .ok (.getfield 10, 3) := by decide +kernel
theorem dX11_door_32 : decode cX11_door 32 = .ok (.getfield 97, 3) := by decide +kernel
theorem dX11_door_35 : decode cX11_door 35 = .ok (.iload_n 1, 1) := by decide +kernel
theorem dX11_door_36 : decode cX11_door 36 = .ok (.iaload, 1) := by decide +kernel
theorem dX11_door_37 : decode cX11_door 37 = .ok (.iload_n 2, 1) := by decide +kernel
theorem dX11_door_38 : decode cX11_door 38 = .ok (.invokestatic 101, 3) := by decide +kernel
theorem dX11_door_41 : decode cX11_door 41 = .ok (.iload_n 3, 1) := by decide +kernel
theorem dX11_door_42 : decode cX11_door 42 = .ok (.if_icmp .ne 10, 3) := by decide +kernel
theorem dX11_door_45 : decode cX11_door 45 = .ok (.aload_n 0, 1) := by decide +kernel
theorem dX11_door_46 : decode cX11_door 46 = .ok (.bipush (-3), 2) := by decide +kernel
theorem dX11_door_48 : decode cX11_door 48 = .ok (.invokevirtual 81, 3) := by decide +kernel
theorem dX11_door_51 : decode cX11_door 51 = .ok (.ireturn, 1) := by decide +kernel
theorem dX11_door_52 : decode cX11_door 52 = .ok (.aload_n 0, 1) := by decide +kernel
theorem dX11_door_53 : decode cX11_door 53 = .ok (.getfield 10, 3) := by decide +kernel
theorem dX11_door_56 : decode cX11_door 56 = .ok (.getfield 97, 3) := by decide +kernel
theorem dX11_door_59 : decode cX11_door 59 = .ok (.iload_n 1, 1) := by decide +kernel
theorem dX11_door_60 : decode cX11_door 60 = .ok (.dup2, 1) := by decide +kernel
theorem dX11_door_61 : decode cX11_door 61 = .ok (.iaload, 1) := by decide +kernel
theorem dX11_door_62 : decode cX11_door 62 = .ok (.iconst 1, 1) := by decide +kernel
theorem dX11_door_63 : decode cX11_door 63 = .ok (.iload_n 2, 1) := by decide +kernel
theorem dX11_door_64 : decode cX11_door 64 = .ok (.ishl, 1) := by decide +kernel
theorem dX11_door_65 : decode cX11_door 65 = .ok (.ixor, 1) := by decide +kernel
theorem dX11_door_66 : decode cX11_door 66 = .ok (.iastore, 1) := by decide +kernel
theorem dX11_door_67 : decode cX11_door 67 = .ok (.aload_n 0, 1) := by decide +kernel
theorem dX11_door_68 : decode cX11_door 68 = .ok (.getfield 10, 3) := by decide +kernel
theorem dX11_door_71 : decode cX11_door 71 = .ok (.getfield 97, 3) := by decide +kernel
theorem dX11_door_74 : decode cX11_door 74 = .ok (.iload_n 2, 1) := by decide +kernel
theorem dX11_door_75 : decode cX11_door 75 = .ok (.dup2, 1) := by decide +kernel
theorem dX11_door_76 : decode cX11_door 76 = .ok (.iaload, 1) := by decide +kernel
theorem dX11_door_77 : decode cX11_door 77 = .ok (.iconst 1, 1) := by decide +kernel
theorem dX11_door_78 : decode cX11_door 78 = .ok (.iload_n 1, 1) := by decide +kernel
theorem dX11_door_79 : decode cX11_door 79 = .ok (.ishl, 1) := by decide +kernel
theorem dX11_door_80 : decode cX11_door 80 = .ok (.ixor, 1) := by decide +kernel
theorem dX11_door_81 : decode cX11_door 81 = .ok (.iastore, 1) := by decide +kernel
theorem dX11_door_82 : decode cX11_door 82 = .ok (.iconst 1, 1) := by decide +kernel
theorem dX11_door_83 : decode cX11_door 83 = .ok (.ireturn, 1) := by decide +kernel
def jX11_door_21 (I : Mem) : Option (Int32 × Mem) :=
  bnd2 (fX11_refuse (-2 : Int32) I) fun v_4 I_5 =>
  some (v_4, I_5)
set_option maxRecDepth 20000 in
theorem tX11_door_21 (E : EV) (d : Nat) (rr : Option Value × Mem) (I : Mem) (y : (Int32 × Mem)) (hf : jX11_door_21 I = some y) (hK : (fun (z : Int32 × Mem) => (some (.int z.1), z.2) = rr) y) : G E (d + 1) kX11_door 21 [some (.ref 0), none, none, none] [] I rr := by
  unfold jX11_door_21 at hf
  refine G.aload_n dX11_door_21 rfl rfl ?_
  refine G.bipush (v := -2) dX11_door_22 (by decide) ?_
  obtain ⟨v_4, I_5, hc_3, hf⟩ := bnd2_at hf
  refine G.callVi (av := [.int (-2 : Int32)]) (rest := []) dX11_door_24 mvX11_81 (gX11_refuse E d (-2 : Int32) I hc_3) (by decide) rfl rfl rfl (Nat.le_of_ble_eq_true rfl) ?_
  have hf := Option.some.inj hf
  subst hf
  exact G.iret' dX11_door_27 rfl hK
def fX11_door (x1 : Int32) (x2 : Int32) (x3 : Int32) (I : Mem) : Option (Int32 × Mem) :=
  bnd (fX11_isRoom x1 I) fun v_2 =>
  if v_2 = 0 then
  (jX11_door_21 I)
  else
  (bnd (fX11_isRoom x2 I) fun v_7 =>
  if v_7 = 0 then
  (jX11_door_21 I)
  else
  (if x1 = x2 then
  (jX11_door_21 I)
  else
  (chk (inb x1 5) <|
  bnd (fX11_has (I 2 (ix x1)) x2 I) fun v_10 =>
  if v_10 = x3 then
  (bnd2 (fX11_refuse (-3 : Int32) I) fun v_18 I_19 =>
  some (v_18, I_19))
  else
  (chk (inb x1 5) <|
  chk (inb x1 5) <|
  letb (up2 I 2 (ix x1) ((I 2 (ix x1)) ^^^ ((1 : Int32) <<< (x2 &&& 31)))) fun I_13 =>
  chk (inb x2 5) <|
  chk (inb x2 5) <|
  letb (up2 I_13 2 (ix x2) ((I_13 2 (ix x2)) ^^^ ((1 : Int32) <<< (x1 &&& 31)))) fun I_16 =>
  some ((1 : Int32), I_16)))))
set_option maxRecDepth 20000 in
theorem gX11_door (E : EV) (d : Nat) (x1 : Int32) (x2 : Int32) (x3 : Int32) (I : Mem) {v : Int32} {J : Mem} (hf : fX11_door x1 x2 x3 I = some (v, J)) : Gm E (d + 1) kX11_door [.ref 0, .int x1, .int x2, .int x3] I (some (.int v), J) := by
  refine (fun (y : (Int32 × Mem)) (hf : fX11_door x1 x2 x3 I = some y) => (?_ : Gm E (d + 1) kX11_door [.ref 0, .int x1, .int x2, .int x3] I (some (.int y.1), y.2))) (v, J) hf
  refine Gm.of (by decide) rfl (Nat.le_of_ble_eq_true rfl) ?_
  generalize hrr : ((some (.int y.1), y.2) : Option Value × Mem) = rr
  show G E (d + 1) kX11_door 0 [some (.ref 0), some (.int x1), some (.int x2), some (.int x3)] [] I rr
  have hK : (fun (z : Int32 × Mem) => (some (.int z.1), z.2) = rr) y := hrr
  clear hrr
  unfold fX11_door at hf
  refine G.aload_n dX11_door_0 rfl rfl ?_
  refine G.iload_n dX11_door_1 rfl rfl ?_
  obtain ⟨v_2, hc_1, hf⟩ := bnd_at hf
  refine G.callVi (av := [.int x1]) (rest := []) dX11_door_2 mvX11_93 (gX11_isRoom E d x1 I hc_1) (by decide) rfl rfl rfl (Nat.le_of_ble_eq_true rfl) ?_
  refine G.if_eq (tgt := 21) dX11_door_5 (by decide) (fun c_23 => ?_) (fun c_23 => ?_)
  · have hf := ite_t hf c_23
    refine G.forget (L' := [some (.ref 0), none, none, none]) [1, 2, 3] rfl ?_
    exact tX11_door_21 E d rr I _ hf hK
  · have hf := ite_f hf c_23
    refine G.aload_n dX11_door_8 rfl rfl ?_
    refine G.iload_n dX11_door_9 rfl rfl ?_
    obtain ⟨v_7, hc_6, hf⟩ := bnd_at hf
    refine G.callVi (av := [.int x2]) (rest := []) dX11_door_10 mvX11_93 (gX11_isRoom E d x2 I hc_6) (by decide) rfl rfl rfl (Nat.le_of_ble_eq_true rfl) ?_
    refine G.if_eq (tgt := 21) dX11_door_13 (by decide) (fun c_22 => ?_) (fun c_22 => ?_)
    · have hf := ite_t hf c_22
      refine G.forget (L' := [some (.ref 0), none, none, none]) [1, 2, 3] rfl ?_
      exact tX11_door_21 E d rr I _ hf hK
    · have hf := ite_f hf c_22
      refine G.iload_n dX11_door_16 rfl rfl ?_
      refine G.iload_n dX11_door_17 rfl rfl ?_
      refine G.icmp_ne (tgt := 28) dX11_door_18 (by decide) (fun c_21 => ?_) (fun c_21 => ?_)
      · have hf := ite_f hf c_21
        refine G.aload_n dX11_door_28 rfl rfl ?_
        refine G.getR (q := 1) dX11_door_29 flX11_10 (by decide) rfl rfl ?_
        refine G.getR (q := 2) dX11_door_32 flX11_97 (by decide) rfl rfl ?_
        refine G.iload_n dX11_door_35 rfl rfl ?_
        obtain ⟨hi_8, hf⟩ := chk_at hf
        refine G.iald' dX11_door_36 (by decide) rfl rfl hi_8 ?_
        refine G.iload_n dX11_door_37 rfl rfl ?_
        obtain ⟨v_10, hc_9, hf⟩ := bnd_at hf
        refine G.callSi (av := [.int (I 2 (ix x1)), .int x2]) (rest := []) dX11_door_38 msX11_101 (gX11_has E d (I 2 (ix x1)) x2 I hc_9) rfl rfl (Nat.le_of_ble_eq_true rfl) ?_
        refine G.iload_n dX11_door_41 rfl rfl ?_
        refine G.icmp_ne (tgt := 52) dX11_door_42 (by decide) (fun c_20 => ?_) (fun c_20 => ?_)
        · have hf := ite_f hf c_20
          refine G.aload_n dX11_door_52 rfl rfl ?_
          refine G.getR (q := 1) dX11_door_53 flX11_10 (by decide) rfl rfl ?_
          refine G.getR (q := 2) dX11_door_56 flX11_97 (by decide) rfl rfl ?_
          refine G.iload_n dX11_door_59 rfl rfl ?_
          refine G.dup2 dX11_door_60 rfl rfl ?_
          obtain ⟨hi_11, hf⟩ := chk_at hf
          refine G.iald' dX11_door_61 (by decide) rfl rfl hi_11 ?_
          refine G.iconst (v := 1) dX11_door_62 (by decide) ?_
          refine G.iload_n dX11_door_63 rfl rfl ?_
          refine G.ishl dX11_door_64 ?_
          refine G.ixor dX11_door_65 ?_
          obtain ⟨hi_12, hf⟩ := chk_at hf
          refine G.iast' dX11_door_66 (by decide) rfl rfl hi_12 ?_
          refine G.nmI (fun I_13 e_I_13 => ?_)
          have hf := letb_at hf e_I_13
          clear e_I_13
          refine G.aload_n dX11_door_67 rfl rfl ?_
          refine G.getR (q := 1) dX11_door_68 flX11_10 (by decide) rfl rfl ?_
          refine G.getR (q := 2) dX11_door_71 flX11_97 (by decide) rfl rfl ?_
          refine G.iload_n dX11_door_74 rfl rfl ?_
          refine G.dup2 dX11_door_75 rfl rfl ?_
          obtain ⟨hi_14, hf⟩ := chk_at hf
          refine G.iald' dX11_door_76 (by decide) rfl rfl hi_14 ?_
          refine G.iconst (v := 1) dX11_door_77 (by decide) ?_
          refine G.iload_n dX11_door_78 rfl rfl ?_
          refine G.ishl dX11_door_79 ?_
          refine G.ixor dX11_door_80 ?_
          obtain ⟨hi_15, hf⟩ := chk_at hf
          refine G.iast' dX11_door_81 (by decide) rfl rfl hi_15 ?_
          refine G.nmI (fun I_16 e_I_16 => ?_)
          have hf := letb_at hf e_I_16
          clear e_I_16
          refine G.iconst (v := 1) dX11_door_82 (by decide) ?_
          have hf := Option.some.inj hf
          subst hf
          exact G.iret' dX11_door_83 rfl hK
        · have hf := ite_t hf c_20
          refine G.aload_n dX11_door_45 rfl rfl ?_
          refine G.bipush (v := -3) dX11_door_46 (by decide) ?_
          obtain ⟨v_18, I_19, hc_17, hf⟩ := bnd2_at hf
          refine G.callVi (av := [.int (-3 : Int32)]) (rest := []) dX11_door_48 mvX11_81 (gX11_refuse E d (-3 : Int32) I hc_17) (by decide) rfl rfl rfl (Nat.le_of_ble_eq_true rfl) ?_
          have hf := Option.some.inj hf
          subst hf
          exact G.iret' dX11_door_51 rfl hK
      · have hf := ite_t hf c_21
        refine G.forget (L' := [some (.ref 0), none, none, none]) [1, 2, 3] rfl ?_
        exact tX11_door_21 E d rr I _ hf hK
theorem dX11_cat_0 : decode cX11_cat 0 = .ok (.aload_n 0, 1) := by decide +kernel
theorem dX11_cat_1 : decode cX11_cat 1 = .ok (.iload_n 1, 1) := by decide +kernel
theorem dX11_cat_2 : decode cX11_cat 2 = .ok (.invokevirtual 93, 3) := by decide +kernel
theorem dX11_cat_5 : decode cX11_cat 5 = .ok (.ifCond .ne 10, 3) := by decide +kernel
theorem dX11_cat_8 : decode cX11_cat 8 = .ok (.aload_n 0, 1) := by decide +kernel
theorem dX11_cat_9 : decode cX11_cat 9 = .ok (.bipush (-2), 2) := by decide +kernel
theorem dX11_cat_11 : decode cX11_cat 11 = .ok (.invokevirtual 81, 3) := by decide +kernel
theorem dX11_cat_14 : decode cX11_cat 14 = .ok (.ireturn, 1) := by decide +kernel
theorem dX11_cat_15 : decode cX11_cat 15 = .ok (.aload_n 0, 1) := by decide +kernel
theorem dX11_cat_16 : decode cX11_cat 16 = .ok (.getfield 10, 3) := by decide +kernel
theorem dX11_cat_19 : decode cX11_cat 19 = .ok (.getfield 105, 3) := by decide +kernel
theorem dX11_cat_22 : decode cX11_cat 22 = .ok (.iload_n 1, 1) := by decide +kernel
theorem dX11_cat_23 : decode cX11_cat 23 = .ok (.invokestatic 101, 3) := by decide +kernel
theorem dX11_cat_26 : decode cX11_cat 26 = .ok (.iload_n 2, 1) := by decide +kernel
theorem dX11_cat_27 : decode cX11_cat 27 = .ok (.if_icmp .ne 10, 3) := by decide +kernel
theorem dX11_cat_30 : decode cX11_cat 30 = .ok (.aload_n 0, 1) := by decide +kernel
theorem dX11_cat_31 : decode cX11_cat 31 = .ok (.bipush (-3), 2) := by decide +kernel
theorem dX11_cat_33 : decode cX11_cat 33 = .ok (.invokevirtual 81, 3) := by decide +kernel
theorem dX11_cat_36 : decode cX11_cat 36 = .ok (.ireturn, 1) := by decide +kernel
theorem dX11_cat_37 : decode cX11_cat 37 = .ok (.aload_n 0, 1) := by decide +kernel
theorem dX11_cat_38 : decode cX11_cat 38 = .ok (.getfield 10, 3) := by decide +kernel
theorem dX11_cat_41 : decode cX11_cat 41 = .ok (.dup, 1) := by decide +kernel
theorem dX11_cat_42 : decode cX11_cat 42 = .ok (.getfield 105, 3) := by decide +kernel
theorem dX11_cat_45 : decode cX11_cat 45 = .ok (.iconst 1, 1) := by decide +kernel
theorem dX11_cat_46 : decode cX11_cat 46 = .ok (.iload_n 1, 1) := by decide +kernel
theorem dX11_cat_47 : decode cX11_cat 47 = .ok (.ishl, 1) := by decide +kernel
theorem dX11_cat_48 : decode cX11_cat 48 = .ok (.ixor, 1) := by decide +kernel
theorem dX11_cat_49 : decode cX11_cat 49 = .ok (.putfield 105, 3) := by decide +kernel
theorem dX11_cat_52 : decode cX11_cat 52 = .ok (.iconst 1, 1) := by decide +kernel
theorem dX11_cat_53 : decode cX11_cat 53 = .ok (.ireturn, 1) := by decide +kernel
def fX11_cat (x1 : Int32) (x2 : Int32) (I : Mem) : Option (Int32 × Mem) :=
  bnd (fX11_isRoom x1 I) fun v_2 =>
  if v_2 = 0 then
  (bnd2 (fX11_refuse (-2 : Int32) I) fun v_11 I_12 =>
  some (v_11, I_12))
  else
  (bnd (fX11_has (I 1 1) x1 I) fun v_4 =>
  if v_4 = x2 then
  (bnd2 (fX11_refuse (-3 : Int32) I) fun v_7 I_8 =>
  some (v_7, I_8))
  else
  (letb (up2 I 1 1 ((I 1 1) ^^^ ((1 : Int32) <<< (x1 &&& 31)))) fun I_5 =>
  some ((1 : Int32), I_5)))
set_option maxRecDepth 20000 in
theorem gX11_cat (E : EV) (d : Nat) (x1 : Int32) (x2 : Int32) (I : Mem) {v : Int32} {J : Mem} (hf : fX11_cat x1 x2 I = some (v, J)) : Gm E (d + 1) kX11_cat [.ref 0, .int x1, .int x2] I (some (.int v), J) := by
  refine (fun (y : (Int32 × Mem)) (hf : fX11_cat x1 x2 I = some y) => (?_ : Gm E (d + 1) kX11_cat [.ref 0, .int x1, .int x2] I (some (.int y.1), y.2))) (v, J) hf
  refine Gm.of (by decide) rfl (Nat.le_of_ble_eq_true rfl) ?_
  generalize hrr : ((some (.int y.1), y.2) : Option Value × Mem) = rr
  show G E (d + 1) kX11_cat 0 [some (.ref 0), some (.int x1), some (.int x2)] [] I rr
  have hK : (fun (z : Int32 × Mem) => (some (.int z.1), z.2) = rr) y := hrr
  clear hrr
  unfold fX11_cat at hf
  refine G.aload_n dX11_cat_0 rfl rfl ?_
  refine G.iload_n dX11_cat_1 rfl rfl ?_
  obtain ⟨v_2, hc_1, hf⟩ := bnd_at hf
  refine G.callVi (av := [.int x1]) (rest := []) dX11_cat_2 mvX11_93 (gX11_isRoom E d x1 I hc_1) (by decide) rfl rfl rfl (Nat.le_of_ble_eq_true rfl) ?_
  refine G.if_ne (tgt := 15) dX11_cat_5 (by decide) (fun c_13 => ?_) (fun c_13 => ?_)
  · have hf := ite_f hf c_13
    refine G.aload_n dX11_cat_15 rfl rfl ?_
    refine G.getR (q := 1) dX11_cat_16 flX11_10 (by decide) rfl rfl ?_
    refine G.getI dX11_cat_19 flX11_105 (by decide) rfl ?_
    refine G.iload_n dX11_cat_22 rfl rfl ?_
    obtain ⟨v_4, hc_3, hf⟩ := bnd_at hf
    refine G.callSi (av := [.int (I 1 1), .int x1]) (rest := []) dX11_cat_23 msX11_101 (gX11_has E d (I 1 1) x1 I hc_3) rfl rfl (Nat.le_of_ble_eq_true rfl) ?_
    refine G.iload_n dX11_cat_26 rfl rfl ?_
    refine G.icmp_ne (tgt := 37) dX11_cat_27 (by decide) (fun c_9 => ?_) (fun c_9 => ?_)
    · have hf := ite_f hf c_9
      refine G.aload_n dX11_cat_37 rfl rfl ?_
      refine G.getR (q := 1) dX11_cat_38 flX11_10 (by decide) rfl rfl ?_
      refine G.dup dX11_cat_41 rfl ?_
      refine G.getI dX11_cat_42 flX11_105 (by decide) rfl ?_
      refine G.iconst (v := 1) dX11_cat_45 (by decide) ?_
      refine G.iload_n dX11_cat_46 rfl rfl ?_
      refine G.ishl dX11_cat_47 ?_
      refine G.ixor dX11_cat_48 ?_
      refine G.putI dX11_cat_49 flX11_105 (by decide) rfl ?_
      refine G.nmI (fun I_5 e_I_5 => ?_)
      have hf := letb_at hf e_I_5
      clear e_I_5
      refine G.iconst (v := 1) dX11_cat_52 (by decide) ?_
      have hf := Option.some.inj hf
      subst hf
      exact G.iret' dX11_cat_53 rfl hK
    · have hf := ite_t hf c_9
      refine G.aload_n dX11_cat_30 rfl rfl ?_
      refine G.bipush (v := -3) dX11_cat_31 (by decide) ?_
      obtain ⟨v_7, I_8, hc_6, hf⟩ := bnd2_at hf
      refine G.callVi (av := [.int (-3 : Int32)]) (rest := []) dX11_cat_33 mvX11_81 (gX11_refuse E d (-3 : Int32) I hc_6) (by decide) rfl rfl rfl (Nat.le_of_ble_eq_true rfl) ?_
      have hf := Option.some.inj hf
      subst hf
      exact G.iret' dX11_cat_36 rfl hK
  · have hf := ite_t hf c_13
    refine G.aload_n dX11_cat_8 rfl rfl ?_
    refine G.bipush (v := -2) dX11_cat_9 (by decide) ?_
    obtain ⟨v_11, I_12, hc_10, hf⟩ := bnd2_at hf
    refine G.callVi (av := [.int (-2 : Int32)]) (rest := []) dX11_cat_11 mvX11_81 (gX11_refuse E d (-2 : Int32) I hc_10) (by decide) rfl rfl rfl (Nat.le_of_ble_eq_true rfl) ?_
    have hf := Option.some.inj hf
    subst hf
    exact G.iret' dX11_cat_14 rfl hK
theorem dX11_lay_0 : decode cX11_lay 0 = .ok (.aload_n 0, 1) := by decide +kernel
theorem dX11_lay_1 : decode cX11_lay 1 = .ok (.iload_n 1, 1) := by decide +kernel
theorem dX11_lay_2 : decode cX11_lay 2 = .ok (.invokevirtual 93, 3) := by decide +kernel
theorem dX11_lay_5 : decode cX11_lay 5 = .ok (.ifCond .eq 14, 3) := by decide +kernel
theorem dX11_lay_8 : decode cX11_lay 8 = .ok (.iload_n 2, 1) := by decide +kernel
theorem dX11_lay_9 : decode cX11_lay 9 = .ok (.ifCond .lt 10, 3) := by decide +kernel
theorem dX11_lay_12 : decode cX11_lay 12 = .ok (.iload_n 2, 1) := by decide +kernel
theorem dX11_lay_13 : decode cX11_lay 13 = .ok (.sipush 999, 3) := by decide +kernel
theorem dX11_lay_16 : decode cX11_lay 16 = .ok (.if_icmp .le 10, 3) := by decide +kernel
theorem dX11_lay_19 : decode cX11_lay 19 = .ok (.aload_n 0, 1) := by decide +kernel
theorem dX11_lay_20 : decode cX11_lay 20 = .ok (.bipush (-2), 2) := by decide +kernel
theorem dX11_lay_22 : decode cX11_lay 22 = .ok (.invokevirtual 81, 3) := by decide +kernel
theorem dX11_lay_25 : decode cX11_lay 25 = .ok (.ireturn, 1) := by decide +kernel
theorem dX11_lay_26 : decode cX11_lay 26 = .ok (.aload_n 0, 1) := by decide +kernel
theorem dX11_lay_27 : decode cX11_lay 27 = .ok (.getfield 10, 3) := by decide +kernel
theorem dX11_lay_30 : decode cX11_lay 30 = .ok (.getfield 108, 3) := by decide +kernel
theorem dX11_lay_33 : decode cX11_lay 33 = .ok (.iload_n 1, 1) := by decide +kernel
theorem dX11_lay_34 : decode cX11_lay 34 = .ok (.iaload, 1) := by decide +kernel
theorem dX11_lay_35 : decode cX11_lay 35 = .ok (.istore_n 3, 1) := by decide +kernel
theorem dX11_lay_36 : decode cX11_lay 36 = .ok (.aload_n 0, 1) := by decide +kernel
theorem dX11_lay_37 : decode cX11_lay 37 = .ok (.getfield 10, 3) := by decide +kernel
theorem dX11_lay_40 : decode cX11_lay 40 = .ok (.getfield 108, 3) := by decide +kernel
theorem dX11_lay_43 : decode cX11_lay 43 = .ok (.iload_n 1, 1) := by decide +kernel
theorem dX11_lay_44 : decode cX11_lay 44 = .ok (.iload_n 2, 1) := by decide +kernel
theorem dX11_lay_45 : decode cX11_lay 45 = .ok (.iastore, 1) := by decide +kernel
theorem dX11_lay_46 : decode cX11_lay 46 = .ok (.iload_n 3, 1) := by decide +kernel
theorem dX11_lay_47 : decode cX11_lay 47 = .ok (.ireturn, 1) := by decide +kernel
def jX11_lay_19 (I : Mem) : Option (Int32 × Mem) :=
  bnd2 (fX11_refuse (-2 : Int32) I) fun v_4 I_5 =>
  some (v_4, I_5)
set_option maxRecDepth 20000 in
theorem tX11_lay_19 (E : EV) (d : Nat) (rr : Option Value × Mem) (I : Mem) (y : (Int32 × Mem)) (hf : jX11_lay_19 I = some y) (hK : (fun (z : Int32 × Mem) => (some (.int z.1), z.2) = rr) y) : G E (d + 1) kX11_lay 19 [some (.ref 0), none, none, none] [] I rr := by
  unfold jX11_lay_19 at hf
  refine G.aload_n dX11_lay_19 rfl rfl ?_
  refine G.bipush (v := -2) dX11_lay_20 (by decide) ?_
  obtain ⟨v_4, I_5, hc_3, hf⟩ := bnd2_at hf
  refine G.callVi (av := [.int (-2 : Int32)]) (rest := []) dX11_lay_22 mvX11_81 (gX11_refuse E d (-2 : Int32) I hc_3) (by decide) rfl rfl rfl (Nat.le_of_ble_eq_true rfl) ?_
  have hf := Option.some.inj hf
  subst hf
  exact G.iret' dX11_lay_25 rfl hK
def fX11_lay (x1 : Int32) (x2 : Int32) (I : Mem) : Option (Int32 × Mem) :=
  bnd (fX11_isRoom x1 I) fun v_2 =>
  if v_2 = 0 then
  (jX11_lay_19 I)
  else
  (if x2 < 0 then
  (jX11_lay_19 I)
  else
  (if x2 ≤ (999 : Int32) then
  (chk (inb x1 5) <|
  letb (I 3 (ix x1)) fun x3_7 =>
  chk (inb x1 5) <|
  letb (up2 I 3 (ix x1) x2) fun I_9 =>
  some (x3_7, I_9))
  else
  (jX11_lay_19 I)))
set_option maxRecDepth 20000 in
theorem gX11_lay (E : EV) (d : Nat) (x1 : Int32) (x2 : Int32) (I : Mem) {v : Int32} {J : Mem} (hf : fX11_lay x1 x2 I = some (v, J)) : Gm E (d + 1) kX11_lay [.ref 0, .int x1, .int x2] I (some (.int v), J) := by
  refine (fun (y : (Int32 × Mem)) (hf : fX11_lay x1 x2 I = some y) => (?_ : Gm E (d + 1) kX11_lay [.ref 0, .int x1, .int x2] I (some (.int y.1), y.2))) (v, J) hf
  refine Gm.of (by decide) rfl (Nat.le_of_ble_eq_true rfl) ?_
  generalize hrr : ((some (.int y.1), y.2) : Option Value × Mem) = rr
  show G E (d + 1) kX11_lay 0 [some (.ref 0), some (.int x1), some (.int x2), none] [] I rr
  have hK : (fun (z : Int32 × Mem) => (some (.int z.1), z.2) = rr) y := hrr
  clear hrr
  unfold fX11_lay at hf
  refine G.aload_n dX11_lay_0 rfl rfl ?_
  refine G.iload_n dX11_lay_1 rfl rfl ?_
  obtain ⟨v_2, hc_1, hf⟩ := bnd_at hf
  refine G.callVi (av := [.int x1]) (rest := []) dX11_lay_2 mvX11_93 (gX11_isRoom E d x1 I hc_1) (by decide) rfl rfl rfl (Nat.le_of_ble_eq_true rfl) ?_
  refine G.if_eq (tgt := 19) dX11_lay_5 (by decide) (fun c_12 => ?_) (fun c_12 => ?_)
  · have hf := ite_t hf c_12
    refine G.forget (L' := [some (.ref 0), none, none, none]) [1, 2] rfl ?_
    exact tX11_lay_19 E d rr I _ hf hK
  · have hf := ite_f hf c_12
    refine G.iload_n dX11_lay_8 rfl rfl ?_
    refine G.if_lt (tgt := 19) dX11_lay_9 (by decide) (fun c_11 => ?_) (fun c_11 => ?_)
    · have hf := ite_t hf c_11
      refine G.forget (L' := [some (.ref 0), none, none, none]) [1, 2] rfl ?_
      exact tX11_lay_19 E d rr I _ hf hK
    · have hf := ite_f hf c_11
      refine G.iload_n dX11_lay_12 rfl rfl ?_
      refine G.sipush (v := 999) dX11_lay_13 (by decide) ?_
      refine G.icmp_le (tgt := 26) dX11_lay_16 (by decide) (fun c_10 => ?_) (fun c_10 => ?_)
      · have hf := ite_t hf c_10
        refine G.aload_n dX11_lay_26 rfl rfl ?_
        refine G.getR (q := 1) dX11_lay_27 flX11_10 (by decide) rfl rfl ?_
        refine G.getR (q := 3) dX11_lay_30 flX11_108 (by decide) rfl rfl ?_
        refine G.iload_n dX11_lay_33 rfl rfl ?_
        obtain ⟨hi_6, hf⟩ := chk_at hf
        refine G.iald' dX11_lay_34 (by decide) rfl rfl hi_6 ?_
        refine G.nmi (fun x3_7 e_x3_7 => ?_)
        have hf := letb_at hf e_x3_7
        clear e_x3_7
        refine G.istore_n (L' := [some (.ref 0), some (.int x1), some (.int x2), some (.int x3_7)]) dX11_lay_35 rfl (Nat.le_of_ble_eq_true rfl) (Nat.le_of_ble_eq_true rfl) rfl rfl ?_
        refine G.aload_n dX11_lay_36 rfl rfl ?_
        refine G.getR (q := 1) dX11_lay_37 flX11_10 (by decide) rfl rfl ?_
        refine G.getR (q := 3) dX11_lay_40 flX11_108 (by decide) rfl rfl ?_
        refine G.iload_n dX11_lay_43 rfl rfl ?_
        refine G.iload_n dX11_lay_44 rfl rfl ?_
        obtain ⟨hi_8, hf⟩ := chk_at hf
        refine G.iast' dX11_lay_45 (by decide) rfl rfl hi_8 ?_
        refine G.nmI (fun I_9 e_I_9 => ?_)
        have hf := letb_at hf e_I_9
        clear e_I_9
        refine G.iload_n dX11_lay_46 rfl rfl ?_
        have hf := Option.some.inj hf
        subst hf
        exact G.iret' dX11_lay_47 rfl hK
      · have hf := ite_f hf c_10
        refine G.forget (L' := [some (.ref 0), none, none, none]) [1, 2] rfl ?_
        exact tX11_lay_19 E d rr I _ hf hK
theorem dX11_person_0 : decode cX11_person 0 = .ok (.aload_n 0, 1) := by decide +kernel
theorem dX11_person_1 : decode cX11_person 1 = .ok (.iload_n 1, 1) := by decide +kernel
theorem dX11_person_2 : decode cX11_person 2 = .ok (.invokevirtual 93, 3) := by decide +kernel
theorem dX11_person_5 : decode cX11_person 5 = .ok (.ifCond .ne 10, 3) := by decide +kernel
theorem dX11_person_8 : decode cX11_person 8 = .ok (.aload_n 0, 1) := by decide +kernel
theorem dX11_person_9 : decode cX11_person 9 = .ok (.bipush (-2), 2) := by decide +kernel
theorem dX11_person_11 : decode cX11_person 11 = .ok (.invokevirtual 81, 3) := by decide +kernel
theorem dX11_person_14 : decode cX11_person 14 = .ok (.ireturn, 1) := by decide +kernel
theorem dX11_person_15 : decode cX11_person 15 = .ok (.aload_n 0, 1) := by decide +kernel
theorem dX11_person_16 : decode cX11_person 16 = .ok (.getfield 10, 3) := by decide +kernel
theorem dX11_person_19 : decode cX11_person 19 = .ok (.getfield 111, 3) := by decide +kernel
theorem dX11_person_22 : decode cX11_person 22 = .ok (.iconst 4, 1) := by decide +kernel
theorem dX11_person_23 : decode cX11_person 23 = .ok (.if_icmp .lt 10, 3) := by decide +kernel
theorem dX11_person_26 : decode cX11_person 26 = .ok (.aload_n 0, 1) := by decide +kernel
theorem dX11_person_27 : decode cX11_person 27 = .ok (.bipush (-4), 2) := by decide +kernel
theorem dX11_person_29 : decode cX11_person 29 = .ok (.invokevirtual 81, 3) := by decide +kernel
theorem dX11_person_32 : decode cX11_person 32 = .ok (.ireturn, 1) := by decide +kernel
theorem dX11_person_33 : decode cX11_person 33 = .ok (.aload_n 0, 1) := by decide +kernel
theorem dX11_person_34 : decode cX11_person 34 = .ok (.getfield 10, 3) := by decide +kernel
theorem dX11_person_37 : decode cX11_person 37 = .ok (.iload_n 1, 1) := by decide +kernel
theorem dX11_person_38 : decode cX11_person 38 = .ok (.invokevirtual 114, 3) := by decide +kernel
theorem dX11_person_41 : decode cX11_person 41 = .ok (.aload_n 0, 1) := by decide +kernel
theorem dX11_person_42 : decode cX11_person 42 = .ok (.getfield 10, 3) := by decide +kernel
theorem dX11_person_45 : decode cX11_person 45 = .ok (.getfield 111, 3) := by decide +kernel
theorem dX11_person_48 : decode cX11_person 48 = .ok (.iconst 1, 1) := by decide +kernel
theorem dX11_person_49 : decode cX11_person 49 = .ok (.isub, 1) := by decide +kernel
theorem dX11_person_50 : decode cX11_person 50 = .ok (.ireturn, 1) := by decide +kernel
def fX11_person (x1 : Int32) (I : Mem) : Option (Int32 × Mem) :=
  bnd (fX11_isRoom x1 I) fun v_2 =>
  if v_2 = 0 then
  (bnd2 (fX11_refuse (-2 : Int32) I) fun v_10 I_11 =>
  some (v_10, I_11))
  else
  (if (I 1 2) < (4 : Int32) then
  (bnd (fX4_enter 1 x1 I) fun I_4 =>
  some (((I_4 1 2) - (1 : Int32)), I_4))
  else
  (bnd2 (fX11_refuse (-4 : Int32) I) fun v_6 I_7 =>
  some (v_6, I_7)))
set_option maxRecDepth 20000 in
theorem gX11_person (E : EV) (d : Nat) (x1 : Int32) (I : Mem) {v : Int32} {J : Mem} (hf : fX11_person x1 I = some (v, J)) : Gm E (d + 1) kX11_person [.ref 0, .int x1] I (some (.int v), J) := by
  refine (fun (y : (Int32 × Mem)) (hf : fX11_person x1 I = some y) => (?_ : Gm E (d + 1) kX11_person [.ref 0, .int x1] I (some (.int y.1), y.2))) (v, J) hf
  refine Gm.of (by decide) rfl (Nat.le_of_ble_eq_true rfl) ?_
  generalize hrr : ((some (.int y.1), y.2) : Option Value × Mem) = rr
  show G E (d + 1) kX11_person 0 [some (.ref 0), some (.int x1)] [] I rr
  have hK : (fun (z : Int32 × Mem) => (some (.int z.1), z.2) = rr) y := hrr
  clear hrr
  unfold fX11_person at hf
  refine G.aload_n dX11_person_0 rfl rfl ?_
  refine G.iload_n dX11_person_1 rfl rfl ?_
  obtain ⟨v_2, hc_1, hf⟩ := bnd_at hf
  refine G.callVi (av := [.int x1]) (rest := []) dX11_person_2 mvX11_93 (gX11_isRoom E d x1 I hc_1) (by decide) rfl rfl rfl (Nat.le_of_ble_eq_true rfl) ?_
  refine G.if_ne (tgt := 15) dX11_person_5 (by decide) (fun c_12 => ?_) (fun c_12 => ?_)
  · have hf := ite_f hf c_12
    refine G.aload_n dX11_person_15 rfl rfl ?_
    refine G.getR (q := 1) dX11_person_16 flX11_10 (by decide) rfl rfl ?_
    refine G.getI dX11_person_19 flX11_111 (by decide) rfl ?_
    refine G.iconst (v := 4) dX11_person_22 (by decide) ?_
    refine G.icmp_lt (tgt := 33) dX11_person_23 (by decide) (fun c_8 => ?_) (fun c_8 => ?_)
    · have hf := ite_t hf c_8
      refine G.aload_n dX11_person_33 rfl rfl ?_
      refine G.getR (q := 1) dX11_person_34 flX11_10 (by decide) rfl rfl ?_
      refine G.iload_n dX11_person_37 rfl rfl ?_
      obtain ⟨I_4, hc_3, hf⟩ := bnd_at hf
      refine G.callVv (av := [.int x1]) (rest := []) dX11_person_38 mvX11_114 (gX4_enter E d 1 x1 I (by unfold isH; decide) hc_3) (by decide) rfl rfl rfl (Nat.le_of_ble_eq_true rfl) ?_
      refine G.aload_n dX11_person_41 rfl rfl ?_
      refine G.getR (q := 1) dX11_person_42 flX11_10 (by decide) rfl rfl ?_
      refine G.getI dX11_person_45 flX11_111 (by decide) rfl ?_
      refine G.iconst (v := 1) dX11_person_48 (by decide) ?_
      refine G.isub dX11_person_49 ?_
      have hf := Option.some.inj hf
      subst hf
      exact G.iret' dX11_person_50 rfl hK
    · have hf := ite_f hf c_8
      refine G.aload_n dX11_person_26 rfl rfl ?_
      refine G.bipush (v := -4) dX11_person_27 (by decide) ?_
      obtain ⟨v_6, I_7, hc_5, hf⟩ := bnd2_at hf
      refine G.callVi (av := [.int (-4 : Int32)]) (rest := []) dX11_person_29 mvX11_81 (gX11_refuse E d (-4 : Int32) I hc_5) (by decide) rfl rfl rfl (Nat.le_of_ble_eq_true rfl) ?_
      have hf := Option.some.inj hf
      subst hf
      exact G.iret' dX11_person_32 rfl hK
  · have hf := ite_t hf c_12
    refine G.aload_n dX11_person_8 rfl rfl ?_
    refine G.bipush (v := -2) dX11_person_9 (by decide) ?_
    obtain ⟨v_10, I_11, hc_9, hf⟩ := bnd2_at hf
    refine G.callVi (av := [.int (-2 : Int32)]) (rest := []) dX11_person_11 mvX11_81 (gX11_refuse E d (-2 : Int32) I hc_9) (by decide) rfl rfl rfl (Nat.le_of_ble_eq_true rfl) ?_
    have hf := Option.some.inj hf
    subst hf
    exact G.iret' dX11_person_14 rfl hK
theorem dX11_isLaw_0 : decode cX11_isLaw 0 = .ok (.iload_n 1, 1) := by decide +kernel
theorem dX11_isLaw_1 : decode cX11_isLaw 1 = .ok (.ifCond .lt 12, 3) := by decide +kernel
theorem dX11_isLaw_4 : decode cX11_isLaw 4 = .ok (.iload_n 1, 1) := by decide +kernel
theorem dX11_isLaw_5 : decode cX11_isLaw 5 = .ok (.iconst 5, 1) := by decide +kernel
theorem dX11_isLaw_6 : decode cX11_isLaw 6 = .ok (.if_icmp .ge 7, 3) := by decide +kernel
theorem dX11_isLaw_9 : decode cX11_isLaw 9 = .ok (.iconst 1, 1) := by decide +kernel
theorem dX11_isLaw_10 : decode cX11_isLaw 10 = .ok (.goto 4, 3) := by decide +kernel
theorem dX11_isLaw_13 : decode cX11_isLaw 13 = .ok (.iconst 0, 1) := by decide +kernel
theorem dX11_isLaw_14 : decode cX11_isLaw 14 = .ok (.ireturn, 1) := by decide +kernel
def fX11_isLaw (x1 : Int32) (I : Mem) : Option Int32 :=
  if x1 < 0 then
  (some (0 : Int32))
  else
  (if (5 : Int32) ≤ x1 then
  (some (0 : Int32))
  else
  (some (1 : Int32)))
set_option maxRecDepth 20000 in
theorem gX11_isLaw (E : EV) (d : Nat) (x1 : Int32) (I : Mem) {v : Int32} (hf : fX11_isLaw x1 I = some v) : Gm E (d + 0) kX11_isLaw [.ref 0, .int x1] I (some (.int v), I) := by
  refine (fun (y : Int32) (hf : fX11_isLaw x1 I = some y) => (?_ : Gm E (d + 0) kX11_isLaw [.ref 0, .int x1] I (some (.int y), I))) v hf
  refine Gm.of (by decide) rfl (Nat.le_of_ble_eq_true rfl) ?_
  generalize hrr : ((some (.int y), I) : Option Value × Mem) = rr
  show G E (d + 0) kX11_isLaw 0 [some (.ref 0), some (.int x1)] [] I rr
  have hK : (fun (z : Int32) => (some (.int z), I) = rr) y := hrr
  clear hrr
  unfold fX11_isLaw at hf
  refine G.iload_n dX11_isLaw_0 rfl rfl ?_
  refine G.if_lt (tgt := 13) dX11_isLaw_1 (by decide) (fun c_2 => ?_) (fun c_2 => ?_)
  · have hf := ite_t hf c_2
    refine G.iconst (v := 0) dX11_isLaw_13 (by decide) ?_
    have hf := Option.some.inj hf
    subst hf
    exact G.zret' dX11_isLaw_14 rfl (by decide) hK
  · have hf := ite_f hf c_2
    refine G.iload_n dX11_isLaw_4 rfl rfl ?_
    refine G.iconst (v := 5) dX11_isLaw_5 (by decide) ?_
    refine G.icmp_ge (tgt := 13) dX11_isLaw_6 (by decide) (fun c_1 => ?_) (fun c_1 => ?_)
    · have hf := ite_t hf c_1
      refine G.iconst (v := 0) dX11_isLaw_13 (by decide) ?_
      have hf := Option.some.inj hf
      subst hf
      exact G.zret' dX11_isLaw_14 rfl (by decide) hK
    · have hf := ite_f hf c_1
      refine G.iconst (v := 1) dX11_isLaw_9 (by decide) ?_
      refine G.goto (tgt := 14) dX11_isLaw_10 (by decide) ?_
      have hf := Option.some.inj hf
      subst hf
      exact G.zret' dX11_isLaw_14 rfl (by decide) hK
theorem dX11_law_0 : decode cX11_law 0 = .ok (.aload_n 0, 1) := by decide +kernel
theorem dX11_law_1 : decode cX11_law 1 = .ok (.iload_n 1, 1) := by decide +kernel
theorem dX11_law_2 : decode cX11_law 2 = .ok (.invokevirtual 117, 3) := by decide +kernel
theorem dX11_law_5 : decode cX11_law 5 = .ok (.ifCond .ne 10, 3) := by decide +kernel
theorem dX11_law_8 : decode cX11_law 8 = .ok (.aload_n 0, 1) := by decide +kernel
theorem dX11_law_9 : decode cX11_law 9 = .ok (.bipush (-2), 2) := by decide +kernel
theorem dX11_law_11 : decode cX11_law 11 = .ok (.invokevirtual 81, 3) := by decide +kernel
theorem dX11_law_14 : decode cX11_law 14 = .ok (.ireturn, 1) := by decide +kernel
theorem dX11_law_15 : decode cX11_law 15 = .ok (.aload_n 0, 1) := by decide +kernel
theorem dX11_law_16 : decode cX11_law 16 = .ok (.getfield 10, 3) := by decide +kernel
theorem dX11_law_19 : decode cX11_law 19 = .ok (.getfield 120, 3) := by decide +kernel
theorem dX11_law_22 : decode cX11_law 22 = .ok (.istore_n 2, 1) := by decide +kernel
theorem dX11_law_23 : decode cX11_law 23 = .ok (.aload_n 0, 1) := by decide +kernel
theorem dX11_law_24 : decode cX11_law 24 = .ok (.getfield 10, 3) := by decide +kernel
theorem dX11_law_27 : decode cX11_law 27 = .ok (.iload_n 1, 1) := by decide +kernel
theorem dX11_law_28 : decode cX11_law 28 = .ok (.putfield 120, 3) := by decide +kernel
theorem dX11_law_31 : decode cX11_law 31 = .ok (.iload_n 2, 1) := by decide +kernel
theorem dX11_law_32 : decode cX11_law 32 = .ok (.ireturn, 1) := by decide +kernel
def fX11_law (x1 : Int32) (I : Mem) : Option (Int32 × Mem) :=
  bnd (fX11_isLaw x1 I) fun v_2 =>
  if v_2 = 0 then
  (bnd2 (fX11_refuse (-2 : Int32) I) fun v_6 I_7 =>
  some (v_6, I_7))
  else
  (letb (I 1 4) fun x2_3 =>
  letb (up2 I 1 4 x1) fun I_4 =>
  some (x2_3, I_4))
set_option maxRecDepth 20000 in
theorem gX11_law (E : EV) (d : Nat) (x1 : Int32) (I : Mem) {v : Int32} {J : Mem} (hf : fX11_law x1 I = some (v, J)) : Gm E (d + 1) kX11_law [.ref 0, .int x1] I (some (.int v), J) := by
  refine (fun (y : (Int32 × Mem)) (hf : fX11_law x1 I = some y) => (?_ : Gm E (d + 1) kX11_law [.ref 0, .int x1] I (some (.int y.1), y.2))) (v, J) hf
  refine Gm.of (by decide) rfl (Nat.le_of_ble_eq_true rfl) ?_
  generalize hrr : ((some (.int y.1), y.2) : Option Value × Mem) = rr
  show G E (d + 1) kX11_law 0 [some (.ref 0), some (.int x1), none] [] I rr
  have hK : (fun (z : Int32 × Mem) => (some (.int z.1), z.2) = rr) y := hrr
  clear hrr
  unfold fX11_law at hf
  refine G.aload_n dX11_law_0 rfl rfl ?_
  refine G.iload_n dX11_law_1 rfl rfl ?_
  obtain ⟨v_2, hc_1, hf⟩ := bnd_at hf
  refine G.callVi (av := [.int x1]) (rest := []) dX11_law_2 mvX11_117 (gX11_isLaw E d x1 I hc_1) (by decide) rfl rfl rfl (Nat.le_of_ble_eq_true rfl) ?_
  refine G.if_ne (tgt := 15) dX11_law_5 (by decide) (fun c_8 => ?_) (fun c_8 => ?_)
  · have hf := ite_f hf c_8
    refine G.aload_n dX11_law_15 rfl rfl ?_
    refine G.getR (q := 1) dX11_law_16 flX11_10 (by decide) rfl rfl ?_
    refine G.getI dX11_law_19 flX11_120 (by decide) rfl ?_
    refine G.nmi (fun x2_3 e_x2_3 => ?_)
    have hf := letb_at hf e_x2_3
    clear e_x2_3
    refine G.istore_n (L' := [some (.ref 0), some (.int x1), some (.int x2_3)]) dX11_law_22 rfl (Nat.le_of_ble_eq_true rfl) (Nat.le_of_ble_eq_true rfl) rfl rfl ?_
    refine G.aload_n dX11_law_23 rfl rfl ?_
    refine G.getR (q := 1) dX11_law_24 flX11_10 (by decide) rfl rfl ?_
    refine G.iload_n dX11_law_27 rfl rfl ?_
    refine G.putI dX11_law_28 flX11_120 (by decide) rfl ?_
    refine G.nmI (fun I_4 e_I_4 => ?_)
    have hf := letb_at hf e_I_4
    clear e_I_4
    refine G.iload_n dX11_law_31 rfl rfl ?_
    have hf := Option.some.inj hf
    subst hf
    exact G.iret' dX11_law_32 rfl hK
  · have hf := ite_t hf c_8
    refine G.aload_n dX11_law_8 rfl rfl ?_
    refine G.bipush (v := -2) dX11_law_9 (by decide) ?_
    obtain ⟨v_6, I_7, hc_5, hf⟩ := bnd2_at hf
    refine G.callVi (av := [.int (-2 : Int32)]) (rest := []) dX11_law_11 mvX11_81 (gX11_refuse E d (-2 : Int32) I hc_5) (by decide) rfl rfl rfl (Nat.le_of_ble_eq_true rfl) ?_
    have hf := Option.some.inj hf
    subst hf
    exact G.iret' dX11_law_14 rfl hK
theorem dX11_isPerson_0 : decode cX11_isPerson 0 = .ok (.iload_n 1, 1) := by decide +kernel
theorem dX11_isPerson_1 : decode cX11_isPerson 1 = .ok (.ifCond .lt 18, 3) := by decide +kernel
theorem dX11_isPerson_4 : decode cX11_isPerson 4 = .ok (.iload_n 1, 1) := by decide +kernel
theorem dX11_isPerson_5 : decode cX11_isPerson 5 = .ok (.aload_n 0, 1) := by decide +kernel
theorem dX11_isPerson_6 : decode cX11_isPerson 6 = .ok (.getfield 10, 3) := by decide +kernel
theorem dX11_isPerson_9 : decode cX11_isPerson 9 = .ok (.getfield 111, 3) := by decide +kernel
theorem dX11_isPerson_12 : decode cX11_isPerson 12 = .ok (.if_icmp .ge 7, 3) := by decide +kernel
theorem dX11_isPerson_15 : decode cX11_isPerson 15 = .ok (.iconst 1, 1) := by decide +kernel
theorem dX11_isPerson_16 : decode cX11_isPerson 16 = .ok (.goto 4, 3) := by decide +kernel
theorem dX11_isPerson_19 : decode cX11_isPerson 19 = .ok (.iconst 0, 1) := by decide +kernel
theorem dX11_isPerson_20 : decode cX11_isPerson 20 = .ok (.ireturn, 1) := by decide +kernel
def fX11_isPerson (x1 : Int32) (I : Mem) : Option Int32 :=
  if x1 < 0 then
  (some (0 : Int32))
  else
  (if (I 1 2) ≤ x1 then
  (some (0 : Int32))
  else
  (some (1 : Int32)))
set_option maxRecDepth 20000 in
theorem gX11_isPerson (E : EV) (d : Nat) (x1 : Int32) (I : Mem) {v : Int32} (hf : fX11_isPerson x1 I = some v) : Gm E (d + 0) kX11_isPerson [.ref 0, .int x1] I (some (.int v), I) := by
  refine (fun (y : Int32) (hf : fX11_isPerson x1 I = some y) => (?_ : Gm E (d + 0) kX11_isPerson [.ref 0, .int x1] I (some (.int y), I))) v hf
  refine Gm.of (by decide) rfl (Nat.le_of_ble_eq_true rfl) ?_
  generalize hrr : ((some (.int y), I) : Option Value × Mem) = rr
  show G E (d + 0) kX11_isPerson 0 [some (.ref 0), some (.int x1)] [] I rr
  have hK : (fun (z : Int32) => (some (.int z), I) = rr) y := hrr
  clear hrr
  unfold fX11_isPerson at hf
  refine G.iload_n dX11_isPerson_0 rfl rfl ?_
  refine G.if_lt (tgt := 19) dX11_isPerson_1 (by decide) (fun c_2 => ?_) (fun c_2 => ?_)
  · have hf := ite_t hf c_2
    refine G.iconst (v := 0) dX11_isPerson_19 (by decide) ?_
    have hf := Option.some.inj hf
    subst hf
    exact G.zret' dX11_isPerson_20 rfl (by decide) hK
  · have hf := ite_f hf c_2
    refine G.iload_n dX11_isPerson_4 rfl rfl ?_
    refine G.aload_n dX11_isPerson_5 rfl rfl ?_
    refine G.getR (q := 1) dX11_isPerson_6 flX11_10 (by decide) rfl rfl ?_
    refine G.getI dX11_isPerson_9 flX11_111 (by decide) rfl ?_
    refine G.icmp_ge (tgt := 19) dX11_isPerson_12 (by decide) (fun c_1 => ?_) (fun c_1 => ?_)
    · have hf := ite_t hf c_1
      refine G.iconst (v := 0) dX11_isPerson_19 (by decide) ?_
      have hf := Option.some.inj hf
      subst hf
      exact G.zret' dX11_isPerson_20 rfl (by decide) hK
    · have hf := ite_f hf c_1
      refine G.iconst (v := 1) dX11_isPerson_15 (by decide) ?_
      refine G.goto (tgt := 20) dX11_isPerson_16 (by decide) ?_
      have hf := Option.some.inj hf
      subst hf
      exact G.zret' dX11_isPerson_20 rfl (by decide) hK
theorem dX11_wish_0 : decode cX11_wish 0 = .ok (.aload_n 0, 1) := by decide +kernel
theorem dX11_wish_1 : decode cX11_wish 1 = .ok (.iload_n 1, 1) := by decide +kernel
theorem dX11_wish_2 : decode cX11_wish 2 = .ok (.invokevirtual 123, 3) := by decide +kernel
theorem dX11_wish_5 : decode cX11_wish 5 = .ok (.ifCond .eq 26, 3) := by decide +kernel
theorem dX11_wish_8 : decode cX11_wish 8 = .ok (.iload_n 2, 1) := by decide +kernel
theorem dX11_wish_9 : decode cX11_wish 9 = .ok (.iconst 1, 1) := by decide +kernel
theorem dX11_wish_10 : decode cX11_wish 10 = .ok (.if_icmp .lt 21, 3) := by decide +kernel
theorem dX11_wish_13 : decode cX11_wish 13 = .ok (.iload_n 2, 1) := by decide +kernel
theorem dX11_wish_14 : decode cX11_wish 14 = .ok (.iconst 4, 1) := by decide +kernel
theorem dX11_wish_15 : decode cX11_wish 15 = .ok (.if_icmp .gt 16, 3) := by decide +kernel
theorem dX11_wish_18 : decode cX11_wish 18 = .ok (.iload_n 3, 1) := by decide +kernel
theorem dX11_wish_19 : decode cX11_wish 19 = .ok (.iconst (-1), 1) := by decide +kernel
theorem dX11_wish_20 : decode cX11_wish 20 = .ok (.if_icmp .eq 21, 3) := by decide +kernel
theorem dX11_wish_23 : decode cX11_wish 23 = .ok (.aload_n 0, 1) := by decide +kernel
theorem dX11_wish_24 : decode cX11_wish 24 = .ok (.iload_n 3, 1) := by decide +kernel
theorem dX11_wish_25 : decode cX11_wish 25 = .ok (.invokevirtual 93, 3) := by decide +kernel
theorem dX11_wish_28 : decode cX11_wish 28 = .ok (.ifCond .ne 13, 3) := by decide +kernel
theorem dX11_wish_31 : decode cX11_wish 31 = .ok (.aload_n 0, 1) := by decide +kernel
theorem dX11_wish_32 : decode cX11_wish 32 = .ok (.bipush (-2), 2) := by decide +kernel
theorem dX11_wish_34 : decode cX11_wish 34 = .ok (.invokevirtual 81, 3) := by decide +kernel
theorem dX11_wish_37 : decode cX11_wish 37 = .ok (.pop, 1) := by decide +kernel
theorem dX11_wish_38 : decode cX11_wish 38 = .ok (.bipush (-10), 2) := by decide +kernel
theorem dX11_wish_40 : decode cX11_wish 40 = .ok (.ireturn, 1) := by decide +kernel
theorem dX11_wish_41 : decode cX11_wish 41 = .ok (.iload_n 1, 1) := by decide +kernel
theorem dX11_wish_42 : decode cX11_wish 42 = .ok (.iload_n 2, 1) := by decide +kernel
theorem dX11_wish_43 : decode cX11_wish 43 = .ok (.invokestatic 126, 3) := by decide +kernel
theorem dX11_wish_46 : decode cX11_wish 46 = .ok (.istore 4, 2) := by decide +kernel
theorem dX11_wish_48 : decode cX11_wish 48 = .ok (.aload_n 0, 1) := by decide +kernel
theorem dX11_wish_49 : decode cX11_wish 49 = .ok (.getfield 10, 3) := by decide +kernel
theorem dX11_wish_52 : decode cX11_wish 52 = .ok (.getfield 130, 3) := by decide +kernel
theorem dX11_wish_55 : decode cX11_wish 55 = .ok (.iload 4, 2) := by decide +kernel
theorem dX11_wish_57 : decode cX11_wish 57 = .ok (.iaload, 1) := by decide +kernel
theorem dX11_wish_58 : decode cX11_wish 58 = .ok (.istore 5, 2) := by decide +kernel
theorem dX11_wish_60 : decode cX11_wish 60 = .ok (.aload_n 0, 1) := by decide +kernel
theorem dX11_wish_61 : decode cX11_wish 61 = .ok (.getfield 10, 3) := by decide +kernel
theorem dX11_wish_64 : decode cX11_wish 64 = .ok (.getfield 130, 3) := by decide +kernel
theorem dX11_wish_67 : decode cX11_wish 67 = .ok (.iload 4, 2) := by decide +kernel
theorem dX11_wish_69 : decode cX11_wish 69 = .ok (.iload_n 3, 1) := by decide +kernel
theorem dX11_wish_70 : decode cX11_wish 70 = .ok (.iastore, 1) := by decide +kernel
theorem dX11_wish_71 : decode cX11_wish 71 = .ok (.iload 5, 2) := by decide +kernel
theorem dX11_wish_73 : decode cX11_wish 73 = .ok (.ireturn, 1) := by decide +kernel
def jX11_wish_31 (I : Mem) : Option (Int32 × Mem) :=
  bnd2 (fX11_refuse (-2 : Int32) I) fun v_4 I_5 =>
  some ((-10 : Int32), I_5)
set_option maxRecDepth 20000 in
theorem tX11_wish_31 (E : EV) (d : Nat) (rr : Option Value × Mem) (I : Mem) (y : (Int32 × Mem)) (hf : jX11_wish_31 I = some y) (hK : (fun (z : Int32 × Mem) => (some (.int z.1), z.2) = rr) y) : G E (d + 1) kX11_wish 31 [some (.ref 0), none, none, none, none, none] [] I rr := by
  unfold jX11_wish_31 at hf
  refine G.aload_n dX11_wish_31 rfl rfl ?_
  refine G.bipush (v := -2) dX11_wish_32 (by decide) ?_
  obtain ⟨v_4, I_5, hc_3, hf⟩ := bnd2_at hf
  refine G.callVi (av := [.int (-2 : Int32)]) (rest := []) dX11_wish_34 mvX11_81 (gX11_refuse E d (-2 : Int32) I hc_3) (by decide) rfl rfl rfl (Nat.le_of_ble_eq_true rfl) ?_
  refine G.pop dX11_wish_37 rfl ?_
  refine G.bipush (v := -10) dX11_wish_38 (by decide) ?_
  have hf := Option.some.inj hf
  subst hf
  exact G.iret' dX11_wish_40 rfl hK
def jX11_wish_41 (x1 : Int32) (x2 : Int32) (x3 : Int32) (I : Mem) : Option (Int32 × Mem) :=
  bnd (fX11_wishPlace x1 x2 I) fun v_7 =>
  chk (inb v_7 16) <|
  letb (I 6 (ix v_7)) fun x5_9 =>
  chk (inb v_7 16) <|
  letb (up2 I 6 (ix v_7) x3) fun I_11 =>
  some (x5_9, I_11)
set_option maxRecDepth 20000 in
theorem tX11_wish_41 (E : EV) (d : Nat) (rr : Option Value × Mem) (x1 : Int32) (x2 : Int32) (x3 : Int32) (I : Mem) (y : (Int32 × Mem)) (hf : jX11_wish_41 x1 x2 x3 I = some y) (hK : (fun (z : Int32 × Mem) => (some (.int z.1), z.2) = rr) y) : G E (d + 1) kX11_wish 41 [some (.ref 0), some (.int x1), some (.int x2), some (.int x3), none, none] [] I rr := by
  unfold jX11_wish_41 at hf
  refine G.iload_n dX11_wish_41 rfl rfl ?_
  refine G.iload_n dX11_wish_42 rfl rfl ?_
  obtain ⟨v_7, hc_6, hf⟩ := bnd_at hf
  refine G.callSi (av := [.int x1, .int x2]) (rest := []) dX11_wish_43 msX11_126 (gX11_wishPlace E d x1 x2 I hc_6) rfl rfl (Nat.le_of_ble_eq_true rfl) ?_
  refine G.istore (L' := [some (.ref 0), some (.int x1), some (.int x2), some (.int x3), some (.int v_7), none]) dX11_wish_46 (Nat.le_of_ble_eq_true rfl) (Nat.le_of_ble_eq_true rfl) rfl rfl ?_
  refine G.aload_n dX11_wish_48 rfl rfl ?_
  refine G.getR (q := 1) dX11_wish_49 flX11_10 (by decide) rfl rfl ?_
  refine G.getR (q := 6) dX11_wish_52 flX11_130 (by decide) rfl rfl ?_
  refine G.iload dX11_wish_55 rfl ?_
  obtain ⟨hi_8, hf⟩ := chk_at hf
  refine G.iald' dX11_wish_57 (by decide) rfl rfl hi_8 ?_
  refine G.nmi (fun x5_9 e_x5_9 => ?_)
  have hf := letb_at hf e_x5_9
  clear e_x5_9
  refine G.istore (L' := [some (.ref 0), some (.int x1), some (.int x2), some (.int x3), some (.int v_7), some (.int x5_9)]) dX11_wish_58 (Nat.le_of_ble_eq_true rfl) (Nat.le_of_ble_eq_true rfl) rfl rfl ?_
  refine G.aload_n dX11_wish_60 rfl rfl ?_
  refine G.getR (q := 1) dX11_wish_61 flX11_10 (by decide) rfl rfl ?_
  refine G.getR (q := 6) dX11_wish_64 flX11_130 (by decide) rfl rfl ?_
  refine G.iload dX11_wish_67 rfl ?_
  refine G.iload_n dX11_wish_69 rfl rfl ?_
  obtain ⟨hi_10, hf⟩ := chk_at hf
  refine G.iast' dX11_wish_70 (by decide) rfl rfl hi_10 ?_
  refine G.nmI (fun I_11 e_I_11 => ?_)
  have hf := letb_at hf e_I_11
  clear e_I_11
  refine G.iload dX11_wish_71 rfl ?_
  have hf := Option.some.inj hf
  subst hf
  exact G.iret' dX11_wish_73 rfl hK
def fX11_wish (x1 : Int32) (x2 : Int32) (x3 : Int32) (I : Mem) : Option (Int32 × Mem) :=
  bnd (fX11_isPerson x1 I) fun v_2 =>
  if v_2 = 0 then
  (jX11_wish_31 I)
  else
  (if x2 < (1 : Int32) then
  (jX11_wish_31 I)
  else
  (if (4 : Int32) < x2 then
  (jX11_wish_31 I)
  else
  (if x3 = (-1 : Int32) then
  (jX11_wish_41 x1 x2 x3 I)
  else
  (bnd (fX11_isRoom x3 I) fun v_13 =>
  if v_13 = 0 then
  (jX11_wish_31 I)
  else
  (jX11_wish_41 x1 x2 x3 I)))))
set_option maxRecDepth 20000 in
theorem gX11_wish (E : EV) (d : Nat) (x1 : Int32) (x2 : Int32) (x3 : Int32) (I : Mem) {v : Int32} {J : Mem} (hf : fX11_wish x1 x2 x3 I = some (v, J)) : Gm E (d + 1) kX11_wish [.ref 0, .int x1, .int x2, .int x3] I (some (.int v), J) := by
  refine (fun (y : (Int32 × Mem)) (hf : fX11_wish x1 x2 x3 I = some y) => (?_ : Gm E (d + 1) kX11_wish [.ref 0, .int x1, .int x2, .int x3] I (some (.int y.1), y.2))) (v, J) hf
  refine Gm.of (by decide) rfl (Nat.le_of_ble_eq_true rfl) ?_
  generalize hrr : ((some (.int y.1), y.2) : Option Value × Mem) = rr
  show G E (d + 1) kX11_wish 0 [some (.ref 0), some (.int x1), some (.int x2), some (.int x3), none, none] [] I rr
  have hK : (fun (z : Int32 × Mem) => (some (.int z.1), z.2) = rr) y := hrr
  clear hrr
  unfold fX11_wish at hf
  refine G.aload_n dX11_wish_0 rfl rfl ?_
  refine G.iload_n dX11_wish_1 rfl rfl ?_
  obtain ⟨v_2, hc_1, hf⟩ := bnd_at hf
  refine G.callVi (av := [.int x1]) (rest := []) dX11_wish_2 mvX11_123 (gX11_isPerson E d x1 I hc_1) (by decide) rfl rfl rfl (Nat.le_of_ble_eq_true rfl) ?_
  refine G.if_eq (tgt := 31) dX11_wish_5 (by decide) (fun c_18 => ?_) (fun c_18 => ?_)
  · have hf := ite_t hf c_18
    refine G.forget (L' := [some (.ref 0), none, none, none, none, none]) [1, 2, 3] rfl ?_
    exact tX11_wish_31 E d rr I _ hf hK
  · have hf := ite_f hf c_18
    refine G.iload_n dX11_wish_8 rfl rfl ?_
    refine G.iconst (v := 1) dX11_wish_9 (by decide) ?_
    refine G.icmp_lt (tgt := 31) dX11_wish_10 (by decide) (fun c_17 => ?_) (fun c_17 => ?_)
    · have hf := ite_t hf c_17
      refine G.forget (L' := [some (.ref 0), none, none, none, none, none]) [1, 2, 3] rfl ?_
      exact tX11_wish_31 E d rr I _ hf hK
    · have hf := ite_f hf c_17
      refine G.iload_n dX11_wish_13 rfl rfl ?_
      refine G.iconst (v := 4) dX11_wish_14 (by decide) ?_
      refine G.icmp_gt (tgt := 31) dX11_wish_15 (by decide) (fun c_16 => ?_) (fun c_16 => ?_)
      · have hf := ite_t hf c_16
        refine G.forget (L' := [some (.ref 0), none, none, none, none, none]) [1, 2, 3] rfl ?_
        exact tX11_wish_31 E d rr I _ hf hK
      · have hf := ite_f hf c_16
        refine G.iload_n dX11_wish_18 rfl rfl ?_
        refine G.iconst (v := -1) dX11_wish_19 (by decide) ?_
        refine G.icmp_eq (tgt := 41) dX11_wish_20 (by decide) (fun c_15 => ?_) (fun c_15 => ?_)
        · have hf := ite_t hf c_15
          exact tX11_wish_41 E d rr x1 x2 x3 I _ hf hK
        · have hf := ite_f hf c_15
          refine G.aload_n dX11_wish_23 rfl rfl ?_
          refine G.iload_n dX11_wish_24 rfl rfl ?_
          obtain ⟨v_13, hc_12, hf⟩ := bnd_at hf
          refine G.callVi (av := [.int x3]) (rest := []) dX11_wish_25 mvX11_93 (gX11_isRoom E d x3 I hc_12) (by decide) rfl rfl rfl (Nat.le_of_ble_eq_true rfl) ?_
          refine G.if_ne (tgt := 41) dX11_wish_28 (by decide) (fun c_14 => ?_) (fun c_14 => ?_)
          · have hf := ite_f hf c_14
            exact tX11_wish_41 E d rr x1 x2 x3 I _ hf hK
          · have hf := ite_t hf c_14
            refine G.forget (L' := [some (.ref 0), none, none, none, none, none]) [1, 2, 3] rfl ?_
            exact tX11_wish_31 E d rr I _ hf hK
theorem dX11_type_0 : decode cX11_type 0 = .ok (.iload_n 3, 1) := by decide +kernel
theorem dX11_type_1 : decode cX11_type 1 = .ok (.iconst 1, 1) := by decide +kernel
theorem dX11_type_2 : decode cX11_type 2 = .ok (.if_icmp .lt 9, 3) := by decide +kernel
theorem dX11_type_5 : decode cX11_type 5 = .ok (.iload_n 3, 1) := by decide +kernel
theorem dX11_type_6 : decode cX11_type 6 = .ok (.bipush 8, 2) := by decide +kernel
theorem dX11_type_8 : decode cX11_type 8 = .ok (.if_icmp .le 10, 3) := by decide +kernel
theorem dX11_type_11 : decode cX11_type 11 = .ok (.aload_n 0, 1) := by decide +kernel
theorem dX11_type_12 : decode cX11_type 12 = .ok (.bipush (-2), 2) := by decide +kernel
theorem dX11_type_14 : decode cX11_type 14 = .ok (.invokevirtual 81, 3) := by decide +kernel
theorem dX11_type_17 : decode cX11_type 17 = .ok (.ireturn, 1) := by decide +kernel
theorem dX11_type_18 : decode cX11_type 18 = .ok (.aload_n 0, 1) := by decide +kernel
theorem dX11_type_19 : decode cX11_type 19 = .ok (.getfield 30, 3) := by decide +kernel
theorem dX11_type_22 : decode cX11_type 22 = .ok (.getfield 133, 3) := by decide +kernel
theorem dX11_type_25 : decode cX11_type 25 = .ok (.iload_n 3, 1) := by decide +kernel
theorem dX11_type_26 : decode cX11_type 26 = .ok (.iadd, 1) := by decide +kernel
theorem dX11_type_27 : decode cX11_type 27 = .ok (.sipush 200, 3) := by decide +kernel
theorem dX11_type_30 : decode cX11_type 30 = .ok (.if_icmp .le 10, 3) := by decide +kernel
theorem dX11_type_33 : decode cX11_type 33 = .ok (.aload_n 0, 1) := by decide +kernel
theorem dX11_type_34 : decode cX11_type 34 = .ok (.bipush (-4), 2) := by decide +kernel
theorem dX11_type_36 : decode cX11_type 36 = .ok (.invokevirtual 81, 3) := by decide +kernel
theorem dX11_type_39 : decode cX11_type 39 = .ok (.ireturn, 1) := by decide +kernel
theorem dX11_type_40 : decode cX11_type 40 = .ok (.aload_n 0, 1) := by decide +kernel
theorem dX11_type_41 : decode cX11_type 41 = .ok (.getfield 30, 3) := by decide +kernel
theorem dX11_type_44 : decode cX11_type 44 = .ok (.lload_n 1, 1) := by decide +kernel
theorem dX11_type_45 : decode cX11_type 45 = .ok (.iload_n 3, 1) := by decide +kernel
theorem dX11_type_46 : decode cX11_type 46 = .ok (.invokevirtual 136, 3) := by decide +kernel
theorem dX11_type_49 : decode cX11_type 49 = .ok (.aload_n 0, 1) := by decide +kernel
theorem dX11_type_50 : decode cX11_type 50 = .ok (.getfield 30, 3) := by decide +kernel
theorem dX11_type_53 : decode cX11_type 53 = .ok (.getfield 133, 3) := by decide +kernel
theorem dX11_type_56 : decode cX11_type 56 = .ok (.ireturn, 1) := by decide +kernel
def jX11_type_11 (I : Mem) : Option (Int32 × Mem) :=
  bnd2 (fX11_refuse (-2 : Int32) I) fun v_2 I_3 =>
  some (v_2, I_3)
set_option maxRecDepth 20000 in
theorem tX11_type_11 (E : EV) (d : Nat) (rr : Option Value × Mem) (I : Mem) (y : (Int32 × Mem)) (hf : jX11_type_11 I = some y) (hK : (fun (z : Int32 × Mem) => (some (.int z.1), z.2) = rr) y) : G E (d + 1) kX11_type 11 [some (.ref 0), none, none, none] [] I rr := by
  unfold jX11_type_11 at hf
  refine G.aload_n dX11_type_11 rfl rfl ?_
  refine G.bipush (v := -2) dX11_type_12 (by decide) ?_
  obtain ⟨v_2, I_3, hc_1, hf⟩ := bnd2_at hf
  refine G.callVi (av := [.int (-2 : Int32)]) (rest := []) dX11_type_14 mvX11_81 (gX11_refuse E d (-2 : Int32) I hc_1) (by decide) rfl rfl rfl (Nat.le_of_ble_eq_true rfl) ?_
  have hf := Option.some.inj hf
  subst hf
  exact G.iret' dX11_type_17 rfl hK
def fX11_type (l1 : Int64) (x3 : Int32) (I : Mem) : Option (Int32 × Mem) :=
  if x3 < (1 : Int32) then
  (jX11_type_11 I)
  else
  (if x3 ≤ (8 : Int32) then
  (if ((I 35 0) + x3) ≤ (200 : Int32) then
  (bnd (fX8_add l1 x3 I) fun I_5 =>
  some ((I_5 35 0), I_5))
  else
  (bnd2 (fX11_refuse (-4 : Int32) I) fun v_7 I_8 =>
  some (v_7, I_8)))
  else
  (jX11_type_11 I))
set_option maxRecDepth 20000 in
theorem gX11_type (E : EV) (d : Nat) (l1 : Int64) (x3 : Int32) (I : Mem) {v : Int32} {J : Mem} (hf : fX11_type l1 x3 I = some (v, J)) : Gm E (d + 1) kX11_type [.ref 0, .long l1, .int x3] I (some (.int v), J) := by
  refine (fun (y : (Int32 × Mem)) (hf : fX11_type l1 x3 I = some y) => (?_ : Gm E (d + 1) kX11_type [.ref 0, .long l1, .int x3] I (some (.int y.1), y.2))) (v, J) hf
  refine Gm.of (by decide) rfl (Nat.le_of_ble_eq_true rfl) ?_
  generalize hrr : ((some (.int y.1), y.2) : Option Value × Mem) = rr
  show G E (d + 1) kX11_type 0 [some (.ref 0), some (.long l1), none, some (.int x3)] [] I rr
  have hK : (fun (z : Int32 × Mem) => (some (.int z.1), z.2) = rr) y := hrr
  clear hrr
  unfold fX11_type at hf
  refine G.iload_n dX11_type_0 rfl rfl ?_
  refine G.iconst (v := 1) dX11_type_1 (by decide) ?_
  refine G.icmp_lt (tgt := 11) dX11_type_2 (by decide) (fun c_11 => ?_) (fun c_11 => ?_)
  · have hf := ite_t hf c_11
    refine G.forget (L' := [some (.ref 0), none, none, none]) [1, 3] rfl ?_
    exact tX11_type_11 E d rr I _ hf hK
  · have hf := ite_f hf c_11
    refine G.iload_n dX11_type_5 rfl rfl ?_
    refine G.bipush (v := 8) dX11_type_6 (by decide) ?_
    refine G.icmp_le (tgt := 18) dX11_type_8 (by decide) (fun c_10 => ?_) (fun c_10 => ?_)
    · have hf := ite_t hf c_10
      refine G.aload_n dX11_type_18 rfl rfl ?_
      refine G.getR (q := 35) dX11_type_19 flX11_30 (by decide) rfl rfl ?_
      refine G.getI dX11_type_22 flX11_133 (by decide) rfl ?_
      refine G.iload_n dX11_type_25 rfl rfl ?_
      refine G.iadd dX11_type_26 ?_
      refine G.sipush (v := 200) dX11_type_27 (by decide) ?_
      refine G.icmp_le (tgt := 40) dX11_type_30 (by decide) (fun c_9 => ?_) (fun c_9 => ?_)
      · have hf := ite_t hf c_9
        refine G.aload_n dX11_type_40 rfl rfl ?_
        refine G.getR (q := 35) dX11_type_41 flX11_30 (by decide) rfl rfl ?_
        refine G.lload_n dX11_type_44 rfl rfl ?_
        refine G.iload_n dX11_type_45 rfl rfl ?_
        obtain ⟨I_5, hc_4, hf⟩ := bnd_at hf
        refine G.callVv (av := [.long l1, .int x3]) (rest := []) dX11_type_46 mvX11_136 (gX8_add E d l1 x3 I hc_4) (by decide) rfl rfl rfl (Nat.le_of_ble_eq_true rfl) ?_
        refine G.aload_n dX11_type_49 rfl rfl ?_
        refine G.getR (q := 35) dX11_type_50 flX11_30 (by decide) rfl rfl ?_
        refine G.getI dX11_type_53 flX11_133 (by decide) rfl ?_
        have hf := Option.some.inj hf
        subst hf
        exact G.iret' dX11_type_56 rfl hK
      · have hf := ite_f hf c_9
        refine G.aload_n dX11_type_33 rfl rfl ?_
        refine G.bipush (v := -4) dX11_type_34 (by decide) ?_
        obtain ⟨v_7, I_8, hc_6, hf⟩ := bnd2_at hf
        refine G.callVi (av := [.int (-4 : Int32)]) (rest := []) dX11_type_36 mvX11_81 (gX11_refuse E d (-4 : Int32) I hc_6) (by decide) rfl rfl rfl (Nat.le_of_ble_eq_true rfl) ?_
        have hf := Option.some.inj hf
        subst hf
        exact G.iret' dX11_type_39 rfl hK
    · have hf := ite_f hf c_10
      refine G.forget (L' := [some (.ref 0), none, none, none]) [1, 3] rfl ?_
      exact tX11_type_11 E d rr I _ hf hK
theorem dX11_clear_0 : decode cX11_clear 0 = .ok (.aload_n 0, 1) := by decide +kernel
theorem dX11_clear_1 : decode cX11_clear 1 = .ok (.getfield 30, 3) := by decide +kernel
theorem dX11_clear_4 : decode cX11_clear 4 = .ok (.getfield 133, 3) := by decide +kernel
theorem dX11_clear_7 : decode cX11_clear 7 = .ok (.istore_n 1, 1) := by decide +kernel
theorem dX11_clear_8 : decode cX11_clear 8 = .ok (.aload_n 0, 1) := by decide +kernel
theorem dX11_clear_9 : decode cX11_clear 9 = .ok (.getfield 30, 3) := by decide +kernel
theorem dX11_clear_12 : decode cX11_clear 12 = .ok (.iconst 0, 1) := by decide +kernel
theorem dX11_clear_13 : decode cX11_clear 13 = .ok (.putfield 133, 3) := by decide +kernel
theorem dX11_clear_16 : decode cX11_clear 16 = .ok (.iload_n 1, 1) := by decide +kernel
theorem dX11_clear_17 : decode cX11_clear 17 = .ok (.ireturn, 1) := by decide +kernel
def fX11_clear (I : Mem) : Option (Int32 × Mem) :=
  letb (I 35 0) fun x1_1 =>
  letb (up2 I 35 0 (0 : Int32)) fun I_2 =>
  some (x1_1, I_2)
set_option maxRecDepth 20000 in
theorem gX11_clear (E : EV) (d : Nat) (I : Mem) {v : Int32} {J : Mem} (hf : fX11_clear I = some (v, J)) : Gm E (d + 0) kX11_clear [.ref 0] I (some (.int v), J) := by
  refine (fun (y : (Int32 × Mem)) (hf : fX11_clear I = some y) => (?_ : Gm E (d + 0) kX11_clear [.ref 0] I (some (.int y.1), y.2))) (v, J) hf
  refine Gm.of (by decide) rfl (Nat.le_of_ble_eq_true rfl) ?_
  generalize hrr : ((some (.int y.1), y.2) : Option Value × Mem) = rr
  show G E (d + 0) kX11_clear 0 [some (.ref 0), none] [] I rr
  have hK : (fun (z : Int32 × Mem) => (some (.int z.1), z.2) = rr) y := hrr
  clear hrr
  unfold fX11_clear at hf
  refine G.aload_n dX11_clear_0 rfl rfl ?_
  refine G.getR (q := 35) dX11_clear_1 flX11_30 (by decide) rfl rfl ?_
  refine G.getI dX11_clear_4 flX11_133 (by decide) rfl ?_
  refine G.nmi (fun x1_1 e_x1_1 => ?_)
  have hf := letb_at hf e_x1_1
  clear e_x1_1
  refine G.istore_n (L' := [some (.ref 0), some (.int x1_1)]) dX11_clear_7 rfl (Nat.le_of_ble_eq_true rfl) (Nat.le_of_ble_eq_true rfl) rfl rfl ?_
  refine G.aload_n dX11_clear_8 rfl rfl ?_
  refine G.getR (q := 35) dX11_clear_9 flX11_30 (by decide) rfl rfl ?_
  refine G.iconst (v := 0) dX11_clear_12 (by decide) ?_
  refine G.putI dX11_clear_13 flX11_133 (by decide) rfl ?_
  refine G.nmI (fun I_2 e_I_2 => ?_)
  have hf := letb_at hf e_I_2
  clear e_I_2
  refine G.iload_n dX11_clear_16 rfl rfl ?_
  have hf := Option.some.inj hf
  subst hf
  exact G.iret' dX11_clear_17 rfl hK
theorem dX11_read_0 : decode cX11_read 0 = .ok (.aload_n 0, 1) := by decide +kernel
theorem dX11_read_1 : decode cX11_read 1 = .ok (.getfield 30, 3) := by decide +kernel
theorem dX11_read_4 : decode cX11_read 4 = .ok (.aload_n 0, 1) := by decide +kernel
theorem dX11_read_5 : decode cX11_read 5 = .ok (.getfield 16, 3) := by decide +kernel
theorem dX11_read_8 : decode cX11_read 8 = .ok (.invokevirtual 140, 3) := by decide +kernel
theorem dX11_read_11 : decode cX11_read 11 = .ok (.istore_n 1, 1) := by decide +kernel
theorem dX11_read_12 : decode cX11_read 12 = .ok (.iload_n 1, 1) := by decide +kernel
theorem dX11_read_13 : decode cX11_read 13 = .ok (.iconst (-1), 1) := by decide +kernel
theorem dX11_read_14 : decode cX11_read 14 = .ok (.if_icmp .eq 8, 3) := by decide +kernel
theorem dX11_read_17 : decode cX11_read 17 = .ok (.bipush (-10), 2) := by decide +kernel
theorem dX11_read_19 : decode cX11_read 19 = .ok (.iload_n 1, 1) := by decide +kernel
theorem dX11_read_20 : decode cX11_read 20 = .ok (.isub, 1) := by decide +kernel
theorem dX11_read_21 : decode cX11_read 21 = .ok (.ireturn, 1) := by decide +kernel
theorem dX11_read_22 : decode cX11_read 22 = .ok (.aload_n 0, 1) := by decide +kernel
theorem dX11_read_23 : decode cX11_read 23 = .ok (.getfield 10, 3) := by decide +kernel
theorem dX11_read_26 : decode cX11_read 26 = .ok (.aload_n 0, 1) := by decide +kernel
theorem dX11_read_27 : decode cX11_read 27 = .ok (.getfield 16, 3) := by decide +kernel
theorem dX11_read_30 : decode cX11_read 30 = .ok (.invokevirtual 144, 3) := by decide +kernel
theorem dX11_read_33 : decode cX11_read 33 = .ok (.aload_n 0, 1) := by decide +kernel
theorem dX11_read_34 : decode cX11_read 34 = .ok (.getfield 10, 3) := by decide +kernel
theorem dX11_read_37 : decode cX11_read 37 = .ok (.getfield 111, 3) := by decide +kernel
theorem dX11_read_40 : decode cX11_read 40 = .ok (.ireturn, 1) := by decide +kernel
def fX11_read (I : Mem) : Option (Int32 × Mem) :=
  bnd2 (fX8_parse 9 I) fun v_2 I_3 =>
  if v_2 = (-1 : Int32) then
  (bnd (fX4_copy 1 9 I_3) fun I_5 =>
  some ((I_5 1 2), I_5))
  else
  (some (((-10 : Int32) - v_2), I_3))
set_option maxRecDepth 20000 in
theorem gX11_read (E : EV) (d : Nat) (I : Mem) {v : Int32} {J : Mem} (hf : fX11_read I = some (v, J)) : Gm E (d + 10) kX11_read [.ref 0] I (some (.int v), J) := by
  refine (fun (y : (Int32 × Mem)) (hf : fX11_read I = some y) => (?_ : Gm E (d + 10) kX11_read [.ref 0] I (some (.int y.1), y.2))) (v, J) hf
  refine Gm.of (by decide) rfl (Nat.le_of_ble_eq_true rfl) ?_
  generalize hrr : ((some (.int y.1), y.2) : Option Value × Mem) = rr
  show G E (d + 10) kX11_read 0 [some (.ref 0), none] [] I rr
  have hK : (fun (z : Int32 × Mem) => (some (.int z.1), z.2) = rr) y := hrr
  clear hrr
  unfold fX11_read at hf
  refine G.aload_n dX11_read_0 rfl rfl ?_
  refine G.getR (q := 35) dX11_read_1 flX11_30 (by decide) rfl rfl ?_
  refine G.aload_n dX11_read_4 rfl rfl ?_
  refine G.getR (q := 9) dX11_read_5 flX11_16 (by decide) rfl rfl ?_
  obtain ⟨v_2, I_3, hc_1, hf⟩ := bnd2_at hf
  refine G.callVi (av := [.ref 9]) (rest := []) dX11_read_8 mvX11_140 (gX8_parse E d 9 I (by unfold isH; decide) hc_1) (by decide) rfl rfl rfl (Nat.le_of_ble_eq_true rfl) ?_
  refine G.istore_n (L' := [some (.ref 0), some (.int v_2)]) dX11_read_11 rfl (Nat.le_of_ble_eq_true rfl) (Nat.le_of_ble_eq_true rfl) rfl rfl ?_
  refine G.iload_n dX11_read_12 rfl rfl ?_
  refine G.iconst (v := -1) dX11_read_13 (by decide) ?_
  refine G.icmp_eq (tgt := 22) dX11_read_14 (by decide) (fun c_6 => ?_) (fun c_6 => ?_)
  · have hf := ite_t hf c_6
    refine G.aload_n dX11_read_22 rfl rfl ?_
    refine G.getR (q := 1) dX11_read_23 flX11_10 (by decide) rfl rfl ?_
    refine G.aload_n dX11_read_26 rfl rfl ?_
    refine G.getR (q := 9) dX11_read_27 flX11_16 (by decide) rfl rfl ?_
    obtain ⟨I_5, hc_4, hf⟩ := bnd_at hf
    refine G.callVv (av := [.ref 9]) (rest := []) dX11_read_30 mvX11_144 (gX4_copy E (d + 8) 1 9 I_3 (by unfold isH; decide) (by unfold isH; decide) hc_4) (by decide) rfl rfl rfl (Nat.le_of_ble_eq_true rfl) ?_
    refine G.aload_n dX11_read_33 rfl rfl ?_
    refine G.getR (q := 1) dX11_read_34 flX11_10 (by decide) rfl rfl ?_
    refine G.getI dX11_read_37 flX11_111 (by decide) rfl ?_
    have hf := Option.some.inj hf
    subst hf
    exact G.iret' dX11_read_40 rfl hK
  · have hf := ite_f hf c_6
    refine G.bipush (v := -10) dX11_read_17 (by decide) ?_
    refine G.iload_n dX11_read_19 rfl rfl ?_
    refine G.isub dX11_read_20 ?_
    have hf := Option.some.inj hf
    subst hf
    exact G.iret' dX11_read_21 rfl hK
theorem dX11_isStanding_0 : decode cX11_isStanding 0 = .ok (.iload_n 1, 1) := by decide +kernel
theorem dX11_isStanding_1 : decode cX11_isStanding 1 = .ok (.ifCond .lt 17, 3) := by decide +kernel
theorem dX11_isStanding_4 : decode cX11_isStanding 4 = .ok (.iload_n 1, 1) := by decide +kernel
theorem dX11_isStanding_5 : decode cX11_isStanding 5 = .ok (.iconst 3, 1) := by decide +kernel
theorem dX11_isStanding_6 : decode cX11_isStanding 6 = .ok (.aload_n 0, 1) := by decide +kernel
theorem dX11_isStanding_7 : decode cX11_isStanding 7 = .ok (.getfield 10, 3) := by decide +kernel
theorem dX11_isStanding_10 : decode cX11_isStanding 10 = .ok (.getfield 111, 3) := by decide +kernel
theorem dX11_isStanding_13 : decode cX11_isStanding 13 = .ok (.imul, 1) := by decide +kernel
theorem dX11_isStanding_14 : decode cX11_isStanding 14 = .ok (.ishr, 1) := by decide +kernel
theorem dX11_isStanding_15 : decode cX11_isStanding 15 = .ok (.ifCond .eq 5, 3) := by decide +kernel
theorem dX11_isStanding_18 : decode cX11_isStanding 18 = .ok (.iconst 0, 1) := by decide +kernel
theorem dX11_isStanding_19 : decode cX11_isStanding 19 = .ok (.ireturn, 1) := by decide +kernel
theorem dX11_isStanding_20 : decode cX11_isStanding 20 = .ok (.iconst 0, 1) := by decide +kernel
theorem dX11_isStanding_21 : decode cX11_isStanding 21 = .ok (.istore_n 2, 1) := by decide +kernel
theorem dX11_isStanding_22 : decode cX11_isStanding 22 = .ok (.iload_n 2, 1) := by decide +kernel
theorem dX11_isStanding_23 : decode cX11_isStanding 23 = .ok (.aload_n 0, 1) := by decide +kernel
theorem dX11_isStanding_24 : decode cX11_isStanding 24 = .ok (.getfield 10, 3) := by decide +kernel
theorem dX11_isStanding_27 : decode cX11_isStanding 27 = .ok (.getfield 111, 3) := by decide +kernel
theorem dX11_isStanding_30 : decode cX11_isStanding 30 = .ok (.if_icmp .ge 26, 3) := by decide +kernel
theorem dX11_isStanding_33 : decode cX11_isStanding 33 = .ok (.iload_n 1, 1) := by decide +kernel
theorem dX11_isStanding_34 : decode cX11_isStanding 34 = .ok (.iload_n 2, 1) := by decide +kernel
theorem dX11_isStanding_35 : decode cX11_isStanding 35 = .ok (.invokestatic 243, 3) := by decide +kernel
theorem dX11_isStanding_38 : decode cX11_isStanding 38 = .ok (.aload_n 0, 1) := by decide +kernel
theorem dX11_isStanding_39 : decode cX11_isStanding 39 = .ok (.getfield 10, 3) := by decide +kernel
theorem dX11_isStanding_42 : decode cX11_isStanding 42 = .ok (.getfield 85, 3) := by decide +kernel
theorem dX11_isStanding_45 : decode cX11_isStanding 45 = .ok (.if_icmp .lt 5, 3) := by decide +kernel
theorem dX11_isStanding_48 : decode cX11_isStanding 48 = .ok (.iconst 0, 1) := by decide +kernel
theorem dX11_isStanding_49 : decode cX11_isStanding 49 = .ok (.ireturn, 1) := by decide +kernel
theorem dX11_isStanding_50 : decode cX11_isStanding 50 = .ok (.iinc 2 1, 3) := by decide +kernel
theorem dX11_isStanding_53 : decode cX11_isStanding 53 = .ok (.goto (-31), 3) := by decide +kernel
theorem dX11_isStanding_56 : decode cX11_isStanding 56 = .ok (.iconst 1, 1) := by decide +kernel
theorem dX11_isStanding_57 : decode cX11_isStanding 57 = .ok (.ireturn, 1) := by decide +kernel
def KX11_isStanding_22 (E : EV) (d : Nat) (rr : Option Value × Mem) (x1 : Int32) (I : Mem) (Kp : Int32 → Prop) : (Int32 ⊕ Int32) → Prop
  | .inl q => G E (d + 1) kX11_isStanding 22 [some (.ref 0), some (.int x1), some (.int q)] [] I rr
  | .inr z => Kp z
def bX11_isStanding_22 (x1 : Int32) (I : Mem) (x2 : Int32) : Option (Int32 ⊕ Int32) :=
  if (I 1 2) ≤ x2 then
  (some (.inr (1 : Int32)))
  else
  (bnd (fX11_roomOf x1 x2 I) fun v_2 =>
  if v_2 < (I 1 0) then
  (some (.inl (x2 + (1 : Int32))))
  else
  (some (.inr (0 : Int32))))
def sX11_isStanding_22 (x1 : Int32) (I : Mem) (q : Int32) : Option (Int32 ⊕ Int32) := bX11_isStanding_22 x1 I q
set_option maxRecDepth 20000 in
theorem wX11_isStanding_22 (E : EV) (d : Nat) (rr : Option Value × Mem) (x1 : Int32) (I : Mem) (x2 : Int32) (y : (Int32 ⊕ Int32)) (hf : bX11_isStanding_22 x1 I x2 = some y) (hK : (KX11_isStanding_22 E d rr x1 I (fun (z : Int32) => (some (.int z), I) = rr)) y) : G E (d + 1) kX11_isStanding 22 [some (.ref 0), some (.int x1), some (.int x2)] [] I rr := by
  unfold bX11_isStanding_22 at hf
  refine G.iload_n dX11_isStanding_22 rfl rfl ?_
  refine G.aload_n dX11_isStanding_23 rfl rfl ?_
  refine G.getR (q := 1) dX11_isStanding_24 flX11_10 (by decide) rfl rfl ?_
  refine G.getI dX11_isStanding_27 flX11_111 (by decide) rfl ?_
  refine G.icmp_ge (tgt := 56) dX11_isStanding_30 (by decide) (fun c_4 => ?_) (fun c_4 => ?_)
  · have hf := ite_t hf c_4
    refine G.iconst (v := 1) dX11_isStanding_56 (by decide) ?_
    have hf := Option.some.inj hf
    subst hf
    exact G.zret' dX11_isStanding_57 rfl (by decide) hK
  · have hf := ite_f hf c_4
    refine G.iload_n dX11_isStanding_33 rfl rfl ?_
    refine G.iload_n dX11_isStanding_34 rfl rfl ?_
    obtain ⟨v_2, hc_1, hf⟩ := bnd_at hf
    refine G.callSi (av := [.int x1, .int x2]) (rest := []) dX11_isStanding_35 msX11_243 (gX11_roomOf E d x1 x2 I hc_1) rfl rfl (Nat.le_of_ble_eq_true rfl) ?_
    refine G.aload_n dX11_isStanding_38 rfl rfl ?_
    refine G.getR (q := 1) dX11_isStanding_39 flX11_10 (by decide) rfl rfl ?_
    refine G.getI dX11_isStanding_42 flX11_85 (by decide) rfl ?_
    refine G.icmp_lt (tgt := 50) dX11_isStanding_45 (by decide) (fun c_3 => ?_) (fun c_3 => ?_)
    · have hf := ite_t hf c_3
      refine G.inc (w := 1) (L' := [some (.ref 0), some (.int x1), some (.int (x2 + (1 : Int32)))]) dX11_isStanding_50 (by decide) rfl (Nat.le_of_ble_eq_true rfl) rfl rfl ?_
      refine G.goto (tgt := 22) dX11_isStanding_53 (by decide) ?_
      have hf := Option.some.inj hf
      subst hf
      exact hK
    · have hf := ite_f hf c_3
      refine G.iconst (v := 0) dX11_isStanding_48 (by decide) ?_
      have hf := Option.some.inj hf
      subst hf
      exact G.zret' dX11_isStanding_49 rfl (by decide) hK
theorem lX11_isStanding_22 (E : EV) (d : Nat) (rr : Option Value × Mem) (x1 : Int32) (I : Mem) (z : Int32) (hK : (fun (z : Int32) => (some (.int z), I) = rr) z) : ∀ (n : Nat) (q : Int32), iter (sX11_isStanding_22 x1 I) n q = some z → G E (d + 1) kX11_isStanding 22 [some (.ref 0), some (.int x1), some (.int q)] [] I rr := by
  intro n
  induction n with
  | zero => intro q h; cases h
  | succ n ih =>
    intro q h
    rcases iter_at h with ⟨q2, hs, h2⟩ | hs
    · exact wX11_isStanding_22 E d rr x1 I q _ hs (ih q2 h2)
    · exact wX11_isStanding_22 E d rr x1 I q _ hs hK
def fX11_isStanding (x1 : Int32) (I : Mem) : Option Int32 :=
  if x1 < 0 then
  (some (0 : Int32))
  else
  (if (x1 >>> (((3 : Int32) * (I 1 2)) &&& 31)) = 0 then
  (iter (sX11_isStanding_22 x1 I) FU (0 : Int32))
  else
  (some (0 : Int32)))
set_option maxRecDepth 20000 in
theorem gX11_isStanding (E : EV) (d : Nat) (x1 : Int32) (I : Mem) {v : Int32} (hf : fX11_isStanding x1 I = some v) : Gm E (d + 1) kX11_isStanding [.ref 0, .int x1] I (some (.int v), I) := by
  refine (fun (y : Int32) (hf : fX11_isStanding x1 I = some y) => (?_ : Gm E (d + 1) kX11_isStanding [.ref 0, .int x1] I (some (.int y), I))) v hf
  refine Gm.of (by decide) rfl (Nat.le_of_ble_eq_true rfl) ?_
  generalize hrr : ((some (.int y), I) : Option Value × Mem) = rr
  show G E (d + 1) kX11_isStanding 0 [some (.ref 0), some (.int x1), none] [] I rr
  have hK : (fun (z : Int32) => (some (.int z), I) = rr) y := hrr
  clear hrr
  unfold fX11_isStanding at hf
  refine G.iload_n dX11_isStanding_0 rfl rfl ?_
  refine G.if_lt (tgt := 18) dX11_isStanding_1 (by decide) (fun c_6 => ?_) (fun c_6 => ?_)
  · have hf := ite_t hf c_6
    refine G.iconst (v := 0) dX11_isStanding_18 (by decide) ?_
    have hf := Option.some.inj hf
    subst hf
    exact G.zret' dX11_isStanding_19 rfl (by decide) hK
  · have hf := ite_f hf c_6
    refine G.iload_n dX11_isStanding_4 rfl rfl ?_
    refine G.iconst (v := 3) dX11_isStanding_5 (by decide) ?_
    refine G.aload_n dX11_isStanding_6 rfl rfl ?_
    refine G.getR (q := 1) dX11_isStanding_7 flX11_10 (by decide) rfl rfl ?_
    refine G.getI dX11_isStanding_10 flX11_111 (by decide) rfl ?_
    refine G.imul dX11_isStanding_13 ?_
    refine G.ishr dX11_isStanding_14 ?_
    refine G.if_eq (tgt := 20) dX11_isStanding_15 (by decide) (fun c_5 => ?_) (fun c_5 => ?_)
    · have hf := ite_t hf c_5
      refine G.iconst (v := 0) dX11_isStanding_20 (by decide) ?_
      refine G.istore_n (L' := [some (.ref 0), some (.int x1), some (.int (0 : Int32))]) dX11_isStanding_21 rfl (Nat.le_of_ble_eq_true rfl) (Nat.le_of_ble_eq_true rfl) rfl rfl ?_
      exact lX11_isStanding_22 E d rr x1 I _ hK FU _ hf
    · have hf := ite_f hf c_5
      refine G.iconst (v := 0) dX11_isStanding_18 (by decide) ?_
      have hf := Option.some.inj hf
      subst hf
      exact G.zret' dX11_isStanding_19 rfl (by decide) hK
theorem dX11_beat_0 : decode cX11_beat 0 = .ok (.aload_n 0, 1) := by decide +kernel
theorem dX11_beat_1 : decode cX11_beat 1 = .ok (.iload_n 1, 1) := by decide +kernel
theorem dX11_beat_2 : decode cX11_beat 2 = .ok (.invokevirtual 148, 3) := by decide +kernel
theorem dX11_beat_5 : decode cX11_beat 5 = .ok (.ifCond .ne 10, 3) := by decide +kernel
theorem dX11_beat_8 : decode cX11_beat 8 = .ok (.aload_n 0, 1) := by decide +kernel
theorem dX11_beat_9 : decode cX11_beat 9 = .ok (.bipush (-2), 2) := by decide +kernel
theorem dX11_beat_11 : decode cX11_beat 11 = .ok (.invokevirtual 81, 3) := by decide +kernel
theorem dX11_beat_14 : decode cX11_beat 14 = .ok (.ireturn, 1) := by decide +kernel
theorem dX11_beat_15 : decode cX11_beat 15 = .ok (.aload_n 0, 1) := by decide +kernel
theorem dX11_beat_16 : decode cX11_beat 16 = .ok (.getfield 10, 3) := by decide +kernel
theorem dX11_beat_19 : decode cX11_beat 19 = .ok (.aload_n 0, 1) := by decide +kernel
theorem dX11_beat_20 : decode cX11_beat 20 = .ok (.getfield 10, 3) := by decide +kernel
theorem dX11_beat_23 : decode cX11_beat 23 = .ok (.getfield 151, 3) := by decide +kernel
theorem dX11_beat_26 : decode cX11_beat 26 = .ok (.iload_n 1, 1) := by decide +kernel
theorem dX11_beat_27 : decode cX11_beat 27 = .ok (.invokevirtual 154, 3) := by decide +kernel
theorem dX11_beat_30 : decode cX11_beat 30 = .ok (.ifCond .ne 10, 3) := by decide +kernel
theorem dX11_beat_33 : decode cX11_beat 33 = .ok (.aload_n 0, 1) := by decide +kernel
theorem dX11_beat_34 : decode cX11_beat 34 = .ok (.bipush (-3), 2) := by decide +kernel
theorem dX11_beat_36 : decode cX11_beat 36 = .ok (.invokevirtual 81, 3) := by decide +kernel
theorem dX11_beat_39 : decode cX11_beat 39 = .ok (.ireturn, 1) := by decide +kernel
theorem dX11_beat_40 : decode cX11_beat 40 = .ok (.aload_n 0, 1) := by decide +kernel
theorem dX11_beat_41 : decode cX11_beat 41 = .ok (.getfield 10, 3) := by decide +kernel
theorem dX11_beat_44 : decode cX11_beat 44 = .ok (.invokevirtual 157, 3) := by decide +kernel
theorem dX11_beat_47 : decode cX11_beat 47 = .ok (.aload_n 0, 1) := by decide +kernel
theorem dX11_beat_48 : decode cX11_beat 48 = .ok (.getfield 10, 3) := by decide +kernel
theorem dX11_beat_51 : decode cX11_beat 51 = .ok (.iload_n 1, 1) := by decide +kernel
theorem dX11_beat_52 : decode cX11_beat 52 = .ok (.aload_n 0, 1) := by decide +kernel
theorem dX11_beat_53 : decode cX11_beat 53 = .ok (.getfield 49, 3) := by decide +kernel
theorem dX11_beat_56 : decode cX11_beat 56 = .ok (.aload_n 0, 1) := by decide +kernel
theorem dX11_beat_57 : decode cX11_beat 57 = .ok (.getfield 10, 3) := by decide +kernel
theorem dX11_beat_60 : decode cX11_beat 60 = .ok (.getfield 120, 3) := by decide +kernel
theorem dX11_beat_63 : decode cX11_beat 63 = .ok (.aaload, 1) := by decide +kernel
theorem dX11_beat_64 : decode cX11_beat 64 = .ok (.invokevirtual 160, 3) := by decide +kernel
theorem dX11_beat_67 : decode cX11_beat 67 = .ok (.ireturn, 1) := by decide +kernel
def fX11_beat (x1 : Int32) (I : Mem) : Option (Int32 × Mem) :=
  bnd (fX11_isStanding x1 I) fun v_2 =>
  if v_2 = 0 then
  (bnd2 (fX11_refuse (-2 : Int32) I) fun v_17 I_18 =>
  some (v_17, I_18))
  else
  (bnd (fX4_canGo 1 (I 1 3) x1 I) fun v_4 =>
  if v_4 = 0 then
  (bnd2 (fX11_refuse (-3 : Int32) I) fun v_13 I_14 =>
  some (v_13, I_14))
  else
  (bnd (fX4_remember 1 I) fun I_6 =>
  chk (inb (I_6 1 4) 5) <|
  bnd (asL (fin 37 (ix (I_6 1 4)))) fun o9_8 =>
  bnd2 (fX4_go 1 x1 o9_8 I_6) fun v_10 I_11 =>
  some (v_10, I_11)))
set_option maxRecDepth 20000 in
theorem gX11_beat (E : EV) (d : Nat) (x1 : Int32) (I : Mem) {v : Int32} {J : Mem} (hf : fX11_beat x1 I = some (v, J)) : Gm E (d + 4) kX11_beat [.ref 0, .int x1] I (some (.int v), J) := by
  refine (fun (y : (Int32 × Mem)) (hf : fX11_beat x1 I = some y) => (?_ : Gm E (d + 4) kX11_beat [.ref 0, .int x1] I (some (.int y.1), y.2))) (v, J) hf
  refine Gm.of (by decide) rfl (Nat.le_of_ble_eq_true rfl) ?_
  generalize hrr : ((some (.int y.1), y.2) : Option Value × Mem) = rr
  show G E (d + 4) kX11_beat 0 [some (.ref 0), some (.int x1)] [] I rr
  have hK : (fun (z : Int32 × Mem) => (some (.int z.1), z.2) = rr) y := hrr
  clear hrr
  unfold fX11_beat at hf
  refine G.aload_n dX11_beat_0 rfl rfl ?_
  refine G.iload_n dX11_beat_1 rfl rfl ?_
  obtain ⟨v_2, hc_1, hf⟩ := bnd_at hf
  refine G.callVi (av := [.int x1]) (rest := []) dX11_beat_2 mvX11_148 (gX11_isStanding E (d + 2) x1 I hc_1) (by decide) rfl rfl rfl (Nat.le_of_ble_eq_true rfl) ?_
  refine G.if_ne (tgt := 15) dX11_beat_5 (by decide) (fun c_19 => ?_) (fun c_19 => ?_)
  · have hf := ite_f hf c_19
    refine G.aload_n dX11_beat_15 rfl rfl ?_
    refine G.getR (q := 1) dX11_beat_16 flX11_10 (by decide) rfl rfl ?_
    refine G.aload_n dX11_beat_19 rfl rfl ?_
    refine G.getR (q := 1) dX11_beat_20 flX11_10 (by decide) rfl rfl ?_
    refine G.getI dX11_beat_23 flX11_151 (by decide) rfl ?_
    refine G.iload_n dX11_beat_26 rfl rfl ?_
    obtain ⟨v_4, hc_3, hf⟩ := bnd_at hf
    refine G.callVi (av := [.int (I 1 3), .int x1]) (rest := []) dX11_beat_27 mvX11_154 (gX4_canGo E (d + 2) 1 (I 1 3) x1 I (by unfold isH; decide) hc_3) (by decide) rfl rfl rfl (Nat.le_of_ble_eq_true rfl) ?_
    refine G.if_ne (tgt := 40) dX11_beat_30 (by decide) (fun c_15 => ?_) (fun c_15 => ?_)
    · have hf := ite_f hf c_15
      refine G.aload_n dX11_beat_40 rfl rfl ?_
      refine G.getR (q := 1) dX11_beat_41 flX11_10 (by decide) rfl rfl ?_
      obtain ⟨I_6, hc_5, hf⟩ := bnd_at hf
      refine G.callVv (av := []) (rest := []) dX11_beat_44 mvX11_157 (gX4_remember E (d + 2) 1 I (by unfold isH; decide) hc_5) (by decide) rfl rfl rfl (Nat.le_of_ble_eq_true rfl) ?_
      refine G.aload_n dX11_beat_47 rfl rfl ?_
      refine G.getR (q := 1) dX11_beat_48 flX11_10 (by decide) rfl rfl ?_
      refine G.iload_n dX11_beat_51 rfl rfl ?_
      refine G.aload_n dX11_beat_52 rfl rfl ?_
      refine G.getR (q := 37) dX11_beat_53 flX11_49 (by decide) rfl rfl ?_
      refine G.aload_n dX11_beat_56 rfl rfl ?_
      refine G.getR (q := 1) dX11_beat_57 flX11_10 (by decide) rfl rfl ?_
      refine G.getI dX11_beat_60 flX11_120 (by decide) rfl ?_
      obtain ⟨hi_7, hf⟩ := chk_at hf
      obtain ⟨o9_8, ho9_8a, hf⟩ := bnd_at hf
      obtain ⟨ho9_8d, ho9_8⟩ := asL_at ho9_8a
      refine G.aaldO (q := o9_8) dX11_beat_63 (by decide) rfl hi_7 ho9_8d ?_
      obtain ⟨v_10, I_11, hc_9, hf⟩ := bnd2_at hf
      refine G.callVi (av := [.int x1, .ref o9_8]) (rest := []) dX11_beat_64 mvX11_160 (gX4_go E d 1 x1 o9_8 I_6 (by unfold isH; decide) ho9_8 hc_9) (by decide) rfl rfl rfl (Nat.le_of_ble_eq_true rfl) ?_
      have hf := Option.some.inj hf
      subst hf
      exact G.iret' dX11_beat_67 rfl hK
    · have hf := ite_t hf c_15
      refine G.aload_n dX11_beat_33 rfl rfl ?_
      refine G.bipush (v := -3) dX11_beat_34 (by decide) ?_
      obtain ⟨v_13, I_14, hc_12, hf⟩ := bnd2_at hf
      refine G.callVi (av := [.int (-3 : Int32)]) (rest := []) dX11_beat_36 mvX11_81 (gX11_refuse E (d + 3) (-3 : Int32) I hc_12) (by decide) rfl rfl rfl (Nat.le_of_ble_eq_true rfl) ?_
      have hf := Option.some.inj hf
      subst hf
      exact G.iret' dX11_beat_39 rfl hK
  · have hf := ite_t hf c_19
    refine G.aload_n dX11_beat_8 rfl rfl ?_
    refine G.bipush (v := -2) dX11_beat_9 (by decide) ?_
    obtain ⟨v_17, I_18, hc_16, hf⟩ := bnd2_at hf
    refine G.callVi (av := [.int (-2 : Int32)]) (rest := []) dX11_beat_11 mvX11_81 (gX11_refuse E (d + 3) (-2 : Int32) I hc_16) (by decide) rfl rfl rfl (Nat.le_of_ble_eq_true rfl) ?_
    have hf := Option.some.inj hf
    subst hf
    exact G.iret' dX11_beat_14 rfl hK
theorem dX11_undo_0 : decode cX11_undo 0 = .ok (.aload_n 0, 1) := by decide +kernel
theorem dX11_undo_1 : decode cX11_undo 1 = .ok (.getfield 10, 3) := by decide +kernel
theorem dX11_undo_4 : decode cX11_undo 4 = .ok (.getfield 164, 3) := by decide +kernel
theorem dX11_undo_7 : decode cX11_undo 7 = .ok (.ifCond .ne 10, 3) := by decide +kernel
theorem dX11_undo_10 : decode cX11_undo 10 = .ok (.aload_n 0, 1) := by decide +kernel
theorem dX11_undo_11 : decode cX11_undo 11 = .ok (.bipush (-3), 2) := by decide +kernel
theorem dX11_undo_13 : decode cX11_undo 13 = .ok (.invokevirtual 81, 3) := by decide +kernel
theorem dX11_undo_16 : decode cX11_undo 16 = .ok (.ireturn, 1) := by decide +kernel
theorem dX11_undo_17 : decode cX11_undo 17 = .ok (.aload_n 0, 1) := by decide +kernel
theorem dX11_undo_18 : decode cX11_undo 18 = .ok (.getfield 10, 3) := by decide +kernel
theorem dX11_undo_21 : decode cX11_undo 21 = .ok (.invokevirtual 167, 3) := by decide +kernel
theorem dX11_undo_24 : decode cX11_undo 24 = .ok (.iconst 1, 1) := by decide +kernel
theorem dX11_undo_25 : decode cX11_undo 25 = .ok (.ireturn, 1) := by decide +kernel
def fX11_undo (I : Mem) : Option (Int32 × Mem) :=
  if (I 1 7) = 0 then
  (bnd2 (fX11_refuse (-3 : Int32) I) fun v_4 I_5 =>
  some (v_4, I_5))
  else
  (bnd (fX4_goBack 1 I) fun I_2 =>
  some ((1 : Int32), I_2))
set_option maxRecDepth 20000 in
theorem gX11_undo (E : EV) (d : Nat) (I : Mem) {v : Int32} {J : Mem} (hf : fX11_undo I = some (v, J)) : Gm E (d + 2) kX11_undo [.ref 0] I (some (.int v), J) := by
  refine (fun (y : (Int32 × Mem)) (hf : fX11_undo I = some y) => (?_ : Gm E (d + 2) kX11_undo [.ref 0] I (some (.int y.1), y.2))) (v, J) hf
  refine Gm.of (by decide) rfl (Nat.le_of_ble_eq_true rfl) ?_
  generalize hrr : ((some (.int y.1), y.2) : Option Value × Mem) = rr
  show G E (d + 2) kX11_undo 0 [some (.ref 0)] [] I rr
  have hK : (fun (z : Int32 × Mem) => (some (.int z.1), z.2) = rr) y := hrr
  clear hrr
  unfold fX11_undo at hf
  refine G.aload_n dX11_undo_0 rfl rfl ?_
  refine G.getR (q := 1) dX11_undo_1 flX11_10 (by decide) rfl rfl ?_
  refine G.getI dX11_undo_4 flX11_164 (by decide) rfl ?_
  refine G.if_ne (tgt := 17) dX11_undo_7 (by decide) (fun c_6 => ?_) (fun c_6 => ?_)
  · have hf := ite_f hf c_6
    refine G.aload_n dX11_undo_17 rfl rfl ?_
    refine G.getR (q := 1) dX11_undo_18 flX11_10 (by decide) rfl rfl ?_
    obtain ⟨I_2, hc_1, hf⟩ := bnd_at hf
    refine G.callVv (av := []) (rest := []) dX11_undo_21 mvX11_167 (gX4_goBack E d 1 I (by unfold isH; decide) hc_1) (by decide) rfl rfl rfl (Nat.le_of_ble_eq_true rfl) ?_
    refine G.iconst (v := 1) dX11_undo_24 (by decide) ?_
    have hf := Option.some.inj hf
    subst hf
    exact G.iret' dX11_undo_25 rfl hK
  · have hf := ite_t hf c_6
    refine G.aload_n dX11_undo_10 rfl rfl ?_
    refine G.bipush (v := -3) dX11_undo_11 (by decide) ?_
    obtain ⟨v_4, I_5, hc_3, hf⟩ := bnd2_at hf
    refine G.callVi (av := [.int (-3 : Int32)]) (rest := []) dX11_undo_13 mvX11_81 (gX11_refuse E (d + 1) (-3 : Int32) I hc_3) (by decide) rfl rfl rfl (Nat.le_of_ble_eq_true rfl) ?_
    have hf := Option.some.inj hf
    subst hf
    exact G.iret' dX11_undo_16 rfl hK
theorem dX11_standing_0 : decode cX11_standing 0 = .ok (.aload_n 0, 1) := by decide +kernel
theorem dX11_standing_1 : decode cX11_standing 1 = .ok (.getfield 10, 3) := by decide +kernel
theorem dX11_standing_4 : decode cX11_standing 4 = .ok (.getfield 151, 3) := by decide +kernel
theorem dX11_standing_7 : decode cX11_standing 7 = .ok (.ireturn, 1) := by decide +kernel
def fX11_standing (I : Mem) : Option Int32 :=
  some (I 1 3)
set_option maxRecDepth 20000 in
theorem gX11_standing (E : EV) (d : Nat) (I : Mem) {v : Int32} (hf : fX11_standing I = some v) : Gm E (d + 0) kX11_standing [.ref 0] I (some (.int v), I) := by
  refine (fun (y : Int32) (hf : fX11_standing I = some y) => (?_ : Gm E (d + 0) kX11_standing [.ref 0] I (some (.int y), I))) v hf
  refine Gm.of (by decide) rfl (Nat.le_of_ble_eq_true rfl) ?_
  generalize hrr : ((some (.int y), I) : Option Value × Mem) = rr
  show G E (d + 0) kX11_standing 0 [some (.ref 0)] [] I rr
  have hK : (fun (z : Int32) => (some (.int z), I) = rr) y := hrr
  clear hrr
  unfold fX11_standing at hf
  refine G.aload_n dX11_standing_0 rfl rfl ?_
  refine G.getR (q := 1) dX11_standing_1 flX11_10 (by decide) rfl rfl ?_
  refine G.getI dX11_standing_4 flX11_151 (by decide) rfl ?_
  have hf := Option.some.inj hf
  subst hf
  exact G.iret' dX11_standing_7 rfl hK
theorem dX11_sill_0 : decode cX11_sill 0 = .ok (.aload_n 0, 1) := by decide +kernel
theorem dX11_sill_1 : decode cX11_sill 1 = .ok (.iload_n 1, 1) := by decide +kernel
theorem dX11_sill_2 : decode cX11_sill 2 = .ok (.invokevirtual 93, 3) := by decide +kernel
theorem dX11_sill_5 : decode cX11_sill 5 = .ok (.ifCond .eq 15, 3) := by decide +kernel
theorem dX11_sill_8 : decode cX11_sill 8 = .ok (.aload_n 0, 1) := by decide +kernel
theorem dX11_sill_9 : decode cX11_sill 9 = .ok (.getfield 10, 3) := by decide +kernel
theorem dX11_sill_12 : decode cX11_sill 12 = .ok (.getfield 108, 3) := by decide +kernel
theorem dX11_sill_15 : decode cX11_sill 15 = .ok (.iload_n 1, 1) := by decide +kernel
theorem dX11_sill_16 : decode cX11_sill 16 = .ok (.iaload, 1) := by decide +kernel
theorem dX11_sill_17 : decode cX11_sill 17 = .ok (.goto 9, 3) := by decide +kernel
theorem dX11_sill_20 : decode cX11_sill 20 = .ok (.aload_n 0, 1) := by decide +kernel
theorem dX11_sill_21 : decode cX11_sill 21 = .ok (.bipush (-2), 2) := by decide +kernel
theorem dX11_sill_23 : decode cX11_sill 23 = .ok (.invokevirtual 81, 3) := by decide +kernel
theorem dX11_sill_26 : decode cX11_sill 26 = .ok (.ireturn, 1) := by decide +kernel
def fX11_sill (x1 : Int32) (I : Mem) : Option (Int32 × Mem) :=
  bnd (fX11_isRoom x1 I) fun v_2 =>
  if v_2 = 0 then
  (bnd2 (fX11_refuse (-2 : Int32) I) fun v_4 I_5 =>
  some (v_4, I_5))
  else
  (chk (inb x1 5) <|
  some ((I 3 (ix x1)), I))
set_option maxRecDepth 20000 in
theorem gX11_sill (E : EV) (d : Nat) (x1 : Int32) (I : Mem) {v : Int32} {J : Mem} (hf : fX11_sill x1 I = some (v, J)) : Gm E (d + 1) kX11_sill [.ref 0, .int x1] I (some (.int v), J) := by
  refine (fun (y : (Int32 × Mem)) (hf : fX11_sill x1 I = some y) => (?_ : Gm E (d + 1) kX11_sill [.ref 0, .int x1] I (some (.int y.1), y.2))) (v, J) hf
  refine Gm.of (by decide) rfl (Nat.le_of_ble_eq_true rfl) ?_
  generalize hrr : ((some (.int y.1), y.2) : Option Value × Mem) = rr
  show G E (d + 1) kX11_sill 0 [some (.ref 0), some (.int x1)] [] I rr
  have hK : (fun (z : Int32 × Mem) => (some (.int z.1), z.2) = rr) y := hrr
  clear hrr
  unfold fX11_sill at hf
  refine G.aload_n dX11_sill_0 rfl rfl ?_
  refine G.iload_n dX11_sill_1 rfl rfl ?_
  obtain ⟨v_2, hc_1, hf⟩ := bnd_at hf
  refine G.callVi (av := [.int x1]) (rest := []) dX11_sill_2 mvX11_93 (gX11_isRoom E d x1 I hc_1) (by decide) rfl rfl rfl (Nat.le_of_ble_eq_true rfl) ?_
  refine G.if_eq (tgt := 20) dX11_sill_5 (by decide) (fun c_7 => ?_) (fun c_7 => ?_)
  · have hf := ite_t hf c_7
    refine G.aload_n dX11_sill_20 rfl rfl ?_
    refine G.bipush (v := -2) dX11_sill_21 (by decide) ?_
    obtain ⟨v_4, I_5, hc_3, hf⟩ := bnd2_at hf
    refine G.callVi (av := [.int (-2 : Int32)]) (rest := []) dX11_sill_23 mvX11_81 (gX11_refuse E d (-2 : Int32) I hc_3) (by decide) rfl rfl rfl (Nat.le_of_ble_eq_true rfl) ?_
    have hf := Option.some.inj hf
    subst hf
    exact G.iret' dX11_sill_26 rfl hK
  · have hf := ite_f hf c_7
    refine G.aload_n dX11_sill_8 rfl rfl ?_
    refine G.getR (q := 1) dX11_sill_9 flX11_10 (by decide) rfl rfl ?_
    refine G.getR (q := 3) dX11_sill_12 flX11_108 (by decide) rfl rfl ?_
    refine G.iload_n dX11_sill_15 rfl rfl ?_
    obtain ⟨hi_6, hf⟩ := chk_at hf
    refine G.iald' dX11_sill_16 (by decide) rfl rfl hi_6 ?_
    refine G.goto (tgt := 26) dX11_sill_17 (by decide) ?_
    have hf := Option.some.inj hf
    subst hf
    exact G.iret' dX11_sill_26 rfl hK
theorem dX11_purse_0 : decode cX11_purse 0 = .ok (.aload_n 0, 1) := by decide +kernel
theorem dX11_purse_1 : decode cX11_purse 1 = .ok (.iload_n 1, 1) := by decide +kernel
theorem dX11_purse_2 : decode cX11_purse 2 = .ok (.invokevirtual 123, 3) := by decide +kernel
theorem dX11_purse_5 : decode cX11_purse 5 = .ok (.ifCond .ne 13, 3) := by decide +kernel
theorem dX11_purse_8 : decode cX11_purse 8 = .ok (.aload_n 0, 1) := by decide +kernel
theorem dX11_purse_9 : decode cX11_purse 9 = .ok (.bipush (-2), 2) := by decide +kernel
theorem dX11_purse_11 : decode cX11_purse 11 = .ok (.invokevirtual 81, 3) := by decide +kernel
theorem dX11_purse_14 : decode cX11_purse 14 = .ok (.pop, 1) := by decide +kernel
theorem dX11_purse_15 : decode cX11_purse 15 = .ok (.ldc 170, 2) := by decide +kernel
theorem dX11_purse_17 : decode cX11_purse 17 = .ok (.ireturn, 1) := by decide +kernel
theorem dX11_purse_18 : decode cX11_purse 18 = .ok (.aload_n 0, 1) := by decide +kernel
theorem dX11_purse_19 : decode cX11_purse 19 = .ok (.getfield 10, 3) := by decide +kernel
theorem dX11_purse_22 : decode cX11_purse 22 = .ok (.getfield 171, 3) := by decide +kernel
theorem dX11_purse_25 : decode cX11_purse 25 = .ok (.iload_n 1, 1) := by decide +kernel
theorem dX11_purse_26 : decode cX11_purse 26 = .ok (.iaload, 1) := by decide +kernel
theorem dX11_purse_27 : decode cX11_purse 27 = .ok (.ireturn, 1) := by decide +kernel
def fX11_purse (x1 : Int32) (I : Mem) : Option (Int32 × Mem) :=
  bnd (fX11_isPerson x1 I) fun v_2 =>
  if v_2 = 0 then
  (bnd2 (fX11_refuse (-2 : Int32) I) fun v_5 I_6 =>
  letb (-100000 : Int32) fun k9_7 =>
  some (k9_7, I_6))
  else
  (chk (inb x1 4) <|
  some ((I 5 (ix x1)), I))
set_option maxRecDepth 20000 in
theorem gX11_purse (E : EV) (d : Nat) (x1 : Int32) (I : Mem) {v : Int32} {J : Mem} (hf : fX11_purse x1 I = some (v, J)) : Gm E (d + 1) kX11_purse [.ref 0, .int x1] I (some (.int v), J) := by
  refine (fun (y : (Int32 × Mem)) (hf : fX11_purse x1 I = some y) => (?_ : Gm E (d + 1) kX11_purse [.ref 0, .int x1] I (some (.int y.1), y.2))) (v, J) hf
  refine Gm.of (by decide) rfl (Nat.le_of_ble_eq_true rfl) ?_
  generalize hrr : ((some (.int y.1), y.2) : Option Value × Mem) = rr
  show G E (d + 1) kX11_purse 0 [some (.ref 0), some (.int x1)] [] I rr
  have hK : (fun (z : Int32 × Mem) => (some (.int z.1), z.2) = rr) y := hrr
  clear hrr
  unfold fX11_purse at hf
  refine G.aload_n dX11_purse_0 rfl rfl ?_
  refine G.iload_n dX11_purse_1 rfl rfl ?_
  obtain ⟨v_2, hc_1, hf⟩ := bnd_at hf
  refine G.callVi (av := [.int x1]) (rest := []) dX11_purse_2 mvX11_123 (gX11_isPerson E d x1 I hc_1) (by decide) rfl rfl rfl (Nat.le_of_ble_eq_true rfl) ?_
  refine G.if_ne (tgt := 18) dX11_purse_5 (by decide) (fun c_8 => ?_) (fun c_8 => ?_)
  · have hf := ite_f hf c_8
    refine G.aload_n dX11_purse_18 rfl rfl ?_
    refine G.getR (q := 1) dX11_purse_19 flX11_10 (by decide) rfl rfl ?_
    refine G.getR (q := 5) dX11_purse_22 flX11_171 (by decide) rfl rfl ?_
    refine G.iload_n dX11_purse_25 rfl rfl ?_
    obtain ⟨hi_3, hf⟩ := chk_at hf
    refine G.iald' dX11_purse_26 (by decide) rfl rfl hi_3 ?_
    have hf := Option.some.inj hf
    subst hf
    exact G.iret' dX11_purse_27 rfl hK
  · have hf := ite_t hf c_8
    refine G.aload_n dX11_purse_8 rfl rfl ?_
    refine G.bipush (v := -2) dX11_purse_9 (by decide) ?_
    obtain ⟨v_5, I_6, hc_4, hf⟩ := bnd2_at hf
    refine G.callVi (av := [.int (-2 : Int32)]) (rest := []) dX11_purse_11 mvX11_81 (gX11_refuse E d (-2 : Int32) I hc_4) (by decide) rfl rfl rfl (Nat.le_of_ble_eq_true rfl) ?_
    refine G.pop dX11_purse_14 rfl ?_
    refine G.ldc (v := -100000) dX11_purse_15 kcX11_170 ?_
    refine G.nmi (fun k9_7 e_k9_7 => ?_)
    have hf := letb_at hf e_k9_7
    clear e_k9_7
    have hf := Option.some.inj hf
    subst hf
    exact G.iret' dX11_purse_17 rfl hK
