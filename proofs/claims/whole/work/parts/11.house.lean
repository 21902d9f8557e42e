theorem dX4_everywhere_0 : decode cX4_everywhere 0 = .ok (.iconst 1, 1) := by decide +kernel
theorem dX4_everywhere_1 : decode cX4_everywhere 1 = .ok (.aload_n 0, 1) := by decide +kernel
theorem dX4_everywhere_2 : decode cX4_everywhere 2 = .ok (.getfield 9, 3) := by decide +kernel
theorem dX4_everywhere_5 : decode cX4_everywhere 5 = .ok (.ishl, 1) := by decide +kernel
theorem dX4_everywhere_6 : decode cX4_everywhere 6 = .ok (.iconst 1, 1) := by decide +kernel
theorem dX4_everywhere_7 : decode cX4_everywhere 7 = .ok (.isub, 1) := by decide +kernel
theorem dX4_everywhere_8 : decode cX4_everywhere 8 = .ok (.ireturn, 1) := by decide +kernel
def fX4_everywhere (b0 : Nat) (I : Mem) : Option Int32 :=
  some (((1 : Int32) <<< ((I b0 0) &&& 31)) - (1 : Int32))
set_option maxRecDepth 20000 in
theorem gX4_everywhere (E : EV) (d : Nat) (b0 : Nat) (I : Mem) (hb0 : isH b0) {v : Int32} (hf : fX4_everywhere b0 I = some v) : Gm E (d + 0) kX4_everywhere [.ref b0] I (some (.int v), I) := by
  refine (fun (y : Int32) (hf : fX4_everywhere b0 I = some y) => (?_ : Gm E (d + 0) kX4_everywhere [.ref b0] I (some (.int y), I))) v hf
  refine Gm.of (by decide) rfl (Nat.le_of_ble_eq_true rfl) ?_
  generalize hrr : ((some (.int y), I) : Option Value × Mem) = rr
  show G E (d + 0) kX4_everywhere 0 [some (.ref b0)] [] I rr
  have hK : (fun (z : Int32) => (some (.int z), I) = rr) y := hrr
  clear hrr
  unfold fX4_everywhere at hf
  refine G.iconst (v := 1) dX4_everywhere_0 (by decide) ?_
  refine G.aload_n dX4_everywhere_1 rfl rfl ?_
  refine G.getI dX4_everywhere_2 flX4_9 (isH_lt hb0) (isH_lk hb0) ?_
  refine G.ishl dX4_everywhere_5 ?_
  refine G.iconst (v := 1) dX4_everywhere_6 (by decide) ?_
  refine G.isub dX4_everywhere_7 ?_
  have hf := Option.some.inj hf
  subst hf
  exact G.iret' dX4_everywhere_8 rfl hK
theorem dX10_begin_0 : decode cX10_begin 0 = .ok (.iconst 1, 1) := by decide +kernel
theorem dX10_begin_1 : decode cX10_begin 1 = .ok (.istore_n 1, 1) := by decide +kernel
theorem dX10_begin_2 : decode cX10_begin 2 = .ok (.aload_n 0, 1) := by decide +kernel
theorem dX10_begin_3 : decode cX10_begin 3 = .ok (.iconst 0, 1) := by decide +kernel
theorem dX10_begin_4 : decode cX10_begin 4 = .ok (.putfield 49, 3) := by decide +kernel
theorem dX10_begin_7 : decode cX10_begin 7 = .ok (.iconst 0, 1) := by decide +kernel
theorem dX10_begin_8 : decode cX10_begin 8 = .ok (.istore_n 2, 1) := by decide +kernel
theorem dX10_begin_9 : decode cX10_begin 9 = .ok (.iload_n 2, 1) := by decide +kernel
theorem dX10_begin_10 : decode cX10_begin 10 = .ok (.aload_n 0, 1) := by decide +kernel
theorem dX10_begin_11 : decode cX10_begin 11 = .ok (.getfield 21, 3) := by decide +kernel
theorem dX10_begin_14 : decode cX10_begin 14 = .ok (.if_icmp .ge 46, 3) := by decide +kernel
theorem dX10_begin_17 : decode cX10_begin 17 = .ok (.iload_n 1, 1) := by decide +kernel
theorem dX10_begin_18 : decode cX10_begin 18 = .ok (.aload_n 0, 1) := by decide +kernel
theorem dX10_begin_19 : decode cX10_begin 19 = .ok (.getfield 9, 3) := by decide +kernel
theorem dX10_begin_22 : decode cX10_begin 22 = .ok (.iload_n 2, 1) := by decide +kernel
theorem dX10_begin_23 : decode cX10_begin 23 = .ok (.iaload, 1) := by decide +kernel
theorem dX10_begin_24 : decode cX10_begin 24 = .ok (.invokestatic 52, 3) := by decide +kernel
theorem dX10_begin_27 : decode cX10_begin 27 = .ok (.imul, 1) := by decide +kernel
theorem dX10_begin_28 : decode cX10_begin 28 = .ok (.istore_n 1, 1) := by decide +kernel
theorem dX10_begin_29 : decode cX10_begin 29 = .ok (.aload_n 0, 1) := by decide +kernel
theorem dX10_begin_30 : decode cX10_begin 30 = .ok (.dup, 1) := by decide +kernel
theorem dX10_begin_31 : decode cX10_begin 31 = .ok (.getfield 49, 3) := by decide +kernel
theorem dX10_begin_34 : decode cX10_begin 34 = .ok (.aload_n 0, 1) := by decide +kernel
theorem dX10_begin_35 : decode cX10_begin 35 = .ok (.getfield 9, 3) := by decide +kernel
theorem dX10_begin_38 : decode cX10_begin 38 = .ok (.iload_n 2, 1) := by decide +kernel
theorem dX10_begin_39 : decode cX10_begin 39 = .ok (.iaload, 1) := by decide +kernel
theorem dX10_begin_40 : decode cX10_begin 40 = .ok (.invokestatic 57, 3) := by decide +kernel
theorem dX10_begin_43 : decode cX10_begin 43 = .ok (.bipush 7, 2) := by decide +kernel
theorem dX10_begin_45 : decode cX10_begin 45 = .ok (.iand, 1) := by decide +kernel
theorem dX10_begin_46 : decode cX10_begin 46 = .ok (.iconst 3, 1) := by decide +kernel
theorem dX10_begin_47 : decode cX10_begin 47 = .ok (.iload_n 2, 1) := by decide +kernel
theorem dX10_begin_48 : decode cX10_begin 48 = .ok (.imul, 1) := by decide +kernel
theorem dX10_begin_49 : decode cX10_begin 49 = .ok (.ishl, 1) := by decide +kernel
theorem dX10_begin_50 : decode cX10_begin 50 = .ok (.ior, 1) := by decide +kernel
theorem dX10_begin_51 : decode cX10_begin 51 = .ok (.putfield 49, 3) := by decide +kernel
theorem dX10_begin_54 : decode cX10_begin 54 = .ok (.iinc 2 1, 3) := by decide +kernel
theorem dX10_begin_57 : decode cX10_begin 57 = .ok (.goto (-48), 3) := by decide +kernel
theorem dX10_begin_60 : decode cX10_begin 60 = .ok (.iload_n 1, 1) := by decide +kernel
theorem dX10_begin_61 : decode cX10_begin 61 = .ok (.ireturn, 1) := by decide +kernel
def KX10_begin_9 (E : EV) (d : Nat) (rr : Option Value × Mem) (w0 : Nat) (Kp : (Int32 × Mem) → Prop) : ((Int32 × Int32 × Mem) ⊕ (Int32 × Mem)) → Prop
  | .inl q => G E (d + 1) kX10_begin 9 [some (.ref w0), some (.int q.1), some (.int q.2.1)] [] q.2.2 rr
  | .inr z => Kp z
def bX10_begin_9 (w0 : Nat) (x1 : Int32) (x2 : Int32) (I : Mem) : Option ((Int32 × Int32 × Mem) ⊕ (Int32 × Mem)) :=
  if (I w0 1) ≤ x2 then
  (some (.inr (x1, I)))
  else
  (chk (inb x2 4) <|
  bnd (fJ6_bitCount_0f7a4 (I (w0 + 1) (ix x2)) I) fun v_4 =>
  letb (x1 * v_4) fun x1_5 =>
  chk (inb x2 4) <|
  bnd (fJ6_numberOfTrailingZeros_0f7a4 (I (w0 + 1) (ix x2)) I) fun v_8 =>
  letb (up2 I w0 0 ((I w0 0) ||| ((v_8 &&& (7 : Int32)) <<< (((3 : Int32) * x2) &&& 31)))) fun I_9 =>
  some (.inl (x1_5, (x2 + (1 : Int32)), I_9)))
def sX10_begin_9 (w0 : Nat) (q : (Int32 × Int32 × Mem)) : Option ((Int32 × Int32 × Mem) ⊕ (Int32 × Mem)) := bX10_begin_9 w0 q.1 q.2.1 q.2.2
set_option maxRecDepth 20000 in
theorem wX10_begin_9 (E : EV) (d : Nat) (rr : Option Value × Mem) (w0 : Nat) (x1 : Int32) (x2 : Int32) (I : Mem) (hw0 : isW w0) (y : ((Int32 × Int32 × Mem) ⊕ (Int32 × Mem))) (hf : bX10_begin_9 w0 x1 x2 I = some y) (hK : (KX10_begin_9 E d rr w0 (fun (z : Int32 × Mem) => (some (.int z.1), z.2) = rr)) y) : G E (d + 1) kX10_begin 9 [some (.ref w0), some (.int x1), some (.int x2)] [] I rr := by
  unfold bX10_begin_9 at hf
  refine G.iload_n dX10_begin_9 rfl rfl ?_
  refine G.aload_n dX10_begin_10 rfl rfl ?_
  refine G.getI dX10_begin_11 flX10_21 (isW_lt hw0) (isW_lk hw0) ?_
  refine G.icmp_ge (tgt := 60) dX10_begin_14 (by decide) (fun c_10 => ?_) (fun c_10 => ?_)
  · have hf := ite_t hf c_10
    refine G.iload_n dX10_begin_60 rfl rfl ?_
    have hf := Option.some.inj hf
    subst hf
    exact G.iret' dX10_begin_61 rfl hK
  · have hf := ite_f hf c_10
    refine G.iload_n dX10_begin_17 rfl rfl ?_
    refine G.aload_n dX10_begin_18 rfl rfl ?_
    refine G.getR (q := (w0 + 1)) dX10_begin_19 flX10_9 (isW_lt hw0) (isW_lk hw0) (isW_r1 hw0) ?_
    refine G.iload_n dX10_begin_22 rfl rfl ?_
    obtain ⟨hi_2, hf⟩ := chk_at hf
    refine G.iald' dX10_begin_23 (isW_l1 hw0) (isW_k1 hw0) (isW_n1 hw0) hi_2 ?_
    obtain ⟨v_4, hc_3, hf⟩ := bnd_at hf
    refine G.callSi (av := [.int (I (w0 + 1) (ix x2))]) (rest := [.int x1]) dX10_begin_24 msX10_52 (gJ6_bitCount_0f7a4 E d (I (w0 + 1) (ix x2)) I hc_3) rfl rfl (Nat.le_of_ble_eq_true rfl) ?_
    refine G.imul dX10_begin_27 ?_
    refine G.nmi (fun x1_5 e_x1_5 => ?_)
    have hf := letb_at hf e_x1_5
    clear e_x1_5
    refine G.istore_n (L' := [some (.ref w0), some (.int x1_5), some (.int x2)]) dX10_begin_28 rfl (Nat.le_of_ble_eq_true rfl) (Nat.le_of_ble_eq_true rfl) rfl rfl ?_
    refine G.aload_n dX10_begin_29 rfl rfl ?_
    refine G.dup dX10_begin_30 rfl ?_
    refine G.getI dX10_begin_31 flX10_49 (isW_lt hw0) (isW_lk hw0) ?_
    refine G.aload_n dX10_begin_34 rfl rfl ?_
    refine G.getR (q := (w0 + 1)) dX10_begin_35 flX10_9 (isW_lt hw0) (isW_lk hw0) (isW_r1 hw0) ?_
    refine G.iload_n dX10_begin_38 rfl rfl ?_
    obtain ⟨hi_6, hf⟩ := chk_at hf
    refine G.iald' dX10_begin_39 (isW_l1 hw0) (isW_k1 hw0) (isW_n1 hw0) hi_6 ?_
    obtain ⟨v_8, hc_7, hf⟩ := bnd_at hf
    refine G.callSi (av := [.int (I (w0 + 1) (ix x2))]) (rest := [.int (I w0 0), .ref w0]) dX10_begin_40 msX10_57 (gJ6_numberOfTrailingZeros_0f7a4 E d (I (w0 + 1) (ix x2)) I hc_7) rfl rfl (Nat.le_of_ble_eq_true rfl) ?_
    refine G.bipush (v := 7) dX10_begin_43 (by decide) ?_
    refine G.iand dX10_begin_45 ?_
    refine G.iconst (v := 3) dX10_begin_46 (by decide) ?_
    refine G.iload_n dX10_begin_47 rfl rfl ?_
    refine G.imul dX10_begin_48 ?_
    refine G.ishl dX10_begin_49 ?_
    refine G.ior dX10_begin_50 ?_
    refine G.putI dX10_begin_51 flX10_49 (isW_lt hw0) (isW_lk hw0) ?_
    refine G.nmI (fun I_9 e_I_9 => ?_)
    have hf := letb_at hf e_I_9
    clear e_I_9
    refine G.inc (w := 1) (L' := [some (.ref w0), some (.int x1_5), some (.int (x2 + (1 : Int32)))]) dX10_begin_54 (by decide) rfl (Nat.le_of_ble_eq_true rfl) rfl rfl ?_
    refine G.goto (tgt := 9) dX10_begin_57 (by decide) ?_
    have hf := Option.some.inj hf
    subst hf
    exact hK
theorem lX10_begin_9 (E : EV) (d : Nat) (rr : Option Value × Mem) (w0 : Nat) (hw0 : isW w0) (z : (Int32 × Mem)) (hK : (fun (z : Int32 × Mem) => (some (.int z.1), z.2) = rr) z) : ∀ (n : Nat) (q : (Int32 × Int32 × Mem)), iter (sX10_begin_9 w0) n q = some z → G E (d + 1) kX10_begin 9 [some (.ref w0), some (.int q.1), some (.int q.2.1)] [] q.2.2 rr := by
  intro n
  induction n with
  | zero => intro q h; cases h
  | succ n ih =>
    intro q h
    rcases iter_at h with ⟨q2, hs, h2⟩ | hs
    · exact wX10_begin_9 E d rr w0 q.1 q.2.1 q.2.2 hw0 _ hs (ih q2 h2)
    · exact wX10_begin_9 E d rr w0 q.1 q.2.1 q.2.2 hw0 _ hs hK
def fX10_begin (w0 : Nat) (I : Mem) : Option (Int32 × Mem) :=
  letb (up2 I w0 0 (0 : Int32)) fun I_1 =>
  iter (sX10_begin_9 w0) FU ((1 : Int32), (0 : Int32), I_1)
set_option maxRecDepth 20000 in
theorem gX10_begin (E : EV) (d : Nat) (w0 : Nat) (I : Mem) (hw0 : isW w0) {v : Int32} {J : Mem} (hf : fX10_begin w0 I = some (v, J)) : Gm E (d + 1) kX10_begin [.ref w0] I (some (.int v), J) := by
  refine (fun (y : (Int32 × Mem)) (hf : fX10_begin w0 I = some y) => (?_ : Gm E (d + 1) kX10_begin [.ref w0] I (some (.int y.1), y.2))) (v, J) hf
  refine Gm.of (by decide) rfl (Nat.le_of_ble_eq_true rfl) ?_
  generalize hrr : ((some (.int y.1), y.2) : Option Value × Mem) = rr
  show G E (d + 1) kX10_begin 0 [some (.ref w0), none, none] [] I rr
  have hK : (fun (z : Int32 × Mem) => (some (.int z.1), z.2) = rr) y := hrr
  clear hrr
  unfold fX10_begin at hf
  refine G.iconst (v := 1) dX10_begin_0 (by decide) ?_
  refine G.istore_n (L' := [some (.ref w0), some (.int (1 : Int32)), none]) dX10_begin_1 rfl (Nat.le_of_ble_eq_true rfl) (Nat.le_of_ble_eq_true rfl) rfl rfl ?_
  refine G.aload_n dX10_begin_2 rfl rfl ?_
  refine G.iconst (v := 0) dX10_begin_3 (by decide) ?_
  refine G.putI dX10_begin_4 flX10_49 (isW_lt hw0) (isW_lk hw0) ?_
  refine G.nmI (fun I_1 e_I_1 => ?_)
  have hf := letb_at hf e_I_1
  clear e_I_1
  refine G.iconst (v := 0) dX10_begin_7 (by decide) ?_
  refine G.istore_n (L' := [some (.ref w0), some (.int (1 : Int32)), some (.int (0 : Int32))]) dX10_begin_8 rfl (Nat.le_of_ble_eq_true rfl) (Nat.le_of_ble_eq_true rfl) rfl rfl ?_
  exact lX10_begin_9 E d rr w0 hw0 _ hK FU _ hf
theorem dX10_all_0 : decode cX10_all 0 = .ok (.aload_n 0, 1) := by decide +kernel
theorem dX10_all_1 : decode cX10_all 1 = .ok (.aload_n 1, 1) := by decide +kernel
theorem dX10_all_2 : decode cX10_all 2 = .ok (.getfield 15, 3) := by decide +kernel
theorem dX10_all_5 : decode cX10_all 5 = .ok (.putfield 21, 3) := by decide +kernel
theorem dX10_all_8 : decode cX10_all 8 = .ok (.aload_n 0, 1) := by decide +kernel
theorem dX10_all_9 : decode cX10_all 9 = .ok (.getfield 9, 3) := by decide +kernel
theorem dX10_all_12 : decode cX10_all 12 = .ok (.aload_n 1, 1) := by decide +kernel
theorem dX10_all_13 : decode cX10_all 13 = .ok (.invokevirtual 22, 3) := by decide +kernel
theorem dX10_all_16 : decode cX10_all 16 = .ok (.invokestatic 26, 3) := by decide +kernel
theorem dX10_all_19 : decode cX10_all 19 = .ok (.aload_n 0, 1) := by decide +kernel
theorem dX10_all_20 : decode cX10_all 20 = .ok (.invokevirtual 32, 3) := by decide +kernel
theorem dX10_all_23 : decode cX10_all 23 = .ok (.ireturn, 1) := by decide +kernel
def fX10_all (w0 : Nat) (b1 : Nat) (I : Mem) : Option (Int32 × Mem) :=
  letb (up2 I w0 1 (I b1 2)) fun I_1 =>
  bnd (fX4_everywhere b1 I_1) fun v_3 =>
  bnd (fJ7_fill_53178 (w0 + 1) v_3 I_1) fun I_5 =>
  bnd2 (fX10_begin w0 I_5) fun v_7 I_8 =>
  some (v_7, I_8)
set_option maxRecDepth 20000 in
theorem gX10_all (E : EV) (d : Nat) (w0 : Nat) (b1 : Nat) (I : Mem) (hw0 : isW w0) (hb1 : isH b1) {v : Int32} {J : Mem} (hf : fX10_all w0 b1 I = some (v, J)) : Gm E (d + 2) kX10_all [.ref w0, .ref b1] I (some (.int v), J) := by
  refine (fun (y : (Int32 × Mem)) (hf : fX10_all w0 b1 I = some y) => (?_ : Gm E (d + 2) kX10_all [.ref w0, .ref b1] I (some (.int y.1), y.2))) (v, J) hf
  refine Gm.of (by decide) rfl (Nat.le_of_ble_eq_true rfl) ?_
  generalize hrr : ((some (.int y.1), y.2) : Option Value × Mem) = rr
  show G E (d + 2) kX10_all 0 [some (.ref w0), some (.ref b1)] [] I rr
  have hK : (fun (z : Int32 × Mem) => (some (.int z.1), z.2) = rr) y := hrr
  clear hrr
  unfold fX10_all at hf
  refine G.aload_n dX10_all_0 rfl rfl ?_
  refine G.aload_n dX10_all_1 rfl rfl ?_
  refine G.getI dX10_all_2 flX10_15 (isH_lt hb1) (isH_lk hb1) ?_
  refine G.putI dX10_all_5 flX10_21 (isW_lt hw0) (isW_lk hw0) ?_
  refine G.nmI (fun I_1 e_I_1 => ?_)
  have hf := letb_at hf e_I_1
  clear e_I_1
  refine G.aload_n dX10_all_8 rfl rfl ?_
  refine G.getR (q := (w0 + 1)) dX10_all_9 flX10_9 (isW_lt hw0) (isW_lk hw0) (isW_r1 hw0) ?_
  refine G.aload_n dX10_all_12 rfl rfl ?_
  obtain ⟨v_3, hc_2, hf⟩ := bnd_at hf
  refine G.callVi (av := []) (rest := [.ref (w0 + 1)]) dX10_all_13 mvX10_22 (gX4_everywhere E (d + 1) b1 I_1 hb1 hc_2) (isH_lt hb1) (isH_lk hb1) rfl rfl (Nat.le_of_ble_eq_true rfl) ?_
  obtain ⟨I_5, hc_4, hf⟩ := bnd_at hf
  refine G.callSv (av := [.ref (w0 + 1), .int v_3]) (rest := []) dX10_all_16 msX10_26 (gJ7_fill_53178 E (d + 1) (w0 + 1) v_3 I_1 (isW_a1 hw0) hc_4) rfl rfl (Nat.le_of_ble_eq_true rfl) ?_
  refine G.aload_n dX10_all_19 rfl rfl ?_
  obtain ⟨v_7, I_8, hc_6, hf⟩ := bnd2_at hf
  refine G.callVi (av := []) (rest := []) dX10_all_20 mvX10_32 (gX10_begin E d w0 I_5 hw0 hc_6) (isW_lt hw0) (isW_lk hw0) rfl rfl (Nat.le_of_ble_eq_true rfl) ?_
  have hf := Option.some.inj hf
  subst hf
  exact G.iret' dX10_all_23 rfl hK
theorem dX4_lone_0 : decode cX4_lone 0 = .ok (.iconst 0, 1) := by decide +kernel
theorem dX4_lone_1 : decode cX4_lone 1 = .ok (.istore_n 2, 1) := by decide +kernel
theorem dX4_lone_2 : decode cX4_lone 2 = .ok (.aload_n 0, 1) := by decide +kernel
theorem dX4_lone_3 : decode cX4_lone 3 = .ok (.getfield 43, 3) := by decide +kernel
theorem dX4_lone_6 : decode cX4_lone 6 = .ok (.istore_n 3, 1) := by decide +kernel
theorem dX4_lone_7 : decode cX4_lone 7 = .ok (.iconst 0, 1) := by decide +kernel
theorem dX4_lone_8 : decode cX4_lone 8 = .ok (.istore 4, 2) := by decide +kernel
theorem dX4_lone_10 : decode cX4_lone 10 = .ok (.iload 4, 2) := by decide +kernel
theorem dX4_lone_12 : decode cX4_lone 12 = .ok (.aload_n 0, 1) := by decide +kernel
theorem dX4_lone_13 : decode cX4_lone 13 = .ok (.getfield 46, 3) := by decide +kernel
theorem dX4_lone_16 : decode cX4_lone 16 = .ok (.if_icmp .ge 31, 3) := by decide +kernel
theorem dX4_lone_19 : decode cX4_lone 19 = .ok (.iconst 1, 1) := by decide +kernel
theorem dX4_lone_20 : decode cX4_lone 20 = .ok (.iload_n 1, 1) := by decide +kernel
theorem dX4_lone_21 : decode cX4_lone 21 = .ok (.iload 4, 2) := by decide +kernel
theorem dX4_lone_23 : decode cX4_lone 23 = .ok (.invokestatic 76, 3) := by decide +kernel
theorem dX4_lone_26 : decode cX4_lone 26 = .ok (.ishl, 1) := by decide +kernel
theorem dX4_lone_27 : decode cX4_lone 27 = .ok (.istore 5, 2) := by decide +kernel
theorem dX4_lone_29 : decode cX4_lone 29 = .ok (.iload_n 3, 1) := by decide +kernel
theorem dX4_lone_30 : decode cX4_lone 30 = .ok (.iload_n 2, 1) := by decide +kernel
theorem dX4_lone_31 : decode cX4_lone 31 = .ok (.iload 5, 2) := by decide +kernel
theorem dX4_lone_33 : decode cX4_lone 33 = .ok (.iand, 1) := by decide +kernel
theorem dX4_lone_34 : decode cX4_lone 34 = .ok (.ior, 1) := by decide +kernel
theorem dX4_lone_35 : decode cX4_lone 35 = .ok (.istore_n 3, 1) := by decide +kernel
theorem dX4_lone_36 : decode cX4_lone 36 = .ok (.iload_n 2, 1) := by decide +kernel
theorem dX4_lone_37 : decode cX4_lone 37 = .ok (.iload 5, 2) := by decide +kernel
theorem dX4_lone_39 : decode cX4_lone 39 = .ok (.ior, 1) := by decide +kernel
theorem dX4_lone_40 : decode cX4_lone 40 = .ok (.istore_n 2, 1) := by decide +kernel
theorem dX4_lone_41 : decode cX4_lone 41 = .ok (.iinc 4 1, 3) := by decide +kernel
theorem dX4_lone_44 : decode cX4_lone 44 = .ok (.goto (-34), 3) := by decide +kernel
theorem dX4_lone_47 : decode cX4_lone 47 = .ok (.iconst 0, 1) := by decide +kernel
theorem dX4_lone_48 : decode cX4_lone 48 = .ok (.istore 4, 2) := by decide +kernel
theorem dX4_lone_50 : decode cX4_lone 50 = .ok (.iconst 0, 1) := by decide +kernel
theorem dX4_lone_51 : decode cX4_lone 51 = .ok (.istore 5, 2) := by decide +kernel
theorem dX4_lone_53 : decode cX4_lone 53 = .ok (.iload 5, 2) := by decide +kernel
theorem dX4_lone_55 : decode cX4_lone 55 = .ok (.aload_n 0, 1) := by decide +kernel
theorem dX4_lone_56 : decode cX4_lone 56 = .ok (.getfield 46, 3) := by decide +kernel
theorem dX4_lone_59 : decode cX4_lone 59 = .ok (.if_icmp .ge 31, 3) := by decide +kernel
theorem dX4_lone_62 : decode cX4_lone 62 = .ok (.iload_n 3, 1) := by decide +kernel
theorem dX4_lone_63 : decode cX4_lone 63 = .ok (.iload_n 1, 1) := by decide +kernel
theorem dX4_lone_64 : decode cX4_lone 64 = .ok (.iload 5, 2) := by decide +kernel
theorem dX4_lone_66 : decode cX4_lone 66 = .ok (.invokestatic 76, 3) := by decide +kernel
theorem dX4_lone_69 : decode cX4_lone 69 = .ok (.invokestatic 83, 3) := by decide +kernel
theorem dX4_lone_72 : decode cX4_lone 72 = .ok (.ifCond .ne 12, 3) := by decide +kernel
theorem dX4_lone_75 : decode cX4_lone 75 = .ok (.iload 4, 2) := by decide +kernel
theorem dX4_lone_77 : decode cX4_lone 77 = .ok (.iconst 1, 1) := by decide +kernel
theorem dX4_lone_78 : decode cX4_lone 78 = .ok (.iload 5, 2) := by decide +kernel
theorem dX4_lone_80 : decode cX4_lone 80 = .ok (.ishl, 1) := by decide +kernel
theorem dX4_lone_81 : decode cX4_lone 81 = .ok (.ior, 1) := by decide +kernel
theorem dX4_lone_82 : decode cX4_lone 82 = .ok (.istore 4, 2) := by decide +kernel
theorem dX4_lone_84 : decode cX4_lone 84 = .ok (.iinc 5 1, 3) := by decide +kernel
theorem dX4_lone_87 : decode cX4_lone 87 = .ok (.goto (-34), 3) := by decide +kernel
theorem dX4_lone_90 : decode cX4_lone 90 = .ok (.iload 4, 2) := by decide +kernel
theorem dX4_lone_92 : decode cX4_lone 92 = .ok (.ireturn, 1) := by decide +kernel
def KX4_lone_10 (E : EV) (d : Nat) (rr : Option Value × Mem) (b0 : Nat) (x1 : Int32) (I : Mem) (Kp : Int32 → Prop) : ((Int32 × Int32 × Int32) ⊕ Int32) → Prop
  | .inl q => G E (d + 1) kX4_lone 10 [some (.ref b0), some (.int x1), some (.int q.1), some (.int q.2.1), some (.int q.2.2), none] [] I rr
  | .inr z => Kp z
def KX4_lone_53 (E : EV) (d : Nat) (rr : Option Value × Mem) (b0 : Nat) (x1 : Int32) (x3 : Int32) (I : Mem) (Kp : Int32 → Prop) : ((Int32 × Int32) ⊕ Int32) → Prop
  | .inl q => G E (d + 1) kX4_lone 53 [some (.ref b0), some (.int x1), none, some (.int x3), some (.int q.1), some (.int q.2)] [] I rr
  | .inr z => Kp z
def bX4_lone_53 (b0 : Nat) (x1 : Int32) (x3 : Int32) (I : Mem) (x4 : Int32) (x5 : Int32) : Option ((Int32 × Int32) ⊕ Int32) :=
  if (I b0 2) ≤ x5 then
  (some (.inr x4))
  else
  (bnd (fX11_roomOf x1 x5 I) fun v_3 =>
  bnd (fX11_has x3 v_3 I) fun v_5 =>
  if v_5 = 0 then
  (letb (x4 ||| ((1 : Int32) <<< (x5 &&& 31))) fun x4_6 =>
  some (.inl (x4_6, (x5 + (1 : Int32)))))
  else
  (some (.inl (x4, (x5 + (1 : Int32))))))
def sX4_lone_53 (b0 : Nat) (x1 : Int32) (x3 : Int32) (I : Mem) (q : (Int32 × Int32)) : Option ((Int32 × Int32) ⊕ Int32) := bX4_lone_53 b0 x1 x3 I q.1 q.2
set_option maxRecDepth 20000 in
theorem wX4_lone_53 (E : EV) (d : Nat) (rr : Option Value × Mem) (b0 : Nat) (x1 : Int32) (x3 : Int32) (I : Mem) (x4 : Int32) (x5 : Int32) (hb0 : isH b0) (y : ((Int32 × Int32) ⊕ Int32)) (hf : bX4_lone_53 b0 x1 x3 I x4 x5 = some y) (hK : (KX4_lone_53 E d rr b0 x1 x3 I (fun (z : Int32) => (some (.int z), I) = rr)) y) : G E (d + 1) kX4_lone 53 [some (.ref b0), some (.int x1), none, some (.int x3), some (.int x4), some (.int x5)] [] I rr := by
  unfold bX4_lone_53 at hf
  refine G.iload dX4_lone_53 rfl ?_
  refine G.aload_n dX4_lone_55 rfl rfl ?_
  refine G.getI dX4_lone_56 flX4_46 (isH_lt hb0) (isH_lk hb0) ?_
  refine G.icmp_ge (tgt := 90) dX4_lone_59 (by decide) (fun c_8 => ?_) (fun c_8 => ?_)
  · have hf := ite_t hf c_8
    refine G.iload dX4_lone_90 rfl ?_
    have hf := Option.some.inj hf
    subst hf
    exact G.iret' dX4_lone_92 rfl hK
  · have hf := ite_f hf c_8
    refine G.iload_n dX4_lone_62 rfl rfl ?_
    refine G.iload_n dX4_lone_63 rfl rfl ?_
    refine G.iload dX4_lone_64 rfl ?_
    obtain ⟨v_3, hc_2, hf⟩ := bnd_at hf
    refine G.callNi (av := [.int x1, .int x5]) (rest := [.int x3]) dX4_lone_66 mnX4_76 (gX11_roomOf E d x1 x5 I hc_2) rfl rfl (Nat.le_of_ble_eq_true rfl) ?_
    obtain ⟨v_5, hc_4, hf⟩ := bnd_at hf
    refine G.callNi (av := [.int x3, .int v_3]) (rest := []) dX4_lone_69 mnX4_83 (gX11_has E d x3 v_3 I hc_4) rfl rfl (Nat.le_of_ble_eq_true rfl) ?_
    refine G.if_ne (tgt := 84) dX4_lone_72 (by decide) (fun c_7 => ?_) (fun c_7 => ?_)
    · have hf := ite_f hf c_7
      refine G.inc (w := 1) (L' := [some (.ref b0), some (.int x1), none, some (.int x3), some (.int x4), some (.int (x5 + (1 : Int32)))]) dX4_lone_84 (by decide) rfl (Nat.le_of_ble_eq_true rfl) rfl rfl ?_
      refine G.goto (tgt := 53) dX4_lone_87 (by decide) ?_
      have hf := Option.some.inj hf
      subst hf
      exact hK
    · have hf := ite_t hf c_7
      refine G.iload dX4_lone_75 rfl ?_
      refine G.iconst (v := 1) dX4_lone_77 (by decide) ?_
      refine G.iload dX4_lone_78 rfl ?_
      refine G.ishl dX4_lone_80 ?_
      refine G.ior dX4_lone_81 ?_
      refine G.nmi (fun x4_6 e_x4_6 => ?_)
      have hf := letb_at hf e_x4_6
      clear e_x4_6
      refine G.istore (L' := [some (.ref b0), some (.int x1), none, some (.int x3), some (.int x4_6), some (.int x5)]) dX4_lone_82 (Nat.le_of_ble_eq_true rfl) (Nat.le_of_ble_eq_true rfl) rfl rfl ?_
      refine G.inc (w := 1) (L' := [some (.ref b0), some (.int x1), none, some (.int x3), some (.int x4_6), some (.int (x5 + (1 : Int32)))]) dX4_lone_84 (by decide) rfl (Nat.le_of_ble_eq_true rfl) rfl rfl ?_
      refine G.goto (tgt := 53) dX4_lone_87 (by decide) ?_
      have hf := Option.some.inj hf
      subst hf
      exact hK
theorem lX4_lone_53 (E : EV) (d : Nat) (rr : Option Value × Mem) (b0 : Nat) (x1 : Int32) (x3 : Int32) (I : Mem) (hb0 : isH b0) (z : Int32) (hK : (fun (z : Int32) => (some (.int z), I) = rr) z) : ∀ (n : Nat) (q : (Int32 × Int32)), iter (sX4_lone_53 b0 x1 x3 I) n q = some z → G E (d + 1) kX4_lone 53 [some (.ref b0), some (.int x1), none, some (.int x3), some (.int q.1), some (.int q.2)] [] I rr := by
  intro n
  induction n with
  | zero => intro q h; cases h
  | succ n ih =>
    intro q h
    rcases iter_at h with ⟨q2, hs, h2⟩ | hs
    · exact wX4_lone_53 E d rr b0 x1 x3 I q.1 q.2 hb0 _ hs (ih q2 h2)
    · exact wX4_lone_53 E d rr b0 x1 x3 I q.1 q.2 hb0 _ hs hK
def bX4_lone_10 (b0 : Nat) (x1 : Int32) (I : Mem) (x2 : Int32) (x3 : Int32) (x4 : Int32) : Option ((Int32 × Int32 × Int32) ⊕ Int32) :=
  if (I b0 2) ≤ x4 then
  (inrO (iter (sX4_lone_53 b0 x1 x3 I) FU ((0 : Int32), (0 : Int32))))
  else
  (bnd (fX11_roomOf x1 x4 I) fun v_11 =>
  letb ((1 : Int32) <<< (v_11 &&& 31)) fun x5_12 =>
  letb (x3 ||| (x2 &&& x5_12)) fun x3_13 =>
  letb (x2 ||| x5_12) fun x2_14 =>
  some (.inl (x2_14, x3_13, (x4 + (1 : Int32)))))
def sX4_lone_10 (b0 : Nat) (x1 : Int32) (I : Mem) (q : (Int32 × Int32 × Int32)) : Option ((Int32 × Int32 × Int32) ⊕ Int32) := bX4_lone_10 b0 x1 I q.1 q.2.1 q.2.2
set_option maxRecDepth 20000 in
theorem wX4_lone_10 (E : EV) (d : Nat) (rr : Option Value × Mem) (b0 : Nat) (x1 : Int32) (I : Mem) (x2 : Int32) (x3 : Int32) (x4 : Int32) (hb0 : isH b0) (y : ((Int32 × Int32 × Int32) ⊕ Int32)) (hf : bX4_lone_10 b0 x1 I x2 x3 x4 = some y) (hK : (KX4_lone_10 E d rr b0 x1 I (fun (z : Int32) => (some (.int z), I) = rr)) y) : G E (d + 1) kX4_lone 10 [some (.ref b0), some (.int x1), some (.int x2), some (.int x3), some (.int x4), none] [] I rr := by
  unfold bX4_lone_10 at hf
  refine G.iload dX4_lone_10 rfl ?_
  refine G.aload_n dX4_lone_12 rfl rfl ?_
  refine G.getI dX4_lone_13 flX4_46 (isH_lt hb0) (isH_lk hb0) ?_
  refine G.icmp_ge (tgt := 47) dX4_lone_16 (by decide) (fun c_15 => ?_) (fun c_15 => ?_)
  · have hf := ite_t hf c_15
    refine G.iconst (v := 0) dX4_lone_47 (by decide) ?_
    refine G.istore (L' := [some (.ref b0), some (.int x1), some (.int x2), some (.int x3), some (.int (0 : Int32)), none]) dX4_lone_48 (Nat.le_of_ble_eq_true rfl) (Nat.le_of_ble_eq_true rfl) rfl rfl ?_
    refine G.iconst (v := 0) dX4_lone_50 (by decide) ?_
    refine G.istore (L' := [some (.ref b0), some (.int x1), some (.int x2), some (.int x3), some (.int (0 : Int32)), some (.int (0 : Int32))]) dX4_lone_51 (Nat.le_of_ble_eq_true rfl) (Nat.le_of_ble_eq_true rfl) rfl rfl ?_
    obtain ⟨z_9, hz_9, rfl⟩ := inrO_at hf
    have hf := hz_9
    refine G.forget (L' := [some (.ref b0), some (.int x1), none, some (.int x3), some (.int (0 : Int32)), some (.int (0 : Int32))]) [2] rfl ?_
    exact lX4_lone_53 E d rr b0 x1 x3 I hb0 _ hK FU _ hf
  · have hf := ite_f hf c_15
    refine G.iconst (v := 1) dX4_lone_19 (by decide) ?_
    refine G.iload_n dX4_lone_20 rfl rfl ?_
    refine G.iload dX4_lone_21 rfl ?_
    obtain ⟨v_11, hc_10, hf⟩ := bnd_at hf
    refine G.callNi (av := [.int x1, .int x4]) (rest := [.int (1 : Int32)]) dX4_lone_23 mnX4_76 (gX11_roomOf E d x1 x4 I hc_10) rfl rfl (Nat.le_of_ble_eq_true rfl) ?_
    refine G.ishl dX4_lone_26 ?_
    refine G.nmi (fun x5_12 e_x5_12 => ?_)
    have hf := letb_at hf e_x5_12
    clear e_x5_12
    refine G.istore (L' := [some (.ref b0), some (.int x1), some (.int x2), some (.int x3), some (.int x4), some (.int x5_12)]) dX4_lone_27 (Nat.le_of_ble_eq_true rfl) (Nat.le_of_ble_eq_true rfl) rfl rfl ?_
    refine G.iload_n dX4_lone_29 rfl rfl ?_
    refine G.iload_n dX4_lone_30 rfl rfl ?_
    refine G.iload dX4_lone_31 rfl ?_
    refine G.iand dX4_lone_33 ?_
    refine G.ior dX4_lone_34 ?_
    refine G.nmi (fun x3_13 e_x3_13 => ?_)
    have hf := letb_at hf e_x3_13
    clear e_x3_13
    refine G.istore_n (L' := [some (.ref b0), some (.int x1), some (.int x2), some (.int x3_13), some (.int x4), some (.int x5_12)]) dX4_lone_35 rfl (Nat.le_of_ble_eq_true rfl) (Nat.le_of_ble_eq_true rfl) rfl rfl ?_
    refine G.iload_n dX4_lone_36 rfl rfl ?_
    refine G.iload dX4_lone_37 rfl ?_
    refine G.ior dX4_lone_39 ?_
    refine G.nmi (fun x2_14 e_x2_14 => ?_)
    have hf := letb_at hf e_x2_14
    clear e_x2_14
    refine G.istore_n (L' := [some (.ref b0), some (.int x1), some (.int x2_14), some (.int x3_13), some (.int x4), some (.int x5_12)]) dX4_lone_40 rfl (Nat.le_of_ble_eq_true rfl) (Nat.le_of_ble_eq_true rfl) rfl rfl ?_
    refine G.inc (w := 1) (L' := [some (.ref b0), some (.int x1), some (.int x2_14), some (.int x3_13), some (.int (x4 + (1 : Int32))), some (.int x5_12)]) dX4_lone_41 (by decide) rfl (Nat.le_of_ble_eq_true rfl) rfl rfl ?_
    refine G.goto (tgt := 10) dX4_lone_44 (by decide) ?_
    have hf := Option.some.inj hf
    subst hf
    refine G.forget (L' := [some (.ref b0), some (.int x1), some (.int x2_14), some (.int x3_13), some (.int (x4 + (1 : Int32))), none]) [5] rfl ?_
    exact hK
theorem lX4_lone_10 (E : EV) (d : Nat) (rr : Option Value × Mem) (b0 : Nat) (x1 : Int32) (I : Mem) (hb0 : isH b0) (z : Int32) (hK : (fun (z : Int32) => (some (.int z), I) = rr) z) : ∀ (n : Nat) (q : (Int32 × Int32 × Int32)), iter (sX4_lone_10 b0 x1 I) n q = some z → G E (d + 1) kX4_lone 10 [some (.ref b0), some (.int x1), some (.int q.1), some (.int q.2.1), some (.int q.2.2), none] [] I rr := by
  intro n
  induction n with
  | zero => intro q h; cases h
  | succ n ih =>
    intro q h
    rcases iter_at h with ⟨q2, hs, h2⟩ | hs
    · exact wX4_lone_10 E d rr b0 x1 I q.1 q.2.1 q.2.2 hb0 _ hs (ih q2 h2)
    · exact wX4_lone_10 E d rr b0 x1 I q.1 q.2.1 q.2.2 hb0 _ hs hK
def fX4_lone (b0 : Nat) (x1 : Int32) (I : Mem) : Option Int32 :=
  letb (I b0 1) fun x3_1 =>
  iter (sX4_lone_10 b0 x1 I) FU ((0 : Int32), x3_1, (0 : Int32))
set_option maxRecDepth 20000 in
theorem gX4_lone (E : EV) (d : Nat) (b0 : Nat) (x1 : Int32) (I : Mem) (hb0 : isH b0) {v : Int32} (hf : fX4_lone b0 x1 I = some v) : Gm E (d + 1) kX4_lone [.ref b0, .int x1] I (some (.int v), I) := by
  refine (fun (y : Int32) (hf : fX4_lone b0 x1 I = some y) => (?_ : Gm E (d + 1) kX4_lone [.ref b0, .int x1] I (some (.int y), I))) v hf
  refine Gm.of (by decide) rfl (Nat.le_of_ble_eq_true rfl) ?_
  generalize hrr : ((some (.int y), I) : Option Value × Mem) = rr
  show G E (d + 1) kX4_lone 0 [some (.ref b0), some (.int x1), none, none, none, none] [] I rr
  have hK : (fun (z : Int32) => (some (.int z), I) = rr) y := hrr
  clear hrr
  unfold fX4_lone at hf
  refine G.iconst (v := 0) dX4_lone_0 (by decide) ?_
  refine G.istore_n (L' := [some (.ref b0), some (.int x1), some (.int (0 : Int32)), none, none, none]) dX4_lone_1 rfl (Nat.le_of_ble_eq_true rfl) (Nat.le_of_ble_eq_true rfl) rfl rfl ?_
  refine G.aload_n dX4_lone_2 rfl rfl ?_
  refine G.getI dX4_lone_3 flX4_43 (isH_lt hb0) (isH_lk hb0) ?_
  refine G.nmi (fun x3_1 e_x3_1 => ?_)
  have hf := letb_at hf e_x3_1
  clear e_x3_1
  refine G.istore_n (L' := [some (.ref b0), some (.int x1), some (.int (0 : Int32)), some (.int x3_1), none, none]) dX4_lone_6 rfl (Nat.le_of_ble_eq_true rfl) (Nat.le_of_ble_eq_true rfl) rfl rfl ?_
  refine G.iconst (v := 0) dX4_lone_7 (by decide) ?_
  refine G.istore (L' := [some (.ref b0), some (.int x1), some (.int (0 : Int32)), some (.int x3_1), some (.int (0 : Int32)), none]) dX4_lone_8 (Nat.le_of_ble_eq_true rfl) (Nat.le_of_ble_eq_true rfl) rfl rfl ?_
  exact lX4_lone_10 E d rr b0 x1 I hb0 _ hK FU _ hf
theorem dX10_step_0 : decode cX10_step 0 = .ok (.aload_n 0, 1) := by decide +kernel
theorem dX10_step_1 : decode cX10_step 1 = .ok (.getfield 21, 3) := by decide +kernel
theorem dX10_step_4 : decode cX10_step 4 = .ok (.iconst 1, 1) := by decide +kernel
theorem dX10_step_5 : decode cX10_step 5 = .ok (.isub, 1) := by decide +kernel
theorem dX10_step_6 : decode cX10_step 6 = .ok (.istore_n 1, 1) := by decide +kernel
theorem dX10_step_7 : decode cX10_step 7 = .ok (.iload_n 1, 1) := by decide +kernel
theorem dX10_step_8 : decode cX10_step 8 = .ok (.ifCond .lt 79, 3) := by decide +kernel
theorem dX10_step_11 : decode cX10_step 11 = .ok (.iconst 3, 1) := by decide +kernel
theorem dX10_step_12 : decode cX10_step 12 = .ok (.iload_n 1, 1) := by decide +kernel
theorem dX10_step_13 : decode cX10_step 13 = .ok (.imul, 1) := by decide +kernel
theorem dX10_step_14 : decode cX10_step 14 = .ok (.istore_n 2, 1) := by decide +kernel
theorem dX10_step_15 : decode cX10_step 15 = .ok (.aload_n 0, 1) := by decide +kernel
theorem dX10_step_16 : decode cX10_step 16 = .ok (.getfield 9, 3) := by decide +kernel
theorem dX10_step_19 : decode cX10_step 19 = .ok (.iload_n 1, 1) := by decide +kernel
theorem dX10_step_20 : decode cX10_step 20 = .ok (.iaload, 1) := by decide +kernel
theorem dX10_step_21 : decode cX10_step 21 = .ok (.bipush (-2), 2) := by decide +kernel
theorem dX10_step_23 : decode cX10_step 23 = .ok (.aload_n 0, 1) := by decide +kernel
theorem dX10_step_24 : decode cX10_step 24 = .ok (.getfield 49, 3) := by decide +kernel
theorem dX10_step_27 : decode cX10_step 27 = .ok (.iload_n 1, 1) := by decide +kernel
theorem dX10_step_28 : decode cX10_step 28 = .ok (.invokestatic 41, 3) := by decide +kernel
theorem dX10_step_31 : decode cX10_step 31 = .ok (.ishl, 1) := by decide +kernel
theorem dX10_step_32 : decode cX10_step 32 = .ok (.iand, 1) := by decide +kernel
theorem dX10_step_33 : decode cX10_step 33 = .ok (.istore_n 3, 1) := by decide +kernel
theorem dX10_step_34 : decode cX10_step 34 = .ok (.iload_n 3, 1) := by decide +kernel
theorem dX10_step_35 : decode cX10_step 35 = .ok (.ifCond .eq 7, 3) := by decide +kernel
theorem dX10_step_38 : decode cX10_step 38 = .ok (.iload_n 3, 1) := by decide +kernel
theorem dX10_step_39 : decode cX10_step 39 = .ok (.goto 9, 3) := by decide +kernel
theorem dX10_step_42 : decode cX10_step 42 = .ok (.aload_n 0, 1) := by decide +kernel
theorem dX10_step_43 : decode cX10_step 43 = .ok (.getfield 9, 3) := by decide +kernel
theorem dX10_step_46 : decode cX10_step 46 = .ok (.iload_n 1, 1) := by decide +kernel
theorem dX10_step_47 : decode cX10_step 47 = .ok (.iaload, 1) := by decide +kernel
theorem dX10_step_48 : decode cX10_step 48 = .ok (.istore 4, 2) := by decide +kernel
theorem dX10_step_50 : decode cX10_step 50 = .ok (.aload_n 0, 1) := by decide +kernel
theorem dX10_step_51 : decode cX10_step 51 = .ok (.aload_n 0, 1) := by decide +kernel
theorem dX10_step_52 : decode cX10_step 52 = .ok (.getfield 49, 3) := by decide +kernel
theorem dX10_step_55 : decode cX10_step 55 = .ok (.bipush 7, 2) := by decide +kernel
theorem dX10_step_57 : decode cX10_step 57 = .ok (.iload_n 2, 1) := by decide +kernel
theorem dX10_step_58 : decode cX10_step 58 = .ok (.ishl, 1) := by decide +kernel
theorem dX10_step_59 : decode cX10_step 59 = .ok (.iconst (-1), 1) := by decide +kernel
theorem dX10_step_60 : decode cX10_step 60 = .ok (.ixor, 1) := by decide +kernel
theorem dX10_step_61 : decode cX10_step 61 = .ok (.iand, 1) := by decide +kernel
theorem dX10_step_62 : decode cX10_step 62 = .ok (.iload 4, 2) := by decide +kernel
theorem dX10_step_64 : decode cX10_step 64 = .ok (.invokestatic 57, 3) := by decide +kernel
theorem dX10_step_67 : decode cX10_step 67 = .ok (.bipush 7, 2) := by decide +kernel
theorem dX10_step_69 : decode cX10_step 69 = .ok (.iand, 1) := by decide +kernel
theorem dX10_step_70 : decode cX10_step 70 = .ok (.iload_n 2, 1) := by decide +kernel
theorem dX10_step_71 : decode cX10_step 71 = .ok (.ishl, 1) := by decide +kernel
theorem dX10_step_72 : decode cX10_step 72 = .ok (.ior, 1) := by decide +kernel
theorem dX10_step_73 : decode cX10_step 73 = .ok (.putfield 49, 3) := by decide +kernel
theorem dX10_step_76 : decode cX10_step 76 = .ok (.iload_n 3, 1) := by decide +kernel
theorem dX10_step_77 : decode cX10_step 77 = .ok (.ifCond .eq 4, 3) := by decide +kernel
theorem dX10_step_80 : decode cX10_step 80 = .ok (.return_, 1) := by decide +kernel
theorem dX10_step_81 : decode cX10_step 81 = .ok (.iinc 1 (-1), 3) := by decide +kernel
theorem dX10_step_84 : decode cX10_step 84 = .ok (.goto (-77), 3) := by decide +kernel
theorem dX10_step_87 : decode cX10_step 87 = .ok (.return_, 1) := by decide +kernel
def KX10_step_7 (E : EV) (d : Nat) (rr : Option Value × Mem) (w0 : Nat) (Kp : Mem → Prop) : ((Int32 × Mem) ⊕ Mem) → Prop
  | .inl q => G E (d + 1) kX10_step 7 [some (.ref w0), some (.int q.1), none, none, none] [] q.2 rr
  | .inr z => Kp z
def jX10_step_48 (w0 : Nat) (x1 : Int32) (x2 : Int32) (x3 : Int32) (u0 : Int32) (I : Mem) : Option ((Int32 × Mem) ⊕ Mem) :=
  bnd (fJ6_numberOfTrailingZeros_0f7a4 u0 I) fun v_9 =>
  letb (up2 I w0 0 (((I w0 0) &&& (((7 : Int32) <<< (x2 &&& 31)) ^^^ (-1 : Int32))) ||| ((v_9 &&& (7 : Int32)) <<< (x2 &&& 31)))) fun I_10 =>
  if x3 = 0 then
  (some (.inl ((x1 + (-1 : Int32)), I_10)))
  else
  (some (.inr I_10))
set_option maxRecDepth 20000 in
theorem tX10_step_48 (E : EV) (d : Nat) (rr : Option Value × Mem) (w0 : Nat) (x1 : Int32) (x2 : Int32) (x3 : Int32) (u0 : Int32) (I : Mem) (hw0 : isW w0) (y : ((Int32 × Mem) ⊕ Mem)) (hf : jX10_step_48 w0 x1 x2 x3 u0 I = some y) (hK : (KX10_step_7 E d rr w0 (fun (z : Mem) => ((none : Option Value), z) = rr)) y) : G E (d + 1) kX10_step 48 [some (.ref w0), some (.int x1), some (.int x2), some (.int x3), none] [.int u0] I rr := by
  unfold jX10_step_48 at hf
  refine G.istore (L' := [some (.ref w0), some (.int x1), some (.int x2), some (.int x3), some (.int u0)]) dX10_step_48 (Nat.le_of_ble_eq_true rfl) (Nat.le_of_ble_eq_true rfl) rfl rfl ?_
  refine G.aload_n dX10_step_50 rfl rfl ?_
  refine G.aload_n dX10_step_51 rfl rfl ?_
  refine G.getI dX10_step_52 flX10_49 (isW_lt hw0) (isW_lk hw0) ?_
  refine G.bipush (v := 7) dX10_step_55 (by decide) ?_
  refine G.iload_n dX10_step_57 rfl rfl ?_
  refine G.ishl dX10_step_58 ?_
  refine G.iconst (v := -1) dX10_step_59 (by decide) ?_
  refine G.ixor dX10_step_60 ?_
  refine G.iand dX10_step_61 ?_
  refine G.iload dX10_step_62 rfl ?_
  obtain ⟨v_9, hc_8, hf⟩ := bnd_at hf
  refine G.callSi (av := [.int u0]) (rest := [.int ((I w0 0) &&& (((7 : Int32) <<< (x2 &&& 31)) ^^^ (-1 : Int32))), .ref w0]) dX10_step_64 msX10_57 (gJ6_numberOfTrailingZeros_0f7a4 E d u0 I hc_8) rfl rfl (Nat.le_of_ble_eq_true rfl) ?_
  refine G.bipush (v := 7) dX10_step_67 (by decide) ?_
  refine G.iand dX10_step_69 ?_
  refine G.iload_n dX10_step_70 rfl rfl ?_
  refine G.ishl dX10_step_71 ?_
  refine G.ior dX10_step_72 ?_
  refine G.putI dX10_step_73 flX10_49 (isW_lt hw0) (isW_lk hw0) ?_
  refine G.nmI (fun I_10 e_I_10 => ?_)
  have hf := letb_at hf e_I_10
  clear e_I_10
  refine G.iload_n dX10_step_76 rfl rfl ?_
  refine G.if_eq (tgt := 81) dX10_step_77 (by decide) (fun c_11 => ?_) (fun c_11 => ?_)
  · have hf := ite_t hf c_11
    refine G.inc (w := -1) (L' := [some (.ref w0), some (.int (x1 + (-1 : Int32))), some (.int x2), some (.int x3), some (.int u0)]) dX10_step_81 (by decide) rfl (Nat.le_of_ble_eq_true rfl) rfl rfl ?_
    refine G.goto (tgt := 7) dX10_step_84 (by decide) ?_
    have hf := Option.some.inj hf
    subst hf
    refine G.forget (L' := [some (.ref w0), some (.int (x1 + (-1 : Int32))), none, none, none]) [2, 3, 4] rfl ?_
    exact hK
  · have hf := ite_f hf c_11
    have hf := Option.some.inj hf
    subst hf
    exact G.vret' dX10_step_80 rfl hK
def bX10_step_7 (w0 : Nat) (x1 : Int32) (I : Mem) : Option ((Int32 × Mem) ⊕ Mem) :=
  if x1 < 0 then
  (some (.inr I))
  else
  (letb ((3 : Int32) * x1) fun x2_2 =>
  chk (inb x1 4) <|
  bnd (fX11_roomOf (I w0 0) x1 I) fun v_5 =>
  letb ((I (w0 + 1) (ix x1)) &&& ((-2 : Int32) <<< (v_5 &&& 31))) fun x3_6 =>
  if x3_6 = 0 then
  (chk (inb x1 4) <|
  jX10_step_48 w0 x1 x2_2 x3_6 (I (w0 + 1) (ix x1)) I)
  else
  (jX10_step_48 w0 x1 x2_2 x3_6 x3_6 I))
def sX10_step_7 (w0 : Nat) (q : (Int32 × Mem)) : Option ((Int32 × Mem) ⊕ Mem) := bX10_step_7 w0 q.1 q.2
set_option maxRecDepth 20000 in
theorem wX10_step_7 (E : EV) (d : Nat) (rr : Option Value × Mem) (w0 : Nat) (x1 : Int32) (I : Mem) (hw0 : isW w0) (y : ((Int32 × Mem) ⊕ Mem)) (hf : bX10_step_7 w0 x1 I = some y) (hK : (KX10_step_7 E d rr w0 (fun (z : Mem) => ((none : Option Value), z) = rr)) y) : G E (d + 1) kX10_step 7 [some (.ref w0), some (.int x1), none, none, none] [] I rr := by
  unfold bX10_step_7 at hf
  refine G.iload_n dX10_step_7 rfl rfl ?_
  refine G.if_lt (tgt := 87) dX10_step_8 (by decide) (fun c_13 => ?_) (fun c_13 => ?_)
  · have hf := ite_t hf c_13
    have hf := Option.some.inj hf
    subst hf
    exact G.vret' dX10_step_87 rfl hK
  · have hf := ite_f hf c_13
    refine G.iconst (v := 3) dX10_step_11 (by decide) ?_
    refine G.iload_n dX10_step_12 rfl rfl ?_
    refine G.imul dX10_step_13 ?_
    refine G.nmi (fun x2_2 e_x2_2 => ?_)
    have hf := letb_at hf e_x2_2
    clear e_x2_2
    refine G.istore_n (L' := [some (.ref w0), some (.int x1), some (.int x2_2), none, none]) dX10_step_14 rfl (Nat.le_of_ble_eq_true rfl) (Nat.le_of_ble_eq_true rfl) rfl rfl ?_
    refine G.aload_n dX10_step_15 rfl rfl ?_
    refine G.getR (q := (w0 + 1)) dX10_step_16 flX10_9 (isW_lt hw0) (isW_lk hw0) (isW_r1 hw0) ?_
    refine G.iload_n dX10_step_19 rfl rfl ?_
    obtain ⟨hi_3, hf⟩ := chk_at hf
    refine G.iald' dX10_step_20 (isW_l1 hw0) (isW_k1 hw0) (isW_n1 hw0) hi_3 ?_
    refine G.bipush (v := -2) dX10_step_21 (by decide) ?_
    refine G.aload_n dX10_step_23 rfl rfl ?_
    refine G.getI dX10_step_24 flX10_49 (isW_lt hw0) (isW_lk hw0) ?_
    refine G.iload_n dX10_step_27 rfl rfl ?_
    obtain ⟨v_5, hc_4, hf⟩ := bnd_at hf
    refine G.callNi (av := [.int (I w0 0), .int x1]) (rest := [.int (-2 : Int32), .int (I (w0 + 1) (ix x1))]) dX10_step_28 mnX10_41 (gX11_roomOf E d (I w0 0) x1 I hc_4) rfl rfl (Nat.le_of_ble_eq_true rfl) ?_
    refine G.ishl dX10_step_31 ?_
    refine G.iand dX10_step_32 ?_
    refine G.nmi (fun x3_6 e_x3_6 => ?_)
    have hf := letb_at hf e_x3_6
    clear e_x3_6
    refine G.istore_n (L' := [some (.ref w0), some (.int x1), some (.int x2_2), some (.int x3_6), none]) dX10_step_33 rfl (Nat.le_of_ble_eq_true rfl) (Nat.le_of_ble_eq_true rfl) rfl rfl ?_
    refine G.iload_n dX10_step_34 rfl rfl ?_
    refine G.if_eq (tgt := 42) dX10_step_35 (by decide) (fun c_12 => ?_) (fun c_12 => ?_)
    · have hf := ite_t hf c_12
      refine G.aload_n dX10_step_42 rfl rfl ?_
      refine G.getR (q := (w0 + 1)) dX10_step_43 flX10_9 (isW_lt hw0) (isW_lk hw0) (isW_r1 hw0) ?_
      refine G.iload_n dX10_step_46 rfl rfl ?_
      obtain ⟨hi_7, hf⟩ := chk_at hf
      refine G.iald' dX10_step_47 (isW_l1 hw0) (isW_k1 hw0) (isW_n1 hw0) hi_7 ?_
      exact tX10_step_48 E d rr w0 x1 x2_2 x3_6 (I (w0 + 1) (ix x1)) I hw0 _ hf hK
    · have hf := ite_f hf c_12
      refine G.iload_n dX10_step_38 rfl rfl ?_
      refine G.goto (tgt := 48) dX10_step_39 (by decide) ?_
      exact tX10_step_48 E d rr w0 x1 x2_2 x3_6 x3_6 I hw0 _ hf hK
theorem lX10_step_7 (E : EV) (d : Nat) (rr : Option Value × Mem) (w0 : Nat) (hw0 : isW w0) (z : Mem) (hK : (fun (z : Mem) => ((none : Option Value), z) = rr) z) : ∀ (n : Nat) (q : (Int32 × Mem)), iter (sX10_step_7 w0) n q = some z → G E (d + 1) kX10_step 7 [some (.ref w0), some (.int q.1), none, none, none] [] q.2 rr := by
  intro n
  induction n with
  | zero => intro q h; cases h
  | succ n ih =>
    intro q h
    rcases iter_at h with ⟨q2, hs, h2⟩ | hs
    · exact wX10_step_7 E d rr w0 q.1 q.2 hw0 _ hs (ih q2 h2)
    · exact wX10_step_7 E d rr w0 q.1 q.2 hw0 _ hs hK
def fX10_step (w0 : Nat) (I : Mem) : Option Mem :=
  letb ((I w0 1) - (1 : Int32)) fun x1_1 =>
  iter (sX10_step_7 w0) FU (x1_1, I)
set_option maxRecDepth 20000 in
theorem gX10_step (E : EV) (d : Nat) (w0 : Nat) (I : Mem) (hw0 : isW w0) {J : Mem} (hf : fX10_step w0 I = some J) : Gm E (d + 1) kX10_step [.ref w0] I (none, J) := by
  refine (fun (y : Mem) (hf : fX10_step w0 I = some y) => (?_ : Gm E (d + 1) kX10_step [.ref w0] I (none, y))) J hf
  refine Gm.of (by decide) rfl (Nat.le_of_ble_eq_true rfl) ?_
  generalize hrr : ((none, y) : Option Value × Mem) = rr
  show G E (d + 1) kX10_step 0 [some (.ref w0), none, none, none, none] [] I rr
  have hK : (fun (z : Mem) => ((none : Option Value), z) = rr) y := hrr
  clear hrr
  unfold fX10_step at hf
  refine G.aload_n dX10_step_0 rfl rfl ?_
  refine G.getI dX10_step_1 flX10_21 (isW_lt hw0) (isW_lk hw0) ?_
  refine G.iconst (v := 1) dX10_step_4 (by decide) ?_
  refine G.isub dX10_step_5 ?_
  refine G.nmi (fun x1_1 e_x1_1 => ?_)
  have hf := letb_at hf e_x1_1
  clear e_x1_1
  refine G.istore_n (L' := [some (.ref w0), some (.int x1_1), none, none, none]) dX10_step_6 rfl (Nat.le_of_ble_eq_true rfl) (Nat.le_of_ble_eq_true rfl) rfl rfl ?_
  exact lX10_step_7 E d rr w0 hw0 _ hK FU _ hf
theorem dX4_markLone_0 : decode cX4_markLone 0 = .ok (.aload_n 2, 1) := by decide +kernel
theorem dX4_markLone_1 : decode cX4_markLone 1 = .ok (.aload_n 0, 1) := by decide +kernel
theorem dX4_markLone_2 : decode cX4_markLone 2 = .ok (.invokevirtual 90, 3) := by decide +kernel
theorem dX4_markLone_5 : decode cX4_markLone 5 = .ok (.istore_n 3, 1) := by decide +kernel
theorem dX4_markLone_6 : decode cX4_markLone 6 = .ok (.iconst 0, 1) := by decide +kernel
theorem dX4_markLone_7 : decode cX4_markLone 7 = .ok (.istore 4, 2) := by decide +kernel
theorem dX4_markLone_9 : decode cX4_markLone 9 = .ok (.iload 4, 2) := by decide +kernel
theorem dX4_markLone_11 : decode cX4_markLone 11 = .ok (.iload_n 3, 1) := by decide +kernel
theorem dX4_markLone_12 : decode cX4_markLone 12 = .ok (.if_icmp .ge 27, 3) := by decide +kernel
theorem dX4_markLone_15 : decode cX4_markLone 15 = .ok (.aload_n 1, 1) := by decide +kernel
theorem dX4_markLone_16 : decode cX4_markLone 16 = .ok (.aload_n 2, 1) := by decide +kernel
theorem dX4_markLone_17 : decode cX4_markLone 17 = .ok (.getfield 96, 3) := by decide +kernel
theorem dX4_markLone_20 : decode cX4_markLone 20 = .ok (.aload_n 0, 1) := by decide +kernel
theorem dX4_markLone_21 : decode cX4_markLone 21 = .ok (.aload_n 2, 1) := by decide +kernel
theorem dX4_markLone_22 : decode cX4_markLone 22 = .ok (.getfield 96, 3) := by decide +kernel
theorem dX4_markLone_25 : decode cX4_markLone 25 = .ok (.invokevirtual 87, 3) := by decide +kernel
theorem dX4_markLone_28 : decode cX4_markLone 28 = .ok (.iastore, 1) := by decide +kernel
theorem dX4_markLone_29 : decode cX4_markLone 29 = .ok (.aload_n 2, 1) := by decide +kernel
theorem dX4_markLone_30 : decode cX4_markLone 30 = .ok (.invokevirtual 99, 3) := by decide +kernel
theorem dX4_markLone_33 : decode cX4_markLone 33 = .ok (.iinc 4 1, 3) := by decide +kernel
theorem dX4_markLone_36 : decode cX4_markLone 36 = .ok (.goto (-27), 3) := by decide +kernel
theorem dX4_markLone_39 : decode cX4_markLone 39 = .ok (.return_, 1) := by decide +kernel
def KX4_markLone_9 (E : EV) (d : Nat) (rr : Option Value × Mem) (b0 : Nat) (a1 : Nat) (w2 : Nat) (x3 : Int32) (Kp : Mem → Prop) : ((Int32 × Mem) ⊕ Mem) → Prop
  | .inl q => G E (d + 3) kX4_markLone 9 [some (.ref b0), some (.ref a1), some (.ref w2), some (.int x3), some (.int q.1)] [] q.2 rr
  | .inr z => Kp z
def bX4_markLone_9 (b0 : Nat) (a1 : Nat) (w2 : Nat) (x3 : Int32) (x4 : Int32) (I : Mem) : Option ((Int32 × Mem) ⊕ Mem) :=
  if x3 ≤ x4 then
  (some (.inr I))
  else
  (bnd (fX4_lone b0 (I w2 0) I) fun v_5 =>
  chk (inb (I w2 0) (ln a1)) <|
  letb (up2 I a1 (ix (I w2 0)) v_5) fun I_7 =>
  bnd (fX10_step w2 I_7) fun I_9 =>
  some (.inl ((x4 + (1 : Int32)), I_9)))
def sX4_markLone_9 (b0 : Nat) (a1 : Nat) (w2 : Nat) (x3 : Int32) (q : (Int32 × Mem)) : Option ((Int32 × Mem) ⊕ Mem) := bX4_markLone_9 b0 a1 w2 x3 q.1 q.2
set_option maxRecDepth 20000 in
theorem wX4_markLone_9 (E : EV) (d : Nat) (rr : Option Value × Mem) (b0 : Nat) (a1 : Nat) (w2 : Nat) (x3 : Int32) (x4 : Int32) (I : Mem) (hb0 : isH b0) (ha1 : isA a1) (hw2 : isW w2) (y : ((Int32 × Mem) ⊕ Mem)) (hf : bX4_markLone_9 b0 a1 w2 x3 x4 I = some y) (hK : (KX4_markLone_9 E d rr b0 a1 w2 x3 (fun (z : Mem) => ((none : Option Value), z) = rr)) y) : G E (d + 3) kX4_markLone 9 [some (.ref b0), some (.ref a1), some (.ref w2), some (.int x3), some (.int x4)] [] I rr := by
  unfold bX4_markLone_9 at hf
  refine G.iload dX4_markLone_9 rfl ?_
  refine G.iload_n dX4_markLone_11 rfl rfl ?_
  refine G.icmp_ge (tgt := 39) dX4_markLone_12 (by decide) (fun c_10 => ?_) (fun c_10 => ?_)
  · have hf := ite_t hf c_10
    have hf := Option.some.inj hf
    subst hf
    exact G.vret' dX4_markLone_39 rfl hK
  · have hf := ite_f hf c_10
    refine G.aload_n dX4_markLone_15 rfl rfl ?_
    refine G.aload_n dX4_markLone_16 rfl rfl ?_
    refine G.getI dX4_markLone_17 flX4_96 (isW_lt hw2) (isW_lk hw2) ?_
    refine G.aload_n dX4_markLone_20 rfl rfl ?_
    refine G.aload_n dX4_markLone_21 rfl rfl ?_
    refine G.getI dX4_markLone_22 flX4_96 (isW_lt hw2) (isW_lk hw2) ?_
    obtain ⟨v_5, hc_4, hf⟩ := bnd_at hf
    refine G.callVi (av := [.int (I w2 0)]) (rest := [.int (I w2 0), .ref a1]) dX4_markLone_25 mvX4_87 (gX4_lone E (d + 1) b0 (I w2 0) I hb0 hc_4) (isH_lt hb0) (isH_lk hb0) rfl rfl (Nat.le_of_ble_eq_true rfl) ?_
    obtain ⟨hi_6, hf⟩ := chk_at hf
    refine G.iast' dX4_markLone_28 ha1.1 ha1.2 rfl hi_6 ?_
    refine G.nmI (fun I_7 e_I_7 => ?_)
    have hf := letb_at hf e_I_7
    clear e_I_7
    refine G.aload_n dX4_markLone_29 rfl rfl ?_
    obtain ⟨I_9, hc_8, hf⟩ := bnd_at hf
    refine G.callVv (av := []) (rest := []) dX4_markLone_30 mvX4_99 (gX10_step E (d + 1) w2 I_7 hw2 hc_8) (isW_lt hw2) (isW_lk hw2) rfl rfl (Nat.le_of_ble_eq_true rfl) ?_
    refine G.inc (w := 1) (L' := [some (.ref b0), some (.ref a1), some (.ref w2), some (.int x3), some (.int (x4 + (1 : Int32)))]) dX4_markLone_33 (by decide) rfl (Nat.le_of_ble_eq_true rfl) rfl rfl ?_
    refine G.goto (tgt := 9) dX4_markLone_36 (by decide) ?_
    have hf := Option.some.inj hf
    subst hf
    exact hK
theorem lX4_markLone_9 (E : EV) (d : Nat) (rr : Option Value × Mem) (b0 : Nat) (a1 : Nat) (w2 : Nat) (x3 : Int32) (hb0 : isH b0) (ha1 : isA a1) (hw2 : isW w2) (z : Mem) (hK : (fun (z : Mem) => ((none : Option Value), z) = rr) z) : ∀ (n : Nat) (q : (Int32 × Mem)), iter (sX4_markLone_9 b0 a1 w2 x3) n q = some z → G E (d + 3) kX4_markLone 9 [some (.ref b0), some (.ref a1), some (.ref w2), some (.int x3), some (.int q.1)] [] q.2 rr := by
  intro n
  induction n with
  | zero => intro q h; cases h
  | succ n ih =>
    intro q h
    rcases iter_at h with ⟨q2, hs, h2⟩ | hs
    · exact wX4_markLone_9 E d rr b0 a1 w2 x3 q.1 q.2 hb0 ha1 hw2 _ hs (ih q2 h2)
    · exact wX4_markLone_9 E d rr b0 a1 w2 x3 q.1 q.2 hb0 ha1 hw2 _ hs hK
def fX4_markLone (b0 : Nat) (a1 : Nat) (w2 : Nat) (I : Mem) : Option Mem :=
  bnd2 (fX10_all w2 b0 I) fun v_2 I_3 =>
  iter (sX4_markLone_9 b0 a1 w2 v_2) FU ((0 : Int32), I_3)
set_option maxRecDepth 20000 in
theorem gX4_markLone (E : EV) (d : Nat) (b0 : Nat) (a1 : Nat) (w2 : Nat) (I : Mem) (hb0 : isH b0) (ha1 : isA a1) (hw2 : isW w2) {J : Mem} (hf : fX4_markLone b0 a1 w2 I = some J) : Gm E (d + 3) kX4_markLone [.ref b0, .ref a1, .ref w2] I (none, J) := by
  refine (fun (y : Mem) (hf : fX4_markLone b0 a1 w2 I = some y) => (?_ : Gm E (d + 3) kX4_markLone [.ref b0, .ref a1, .ref w2] I (none, y))) J hf
  refine Gm.of (by decide) rfl (Nat.le_of_ble_eq_true rfl) ?_
  generalize hrr : ((none, y) : Option Value × Mem) = rr
  show G E (d + 3) kX4_markLone 0 [some (.ref b0), some (.ref a1), some (.ref w2), none, none] [] I rr
  have hK : (fun (z : Mem) => ((none : Option Value), z) = rr) y := hrr
  clear hrr
  unfold fX4_markLone at hf
  refine G.aload_n dX4_markLone_0 rfl rfl ?_
  refine G.aload_n dX4_markLone_1 rfl rfl ?_
  obtain ⟨v_2, I_3, hc_1, hf⟩ := bnd2_at hf
  refine G.callVi (av := [.ref b0]) (rest := []) dX4_markLone_2 mvX4_90 (gX10_all E d w2 b0 I hw2 hb0 hc_1) (isW_lt hw2) (isW_lk hw2) rfl rfl (Nat.le_of_ble_eq_true rfl) ?_
  refine G.istore_n (L' := [some (.ref b0), some (.ref a1), some (.ref w2), some (.int v_2), none]) dX4_markLone_5 rfl (Nat.le_of_ble_eq_true rfl) (Nat.le_of_ble_eq_true rfl) rfl rfl ?_
  refine G.iconst (v := 0) dX4_markLone_6 (by decide) ?_
  refine G.istore (L' := [some (.ref b0), some (.ref a1), some (.ref w2), some (.int v_2), some (.int (0 : Int32))]) dX4_markLone_7 (Nat.le_of_ble_eq_true rfl) (Nat.le_of_ble_eq_true rfl) rfl rfl ?_
  exact lX4_markLone_9 E d rr b0 a1 w2 v_2 hb0 ha1 hw2 _ hK FU _ hf
theorem dX4_reach_0 : decode cX4_reach 0 = .ok (.aload_n 0, 1) := by decide +kernel
theorem dX4_reach_1 : decode cX4_reach 1 = .ok (.getfield 15, 3) := by decide +kernel
theorem dX4_reach_4 : decode cX4_reach 4 = .ok (.iload_n 1, 1) := by decide +kernel
theorem dX4_reach_5 : decode cX4_reach 5 = .ok (.iaload, 1) := by decide +kernel
theorem dX4_reach_6 : decode cX4_reach 6 = .ok (.iconst 1, 1) := by decide +kernel
theorem dX4_reach_7 : decode cX4_reach 7 = .ok (.iload_n 1, 1) := by decide +kernel
theorem dX4_reach_8 : decode cX4_reach 8 = .ok (.ishl, 1) := by decide +kernel
theorem dX4_reach_9 : decode cX4_reach 9 = .ok (.ior, 1) := by decide +kernel
theorem dX4_reach_10 : decode cX4_reach 10 = .ok (.ireturn, 1) := by decide +kernel
def fX4_reach (b0 : Nat) (x1 : Int32) (I : Mem) : Option Int32 :=
  chk (inb x1 5) <|
  some ((I (b0 + 1) (ix x1)) ||| ((1 : Int32) <<< (x1 &&& 31)))
set_option maxRecDepth 20000 in
theorem gX4_reach (E : EV) (d : Nat) (b0 : Nat) (x1 : Int32) (I : Mem) (hb0 : isH b0) {v : Int32} (hf : fX4_reach b0 x1 I = some v) : Gm E (d + 0) kX4_reach [.ref b0, .int x1] I (some (.int v), I) := by
  refine (fun (y : Int32) (hf : fX4_reach b0 x1 I = some y) => (?_ : Gm E (d + 0) kX4_reach [.ref b0, .int x1] I (some (.int y), I))) v hf
  refine Gm.of (by decide) rfl (Nat.le_of_ble_eq_true rfl) ?_
  generalize hrr : ((some (.int y), I) : Option Value × Mem) = rr
  show G E (d + 0) kX4_reach 0 [some (.ref b0), some (.int x1)] [] I rr
  have hK : (fun (z : Int32) => (some (.int z), I) = rr) y := hrr
  clear hrr
  unfold fX4_reach at hf
  refine G.aload_n dX4_reach_0 rfl rfl ?_
  refine G.getR (q := (b0 + 1)) dX4_reach_1 flX4_15 (isH_lt hb0) (isH_lk hb0) (isH_r1 hb0) ?_
  refine G.iload_n dX4_reach_4 rfl rfl ?_
  obtain ⟨hi_1, hf⟩ := chk_at hf
  refine G.iald' dX4_reach_5 (isH_l1 hb0) (isH_k1 hb0) (isH_n1 hb0) hi_1 ?_
  refine G.iconst (v := 1) dX4_reach_6 (by decide) ?_
  refine G.iload_n dX4_reach_7 rfl rfl ?_
  refine G.ishl dX4_reach_8 ?_
  refine G.ior dX4_reach_9 ?_
  have hf := Option.some.inj hf
  subst hf
  exact G.iret' dX4_reach_10 rfl hK
theorem dX10_among_0 : decode cX10_among 0 = .ok (.aload_n 0, 1) := by decide +kernel
theorem dX10_among_1 : decode cX10_among 1 = .ok (.aload_n 1, 1) := by decide +kernel
theorem dX10_among_2 : decode cX10_among 2 = .ok (.getfield 15, 3) := by decide +kernel
theorem dX10_among_5 : decode cX10_among 5 = .ok (.putfield 21, 3) := by decide +kernel
theorem dX10_among_8 : decode cX10_among 8 = .ok (.aload_n 2, 1) := by decide +kernel
theorem dX10_among_9 : decode cX10_among 9 = .ok (.iconst 0, 1) := by decide +kernel
theorem dX10_among_10 : decode cX10_among 10 = .ok (.aload_n 0, 1) := by decide +kernel
theorem dX10_among_11 : decode cX10_among 11 = .ok (.getfield 9, 3) := by decide +kernel
theorem dX10_among_14 : decode cX10_among 14 = .ok (.iconst 0, 1) := by decide +kernel
theorem dX10_among_15 : decode cX10_among 15 = .ok (.iconst 4, 1) := by decide +kernel
theorem dX10_among_16 : decode cX10_among 16 = .ok (.invokestatic 35, 3) := by decide +kernel
theorem dX10_among_19 : decode cX10_among 19 = .ok (.aload_n 0, 1) := by decide +kernel
theorem dX10_among_20 : decode cX10_among 20 = .ok (.invokevirtual 32, 3) := by decide +kernel
theorem dX10_among_23 : decode cX10_among 23 = .ok (.ireturn, 1) := by decide +kernel
def fX10_among (w0 : Nat) (b1 : Nat) (a2 : Nat) (I : Mem) : Option (Int32 × Mem) :=
  letb (up2 I w0 1 (I b1 2)) fun I_1 =>
  chk (cpok (0 : Int32) (0 : Int32) (4 : Int32) (ln a2) 4) <|
  letb (upA I_1 (w0 + 1) (cpA (I_1 a2) (I_1 (w0 + 1)) (ix (0 : Int32)) (ix (0 : Int32)) (ix (4 : Int32)))) fun I_3 =>
  bnd2 (fX10_begin w0 I_3) fun v_5 I_6 =>
  some (v_5, I_6)
set_option maxRecDepth 20000 in
theorem gX10_among (E : EV) (d : Nat) (w0 : Nat) (b1 : Nat) (a2 : Nat) (I : Mem) (hw0 : isW w0) (hb1 : isH b1) (ha2 : isA a2) {v : Int32} {J : Mem} (hf : fX10_among w0 b1 a2 I = some (v, J)) : Gm E (d + 2) kX10_among [.ref w0, .ref b1, .ref a2] I (some (.int v), J) := by
  refine (fun (y : (Int32 × Mem)) (hf : fX10_among w0 b1 a2 I = some y) => (?_ : Gm E (d + 2) kX10_among [.ref w0, .ref b1, .ref a2] I (some (.int y.1), y.2))) (v, J) hf
  refine Gm.of (by decide) rfl (Nat.le_of_ble_eq_true rfl) ?_
  generalize hrr : ((some (.int y.1), y.2) : Option Value × Mem) = rr
  show G E (d + 2) kX10_among 0 [some (.ref w0), some (.ref b1), some (.ref a2)] [] I rr
  have hK : (fun (z : Int32 × Mem) => (some (.int z.1), z.2) = rr) y := hrr
  clear hrr
  unfold fX10_among at hf
  refine G.aload_n dX10_among_0 rfl rfl ?_
  refine G.aload_n dX10_among_1 rfl rfl ?_
  refine G.getI dX10_among_2 flX10_15 (isH_lt hb1) (isH_lk hb1) ?_
  refine G.putI dX10_among_5 flX10_21 (isW_lt hw0) (isW_lk hw0) ?_
  refine G.nmI (fun I_1 e_I_1 => ?_)
  have hf := letb_at hf e_I_1
  clear e_I_1
  refine G.aload_n dX10_among_8 rfl rfl ?_
  refine G.iconst (v := 0) dX10_among_9 (by decide) ?_
  refine G.aload_n dX10_among_10 rfl rfl ?_
  refine G.getR (q := (w0 + 1)) dX10_among_11 flX10_9 (isW_lt hw0) (isW_lk hw0) (isW_r1 hw0) ?_
  refine G.iconst (v := 0) dX10_among_14 (by decide) ?_
  refine G.iconst (v := 4) dX10_among_15 (by decide) ?_
  obtain ⟨hi_2, hf⟩ := chk_at hf
  refine G.acopy' (rest := []) dX10_among_16 maX10_35 ha2.1 ha2.2 rfl (isW_l1 hw0) (isW_k1 hw0) (isW_n1 hw0) hi_2 (Nat.le_of_ble_eq_true rfl) ?_
  refine G.nmI (fun I_3 e_I_3 => ?_)
  have hf := letb_at hf e_I_3
  clear e_I_3
  refine G.aload_n dX10_among_19 rfl rfl ?_
  obtain ⟨v_5, I_6, hc_4, hf⟩ := bnd2_at hf
  refine G.callVi (av := []) (rest := []) dX10_among_20 mvX10_32 (gX10_begin E d w0 I_3 hw0 hc_4) (isW_lt hw0) (isW_lk hw0) rfl rfl (Nat.le_of_ble_eq_true rfl) ?_
  have hf := Option.some.inj hf
  subst hf
  exact G.iret' dX10_among_23 rfl hK
theorem dX10_onwardAmong_0 : decode cX10_onwardAmong 0 = .ok (.aload_n 0, 1) := by decide +kernel
theorem dX10_onwardAmong_1 : decode cX10_onwardAmong 1 = .ok (.aload_n 1, 1) := by decide +kernel
theorem dX10_onwardAmong_2 : decode cX10_onwardAmong 2 = .ok (.getfield 15, 3) := by decide +kernel
theorem dX10_onwardAmong_5 : decode cX10_onwardAmong 5 = .ok (.putfield 21, 3) := by decide +kernel
theorem dX10_onwardAmong_8 : decode cX10_onwardAmong 8 = .ok (.iconst 0, 1) := by decide +kernel
theorem dX10_onwardAmong_9 : decode cX10_onwardAmong 9 = .ok (.istore 4, 2) := by decide +kernel
theorem dX10_onwardAmong_11 : decode cX10_onwardAmong 11 = .ok (.iload 4, 2) := by decide +kernel
theorem dX10_onwardAmong_13 : decode cX10_onwardAmong 13 = .ok (.aload_n 0, 1) := by decide +kernel
theorem dX10_onwardAmong_14 : decode cX10_onwardAmong 14 = .ok (.getfield 21, 3) := by decide +kernel
theorem dX10_onwardAmong_17 : decode cX10_onwardAmong 17 = .ok (.if_icmp .ge 31, 3) := by decide +kernel
theorem dX10_onwardAmong_20 : decode cX10_onwardAmong 20 = .ok (.aload_n 0, 1) := by decide +kernel
theorem dX10_onwardAmong_21 : decode cX10_onwardAmong 21 = .ok (.getfield 9, 3) := by decide +kernel
theorem dX10_onwardAmong_24 : decode cX10_onwardAmong 24 = .ok (.iload 4, 2) := by decide +kernel
theorem dX10_onwardAmong_26 : decode cX10_onwardAmong 26 = .ok (.aload_n 1, 1) := by decide +kernel
theorem dX10_onwardAmong_27 : decode cX10_onwardAmong 27 = .ok (.iload_n 2, 1) := by decide +kernel
theorem dX10_onwardAmong_28 : decode cX10_onwardAmong 28 = .ok (.iload 4, 2) := by decide +kernel
theorem dX10_onwardAmong_30 : decode cX10_onwardAmong 30 = .ok (.invokestatic 41, 3) := by decide +kernel
theorem dX10_onwardAmong_33 : decode cX10_onwardAmong 33 = .ok (.invokevirtual 45, 3) := by decide +kernel
theorem dX10_onwardAmong_36 : decode cX10_onwardAmong 36 = .ok (.aload_n 3, 1) := by decide +kernel
theorem dX10_onwardAmong_37 : decode cX10_onwardAmong 37 = .ok (.iload 4, 2) := by decide +kernel
theorem dX10_onwardAmong_39 : decode cX10_onwardAmong 39 = .ok (.iaload, 1) := by decide +kernel
theorem dX10_onwardAmong_40 : decode cX10_onwardAmong 40 = .ok (.iand, 1) := by decide +kernel
theorem dX10_onwardAmong_41 : decode cX10_onwardAmong 41 = .ok (.iastore, 1) := by decide +kernel
theorem dX10_onwardAmong_42 : decode cX10_onwardAmong 42 = .ok (.iinc 4 1, 3) := by decide +kernel
theorem dX10_onwardAmong_45 : decode cX10_onwardAmong 45 = .ok (.goto (-34), 3) := by decide +kernel
theorem dX10_onwardAmong_48 : decode cX10_onwardAmong 48 = .ok (.aload_n 0, 1) := by decide +kernel
theorem dX10_onwardAmong_49 : decode cX10_onwardAmong 49 = .ok (.invokevirtual 32, 3) := by decide +kernel
theorem dX10_onwardAmong_52 : decode cX10_onwardAmong 52 = .ok (.ireturn, 1) := by decide +kernel
def KX10_onwardAmong_11 (E : EV) (d : Nat) (rr : Option Value × Mem) (w0 : Nat) (b1 : Nat) (a3 : Nat) (x2 : Int32) (Kp : (Int32 × Mem) → Prop) : ((Int32 × Mem) ⊕ (Int32 × Mem)) → Prop
  | .inl q => G E (d + 2) kX10_onwardAmong 11 [some (.ref w0), some (.ref b1), some (.int x2), some (.ref a3), some (.int q.1)] [] q.2 rr
  | .inr z => Kp z
def bX10_onwardAmong_11 (w0 : Nat) (b1 : Nat) (a3 : Nat) (x2 : Int32) (x4 : Int32) (I : Mem) : Option ((Int32 × Mem) ⊕ (Int32 × Mem)) :=
  if (I w0 1) ≤ x4 then
  (bnd2 (fX10_begin w0 I) fun v_3 I_4 =>
  some (.inr (v_3, I_4)))
  else
  (bnd (fX11_roomOf x2 x4 I) fun v_6 =>
  bnd (fX4_reach b1 v_6 I) fun v_8 =>
  chk (inb x4 (ln a3)) <|
  chk (inb x4 4) <|
  letb (up2 I (w0 + 1) (ix x4) (v_8 &&& (I a3 (ix x4)))) fun I_11 =>
  some (.inl ((x4 + (1 : Int32)), I_11)))
def sX10_onwardAmong_11 (w0 : Nat) (b1 : Nat) (a3 : Nat) (x2 : Int32) (q : (Int32 × Mem)) : Option ((Int32 × Mem) ⊕ (Int32 × Mem)) := bX10_onwardAmong_11 w0 b1 a3 x2 q.1 q.2
set_option maxRecDepth 20000 in
theorem wX10_onwardAmong_11 (E : EV) (d : Nat) (rr : Option Value × Mem) (w0 : Nat) (b1 : Nat) (a3 : Nat) (x2 : Int32) (x4 : Int32) (I : Mem) (hw0 : isW w0) (hb1 : isH b1) (ha3 : isA a3) (y : ((Int32 × Mem) ⊕ (Int32 × Mem))) (hf : bX10_onwardAmong_11 w0 b1 a3 x2 x4 I = some y) (hK : (KX10_onwardAmong_11 E d rr w0 b1 a3 x2 (fun (z : Int32 × Mem) => (some (.int z.1), z.2) = rr)) y) : G E (d + 2) kX10_onwardAmong 11 [some (.ref w0), some (.ref b1), some (.int x2), some (.ref a3), some (.int x4)] [] I rr := by
  unfold bX10_onwardAmong_11 at hf
  refine G.iload dX10_onwardAmong_11 rfl ?_
  refine G.aload_n dX10_onwardAmong_13 rfl rfl ?_
  refine G.getI dX10_onwardAmong_14 flX10_21 (isW_lt hw0) (isW_lk hw0) ?_
  refine G.icmp_ge (tgt := 48) dX10_onwardAmong_17 (by decide) (fun c_12 => ?_) (fun c_12 => ?_)
  · have hf := ite_t hf c_12
    refine G.aload_n dX10_onwardAmong_48 rfl rfl ?_
    obtain ⟨v_3, I_4, hc_2, hf⟩ := bnd2_at hf
    refine G.callVi (av := []) (rest := []) dX10_onwardAmong_49 mvX10_32 (gX10_begin E d w0 I hw0 hc_2) (isW_lt hw0) (isW_lk hw0) rfl rfl (Nat.le_of_ble_eq_true rfl) ?_
    have hf := Option.some.inj hf
    subst hf
    exact G.iret' dX10_onwardAmong_52 rfl hK
  · have hf := ite_f hf c_12
    refine G.aload_n dX10_onwardAmong_20 rfl rfl ?_
    refine G.getR (q := (w0 + 1)) dX10_onwardAmong_21 flX10_9 (isW_lt hw0) (isW_lk hw0) (isW_r1 hw0) ?_
    refine G.iload dX10_onwardAmong_24 rfl ?_
    refine G.aload_n dX10_onwardAmong_26 rfl rfl ?_
    refine G.iload_n dX10_onwardAmong_27 rfl rfl ?_
    refine G.iload dX10_onwardAmong_28 rfl ?_
    obtain ⟨v_6, hc_5, hf⟩ := bnd_at hf
    refine G.callNi (av := [.int x2, .int x4]) (rest := [.ref b1, .int x4, .ref (w0 + 1)]) dX10_onwardAmong_30 mnX10_41 (gX11_roomOf E (d + 1) x2 x4 I hc_5) rfl rfl (Nat.le_of_ble_eq_true rfl) ?_
    obtain ⟨v_8, hc_7, hf⟩ := bnd_at hf
    refine G.callVi (av := [.int v_6]) (rest := [.int x4, .ref (w0 + 1)]) dX10_onwardAmong_33 mvX10_45 (gX4_reach E (d + 1) b1 v_6 I hb1 hc_7) (isH_lt hb1) (isH_lk hb1) rfl rfl (Nat.le_of_ble_eq_true rfl) ?_
    refine G.aload_n dX10_onwardAmong_36 rfl rfl ?_
    refine G.iload dX10_onwardAmong_37 rfl ?_
    obtain ⟨hi_9, hf⟩ := chk_at hf
    refine G.iald' dX10_onwardAmong_39 ha3.1 ha3.2 rfl hi_9 ?_
    refine G.iand dX10_onwardAmong_40 ?_
    obtain ⟨hi_10, hf⟩ := chk_at hf
    refine G.iast' dX10_onwardAmong_41 (isW_l1 hw0) (isW_k1 hw0) (isW_n1 hw0) hi_10 ?_
    refine G.nmI (fun I_11 e_I_11 => ?_)
    have hf := letb_at hf e_I_11
    clear e_I_11
    refine G.inc (w := 1) (L' := [some (.ref w0), some (.ref b1), some (.int x2), some (.ref a3), some (.int (x4 + (1 : Int32)))]) dX10_onwardAmong_42 (by decide) rfl (Nat.le_of_ble_eq_true rfl) rfl rfl ?_
    refine G.goto (tgt := 11) dX10_onwardAmong_45 (by decide) ?_
    have hf := Option.some.inj hf
    subst hf
    exact hK
theorem lX10_onwardAmong_11 (E : EV) (d : Nat) (rr : Option Value × Mem) (w0 : Nat) (b1 : Nat) (a3 : Nat) (x2 : Int32) (hw0 : isW w0) (hb1 : isH b1) (ha3 : isA a3) (z : (Int32 × Mem)) (hK : (fun (z : Int32 × Mem) => (some (.int z.1), z.2) = rr) z) : ∀ (n : Nat) (q : (Int32 × Mem)), iter (sX10_onwardAmong_11 w0 b1 a3 x2) n q = some z → G E (d + 2) kX10_onwardAmong 11 [some (.ref w0), some (.ref b1), some (.int x2), some (.ref a3), some (.int q.1)] [] q.2 rr := by
  intro n
  induction n with
  | zero => intro q h; cases h
  | succ n ih =>
    intro q h
    rcases iter_at h with ⟨q2, hs, h2⟩ | hs
    · exact wX10_onwardAmong_11 E d rr w0 b1 a3 x2 q.1 q.2 hw0 hb1 ha3 _ hs (ih q2 h2)
    · exact wX10_onwardAmong_11 E d rr w0 b1 a3 x2 q.1 q.2 hw0 hb1 ha3 _ hs hK
def fX10_onwardAmong (w0 : Nat) (b1 : Nat) (x2 : Int32) (a3 : Nat) (I : Mem) : Option (Int32 × Mem) :=
  letb (up2 I w0 1 (I b1 2)) fun I_1 =>
  iter (sX10_onwardAmong_11 w0 b1 a3 x2) FU ((0 : Int32), I_1)
set_option maxRecDepth 20000 in
theorem gX10_onwardAmong (E : EV) (d : Nat) (w0 : Nat) (b1 : Nat) (x2 : Int32) (a3 : Nat) (I : Mem) (hw0 : isW w0) (hb1 : isH b1) (ha3 : isA a3) {v : Int32} {J : Mem} (hf : fX10_onwardAmong w0 b1 x2 a3 I = some (v, J)) : Gm E (d + 2) kX10_onwardAmong [.ref w0, .ref b1, .int x2, .ref a3] I (some (.int v), J) := by
  refine (fun (y : (Int32 × Mem)) (hf : fX10_onwardAmong w0 b1 x2 a3 I = some y) => (?_ : Gm E (d + 2) kX10_onwardAmong [.ref w0, .ref b1, .int x2, .ref a3] I (some (.int y.1), y.2))) (v, J) hf
  refine Gm.of (by decide) rfl (Nat.le_of_ble_eq_true rfl) ?_
  generalize hrr : ((some (.int y.1), y.2) : Option Value × Mem) = rr
  show G E (d + 2) kX10_onwardAmong 0 [some (.ref w0), some (.ref b1), some (.int x2), some (.ref a3), none] [] I rr
  have hK : (fun (z : Int32 × Mem) => (some (.int z.1), z.2) = rr) y := hrr
  clear hrr
  unfold fX10_onwardAmong at hf
  refine G.aload_n dX10_onwardAmong_0 rfl rfl ?_
  refine G.aload_n dX10_onwardAmong_1 rfl rfl ?_
  refine G.getI dX10_onwardAmong_2 flX10_15 (isH_lt hb1) (isH_lk hb1) ?_
  refine G.putI dX10_onwardAmong_5 flX10_21 (isW_lt hw0) (isW_lk hw0) ?_
  refine G.nmI (fun I_1 e_I_1 => ?_)
  have hf := letb_at hf e_I_1
  clear e_I_1
  refine G.iconst (v := 0) dX10_onwardAmong_8 (by decide) ?_
  refine G.istore (L' := [some (.ref w0), some (.ref b1), some (.int x2), some (.ref a3), some (.int (0 : Int32))]) dX10_onwardAmong_9 (Nat.le_of_ble_eq_true rfl) (Nat.le_of_ble_eq_true rfl) rfl rfl ?_
  exact lX10_onwardAmong_11 E d rr w0 b1 a3 x2 hw0 hb1 ha3 _ hK FU _ hf
theorem dX4_payers_0 : decode cX4_payers 0 = .ok (.iconst 0, 1) := by decide +kernel
theorem dX4_payers_1 : decode cX4_payers 1 = .ok (.istore 7, 2) := by decide +kernel
theorem dX4_payers_3 : decode cX4_payers 3 = .ok (.iconst 0, 1) := by decide +kernel
theorem dX4_payers_4 : decode cX4_payers 4 = .ok (.istore 8, 2) := by decide +kernel
theorem dX4_payers_6 : decode cX4_payers 6 = .ok (.iload 8, 2) := by decide +kernel
theorem dX4_payers_8 : decode cX4_payers 8 = .ok (.aload_n 0, 1) := by decide +kernel
theorem dX4_payers_9 : decode cX4_payers 9 = .ok (.getfield 46, 3) := by decide +kernel
theorem dX4_payers_12 : decode cX4_payers 12 = .ok (.if_icmp .ge 76, 3) := by decide +kernel
theorem dX4_payers_15 : decode cX4_payers 15 = .ok (.iload 4, 2) := by decide +kernel
theorem dX4_payers_17 : decode cX4_payers 17 = .ok (.iload 8, 2) := by decide +kernel
theorem dX4_payers_19 : decode cX4_payers 19 = .ok (.ishr, 1) := by decide +kernel
theorem dX4_payers_20 : decode cX4_payers 20 = .ok (.ifCond .eq 68, 3) := by decide +kernel
theorem dX4_payers_23 : decode cX4_payers 23 = .ok (.iload_n 1, 1) := by decide +kernel
theorem dX4_payers_24 : decode cX4_payers 24 = .ok (.iload 8, 2) := by decide +kernel
theorem dX4_payers_26 : decode cX4_payers 26 = .ok (.invokestatic 76, 3) := by decide +kernel
theorem dX4_payers_29 : decode cX4_payers 29 = .ok (.iload_n 2, 1) := by decide +kernel
theorem dX4_payers_30 : decode cX4_payers 30 = .ok (.iload 8, 2) := by decide +kernel
theorem dX4_payers_32 : decode cX4_payers 32 = .ok (.invokestatic 76, 3) := by decide +kernel
theorem dX4_payers_35 : decode cX4_payers 35 = .ok (.if_icmp .ne 7, 3) := by decide +kernel
theorem dX4_payers_38 : decode cX4_payers 38 = .ok (.iconst 1, 1) := by decide +kernel
theorem dX4_payers_39 : decode cX4_payers 39 = .ok (.goto 4, 3) := by decide +kernel
theorem dX4_payers_42 : decode cX4_payers 42 = .ok (.iconst 0, 1) := by decide +kernel
theorem dX4_payers_43 : decode cX4_payers 43 = .ok (.istore 9, 2) := by decide +kernel
theorem dX4_payers_45 : decode cX4_payers 45 = .ok (.iload 4, 2) := by decide +kernel
theorem dX4_payers_47 : decode cX4_payers 47 = .ok (.iload 8, 2) := by decide +kernel
theorem dX4_payers_49 : decode cX4_payers 49 = .ok (.invokestatic 83, 3) := by decide +kernel
theorem dX4_payers_52 : decode cX4_payers 52 = .ok (.ifCond .eq 30, 3) := by decide +kernel
theorem dX4_payers_55 : decode cX4_payers 55 = .ok (.aload 6, 2) := by decide +kernel
theorem dX4_payers_57 : decode cX4_payers 57 = .ok (.iload 9, 2) := by decide +kernel
theorem dX4_payers_59 : decode cX4_payers 59 = .ok (.iload_n 3, 1) := by decide +kernel
theorem dX4_payers_60 : decode cX4_payers 60 = .ok (.iload 8, 2) := by decide +kernel
theorem dX4_payers_62 : decode cX4_payers 62 = .ok (.invokestatic 83, 3) := by decide +kernel
theorem dX4_payers_65 : decode cX4_payers 65 = .ok (.iload 5, 2) := by decide +kernel
theorem dX4_payers_67 : decode cX4_payers 67 = .ok (.invokevirtual 102, 3) := by decide +kernel
theorem dX4_payers_70 : decode cX4_payers 70 = .ok (.ifCond .eq 12, 3) := by decide +kernel
theorem dX4_payers_73 : decode cX4_payers 73 = .ok (.iload 7, 2) := by decide +kernel
theorem dX4_payers_75 : decode cX4_payers 75 = .ok (.iconst 1, 1) := by decide +kernel
theorem dX4_payers_76 : decode cX4_payers 76 = .ok (.iload 8, 2) := by decide +kernel
theorem dX4_payers_78 : decode cX4_payers 78 = .ok (.ishl, 1) := by decide +kernel
theorem dX4_payers_79 : decode cX4_payers 79 = .ok (.ior, 1) := by decide +kernel
theorem dX4_payers_80 : decode cX4_payers 80 = .ok (.istore 7, 2) := by decide +kernel
theorem dX4_payers_82 : decode cX4_payers 82 = .ok (.iinc 8 1, 3) := by decide +kernel
theorem dX4_payers_85 : decode cX4_payers 85 = .ok (.goto (-79), 3) := by decide +kernel
theorem dX4_payers_88 : decode cX4_payers 88 = .ok (.iload 7, 2) := by decide +kernel
theorem dX4_payers_90 : decode cX4_payers 90 = .ok (.ireturn, 1) := by decide +kernel
def KX4_payers_6 (E : EV) (d : Nat) (rr : Option Value × Mem) (b0 : Nat) (o6 : Nat) (x1 : Int32) (x2 : Int32) (x3 : Int32) (x4 : Int32) (x5 : Int32) (I : Mem) (Kp : Int32 → Prop) : ((Int32 × Int32) ⊕ Int32) → Prop
  | .inl q => G E (d + 2) kX4_payers 6 [some (.ref b0), some (.int x1), some (.int x2), some (.int x3), some (.int x4), some (.int x5), some (.ref o6), some (.int q.1), some (.int q.2), none] [] I rr
  | .inr z => Kp z
def jX4_payers_43 (b0 : Nat) (o6 : Nat) (x1 : Int32) (x2 : Int32) (x3 : Int32) (x4 : Int32) (x5 : Int32) (x7 : Int32) (x8 : Int32) (u0 : Int32) (I : Mem) : Option ((Int32 × Int32) ⊕ Int32) :=
  bnd (fX11_has x4 x8 I) fun v_6 =>
  if v_6 = 0 then
  (some (.inl (x7, (x8 + (1 : Int32)))))
  else
  (bnd (fX11_has x3 x8 I) fun v_8 =>
  bnd (fD_lays o6 u0 v_8 x5 I) fun v_9 =>
  if v_9 = 0 then
  (some (.inl (x7, (x8 + (1 : Int32)))))
  else
  (letb (x7 ||| ((1 : Int32) <<< (x8 &&& 31))) fun x7_11 =>
  some (.inl (x7_11, (x8 + (1 : Int32))))))
set_option maxRecDepth 20000 in
theorem tX4_payers_43 (E : EV) (d : Nat) (rr : Option Value × Mem) (b0 : Nat) (o6 : Nat) (x1 : Int32) (x2 : Int32) (x3 : Int32) (x4 : Int32) (x5 : Int32) (x7 : Int32) (x8 : Int32) (u0 : Int32) (I : Mem) (hb0 : isH b0) (ho6 : isL o6) (y : ((Int32 × Int32) ⊕ Int32)) (hf : jX4_payers_43 b0 o6 x1 x2 x3 x4 x5 x7 x8 u0 I = some y) (hK : (KX4_payers_6 E d rr b0 o6 x1 x2 x3 x4 x5 I (fun (z : Int32) => (some (.int z), I) = rr)) y) : G E (d + 2) kX4_payers 43 [some (.ref b0), some (.int x1), some (.int x2), some (.int x3), some (.int x4), some (.int x5), some (.ref o6), some (.int x7), some (.int x8), none] [.int u0] I rr := by
  unfold jX4_payers_43 at hf
  refine G.istore (L' := [some (.ref b0), some (.int x1), some (.int x2), some (.int x3), some (.int x4), some (.int x5), some (.ref o6), some (.int x7), some (.int x8), some (.int u0)]) dX4_payers_43 (Nat.le_of_ble_eq_true rfl) (Nat.le_of_ble_eq_true rfl) rfl rfl ?_
  refine G.iload dX4_payers_45 rfl ?_
  refine G.iload dX4_payers_47 rfl ?_
  obtain ⟨v_6, hc_5, hf⟩ := bnd_at hf
  refine G.callNi (av := [.int x4, .int x8]) (rest := []) dX4_payers_49 mnX4_83 (gX11_has E (d + 1) x4 x8 I hc_5) rfl rfl (Nat.le_of_ble_eq_true rfl) ?_
  refine G.if_eq (tgt := 82) dX4_payers_52 (by decide) (fun c_13 => ?_) (fun c_13 => ?_)
  · have hf := ite_t hf c_13
    refine G.inc (w := 1) (L' := [some (.ref b0), some (.int x1), some (.int x2), some (.int x3), some (.int x4), some (.int x5), some (.ref o6), some (.int x7), some (.int (x8 + (1 : Int32))), some (.int u0)]) dX4_payers_82 (by decide) rfl (Nat.le_of_ble_eq_true rfl) rfl rfl ?_
    refine G.goto (tgt := 6) dX4_payers_85 (by decide) ?_
    have hf := Option.some.inj hf
    subst hf
    refine G.forget (L' := [some (.ref b0), some (.int x1), some (.int x2), some (.int x3), some (.int x4), some (.int x5), some (.ref o6), some (.int x7), some (.int (x8 + (1 : Int32))), none]) [9] rfl ?_
    exact hK
  · have hf := ite_f hf c_13
    refine G.aload dX4_payers_55 rfl ?_
    refine G.iload dX4_payers_57 rfl ?_
    refine G.iload_n dX4_payers_59 rfl rfl ?_
    refine G.iload dX4_payers_60 rfl ?_
    obtain ⟨v_8, hc_7, hf⟩ := bnd_at hf
    refine G.callNi (av := [.int x3, .int x8]) (rest := [.int u0, .ref o6]) dX4_payers_62 mnX4_83 (gX11_has E (d + 1) x3 x8 I hc_7) rfl rfl (Nat.le_of_ble_eq_true rfl) ?_
    refine G.iload dX4_payers_65 rfl ?_
    obtain ⟨v_9, hc_10, hf⟩ := bnd_at hf
    refine vLX4_102 (rest := []) dX4_payers_67 ho6 hc_10 (Nat.le_of_ble_eq_true rfl) rfl ?_
    refine G.if_eq (tgt := 82) dX4_payers_70 (by decide) (fun c_12 => ?_) (fun c_12 => ?_)
    · have hf := ite_t hf c_12
      refine G.inc (w := 1) (L' := [some (.ref b0), some (.int x1), some (.int x2), some (.int x3), some (.int x4), some (.int x5), some (.ref o6), some (.int x7), some (.int (x8 + (1 : Int32))), some (.int u0)]) dX4_payers_82 (by decide) rfl (Nat.le_of_ble_eq_true rfl) rfl rfl ?_
      refine G.goto (tgt := 6) dX4_payers_85 (by decide) ?_
      have hf := Option.some.inj hf
      subst hf
      refine G.forget (L' := [some (.ref b0), some (.int x1), some (.int x2), some (.int x3), some (.int x4), some (.int x5), some (.ref o6), some (.int x7), some (.int (x8 + (1 : Int32))), none]) [9] rfl ?_
      exact hK
    · have hf := ite_f hf c_12
      refine G.iload dX4_payers_73 rfl ?_
      refine G.iconst (v := 1) dX4_payers_75 (by decide) ?_
      refine G.iload dX4_payers_76 rfl ?_
      refine G.ishl dX4_payers_78 ?_
      refine G.ior dX4_payers_79 ?_
      refine G.nmi (fun x7_11 e_x7_11 => ?_)
      have hf := letb_at hf e_x7_11
      clear e_x7_11
      refine G.istore (L' := [some (.ref b0), some (.int x1), some (.int x2), some (.int x3), some (.int x4), some (.int x5), some (.ref o6), some (.int x7_11), some (.int x8), some (.int u0)]) dX4_payers_80 (Nat.le_of_ble_eq_true rfl) (Nat.le_of_ble_eq_true rfl) rfl rfl ?_
      refine G.inc (w := 1) (L' := [some (.ref b0), some (.int x1), some (.int x2), some (.int x3), some (.int x4), some (.int x5), some (.ref o6), some (.int x7_11), some (.int (x8 + (1 : Int32))), some (.int u0)]) dX4_payers_82 (by decide) rfl (Nat.le_of_ble_eq_true rfl) rfl rfl ?_
      refine G.goto (tgt := 6) dX4_payers_85 (by decide) ?_
      have hf := Option.some.inj hf
      subst hf
      refine G.forget (L' := [some (.ref b0), some (.int x1), some (.int x2), some (.int x3), some (.int x4), some (.int x5), some (.ref o6), some (.int x7_11), some (.int (x8 + (1 : Int32))), none]) [9] rfl ?_
      exact hK
def bX4_payers_6 (b0 : Nat) (o6 : Nat) (x1 : Int32) (x2 : Int32) (x3 : Int32) (x4 : Int32) (x5 : Int32) (I : Mem) (x7 : Int32) (x8 : Int32) : Option ((Int32 × Int32) ⊕ Int32) :=
  if (I b0 2) ≤ x8 then
  (some (.inr x7))
  else
  (if (x4 >>> (x8 &&& 31)) = 0 then
  (some (.inr x7))
  else
  (bnd (fX11_roomOf x1 x8 I) fun v_2 =>
  bnd (fX11_roomOf x2 x8 I) fun v_4 =>
  if v_2 = v_4 then
  (jX4_payers_43 b0 o6 x1 x2 x3 x4 x5 x7 x8 (1 : Int32) I)
  else
  (jX4_payers_43 b0 o6 x1 x2 x3 x4 x5 x7 x8 (0 : Int32) I)))
def sX4_payers_6 (b0 : Nat) (o6 : Nat) (x1 : Int32) (x2 : Int32) (x3 : Int32) (x4 : Int32) (x5 : Int32) (I : Mem) (q : (Int32 × Int32)) : Option ((Int32 × Int32) ⊕ Int32) := bX4_payers_6 b0 o6 x1 x2 x3 x4 x5 I q.1 q.2
set_option maxRecDepth 20000 in
theorem wX4_payers_6 (E : EV) (d : Nat) (rr : Option Value × Mem) (b0 : Nat) (o6 : Nat) (x1 : Int32) (x2 : Int32) (x3 : Int32) (x4 : Int32) (x5 : Int32) (I : Mem) (x7 : Int32) (x8 : Int32) (hb0 : isH b0) (ho6 : isL o6) (y : ((Int32 × Int32) ⊕ Int32)) (hf : bX4_payers_6 b0 o6 x1 x2 x3 x4 x5 I x7 x8 = some y) (hK : (KX4_payers_6 E d rr b0 o6 x1 x2 x3 x4 x5 I (fun (z : Int32) => (some (.int z), I) = rr)) y) : G E (d + 2) kX4_payers 6 [some (.ref b0), some (.int x1), some (.int x2), some (.int x3), some (.int x4), some (.int x5), some (.ref o6), some (.int x7), some (.int x8), none] [] I rr := by
  unfold bX4_payers_6 at hf
  refine G.iload dX4_payers_6 rfl ?_
  refine G.aload_n dX4_payers_8 rfl rfl ?_
  refine G.getI dX4_payers_9 flX4_46 (isH_lt hb0) (isH_lk hb0) ?_
  refine G.icmp_ge (tgt := 88) dX4_payers_12 (by decide) (fun c_16 => ?_) (fun c_16 => ?_)
  · have hf := ite_t hf c_16
    refine G.iload dX4_payers_88 rfl ?_
    have hf := Option.some.inj hf
    subst hf
    exact G.iret' dX4_payers_90 rfl hK
  · have hf := ite_f hf c_16
    refine G.iload dX4_payers_15 rfl ?_
    refine G.iload dX4_payers_17 rfl ?_
    refine G.ishr dX4_payers_19 ?_
    refine G.if_eq (tgt := 88) dX4_payers_20 (by decide) (fun c_15 => ?_) (fun c_15 => ?_)
    · have hf := ite_t hf c_15
      refine G.iload dX4_payers_88 rfl ?_
      have hf := Option.some.inj hf
      subst hf
      exact G.iret' dX4_payers_90 rfl hK
    · have hf := ite_f hf c_15
      refine G.iload_n dX4_payers_23 rfl rfl ?_
      refine G.iload dX4_payers_24 rfl ?_
      obtain ⟨v_2, hc_1, hf⟩ := bnd_at hf
      refine G.callNi (av := [.int x1, .int x8]) (rest := []) dX4_payers_26 mnX4_76 (gX11_roomOf E (d + 1) x1 x8 I hc_1) rfl rfl (Nat.le_of_ble_eq_true rfl) ?_
      refine G.iload_n dX4_payers_29 rfl rfl ?_
      refine G.iload dX4_payers_30 rfl ?_
      obtain ⟨v_4, hc_3, hf⟩ := bnd_at hf
      refine G.callNi (av := [.int x2, .int x8]) (rest := [.int v_2]) dX4_payers_32 mnX4_76 (gX11_roomOf E (d + 1) x2 x8 I hc_3) rfl rfl (Nat.le_of_ble_eq_true rfl) ?_
      refine G.icmp_ne (tgt := 42) dX4_payers_35 (by decide) (fun c_14 => ?_) (fun c_14 => ?_)
      · have hf := ite_f hf c_14
        refine G.iconst (v := 0) dX4_payers_42 (by decide) ?_
        exact tX4_payers_43 E d rr b0 o6 x1 x2 x3 x4 x5 x7 x8 (0 : Int32) I hb0 ho6 _ hf hK
      · have hf := ite_t hf c_14
        refine G.iconst (v := 1) dX4_payers_38 (by decide) ?_
        refine G.goto (tgt := 43) dX4_payers_39 (by decide) ?_
        exact tX4_payers_43 E d rr b0 o6 x1 x2 x3 x4 x5 x7 x8 (1 : Int32) I hb0 ho6 _ hf hK
theorem lX4_payers_6 (E : EV) (d : Nat) (rr : Option Value × Mem) (b0 : Nat) (o6 : Nat) (x1 : Int32) (x2 : Int32) (x3 : Int32) (x4 : Int32) (x5 : Int32) (I : Mem) (hb0 : isH b0) (ho6 : isL o6) (z : Int32) (hK : (fun (z : Int32) => (some (.int z), I) = rr) z) : ∀ (n : Nat) (q : (Int32 × Int32)), iter (sX4_payers_6 b0 o6 x1 x2 x3 x4 x5 I) n q = some z → G E (d + 2) kX4_payers 6 [some (.ref b0), some (.int x1), some (.int x2), some (.int x3), some (.int x4), some (.int x5), some (.ref o6), some (.int q.1), some (.int q.2), none] [] I rr := by
  intro n
  induction n with
  | zero => intro q h; cases h
  | succ n ih =>
    intro q h
    rcases iter_at h with ⟨q2, hs, h2⟩ | hs
    · exact wX4_payers_6 E d rr b0 o6 x1 x2 x3 x4 x5 I q.1 q.2 hb0 ho6 _ hs (ih q2 h2)
    · exact wX4_payers_6 E d rr b0 o6 x1 x2 x3 x4 x5 I q.1 q.2 hb0 ho6 _ hs hK
def fX4_payers (b0 : Nat) (x1 : Int32) (x2 : Int32) (x3 : Int32) (x4 : Int32) (x5 : Int32) (o6 : Nat) (I : Mem) : Option Int32 :=
  iter (sX4_payers_6 b0 o6 x1 x2 x3 x4 x5 I) FU ((0 : Int32), (0 : Int32))
set_option maxRecDepth 20000 in
theorem gX4_payers (E : EV) (d : Nat) (b0 : Nat) (x1 : Int32) (x2 : Int32) (x3 : Int32) (x4 : Int32) (x5 : Int32) (o6 : Nat) (I : Mem) (hb0 : isH b0) (ho6 : isL o6) {v : Int32} (hf : fX4_payers b0 x1 x2 x3 x4 x5 o6 I = some v) : Gm E (d + 2) kX4_payers [.ref b0, .int x1, .int x2, .int x3, .int x4, .int x5, .ref o6] I (some (.int v), I) := by
  refine (fun (y : Int32) (hf : fX4_payers b0 x1 x2 x3 x4 x5 o6 I = some y) => (?_ : Gm E (d + 2) kX4_payers [.ref b0, .int x1, .int x2, .int x3, .int x4, .int x5, .ref o6] I (some (.int y), I))) v hf
  refine Gm.of (by decide) rfl (Nat.le_of_ble_eq_true rfl) ?_
  generalize hrr : ((some (.int y), I) : Option Value × Mem) = rr
  show G E (d + 2) kX4_payers 0 [some (.ref b0), some (.int x1), some (.int x2), some (.int x3), some (.int x4), some (.int x5), some (.ref o6), none, none, none] [] I rr
  have hK : (fun (z : Int32) => (some (.int z), I) = rr) y := hrr
  clear hrr
  unfold fX4_payers at hf
  refine G.iconst (v := 0) dX4_payers_0 (by decide) ?_
  refine G.istore (L' := [some (.ref b0), some (.int x1), some (.int x2), some (.int x3), some (.int x4), some (.int x5), some (.ref o6), some (.int (0 : Int32)), none, none]) dX4_payers_1 (Nat.le_of_ble_eq_true rfl) (Nat.le_of_ble_eq_true rfl) rfl rfl ?_
  refine G.iconst (v := 0) dX4_payers_3 (by decide) ?_
  refine G.istore (L' := [some (.ref b0), some (.int x1), some (.int x2), some (.int x3), some (.int x4), some (.int x5), some (.ref o6), some (.int (0 : Int32)), some (.int (0 : Int32)), none]) dX4_payers_4 (Nat.le_of_ble_eq_true rfl) (Nat.le_of_ble_eq_true rfl) rfl rfl ?_
  exact lX4_payers_6 E d rr b0 o6 x1 x2 x3 x4 x5 I hb0 ho6 _ hK FU _ hf
theorem dX4_empty_0 : decode cX4_empty 0 = .ok (.aload_n 0, 1) := by decide +kernel
theorem dX4_empty_1 : decode cX4_empty 1 = .ok (.iload_n 1, 1) := by decide +kernel
theorem dX4_empty_2 : decode cX4_empty 2 = .ok (.putfield 9, 3) := by decide +kernel
theorem dX4_empty_5 : decode cX4_empty 5 = .ok (.aload_n 0, 1) := by decide +kernel
theorem dX4_empty_6 : decode cX4_empty 6 = .ok (.iconst 0, 1) := by decide +kernel
theorem dX4_empty_7 : decode cX4_empty 7 = .ok (.putfield 43, 3) := by decide +kernel
theorem dX4_empty_10 : decode cX4_empty 10 = .ok (.aload_n 0, 1) := by decide +kernel
theorem dX4_empty_11 : decode cX4_empty 11 = .ok (.iconst 0, 1) := by decide +kernel
theorem dX4_empty_12 : decode cX4_empty 12 = .ok (.putfield 46, 3) := by decide +kernel
theorem dX4_empty_15 : decode cX4_empty 15 = .ok (.aload_n 0, 1) := by decide +kernel
theorem dX4_empty_16 : decode cX4_empty 16 = .ok (.iconst 0, 1) := by decide +kernel
theorem dX4_empty_17 : decode cX4_empty 17 = .ok (.putfield 49, 3) := by decide +kernel
theorem dX4_empty_20 : decode cX4_empty 20 = .ok (.aload_n 0, 1) := by decide +kernel
theorem dX4_empty_21 : decode cX4_empty 21 = .ok (.iconst 0, 1) := by decide +kernel
theorem dX4_empty_22 : decode cX4_empty 22 = .ok (.putfield 52, 3) := by decide +kernel
theorem dX4_empty_25 : decode cX4_empty 25 = .ok (.aload_n 0, 1) := by decide +kernel
theorem dX4_empty_26 : decode cX4_empty 26 = .ok (.iconst 0, 1) := by decide +kernel
theorem dX4_empty_27 : decode cX4_empty 27 = .ok (.putfield 55, 3) := by decide +kernel
theorem dX4_empty_30 : decode cX4_empty 30 = .ok (.aload_n 0, 1) := by decide +kernel
theorem dX4_empty_31 : decode cX4_empty 31 = .ok (.iconst 0, 1) := by decide +kernel
theorem dX4_empty_32 : decode cX4_empty 32 = .ok (.putfield 58, 3) := by decide +kernel
theorem dX4_empty_35 : decode cX4_empty 35 = .ok (.aload_n 0, 1) := by decide +kernel
theorem dX4_empty_36 : decode cX4_empty 36 = .ok (.iconst 0, 1) := by decide +kernel
theorem dX4_empty_37 : decode cX4_empty 37 = .ok (.putfield 61, 3) := by decide +kernel
theorem dX4_empty_40 : decode cX4_empty 40 = .ok (.aload_n 0, 1) := by decide +kernel
theorem dX4_empty_41 : decode cX4_empty 41 = .ok (.getfield 15, 3) := by decide +kernel
theorem dX4_empty_44 : decode cX4_empty 44 = .ok (.iconst 0, 1) := by decide +kernel
theorem dX4_empty_45 : decode cX4_empty 45 = .ok (.invokestatic 37, 3) := by decide +kernel
theorem dX4_empty_48 : decode cX4_empty 48 = .ok (.aload_n 0, 1) := by decide +kernel
theorem dX4_empty_49 : decode cX4_empty 49 = .ok (.getfield 19, 3) := by decide +kernel
theorem dX4_empty_52 : decode cX4_empty 52 = .ok (.iconst 0, 1) := by decide +kernel
theorem dX4_empty_53 : decode cX4_empty 53 = .ok (.invokestatic 37, 3) := by decide +kernel
theorem dX4_empty_56 : decode cX4_empty 56 = .ok (.aload_n 0, 1) := by decide +kernel
theorem dX4_empty_57 : decode cX4_empty 57 = .ok (.getfield 22, 3) := by decide +kernel
theorem dX4_empty_60 : decode cX4_empty 60 = .ok (.iconst 0, 1) := by decide +kernel
theorem dX4_empty_61 : decode cX4_empty 61 = .ok (.invokestatic 37, 3) := by decide +kernel
theorem dX4_empty_64 : decode cX4_empty 64 = .ok (.aload_n 0, 1) := by decide +kernel
theorem dX4_empty_65 : decode cX4_empty 65 = .ok (.getfield 25, 3) := by decide +kernel
theorem dX4_empty_68 : decode cX4_empty 68 = .ok (.iconst 0, 1) := by decide +kernel
theorem dX4_empty_69 : decode cX4_empty 69 = .ok (.invokestatic 37, 3) := by decide +kernel
theorem dX4_empty_72 : decode cX4_empty 72 = .ok (.aload_n 0, 1) := by decide +kernel
theorem dX4_empty_73 : decode cX4_empty 73 = .ok (.getfield 28, 3) := by decide +kernel
theorem dX4_empty_76 : decode cX4_empty 76 = .ok (.iconst (-1), 1) := by decide +kernel
theorem dX4_empty_77 : decode cX4_empty 77 = .ok (.invokestatic 37, 3) := by decide +kernel
theorem dX4_empty_80 : decode cX4_empty 80 = .ok (.return_, 1) := by decide +kernel
def fX4_empty (b0 : Nat) (x1 : Int32) (I : Mem) : Option Mem :=
  letb (up2 I b0 0 x1) fun I_1 =>
  letb (up2 I_1 b0 1 (0 : Int32)) fun I_2 =>
  letb (up2 I_2 b0 2 (0 : Int32)) fun I_3 =>
  letb (up2 I_3 b0 3 (0 : Int32)) fun I_4 =>
  letb (up2 I_4 b0 4 (0 : Int32)) fun I_5 =>
  letb (up2 I_5 b0 5 (0 : Int32)) fun I_6 =>
  letb (up2 I_6 b0 6 (0 : Int32)) fun I_7 =>
  letb (up2 I_7 b0 7 (0 : Int32)) fun I_8 =>
  bnd (fJ7_fill_53178 (b0 + 1) (0 : Int32) I_8) fun I_10 =>
  bnd (fJ7_fill_53178 (b0 + 2) (0 : Int32) I_10) fun I_12 =>
  bnd (fJ7_fill_53178 (b0 + 3) (0 : Int32) I_12) fun I_14 =>
  bnd (fJ7_fill_53178 (b0 + 4) (0 : Int32) I_14) fun I_16 =>
  bnd (fJ7_fill_53178 (b0 + 5) (-1 : Int32) I_16) fun I_18 =>
  some I_18
set_option maxRecDepth 20000 in
theorem gX4_empty (E : EV) (d : Nat) (b0 : Nat) (x1 : Int32) (I : Mem) (hb0 : isH b0) {J : Mem} (hf : fX4_empty b0 x1 I = some J) : Gm E (d + 1) kX4_empty [.ref b0, .int x1] I (none, J) := by
  refine (fun (y : Mem) (hf : fX4_empty b0 x1 I = some y) => (?_ : Gm E (d + 1) kX4_empty [.ref b0, .int x1] I (none, y))) J hf
  refine Gm.of (by decide) rfl (Nat.le_of_ble_eq_true rfl) ?_
  generalize hrr : ((none, y) : Option Value × Mem) = rr
  show G E (d + 1) kX4_empty 0 [some (.ref b0), some (.int x1)] [] I rr
  have hK : (fun (z : Mem) => ((none : Option Value), z) = rr) y := hrr
  clear hrr
  unfold fX4_empty at hf
  refine G.aload_n dX4_empty_0 rfl rfl ?_
  refine G.iload_n dX4_empty_1 rfl rfl ?_
  refine G.putI dX4_empty_2 flX4_9 (isH_lt hb0) (isH_lk hb0) ?_
  refine G.nmI (fun I_1 e_I_1 => ?_)
  have hf := letb_at hf e_I_1
  clear e_I_1
  refine G.aload_n dX4_empty_5 rfl rfl ?_
  refine G.iconst (v := 0) dX4_empty_6 (by decide) ?_
  refine G.putI dX4_empty_7 flX4_43 (isH_lt hb0) (isH_lk hb0) ?_
  refine G.nmI (fun I_2 e_I_2 => ?_)
  have hf := letb_at hf e_I_2
  clear e_I_2
  refine G.aload_n dX4_empty_10 rfl rfl ?_
  refine G.iconst (v := 0) dX4_empty_11 (by decide) ?_
  refine G.putI dX4_empty_12 flX4_46 (isH_lt hb0) (isH_lk hb0) ?_
  refine G.nmI (fun I_3 e_I_3 => ?_)
  have hf := letb_at hf e_I_3
  clear e_I_3
  refine G.aload_n dX4_empty_15 rfl rfl ?_
  refine G.iconst (v := 0) dX4_empty_16 (by decide) ?_
  refine G.putI dX4_empty_17 flX4_49 (isH_lt hb0) (isH_lk hb0) ?_
  refine G.nmI (fun I_4 e_I_4 => ?_)
  have hf := letb_at hf e_I_4
  clear e_I_4
  refine G.aload_n dX4_empty_20 rfl rfl ?_
  refine G.iconst (v := 0) dX4_empty_21 (by decide) ?_
  refine G.putI dX4_empty_22 flX4_52 (isH_lt hb0) (isH_lk hb0) ?_
  refine G.nmI (fun I_5 e_I_5 => ?_)
  have hf := letb_at hf e_I_5
  clear e_I_5
  refine G.aload_n dX4_empty_25 rfl rfl ?_
  refine G.iconst (v := 0) dX4_empty_26 (by decide) ?_
  refine G.putI dX4_empty_27 flX4_55 (isH_lt hb0) (isH_lk hb0) ?_
  refine G.nmI (fun I_6 e_I_6 => ?_)
  have hf := letb_at hf e_I_6
  clear e_I_6
  refine G.aload_n dX4_empty_30 rfl rfl ?_
  refine G.iconst (v := 0) dX4_empty_31 (by decide) ?_
  refine G.putI dX4_empty_32 flX4_58 (isH_lt hb0) (isH_lk hb0) ?_
  refine G.nmI (fun I_7 e_I_7 => ?_)
  have hf := letb_at hf e_I_7
  clear e_I_7
  refine G.aload_n dX4_empty_35 rfl rfl ?_
  refine G.iconst (v := 0) dX4_empty_36 (by decide) ?_
  refine G.putI dX4_empty_37 flX4_61 (isH_lt hb0) (isH_lk hb0) ?_
  refine G.nmI (fun I_8 e_I_8 => ?_)
  have hf := letb_at hf e_I_8
  clear e_I_8
  refine G.aload_n dX4_empty_40 rfl rfl ?_
  refine G.getR (q := (b0 + 1)) dX4_empty_41 flX4_15 (isH_lt hb0) (isH_lk hb0) (isH_r1 hb0) ?_
  refine G.iconst (v := 0) dX4_empty_44 (by decide) ?_
  obtain ⟨I_10, hc_9, hf⟩ := bnd_at hf
  refine G.callSv (av := [.ref (b0 + 1), .int (0 : Int32)]) (rest := []) dX4_empty_45 msX4_37 (gJ7_fill_53178 E d (b0 + 1) (0 : Int32) I_8 (isH_a1 hb0) hc_9) rfl rfl (Nat.le_of_ble_eq_true rfl) ?_
  refine G.aload_n dX4_empty_48 rfl rfl ?_
  refine G.getR (q := (b0 + 2)) dX4_empty_49 flX4_19 (isH_lt hb0) (isH_lk hb0) (isH_r2 hb0) ?_
  refine G.iconst (v := 0) dX4_empty_52 (by decide) ?_
  obtain ⟨I_12, hc_11, hf⟩ := bnd_at hf
  refine G.callSv (av := [.ref (b0 + 2), .int (0 : Int32)]) (rest := []) dX4_empty_53 msX4_37 (gJ7_fill_53178 E d (b0 + 2) (0 : Int32) I_10 (isH_a2 hb0) hc_11) rfl rfl (Nat.le_of_ble_eq_true rfl) ?_
  refine G.aload_n dX4_empty_56 rfl rfl ?_
  refine G.getR (q := (b0 + 3)) dX4_empty_57 flX4_22 (isH_lt hb0) (isH_lk hb0) (isH_r3 hb0) ?_
  refine G.iconst (v := 0) dX4_empty_60 (by decide) ?_
  obtain ⟨I_14, hc_13, hf⟩ := bnd_at hf
  refine G.callSv (av := [.ref (b0 + 3), .int (0 : Int32)]) (rest := []) dX4_empty_61 msX4_37 (gJ7_fill_53178 E d (b0 + 3) (0 : Int32) I_12 (isH_a3 hb0) hc_13) rfl rfl (Nat.le_of_ble_eq_true rfl) ?_
  refine G.aload_n dX4_empty_64 rfl rfl ?_
  refine G.getR (q := (b0 + 4)) dX4_empty_65 flX4_25 (isH_lt hb0) (isH_lk hb0) (isH_r4 hb0) ?_
  refine G.iconst (v := 0) dX4_empty_68 (by decide) ?_
  obtain ⟨I_16, hc_15, hf⟩ := bnd_at hf
  refine G.callSv (av := [.ref (b0 + 4), .int (0 : Int32)]) (rest := []) dX4_empty_69 msX4_37 (gJ7_fill_53178 E d (b0 + 4) (0 : Int32) I_14 (isH_a4 hb0) hc_15) rfl rfl (Nat.le_of_ble_eq_true rfl) ?_
  refine G.aload_n dX4_empty_72 rfl rfl ?_
  refine G.getR (q := (b0 + 5)) dX4_empty_73 flX4_28 (isH_lt hb0) (isH_lk hb0) (isH_r5 hb0) ?_
  refine G.iconst (v := -1) dX4_empty_76 (by decide) ?_
  obtain ⟨I_18, hc_17, hf⟩ := bnd_at hf
  refine G.callSv (av := [.ref (b0 + 5), .int (-1 : Int32)]) (rest := []) dX4_empty_77 msX4_37 (gJ7_fill_53178 E d (b0 + 5) (-1 : Int32) I_16 (isH_a5 hb0) hc_17) rfl rfl (Nat.le_of_ble_eq_true rfl) ?_
  have hf := Option.some.inj hf
  subst hf
  exact G.vret' dX4_empty_80 rfl hK
theorem dX4_copy_0 : decode cX4_copy 0 = .ok (.aload_n 0, 1) := by decide +kernel
theorem dX4_copy_1 : decode cX4_copy 1 = .ok (.aload_n 1, 1) := by decide +kernel
theorem dX4_copy_2 : decode cX4_copy 2 = .ok (.getfield 9, 3) := by decide +kernel
theorem dX4_copy_5 : decode cX4_copy 5 = .ok (.putfield 9, 3) := by decide +kernel
theorem dX4_copy_8 : decode cX4_copy 8 = .ok (.aload_n 0, 1) := by decide +kernel
theorem dX4_copy_9 : decode cX4_copy 9 = .ok (.aload_n 1, 1) := by decide +kernel
theorem dX4_copy_10 : decode cX4_copy 10 = .ok (.getfield 43, 3) := by decide +kernel
theorem dX4_copy_13 : decode cX4_copy 13 = .ok (.putfield 43, 3) := by decide +kernel
theorem dX4_copy_16 : decode cX4_copy 16 = .ok (.aload_n 0, 1) := by decide +kernel
theorem dX4_copy_17 : decode cX4_copy 17 = .ok (.aload_n 1, 1) := by decide +kernel
theorem dX4_copy_18 : decode cX4_copy 18 = .ok (.getfield 46, 3) := by decide +kernel
theorem dX4_copy_21 : decode cX4_copy 21 = .ok (.putfield 46, 3) := by decide +kernel
theorem dX4_copy_24 : decode cX4_copy 24 = .ok (.aload_n 0, 1) := by decide +kernel
theorem dX4_copy_25 : decode cX4_copy 25 = .ok (.aload_n 1, 1) := by decide +kernel
theorem dX4_copy_26 : decode cX4_copy 26 = .ok (.getfield 49, 3) := by decide +kernel
theorem dX4_copy_29 : decode cX4_copy 29 = .ok (.putfield 49, 3) := by decide +kernel
theorem dX4_copy_32 : decode cX4_copy 32 = .ok (.aload_n 0, 1) := by decide +kernel
theorem dX4_copy_33 : decode cX4_copy 33 = .ok (.aload_n 1, 1) := by decide +kernel
theorem dX4_copy_34 : decode cX4_copy 34 = .ok (.getfield 52, 3) := by decide +kernel
theorem dX4_copy_37 : decode cX4_copy 37 = .ok (.putfield 52, 3) := by decide +kernel
theorem dX4_copy_40 : decode cX4_copy 40 = .ok (.aload_n 0, 1) := by decide +kernel
theorem dX4_copy_41 : decode cX4_copy 41 = .ok (.aload_n 1, 1) := by decide +kernel
theorem dX4_copy_42 : decode cX4_copy 42 = .ok (.getfield 55, 3) := by decide +kernel
theorem dX4_copy_45 : decode cX4_copy 45 = .ok (.putfield 55, 3) := by decide +kernel
theorem dX4_copy_48 : decode cX4_copy 48 = .ok (.aload_n 0, 1) := by decide +kernel
theorem dX4_copy_49 : decode cX4_copy 49 = .ok (.aload_n 1, 1) := by decide +kernel
theorem dX4_copy_50 : decode cX4_copy 50 = .ok (.getfield 58, 3) := by decide +kernel
theorem dX4_copy_53 : decode cX4_copy 53 = .ok (.putfield 58, 3) := by decide +kernel
theorem dX4_copy_56 : decode cX4_copy 56 = .ok (.aload_n 0, 1) := by decide +kernel
theorem dX4_copy_57 : decode cX4_copy 57 = .ok (.aload_n 1, 1) := by decide +kernel
theorem dX4_copy_58 : decode cX4_copy 58 = .ok (.getfield 61, 3) := by decide +kernel
theorem dX4_copy_61 : decode cX4_copy 61 = .ok (.putfield 61, 3) := by decide +kernel
theorem dX4_copy_64 : decode cX4_copy 64 = .ok (.aload_n 1, 1) := by decide +kernel
theorem dX4_copy_65 : decode cX4_copy 65 = .ok (.getfield 15, 3) := by decide +kernel
theorem dX4_copy_68 : decode cX4_copy 68 = .ok (.iconst 0, 1) := by decide +kernel
theorem dX4_copy_69 : decode cX4_copy 69 = .ok (.aload_n 0, 1) := by decide +kernel
theorem dX4_copy_70 : decode cX4_copy 70 = .ok (.getfield 15, 3) := by decide +kernel
theorem dX4_copy_73 : decode cX4_copy 73 = .ok (.iconst 0, 1) := by decide +kernel
theorem dX4_copy_74 : decode cX4_copy 74 = .ok (.iconst 5, 1) := by decide +kernel
theorem dX4_copy_75 : decode cX4_copy 75 = .ok (.invokestatic 64, 3) := by decide +kernel
theorem dX4_copy_78 : decode cX4_copy 78 = .ok (.aload_n 1, 1) := by decide +kernel
theorem dX4_copy_79 : decode cX4_copy 79 = .ok (.getfield 19, 3) := by decide +kernel
theorem dX4_copy_82 : decode cX4_copy 82 = .ok (.iconst 0, 1) := by decide +kernel
theorem dX4_copy_83 : decode cX4_copy 83 = .ok (.aload_n 0, 1) := by decide +kernel
theorem dX4_copy_84 : decode cX4_copy 84 = .ok (.getfield 19, 3) := by decide +kernel
theorem dX4_copy_87 : decode cX4_copy 87 = .ok (.iconst 0, 1) := by decide +kernel
theorem dX4_copy_88 : decode cX4_copy 88 = .ok (.iconst 5, 1) := by decide +kernel
theorem dX4_copy_89 : decode cX4_copy 89 = .ok (.invokestatic 64, 3) := by decide +kernel
theorem dX4_copy_92 : decode cX4_copy 92 = .ok (.aload_n 1, 1) := by decide +kernel
theorem dX4_copy_93 : decode cX4_copy 93 = .ok (.getfield 22, 3) := by decide +kernel
theorem dX4_copy_96 : decode cX4_copy 96 = .ok (.iconst 0, 1) := by decide +kernel
theorem dX4_copy_97 : decode cX4_copy 97 = .ok (.aload_n 0, 1) := by decide +kernel
theorem dX4_copy_98 : decode cX4_copy 98 = .ok (.getfield 22, 3) := by decide +kernel
theorem dX4_copy_101 : decode cX4_copy 101 = .ok (.iconst 0, 1) := by decide +kernel
theorem dX4_copy_102 : decode cX4_copy 102 = .ok (.iconst 5, 1) := by decide +kernel
theorem dX4_copy_103 : decode cX4_copy 103 = .ok (.invokestatic 64, 3) := by decide +kernel
theorem dX4_copy_106 : decode cX4_copy 106 = .ok (.aload_n 1, 1) := by decide +kernel
theorem dX4_copy_107 : decode cX4_copy 107 = .ok (.getfield 25, 3) := by decide +kernel
theorem dX4_copy_110 : decode cX4_copy 110 = .ok (.iconst 0, 1) := by decide +kernel
theorem dX4_copy_111 : decode cX4_copy 111 = .ok (.aload_n 0, 1) := by decide +kernel
theorem dX4_copy_112 : decode cX4_copy 112 = .ok (.getfield 25, 3) := by decide +kernel
theorem dX4_copy_115 : decode cX4_copy 115 = .ok (.iconst 0, 1) := by decide +kernel
theorem dX4_copy_116 : decode cX4_copy 116 = .ok (.iconst 4, 1) := by decide +kernel
theorem dX4_copy_117 : decode cX4_copy 117 = .ok (.invokestatic 64, 3) := by decide +kernel
theorem dX4_copy_120 : decode cX4_copy 120 = .ok (.aload_n 1, 1) := by decide +kernel
theorem dX4_copy_121 : decode cX4_copy 121 = .ok (.getfield 28, 3) := by decide +kernel
theorem dX4_copy_124 : decode cX4_copy 124 = .ok (.iconst 0, 1) := by decide +kernel
theorem dX4_copy_125 : decode cX4_copy 125 = .ok (.aload_n 0, 1) := by decide +kernel
theorem dX4_copy_126 : decode cX4_copy 126 = .ok (.getfield 28, 3) := by decide +kernel
theorem dX4_copy_129 : decode cX4_copy 129 = .ok (.iconst 0, 1) := by decide +kernel
theorem dX4_copy_130 : decode cX4_copy 130 = .ok (.bipush 16, 2) := by decide +kernel
theorem dX4_copy_132 : decode cX4_copy 132 = .ok (.invokestatic 64, 3) := by decide +kernel
theorem dX4_copy_135 : decode cX4_copy 135 = .ok (.aload_n 1, 1) := by decide +kernel
theorem dX4_copy_136 : decode cX4_copy 136 = .ok (.getfield 31, 3) := by decide +kernel
theorem dX4_copy_139 : decode cX4_copy 139 = .ok (.iconst 0, 1) := by decide +kernel
theorem dX4_copy_140 : decode cX4_copy 140 = .ok (.aload_n 0, 1) := by decide +kernel
theorem dX4_copy_141 : decode cX4_copy 141 = .ok (.getfield 31, 3) := by decide +kernel
theorem dX4_copy_144 : decode cX4_copy 144 = .ok (.iconst 0, 1) := by decide +kernel
theorem dX4_copy_145 : decode cX4_copy 145 = .ok (.bipush 8, 2) := by decide +kernel
theorem dX4_copy_147 : decode cX4_copy 147 = .ok (.invokestatic 64, 3) := by decide +kernel
theorem dX4_copy_150 : decode cX4_copy 150 = .ok (.aload_n 1, 1) := by decide +kernel
theorem dX4_copy_151 : decode cX4_copy 151 = .ok (.getfield 34, 3) := by decide +kernel
theorem dX4_copy_154 : decode cX4_copy 154 = .ok (.iconst 0, 1) := by decide +kernel
theorem dX4_copy_155 : decode cX4_copy 155 = .ok (.aload_n 0, 1) := by decide +kernel
theorem dX4_copy_156 : decode cX4_copy 156 = .ok (.getfield 34, 3) := by decide +kernel
theorem dX4_copy_159 : decode cX4_copy 159 = .ok (.iconst 0, 1) := by decide +kernel
theorem dX4_copy_160 : decode cX4_copy 160 = .ok (.bipush 80, 2) := by decide +kernel
theorem dX4_copy_162 : decode cX4_copy 162 = .ok (.invokestatic 64, 3) := by decide +kernel
theorem dX4_copy_165 : decode cX4_copy 165 = .ok (.return_, 1) := by decide +kernel
def fX4_copy (b0 : Nat) (b1 : Nat) (I : Mem) : Option Mem :=
  letb (up2 I b0 0 (I b1 0)) fun I_1 =>
  letb (up2 I_1 b0 1 (I_1 b1 1)) fun I_2 =>
  letb (up2 I_2 b0 2 (I_2 b1 2)) fun I_3 =>
  letb (up2 I_3 b0 3 (I_3 b1 3)) fun I_4 =>
  letb (up2 I_4 b0 4 (I_4 b1 4)) fun I_5 =>
  letb (up2 I_5 b0 5 (I_5 b1 5)) fun I_6 =>
  letb (up2 I_6 b0 6 (I_6 b1 6)) fun I_7 =>
  letb (up2 I_7 b0 7 (I_7 b1 7)) fun I_8 =>
  chk (cpok (0 : Int32) (0 : Int32) (5 : Int32) 5 5) <|
  letb (upA I_8 (b0 + 1) (cpA (I_8 (b1 + 1)) (I_8 (b0 + 1)) (ix (0 : Int32)) (ix (0 : Int32)) (ix (5 : Int32)))) fun I_10 =>
  chk (cpok (0 : Int32) (0 : Int32) (5 : Int32) 5 5) <|
  letb (upA I_10 (b0 + 2) (cpA (I_10 (b1 + 2)) (I_10 (b0 + 2)) (ix (0 : Int32)) (ix (0 : Int32)) (ix (5 : Int32)))) fun I_12 =>
  chk (cpok (0 : Int32) (0 : Int32) (5 : Int32) 5 5) <|
  letb (upA I_12 (b0 + 3) (cpA (I_12 (b1 + 3)) (I_12 (b0 + 3)) (ix (0 : Int32)) (ix (0 : Int32)) (ix (5 : Int32)))) fun I_14 =>
  chk (cpok (0 : Int32) (0 : Int32) (4 : Int32) 4 4) <|
  letb (upA I_14 (b0 + 4) (cpA (I_14 (b1 + 4)) (I_14 (b0 + 4)) (ix (0 : Int32)) (ix (0 : Int32)) (ix (4 : Int32)))) fun I_16 =>
  chk (cpok (0 : Int32) (0 : Int32) (16 : Int32) 16 16) <|
  letb (upA I_16 (b0 + 5) (cpA (I_16 (b1 + 5)) (I_16 (b0 + 5)) (ix (0 : Int32)) (ix (0 : Int32)) (ix (16 : Int32)))) fun I_18 =>
  chk (cpok (0 : Int32) (0 : Int32) (8 : Int32) 8 8) <|
  letb (upA I_18 (b0 + 6) (cpA (I_18 (b1 + 6)) (I_18 (b0 + 6)) (ix (0 : Int32)) (ix (0 : Int32)) (ix (8 : Int32)))) fun I_20 =>
  chk (cpok (0 : Int32) (0 : Int32) (80 : Int32) 80 80) <|
  letb (upA I_20 (b0 + 7) (cpA (I_20 (b1 + 7)) (I_20 (b0 + 7)) (ix (0 : Int32)) (ix (0 : Int32)) (ix (80 : Int32)))) fun I_22 =>
  some I_22
set_option maxRecDepth 20000 in
theorem gX4_copy (E : EV) (d : Nat) (b0 : Nat) (b1 : Nat) (I : Mem) (hb0 : isH b0) (hb1 : isH b1) {J : Mem} (hf : fX4_copy b0 b1 I = some J) : Gm E (d + 1) kX4_copy [.ref b0, .ref b1] I (none, J) := by
  refine (fun (y : Mem) (hf : fX4_copy b0 b1 I = some y) => (?_ : Gm E (d + 1) kX4_copy [.ref b0, .ref b1] I (none, y))) J hf
  refine Gm.of (by decide) rfl (Nat.le_of_ble_eq_true rfl) ?_
  generalize hrr : ((none, y) : Option Value × Mem) = rr
  show G E (d + 1) kX4_copy 0 [some (.ref b0), some (.ref b1)] [] I rr
  have hK : (fun (z : Mem) => ((none : Option Value), z) = rr) y := hrr
  clear hrr
  unfold fX4_copy at hf
  refine G.aload_n dX4_copy_0 rfl rfl ?_
  refine G.aload_n dX4_copy_1 rfl rfl ?_
  refine G.getI dX4_copy_2 flX4_9 (isH_lt hb1) (isH_lk hb1) ?_
  refine G.putI dX4_copy_5 flX4_9 (isH_lt hb0) (isH_lk hb0) ?_
  refine G.nmI (fun I_1 e_I_1 => ?_)
  have hf := letb_at hf e_I_1
  clear e_I_1
  refine G.aload_n dX4_copy_8 rfl rfl ?_
  refine G.aload_n dX4_copy_9 rfl rfl ?_
  refine G.getI dX4_copy_10 flX4_43 (isH_lt hb1) (isH_lk hb1) ?_
  refine G.putI dX4_copy_13 flX4_43 (isH_lt hb0) (isH_lk hb0) ?_
  refine G.nmI (fun I_2 e_I_2 => ?_)
  have hf := letb_at hf e_I_2
  clear e_I_2
  refine G.aload_n dX4_copy_16 rfl rfl ?_
  refine G.aload_n dX4_copy_17 rfl rfl ?_
  refine G.getI dX4_copy_18 flX4_46 (isH_lt hb1) (isH_lk hb1) ?_
  refine G.putI dX4_copy_21 flX4_46 (isH_lt hb0) (isH_lk hb0) ?_
  refine G.nmI (fun I_3 e_I_3 => ?_)
  have hf := letb_at hf e_I_3
  clear e_I_3
  refine G.aload_n dX4_copy_24 rfl rfl ?_
  refine G.aload_n dX4_copy_25 rfl rfl ?_
  refine G.getI dX4_copy_26 flX4_49 (isH_lt hb1) (isH_lk hb1) ?_
  refine G.putI dX4_copy_29 flX4_49 (isH_lt hb0) (isH_lk hb0) ?_
  refine G.nmI (fun I_4 e_I_4 => ?_)
  have hf := letb_at hf e_I_4
  clear e_I_4
  refine G.aload_n dX4_copy_32 rfl rfl ?_
  refine G.aload_n dX4_copy_33 rfl rfl ?_
  refine G.getI dX4_copy_34 flX4_52 (isH_lt hb1) (isH_lk hb1) ?_
  refine G.putI dX4_copy_37 flX4_52 (isH_lt hb0) (isH_lk hb0) ?_
  refine G.nmI (fun I_5 e_I_5 => ?_)
  have hf := letb_at hf e_I_5
  clear e_I_5
  refine G.aload_n dX4_copy_40 rfl rfl ?_
  refine G.aload_n dX4_copy_41 rfl rfl ?_
  refine G.getI dX4_copy_42 flX4_55 (isH_lt hb1) (isH_lk hb1) ?_
  refine G.putI dX4_copy_45 flX4_55 (isH_lt hb0) (isH_lk hb0) ?_
  refine G.nmI (fun I_6 e_I_6 => ?_)
  have hf := letb_at hf e_I_6
  clear e_I_6
  refine G.aload_n dX4_copy_48 rfl rfl ?_
  refine G.aload_n dX4_copy_49 rfl rfl ?_
  refine G.getI dX4_copy_50 flX4_58 (isH_lt hb1) (isH_lk hb1) ?_
  refine G.putI dX4_copy_53 flX4_58 (isH_lt hb0) (isH_lk hb0) ?_
  refine G.nmI (fun I_7 e_I_7 => ?_)
  have hf := letb_at hf e_I_7
  clear e_I_7
  refine G.aload_n dX4_copy_56 rfl rfl ?_
  refine G.aload_n dX4_copy_57 rfl rfl ?_
  refine G.getI dX4_copy_58 flX4_61 (isH_lt hb1) (isH_lk hb1) ?_
  refine G.putI dX4_copy_61 flX4_61 (isH_lt hb0) (isH_lk hb0) ?_
  refine G.nmI (fun I_8 e_I_8 => ?_)
  have hf := letb_at hf e_I_8
  clear e_I_8
  refine G.aload_n dX4_copy_64 rfl rfl ?_
  refine G.getR (q := (b1 + 1)) dX4_copy_65 flX4_15 (isH_lt hb1) (isH_lk hb1) (isH_r1 hb1) ?_
  refine G.iconst (v := 0) dX4_copy_68 (by decide) ?_
  refine G.aload_n dX4_copy_69 rfl rfl ?_
  refine G.getR (q := (b0 + 1)) dX4_copy_70 flX4_15 (isH_lt hb0) (isH_lk hb0) (isH_r1 hb0) ?_
  refine G.iconst (v := 0) dX4_copy_73 (by decide) ?_
  refine G.iconst (v := 5) dX4_copy_74 (by decide) ?_
  obtain ⟨hi_9, hf⟩ := chk_at hf
  refine G.acopy' (rest := []) dX4_copy_75 maX4_64 (isH_l1 hb1) (isH_k1 hb1) (isH_n1 hb1) (isH_l1 hb0) (isH_k1 hb0) (isH_n1 hb0) hi_9 (Nat.le_of_ble_eq_true rfl) ?_
  refine G.nmI (fun I_10 e_I_10 => ?_)
  have hf := letb_at hf e_I_10
  clear e_I_10
  refine G.aload_n dX4_copy_78 rfl rfl ?_
  refine G.getR (q := (b1 + 2)) dX4_copy_79 flX4_19 (isH_lt hb1) (isH_lk hb1) (isH_r2 hb1) ?_
  refine G.iconst (v := 0) dX4_copy_82 (by decide) ?_
  refine G.aload_n dX4_copy_83 rfl rfl ?_
  refine G.getR (q := (b0 + 2)) dX4_copy_84 flX4_19 (isH_lt hb0) (isH_lk hb0) (isH_r2 hb0) ?_
  refine G.iconst (v := 0) dX4_copy_87 (by decide) ?_
  refine G.iconst (v := 5) dX4_copy_88 (by decide) ?_
  obtain ⟨hi_11, hf⟩ := chk_at hf
  refine G.acopy' (rest := []) dX4_copy_89 maX4_64 (isH_l2 hb1) (isH_k2 hb1) (isH_n2 hb1) (isH_l2 hb0) (isH_k2 hb0) (isH_n2 hb0) hi_11 (Nat.le_of_ble_eq_true rfl) ?_
  refine G.nmI (fun I_12 e_I_12 => ?_)
  have hf := letb_at hf e_I_12
  clear e_I_12
  refine G.aload_n dX4_copy_92 rfl rfl ?_
  refine G.getR (q := (b1 + 3)) dX4_copy_93 flX4_22 (isH_lt hb1) (isH_lk hb1) (isH_r3 hb1) ?_
  refine G.iconst (v := 0) dX4_copy_96 (by decide) ?_
  refine G.aload_n dX4_copy_97 rfl rfl ?_
  refine G.getR (q := (b0 + 3)) dX4_copy_98 flX4_22 (isH_lt hb0) (isH_lk hb0) (isH_r3 hb0) ?_
  refine G.iconst (v := 0) dX4_copy_101 (by decide) ?_
  refine G.iconst (v := 5) dX4_copy_102 (by decide) ?_
  obtain ⟨hi_13, hf⟩ := chk_at hf
  refine G.acopy' (rest := []) dX4_copy_103 maX4_64 (isH_l3 hb1) (isH_k3 hb1) (isH_n3 hb1) (isH_l3 hb0) (isH_k3 hb0) (isH_n3 hb0) hi_13 (Nat.le_of_ble_eq_true rfl) ?_
  refine G.nmI (fun I_14 e_I_14 => ?_)
  have hf := letb_at hf e_I_14
  clear e_I_14
  refine G.aload_n dX4_copy_106 rfl rfl ?_
  refine G.getR (q := (b1 + 4)) dX4_copy_107 flX4_25 (isH_lt hb1) (isH_lk hb1) (isH_r4 hb1) ?_
  refine G.iconst (v := 0) dX4_copy_110 (by decide) ?_
  refine G.aload_n dX4_copy_111 rfl rfl ?_
  refine G.getR (q := (b0 + 4)) dX4_copy_112 flX4_25 (isH_lt hb0) (isH_lk hb0) (isH_r4 hb0) ?_
  refine G.iconst (v := 0) dX4_copy_115 (by decide) ?_
  refine G.iconst (v := 4) dX4_copy_116 (by decide) ?_
  obtain ⟨hi_15, hf⟩ := chk_at hf
  refine G.acopy' (rest := []) dX4_copy_117 maX4_64 (isH_l4 hb1) (isH_k4 hb1) (isH_n4 hb1) (isH_l4 hb0) (isH_k4 hb0) (isH_n4 hb0) hi_15 (Nat.le_of_ble_eq_true rfl) ?_
  refine G.nmI (fun I_16 e_I_16 => ?_)
  have hf := letb_at hf e_I_16
  clear e_I_16
  refine G.aload_n dX4_copy_120 rfl rfl ?_
  refine G.getR (q := (b1 + 5)) dX4_copy_121 flX4_28 (isH_lt hb1) (isH_lk hb1) (isH_r5 hb1) ?_
  refine G.iconst (v := 0) dX4_copy_124 (by decide) ?_
  refine G.aload_n dX4_copy_125 rfl rfl ?_
  refine G.getR (q := (b0 + 5)) dX4_copy_126 flX4_28 (isH_lt hb0) (isH_lk hb0) (isH_r5 hb0) ?_
  refine G.iconst (v := 0) dX4_copy_129 (by decide) ?_
  refine G.bipush (v := 16) dX4_copy_130 (by decide) ?_
  obtain ⟨hi_17, hf⟩ := chk_at hf
  refine G.acopy' (rest := []) dX4_copy_132 maX4_64 (isH_l5 hb1) (isH_k5 hb1) (isH_n5 hb1) (isH_l5 hb0) (isH_k5 hb0) (isH_n5 hb0) hi_17 (Nat.le_of_ble_eq_true rfl) ?_
  refine G.nmI (fun I_18 e_I_18 => ?_)
  have hf := letb_at hf e_I_18
  clear e_I_18
  refine G.aload_n dX4_copy_135 rfl rfl ?_
  refine G.getR (q := (b1 + 6)) dX4_copy_136 flX4_31 (isH_lt hb1) (isH_lk hb1) (isH_r6 hb1) ?_
  refine G.iconst (v := 0) dX4_copy_139 (by decide) ?_
  refine G.aload_n dX4_copy_140 rfl rfl ?_
  refine G.getR (q := (b0 + 6)) dX4_copy_141 flX4_31 (isH_lt hb0) (isH_lk hb0) (isH_r6 hb0) ?_
  refine G.iconst (v := 0) dX4_copy_144 (by decide) ?_
  refine G.bipush (v := 8) dX4_copy_145 (by decide) ?_
  obtain ⟨hi_19, hf⟩ := chk_at hf
  refine G.acopy' (rest := []) dX4_copy_147 maX4_64 (isH_l6 hb1) (isH_k6 hb1) (isH_n6 hb1) (isH_l6 hb0) (isH_k6 hb0) (isH_n6 hb0) hi_19 (Nat.le_of_ble_eq_true rfl) ?_
  refine G.nmI (fun I_20 e_I_20 => ?_)
  have hf := letb_at hf e_I_20
  clear e_I_20
  refine G.aload_n dX4_copy_150 rfl rfl ?_
  refine G.getR (q := (b1 + 7)) dX4_copy_151 flX4_34 (isH_lt hb1) (isH_lk hb1) (isH_r7 hb1) ?_
  refine G.iconst (v := 0) dX4_copy_154 (by decide) ?_
  refine G.aload_n dX4_copy_155 rfl rfl ?_
  refine G.getR (q := (b0 + 7)) dX4_copy_156 flX4_34 (isH_lt hb0) (isH_lk hb0) (isH_r7 hb0) ?_
  refine G.iconst (v := 0) dX4_copy_159 (by decide) ?_
  refine G.bipush (v := 80) dX4_copy_160 (by decide) ?_
  obtain ⟨hi_21, hf⟩ := chk_at hf
  refine G.acopy' (rest := []) dX4_copy_162 maX4_64 (isH_l7 hb1) (isH_k7 hb1) (isH_n7 hb1) (isH_l7 hb0) (isH_k7 hb0) (isH_n7 hb0) hi_21 (Nat.le_of_ble_eq_true rfl) ?_
  refine G.nmI (fun I_22 e_I_22 => ?_)
  have hf := letb_at hf e_I_22
  clear e_I_22
  have hf := Option.some.inj hf
  subst hf
  exact G.vret' dX4_copy_165 rfl hK
theorem dX4_enter_0 : decode cX4_enter 0 = .ok (.aload_n 0, 1) := by decide +kernel
theorem dX4_enter_1 : decode cX4_enter 1 = .ok (.dup, 1) := by decide +kernel
theorem dX4_enter_2 : decode cX4_enter 2 = .ok (.getfield 49, 3) := by decide +kernel
theorem dX4_enter_5 : decode cX4_enter 5 = .ok (.iload_n 1, 1) := by decide +kernel
theorem dX4_enter_6 : decode cX4_enter 6 = .ok (.iconst 3, 1) := by decide +kernel
theorem dX4_enter_7 : decode cX4_enter 7 = .ok (.aload_n 0, 1) := by decide +kernel
theorem dX4_enter_8 : decode cX4_enter 8 = .ok (.getfield 46, 3) := by decide +kernel
theorem dX4_enter_11 : decode cX4_enter 11 = .ok (.imul, 1) := by decide +kernel
theorem dX4_enter_12 : decode cX4_enter 12 = .ok (.ishl, 1) := by decide +kernel
theorem dX4_enter_13 : decode cX4_enter 13 = .ok (.ior, 1) := by decide +kernel
theorem dX4_enter_14 : decode cX4_enter 14 = .ok (.putfield 49, 3) := by decide +kernel
theorem dX4_enter_17 : decode cX4_enter 17 = .ok (.aload_n 0, 1) := by decide +kernel
theorem dX4_enter_18 : decode cX4_enter 18 = .ok (.dup, 1) := by decide +kernel
theorem dX4_enter_19 : decode cX4_enter 19 = .ok (.getfield 46, 3) := by decide +kernel
theorem dX4_enter_22 : decode cX4_enter 22 = .ok (.iconst 1, 1) := by decide +kernel
theorem dX4_enter_23 : decode cX4_enter 23 = .ok (.iadd, 1) := by decide +kernel
theorem dX4_enter_24 : decode cX4_enter 24 = .ok (.putfield 46, 3) := by decide +kernel
theorem dX4_enter_27 : decode cX4_enter 27 = .ok (.aload_n 0, 1) := by decide +kernel
theorem dX4_enter_28 : decode cX4_enter 28 = .ok (.iconst 0, 1) := by decide +kernel
theorem dX4_enter_29 : decode cX4_enter 29 = .ok (.putfield 61, 3) := by decide +kernel
theorem dX4_enter_32 : decode cX4_enter 32 = .ok (.return_, 1) := by decide +kernel
def fX4_enter (b0 : Nat) (x1 : Int32) (I : Mem) : Option Mem :=
  letb (up2 I b0 3 ((I b0 3) ||| (x1 <<< (((3 : Int32) * (I b0 2)) &&& 31)))) fun I_1 =>
  letb (up2 I_1 b0 2 ((I_1 b0 2) + (1 : Int32))) fun I_2 =>
  letb (up2 I_2 b0 7 (0 : Int32)) fun I_3 =>
  some I_3
set_option maxRecDepth 20000 in
theorem gX4_enter (E : EV) (d : Nat) (b0 : Nat) (x1 : Int32) (I : Mem) (hb0 : isH b0) {J : Mem} (hf : fX4_enter b0 x1 I = some J) : Gm E (d + 0) kX4_enter [.ref b0, .int x1] I (none, J) := by
  refine (fun (y : Mem) (hf : fX4_enter b0 x1 I = some y) => (?_ : Gm E (d + 0) kX4_enter [.ref b0, .int x1] I (none, y))) J hf
  refine Gm.of (by decide) rfl (Nat.le_of_ble_eq_true rfl) ?_
  generalize hrr : ((none, y) : Option Value × Mem) = rr
  show G E (d + 0) kX4_enter 0 [some (.ref b0), some (.int x1)] [] I rr
  have hK : (fun (z : Mem) => ((none : Option Value), z) = rr) y := hrr
  clear hrr
  unfold fX4_enter at hf
  refine G.aload_n dX4_enter_0 rfl rfl ?_
  refine G.dup dX4_enter_1 rfl ?_
  refine G.getI dX4_enter_2 flX4_49 (isH_lt hb0) (isH_lk hb0) ?_
  refine G.iload_n dX4_enter_5 rfl rfl ?_
  refine G.iconst (v := 3) dX4_enter_6 (by decide) ?_
  refine G.aload_n dX4_enter_7 rfl rfl ?_
  refine G.getI dX4_enter_8 flX4_46 (isH_lt hb0) (isH_lk hb0) ?_
  refine G.imul dX4_enter_11 ?_
  refine G.ishl dX4_enter_12 ?_
  refine G.ior dX4_enter_13 ?_
  refine G.putI dX4_enter_14 flX4_49 (isH_lt hb0) (isH_lk hb0) ?_
  refine G.nmI (fun I_1 e_I_1 => ?_)
  have hf := letb_at hf e_I_1
  clear e_I_1
  refine G.aload_n dX4_enter_17 rfl rfl ?_
  refine G.dup dX4_enter_18 rfl ?_
  refine G.getI dX4_enter_19 flX4_46 (isH_lt hb0) (isH_lk hb0) ?_
  refine G.iconst (v := 1) dX4_enter_22 (by decide) ?_
  refine G.iadd dX4_enter_23 ?_
  refine G.putI dX4_enter_24 flX4_46 (isH_lt hb0) (isH_lk hb0) ?_
  refine G.nmI (fun I_2 e_I_2 => ?_)
  have hf := letb_at hf e_I_2
  clear e_I_2
  refine G.aload_n dX4_enter_27 rfl rfl ?_
  refine G.iconst (v := 0) dX4_enter_28 (by decide) ?_
  refine G.putI dX4_enter_29 flX4_61 (isH_lt hb0) (isH_lk hb0) ?_
  refine G.nmI (fun I_3 e_I_3 => ?_)
  have hf := letb_at hf e_I_3
  clear e_I_3
  have hf := Option.some.inj hf
  subst hf
  exact G.vret' dX4_enter_32 rfl hK
theorem dX4_doorCount_0 : decode cX4_doorCount 0 = .ok (.iconst 0, 1) := by decide +kernel
theorem dX4_doorCount_1 : decode cX4_doorCount 1 = .ok (.istore_n 1, 1) := by decide +kernel
theorem dX4_doorCount_2 : decode cX4_doorCount 2 = .ok (.iconst 0, 1) := by decide +kernel
theorem dX4_doorCount_3 : decode cX4_doorCount 3 = .ok (.istore_n 2, 1) := by decide +kernel
theorem dX4_doorCount_4 : decode cX4_doorCount 4 = .ok (.iload_n 2, 1) := by decide +kernel
theorem dX4_doorCount_5 : decode cX4_doorCount 5 = .ok (.aload_n 0, 1) := by decide +kernel
theorem dX4_doorCount_6 : decode cX4_doorCount 6 = .ok (.getfield 9, 3) := by decide +kernel
theorem dX4_doorCount_9 : decode cX4_doorCount 9 = .ok (.if_icmp .ge 21, 3) := by decide +kernel
theorem dX4_doorCount_12 : decode cX4_doorCount 12 = .ok (.iload_n 1, 1) := by decide +kernel
theorem dX4_doorCount_13 : decode cX4_doorCount 13 = .ok (.aload_n 0, 1) := by decide +kernel
theorem dX4_doorCount_14 : decode cX4_doorCount 14 = .ok (.getfield 15, 3) := by decide +kernel
theorem dX4_doorCount_17 : decode cX4_doorCount 17 = .ok (.iload_n 2, 1) := by decide +kernel
theorem dX4_doorCount_18 : decode cX4_doorCount 18 = .ok (.iaload, 1) := by decide +kernel
theorem dX4_doorCount_19 : decode cX4_doorCount 19 = .ok (.invokestatic 70, 3) := by decide +kernel
theorem dX4_doorCount_22 : decode cX4_doorCount 22 = .ok (.iadd, 1) := by decide +kernel
theorem dX4_doorCount_23 : decode cX4_doorCount 23 = .ok (.istore_n 1, 1) := by decide +kernel
theorem dX4_doorCount_24 : decode cX4_doorCount 24 = .ok (.iinc 2 1, 3) := by decide +kernel
theorem dX4_doorCount_27 : decode cX4_doorCount 27 = .ok (.goto (-23), 3) := by decide +kernel
theorem dX4_doorCount_30 : decode cX4_doorCount 30 = .ok (.iload_n 1, 1) := by decide +kernel
theorem dX4_doorCount_31 : decode cX4_doorCount 31 = .ok (.iconst 2, 1) := by decide +kernel
theorem dX4_doorCount_32 : decode cX4_doorCount 32 = .ok (.idiv, 1) := by decide +kernel
theorem dX4_doorCount_33 : decode cX4_doorCount 33 = .ok (.ireturn, 1) := by decide +kernel
def KX4_doorCount_4 (E : EV) (d : Nat) (rr : Option Value × Mem) (b0 : Nat) (I : Mem) (Kp : Int32 → Prop) : ((Int32 × Int32) ⊕ Int32) → Prop
  | .inl q => G E (d + 1) kX4_doorCount 4 [some (.ref b0), some (.int q.1), some (.int q.2)] [] I rr
  | .inr z => Kp z
def bX4_doorCount_4 (b0 : Nat) (I : Mem) (x1 : Int32) (x2 : Int32) : Option ((Int32 × Int32) ⊕ Int32) :=
  if (I b0 0) ≤ x2 then
  (some (.inr (x1 / (2 : Int32))))
  else
  (chk (inb x2 5) <|
  bnd (fJ6_bitCount_0f7a4 (I (b0 + 1) (ix x2)) I) fun v_3 =>
  letb (x1 + v_3) fun x1_4 =>
  some (.inl (x1_4, (x2 + (1 : Int32)))))
def sX4_doorCount_4 (b0 : Nat) (I : Mem) (q : (Int32 × Int32)) : Option ((Int32 × Int32) ⊕ Int32) := bX4_doorCount_4 b0 I q.1 q.2
set_option maxRecDepth 20000 in
theorem wX4_doorCount_4 (E : EV) (d : Nat) (rr : Option Value × Mem) (b0 : Nat) (I : Mem) (x1 : Int32) (x2 : Int32) (hb0 : isH b0) (y : ((Int32 × Int32) ⊕ Int32)) (hf : bX4_doorCount_4 b0 I x1 x2 = some y) (hK : (KX4_doorCount_4 E d rr b0 I (fun (z : Int32) => (some (.int z), I) = rr)) y) : G E (d + 1) kX4_doorCount 4 [some (.ref b0), some (.int x1), some (.int x2)] [] I rr := by
  unfold bX4_doorCount_4 at hf
  refine G.iload_n dX4_doorCount_4 rfl rfl ?_
  refine G.aload_n dX4_doorCount_5 rfl rfl ?_
  refine G.getI dX4_doorCount_6 flX4_9 (isH_lt hb0) (isH_lk hb0) ?_
  refine G.icmp_ge (tgt := 30) dX4_doorCount_9 (by decide) (fun c_5 => ?_) (fun c_5 => ?_)
  · have hf := ite_t hf c_5
    refine G.iload_n dX4_doorCount_30 rfl rfl ?_
    refine G.iconst (v := 2) dX4_doorCount_31 (by decide) ?_
    refine G.idiv dX4_doorCount_32 (by decide) ?_
    have hf := Option.some.inj hf
    subst hf
    exact G.iret' dX4_doorCount_33 rfl hK
  · have hf := ite_f hf c_5
    refine G.iload_n dX4_doorCount_12 rfl rfl ?_
    refine G.aload_n dX4_doorCount_13 rfl rfl ?_
    refine G.getR (q := (b0 + 1)) dX4_doorCount_14 flX4_15 (isH_lt hb0) (isH_lk hb0) (isH_r1 hb0) ?_
    refine G.iload_n dX4_doorCount_17 rfl rfl ?_
    obtain ⟨hi_1, hf⟩ := chk_at hf
    refine G.iald' dX4_doorCount_18 (isH_l1 hb0) (isH_k1 hb0) (isH_n1 hb0) hi_1 ?_
    obtain ⟨v_3, hc_2, hf⟩ := bnd_at hf
    refine G.callSi (av := [.int (I (b0 + 1) (ix x2))]) (rest := [.int x1]) dX4_doorCount_19 msX4_70 (gJ6_bitCount_0f7a4 E d (I (b0 + 1) (ix x2)) I hc_2) rfl rfl (Nat.le_of_ble_eq_true rfl) ?_
    refine G.iadd dX4_doorCount_22 ?_
    refine G.nmi (fun x1_4 e_x1_4 => ?_)
    have hf := letb_at hf e_x1_4
    clear e_x1_4
    refine G.istore_n (L' := [some (.ref b0), some (.int x1_4), some (.int x2)]) dX4_doorCount_23 rfl (Nat.le_of_ble_eq_true rfl) (Nat.le_of_ble_eq_true rfl) rfl rfl ?_
    refine G.inc (w := 1) (L' := [some (.ref b0), some (.int x1_4), some (.int (x2 + (1 : Int32)))]) dX4_doorCount_24 (by decide) rfl (Nat.le_of_ble_eq_true rfl) rfl rfl ?_
    refine G.goto (tgt := 4) dX4_doorCount_27 (by decide) ?_
    have hf := Option.some.inj hf
    subst hf
    exact hK
theorem lX4_doorCount_4 (E : EV) (d : Nat) (rr : Option Value × Mem) (b0 : Nat) (I : Mem) (hb0 : isH b0) (z : Int32) (hK : (fun (z : Int32) => (some (.int z), I) = rr) z) : ∀ (n : Nat) (q : (Int32 × Int32)), iter (sX4_doorCount_4 b0 I) n q = some z → G E (d + 1) kX4_doorCount 4 [some (.ref b0), some (.int q.1), some (.int q.2)] [] I rr := by
  intro n
  induction n with
  | zero => intro q h; cases h
  | succ n ih =>
    intro q h
    rcases iter_at h with ⟨q2, hs, h2⟩ | hs
    · exact wX4_doorCount_4 E d rr b0 I q.1 q.2 hb0 _ hs (ih q2 h2)
    · exact wX4_doorCount_4 E d rr b0 I q.1 q.2 hb0 _ hs hK
def fX4_doorCount (b0 : Nat) (I : Mem) : Option Int32 :=
  iter (sX4_doorCount_4 b0 I) FU ((0 : Int32), (0 : Int32))
set_option maxRecDepth 20000 in
theorem gX4_doorCount (E : EV) (d : Nat) (b0 : Nat) (I : Mem) (hb0 : isH b0) {v : Int32} (hf : fX4_doorCount b0 I = some v) : Gm E (d + 1) kX4_doorCount [.ref b0] I (some (.int v), I) := by
  refine (fun (y : Int32) (hf : fX4_doorCount b0 I = some y) => (?_ : Gm E (d + 1) kX4_doorCount [.ref b0] I (some (.int y), I))) v hf
  refine Gm.of (by decide) rfl (Nat.le_of_ble_eq_true rfl) ?_
  generalize hrr : ((some (.int y), I) : Option Value × Mem) = rr
  show G E (d + 1) kX4_doorCount 0 [some (.ref b0), none, none] [] I rr
  have hK : (fun (z : Int32) => (some (.int z), I) = rr) y := hrr
  clear hrr
  unfold fX4_doorCount at hf
  refine G.iconst (v := 0) dX4_doorCount_0 (by decide) ?_
  refine G.istore_n (L' := [some (.ref b0), some (.int (0 : Int32)), none]) dX4_doorCount_1 rfl (Nat.le_of_ble_eq_true rfl) (Nat.le_of_ble_eq_true rfl) rfl rfl ?_
  refine G.iconst (v := 0) dX4_doorCount_2 (by decide) ?_
  refine G.istore_n (L' := [some (.ref b0), some (.int (0 : Int32)), some (.int (0 : Int32))]) dX4_doorCount_3 rfl (Nat.le_of_ble_eq_true rfl) (Nat.le_of_ble_eq_true rfl) rfl rfl ?_
  exact lX4_doorCount_4 E d rr b0 I hb0 _ hK FU _ hf
theorem dX4_canGo_0 : decode cX4_canGo 0 = .ok (.iconst 0, 1) := by decide +kernel
theorem dX4_canGo_1 : decode cX4_canGo 1 = .ok (.istore_n 3, 1) := by decide +kernel
theorem dX4_canGo_2 : decode cX4_canGo 2 = .ok (.iload_n 3, 1) := by decide +kernel
theorem dX4_canGo_3 : decode cX4_canGo 3 = .ok (.aload_n 0, 1) := by decide +kernel
theorem dX4_canGo_4 : decode cX4_canGo 4 = .ok (.getfield 46, 3) := by decide +kernel
theorem dX4_canGo_7 : decode cX4_canGo 7 = .ok (.if_icmp .ge 31, 3) := by decide +kernel
theorem dX4_canGo_10 : decode cX4_canGo 10 = .ok (.aload_n 0, 1) := by decide +kernel
theorem dX4_canGo_11 : decode cX4_canGo 11 = .ok (.iload_n 1, 1) := by decide +kernel
theorem dX4_canGo_12 : decode cX4_canGo 12 = .ok (.iload_n 3, 1) := by decide +kernel
theorem dX4_canGo_13 : decode cX4_canGo 13 = .ok (.invokestatic 76, 3) := by decide +kernel
theorem dX4_canGo_16 : decode cX4_canGo 16 = .ok (.invokevirtual 80, 3) := by decide +kernel
theorem dX4_canGo_19 : decode cX4_canGo 19 = .ok (.iload_n 2, 1) := by decide +kernel
theorem dX4_canGo_20 : decode cX4_canGo 20 = .ok (.iload_n 3, 1) := by decide +kernel
theorem dX4_canGo_21 : decode cX4_canGo 21 = .ok (.invokestatic 76, 3) := by decide +kernel
theorem dX4_canGo_24 : decode cX4_canGo 24 = .ok (.invokestatic 83, 3) := by decide +kernel
theorem dX4_canGo_27 : decode cX4_canGo 27 = .ok (.ifCond .ne 5, 3) := by decide +kernel
theorem dX4_canGo_30 : decode cX4_canGo 30 = .ok (.iconst 0, 1) := by decide +kernel
theorem dX4_canGo_31 : decode cX4_canGo 31 = .ok (.ireturn, 1) := by decide +kernel
theorem dX4_canGo_32 : decode cX4_canGo 32 = .ok (.iinc 3 1, 3) := by decide +kernel
theorem dX4_canGo_35 : decode cX4_canGo 35 = .ok (.goto (-33), 3) := by decide +kernel
theorem dX4_canGo_38 : decode cX4_canGo 38 = .ok (.iconst 1, 1) := by decide +kernel
theorem dX4_canGo_39 : decode cX4_canGo 39 = .ok (.ireturn, 1) := by decide +kernel
def KX4_canGo_2 (E : EV) (d : Nat) (rr : Option Value × Mem) (b0 : Nat) (x1 : Int32) (x2 : Int32) (I : Mem) (Kp : Int32 → Prop) : (Int32 ⊕ Int32) → Prop
  | .inl q => G E (d + 1) kX4_canGo 2 [some (.ref b0), some (.int x1), some (.int x2), some (.int q)] [] I rr
  | .inr z => Kp z
def bX4_canGo_2 (b0 : Nat) (x1 : Int32) (x2 : Int32) (I : Mem) (x3 : Int32) : Option (Int32 ⊕ Int32) :=
  if (I b0 2) ≤ x3 then
  (some (.inr (1 : Int32)))
  else
  (bnd (fX11_roomOf x1 x3 I) fun v_2 =>
  bnd (fX4_reach b0 v_2 I) fun v_4 =>
  bnd (fX11_roomOf x2 x3 I) fun v_6 =>
  bnd (fX11_has v_4 v_6 I) fun v_8 =>
  if v_8 = 0 then
  (some (.inr (0 : Int32)))
  else
  (some (.inl (x3 + (1 : Int32)))))
def sX4_canGo_2 (b0 : Nat) (x1 : Int32) (x2 : Int32) (I : Mem) (q : Int32) : Option (Int32 ⊕ Int32) := bX4_canGo_2 b0 x1 x2 I q
set_option maxRecDepth 20000 in
theorem wX4_canGo_2 (E : EV) (d : Nat) (rr : Option Value × Mem) (b0 : Nat) (x1 : Int32) (x2 : Int32) (I : Mem) (x3 : Int32) (hb0 : isH b0) (y : (Int32 ⊕ Int32)) (hf : bX4_canGo_2 b0 x1 x2 I x3 = some y) (hK : (KX4_canGo_2 E d rr b0 x1 x2 I (fun (z : Int32) => (some (.int z), I) = rr)) y) : G E (d + 1) kX4_canGo 2 [some (.ref b0), some (.int x1), some (.int x2), some (.int x3)] [] I rr := by
  unfold bX4_canGo_2 at hf
  refine G.iload_n dX4_canGo_2 rfl rfl ?_
  refine G.aload_n dX4_canGo_3 rfl rfl ?_
  refine G.getI dX4_canGo_4 flX4_46 (isH_lt hb0) (isH_lk hb0) ?_
  refine G.icmp_ge (tgt := 38) dX4_canGo_7 (by decide) (fun c_10 => ?_) (fun c_10 => ?_)
  · have hf := ite_t hf c_10
    refine G.iconst (v := 1) dX4_canGo_38 (by decide) ?_
    have hf := Option.some.inj hf
    subst hf
    exact G.zret' dX4_canGo_39 rfl (by decide) hK
  · have hf := ite_f hf c_10
    refine G.aload_n dX4_canGo_10 rfl rfl ?_
    refine G.iload_n dX4_canGo_11 rfl rfl ?_
    refine G.iload_n dX4_canGo_12 rfl rfl ?_
    obtain ⟨v_2, hc_1, hf⟩ := bnd_at hf
    refine G.callNi (av := [.int x1, .int x3]) (rest := [.ref b0]) dX4_canGo_13 mnX4_76 (gX11_roomOf E d x1 x3 I hc_1) rfl rfl (Nat.le_of_ble_eq_true rfl) ?_
    obtain ⟨v_4, hc_3, hf⟩ := bnd_at hf
    refine G.callVi (av := [.int v_2]) (rest := []) dX4_canGo_16 mvX4_80 (gX4_reach E d b0 v_2 I hb0 hc_3) (isH_lt hb0) (isH_lk hb0) rfl rfl (Nat.le_of_ble_eq_true rfl) ?_
    refine G.iload_n dX4_canGo_19 rfl rfl ?_
    refine G.iload_n dX4_canGo_20 rfl rfl ?_
    obtain ⟨v_6, hc_5, hf⟩ := bnd_at hf
    refine G.callNi (av := [.int x2, .int x3]) (rest := [.int v_4]) dX4_canGo_21 mnX4_76 (gX11_roomOf E d x2 x3 I hc_5) rfl rfl (Nat.le_of_ble_eq_true rfl) ?_
    obtain ⟨v_8, hc_7, hf⟩ := bnd_at hf
    refine G.callNi (av := [.int v_4, .int v_6]) (rest := []) dX4_canGo_24 mnX4_83 (gX11_has E d v_4 v_6 I hc_7) rfl rfl (Nat.le_of_ble_eq_true rfl) ?_
    refine G.if_ne (tgt := 32) dX4_canGo_27 (by decide) (fun c_9 => ?_) (fun c_9 => ?_)
    · have hf := ite_f hf c_9
      refine G.inc (w := 1) (L' := [some (.ref b0), some (.int x1), some (.int x2), some (.int (x3 + (1 : Int32)))]) dX4_canGo_32 (by decide) rfl (Nat.le_of_ble_eq_true rfl) rfl rfl ?_
      refine G.goto (tgt := 2) dX4_canGo_35 (by decide) ?_
      have hf := Option.some.inj hf
      subst hf
      exact hK
    · have hf := ite_t hf c_9
      refine G.iconst (v := 0) dX4_canGo_30 (by decide) ?_
      have hf := Option.some.inj hf
      subst hf
      exact G.zret' dX4_canGo_31 rfl (by decide) hK
theorem lX4_canGo_2 (E : EV) (d : Nat) (rr : Option Value × Mem) (b0 : Nat) (x1 : Int32) (x2 : Int32) (I : Mem) (hb0 : isH b0) (z : Int32) (hK : (fun (z : Int32) => (some (.int z), I) = rr) z) : ∀ (n : Nat) (q : Int32), iter (sX4_canGo_2 b0 x1 x2 I) n q = some z → G E (d + 1) kX4_canGo 2 [some (.ref b0), some (.int x1), some (.int x2), some (.int q)] [] I rr := by
  intro n
  induction n with
  | zero => intro q h; cases h
  | succ n ih =>
    intro q h
    rcases iter_at h with ⟨q2, hs, h2⟩ | hs
    · exact wX4_canGo_2 E d rr b0 x1 x2 I q hb0 _ hs (ih q2 h2)
    · exact wX4_canGo_2 E d rr b0 x1 x2 I q hb0 _ hs hK
def fX4_canGo (b0 : Nat) (x1 : Int32) (x2 : Int32) (I : Mem) : Option Int32 :=
  iter (sX4_canGo_2 b0 x1 x2 I) FU (0 : Int32)
set_option maxRecDepth 20000 in
theorem gX4_canGo (E : EV) (d : Nat) (b0 : Nat) (x1 : Int32) (x2 : Int32) (I : Mem) (hb0 : isH b0) {v : Int32} (hf : fX4_canGo b0 x1 x2 I = some v) : Gm E (d + 1) kX4_canGo [.ref b0, .int x1, .int x2] I (some (.int v), I) := by
  refine (fun (y : Int32) (hf : fX4_canGo b0 x1 x2 I = some y) => (?_ : Gm E (d + 1) kX4_canGo [.ref b0, .int x1, .int x2] I (some (.int y), I))) v hf
  refine Gm.of (by decide) rfl (Nat.le_of_ble_eq_true rfl) ?_
  generalize hrr : ((some (.int y), I) : Option Value × Mem) = rr
  show G E (d + 1) kX4_canGo 0 [some (.ref b0), some (.int x1), some (.int x2), none] [] I rr
  have hK : (fun (z : Int32) => (some (.int z), I) = rr) y := hrr
  clear hrr
  unfold fX4_canGo at hf
  refine G.iconst (v := 0) dX4_canGo_0 (by decide) ?_
  refine G.istore_n (L' := [some (.ref b0), some (.int x1), some (.int x2), some (.int (0 : Int32))]) dX4_canGo_1 rfl (Nat.le_of_ble_eq_true rfl) (Nat.le_of_ble_eq_true rfl) rfl rfl ?_
  exact lX4_canGo_2 E d rr b0 x1 x2 I hb0 _ hK FU _ hf
theorem dX4_peopled_0 : decode cX4_peopled 0 = .ok (.iconst 0, 1) := by decide +kernel
theorem dX4_peopled_1 : decode cX4_peopled 1 = .ok (.istore_n 1, 1) := by decide +kernel
theorem dX4_peopled_2 : decode cX4_peopled 2 = .ok (.iconst 0, 1) := by decide +kernel
theorem dX4_peopled_3 : decode cX4_peopled 3 = .ok (.istore_n 2, 1) := by decide +kernel
theorem dX4_peopled_4 : decode cX4_peopled 4 = .ok (.iload_n 2, 1) := by decide +kernel
theorem dX4_peopled_5 : decode cX4_peopled 5 = .ok (.aload_n 0, 1) := by decide +kernel
theorem dX4_peopled_6 : decode cX4_peopled 6 = .ok (.getfield 46, 3) := by decide +kernel
theorem dX4_peopled_9 : decode cX4_peopled 9 = .ok (.if_icmp .ge 22, 3) := by decide +kernel
theorem dX4_peopled_12 : decode cX4_peopled 12 = .ok (.iload_n 1, 1) := by decide +kernel
theorem dX4_peopled_13 : decode cX4_peopled 13 = .ok (.iconst 1, 1) := by decide +kernel
theorem dX4_peopled_14 : decode cX4_peopled 14 = .ok (.aload_n 0, 1) := by decide +kernel
theorem dX4_peopled_15 : decode cX4_peopled 15 = .ok (.getfield 49, 3) := by decide +kernel
theorem dX4_peopled_18 : decode cX4_peopled 18 = .ok (.iload_n 2, 1) := by decide +kernel
theorem dX4_peopled_19 : decode cX4_peopled 19 = .ok (.invokestatic 76, 3) := by decide +kernel
theorem dX4_peopled_22 : decode cX4_peopled 22 = .ok (.ishl, 1) := by decide +kernel
theorem dX4_peopled_23 : decode cX4_peopled 23 = .ok (.ior, 1) := by decide +kernel
theorem dX4_peopled_24 : decode cX4_peopled 24 = .ok (.istore_n 1, 1) := by decide +kernel
theorem dX4_peopled_25 : decode cX4_peopled 25 = .ok (.iinc 2 1, 3) := by decide +kernel
theorem dX4_peopled_28 : decode cX4_peopled 28 = .ok (.goto (-24), 3) := by decide +kernel
theorem dX4_peopled_31 : decode cX4_peopled 31 = .ok (.iload_n 1, 1) := by decide +kernel
theorem dX4_peopled_32 : decode cX4_peopled 32 = .ok (.ireturn, 1) := by decide +kernel
def KX4_peopled_4 (E : EV) (d : Nat) (rr : Option Value × Mem) (b0 : Nat) (I : Mem) (Kp : Int32 → Prop) : ((Int32 × Int32) ⊕ Int32) → Prop
  | .inl q => G E (d + 1) kX4_peopled 4 [some (.ref b0), some (.int q.1), some (.int q.2)] [] I rr
  | .inr z => Kp z
def bX4_peopled_4 (b0 : Nat) (I : Mem) (x1 : Int32) (x2 : Int32) : Option ((Int32 × Int32) ⊕ Int32) :=
  if (I b0 2) ≤ x2 then
  (some (.inr x1))
  else
  (bnd (fX11_roomOf (I b0 3) x2 I) fun v_2 =>
  letb (x1 ||| ((1 : Int32) <<< (v_2 &&& 31))) fun x1_3 =>
  some (.inl (x1_3, (x2 + (1 : Int32)))))
def sX4_peopled_4 (b0 : Nat) (I : Mem) (q : (Int32 × Int32)) : Option ((Int32 × Int32) ⊕ Int32) := bX4_peopled_4 b0 I q.1 q.2
set_option maxRecDepth 20000 in
theorem wX4_peopled_4 (E : EV) (d : Nat) (rr : Option Value × Mem) (b0 : Nat) (I : Mem) (x1 : Int32) (x2 : Int32) (hb0 : isH b0) (y : ((Int32 × Int32) ⊕ Int32)) (hf : bX4_peopled_4 b0 I x1 x2 = some y) (hK : (KX4_peopled_4 E d rr b0 I (fun (z : Int32) => (some (.int z), I) = rr)) y) : G E (d + 1) kX4_peopled 4 [some (.ref b0), some (.int x1), some (.int x2)] [] I rr := by
  unfold bX4_peopled_4 at hf
  refine G.iload_n dX4_peopled_4 rfl rfl ?_
  refine G.aload_n dX4_peopled_5 rfl rfl ?_
  refine G.getI dX4_peopled_6 flX4_46 (isH_lt hb0) (isH_lk hb0) ?_
  refine G.icmp_ge (tgt := 31) dX4_peopled_9 (by decide) (fun c_4 => ?_) (fun c_4 => ?_)
  · have hf := ite_t hf c_4
    refine G.iload_n dX4_peopled_31 rfl rfl ?_
    have hf := Option.some.inj hf
    subst hf
    exact G.iret' dX4_peopled_32 rfl hK
  · have hf := ite_f hf c_4
    refine G.iload_n dX4_peopled_12 rfl rfl ?_
    refine G.iconst (v := 1) dX4_peopled_13 (by decide) ?_
    refine G.aload_n dX4_peopled_14 rfl rfl ?_
    refine G.getI dX4_peopled_15 flX4_49 (isH_lt hb0) (isH_lk hb0) ?_
    refine G.iload_n dX4_peopled_18 rfl rfl ?_
    obtain ⟨v_2, hc_1, hf⟩ := bnd_at hf
    refine G.callNi (av := [.int (I b0 3), .int x2]) (rest := [.int (1 : Int32), .int x1]) dX4_peopled_19 mnX4_76 (gX11_roomOf E d (I b0 3) x2 I hc_1) rfl rfl (Nat.le_of_ble_eq_true rfl) ?_
    refine G.ishl dX4_peopled_22 ?_
    refine G.ior dX4_peopled_23 ?_
    refine G.nmi (fun x1_3 e_x1_3 => ?_)
    have hf := letb_at hf e_x1_3
    clear e_x1_3
    refine G.istore_n (L' := [some (.ref b0), some (.int x1_3), some (.int x2)]) dX4_peopled_24 rfl (Nat.le_of_ble_eq_true rfl) (Nat.le_of_ble_eq_true rfl) rfl rfl ?_
    refine G.inc (w := 1) (L' := [some (.ref b0), some (.int x1_3), some (.int (x2 + (1 : Int32)))]) dX4_peopled_25 (by decide) rfl (Nat.le_of_ble_eq_true rfl) rfl rfl ?_
    refine G.goto (tgt := 4) dX4_peopled_28 (by decide) ?_
    have hf := Option.some.inj hf
    subst hf
    exact hK
theorem lX4_peopled_4 (E : EV) (d : Nat) (rr : Option Value × Mem) (b0 : Nat) (I : Mem) (hb0 : isH b0) (z : Int32) (hK : (fun (z : Int32) => (some (.int z), I) = rr) z) : ∀ (n : Nat) (q : (Int32 × Int32)), iter (sX4_peopled_4 b0 I) n q = some z → G E (d + 1) kX4_peopled 4 [some (.ref b0), some (.int q.1), some (.int q.2)] [] I rr := by
  intro n
  induction n with
  | zero => intro q h; cases h
  | succ n ih =>
    intro q h
    rcases iter_at h with ⟨q2, hs, h2⟩ | hs
    · exact wX4_peopled_4 E d rr b0 I q.1 q.2 hb0 _ hs (ih q2 h2)
    · exact wX4_peopled_4 E d rr b0 I q.1 q.2 hb0 _ hs hK
def fX4_peopled (b0 : Nat) (I : Mem) : Option Int32 :=
  iter (sX4_peopled_4 b0 I) FU ((0 : Int32), (0 : Int32))
set_option maxRecDepth 20000 in
theorem gX4_peopled (E : EV) (d : Nat) (b0 : Nat) (I : Mem) (hb0 : isH b0) {v : Int32} (hf : fX4_peopled b0 I = some v) : Gm E (d + 1) kX4_peopled [.ref b0] I (some (.int v), I) := by
  refine (fun (y : Int32) (hf : fX4_peopled b0 I = some y) => (?_ : Gm E (d + 1) kX4_peopled [.ref b0] I (some (.int y), I))) v hf
  refine Gm.of (by decide) rfl (Nat.le_of_ble_eq_true rfl) ?_
  generalize hrr : ((some (.int y), I) : Option Value × Mem) = rr
  show G E (d + 1) kX4_peopled 0 [some (.ref b0), none, none] [] I rr
  have hK : (fun (z : Int32) => (some (.int z), I) = rr) y := hrr
  clear hrr
  unfold fX4_peopled at hf
  refine G.iconst (v := 0) dX4_peopled_0 (by decide) ?_
  refine G.istore_n (L' := [some (.ref b0), some (.int (0 : Int32)), none]) dX4_peopled_1 rfl (Nat.le_of_ble_eq_true rfl) (Nat.le_of_ble_eq_true rfl) rfl rfl ?_
  refine G.iconst (v := 0) dX4_peopled_2 (by decide) ?_
  refine G.istore_n (L' := [some (.ref b0), some (.int (0 : Int32)), some (.int (0 : Int32))]) dX4_peopled_3 rfl (Nat.le_of_ble_eq_true rfl) (Nat.le_of_ble_eq_true rfl) rfl rfl ?_
  exact lX4_peopled_4 E d rr b0 I hb0 _ hK FU _ hf
theorem dX4_isAloneIn_0 : decode cX4_isAloneIn 0 = .ok (.aload_n 0, 1) := by decide +kernel
theorem dX4_isAloneIn_1 : decode cX4_isAloneIn 1 = .ok (.getfield 49, 3) := by decide +kernel
theorem dX4_isAloneIn_4 : decode cX4_isAloneIn 4 = .ok (.iload_n 1, 1) := by decide +kernel
theorem dX4_isAloneIn_5 : decode cX4_isAloneIn 5 = .ok (.invokestatic 76, 3) := by decide +kernel
theorem dX4_isAloneIn_8 : decode cX4_isAloneIn 8 = .ok (.iload_n 2, 1) := by decide +kernel
theorem dX4_isAloneIn_9 : decode cX4_isAloneIn 9 = .ok (.if_icmp .ne 22, 3) := by decide +kernel
theorem dX4_isAloneIn_12 : decode cX4_isAloneIn 12 = .ok (.aload_n 0, 1) := by decide +kernel
theorem dX4_isAloneIn_13 : decode cX4_isAloneIn 13 = .ok (.aload_n 0, 1) := by decide +kernel
theorem dX4_isAloneIn_14 : decode cX4_isAloneIn 14 = .ok (.getfield 49, 3) := by decide +kernel
theorem dX4_isAloneIn_17 : decode cX4_isAloneIn 17 = .ok (.invokevirtual 87, 3) := by decide +kernel
theorem dX4_isAloneIn_20 : decode cX4_isAloneIn 20 = .ok (.iload_n 1, 1) := by decide +kernel
theorem dX4_isAloneIn_21 : decode cX4_isAloneIn 21 = .ok (.invokestatic 83, 3) := by decide +kernel
theorem dX4_isAloneIn_24 : decode cX4_isAloneIn 24 = .ok (.ifCond .eq 7, 3) := by decide +kernel
theorem dX4_isAloneIn_27 : decode cX4_isAloneIn 27 = .ok (.iconst 1, 1) := by decide +kernel
theorem dX4_isAloneIn_28 : decode cX4_isAloneIn 28 = .ok (.goto 4, 3) := by decide +kernel
theorem dX4_isAloneIn_31 : decode cX4_isAloneIn 31 = .ok (.iconst 0, 1) := by decide +kernel
theorem dX4_isAloneIn_32 : decode cX4_isAloneIn 32 = .ok (.ireturn, 1) := by decide +kernel
def fX4_isAloneIn (b0 : Nat) (x1 : Int32) (x2 : Int32) (I : Mem) : Option Int32 :=
  bnd (fX11_roomOf (I b0 3) x1 I) fun v_2 =>
  if v_2 = x2 then
  (bnd (fX4_lone b0 (I b0 3) I) fun v_4 =>
  bnd (fX11_has v_4 x1 I) fun v_6 =>
  if v_6 = 0 then
  (some (0 : Int32))
  else
  (some (1 : Int32)))
  else
  (some (0 : Int32))
set_option maxRecDepth 20000 in
theorem gX4_isAloneIn (E : EV) (d : Nat) (b0 : Nat) (x1 : Int32) (x2 : Int32) (I : Mem) (hb0 : isH b0) {v : Int32} (hf : fX4_isAloneIn b0 x1 x2 I = some v) : Gm E (d + 2) kX4_isAloneIn [.ref b0, .int x1, .int x2] I (some (.int v), I) := by
  refine (fun (y : Int32) (hf : fX4_isAloneIn b0 x1 x2 I = some y) => (?_ : Gm E (d + 2) kX4_isAloneIn [.ref b0, .int x1, .int x2] I (some (.int y), I))) v hf
  refine Gm.of (by decide) rfl (Nat.le_of_ble_eq_true rfl) ?_
  generalize hrr : ((some (.int y), I) : Option Value × Mem) = rr
  show G E (d + 2) kX4_isAloneIn 0 [some (.ref b0), some (.int x1), some (.int x2)] [] I rr
  have hK : (fun (z : Int32) => (some (.int z), I) = rr) y := hrr
  clear hrr
  unfold fX4_isAloneIn at hf
  refine G.aload_n dX4_isAloneIn_0 rfl rfl ?_
  refine G.getI dX4_isAloneIn_1 flX4_49 (isH_lt hb0) (isH_lk hb0) ?_
  refine G.iload_n dX4_isAloneIn_4 rfl rfl ?_
  obtain ⟨v_2, hc_1, hf⟩ := bnd_at hf
  refine G.callNi (av := [.int (I b0 3), .int x1]) (rest := []) dX4_isAloneIn_5 mnX4_76 (gX11_roomOf E (d + 1) (I b0 3) x1 I hc_1) rfl rfl (Nat.le_of_ble_eq_true rfl) ?_
  refine G.iload_n dX4_isAloneIn_8 rfl rfl ?_
  refine G.icmp_ne (tgt := 31) dX4_isAloneIn_9 (by decide) (fun c_8 => ?_) (fun c_8 => ?_)
  · have hf := ite_f hf c_8
    refine G.iconst (v := 0) dX4_isAloneIn_31 (by decide) ?_
    have hf := Option.some.inj hf
    subst hf
    exact G.zret' dX4_isAloneIn_32 rfl (by decide) hK
  · have hf := ite_t hf c_8
    refine G.aload_n dX4_isAloneIn_12 rfl rfl ?_
    refine G.aload_n dX4_isAloneIn_13 rfl rfl ?_
    refine G.getI dX4_isAloneIn_14 flX4_49 (isH_lt hb0) (isH_lk hb0) ?_
    obtain ⟨v_4, hc_3, hf⟩ := bnd_at hf
    refine G.callVi (av := [.int (I b0 3)]) (rest := []) dX4_isAloneIn_17 mvX4_87 (gX4_lone E d b0 (I b0 3) I hb0 hc_3) (isH_lt hb0) (isH_lk hb0) rfl rfl (Nat.le_of_ble_eq_true rfl) ?_
    refine G.iload_n dX4_isAloneIn_20 rfl rfl ?_
    obtain ⟨v_6, hc_5, hf⟩ := bnd_at hf
    refine G.callNi (av := [.int v_4, .int x1]) (rest := []) dX4_isAloneIn_21 mnX4_83 (gX11_has E (d + 1) v_4 x1 I hc_5) rfl rfl (Nat.le_of_ble_eq_true rfl) ?_
    refine G.if_eq (tgt := 31) dX4_isAloneIn_24 (by decide) (fun c_7 => ?_) (fun c_7 => ?_)
    · have hf := ite_t hf c_7
      refine G.iconst (v := 0) dX4_isAloneIn_31 (by decide) ?_
      have hf := Option.some.inj hf
      subst hf
      exact G.zret' dX4_isAloneIn_32 rfl (by decide) hK
    · have hf := ite_f hf c_7
      refine G.iconst (v := 1) dX4_isAloneIn_27 (by decide) ?_
      refine G.goto (tgt := 32) dX4_isAloneIn_28 (by decide) ?_
      have hf := Option.some.inj hf
      subst hf
      exact G.zret' dX4_isAloneIn_32 rfl (by decide) hK
theorem dX4_gather_0 : decode cX4_gather 0 = .ok (.iconst (-1), 1) := by decide +kernel
theorem dX4_gather_1 : decode cX4_gather 1 = .ok (.istore 4, 2) := by decide +kernel
theorem dX4_gather_3 : decode cX4_gather 3 = .ok (.iconst (-1), 1) := by decide +kernel
theorem dX4_gather_4 : decode cX4_gather 4 = .ok (.istore 5, 2) := by decide +kernel
theorem dX4_gather_6 : decode cX4_gather 6 = .ok (.iconst (-1), 1) := by decide +kernel
theorem dX4_gather_7 : decode cX4_gather 7 = .ok (.istore 6, 2) := by decide +kernel
theorem dX4_gather_9 : decode cX4_gather 9 = .ok (.aload_n 0, 1) := by decide +kernel
theorem dX4_gather_10 : decode cX4_gather 10 = .ok (.getfield 46, 3) := by decide +kernel
theorem dX4_gather_13 : decode cX4_gather 13 = .ok (.iconst 1, 1) := by decide +kernel
theorem dX4_gather_14 : decode cX4_gather 14 = .ok (.isub, 1) := by decide +kernel
theorem dX4_gather_15 : decode cX4_gather 15 = .ok (.istore 7, 2) := by decide +kernel
theorem dX4_gather_17 : decode cX4_gather 17 = .ok (.iload 7, 2) := by decide +kernel
theorem dX4_gather_19 : decode cX4_gather 19 = .ok (.ifCond .lt 49, 3) := by decide +kernel
theorem dX4_gather_22 : decode cX4_gather 22 = .ok (.aload_n 0, 1) := by decide +kernel
theorem dX4_gather_23 : decode cX4_gather 23 = .ok (.getfield 49, 3) := by decide +kernel
theorem dX4_gather_26 : decode cX4_gather 26 = .ok (.iload 7, 2) := by decide +kernel
theorem dX4_gather_28 : decode cX4_gather 28 = .ok (.invokestatic 76, 3) := by decide +kernel
theorem dX4_gather_31 : decode cX4_gather 31 = .ok (.iload_n 1, 1) := by decide +kernel
theorem dX4_gather_32 : decode cX4_gather 32 = .ok (.if_icmp .ne 30, 3) := by decide +kernel
theorem dX4_gather_35 : decode cX4_gather 35 = .ok (.iload 5, 2) := by decide +kernel
theorem dX4_gather_37 : decode cX4_gather 37 = .ok (.istore 6, 2) := by decide +kernel
theorem dX4_gather_39 : decode cX4_gather 39 = .ok (.iload 7, 2) := by decide +kernel
theorem dX4_gather_41 : decode cX4_gather 41 = .ok (.istore 5, 2) := by decide +kernel
theorem dX4_gather_43 : decode cX4_gather 43 = .ok (.iload_n 2, 1) := by decide +kernel
theorem dX4_gather_44 : decode cX4_gather 44 = .ok (.iload 7, 2) := by decide +kernel
theorem dX4_gather_46 : decode cX4_gather 46 = .ok (.invokestatic 76, 3) := by decide +kernel
theorem dX4_gather_49 : decode cX4_gather 49 = .ok (.iload_n 1, 1) := by decide +kernel
theorem dX4_gather_50 : decode cX4_gather 50 = .ok (.if_icmp .ne 8, 3) := by decide +kernel
theorem dX4_gather_53 : decode cX4_gather 53 = .ok (.iload 4, 2) := by decide +kernel
theorem dX4_gather_55 : decode cX4_gather 55 = .ok (.goto 5, 3) := by decide +kernel
theorem dX4_gather_58 : decode cX4_gather 58 = .ok (.iload 7, 2) := by decide +kernel
theorem dX4_gather_60 : decode cX4_gather 60 = .ok (.istore 4, 2) := by decide +kernel
theorem dX4_gather_62 : decode cX4_gather 62 = .ok (.iinc 7 (-1), 3) := by decide +kernel
theorem dX4_gather_65 : decode cX4_gather 65 = .ok (.goto (-48), 3) := by decide +kernel
theorem dX4_gather_68 : decode cX4_gather 68 = .ok (.iload 6, 2) := by decide +kernel
theorem dX4_gather_70 : decode cX4_gather 70 = .ok (.iconst (-1), 1) := by decide +kernel
theorem dX4_gather_71 : decode cX4_gather 71 = .ok (.if_icmp .eq 9, 3) := by decide +kernel
theorem dX4_gather_74 : decode cX4_gather 74 = .ok (.iload 4, 2) := by decide +kernel
theorem dX4_gather_76 : decode cX4_gather 76 = .ok (.iconst (-1), 1) := by decide +kernel
theorem dX4_gather_77 : decode cX4_gather 77 = .ok (.if_icmp .ne 4, 3) := by decide +kernel
theorem dX4_gather_80 : decode cX4_gather 80 = .ok (.return_, 1) := by decide +kernel
theorem dX4_gather_81 : decode cX4_gather 81 = .ok (.iload 4, 2) := by decide +kernel
theorem dX4_gather_83 : decode cX4_gather 83 = .ok (.iload 5, 2) := by decide +kernel
theorem dX4_gather_85 : decode cX4_gather 85 = .ok (.if_icmp .ne 8, 3) := by decide +kernel
theorem dX4_gather_88 : decode cX4_gather 88 = .ok (.iload 6, 2) := by decide +kernel
theorem dX4_gather_90 : decode cX4_gather 90 = .ok (.goto 5, 3) := by decide +kernel
theorem dX4_gather_93 : decode cX4_gather 93 = .ok (.iload 5, 2) := by decide +kernel
theorem dX4_gather_95 : decode cX4_gather 95 = .ok (.istore 7, 2) := by decide +kernel
theorem dX4_gather_97 : decode cX4_gather 97 = .ok (.aload_n 3, 1) := by decide +kernel
theorem dX4_gather_98 : decode cX4_gather 98 = .ok (.aload_n 0, 1) := by decide +kernel
theorem dX4_gather_99 : decode cX4_gather 99 = .ok (.getfield 19, 3) := by decide +kernel
theorem dX4_gather_102 : decode cX4_gather 102 = .ok (.iload_n 1, 1) := by decide +kernel
theorem dX4_gather_103 : decode cX4_gather 103 = .ok (.iaload, 1) := by decide +kernel
theorem dX4_gather_104 : decode cX4_gather 104 = .ok (.invokevirtual 116, 3) := by decide +kernel
theorem dX4_gather_107 : decode cX4_gather 107 = .ok (.istore 8, 2) := by decide +kernel
theorem dX4_gather_109 : decode cX4_gather 109 = .ok (.aload_n 0, 1) := by decide +kernel
theorem dX4_gather_110 : decode cX4_gather 110 = .ok (.getfield 25, 3) := by decide +kernel
theorem dX4_gather_113 : decode cX4_gather 113 = .ok (.iload 4, 2) := by decide +kernel
theorem dX4_gather_115 : decode cX4_gather 115 = .ok (.dup2, 1) := by decide +kernel
theorem dX4_gather_116 : decode cX4_gather 116 = .ok (.iaload, 1) := by decide +kernel
theorem dX4_gather_117 : decode cX4_gather 117 = .ok (.aload_n 0, 1) := by decide +kernel
theorem dX4_gather_118 : decode cX4_gather 118 = .ok (.getfield 19, 3) := by decide +kernel
theorem dX4_gather_121 : decode cX4_gather 121 = .ok (.iload_n 1, 1) := by decide +kernel
theorem dX4_gather_122 : decode cX4_gather 122 = .ok (.iaload, 1) := by decide +kernel
theorem dX4_gather_123 : decode cX4_gather 123 = .ok (.iload 8, 2) := by decide +kernel
theorem dX4_gather_125 : decode cX4_gather 125 = .ok (.isub, 1) := by decide +kernel
theorem dX4_gather_126 : decode cX4_gather 126 = .ok (.iadd, 1) := by decide +kernel
theorem dX4_gather_127 : decode cX4_gather 127 = .ok (.iastore, 1) := by decide +kernel
theorem dX4_gather_128 : decode cX4_gather 128 = .ok (.aload_n 0, 1) := by decide +kernel
theorem dX4_gather_129 : decode cX4_gather 129 = .ok (.getfield 25, 3) := by decide +kernel
theorem dX4_gather_132 : decode cX4_gather 132 = .ok (.iload 7, 2) := by decide +kernel
theorem dX4_gather_134 : decode cX4_gather 134 = .ok (.dup2, 1) := by decide +kernel
theorem dX4_gather_135 : decode cX4_gather 135 = .ok (.iaload, 1) := by decide +kernel
theorem dX4_gather_136 : decode cX4_gather 136 = .ok (.iload 8, 2) := by decide +kernel
theorem dX4_gather_138 : decode cX4_gather 138 = .ok (.iadd, 1) := by decide +kernel
theorem dX4_gather_139 : decode cX4_gather 139 = .ok (.iastore, 1) := by decide +kernel
theorem dX4_gather_140 : decode cX4_gather 140 = .ok (.aload_n 0, 1) := by decide +kernel
theorem dX4_gather_141 : decode cX4_gather 141 = .ok (.getfield 19, 3) := by decide +kernel
theorem dX4_gather_144 : decode cX4_gather 144 = .ok (.iload_n 1, 1) := by decide +kernel
theorem dX4_gather_145 : decode cX4_gather 145 = .ok (.iconst 0, 1) := by decide +kernel
theorem dX4_gather_146 : decode cX4_gather 146 = .ok (.iastore, 1) := by decide +kernel
theorem dX4_gather_147 : decode cX4_gather 147 = .ok (.return_, 1) := by decide +kernel
def KX4_gather_17 (E : EV) (d : Nat) (rr : Option Value × Mem) (b0 : Nat) (o3 : Nat) (x1 : Int32) (x2 : Int32) (I : Mem) (Kp : Mem → Prop) : ((Int32 × Int32 × Int32 × Int32) ⊕ Mem) → Prop
  | .inl q => G E (d + 1) kX4_gather 17 [some (.ref b0), some (.int x1), some (.int x2), some (.ref o3), some (.int q.1), some (.int q.2.1), some (.int q.2.2.1), some (.int q.2.2.2), none] [] I rr
  | .inr z => Kp z
def jX4_gather_95 (b0 : Nat) (o3 : Nat) (x1 : Int32) (x4 : Int32) (u0 : Int32) (I : Mem) : Option Mem :=
  chk (inb x1 5) <|
  bnd (fD_share o3 (I (b0 + 2) (ix x1)) I) fun v_3 =>
  chk (inb x4 4) <|
  chk (inb x1 5) <|
  chk (inb x4 4) <|
  letb (up2 I (b0 + 4) (ix x4) ((I (b0 + 4) (ix x4)) + ((I (b0 + 2) (ix x1)) - v_3))) fun I_8 =>
  chk (inb u0 4) <|
  chk (inb u0 4) <|
  letb (up2 I_8 (b0 + 4) (ix u0) ((I_8 (b0 + 4) (ix u0)) + v_3)) fun I_11 =>
  chk (inb x1 5) <|
  letb (up2 I_11 (b0 + 2) (ix x1) (0 : Int32)) fun I_13 =>
  some I_13
set_option maxRecDepth 20000 in
theorem tX4_gather_95 (E : EV) (d : Nat) (rr : Option Value × Mem) (b0 : Nat) (o3 : Nat) (x1 : Int32) (x4 : Int32) (u0 : Int32) (I : Mem) (hb0 : isH b0) (ho3 : isL o3) (y : Mem) (hf : jX4_gather_95 b0 o3 x1 x4 u0 I = some y) (hK : (fun (z : Mem) => ((none : Option Value), z) = rr) y) : G E (d + 1) kX4_gather 95 [some (.ref b0), some (.int x1), none, some (.ref o3), some (.int x4), none, none, none, none] [.int u0] I rr := by
  unfold jX4_gather_95 at hf
  refine G.istore (L' := [some (.ref b0), some (.int x1), none, some (.ref o3), some (.int x4), none, none, some (.int u0), none]) dX4_gather_95 (Nat.le_of_ble_eq_true rfl) (Nat.le_of_ble_eq_true rfl) rfl rfl ?_
  refine G.aload_n dX4_gather_97 rfl rfl ?_
  refine G.aload_n dX4_gather_98 rfl rfl ?_
  refine G.getR (q := (b0 + 2)) dX4_gather_99 flX4_19 (isH_lt hb0) (isH_lk hb0) (isH_r2 hb0) ?_
  refine G.iload_n dX4_gather_102 rfl rfl ?_
  obtain ⟨hi_2, hf⟩ := chk_at hf
  refine G.iald' dX4_gather_103 (isH_l2 hb0) (isH_k2 hb0) (isH_n2 hb0) hi_2 ?_
  obtain ⟨v_3, hc_4, hf⟩ := bnd_at hf
  refine vLX4_116 (rest := []) dX4_gather_104 ho3 hc_4 (Nat.le_of_ble_eq_true rfl) rfl ?_
  refine G.istore (L' := [some (.ref b0), some (.int x1), none, some (.ref o3), some (.int x4), none, none, some (.int u0), some (.int v_3)]) dX4_gather_107 (Nat.le_of_ble_eq_true rfl) (Nat.le_of_ble_eq_true rfl) rfl rfl ?_
  refine G.aload_n dX4_gather_109 rfl rfl ?_
  refine G.getR (q := (b0 + 4)) dX4_gather_110 flX4_25 (isH_lt hb0) (isH_lk hb0) (isH_r4 hb0) ?_
  refine G.iload dX4_gather_113 rfl ?_
  refine G.dup2 dX4_gather_115 rfl rfl ?_
  obtain ⟨hi_5, hf⟩ := chk_at hf
  refine G.iald' dX4_gather_116 (isH_l4 hb0) (isH_k4 hb0) (isH_n4 hb0) hi_5 ?_
  refine G.aload_n dX4_gather_117 rfl rfl ?_
  refine G.getR (q := (b0 + 2)) dX4_gather_118 flX4_19 (isH_lt hb0) (isH_lk hb0) (isH_r2 hb0) ?_
  refine G.iload_n dX4_gather_121 rfl rfl ?_
  obtain ⟨hi_6, hf⟩ := chk_at hf
  refine G.iald' dX4_gather_122 (isH_l2 hb0) (isH_k2 hb0) (isH_n2 hb0) hi_6 ?_
  refine G.iload dX4_gather_123 rfl ?_
  refine G.isub dX4_gather_125 ?_
  refine G.iadd dX4_gather_126 ?_
  obtain ⟨hi_7, hf⟩ := chk_at hf
  refine G.iast' dX4_gather_127 (isH_l4 hb0) (isH_k4 hb0) (isH_n4 hb0) hi_7 ?_
  refine G.nmI (fun I_8 e_I_8 => ?_)
  have hf := letb_at hf e_I_8
  clear e_I_8
  refine G.aload_n dX4_gather_128 rfl rfl ?_
  refine G.getR (q := (b0 + 4)) dX4_gather_129 flX4_25 (isH_lt hb0) (isH_lk hb0) (isH_r4 hb0) ?_
  refine G.iload dX4_gather_132 rfl ?_
  refine G.dup2 dX4_gather_134 rfl rfl ?_
  obtain ⟨hi_9, hf⟩ := chk_at hf
  refine G.iald' dX4_gather_135 (isH_l4 hb0) (isH_k4 hb0) (isH_n4 hb0) hi_9 ?_
  refine G.iload dX4_gather_136 rfl ?_
  refine G.iadd dX4_gather_138 ?_
  obtain ⟨hi_10, hf⟩ := chk_at hf
  refine G.iast' dX4_gather_139 (isH_l4 hb0) (isH_k4 hb0) (isH_n4 hb0) hi_10 ?_
  refine G.nmI (fun I_11 e_I_11 => ?_)
  have hf := letb_at hf e_I_11
  clear e_I_11
  refine G.aload_n dX4_gather_140 rfl rfl ?_
  refine G.getR (q := (b0 + 2)) dX4_gather_141 flX4_19 (isH_lt hb0) (isH_lk hb0) (isH_r2 hb0) ?_
  refine G.iload_n dX4_gather_144 rfl rfl ?_
  refine G.iconst (v := 0) dX4_gather_145 (by decide) ?_
  obtain ⟨hi_12, hf⟩ := chk_at hf
  refine G.iast' dX4_gather_146 (isH_l2 hb0) (isH_k2 hb0) (isH_n2 hb0) hi_12 ?_
  refine G.nmI (fun I_13 e_I_13 => ?_)
  have hf := letb_at hf e_I_13
  clear e_I_13
  have hf := Option.some.inj hf
  subst hf
  exact G.vret' dX4_gather_147 rfl hK
def bX4_gather_17 (b0 : Nat) (o3 : Nat) (x1 : Int32) (x2 : Int32) (I : Mem) (x4 : Int32) (x5 : Int32) (x6 : Int32) (x7 : Int32) : Option ((Int32 × Int32 × Int32 × Int32) ⊕ Mem) :=
  if x7 < 0 then
  (if x6 = (-1 : Int32) then
  (some (.inr I))
  else
  (if x4 = (-1 : Int32) then
  (some (.inr I))
  else
  (if x4 = x5 then
  (inrO (jX4_gather_95 b0 o3 x1 x4 x6 I))
  else
  (inrO (jX4_gather_95 b0 o3 x1 x4 x5 I)))))
  else
  (bnd (fX11_roomOf (I b0 3) x7 I) fun v_20 =>
  if v_20 = x1 then
  (bnd (fX11_roomOf x2 x7 I) fun v_22 =>
  if v_22 = x1 then
  (some (.inl (x4, x7, x5, (x7 + (-1 : Int32)))))
  else
  (some (.inl (x7, x7, x5, (x7 + (-1 : Int32))))))
  else
  (some (.inl (x4, x5, x6, (x7 + (-1 : Int32))))))
def sX4_gather_17 (b0 : Nat) (o3 : Nat) (x1 : Int32) (x2 : Int32) (I : Mem) (q : (Int32 × Int32 × Int32 × Int32)) : Option ((Int32 × Int32 × Int32 × Int32) ⊕ Mem) := bX4_gather_17 b0 o3 x1 x2 I q.1 q.2.1 q.2.2.1 q.2.2.2
set_option maxRecDepth 20000 in
theorem wX4_gather_17 (E : EV) (d : Nat) (rr : Option Value × Mem) (b0 : Nat) (o3 : Nat) (x1 : Int32) (x2 : Int32) (I : Mem) (x4 : Int32) (x5 : Int32) (x6 : Int32) (x7 : Int32) (hb0 : isH b0) (ho3 : isL o3) (y : ((Int32 × Int32 × Int32 × Int32) ⊕ Mem)) (hf : bX4_gather_17 b0 o3 x1 x2 I x4 x5 x6 x7 = some y) (hK : (KX4_gather_17 E d rr b0 o3 x1 x2 I (fun (z : Mem) => ((none : Option Value), z) = rr)) y) : G E (d + 1) kX4_gather 17 [some (.ref b0), some (.int x1), some (.int x2), some (.ref o3), some (.int x4), some (.int x5), some (.int x6), some (.int x7), none] [] I rr := by
  unfold bX4_gather_17 at hf
  refine G.iload dX4_gather_17 rfl ?_
  refine G.if_lt (tgt := 68) dX4_gather_19 (by decide) (fun c_25 => ?_) (fun c_25 => ?_)
  · have hf := ite_t hf c_25
    refine G.iload dX4_gather_68 rfl ?_
    refine G.iconst (v := -1) dX4_gather_70 (by decide) ?_
    refine G.icmp_eq (tgt := 80) dX4_gather_71 (by decide) (fun c_18 => ?_) (fun c_18 => ?_)
    · have hf := ite_t hf c_18
      have hf := Option.some.inj hf
      subst hf
      exact G.vret' dX4_gather_80 rfl hK
    · have hf := ite_f hf c_18
      refine G.iload dX4_gather_74 rfl ?_
      refine G.iconst (v := -1) dX4_gather_76 (by decide) ?_
      refine G.icmp_ne (tgt := 81) dX4_gather_77 (by decide) (fun c_17 => ?_) (fun c_17 => ?_)
      · have hf := ite_f hf c_17
        refine G.iload dX4_gather_81 rfl ?_
        refine G.iload dX4_gather_83 rfl ?_
        refine G.icmp_ne (tgt := 93) dX4_gather_85 (by decide) (fun c_16 => ?_) (fun c_16 => ?_)
        · have hf := ite_f hf c_16
          refine G.iload dX4_gather_93 rfl ?_
          obtain ⟨z_14, hz_14, rfl⟩ := inrO_at hf
          have hf := hz_14
          refine G.forget (L' := [some (.ref b0), some (.int x1), none, some (.ref o3), some (.int x4), none, none, none, none]) [2, 5, 6, 7] rfl ?_
          exact tX4_gather_95 E d rr b0 o3 x1 x4 x5 I hb0 ho3 _ hf hK
        · have hf := ite_t hf c_16
          refine G.iload dX4_gather_88 rfl ?_
          refine G.goto (tgt := 95) dX4_gather_90 (by decide) ?_
          obtain ⟨z_15, hz_15, rfl⟩ := inrO_at hf
          have hf := hz_15
          refine G.forget (L' := [some (.ref b0), some (.int x1), none, some (.ref o3), some (.int x4), none, none, none, none]) [2, 5, 6, 7] rfl ?_
          exact tX4_gather_95 E d rr b0 o3 x1 x4 x6 I hb0 ho3 _ hf hK
      · have hf := ite_t hf c_17
        have hf := Option.some.inj hf
        subst hf
        exact G.vret' dX4_gather_80 rfl hK
  · have hf := ite_f hf c_25
    refine G.aload_n dX4_gather_22 rfl rfl ?_
    refine G.getI dX4_gather_23 flX4_49 (isH_lt hb0) (isH_lk hb0) ?_
    refine G.iload dX4_gather_26 rfl ?_
    obtain ⟨v_20, hc_19, hf⟩ := bnd_at hf
    refine G.callNi (av := [.int (I b0 3), .int x7]) (rest := []) dX4_gather_28 mnX4_76 (gX11_roomOf E d (I b0 3) x7 I hc_19) rfl rfl (Nat.le_of_ble_eq_true rfl) ?_
    refine G.iload_n dX4_gather_31 rfl rfl ?_
    refine G.icmp_ne (tgt := 62) dX4_gather_32 (by decide) (fun c_24 => ?_) (fun c_24 => ?_)
    · have hf := ite_f hf c_24
      refine G.inc (w := -1) (L' := [some (.ref b0), some (.int x1), some (.int x2), some (.ref o3), some (.int x4), some (.int x5), some (.int x6), some (.int (x7 + (-1 : Int32))), none]) dX4_gather_62 (by decide) rfl (Nat.le_of_ble_eq_true rfl) rfl rfl ?_
      refine G.goto (tgt := 17) dX4_gather_65 (by decide) ?_
      have hf := Option.some.inj hf
      subst hf
      exact hK
    · have hf := ite_t hf c_24
      refine G.iload dX4_gather_35 rfl ?_
      refine G.istore (L' := [some (.ref b0), some (.int x1), some (.int x2), some (.ref o3), some (.int x4), some (.int x5), some (.int x5), some (.int x7), none]) dX4_gather_37 (Nat.le_of_ble_eq_true rfl) (Nat.le_of_ble_eq_true rfl) rfl rfl ?_
      refine G.iload dX4_gather_39 rfl ?_
      refine G.istore (L' := [some (.ref b0), some (.int x1), some (.int x2), some (.ref o3), some (.int x4), some (.int x7), some (.int x5), some (.int x7), none]) dX4_gather_41 (Nat.le_of_ble_eq_true rfl) (Nat.le_of_ble_eq_true rfl) rfl rfl ?_
      refine G.iload_n dX4_gather_43 rfl rfl ?_
      refine G.iload dX4_gather_44 rfl ?_
      obtain ⟨v_22, hc_21, hf⟩ := bnd_at hf
      refine G.callNi (av := [.int x2, .int x7]) (rest := []) dX4_gather_46 mnX4_76 (gX11_roomOf E d x2 x7 I hc_21) rfl rfl (Nat.le_of_ble_eq_true rfl) ?_
      refine G.iload_n dX4_gather_49 rfl rfl ?_
      refine G.icmp_ne (tgt := 58) dX4_gather_50 (by decide) (fun c_23 => ?_) (fun c_23 => ?_)
      · have hf := ite_f hf c_23
        refine G.iload dX4_gather_58 rfl ?_
        refine G.istore (L' := [some (.ref b0), some (.int x1), some (.int x2), some (.ref o3), some (.int x7), some (.int x7), some (.int x5), some (.int x7), none]) dX4_gather_60 (Nat.le_of_ble_eq_true rfl) (Nat.le_of_ble_eq_true rfl) rfl rfl ?_
        refine G.inc (w := -1) (L' := [some (.ref b0), some (.int x1), some (.int x2), some (.ref o3), some (.int x7), some (.int x7), some (.int x5), some (.int (x7 + (-1 : Int32))), none]) dX4_gather_62 (by decide) rfl (Nat.le_of_ble_eq_true rfl) rfl rfl ?_
        refine G.goto (tgt := 17) dX4_gather_65 (by decide) ?_
        have hf := Option.some.inj hf
        subst hf
        exact hK
      · have hf := ite_t hf c_23
        refine G.iload dX4_gather_53 rfl ?_
        refine G.goto (tgt := 60) dX4_gather_55 (by decide) ?_
        refine G.istore (L' := [some (.ref b0), some (.int x1), some (.int x2), some (.ref o3), some (.int x4), some (.int x7), some (.int x5), some (.int x7), none]) dX4_gather_60 (Nat.le_of_ble_eq_true rfl) (Nat.le_of_ble_eq_true rfl) rfl rfl ?_
        refine G.inc (w := -1) (L' := [some (.ref b0), some (.int x1), some (.int x2), some (.ref o3), some (.int x4), some (.int x7), some (.int x5), some (.int (x7 + (-1 : Int32))), none]) dX4_gather_62 (by decide) rfl (Nat.le_of_ble_eq_true rfl) rfl rfl ?_
        refine G.goto (tgt := 17) dX4_gather_65 (by decide) ?_
        have hf := Option.some.inj hf
        subst hf
        exact hK
theorem lX4_gather_17 (E : EV) (d : Nat) (rr : Option Value × Mem) (b0 : Nat) (o3 : Nat) (x1 : Int32) (x2 : Int32) (I : Mem) (hb0 : isH b0) (ho3 : isL o3) (z : Mem) (hK : (fun (z : Mem) => ((none : Option Value), z) = rr) z) : ∀ (n : Nat) (q : (Int32 × Int32 × Int32 × Int32)), iter (sX4_gather_17 b0 o3 x1 x2 I) n q = some z → G E (d + 1) kX4_gather 17 [some (.ref b0), some (.int x1), some (.int x2), some (.ref o3), some (.int q.1), some (.int q.2.1), some (.int q.2.2.1), some (.int q.2.2.2), none] [] I rr := by
  intro n
  induction n with
  | zero => intro q h; cases h
  | succ n ih =>
    intro q h
    rcases iter_at h with ⟨q2, hs, h2⟩ | hs
    · exact wX4_gather_17 E d rr b0 o3 x1 x2 I q.1 q.2.1 q.2.2.1 q.2.2.2 hb0 ho3 _ hs (ih q2 h2)
    · exact wX4_gather_17 E d rr b0 o3 x1 x2 I q.1 q.2.1 q.2.2.1 q.2.2.2 hb0 ho3 _ hs hK
def fX4_gather (b0 : Nat) (x1 : Int32) (x2 : Int32) (o3 : Nat) (I : Mem) : Option Mem :=
  letb ((I b0 2) - (1 : Int32)) fun x7_1 =>
  iter (sX4_gather_17 b0 o3 x1 x2 I) FU ((-1 : Int32), (-1 : Int32), (-1 : Int32), x7_1)
set_option maxRecDepth 20000 in
theorem gX4_gather (E : EV) (d : Nat) (b0 : Nat) (x1 : Int32) (x2 : Int32) (o3 : Nat) (I : Mem) (hb0 : isH b0) (ho3 : isL o3) {J : Mem} (hf : fX4_gather b0 x1 x2 o3 I = some J) : Gm E (d + 1) kX4_gather [.ref b0, .int x1, .int x2, .ref o3] I (none, J) := by
  refine (fun (y : Mem) (hf : fX4_gather b0 x1 x2 o3 I = some y) => (?_ : Gm E (d + 1) kX4_gather [.ref b0, .int x1, .int x2, .ref o3] I (none, y))) J hf
  refine Gm.of (by decide) rfl (Nat.le_of_ble_eq_true rfl) ?_
  generalize hrr : ((none, y) : Option Value × Mem) = rr
  show G E (d + 1) kX4_gather 0 [some (.ref b0), some (.int x1), some (.int x2), some (.ref o3), none, none, none, none, none] [] I rr
  have hK : (fun (z : Mem) => ((none : Option Value), z) = rr) y := hrr
  clear hrr
  unfold fX4_gather at hf
  refine G.iconst (v := -1) dX4_gather_0 (by decide) ?_
  refine G.istore (L' := [some (.ref b0), some (.int x1), some (.int x2), some (.ref o3), some (.int (-1 : Int32)), none, none, none, none]) dX4_gather_1 (Nat.le_of_ble_eq_true rfl) (Nat.le_of_ble_eq_true rfl) rfl rfl ?_
  refine G.iconst (v := -1) dX4_gather_3 (by decide) ?_
  refine G.istore (L' := [some (.ref b0), some (.int x1), some (.int x2), some (.ref o3), some (.int (-1 : Int32)), some (.int (-1 : Int32)), none, none, none]) dX4_gather_4 (Nat.le_of_ble_eq_true rfl) (Nat.le_of_ble_eq_true rfl) rfl rfl ?_
  refine G.iconst (v := -1) dX4_gather_6 (by decide) ?_
  refine G.istore (L' := [some (.ref b0), some (.int x1), some (.int x2), some (.ref o3), some (.int (-1 : Int32)), some (.int (-1 : Int32)), some (.int (-1 : Int32)), none, none]) dX4_gather_7 (Nat.le_of_ble_eq_true rfl) (Nat.le_of_ble_eq_true rfl) rfl rfl ?_
  refine G.aload_n dX4_gather_9 rfl rfl ?_
  refine G.getI dX4_gather_10 flX4_46 (isH_lt hb0) (isH_lk hb0) ?_
  refine G.iconst (v := 1) dX4_gather_13 (by decide) ?_
  refine G.isub dX4_gather_14 ?_
  refine G.nmi (fun x7_1 e_x7_1 => ?_)
  have hf := letb_at hf e_x7_1
  clear e_x7_1
  refine G.istore (L' := [some (.ref b0), some (.int x1), some (.int x2), some (.ref o3), some (.int (-1 : Int32)), some (.int (-1 : Int32)), some (.int (-1 : Int32)), some (.int x7_1), none]) dX4_gather_15 (Nat.le_of_ble_eq_true rfl) (Nat.le_of_ble_eq_true rfl) rfl rfl ?_
  exact lX4_gather_17 E d rr b0 o3 x1 x2 I hb0 ho3 _ hK FU _ hf
theorem dX4_go_0 : decode cX4_go 0 = .ok (.aload_n 0, 1) := by decide +kernel
theorem dX4_go_1 : decode cX4_go 1 = .ok (.getfield 49, 3) := by decide +kernel
theorem dX4_go_4 : decode cX4_go 4 = .ok (.istore_n 3, 1) := by decide +kernel
theorem dX4_go_5 : decode cX4_go 5 = .ok (.aload_n 0, 1) := by decide +kernel
theorem dX4_go_6 : decode cX4_go 6 = .ok (.dup, 1) := by decide +kernel
theorem dX4_go_7 : decode cX4_go 7 = .ok (.getfield 55, 3) := by decide +kernel
theorem dX4_go_10 : decode cX4_go 10 = .ok (.iconst 1, 1) := by decide +kernel
theorem dX4_go_11 : decode cX4_go 11 = .ok (.iadd, 1) := by decide +kernel
theorem dX4_go_12 : decode cX4_go 12 = .ok (.putfield 55, 3) := by decide +kernel
theorem dX4_go_15 : decode cX4_go 15 = .ok (.aload_n 0, 1) := by decide +kernel
theorem dX4_go_16 : decode cX4_go 16 = .ok (.iload_n 3, 1) := by decide +kernel
theorem dX4_go_17 : decode cX4_go 17 = .ok (.iload_n 1, 1) := by decide +kernel
theorem dX4_go_18 : decode cX4_go 18 = .ok (.aload_n 0, 1) := by decide +kernel
theorem dX4_go_19 : decode cX4_go 19 = .ok (.iload_n 3, 1) := by decide +kernel
theorem dX4_go_20 : decode cX4_go 20 = .ok (.invokevirtual 87, 3) := by decide +kernel
theorem dX4_go_23 : decode cX4_go 23 = .ok (.aload_n 0, 1) := by decide +kernel
theorem dX4_go_24 : decode cX4_go 24 = .ok (.iload_n 1, 1) := by decide +kernel
theorem dX4_go_25 : decode cX4_go 25 = .ok (.invokevirtual 87, 3) := by decide +kernel
theorem dX4_go_28 : decode cX4_go 28 = .ok (.aload_n 0, 1) := by decide +kernel
theorem dX4_go_29 : decode cX4_go 29 = .ok (.getfield 55, 3) := by decide +kernel
theorem dX4_go_32 : decode cX4_go 32 = .ok (.aload_n 2, 1) := by decide +kernel
theorem dX4_go_33 : decode cX4_go 33 = .ok (.invokevirtual 108, 3) := by decide +kernel
theorem dX4_go_36 : decode cX4_go 36 = .ok (.istore 4, 2) := by decide +kernel
theorem dX4_go_38 : decode cX4_go 38 = .ok (.aload_n 0, 1) := by decide +kernel
theorem dX4_go_39 : decode cX4_go 39 = .ok (.iload_n 1, 1) := by decide +kernel
theorem dX4_go_40 : decode cX4_go 40 = .ok (.putfield 49, 3) := by decide +kernel
theorem dX4_go_43 : decode cX4_go 43 = .ok (.iconst 0, 1) := by decide +kernel
theorem dX4_go_44 : decode cX4_go 44 = .ok (.istore 5, 2) := by decide +kernel
theorem dX4_go_46 : decode cX4_go 46 = .ok (.iload 5, 2) := by decide +kernel
theorem dX4_go_48 : decode cX4_go 48 = .ok (.aload_n 0, 1) := by decide +kernel
theorem dX4_go_49 : decode cX4_go 49 = .ok (.getfield 46, 3) := by decide +kernel
theorem dX4_go_52 : decode cX4_go 52 = .ok (.if_icmp .ge 45, 3) := by decide +kernel
theorem dX4_go_55 : decode cX4_go 55 = .ok (.iload 4, 2) := by decide +kernel
theorem dX4_go_57 : decode cX4_go 57 = .ok (.iload 5, 2) := by decide +kernel
theorem dX4_go_59 : decode cX4_go 59 = .ok (.invokestatic 83, 3) := by decide +kernel
theorem dX4_go_62 : decode cX4_go 62 = .ok (.ifCond .eq 29, 3) := by decide +kernel
theorem dX4_go_65 : decode cX4_go 65 = .ok (.aload_n 0, 1) := by decide +kernel
theorem dX4_go_66 : decode cX4_go 66 = .ok (.getfield 25, 3) := by decide +kernel
theorem dX4_go_69 : decode cX4_go 69 = .ok (.iload 5, 2) := by decide +kernel
theorem dX4_go_71 : decode cX4_go 71 = .ok (.dup2, 1) := by decide +kernel
theorem dX4_go_72 : decode cX4_go 72 = .ok (.iaload, 1) := by decide +kernel
theorem dX4_go_73 : decode cX4_go 73 = .ok (.iconst 1, 1) := by decide +kernel
theorem dX4_go_74 : decode cX4_go 74 = .ok (.isub, 1) := by decide +kernel
theorem dX4_go_75 : decode cX4_go 75 = .ok (.iastore, 1) := by decide +kernel
theorem dX4_go_76 : decode cX4_go 76 = .ok (.aload_n 0, 1) := by decide +kernel
theorem dX4_go_77 : decode cX4_go 77 = .ok (.getfield 19, 3) := by decide +kernel
theorem dX4_go_80 : decode cX4_go 80 = .ok (.iload_n 1, 1) := by decide +kernel
theorem dX4_go_81 : decode cX4_go 81 = .ok (.iload 5, 2) := by decide +kernel
theorem dX4_go_83 : decode cX4_go 83 = .ok (.invokestatic 76, 3) := by decide +kernel
theorem dX4_go_86 : decode cX4_go 86 = .ok (.dup2, 1) := by decide +kernel
theorem dX4_go_87 : decode cX4_go 87 = .ok (.iaload, 1) := by decide +kernel
theorem dX4_go_88 : decode cX4_go 88 = .ok (.iconst 1, 1) := by decide +kernel
theorem dX4_go_89 : decode cX4_go 89 = .ok (.iadd, 1) := by decide +kernel
theorem dX4_go_90 : decode cX4_go 90 = .ok (.iastore, 1) := by decide +kernel
theorem dX4_go_91 : decode cX4_go 91 = .ok (.iinc 5 1, 3) := by decide +kernel
theorem dX4_go_94 : decode cX4_go 94 = .ok (.goto (-48), 3) := by decide +kernel
theorem dX4_go_97 : decode cX4_go 97 = .ok (.iconst 0, 1) := by decide +kernel
theorem dX4_go_98 : decode cX4_go 98 = .ok (.istore 5, 2) := by decide +kernel
theorem dX4_go_100 : decode cX4_go 100 = .ok (.iload 5, 2) := by decide +kernel
theorem dX4_go_102 : decode cX4_go 102 = .ok (.aload_n 0, 1) := by decide +kernel
theorem dX4_go_103 : decode cX4_go 103 = .ok (.getfield 9, 3) := by decide +kernel
theorem dX4_go_106 : decode cX4_go 106 = .ok (.if_icmp .ge 17, 3) := by decide +kernel
theorem dX4_go_109 : decode cX4_go 109 = .ok (.aload_n 0, 1) := by decide +kernel
theorem dX4_go_110 : decode cX4_go 110 = .ok (.iload 5, 2) := by decide +kernel
theorem dX4_go_112 : decode cX4_go 112 = .ok (.iload_n 3, 1) := by decide +kernel
theorem dX4_go_113 : decode cX4_go 113 = .ok (.aload_n 2, 1) := by decide +kernel
theorem dX4_go_114 : decode cX4_go 114 = .ok (.invokevirtual 112, 3) := by decide +kernel
theorem dX4_go_117 : decode cX4_go 117 = .ok (.iinc 5 1, 3) := by decide +kernel
theorem dX4_go_120 : decode cX4_go 120 = .ok (.goto (-20), 3) := by decide +kernel
theorem dX4_go_123 : decode cX4_go 123 = .ok (.iload 4, 2) := by decide +kernel
theorem dX4_go_125 : decode cX4_go 125 = .ok (.invokestatic 70, 3) := by decide +kernel
theorem dX4_go_128 : decode cX4_go 128 = .ok (.ireturn, 1) := by decide +kernel
def KX4_go_46 (E : EV) (d : Nat) (rr : Option Value × Mem) (b0 : Nat) (o2 : Nat) (x1 : Int32) (x3 : Int32) (x4 : Int32) (Kp : (Int32 × Mem) → Prop) : ((Int32 × Mem) ⊕ (Int32 × Mem)) → Prop
  | .inl q => G E (d + 3) kX4_go 46 [some (.ref b0), some (.int x1), some (.ref o2), some (.int x3), some (.int x4), some (.int q.1)] [] q.2 rr
  | .inr z => Kp z
def KX4_go_100 (E : EV) (d : Nat) (rr : Option Value × Mem) (b0 : Nat) (o2 : Nat) (x3 : Int32) (x4 : Int32) (Kp : (Int32 × Mem) → Prop) : ((Int32 × Mem) ⊕ (Int32 × Mem)) → Prop
  | .inl q => G E (d + 3) kX4_go 100 [some (.ref b0), none, some (.ref o2), some (.int x3), some (.int x4), some (.int q.1)] [] q.2 rr
  | .inr z => Kp z
def bX4_go_100 (b0 : Nat) (o2 : Nat) (x3 : Int32) (x4 : Int32) (x5 : Int32) (I : Mem) : Option ((Int32 × Mem) ⊕ (Int32 × Mem)) :=
  if (I b0 0) ≤ x5 then
  (bnd (fJ6_bitCount_0f7a4 x4 I) fun v_11 =>
  some (.inr (v_11, I)))
  else
  (bnd (fX4_gather b0 x5 x3 o2 I) fun I_13 =>
  some (.inl ((x5 + (1 : Int32)), I_13)))
def sX4_go_100 (b0 : Nat) (o2 : Nat) (x3 : Int32) (x4 : Int32) (q : (Int32 × Mem)) : Option ((Int32 × Mem) ⊕ (Int32 × Mem)) := bX4_go_100 b0 o2 x3 x4 q.1 q.2
set_option maxRecDepth 20000 in
theorem wX4_go_100 (E : EV) (d : Nat) (rr : Option Value × Mem) (b0 : Nat) (o2 : Nat) (x3 : Int32) (x4 : Int32) (x5 : Int32) (I : Mem) (hb0 : isH b0) (ho2 : isL o2) (y : ((Int32 × Mem) ⊕ (Int32 × Mem))) (hf : bX4_go_100 b0 o2 x3 x4 x5 I = some y) (hK : (KX4_go_100 E d rr b0 o2 x3 x4 (fun (z : Int32 × Mem) => (some (.int z.1), z.2) = rr)) y) : G E (d + 3) kX4_go 100 [some (.ref b0), none, some (.ref o2), some (.int x3), some (.int x4), some (.int x5)] [] I rr := by
  unfold bX4_go_100 at hf
  refine G.iload dX4_go_100 rfl ?_
  refine G.aload_n dX4_go_102 rfl rfl ?_
  refine G.getI dX4_go_103 flX4_9 (isH_lt hb0) (isH_lk hb0) ?_
  refine G.icmp_ge (tgt := 123) dX4_go_106 (by decide) (fun c_14 => ?_) (fun c_14 => ?_)
  · have hf := ite_t hf c_14
    refine G.iload dX4_go_123 rfl ?_
    obtain ⟨v_11, hc_10, hf⟩ := bnd_at hf
    refine G.callSi (av := [.int x4]) (rest := []) dX4_go_125 msX4_70 (gJ6_bitCount_0f7a4 E (d + 2) x4 I hc_10) rfl rfl (Nat.le_of_ble_eq_true rfl) ?_
    have hf := Option.some.inj hf
    subst hf
    exact G.iret' dX4_go_128 rfl hK
  · have hf := ite_f hf c_14
    refine G.aload_n dX4_go_109 rfl rfl ?_
    refine G.iload dX4_go_110 rfl ?_
    refine G.iload_n dX4_go_112 rfl rfl ?_
    refine G.aload_n dX4_go_113 rfl rfl ?_
    obtain ⟨I_13, hc_12, hf⟩ := bnd_at hf
    refine G.callVv (av := [.int x5, .int x3, .ref o2]) (rest := []) dX4_go_114 mvX4_112 (gX4_gather E (d + 1) b0 x5 x3 o2 I hb0 ho2 hc_12) (isH_lt hb0) (isH_lk hb0) rfl rfl (Nat.le_of_ble_eq_true rfl) ?_
    refine G.inc (w := 1) (L' := [some (.ref b0), none, some (.ref o2), some (.int x3), some (.int x4), some (.int (x5 + (1 : Int32)))]) dX4_go_117 (by decide) rfl (Nat.le_of_ble_eq_true rfl) rfl rfl ?_
    refine G.goto (tgt := 100) dX4_go_120 (by decide) ?_
    have hf := Option.some.inj hf
    subst hf
    exact hK
theorem lX4_go_100 (E : EV) (d : Nat) (rr : Option Value × Mem) (b0 : Nat) (o2 : Nat) (x3 : Int32) (x4 : Int32) (hb0 : isH b0) (ho2 : isL o2) (z : (Int32 × Mem)) (hK : (fun (z : Int32 × Mem) => (some (.int z.1), z.2) = rr) z) : ∀ (n : Nat) (q : (Int32 × Mem)), iter (sX4_go_100 b0 o2 x3 x4) n q = some z → G E (d + 3) kX4_go 100 [some (.ref b0), none, some (.ref o2), some (.int x3), some (.int x4), some (.int q.1)] [] q.2 rr := by
  intro n
  induction n with
  | zero => intro q h; cases h
  | succ n ih =>
    intro q h
    rcases iter_at h with ⟨q2, hs, h2⟩ | hs
    · exact wX4_go_100 E d rr b0 o2 x3 x4 q.1 q.2 hb0 ho2 _ hs (ih q2 h2)
    · exact wX4_go_100 E d rr b0 o2 x3 x4 q.1 q.2 hb0 ho2 _ hs hK
def bX4_go_46 (b0 : Nat) (o2 : Nat) (x1 : Int32) (x3 : Int32) (x4 : Int32) (x5 : Int32) (I : Mem) : Option ((Int32 × Mem) ⊕ (Int32 × Mem)) :=
  if (I b0 2) ≤ x5 then
  (inrO (iter (sX4_go_100 b0 o2 x3 x4) FU ((0 : Int32), I)))
  else
  (bnd (fX11_has x4 x5 I) fun v_17 =>
  if v_17 = 0 then
  (some (.inl ((x5 + (1 : Int32)), I)))
  else
  (chk (inb x5 4) <|
  chk (inb x5 4) <|
  letb (up2 I (b0 + 4) (ix x5) ((I (b0 + 4) (ix x5)) - (1 : Int32))) fun I_20 =>
  bnd (fX11_roomOf x1 x5 I_20) fun v_22 =>
  chk (inb v_22 5) <|
  chk (inb v_22 5) <|
  letb (up2 I_20 (b0 + 2) (ix v_22) ((I_20 (b0 + 2) (ix v_22)) + (1 : Int32))) fun I_25 =>
  some (.inl ((x5 + (1 : Int32)), I_25))))
def sX4_go_46 (b0 : Nat) (o2 : Nat) (x1 : Int32) (x3 : Int32) (x4 : Int32) (q : (Int32 × Mem)) : Option ((Int32 × Mem) ⊕ (Int32 × Mem)) := bX4_go_46 b0 o2 x1 x3 x4 q.1 q.2
set_option maxRecDepth 20000 in
theorem wX4_go_46 (E : EV) (d : Nat) (rr : Option Value × Mem) (b0 : Nat) (o2 : Nat) (x1 : Int32) (x3 : Int32) (x4 : Int32) (x5 : Int32) (I : Mem) (hb0 : isH b0) (ho2 : isL o2) (y : ((Int32 × Mem) ⊕ (Int32 × Mem))) (hf : bX4_go_46 b0 o2 x1 x3 x4 x5 I = some y) (hK : (KX4_go_46 E d rr b0 o2 x1 x3 x4 (fun (z : Int32 × Mem) => (some (.int z.1), z.2) = rr)) y) : G E (d + 3) kX4_go 46 [some (.ref b0), some (.int x1), some (.ref o2), some (.int x3), some (.int x4), some (.int x5)] [] I rr := by
  unfold bX4_go_46 at hf
  refine G.iload dX4_go_46 rfl ?_
  refine G.aload_n dX4_go_48 rfl rfl ?_
  refine G.getI dX4_go_49 flX4_46 (isH_lt hb0) (isH_lk hb0) ?_
  refine G.icmp_ge (tgt := 97) dX4_go_52 (by decide) (fun c_27 => ?_) (fun c_27 => ?_)
  · have hf := ite_t hf c_27
    refine G.iconst (v := 0) dX4_go_97 (by decide) ?_
    refine G.istore (L' := [some (.ref b0), some (.int x1), some (.ref o2), some (.int x3), some (.int x4), some (.int (0 : Int32))]) dX4_go_98 (Nat.le_of_ble_eq_true rfl) (Nat.le_of_ble_eq_true rfl) rfl rfl ?_
    obtain ⟨z_15, hz_15, rfl⟩ := inrO_at hf
    have hf := hz_15
    refine G.forget (L' := [some (.ref b0), none, some (.ref o2), some (.int x3), some (.int x4), some (.int (0 : Int32))]) [1] rfl ?_
    exact lX4_go_100 E d rr b0 o2 x3 x4 hb0 ho2 _ hK FU _ hf
  · have hf := ite_f hf c_27
    refine G.iload dX4_go_55 rfl ?_
    refine G.iload dX4_go_57 rfl ?_
    obtain ⟨v_17, hc_16, hf⟩ := bnd_at hf
    refine G.callNi (av := [.int x4, .int x5]) (rest := []) dX4_go_59 mnX4_83 (gX11_has E (d + 2) x4 x5 I hc_16) rfl rfl (Nat.le_of_ble_eq_true rfl) ?_
    refine G.if_eq (tgt := 91) dX4_go_62 (by decide) (fun c_26 => ?_) (fun c_26 => ?_)
    · have hf := ite_t hf c_26
      refine G.inc (w := 1) (L' := [some (.ref b0), some (.int x1), some (.ref o2), some (.int x3), some (.int x4), some (.int (x5 + (1 : Int32)))]) dX4_go_91 (by decide) rfl (Nat.le_of_ble_eq_true rfl) rfl rfl ?_
      refine G.goto (tgt := 46) dX4_go_94 (by decide) ?_
      have hf := Option.some.inj hf
      subst hf
      exact hK
    · have hf := ite_f hf c_26
      refine G.aload_n dX4_go_65 rfl rfl ?_
      refine G.getR (q := (b0 + 4)) dX4_go_66 flX4_25 (isH_lt hb0) (isH_lk hb0) (isH_r4 hb0) ?_
      refine G.iload dX4_go_69 rfl ?_
      refine G.dup2 dX4_go_71 rfl rfl ?_
      obtain ⟨hi_18, hf⟩ := chk_at hf
      refine G.iald' dX4_go_72 (isH_l4 hb0) (isH_k4 hb0) (isH_n4 hb0) hi_18 ?_
      refine G.iconst (v := 1) dX4_go_73 (by decide) ?_
      refine G.isub dX4_go_74 ?_
      obtain ⟨hi_19, hf⟩ := chk_at hf
      refine G.iast' dX4_go_75 (isH_l4 hb0) (isH_k4 hb0) (isH_n4 hb0) hi_19 ?_
      refine G.nmI (fun I_20 e_I_20 => ?_)
      have hf := letb_at hf e_I_20
      clear e_I_20
      refine G.aload_n dX4_go_76 rfl rfl ?_
      refine G.getR (q := (b0 + 2)) dX4_go_77 flX4_19 (isH_lt hb0) (isH_lk hb0) (isH_r2 hb0) ?_
      refine G.iload_n dX4_go_80 rfl rfl ?_
      refine G.iload dX4_go_81 rfl ?_
      obtain ⟨v_22, hc_21, hf⟩ := bnd_at hf
      refine G.callNi (av := [.int x1, .int x5]) (rest := [.ref (b0 + 2)]) dX4_go_83 mnX4_76 (gX11_roomOf E (d + 2) x1 x5 I_20 hc_21) rfl rfl (Nat.le_of_ble_eq_true rfl) ?_
      refine G.dup2 dX4_go_86 rfl rfl ?_
      obtain ⟨hi_23, hf⟩ := chk_at hf
      refine G.iald' dX4_go_87 (isH_l2 hb0) (isH_k2 hb0) (isH_n2 hb0) hi_23 ?_
      refine G.iconst (v := 1) dX4_go_88 (by decide) ?_
      refine G.iadd dX4_go_89 ?_
      obtain ⟨hi_24, hf⟩ := chk_at hf
      refine G.iast' dX4_go_90 (isH_l2 hb0) (isH_k2 hb0) (isH_n2 hb0) hi_24 ?_
      refine G.nmI (fun I_25 e_I_25 => ?_)
      have hf := letb_at hf e_I_25
      clear e_I_25
      refine G.inc (w := 1) (L' := [some (.ref b0), some (.int x1), some (.ref o2), some (.int x3), some (.int x4), some (.int (x5 + (1 : Int32)))]) dX4_go_91 (by decide) rfl (Nat.le_of_ble_eq_true rfl) rfl rfl ?_
      refine G.goto (tgt := 46) dX4_go_94 (by decide) ?_
      have hf := Option.some.inj hf
      subst hf
      exact hK
theorem lX4_go_46 (E : EV) (d : Nat) (rr : Option Value × Mem) (b0 : Nat) (o2 : Nat) (x1 : Int32) (x3 : Int32) (x4 : Int32) (hb0 : isH b0) (ho2 : isL o2) (z : (Int32 × Mem)) (hK : (fun (z : Int32 × Mem) => (some (.int z.1), z.2) = rr) z) : ∀ (n : Nat) (q : (Int32 × Mem)), iter (sX4_go_46 b0 o2 x1 x3 x4) n q = some z → G E (d + 3) kX4_go 46 [some (.ref b0), some (.int x1), some (.ref o2), some (.int x3), some (.int x4), some (.int q.1)] [] q.2 rr := by
  intro n
  induction n with
  | zero => intro q h; cases h
  | succ n ih =>
    intro q h
    rcases iter_at h with ⟨q2, hs, h2⟩ | hs
    · exact wX4_go_46 E d rr b0 o2 x1 x3 x4 q.1 q.2 hb0 ho2 _ hs (ih q2 h2)
    · exact wX4_go_46 E d rr b0 o2 x1 x3 x4 q.1 q.2 hb0 ho2 _ hs hK
def fX4_go (b0 : Nat) (x1 : Int32) (o2 : Nat) (I : Mem) : Option (Int32 × Mem) :=
  letb (I b0 3) fun x3_1 =>
  letb (up2 I b0 5 ((I b0 5) + (1 : Int32))) fun I_2 =>
  bnd (fX4_lone b0 x3_1 I_2) fun v_4 =>
  bnd (fX4_lone b0 x1 I_2) fun v_6 =>
  bnd (fX4_payers b0 x3_1 x1 v_4 v_6 (I_2 b0 5) o2 I_2) fun v_8 =>
  letb (up2 I_2 b0 3 x1) fun I_9 =>
  iter (sX4_go_46 b0 o2 x1 x3_1 v_8) FU ((0 : Int32), I_9)
set_option maxRecDepth 20000 in
theorem gX4_go (E : EV) (d : Nat) (b0 : Nat) (x1 : Int32) (o2 : Nat) (I : Mem) (hb0 : isH b0) (ho2 : isL o2) {v : Int32} {J : Mem} (hf : fX4_go b0 x1 o2 I = some (v, J)) : Gm E (d + 3) kX4_go [.ref b0, .int x1, .ref o2] I (some (.int v), J) := by
  refine (fun (y : (Int32 × Mem)) (hf : fX4_go b0 x1 o2 I = some y) => (?_ : Gm E (d + 3) kX4_go [.ref b0, .int x1, .ref o2] I (some (.int y.1), y.2))) (v, J) hf
  refine Gm.of (by decide) rfl (Nat.le_of_ble_eq_true rfl) ?_
  generalize hrr : ((some (.int y.1), y.2) : Option Value × Mem) = rr
  show G E (d + 3) kX4_go 0 [some (.ref b0), some (.int x1), some (.ref o2), none, none, none] [] I rr
  have hK : (fun (z : Int32 × Mem) => (some (.int z.1), z.2) = rr) y := hrr
  clear hrr
  unfold fX4_go at hf
  refine G.aload_n dX4_go_0 rfl rfl ?_
  refine G.getI dX4_go_1 flX4_49 (isH_lt hb0) (isH_lk hb0) ?_
  refine G.nmi (fun x3_1 e_x3_1 => ?_)
  have hf := letb_at hf e_x3_1
  clear e_x3_1
  refine G.istore_n (L' := [some (.ref b0), some (.int x1), some (.ref o2), some (.int x3_1), none, none]) dX4_go_4 rfl (Nat.le_of_ble_eq_true rfl) (Nat.le_of_ble_eq_true rfl) rfl rfl ?_
  refine G.aload_n dX4_go_5 rfl rfl ?_
  refine G.dup dX4_go_6 rfl ?_
  refine G.getI dX4_go_7 flX4_55 (isH_lt hb0) (isH_lk hb0) ?_
  refine G.iconst (v := 1) dX4_go_10 (by decide) ?_
  refine G.iadd dX4_go_11 ?_
  refine G.putI dX4_go_12 flX4_55 (isH_lt hb0) (isH_lk hb0) ?_
  refine G.nmI (fun I_2 e_I_2 => ?_)
  have hf := letb_at hf e_I_2
  clear e_I_2
  refine G.aload_n dX4_go_15 rfl rfl ?_
  refine G.iload_n dX4_go_16 rfl rfl ?_
  refine G.iload_n dX4_go_17 rfl rfl ?_
  refine G.aload_n dX4_go_18 rfl rfl ?_
  refine G.iload_n dX4_go_19 rfl rfl ?_
  obtain ⟨v_4, hc_3, hf⟩ := bnd_at hf
  refine G.callVi (av := [.int x3_1]) (rest := [.int x1, .int x3_1, .ref b0]) dX4_go_20 mvX4_87 (gX4_lone E (d + 1) b0 x3_1 I_2 hb0 hc_3) (isH_lt hb0) (isH_lk hb0) rfl rfl (Nat.le_of_ble_eq_true rfl) ?_
  refine G.aload_n dX4_go_23 rfl rfl ?_
  refine G.iload_n dX4_go_24 rfl rfl ?_
  obtain ⟨v_6, hc_5, hf⟩ := bnd_at hf
  refine G.callVi (av := [.int x1]) (rest := [.int v_4, .int x1, .int x3_1, .ref b0]) dX4_go_25 mvX4_87 (gX4_lone E (d + 1) b0 x1 I_2 hb0 hc_5) (isH_lt hb0) (isH_lk hb0) rfl rfl (Nat.le_of_ble_eq_true rfl) ?_
  refine G.aload_n dX4_go_28 rfl rfl ?_
  refine G.getI dX4_go_29 flX4_55 (isH_lt hb0) (isH_lk hb0) ?_
  refine G.aload_n dX4_go_32 rfl rfl ?_
  obtain ⟨v_8, hc_7, hf⟩ := bnd_at hf
  refine G.callVi (av := [.int x3_1, .int x1, .int v_4, .int v_6, .int (I_2 b0 5), .ref o2]) (rest := []) dX4_go_33 mvX4_108 (gX4_payers E d b0 x3_1 x1 v_4 v_6 (I_2 b0 5) o2 I_2 hb0 ho2 hc_7) (isH_lt hb0) (isH_lk hb0) rfl rfl (Nat.le_of_ble_eq_true rfl) ?_
  refine G.istore (L' := [some (.ref b0), some (.int x1), some (.ref o2), some (.int x3_1), some (.int v_8), none]) dX4_go_36 (Nat.le_of_ble_eq_true rfl) (Nat.le_of_ble_eq_true rfl) rfl rfl ?_
  refine G.aload_n dX4_go_38 rfl rfl ?_
  refine G.iload_n dX4_go_39 rfl rfl ?_
  refine G.putI dX4_go_40 flX4_49 (isH_lt hb0) (isH_lk hb0) ?_
  refine G.nmI (fun I_9 e_I_9 => ?_)
  have hf := letb_at hf e_I_9
  clear e_I_9
  refine G.iconst (v := 0) dX4_go_43 (by decide) ?_
  refine G.istore (L' := [some (.ref b0), some (.int x1), some (.ref o2), some (.int x3_1), some (.int v_8), some (.int (0 : Int32))]) dX4_go_44 (Nat.le_of_ble_eq_true rfl) (Nat.le_of_ble_eq_true rfl) rfl rfl ?_
  exact lX4_go_46 E d rr b0 o2 x1 x3_1 v_8 hb0 ho2 _ hK FU _ hf
theorem dX4_isAsTold_0 : decode cX4_isAsTold 0 = .ok (.iconst 0, 1) := by decide +kernel
theorem dX4_isAsTold_1 : decode cX4_isAsTold 1 = .ok (.istore_n 1, 1) := by decide +kernel
theorem dX4_isAsTold_2 : decode cX4_isAsTold 2 = .ok (.iload_n 1, 1) := by decide +kernel
theorem dX4_isAsTold_3 : decode cX4_isAsTold 3 = .ok (.aload_n 0, 1) := by decide +kernel
theorem dX4_isAsTold_4 : decode cX4_isAsTold 4 = .ok (.getfield 9, 3) := by decide +kernel
theorem dX4_isAsTold_7 : decode cX4_isAsTold 7 = .ok (.if_icmp .ge 26, 3) := by decide +kernel
theorem dX4_isAsTold_10 : decode cX4_isAsTold 10 = .ok (.aload_n 0, 1) := by decide +kernel
theorem dX4_isAsTold_11 : decode cX4_isAsTold 11 = .ok (.getfield 19, 3) := by decide +kernel
theorem dX4_isAsTold_14 : decode cX4_isAsTold 14 = .ok (.iload_n 1, 1) := by decide +kernel
theorem dX4_isAsTold_15 : decode cX4_isAsTold 15 = .ok (.iaload, 1) := by decide +kernel
theorem dX4_isAsTold_16 : decode cX4_isAsTold 16 = .ok (.aload_n 0, 1) := by decide +kernel
theorem dX4_isAsTold_17 : decode cX4_isAsTold 17 = .ok (.getfield 22, 3) := by decide +kernel
theorem dX4_isAsTold_20 : decode cX4_isAsTold 20 = .ok (.iload_n 1, 1) := by decide +kernel
theorem dX4_isAsTold_21 : decode cX4_isAsTold 21 = .ok (.iaload, 1) := by decide +kernel
theorem dX4_isAsTold_22 : decode cX4_isAsTold 22 = .ok (.if_icmp .eq 5, 3) := by decide +kernel
theorem dX4_isAsTold_25 : decode cX4_isAsTold 25 = .ok (.iconst 0, 1) := by decide +kernel
theorem dX4_isAsTold_26 : decode cX4_isAsTold 26 = .ok (.ireturn, 1) := by decide +kernel
theorem dX4_isAsTold_27 : decode cX4_isAsTold 27 = .ok (.iinc 1 1, 3) := by decide +kernel
theorem dX4_isAsTold_30 : decode cX4_isAsTold 30 = .ok (.goto (-28), 3) := by decide +kernel
theorem dX4_isAsTold_33 : decode cX4_isAsTold 33 = .ok (.iconst 1, 1) := by decide +kernel
theorem dX4_isAsTold_34 : decode cX4_isAsTold 34 = .ok (.ireturn, 1) := by decide +kernel
def KX4_isAsTold_2 (E : EV) (d : Nat) (rr : Option Value × Mem) (b0 : Nat) (I : Mem) (Kp : Int32 → Prop) : (Int32 ⊕ Int32) → Prop
  | .inl q => G E (d + 0) kX4_isAsTold 2 [some (.ref b0), some (.int q)] [] I rr
  | .inr z => Kp z
def bX4_isAsTold_2 (b0 : Nat) (I : Mem) (x1 : Int32) : Option (Int32 ⊕ Int32) :=
  if (I b0 0) ≤ x1 then
  (some (.inr (1 : Int32)))
  else
  (chk (inb x1 5) <|
  chk (inb x1 5) <|
  if (I (b0 + 2) (ix x1)) = (I (b0 + 3) (ix x1)) then
  (some (.inl (x1 + (1 : Int32))))
  else
  (some (.inr (0 : Int32))))
def sX4_isAsTold_2 (b0 : Nat) (I : Mem) (q : Int32) : Option (Int32 ⊕ Int32) := bX4_isAsTold_2 b0 I q
set_option maxRecDepth 20000 in
theorem wX4_isAsTold_2 (E : EV) (d : Nat) (rr : Option Value × Mem) (b0 : Nat) (I : Mem) (x1 : Int32) (hb0 : isH b0) (y : (Int32 ⊕ Int32)) (hf : bX4_isAsTold_2 b0 I x1 = some y) (hK : (KX4_isAsTold_2 E d rr b0 I (fun (z : Int32) => (some (.int z), I) = rr)) y) : G E (d + 0) kX4_isAsTold 2 [some (.ref b0), some (.int x1)] [] I rr := by
  unfold bX4_isAsTold_2 at hf
  refine G.iload_n dX4_isAsTold_2 rfl rfl ?_
  refine G.aload_n dX4_isAsTold_3 rfl rfl ?_
  refine G.getI dX4_isAsTold_4 flX4_9 (isH_lt hb0) (isH_lk hb0) ?_
  refine G.icmp_ge (tgt := 33) dX4_isAsTold_7 (by decide) (fun c_4 => ?_) (fun c_4 => ?_)
  · have hf := ite_t hf c_4
    refine G.iconst (v := 1) dX4_isAsTold_33 (by decide) ?_
    have hf := Option.some.inj hf
    subst hf
    exact G.zret' dX4_isAsTold_34 rfl (by decide) hK
  · have hf := ite_f hf c_4
    refine G.aload_n dX4_isAsTold_10 rfl rfl ?_
    refine G.getR (q := (b0 + 2)) dX4_isAsTold_11 flX4_19 (isH_lt hb0) (isH_lk hb0) (isH_r2 hb0) ?_
    refine G.iload_n dX4_isAsTold_14 rfl rfl ?_
    obtain ⟨hi_1, hf⟩ := chk_at hf
    refine G.iald' dX4_isAsTold_15 (isH_l2 hb0) (isH_k2 hb0) (isH_n2 hb0) hi_1 ?_
    refine G.aload_n dX4_isAsTold_16 rfl rfl ?_
    refine G.getR (q := (b0 + 3)) dX4_isAsTold_17 flX4_22 (isH_lt hb0) (isH_lk hb0) (isH_r3 hb0) ?_
    refine G.iload_n dX4_isAsTold_20 rfl rfl ?_
    obtain ⟨hi_2, hf⟩ := chk_at hf
    refine G.iald' dX4_isAsTold_21 (isH_l3 hb0) (isH_k3 hb0) (isH_n3 hb0) hi_2 ?_
    refine G.icmp_eq (tgt := 27) dX4_isAsTold_22 (by decide) (fun c_3 => ?_) (fun c_3 => ?_)
    · have hf := ite_t hf c_3
      refine G.inc (w := 1) (L' := [some (.ref b0), some (.int (x1 + (1 : Int32)))]) dX4_isAsTold_27 (by decide) rfl (Nat.le_of_ble_eq_true rfl) rfl rfl ?_
      refine G.goto (tgt := 2) dX4_isAsTold_30 (by decide) ?_
      have hf := Option.some.inj hf
      subst hf
      exact hK
    · have hf := ite_f hf c_3
      refine G.iconst (v := 0) dX4_isAsTold_25 (by decide) ?_
      have hf := Option.some.inj hf
      subst hf
      exact G.zret' dX4_isAsTold_26 rfl (by decide) hK
theorem lX4_isAsTold_2 (E : EV) (d : Nat) (rr : Option Value × Mem) (b0 : Nat) (I : Mem) (hb0 : isH b0) (z : Int32) (hK : (fun (z : Int32) => (some (.int z), I) = rr) z) : ∀ (n : Nat) (q : Int32), iter (sX4_isAsTold_2 b0 I) n q = some z → G E (d + 0) kX4_isAsTold 2 [some (.ref b0), some (.int q)] [] I rr := by
  intro n
  induction n with
  | zero => intro q h; cases h
  | succ n ih =>
    intro q h
    rcases iter_at h with ⟨q2, hs, h2⟩ | hs
    · exact wX4_isAsTold_2 E d rr b0 I q hb0 _ hs (ih q2 h2)
    · exact wX4_isAsTold_2 E d rr b0 I q hb0 _ hs hK
def fX4_isAsTold (b0 : Nat) (I : Mem) : Option Int32 :=
  iter (sX4_isAsTold_2 b0 I) FU (0 : Int32)
set_option maxRecDepth 20000 in
theorem gX4_isAsTold (E : EV) (d : Nat) (b0 : Nat) (I : Mem) (hb0 : isH b0) {v : Int32} (hf : fX4_isAsTold b0 I = some v) : Gm E (d + 0) kX4_isAsTold [.ref b0] I (some (.int v), I) := by
  refine (fun (y : Int32) (hf : fX4_isAsTold b0 I = some y) => (?_ : Gm E (d + 0) kX4_isAsTold [.ref b0] I (some (.int y), I))) v hf
  refine Gm.of (by decide) rfl (Nat.le_of_ble_eq_true rfl) ?_
  generalize hrr : ((some (.int y), I) : Option Value × Mem) = rr
  show G E (d + 0) kX4_isAsTold 0 [some (.ref b0), none] [] I rr
  have hK : (fun (z : Int32) => (some (.int z), I) = rr) y := hrr
  clear hrr
  unfold fX4_isAsTold at hf
  refine G.iconst (v := 0) dX4_isAsTold_0 (by decide) ?_
  refine G.istore_n (L' := [some (.ref b0), some (.int (0 : Int32))]) dX4_isAsTold_1 rfl (Nat.le_of_ble_eq_true rfl) (Nat.le_of_ble_eq_true rfl) rfl rfl ?_
  exact lX4_isAsTold_2 E d rr b0 I hb0 _ hK FU _ hf
theorem dX4_remember_0 : decode cX4_remember 0 = .ok (.aload_n 0, 1) := by decide +kernel
theorem dX4_remember_1 : decode cX4_remember 1 = .ok (.getfield 61, 3) := by decide +kernel
theorem dX4_remember_4 : decode cX4_remember 4 = .ok (.bipush 8, 2) := by decide +kernel
theorem dX4_remember_6 : decode cX4_remember 6 = .ok (.if_icmp .ne 29, 3) := by decide +kernel
theorem dX4_remember_9 : decode cX4_remember 9 = .ok (.aload_n 0, 1) := by decide +kernel
theorem dX4_remember_10 : decode cX4_remember 10 = .ok (.getfield 34, 3) := by decide +kernel
theorem dX4_remember_13 : decode cX4_remember 13 = .ok (.bipush 10, 2) := by decide +kernel
theorem dX4_remember_15 : decode cX4_remember 15 = .ok (.aload_n 0, 1) := by decide +kernel
theorem dX4_remember_16 : decode cX4_remember 16 = .ok (.getfield 34, 3) := by decide +kernel
theorem dX4_remember_19 : decode cX4_remember 19 = .ok (.iconst 0, 1) := by decide +kernel
theorem dX4_remember_20 : decode cX4_remember 20 = .ok (.bipush 70, 2) := by decide +kernel
theorem dX4_remember_22 : decode cX4_remember 22 = .ok (.invokestatic 64, 3) := by decide +kernel
theorem dX4_remember_25 : decode cX4_remember 25 = .ok (.aload_n 0, 1) := by decide +kernel
theorem dX4_remember_26 : decode cX4_remember 26 = .ok (.dup, 1) := by decide +kernel
theorem dX4_remember_27 : decode cX4_remember 27 = .ok (.getfield 61, 3) := by decide +kernel
theorem dX4_remember_30 : decode cX4_remember 30 = .ok (.iconst 1, 1) := by decide +kernel
theorem dX4_remember_31 : decode cX4_remember 31 = .ok (.isub, 1) := by decide +kernel
theorem dX4_remember_32 : decode cX4_remember 32 = .ok (.putfield 61, 3) := by decide +kernel
theorem dX4_remember_35 : decode cX4_remember 35 = .ok (.aload_n 0, 1) := by decide +kernel
theorem dX4_remember_36 : decode cX4_remember 36 = .ok (.getfield 61, 3) := by decide +kernel
theorem dX4_remember_39 : decode cX4_remember 39 = .ok (.bipush 10, 2) := by decide +kernel
theorem dX4_remember_41 : decode cX4_remember 41 = .ok (.imul, 1) := by decide +kernel
theorem dX4_remember_42 : decode cX4_remember 42 = .ok (.istore_n 1, 1) := by decide +kernel
theorem dX4_remember_43 : decode cX4_remember 43 = .ok (.aload_n 0, 1) := by decide +kernel
theorem dX4_remember_44 : decode cX4_remember 44 = .ok (.getfield 34, 3) := by decide +kernel
theorem dX4_remember_47 : decode cX4_remember 47 = .ok (.iload_n 1, 1) := by decide +kernel
theorem dX4_remember_48 : decode cX4_remember 48 = .ok (.aload_n 0, 1) := by decide +kernel
theorem dX4_remember_49 : decode cX4_remember 49 = .ok (.getfield 49, 3) := by decide +kernel
theorem dX4_remember_52 : decode cX4_remember 52 = .ok (.iastore, 1) := by decide +kernel
theorem dX4_remember_53 : decode cX4_remember 53 = .ok (.aload_n 0, 1) := by decide +kernel
theorem dX4_remember_54 : decode cX4_remember 54 = .ok (.getfield 19, 3) := by decide +kernel
theorem dX4_remember_57 : decode cX4_remember 57 = .ok (.iconst 0, 1) := by decide +kernel
theorem dX4_remember_58 : decode cX4_remember 58 = .ok (.aload_n 0, 1) := by decide +kernel
theorem dX4_remember_59 : decode cX4_remember 59 = .ok (.getfield 34, 3) := by decide +kernel
theorem dX4_remember_62 : decode cX4_remember 62 = .ok (.iload_n 1, 1) := by decide +kernel
theorem dX4_remember_63 : decode cX4_remember 63 = .ok (.iconst 1, 1) := by decide +kernel
theorem dX4_remember_64 : decode cX4_remember 64 = .ok (.iadd, 1) := by decide +kernel
theorem dX4_remember_65 : decode cX4_remember 65 = .ok (.iconst 5, 1) := by decide +kernel
theorem dX4_remember_66 : decode cX4_remember 66 = .ok (.invokestatic 64, 3) := by decide +kernel
theorem dX4_remember_69 : decode cX4_remember 69 = .ok (.aload_n 0, 1) := by decide +kernel
theorem dX4_remember_70 : decode cX4_remember 70 = .ok (.getfield 25, 3) := by decide +kernel
theorem dX4_remember_73 : decode cX4_remember 73 = .ok (.iconst 0, 1) := by decide +kernel
theorem dX4_remember_74 : decode cX4_remember 74 = .ok (.aload_n 0, 1) := by decide +kernel
theorem dX4_remember_75 : decode cX4_remember 75 = .ok (.getfield 34, 3) := by decide +kernel
theorem dX4_remember_78 : decode cX4_remember 78 = .ok (.iload_n 1, 1) := by decide +kernel
theorem dX4_remember_79 : decode cX4_remember 79 = .ok (.iconst 1, 1) := by decide +kernel
theorem dX4_remember_80 : decode cX4_remember 80 = .ok (.iadd, 1) := by decide +kernel
theorem dX4_remember_81 : decode cX4_remember 81 = .ok (.iconst 5, 1) := by decide +kernel
theorem dX4_remember_82 : decode cX4_remember 82 = .ok (.iadd, 1) := by decide +kernel
theorem dX4_remember_83 : decode cX4_remember 83 = .ok (.iconst 4, 1) := by decide +kernel
theorem dX4_remember_84 : decode cX4_remember 84 = .ok (.invokestatic 64, 3) := by decide +kernel
theorem dX4_remember_87 : decode cX4_remember 87 = .ok (.aload_n 0, 1) := by decide +kernel
theorem dX4_remember_88 : decode cX4_remember 88 = .ok (.dup, 1) := by decide +kernel
theorem dX4_remember_89 : decode cX4_remember 89 = .ok (.getfield 61, 3) := by decide +kernel
theorem dX4_remember_92 : decode cX4_remember 92 = .ok (.iconst 1, 1) := by decide +kernel
theorem dX4_remember_93 : decode cX4_remember 93 = .ok (.iadd, 1) := by decide +kernel
theorem dX4_remember_94 : decode cX4_remember 94 = .ok (.putfield 61, 3) := by decide +kernel
theorem dX4_remember_97 : decode cX4_remember 97 = .ok (.return_, 1) := by decide +kernel
def jX4_remember_35 (b0 : Nat) (I : Mem) : Option Mem :=
  letb ((I b0 7) * (10 : Int32)) fun x1_1 =>
  chk (inb x1_1 80) <|
  letb (up2 I (b0 + 7) (ix x1_1) (I b0 3)) fun I_3 =>
  chk (cpok (0 : Int32) (x1_1 + (1 : Int32)) (5 : Int32) 5 80) <|
  letb (upA I_3 (b0 + 7) (cpA (I_3 (b0 + 2)) (I_3 (b0 + 7)) (ix (0 : Int32)) (ix (x1_1 + (1 : Int32))) (ix (5 : Int32)))) fun I_5 =>
  chk (cpok (0 : Int32) ((x1_1 + (1 : Int32)) + (5 : Int32)) (4 : Int32) 4 80) <|
  letb (upA I_5 (b0 + 7) (cpA (I_5 (b0 + 4)) (I_5 (b0 + 7)) (ix (0 : Int32)) (ix ((x1_1 + (1 : Int32)) + (5 : Int32))) (ix (4 : Int32)))) fun I_7 =>
  letb (up2 I_7 b0 7 ((I_7 b0 7) + (1 : Int32))) fun I_8 =>
  some I_8
set_option maxRecDepth 20000 in
theorem tX4_remember_35 (E : EV) (d : Nat) (rr : Option Value × Mem) (b0 : Nat) (I : Mem) (hb0 : isH b0) (y : Mem) (hf : jX4_remember_35 b0 I = some y) (hK : (fun (z : Mem) => ((none : Option Value), z) = rr) y) : G E (d + 1) kX4_remember 35 [some (.ref b0), none] [] I rr := by
  unfold jX4_remember_35 at hf
  refine G.aload_n dX4_remember_35 rfl rfl ?_
  refine G.getI dX4_remember_36 flX4_61 (isH_lt hb0) (isH_lk hb0) ?_
  refine G.bipush (v := 10) dX4_remember_39 (by decide) ?_
  refine G.imul dX4_remember_41 ?_
  refine G.nmi (fun x1_1 e_x1_1 => ?_)
  have hf := letb_at hf e_x1_1
  clear e_x1_1
  refine G.istore_n (L' := [some (.ref b0), some (.int x1_1)]) dX4_remember_42 rfl (Nat.le_of_ble_eq_true rfl) (Nat.le_of_ble_eq_true rfl) rfl rfl ?_
  refine G.aload_n dX4_remember_43 rfl rfl ?_
  refine G.getR (q := (b0 + 7)) dX4_remember_44 flX4_34 (isH_lt hb0) (isH_lk hb0) (isH_r7 hb0) ?_
  refine G.iload_n dX4_remember_47 rfl rfl ?_
  refine G.aload_n dX4_remember_48 rfl rfl ?_
  refine G.getI dX4_remember_49 flX4_49 (isH_lt hb0) (isH_lk hb0) ?_
  obtain ⟨hi_2, hf⟩ := chk_at hf
  refine G.iast' dX4_remember_52 (isH_l7 hb0) (isH_k7 hb0) (isH_n7 hb0) hi_2 ?_
  refine G.nmI (fun I_3 e_I_3 => ?_)
  have hf := letb_at hf e_I_3
  clear e_I_3
  refine G.aload_n dX4_remember_53 rfl rfl ?_
  refine G.getR (q := (b0 + 2)) dX4_remember_54 flX4_19 (isH_lt hb0) (isH_lk hb0) (isH_r2 hb0) ?_
  refine G.iconst (v := 0) dX4_remember_57 (by decide) ?_
  refine G.aload_n dX4_remember_58 rfl rfl ?_
  refine G.getR (q := (b0 + 7)) dX4_remember_59 flX4_34 (isH_lt hb0) (isH_lk hb0) (isH_r7 hb0) ?_
  refine G.iload_n dX4_remember_62 rfl rfl ?_
  refine G.iconst (v := 1) dX4_remember_63 (by decide) ?_
  refine G.iadd dX4_remember_64 ?_
  refine G.iconst (v := 5) dX4_remember_65 (by decide) ?_
  obtain ⟨hi_4, hf⟩ := chk_at hf
  refine G.acopy' (rest := []) dX4_remember_66 maX4_64 (isH_l2 hb0) (isH_k2 hb0) (isH_n2 hb0) (isH_l7 hb0) (isH_k7 hb0) (isH_n7 hb0) hi_4 (Nat.le_of_ble_eq_true rfl) ?_
  refine G.nmI (fun I_5 e_I_5 => ?_)
  have hf := letb_at hf e_I_5
  clear e_I_5
  refine G.aload_n dX4_remember_69 rfl rfl ?_
  refine G.getR (q := (b0 + 4)) dX4_remember_70 flX4_25 (isH_lt hb0) (isH_lk hb0) (isH_r4 hb0) ?_
  refine G.iconst (v := 0) dX4_remember_73 (by decide) ?_
  refine G.aload_n dX4_remember_74 rfl rfl ?_
  refine G.getR (q := (b0 + 7)) dX4_remember_75 flX4_34 (isH_lt hb0) (isH_lk hb0) (isH_r7 hb0) ?_
  refine G.iload_n dX4_remember_78 rfl rfl ?_
  refine G.iconst (v := 1) dX4_remember_79 (by decide) ?_
  refine G.iadd dX4_remember_80 ?_
  refine G.iconst (v := 5) dX4_remember_81 (by decide) ?_
  refine G.iadd dX4_remember_82 ?_
  refine G.iconst (v := 4) dX4_remember_83 (by decide) ?_
  obtain ⟨hi_6, hf⟩ := chk_at hf
  refine G.acopy' (rest := []) dX4_remember_84 maX4_64 (isH_l4 hb0) (isH_k4 hb0) (isH_n4 hb0) (isH_l7 hb0) (isH_k7 hb0) (isH_n7 hb0) hi_6 (Nat.le_of_ble_eq_true rfl) ?_
  refine G.nmI (fun I_7 e_I_7 => ?_)
  have hf := letb_at hf e_I_7
  clear e_I_7
  refine G.aload_n dX4_remember_87 rfl rfl ?_
  refine G.dup dX4_remember_88 rfl ?_
  refine G.getI dX4_remember_89 flX4_61 (isH_lt hb0) (isH_lk hb0) ?_
  refine G.iconst (v := 1) dX4_remember_92 (by decide) ?_
  refine G.iadd dX4_remember_93 ?_
  refine G.putI dX4_remember_94 flX4_61 (isH_lt hb0) (isH_lk hb0) ?_
  refine G.nmI (fun I_8 e_I_8 => ?_)
  have hf := letb_at hf e_I_8
  clear e_I_8
  have hf := Option.some.inj hf
  subst hf
  exact G.vret' dX4_remember_97 rfl hK
def fX4_remember (b0 : Nat) (I : Mem) : Option Mem :=
  if (I b0 7) = (8 : Int32) then
  (chk (cpok (10 : Int32) (0 : Int32) (70 : Int32) 80 80) <|
  letb (upA I (b0 + 7) (cpA (I (b0 + 7)) (I (b0 + 7)) (ix (10 : Int32)) (ix (0 : Int32)) (ix (70 : Int32)))) fun I_10 =>
  letb (up2 I_10 b0 7 ((I_10 b0 7) - (1 : Int32))) fun I_11 =>
  jX4_remember_35 b0 I_11)
  else
  (jX4_remember_35 b0 I)
set_option maxRecDepth 20000 in
theorem gX4_remember (E : EV) (d : Nat) (b0 : Nat) (I : Mem) (hb0 : isH b0) {J : Mem} (hf : fX4_remember b0 I = some J) : Gm E (d + 1) kX4_remember [.ref b0] I (none, J) := by
  refine (fun (y : Mem) (hf : fX4_remember b0 I = some y) => (?_ : Gm E (d + 1) kX4_remember [.ref b0] I (none, y))) J hf
  refine Gm.of (by decide) rfl (Nat.le_of_ble_eq_true rfl) ?_
  generalize hrr : ((none, y) : Option Value × Mem) = rr
  show G E (d + 1) kX4_remember 0 [some (.ref b0), none] [] I rr
  have hK : (fun (z : Mem) => ((none : Option Value), z) = rr) y := hrr
  clear hrr
  unfold fX4_remember at hf
  refine G.aload_n dX4_remember_0 rfl rfl ?_
  refine G.getI dX4_remember_1 flX4_61 (isH_lt hb0) (isH_lk hb0) ?_
  refine G.bipush (v := 8) dX4_remember_4 (by decide) ?_
  refine G.icmp_ne (tgt := 35) dX4_remember_6 (by decide) (fun c_12 => ?_) (fun c_12 => ?_)
  · have hf := ite_f hf c_12
    exact tX4_remember_35 E d rr b0 I hb0 _ hf hK
  · have hf := ite_t hf c_12
    refine G.aload_n dX4_remember_9 rfl rfl ?_
    refine G.getR (q := (b0 + 7)) dX4_remember_10 flX4_34 (isH_lt hb0) (isH_lk hb0) (isH_r7 hb0) ?_
    refine G.bipush (v := 10) dX4_remember_13 (by decide) ?_
    refine G.aload_n dX4_remember_15 rfl rfl ?_
    refine G.getR (q := (b0 + 7)) dX4_remember_16 flX4_34 (isH_lt hb0) (isH_lk hb0) (isH_r7 hb0) ?_
    refine G.iconst (v := 0) dX4_remember_19 (by decide) ?_
    refine G.bipush (v := 70) dX4_remember_20 (by decide) ?_
    obtain ⟨hi_9, hf⟩ := chk_at hf
    refine G.acopy' (rest := []) dX4_remember_22 maX4_64 (isH_l7 hb0) (isH_k7 hb0) (isH_n7 hb0) (isH_l7 hb0) (isH_k7 hb0) (isH_n7 hb0) hi_9 (Nat.le_of_ble_eq_true rfl) ?_
    refine G.nmI (fun I_10 e_I_10 => ?_)
    have hf := letb_at hf e_I_10
    clear e_I_10
    refine G.aload_n dX4_remember_25 rfl rfl ?_
    refine G.dup dX4_remember_26 rfl ?_
    refine G.getI dX4_remember_27 flX4_61 (isH_lt hb0) (isH_lk hb0) ?_
    refine G.iconst (v := 1) dX4_remember_30 (by decide) ?_
    refine G.isub dX4_remember_31 ?_
    refine G.putI dX4_remember_32 flX4_61 (isH_lt hb0) (isH_lk hb0) ?_
    refine G.nmI (fun I_11 e_I_11 => ?_)
    have hf := letb_at hf e_I_11
    clear e_I_11
    exact tX4_remember_35 E d rr b0 I_11 hb0 _ hf hK
theorem dX4_goBack_0 : decode cX4_goBack 0 = .ok (.aload_n 0, 1) := by decide +kernel
theorem dX4_goBack_1 : decode cX4_goBack 1 = .ok (.getfield 61, 3) := by decide +kernel
theorem dX4_goBack_4 : decode cX4_goBack 4 = .ok (.ifCond .ne 4, 3) := by decide +kernel
theorem dX4_goBack_7 : decode cX4_goBack 7 = .ok (.return_, 1) := by decide +kernel
theorem dX4_goBack_8 : decode cX4_goBack 8 = .ok (.aload_n 0, 1) := by decide +kernel
theorem dX4_goBack_9 : decode cX4_goBack 9 = .ok (.dup, 1) := by decide +kernel
theorem dX4_goBack_10 : decode cX4_goBack 10 = .ok (.getfield 61, 3) := by decide +kernel
theorem dX4_goBack_13 : decode cX4_goBack 13 = .ok (.iconst 1, 1) := by decide +kernel
theorem dX4_goBack_14 : decode cX4_goBack 14 = .ok (.isub, 1) := by decide +kernel
theorem dX4_goBack_15 : decode cX4_goBack 15 = .ok (.putfield 61, 3) := by decide +kernel
theorem dX4_goBack_18 : decode cX4_goBack 18 = .ok (.aload_n 0, 1) := by decide +kernel
theorem dX4_goBack_19 : decode cX4_goBack 19 = .ok (.dup, 1) := by decide +kernel
theorem dX4_goBack_20 : decode cX4_goBack 20 = .ok (.getfield 55, 3) := by decide +kernel
theorem dX4_goBack_23 : decode cX4_goBack 23 = .ok (.iconst 1, 1) := by decide +kernel
theorem dX4_goBack_24 : decode cX4_goBack 24 = .ok (.isub, 1) := by decide +kernel
theorem dX4_goBack_25 : decode cX4_goBack 25 = .ok (.putfield 55, 3) := by decide +kernel
theorem dX4_goBack_28 : decode cX4_goBack 28 = .ok (.aload_n 0, 1) := by decide +kernel
theorem dX4_goBack_29 : decode cX4_goBack 29 = .ok (.getfield 61, 3) := by decide +kernel
theorem dX4_goBack_32 : decode cX4_goBack 32 = .ok (.bipush 10, 2) := by decide +kernel
theorem dX4_goBack_34 : decode cX4_goBack 34 = .ok (.imul, 1) := by decide +kernel
theorem dX4_goBack_35 : decode cX4_goBack 35 = .ok (.istore_n 1, 1) := by decide +kernel
theorem dX4_goBack_36 : decode cX4_goBack 36 = .ok (.aload_n 0, 1) := by decide +kernel
theorem dX4_goBack_37 : decode cX4_goBack 37 = .ok (.aload_n 0, 1) := by decide +kernel
theorem dX4_goBack_38 : decode cX4_goBack 38 = .ok (.getfield 34, 3) := by decide +kernel
theorem dX4_goBack_41 : decode cX4_goBack 41 = .ok (.iload_n 1, 1) := by decide +kernel
theorem dX4_goBack_42 : decode cX4_goBack 42 = .ok (.iaload, 1) := by decide +kernel
theorem dX4_goBack_43 : decode cX4_goBack 43 = .ok (.putfield 49, 3) := by decide +kernel
theorem dX4_goBack_46 : decode cX4_goBack 46 = .ok (.aload_n 0, 1) := by decide +kernel
theorem dX4_goBack_47 : decode cX4_goBack 47 = .ok (.getfield 34, 3) := by decide +kernel
theorem dX4_goBack_50 : decode cX4_goBack 50 = .ok (.iload_n 1, 1) := by decide +kernel
theorem dX4_goBack_51 : decode cX4_goBack 51 = .ok (.iconst 1, 1) := by decide +kernel
theorem dX4_goBack_52 : decode cX4_goBack 52 = .ok (.iadd, 1) := by decide +kernel
theorem dX4_goBack_53 : decode cX4_goBack 53 = .ok (.aload_n 0, 1) := by decide +kernel
theorem dX4_goBack_54 : decode cX4_goBack 54 = .ok (.getfield 19, 3) := by decide +kernel
theorem dX4_goBack_57 : decode cX4_goBack 57 = .ok (.iconst 0, 1) := by decide +kernel
theorem dX4_goBack_58 : decode cX4_goBack 58 = .ok (.iconst 5, 1) := by decide +kernel
theorem dX4_goBack_59 : decode cX4_goBack 59 = .ok (.invokestatic 64, 3) := by decide +kernel
theorem dX4_goBack_62 : decode cX4_goBack 62 = .ok (.aload_n 0, 1) := by decide +kernel
theorem dX4_goBack_63 : decode cX4_goBack 63 = .ok (.getfield 34, 3) := by decide +kernel
theorem dX4_goBack_66 : decode cX4_goBack 66 = .ok (.iload_n 1, 1) := by decide +kernel
theorem dX4_goBack_67 : decode cX4_goBack 67 = .ok (.iconst 1, 1) := by decide +kernel
theorem dX4_goBack_68 : decode cX4_goBack 68 = .ok (.iadd, 1) := by decide +kernel
theorem dX4_goBack_69 : decode cX4_goBack 69 = .ok (.iconst 5, 1) := by decide +kernel
theorem dX4_goBack_70 : decode cX4_goBack 70 = .ok (.iadd, 1) := by decide +kernel
theorem dX4_goBack_71 : decode cX4_goBack 71 = .ok (.aload_n 0, 1) := by decide +kernel
theorem dX4_goBack_72 : decode cX4_goBack 72 = .ok (.getfield 25, 3) := by decide +kernel
theorem dX4_goBack_75 : decode cX4_goBack 75 = .ok (.iconst 0, 1) := by decide +kernel
theorem dX4_goBack_76 : decode cX4_goBack 76 = .ok (.iconst 4, 1) := by decide +kernel
theorem dX4_goBack_77 : decode cX4_goBack 77 = .ok (.invokestatic 64, 3) := by decide +kernel
theorem dX4_goBack_80 : decode cX4_goBack 80 = .ok (.return_, 1) := by decide +kernel
def fX4_goBack (b0 : Nat) (I : Mem) : Option Mem :=
  if (I b0 7) = 0 then
  (some I)
  else
  (letb (up2 I b0 7 ((I b0 7) - (1 : Int32))) fun I_1 =>
  letb (up2 I_1 b0 5 ((I_1 b0 5) - (1 : Int32))) fun I_2 =>
  letb ((I_2 b0 7) * (10 : Int32)) fun x1_3 =>
  chk (inb x1_3 80) <|
  letb (up2 I_2 b0 3 (I_2 (b0 + 7) (ix x1_3))) fun I_5 =>
  chk (cpok (x1_3 + (1 : Int32)) (0 : Int32) (5 : Int32) 80 5) <|
  letb (upA I_5 (b0 + 2) (cpA (I_5 (b0 + 7)) (I_5 (b0 + 2)) (ix (x1_3 + (1 : Int32))) (ix (0 : Int32)) (ix (5 : Int32)))) fun I_7 =>
  chk (cpok ((x1_3 + (1 : Int32)) + (5 : Int32)) (0 : Int32) (4 : Int32) 80 4) <|
  letb (upA I_7 (b0 + 4) (cpA (I_7 (b0 + 7)) (I_7 (b0 + 4)) (ix ((x1_3 + (1 : Int32)) + (5 : Int32))) (ix (0 : Int32)) (ix (4 : Int32)))) fun I_9 =>
  some I_9)
set_option maxRecDepth 20000 in
theorem gX4_goBack (E : EV) (d : Nat) (b0 : Nat) (I : Mem) (hb0 : isH b0) {J : Mem} (hf : fX4_goBack b0 I = some J) : Gm E (d + 1) kX4_goBack [.ref b0] I (none, J) := by
  refine (fun (y : Mem) (hf : fX4_goBack b0 I = some y) => (?_ : Gm E (d + 1) kX4_goBack [.ref b0] I (none, y))) J hf
  refine Gm.of (by decide) rfl (Nat.le_of_ble_eq_true rfl) ?_
  generalize hrr : ((none, y) : Option Value × Mem) = rr
  show G E (d + 1) kX4_goBack 0 [some (.ref b0), none] [] I rr
  have hK : (fun (z : Mem) => ((none : Option Value), z) = rr) y := hrr
  clear hrr
  unfold fX4_goBack at hf
  refine G.aload_n dX4_goBack_0 rfl rfl ?_
  refine G.getI dX4_goBack_1 flX4_61 (isH_lt hb0) (isH_lk hb0) ?_
  refine G.if_ne (tgt := 8) dX4_goBack_4 (by decide) (fun c_10 => ?_) (fun c_10 => ?_)
  · have hf := ite_f hf c_10
    refine G.aload_n dX4_goBack_8 rfl rfl ?_
    refine G.dup dX4_goBack_9 rfl ?_
    refine G.getI dX4_goBack_10 flX4_61 (isH_lt hb0) (isH_lk hb0) ?_
    refine G.iconst (v := 1) dX4_goBack_13 (by decide) ?_
    refine G.isub dX4_goBack_14 ?_
    refine G.putI dX4_goBack_15 flX4_61 (isH_lt hb0) (isH_lk hb0) ?_
    refine G.nmI (fun I_1 e_I_1 => ?_)
    have hf := letb_at hf e_I_1
    clear e_I_1
    refine G.aload_n dX4_goBack_18 rfl rfl ?_
    refine G.dup dX4_goBack_19 rfl ?_
    refine G.getI dX4_goBack_20 flX4_55 (isH_lt hb0) (isH_lk hb0) ?_
    refine G.iconst (v := 1) dX4_goBack_23 (by decide) ?_
    refine G.isub dX4_goBack_24 ?_
    refine G.putI dX4_goBack_25 flX4_55 (isH_lt hb0) (isH_lk hb0) ?_
    refine G.nmI (fun I_2 e_I_2 => ?_)
    have hf := letb_at hf e_I_2
    clear e_I_2
    refine G.aload_n dX4_goBack_28 rfl rfl ?_
    refine G.getI dX4_goBack_29 flX4_61 (isH_lt hb0) (isH_lk hb0) ?_
    refine G.bipush (v := 10) dX4_goBack_32 (by decide) ?_
    refine G.imul dX4_goBack_34 ?_
    refine G.nmi (fun x1_3 e_x1_3 => ?_)
    have hf := letb_at hf e_x1_3
    clear e_x1_3
    refine G.istore_n (L' := [some (.ref b0), some (.int x1_3)]) dX4_goBack_35 rfl (Nat.le_of_ble_eq_true rfl) (Nat.le_of_ble_eq_true rfl) rfl rfl ?_
    refine G.aload_n dX4_goBack_36 rfl rfl ?_
    refine G.aload_n dX4_goBack_37 rfl rfl ?_
    refine G.getR (q := (b0 + 7)) dX4_goBack_38 flX4_34 (isH_lt hb0) (isH_lk hb0) (isH_r7 hb0) ?_
    refine G.iload_n dX4_goBack_41 rfl rfl ?_
    obtain ⟨hi_4, hf⟩ := chk_at hf
    refine G.iald' dX4_goBack_42 (isH_l7 hb0) (isH_k7 hb0) (isH_n7 hb0) hi_4 ?_
    refine G.putI dX4_goBack_43 flX4_49 (isH_lt hb0) (isH_lk hb0) ?_
    refine G.nmI (fun I_5 e_I_5 => ?_)
    have hf := letb_at hf e_I_5
    clear e_I_5
    refine G.aload_n dX4_goBack_46 rfl rfl ?_
    refine G.getR (q := (b0 + 7)) dX4_goBack_47 flX4_34 (isH_lt hb0) (isH_lk hb0) (isH_r7 hb0) ?_
    refine G.iload_n dX4_goBack_50 rfl rfl ?_
    refine G.iconst (v := 1) dX4_goBack_51 (by decide) ?_
    refine G.iadd dX4_goBack_52 ?_
    refine G.aload_n dX4_goBack_53 rfl rfl ?_
    refine G.getR (q := (b0 + 2)) dX4_goBack_54 flX4_19 (isH_lt hb0) (isH_lk hb0) (isH_r2 hb0) ?_
    refine G.iconst (v := 0) dX4_goBack_57 (by decide) ?_
    refine G.iconst (v := 5) dX4_goBack_58 (by decide) ?_
    obtain ⟨hi_6, hf⟩ := chk_at hf
    refine G.acopy' (rest := []) dX4_goBack_59 maX4_64 (isH_l7 hb0) (isH_k7 hb0) (isH_n7 hb0) (isH_l2 hb0) (isH_k2 hb0) (isH_n2 hb0) hi_6 (Nat.le_of_ble_eq_true rfl) ?_
    refine G.nmI (fun I_7 e_I_7 => ?_)
    have hf := letb_at hf e_I_7
    clear e_I_7
    refine G.aload_n dX4_goBack_62 rfl rfl ?_
    refine G.getR (q := (b0 + 7)) dX4_goBack_63 flX4_34 (isH_lt hb0) (isH_lk hb0) (isH_r7 hb0) ?_
    refine G.iload_n dX4_goBack_66 rfl rfl ?_
    refine G.iconst (v := 1) dX4_goBack_67 (by decide) ?_
    refine G.iadd dX4_goBack_68 ?_
    refine G.iconst (v := 5) dX4_goBack_69 (by decide) ?_
    refine G.iadd dX4_goBack_70 ?_
    refine G.aload_n dX4_goBack_71 rfl rfl ?_
    refine G.getR (q := (b0 + 4)) dX4_goBack_72 flX4_25 (isH_lt hb0) (isH_lk hb0) (isH_r4 hb0) ?_
    refine G.iconst (v := 0) dX4_goBack_75 (by decide) ?_
    refine G.iconst (v := 4) dX4_goBack_76 (by decide) ?_
    obtain ⟨hi_8, hf⟩ := chk_at hf
    refine G.acopy' (rest := []) dX4_goBack_77 maX4_64 (isH_l7 hb0) (isH_k7 hb0) (isH_n7 hb0) (isH_l4 hb0) (isH_k4 hb0) (isH_n4 hb0) hi_8 (Nat.le_of_ble_eq_true rfl) ?_
    refine G.nmI (fun I_9 e_I_9 => ?_)
    have hf := letb_at hf e_I_9
    clear e_I_9
    have hf := Option.some.inj hf
    subst hf
    exact G.vret' dX4_goBack_80 rfl hK
  · have hf := ite_t hf c_10
    have hf := Option.some.inj hf
    subst hf
    exact G.vret' dX4_goBack_7 rfl hK
theorem dX4_toFirst_0 : decode cX4_toFirst 0 = .ok (.iload_n 0, 1) := by decide +kernel
theorem dX4_toFirst_1 : decode cX4_toFirst 1 = .ok (.iload_n 2, 1) := by decide +kernel
theorem dX4_toFirst_2 : decode cX4_toFirst 2 = .ok (.iand, 1) := by decide +kernel
theorem dX4_toFirst_3 : decode cX4_toFirst 3 = .ok (.ifCond .ne 7, 3) := by decide +kernel
theorem dX4_toFirst_6 : decode cX4_toFirst 6 = .ok (.iload_n 0, 1) := by decide +kernel
theorem dX4_toFirst_7 : decode cX4_toFirst 7 = .ok (.goto 12, 3) := by decide +kernel
theorem dX4_toFirst_10 : decode cX4_toFirst 10 = .ok (.iload_n 0, 1) := by decide +kernel
theorem dX4_toFirst_11 : decode cX4_toFirst 11 = .ok (.iload_n 2, 1) := by decide +kernel
theorem dX4_toFirst_12 : decode cX4_toFirst 12 = .ok (.iconst (-1), 1) := by decide +kernel
theorem dX4_toFirst_13 : decode cX4_toFirst 13 = .ok (.ixor, 1) := by decide +kernel
theorem dX4_toFirst_14 : decode cX4_toFirst 14 = .ok (.iand, 1) := by decide +kernel
theorem dX4_toFirst_15 : decode cX4_toFirst 15 = .ok (.iconst 1, 1) := by decide +kernel
theorem dX4_toFirst_16 : decode cX4_toFirst 16 = .ok (.iload_n 1, 1) := by decide +kernel
theorem dX4_toFirst_17 : decode cX4_toFirst 17 = .ok (.ishl, 1) := by decide +kernel
theorem dX4_toFirst_18 : decode cX4_toFirst 18 = .ok (.ior, 1) := by decide +kernel
theorem dX4_toFirst_19 : decode cX4_toFirst 19 = .ok (.ireturn, 1) := by decide +kernel
def fX4_toFirst (x0 : Int32) (x1 : Int32) (x2 : Int32) (I : Mem) : Option Int32 :=
  if (x0 &&& x2) = 0 then
  (some x0)
  else
  (some ((x0 &&& (x2 ^^^ (-1 : Int32))) ||| ((1 : Int32) <<< (x1 &&& 31))))
set_option maxRecDepth 20000 in
theorem gX4_toFirst (E : EV) (d : Nat) (x0 : Int32) (x1 : Int32) (x2 : Int32) (I : Mem) {v : Int32} (hf : fX4_toFirst x0 x1 x2 I = some v) : Gm E (d + 0) kX4_toFirst [.int x0, .int x1, .int x2] I (some (.int v), I) := by
  refine (fun (y : Int32) (hf : fX4_toFirst x0 x1 x2 I = some y) => (?_ : Gm E (d + 0) kX4_toFirst [.int x0, .int x1, .int x2] I (some (.int y), I))) v hf
  refine Gm.of (by decide) rfl (Nat.le_of_ble_eq_true rfl) ?_
  generalize hrr : ((some (.int y), I) : Option Value × Mem) = rr
  show G E (d + 0) kX4_toFirst 0 [some (.int x0), some (.int x1), some (.int x2)] [] I rr
  have hK : (fun (z : Int32) => (some (.int z), I) = rr) y := hrr
  clear hrr
  unfold fX4_toFirst at hf
  refine G.iload_n dX4_toFirst_0 rfl rfl ?_
  refine G.iload_n dX4_toFirst_1 rfl rfl ?_
  refine G.iand dX4_toFirst_2 ?_
  refine G.if_ne (tgt := 10) dX4_toFirst_3 (by decide) (fun c_1 => ?_) (fun c_1 => ?_)
  · have hf := ite_f hf c_1
    refine G.iload_n dX4_toFirst_10 rfl rfl ?_
    refine G.iload_n dX4_toFirst_11 rfl rfl ?_
    refine G.iconst (v := -1) dX4_toFirst_12 (by decide) ?_
    refine G.ixor dX4_toFirst_13 ?_
    refine G.iand dX4_toFirst_14 ?_
    refine G.iconst (v := 1) dX4_toFirst_15 (by decide) ?_
    refine G.iload_n dX4_toFirst_16 rfl rfl ?_
    refine G.ishl dX4_toFirst_17 ?_
    refine G.ior dX4_toFirst_18 ?_
    have hf := Option.some.inj hf
    subst hf
    exact G.iret' dX4_toFirst_19 rfl hK
  · have hf := ite_t hf c_1
    refine G.iload_n dX4_toFirst_6 rfl rfl ?_
    refine G.goto (tgt := 19) dX4_toFirst_7 (by decide) ?_
    have hf := Option.some.inj hf
    subst hf
    exact G.iret' dX4_toFirst_19 rfl hK
theorem dX4_merge_0 : decode cX4_merge 0 = .ok (.iconst 1, 1) := by decide +kernel
theorem dX4_merge_1 : decode cX4_merge 1 = .ok (.iload_n 1, 1) := by decide +kernel
theorem dX4_merge_2 : decode cX4_merge 2 = .ok (.ishl, 1) := by decide +kernel
theorem dX4_merge_3 : decode cX4_merge 3 = .ok (.iconst 1, 1) := by decide +kernel
theorem dX4_merge_4 : decode cX4_merge 4 = .ok (.iload_n 2, 1) := by decide +kernel
theorem dX4_merge_5 : decode cX4_merge 5 = .ok (.ishl, 1) := by decide +kernel
theorem dX4_merge_6 : decode cX4_merge 6 = .ok (.ior, 1) := by decide +kernel
theorem dX4_merge_7 : decode cX4_merge 7 = .ok (.istore_n 3, 1) := by decide +kernel
theorem dX4_merge_8 : decode cX4_merge 8 = .ok (.aload_n 0, 1) := by decide +kernel
theorem dX4_merge_9 : decode cX4_merge 9 = .ok (.getfield 15, 3) := by decide +kernel
theorem dX4_merge_12 : decode cX4_merge 12 = .ok (.iload_n 1, 1) := by decide +kernel
theorem dX4_merge_13 : decode cX4_merge 13 = .ok (.iaload, 1) := by decide +kernel
theorem dX4_merge_14 : decode cX4_merge 14 = .ok (.aload_n 0, 1) := by decide +kernel
theorem dX4_merge_15 : decode cX4_merge 15 = .ok (.getfield 15, 3) := by decide +kernel
theorem dX4_merge_18 : decode cX4_merge 18 = .ok (.iload_n 2, 1) := by decide +kernel
theorem dX4_merge_19 : decode cX4_merge 19 = .ok (.iaload, 1) := by decide +kernel
theorem dX4_merge_20 : decode cX4_merge 20 = .ok (.ior, 1) := by decide +kernel
theorem dX4_merge_21 : decode cX4_merge 21 = .ok (.iload_n 3, 1) := by decide +kernel
theorem dX4_merge_22 : decode cX4_merge 22 = .ok (.iconst (-1), 1) := by decide +kernel
theorem dX4_merge_23 : decode cX4_merge 23 = .ok (.ixor, 1) := by decide +kernel
theorem dX4_merge_24 : decode cX4_merge 24 = .ok (.iand, 1) := by decide +kernel
theorem dX4_merge_25 : decode cX4_merge 25 = .ok (.istore 4, 2) := by decide +kernel
theorem dX4_merge_27 : decode cX4_merge 27 = .ok (.iconst 0, 1) := by decide +kernel
theorem dX4_merge_28 : decode cX4_merge 28 = .ok (.istore 5, 2) := by decide +kernel
theorem dX4_merge_30 : decode cX4_merge 30 = .ok (.iload 5, 2) := by decide +kernel
theorem dX4_merge_32 : decode cX4_merge 32 = .ok (.aload_n 0, 1) := by decide +kernel
theorem dX4_merge_33 : decode cX4_merge 33 = .ok (.getfield 9, 3) := by decide +kernel
theorem dX4_merge_36 : decode cX4_merge 36 = .ok (.if_icmp .ge 28, 3) := by decide +kernel
theorem dX4_merge_39 : decode cX4_merge 39 = .ok (.aload_n 0, 1) := by decide +kernel
theorem dX4_merge_40 : decode cX4_merge 40 = .ok (.getfield 15, 3) := by decide +kernel
theorem dX4_merge_43 : decode cX4_merge 43 = .ok (.iload 5, 2) := by decide +kernel
theorem dX4_merge_45 : decode cX4_merge 45 = .ok (.aload_n 0, 1) := by decide +kernel
theorem dX4_merge_46 : decode cX4_merge 46 = .ok (.getfield 15, 3) := by decide +kernel
theorem dX4_merge_49 : decode cX4_merge 49 = .ok (.iload 5, 2) := by decide +kernel
theorem dX4_merge_51 : decode cX4_merge 51 = .ok (.iaload, 1) := by decide +kernel
theorem dX4_merge_52 : decode cX4_merge 52 = .ok (.iload_n 1, 1) := by decide +kernel
theorem dX4_merge_53 : decode cX4_merge 53 = .ok (.iload_n 3, 1) := by decide +kernel
theorem dX4_merge_54 : decode cX4_merge 54 = .ok (.invokestatic 119, 3) := by decide +kernel
theorem dX4_merge_57 : decode cX4_merge 57 = .ok (.iastore, 1) := by decide +kernel
theorem dX4_merge_58 : decode cX4_merge 58 = .ok (.iinc 5 1, 3) := by decide +kernel
theorem dX4_merge_61 : decode cX4_merge 61 = .ok (.goto (-31), 3) := by decide +kernel
theorem dX4_merge_64 : decode cX4_merge 64 = .ok (.aload_n 0, 1) := by decide +kernel
theorem dX4_merge_65 : decode cX4_merge 65 = .ok (.getfield 15, 3) := by decide +kernel
theorem dX4_merge_68 : decode cX4_merge 68 = .ok (.iload_n 1, 1) := by decide +kernel
theorem dX4_merge_69 : decode cX4_merge 69 = .ok (.iload 4, 2) := by decide +kernel
theorem dX4_merge_71 : decode cX4_merge 71 = .ok (.iastore, 1) := by decide +kernel
theorem dX4_merge_72 : decode cX4_merge 72 = .ok (.aload_n 0, 1) := by decide +kernel
theorem dX4_merge_73 : decode cX4_merge 73 = .ok (.getfield 15, 3) := by decide +kernel
theorem dX4_merge_76 : decode cX4_merge 76 = .ok (.iload_n 2, 1) := by decide +kernel
theorem dX4_merge_77 : decode cX4_merge 77 = .ok (.iconst 0, 1) := by decide +kernel
theorem dX4_merge_78 : decode cX4_merge 78 = .ok (.iastore, 1) := by decide +kernel
theorem dX4_merge_79 : decode cX4_merge 79 = .ok (.aload_n 0, 1) := by decide +kernel
theorem dX4_merge_80 : decode cX4_merge 80 = .ok (.aload_n 0, 1) := by decide +kernel
theorem dX4_merge_81 : decode cX4_merge 81 = .ok (.getfield 43, 3) := by decide +kernel
theorem dX4_merge_84 : decode cX4_merge 84 = .ok (.iload_n 1, 1) := by decide +kernel
theorem dX4_merge_85 : decode cX4_merge 85 = .ok (.iload_n 3, 1) := by decide +kernel
theorem dX4_merge_86 : decode cX4_merge 86 = .ok (.invokestatic 119, 3) := by decide +kernel
theorem dX4_merge_89 : decode cX4_merge 89 = .ok (.putfield 43, 3) := by decide +kernel
theorem dX4_merge_92 : decode cX4_merge 92 = .ok (.iconst 0, 1) := by decide +kernel
theorem dX4_merge_93 : decode cX4_merge 93 = .ok (.istore 5, 2) := by decide +kernel
theorem dX4_merge_95 : decode cX4_merge 95 = .ok (.iload 5, 2) := by decide +kernel
theorem dX4_merge_97 : decode cX4_merge 97 = .ok (.bipush 16, 2) := by decide +kernel
theorem dX4_merge_99 : decode cX4_merge 99 = .ok (.if_icmp .ge 38, 3) := by decide +kernel
theorem dX4_merge_102 : decode cX4_merge 102 = .ok (.aload_n 0, 1) := by decide +kernel
theorem dX4_merge_103 : decode cX4_merge 103 = .ok (.getfield 28, 3) := by decide +kernel
theorem dX4_merge_106 : decode cX4_merge 106 = .ok (.iload 5, 2) := by decide +kernel
theorem dX4_merge_108 : decode cX4_merge 108 = .ok (.aload_n 0, 1) := by decide +kernel
theorem dX4_merge_109 : decode cX4_merge 109 = .ok (.getfield 28, 3) := by decide +kernel
theorem dX4_merge_112 : decode cX4_merge 112 = .ok (.iload 5, 2) := by decide +kernel
theorem dX4_merge_114 : decode cX4_merge 114 = .ok (.iaload, 1) := by decide +kernel
theorem dX4_merge_115 : decode cX4_merge 115 = .ok (.iload_n 2, 1) := by decide +kernel
theorem dX4_merge_116 : decode cX4_merge 116 = .ok (.if_icmp .ne 7, 3) := by decide +kernel
theorem dX4_merge_119 : decode cX4_merge 119 = .ok (.iload_n 1, 1) := by decide +kernel
theorem dX4_merge_120 : decode cX4_merge 120 = .ok (.goto 10, 3) := by decide +kernel
theorem dX4_merge_123 : decode cX4_merge 123 = .ok (.aload_n 0, 1) := by decide +kernel
theorem dX4_merge_124 : decode cX4_merge 124 = .ok (.getfield 28, 3) := by decide +kernel
theorem dX4_merge_127 : decode cX4_merge 127 = .ok (.iload 5, 2) := by decide +kernel
theorem dX4_merge_129 : decode cX4_merge 129 = .ok (.iaload, 1) := by decide +kernel
theorem dX4_merge_130 : decode cX4_merge 130 = .ok (.iastore, 1) := by decide +kernel
theorem dX4_merge_131 : decode cX4_merge 131 = .ok (.iinc 5 1, 3) := by decide +kernel
theorem dX4_merge_134 : decode cX4_merge 134 = .ok (.goto (-39), 3) := by decide +kernel
theorem dX4_merge_137 : decode cX4_merge 137 = .ok (.iconst 0, 1) := by decide +kernel
theorem dX4_merge_138 : decode cX4_merge 138 = .ok (.istore 5, 2) := by decide +kernel
theorem dX4_merge_140 : decode cX4_merge 140 = .ok (.iload 5, 2) := by decide +kernel
theorem dX4_merge_142 : decode cX4_merge 142 = .ok (.aload_n 0, 1) := by decide +kernel
theorem dX4_merge_143 : decode cX4_merge 143 = .ok (.getfield 46, 3) := by decide +kernel
theorem dX4_merge_146 : decode cX4_merge 146 = .ok (.if_icmp .ge 39, 3) := by decide +kernel
theorem dX4_merge_149 : decode cX4_merge 149 = .ok (.aload_n 0, 1) := by decide +kernel
theorem dX4_merge_150 : decode cX4_merge 150 = .ok (.getfield 49, 3) := by decide +kernel
theorem dX4_merge_153 : decode cX4_merge 153 = .ok (.iload 5, 2) := by decide +kernel
theorem dX4_merge_155 : decode cX4_merge 155 = .ok (.invokestatic 76, 3) := by decide +kernel
theorem dX4_merge_158 : decode cX4_merge 158 = .ok (.iload_n 2, 1) := by decide +kernel
theorem dX4_merge_159 : decode cX4_merge 159 = .ok (.if_icmp .ne 20, 3) := by decide +kernel
theorem dX4_merge_162 : decode cX4_merge 162 = .ok (.aload_n 0, 1) := by decide +kernel
theorem dX4_merge_163 : decode cX4_merge 163 = .ok (.dup, 1) := by decide +kernel
theorem dX4_merge_164 : decode cX4_merge 164 = .ok (.getfield 49, 3) := by decide +kernel
theorem dX4_merge_167 : decode cX4_merge 167 = .ok (.iload_n 1, 1) := by decide +kernel
theorem dX4_merge_168 : decode cX4_merge 168 = .ok (.iload_n 2, 1) := by decide +kernel
theorem dX4_merge_169 : decode cX4_merge 169 = .ok (.ixor, 1) := by decide +kernel
theorem dX4_merge_170 : decode cX4_merge 170 = .ok (.iconst 3, 1) := by decide +kernel
theorem dX4_merge_171 : decode cX4_merge 171 = .ok (.iload 5, 2) := by decide +kernel
theorem dX4_merge_173 : decode cX4_merge 173 = .ok (.imul, 1) := by decide +kernel
theorem dX4_merge_174 : decode cX4_merge 174 = .ok (.ishl, 1) := by decide +kernel
theorem dX4_merge_175 : decode cX4_merge 175 = .ok (.ixor, 1) := by decide +kernel
theorem dX4_merge_176 : decode cX4_merge 176 = .ok (.putfield 49, 3) := by decide +kernel
theorem dX4_merge_179 : decode cX4_merge 179 = .ok (.iinc 5 1, 3) := by decide +kernel
theorem dX4_merge_182 : decode cX4_merge 182 = .ok (.goto (-42), 3) := by decide +kernel
theorem dX4_merge_185 : decode cX4_merge 185 = .ok (.return_, 1) := by decide +kernel
def KX4_merge_30 (E : EV) (d : Nat) (rr : Option Value × Mem) (b0 : Nat) (x1 : Int32) (x2 : Int32) (x3 : Int32) (x4 : Int32) (Kp : Mem → Prop) : ((Int32 × Mem) ⊕ Mem) → Prop
  | .inl q => G E (d + 1) kX4_merge 30 [some (.ref b0), some (.int x1), some (.int x2), some (.int x3), some (.int x4), some (.int q.1)] [] q.2 rr
  | .inr z => Kp z
def KX4_merge_95 (E : EV) (d : Nat) (rr : Option Value × Mem) (b0 : Nat) (x1 : Int32) (x2 : Int32) (Kp : Mem → Prop) : ((Int32 × Mem) ⊕ Mem) → Prop
  | .inl q => G E (d + 1) kX4_merge 95 [some (.ref b0), some (.int x1), some (.int x2), none, none, some (.int q.1)] [] q.2 rr
  | .inr z => Kp z
def KX4_merge_140 (E : EV) (d : Nat) (rr : Option Value × Mem) (b0 : Nat) (x1 : Int32) (x2 : Int32) (Kp : Mem → Prop) : ((Int32 × Mem) ⊕ Mem) → Prop
  | .inl q => G E (d + 1) kX4_merge 140 [some (.ref b0), some (.int x1), some (.int x2), none, none, some (.int q.1)] [] q.2 rr
  | .inr z => Kp z
def bX4_merge_140 (b0 : Nat) (x1 : Int32) (x2 : Int32) (x5 : Int32) (I : Mem) : Option ((Int32 × Mem) ⊕ Mem) :=
  if (I b0 2) ≤ x5 then
  (some (.inr I))
  else
  (bnd (fX11_roomOf (I b0 3) x5 I) fun v_13 =>
  if v_13 = x2 then
  (letb (up2 I b0 3 ((I b0 3) ^^^ ((x1 ^^^ x2) <<< (((3 : Int32) * x5) &&& 31)))) fun I_14 =>
  some (.inl ((x5 + (1 : Int32)), I_14)))
  else
  (some (.inl ((x5 + (1 : Int32)), I))))
def sX4_merge_140 (b0 : Nat) (x1 : Int32) (x2 : Int32) (q : (Int32 × Mem)) : Option ((Int32 × Mem) ⊕ Mem) := bX4_merge_140 b0 x1 x2 q.1 q.2
set_option maxRecDepth 20000 in
theorem wX4_merge_140 (E : EV) (d : Nat) (rr : Option Value × Mem) (b0 : Nat) (x1 : Int32) (x2 : Int32) (x5 : Int32) (I : Mem) (hb0 : isH b0) (y : ((Int32 × Mem) ⊕ Mem)) (hf : bX4_merge_140 b0 x1 x2 x5 I = some y) (hK : (KX4_merge_140 E d rr b0 x1 x2 (fun (z : Mem) => ((none : Option Value), z) = rr)) y) : G E (d + 1) kX4_merge 140 [some (.ref b0), some (.int x1), some (.int x2), none, none, some (.int x5)] [] I rr := by
  unfold bX4_merge_140 at hf
  refine G.iload dX4_merge_140 rfl ?_
  refine G.aload_n dX4_merge_142 rfl rfl ?_
  refine G.getI dX4_merge_143 flX4_46 (isH_lt hb0) (isH_lk hb0) ?_
  refine G.icmp_ge (tgt := 185) dX4_merge_146 (by decide) (fun c_16 => ?_) (fun c_16 => ?_)
  · have hf := ite_t hf c_16
    have hf := Option.some.inj hf
    subst hf
    exact G.vret' dX4_merge_185 rfl hK
  · have hf := ite_f hf c_16
    refine G.aload_n dX4_merge_149 rfl rfl ?_
    refine G.getI dX4_merge_150 flX4_49 (isH_lt hb0) (isH_lk hb0) ?_
    refine G.iload dX4_merge_153 rfl ?_
    obtain ⟨v_13, hc_12, hf⟩ := bnd_at hf
    refine G.callNi (av := [.int (I b0 3), .int x5]) (rest := []) dX4_merge_155 mnX4_76 (gX11_roomOf E d (I b0 3) x5 I hc_12) rfl rfl (Nat.le_of_ble_eq_true rfl) ?_
    refine G.iload_n dX4_merge_158 rfl rfl ?_
    refine G.icmp_ne (tgt := 179) dX4_merge_159 (by decide) (fun c_15 => ?_) (fun c_15 => ?_)
    · have hf := ite_f hf c_15
      refine G.inc (w := 1) (L' := [some (.ref b0), some (.int x1), some (.int x2), none, none, some (.int (x5 + (1 : Int32)))]) dX4_merge_179 (by decide) rfl (Nat.le_of_ble_eq_true rfl) rfl rfl ?_
      refine G.goto (tgt := 140) dX4_merge_182 (by decide) ?_
      have hf := Option.some.inj hf
      subst hf
      exact hK
    · have hf := ite_t hf c_15
      refine G.aload_n dX4_merge_162 rfl rfl ?_
      refine G.dup dX4_merge_163 rfl ?_
      refine G.getI dX4_merge_164 flX4_49 (isH_lt hb0) (isH_lk hb0) ?_
      refine G.iload_n dX4_merge_167 rfl rfl ?_
      refine G.iload_n dX4_merge_168 rfl rfl ?_
      refine G.ixor dX4_merge_169 ?_
      refine G.iconst (v := 3) dX4_merge_170 (by decide) ?_
      refine G.iload dX4_merge_171 rfl ?_
      refine G.imul dX4_merge_173 ?_
      refine G.ishl dX4_merge_174 ?_
      refine G.ixor dX4_merge_175 ?_
      refine G.putI dX4_merge_176 flX4_49 (isH_lt hb0) (isH_lk hb0) ?_
      refine G.nmI (fun I_14 e_I_14 => ?_)
      have hf := letb_at hf e_I_14
      clear e_I_14
      refine G.inc (w := 1) (L' := [some (.ref b0), some (.int x1), some (.int x2), none, none, some (.int (x5 + (1 : Int32)))]) dX4_merge_179 (by decide) rfl (Nat.le_of_ble_eq_true rfl) rfl rfl ?_
      refine G.goto (tgt := 140) dX4_merge_182 (by decide) ?_
      have hf := Option.some.inj hf
      subst hf
      exact hK
theorem lX4_merge_140 (E : EV) (d : Nat) (rr : Option Value × Mem) (b0 : Nat) (x1 : Int32) (x2 : Int32) (hb0 : isH b0) (z : Mem) (hK : (fun (z : Mem) => ((none : Option Value), z) = rr) z) : ∀ (n : Nat) (q : (Int32 × Mem)), iter (sX4_merge_140 b0 x1 x2) n q = some z → G E (d + 1) kX4_merge 140 [some (.ref b0), some (.int x1), some (.int x2), none, none, some (.int q.1)] [] q.2 rr := by
  intro n
  induction n with
  | zero => intro q h; cases h
  | succ n ih =>
    intro q h
    rcases iter_at h with ⟨q2, hs, h2⟩ | hs
    · exact wX4_merge_140 E d rr b0 x1 x2 q.1 q.2 hb0 _ hs (ih q2 h2)
    · exact wX4_merge_140 E d rr b0 x1 x2 q.1 q.2 hb0 _ hs hK
def bX4_merge_95 (b0 : Nat) (x1 : Int32) (x2 : Int32) (x5 : Int32) (I : Mem) : Option ((Int32 × Mem) ⊕ Mem) :=
  if (16 : Int32) ≤ x5 then
  (inrO (iter (sX4_merge_140 b0 x1 x2) FU ((0 : Int32), I)))
  else
  (chk (inb x5 16) <|
  if (I (b0 + 5) (ix x5)) = x2 then
  (chk (inb x5 16) <|
  letb (up2 I (b0 + 5) (ix x5) x1) fun I_23 =>
  some (.inl ((x5 + (1 : Int32)), I_23)))
  else
  (chk (inb x5 16) <|
  chk (inb x5 16) <|
  letb (up2 I (b0 + 5) (ix x5) (I (b0 + 5) (ix x5))) fun I_21 =>
  some (.inl ((x5 + (1 : Int32)), I_21))))
def sX4_merge_95 (b0 : Nat) (x1 : Int32) (x2 : Int32) (q : (Int32 × Mem)) : Option ((Int32 × Mem) ⊕ Mem) := bX4_merge_95 b0 x1 x2 q.1 q.2
set_option maxRecDepth 20000 in
theorem wX4_merge_95 (E : EV) (d : Nat) (rr : Option Value × Mem) (b0 : Nat) (x1 : Int32) (x2 : Int32) (x5 : Int32) (I : Mem) (hb0 : isH b0) (y : ((Int32 × Mem) ⊕ Mem)) (hf : bX4_merge_95 b0 x1 x2 x5 I = some y) (hK : (KX4_merge_95 E d rr b0 x1 x2 (fun (z : Mem) => ((none : Option Value), z) = rr)) y) : G E (d + 1) kX4_merge 95 [some (.ref b0), some (.int x1), some (.int x2), none, none, some (.int x5)] [] I rr := by
  unfold bX4_merge_95 at hf
  refine G.iload dX4_merge_95 rfl ?_
  refine G.bipush (v := 16) dX4_merge_97 (by decide) ?_
  refine G.icmp_ge (tgt := 137) dX4_merge_99 (by decide) (fun c_25 => ?_) (fun c_25 => ?_)
  · have hf := ite_t hf c_25
    refine G.iconst (v := 0) dX4_merge_137 (by decide) ?_
    refine G.istore (L' := [some (.ref b0), some (.int x1), some (.int x2), none, none, some (.int (0 : Int32))]) dX4_merge_138 (Nat.le_of_ble_eq_true rfl) (Nat.le_of_ble_eq_true rfl) rfl rfl ?_
    obtain ⟨z_17, hz_17, rfl⟩ := inrO_at hf
    have hf := hz_17
    exact lX4_merge_140 E d rr b0 x1 x2 hb0 _ hK FU _ hf
  · have hf := ite_f hf c_25
    refine G.aload_n dX4_merge_102 rfl rfl ?_
    refine G.getR (q := (b0 + 5)) dX4_merge_103 flX4_28 (isH_lt hb0) (isH_lk hb0) (isH_r5 hb0) ?_
    refine G.iload dX4_merge_106 rfl ?_
    refine G.aload_n dX4_merge_108 rfl rfl ?_
    refine G.getR (q := (b0 + 5)) dX4_merge_109 flX4_28 (isH_lt hb0) (isH_lk hb0) (isH_r5 hb0) ?_
    refine G.iload dX4_merge_112 rfl ?_
    obtain ⟨hi_18, hf⟩ := chk_at hf
    refine G.iald' dX4_merge_114 (isH_l5 hb0) (isH_k5 hb0) (isH_n5 hb0) hi_18 ?_
    refine G.iload_n dX4_merge_115 rfl rfl ?_
    refine G.icmp_ne (tgt := 123) dX4_merge_116 (by decide) (fun c_24 => ?_) (fun c_24 => ?_)
    · have hf := ite_f hf c_24
      refine G.aload_n dX4_merge_123 rfl rfl ?_
      refine G.getR (q := (b0 + 5)) dX4_merge_124 flX4_28 (isH_lt hb0) (isH_lk hb0) (isH_r5 hb0) ?_
      refine G.iload dX4_merge_127 rfl ?_
      obtain ⟨hi_19, hf⟩ := chk_at hf
      refine G.iald' dX4_merge_129 (isH_l5 hb0) (isH_k5 hb0) (isH_n5 hb0) hi_19 ?_
      obtain ⟨hi_20, hf⟩ := chk_at hf
      refine G.iast' dX4_merge_130 (isH_l5 hb0) (isH_k5 hb0) (isH_n5 hb0) hi_20 ?_
      refine G.nmI (fun I_21 e_I_21 => ?_)
      have hf := letb_at hf e_I_21
      clear e_I_21
      refine G.inc (w := 1) (L' := [some (.ref b0), some (.int x1), some (.int x2), none, none, some (.int (x5 + (1 : Int32)))]) dX4_merge_131 (by decide) rfl (Nat.le_of_ble_eq_true rfl) rfl rfl ?_
      refine G.goto (tgt := 95) dX4_merge_134 (by decide) ?_
      have hf := Option.some.inj hf
      subst hf
      exact hK
    · have hf := ite_t hf c_24
      refine G.iload_n dX4_merge_119 rfl rfl ?_
      refine G.goto (tgt := 130) dX4_merge_120 (by decide) ?_
      obtain ⟨hi_22, hf⟩ := chk_at hf
      refine G.iast' dX4_merge_130 (isH_l5 hb0) (isH_k5 hb0) (isH_n5 hb0) hi_22 ?_
      refine G.nmI (fun I_23 e_I_23 => ?_)
      have hf := letb_at hf e_I_23
      clear e_I_23
      refine G.inc (w := 1) (L' := [some (.ref b0), some (.int x1), some (.int x2), none, none, some (.int (x5 + (1 : Int32)))]) dX4_merge_131 (by decide) rfl (Nat.le_of_ble_eq_true rfl) rfl rfl ?_
      refine G.goto (tgt := 95) dX4_merge_134 (by decide) ?_
      have hf := Option.some.inj hf
      subst hf
      exact hK
theorem lX4_merge_95 (E : EV) (d : Nat) (rr : Option Value × Mem) (b0 : Nat) (x1 : Int32) (x2 : Int32) (hb0 : isH b0) (z : Mem) (hK : (fun (z : Mem) => ((none : Option Value), z) = rr) z) : ∀ (n : Nat) (q : (Int32 × Mem)), iter (sX4_merge_95 b0 x1 x2) n q = some z → G E (d + 1) kX4_merge 95 [some (.ref b0), some (.int x1), some (.int x2), none, none, some (.int q.1)] [] q.2 rr := by
  intro n
  induction n with
  | zero => intro q h; cases h
  | succ n ih =>
    intro q h
    rcases iter_at h with ⟨q2, hs, h2⟩ | hs
    · exact wX4_merge_95 E d rr b0 x1 x2 q.1 q.2 hb0 _ hs (ih q2 h2)
    · exact wX4_merge_95 E d rr b0 x1 x2 q.1 q.2 hb0 _ hs hK
def bX4_merge_30 (b0 : Nat) (x1 : Int32) (x2 : Int32) (x3 : Int32) (x4 : Int32) (x5 : Int32) (I : Mem) : Option ((Int32 × Mem) ⊕ Mem) :=
  if (I b0 0) ≤ x5 then
  (chk (inb x1 5) <|
  letb (up2 I (b0 + 1) (ix x1) x4) fun I_6 =>
  chk (inb x2 5) <|
  letb (up2 I_6 (b0 + 1) (ix x2) (0 : Int32)) fun I_8 =>
  bnd (fX4_toFirst (I_8 b0 1) x1 x3 I_8) fun v_10 =>
  letb (up2 I_8 b0 1 v_10) fun I_11 =>
  inrO (iter (sX4_merge_95 b0 x1 x2) FU ((0 : Int32), I_11)))
  else
  (chk (inb x5 5) <|
  bnd (fX4_toFirst (I (b0 + 1) (ix x5)) x1 x3 I) fun v_29 =>
  chk (inb x5 5) <|
  letb (up2 I (b0 + 1) (ix x5) v_29) fun I_31 =>
  some (.inl ((x5 + (1 : Int32)), I_31)))
def sX4_merge_30 (b0 : Nat) (x1 : Int32) (x2 : Int32) (x3 : Int32) (x4 : Int32) (q : (Int32 × Mem)) : Option ((Int32 × Mem) ⊕ Mem) := bX4_merge_30 b0 x1 x2 x3 x4 q.1 q.2
set_option maxRecDepth 20000 in
theorem wX4_merge_30 (E : EV) (d : Nat) (rr : Option Value × Mem) (b0 : Nat) (x1 : Int32) (x2 : Int32) (x3 : Int32) (x4 : Int32) (x5 : Int32) (I : Mem) (hb0 : isH b0) (y : ((Int32 × Mem) ⊕ Mem)) (hf : bX4_merge_30 b0 x1 x2 x3 x4 x5 I = some y) (hK : (KX4_merge_30 E d rr b0 x1 x2 x3 x4 (fun (z : Mem) => ((none : Option Value), z) = rr)) y) : G E (d + 1) kX4_merge 30 [some (.ref b0), some (.int x1), some (.int x2), some (.int x3), some (.int x4), some (.int x5)] [] I rr := by
  unfold bX4_merge_30 at hf
  refine G.iload dX4_merge_30 rfl ?_
  refine G.aload_n dX4_merge_32 rfl rfl ?_
  refine G.getI dX4_merge_33 flX4_9 (isH_lt hb0) (isH_lk hb0) ?_
  refine G.icmp_ge (tgt := 64) dX4_merge_36 (by decide) (fun c_32 => ?_) (fun c_32 => ?_)
  · have hf := ite_t hf c_32
    refine G.aload_n dX4_merge_64 rfl rfl ?_
    refine G.getR (q := (b0 + 1)) dX4_merge_65 flX4_15 (isH_lt hb0) (isH_lk hb0) (isH_r1 hb0) ?_
    refine G.iload_n dX4_merge_68 rfl rfl ?_
    refine G.iload dX4_merge_69 rfl ?_
    obtain ⟨hi_5, hf⟩ := chk_at hf
    refine G.iast' dX4_merge_71 (isH_l1 hb0) (isH_k1 hb0) (isH_n1 hb0) hi_5 ?_
    refine G.nmI (fun I_6 e_I_6 => ?_)
    have hf := letb_at hf e_I_6
    clear e_I_6
    refine G.aload_n dX4_merge_72 rfl rfl ?_
    refine G.getR (q := (b0 + 1)) dX4_merge_73 flX4_15 (isH_lt hb0) (isH_lk hb0) (isH_r1 hb0) ?_
    refine G.iload_n dX4_merge_76 rfl rfl ?_
    refine G.iconst (v := 0) dX4_merge_77 (by decide) ?_
    obtain ⟨hi_7, hf⟩ := chk_at hf
    refine G.iast' dX4_merge_78 (isH_l1 hb0) (isH_k1 hb0) (isH_n1 hb0) hi_7 ?_
    refine G.nmI (fun I_8 e_I_8 => ?_)
    have hf := letb_at hf e_I_8
    clear e_I_8
    refine G.aload_n dX4_merge_79 rfl rfl ?_
    refine G.aload_n dX4_merge_80 rfl rfl ?_
    refine G.getI dX4_merge_81 flX4_43 (isH_lt hb0) (isH_lk hb0) ?_
    refine G.iload_n dX4_merge_84 rfl rfl ?_
    refine G.iload_n dX4_merge_85 rfl rfl ?_
    obtain ⟨v_10, hc_9, hf⟩ := bnd_at hf
    refine G.callSi (av := [.int (I_8 b0 1), .int x1, .int x3]) (rest := [.ref b0]) dX4_merge_86 msX4_119 (gX4_toFirst E d (I_8 b0 1) x1 x3 I_8 hc_9) rfl rfl (Nat.le_of_ble_eq_true rfl) ?_
    refine G.putI dX4_merge_89 flX4_43 (isH_lt hb0) (isH_lk hb0) ?_
    refine G.nmI (fun I_11 e_I_11 => ?_)
    have hf := letb_at hf e_I_11
    clear e_I_11
    refine G.iconst (v := 0) dX4_merge_92 (by decide) ?_
    refine G.istore (L' := [some (.ref b0), some (.int x1), some (.int x2), some (.int x3), some (.int x4), some (.int (0 : Int32))]) dX4_merge_93 (Nat.le_of_ble_eq_true rfl) (Nat.le_of_ble_eq_true rfl) rfl rfl ?_
    obtain ⟨z_26, hz_26, rfl⟩ := inrO_at hf
    have hf := hz_26
    refine G.forget (L' := [some (.ref b0), some (.int x1), some (.int x2), none, none, some (.int (0 : Int32))]) [3, 4] rfl ?_
    exact lX4_merge_95 E d rr b0 x1 x2 hb0 _ hK FU _ hf
  · have hf := ite_f hf c_32
    refine G.aload_n dX4_merge_39 rfl rfl ?_
    refine G.getR (q := (b0 + 1)) dX4_merge_40 flX4_15 (isH_lt hb0) (isH_lk hb0) (isH_r1 hb0) ?_
    refine G.iload dX4_merge_43 rfl ?_
    refine G.aload_n dX4_merge_45 rfl rfl ?_
    refine G.getR (q := (b0 + 1)) dX4_merge_46 flX4_15 (isH_lt hb0) (isH_lk hb0) (isH_r1 hb0) ?_
    refine G.iload dX4_merge_49 rfl ?_
    obtain ⟨hi_27, hf⟩ := chk_at hf
    refine G.iald' dX4_merge_51 (isH_l1 hb0) (isH_k1 hb0) (isH_n1 hb0) hi_27 ?_
    refine G.iload_n dX4_merge_52 rfl rfl ?_
    refine G.iload_n dX4_merge_53 rfl rfl ?_
    obtain ⟨v_29, hc_28, hf⟩ := bnd_at hf
    refine G.callSi (av := [.int (I (b0 + 1) (ix x5)), .int x1, .int x3]) (rest := [.int x5, .ref (b0 + 1)]) dX4_merge_54 msX4_119 (gX4_toFirst E d (I (b0 + 1) (ix x5)) x1 x3 I hc_28) rfl rfl (Nat.le_of_ble_eq_true rfl) ?_
    obtain ⟨hi_30, hf⟩ := chk_at hf
    refine G.iast' dX4_merge_57 (isH_l1 hb0) (isH_k1 hb0) (isH_n1 hb0) hi_30 ?_
    refine G.nmI (fun I_31 e_I_31 => ?_)
    have hf := letb_at hf e_I_31
    clear e_I_31
    refine G.inc (w := 1) (L' := [some (.ref b0), some (.int x1), some (.int x2), some (.int x3), some (.int x4), some (.int (x5 + (1 : Int32)))]) dX4_merge_58 (by decide) rfl (Nat.le_of_ble_eq_true rfl) rfl rfl ?_
    refine G.goto (tgt := 30) dX4_merge_61 (by decide) ?_
    have hf := Option.some.inj hf
    subst hf
    exact hK
theorem lX4_merge_30 (E : EV) (d : Nat) (rr : Option Value × Mem) (b0 : Nat) (x1 : Int32) (x2 : Int32) (x3 : Int32) (x4 : Int32) (hb0 : isH b0) (z : Mem) (hK : (fun (z : Mem) => ((none : Option Value), z) = rr) z) : ∀ (n : Nat) (q : (Int32 × Mem)), iter (sX4_merge_30 b0 x1 x2 x3 x4) n q = some z → G E (d + 1) kX4_merge 30 [some (.ref b0), some (.int x1), some (.int x2), some (.int x3), some (.int x4), some (.int q.1)] [] q.2 rr := by
  intro n
  induction n with
  | zero => intro q h; cases h
  | succ n ih =>
    intro q h
    rcases iter_at h with ⟨q2, hs, h2⟩ | hs
    · exact wX4_merge_30 E d rr b0 x1 x2 x3 x4 q.1 q.2 hb0 _ hs (ih q2 h2)
    · exact wX4_merge_30 E d rr b0 x1 x2 x3 x4 q.1 q.2 hb0 _ hs hK
def fX4_merge (b0 : Nat) (x1 : Int32) (x2 : Int32) (I : Mem) : Option Mem :=
  letb (((1 : Int32) <<< (x1 &&& 31)) ||| ((1 : Int32) <<< (x2 &&& 31))) fun x3_1 =>
  chk (inb x1 5) <|
  chk (inb x2 5) <|
  letb (((I (b0 + 1) (ix x1)) ||| (I (b0 + 1) (ix x2))) &&& (x3_1 ^^^ (-1 : Int32))) fun x4_4 =>
  iter (sX4_merge_30 b0 x1 x2 x3_1 x4_4) FU ((0 : Int32), I)
set_option maxRecDepth 20000 in
theorem gX4_merge (E : EV) (d : Nat) (b0 : Nat) (x1 : Int32) (x2 : Int32) (I : Mem) (hb0 : isH b0) {J : Mem} (hf : fX4_merge b0 x1 x2 I = some J) : Gm E (d + 1) kX4_merge [.ref b0, .int x1, .int x2] I (none, J) := by
  refine (fun (y : Mem) (hf : fX4_merge b0 x1 x2 I = some y) => (?_ : Gm E (d + 1) kX4_merge [.ref b0, .int x1, .int x2] I (none, y))) J hf
  refine Gm.of (by decide) rfl (Nat.le_of_ble_eq_true rfl) ?_
  generalize hrr : ((none, y) : Option Value × Mem) = rr
  show G E (d + 1) kX4_merge 0 [some (.ref b0), some (.int x1), some (.int x2), none, none, none] [] I rr
  have hK : (fun (z : Mem) => ((none : Option Value), z) = rr) y := hrr
  clear hrr
  unfold fX4_merge at hf
  refine G.iconst (v := 1) dX4_merge_0 (by decide) ?_
  refine G.iload_n dX4_merge_1 rfl rfl ?_
  refine G.ishl dX4_merge_2 ?_
  refine G.iconst (v := 1) dX4_merge_3 (by decide) ?_
  refine G.iload_n dX4_merge_4 rfl rfl ?_
  refine G.ishl dX4_merge_5 ?_
  refine G.ior dX4_merge_6 ?_
  refine G.nmi (fun x3_1 e_x3_1 => ?_)
  have hf := letb_at hf e_x3_1
  clear e_x3_1
  refine G.istore_n (L' := [some (.ref b0), some (.int x1), some (.int x2), some (.int x3_1), none, none]) dX4_merge_7 rfl (Nat.le_of_ble_eq_true rfl) (Nat.le_of_ble_eq_true rfl) rfl rfl ?_
  refine G.aload_n dX4_merge_8 rfl rfl ?_
  refine G.getR (q := (b0 + 1)) dX4_merge_9 flX4_15 (isH_lt hb0) (isH_lk hb0) (isH_r1 hb0) ?_
  refine G.iload_n dX4_merge_12 rfl rfl ?_
  obtain ⟨hi_2, hf⟩ := chk_at hf
  refine G.iald' dX4_merge_13 (isH_l1 hb0) (isH_k1 hb0) (isH_n1 hb0) hi_2 ?_
  refine G.aload_n dX4_merge_14 rfl rfl ?_
  refine G.getR (q := (b0 + 1)) dX4_merge_15 flX4_15 (isH_lt hb0) (isH_lk hb0) (isH_r1 hb0) ?_
  refine G.iload_n dX4_merge_18 rfl rfl ?_
  obtain ⟨hi_3, hf⟩ := chk_at hf
  refine G.iald' dX4_merge_19 (isH_l1 hb0) (isH_k1 hb0) (isH_n1 hb0) hi_3 ?_
  refine G.ior dX4_merge_20 ?_
  refine G.iload_n dX4_merge_21 rfl rfl ?_
  refine G.iconst (v := -1) dX4_merge_22 (by decide) ?_
  refine G.ixor dX4_merge_23 ?_
  refine G.iand dX4_merge_24 ?_
  refine G.nmi (fun x4_4 e_x4_4 => ?_)
  have hf := letb_at hf e_x4_4
  clear e_x4_4
  refine G.istore (L' := [some (.ref b0), some (.int x1), some (.int x2), some (.int x3_1), some (.int x4_4), none]) dX4_merge_25 (Nat.le_of_ble_eq_true rfl) (Nat.le_of_ble_eq_true rfl) rfl rfl ?_
  refine G.iconst (v := 0) dX4_merge_27 (by decide) ?_
  refine G.istore (L' := [some (.ref b0), some (.int x1), some (.int x2), some (.int x3_1), some (.int x4_4), some (.int (0 : Int32))]) dX4_merge_28 (Nat.le_of_ble_eq_true rfl) (Nat.le_of_ble_eq_true rfl) rfl rfl ?_
  exact lX4_merge_30 E d rr b0 x1 x2 x3_1 x4_4 hb0 _ hK FU _ hf
theorem dX10_onward_0 : decode cX10_onward 0 = .ok (.aload_n 0, 1) := by decide +kernel
theorem dX10_onward_1 : decode cX10_onward 1 = .ok (.aload_n 1, 1) := by decide +kernel
theorem dX10_onward_2 : decode cX10_onward 2 = .ok (.getfield 15, 3) := by decide +kernel
theorem dX10_onward_5 : decode cX10_onward 5 = .ok (.putfield 21, 3) := by decide +kernel
theorem dX10_onward_8 : decode cX10_onward 8 = .ok (.iconst 0, 1) := by decide +kernel
theorem dX10_onward_9 : decode cX10_onward 9 = .ok (.istore_n 3, 1) := by decide +kernel
theorem dX10_onward_10 : decode cX10_onward 10 = .ok (.iload_n 3, 1) := by decide +kernel
theorem dX10_onward_11 : decode cX10_onward 11 = .ok (.aload_n 0, 1) := by decide +kernel
theorem dX10_onward_12 : decode cX10_onward 12 = .ok (.getfield 21, 3) := by decide +kernel
theorem dX10_onward_15 : decode cX10_onward 15 = .ok (.if_icmp .ge 24, 3) := by decide +kernel
theorem dX10_onward_18 : decode cX10_onward 18 = .ok (.aload_n 0, 1) := by decide +kernel
theorem dX10_onward_19 : decode cX10_onward 19 = .ok (.getfield 9, 3) := by decide +kernel
theorem dX10_onward_22 : decode cX10_onward 22 = .ok (.iload_n 3, 1) := by decide +kernel
theorem dX10_onward_23 : decode cX10_onward 23 = .ok (.aload_n 1, 1) := by decide +kernel
theorem dX10_onward_24 : decode cX10_onward 24 = .ok (.iload_n 2, 1) := by decide +kernel
theorem dX10_onward_25 : decode cX10_onward 25 = .ok (.iload_n 3, 1) := by decide +kernel
theorem dX10_onward_26 : decode cX10_onward 26 = .ok (.invokestatic 41, 3) := by decide +kernel
theorem dX10_onward_29 : decode cX10_onward 29 = .ok (.invokevirtual 45, 3) := by decide +kernel
theorem dX10_onward_32 : decode cX10_onward 32 = .ok (.iastore, 1) := by decide +kernel
theorem dX10_onward_33 : decode cX10_onward 33 = .ok (.iinc 3 1, 3) := by decide +kernel
theorem dX10_onward_36 : decode cX10_onward 36 = .ok (.goto (-26), 3) := by decide +kernel
theorem dX10_onward_39 : decode cX10_onward 39 = .ok (.aload_n 0, 1) := by decide +kernel
theorem dX10_onward_40 : decode cX10_onward 40 = .ok (.invokevirtual 32, 3) := by decide +kernel
theorem dX10_onward_43 : decode cX10_onward 43 = .ok (.ireturn, 1) := by decide +kernel
def KX10_onward_10 (E : EV) (d : Nat) (rr : Option Value × Mem) (w0 : Nat) (b1 : Nat) (x2 : Int32) (Kp : (Int32 × Mem) → Prop) : ((Int32 × Mem) ⊕ (Int32 × Mem)) → Prop
  | .inl q => G E (d + 2) kX10_onward 10 [some (.ref w0), some (.ref b1), some (.int x2), some (.int q.1)] [] q.2 rr
  | .inr z => Kp z
def bX10_onward_10 (w0 : Nat) (b1 : Nat) (x2 : Int32) (x3 : Int32) (I : Mem) : Option ((Int32 × Mem) ⊕ (Int32 × Mem)) :=
  if (I w0 1) ≤ x3 then
  (bnd2 (fX10_begin w0 I) fun v_3 I_4 =>
  some (.inr (v_3, I_4)))
  else
  (bnd (fX11_roomOf x2 x3 I) fun v_6 =>
  bnd (fX4_reach b1 v_6 I) fun v_8 =>
  chk (inb x3 4) <|
  letb (up2 I (w0 + 1) (ix x3) v_8) fun I_10 =>
  some (.inl ((x3 + (1 : Int32)), I_10)))
def sX10_onward_10 (w0 : Nat) (b1 : Nat) (x2 : Int32) (q : (Int32 × Mem)) : Option ((Int32 × Mem) ⊕ (Int32 × Mem)) := bX10_onward_10 w0 b1 x2 q.1 q.2
set_option maxRecDepth 20000 in
theorem wX10_onward_10 (E : EV) (d : Nat) (rr : Option Value × Mem) (w0 : Nat) (b1 : Nat) (x2 : Int32) (x3 : Int32) (I : Mem) (hw0 : isW w0) (hb1 : isH b1) (y : ((Int32 × Mem) ⊕ (Int32 × Mem))) (hf : bX10_onward_10 w0 b1 x2 x3 I = some y) (hK : (KX10_onward_10 E d rr w0 b1 x2 (fun (z : Int32 × Mem) => (some (.int z.1), z.2) = rr)) y) : G E (d + 2) kX10_onward 10 [some (.ref w0), some (.ref b1), some (.int x2), some (.int x3)] [] I rr := by
  unfold bX10_onward_10 at hf
  refine G.iload_n dX10_onward_10 rfl rfl ?_
  refine G.aload_n dX10_onward_11 rfl rfl ?_
  refine G.getI dX10_onward_12 flX10_21 (isW_lt hw0) (isW_lk hw0) ?_
  refine G.icmp_ge (tgt := 39) dX10_onward_15 (by decide) (fun c_11 => ?_) (fun c_11 => ?_)
  · have hf := ite_t hf c_11
    refine G.aload_n dX10_onward_39 rfl rfl ?_
    obtain ⟨v_3, I_4, hc_2, hf⟩ := bnd2_at hf
    refine G.callVi (av := []) (rest := []) dX10_onward_40 mvX10_32 (gX10_begin E d w0 I hw0 hc_2) (isW_lt hw0) (isW_lk hw0) rfl rfl (Nat.le_of_ble_eq_true rfl) ?_
    have hf := Option.some.inj hf
    subst hf
    exact G.iret' dX10_onward_43 rfl hK
  · have hf := ite_f hf c_11
    refine G.aload_n dX10_onward_18 rfl rfl ?_
    refine G.getR (q := (w0 + 1)) dX10_onward_19 flX10_9 (isW_lt hw0) (isW_lk hw0) (isW_r1 hw0) ?_
    refine G.iload_n dX10_onward_22 rfl rfl ?_
    refine G.aload_n dX10_onward_23 rfl rfl ?_
    refine G.iload_n dX10_onward_24 rfl rfl ?_
    refine G.iload_n dX10_onward_25 rfl rfl ?_
    obtain ⟨v_6, hc_5, hf⟩ := bnd_at hf
    refine G.callNi (av := [.int x2, .int x3]) (rest := [.ref b1, .int x3, .ref (w0 + 1)]) dX10_onward_26 mnX10_41 (gX11_roomOf E (d + 1) x2 x3 I hc_5) rfl rfl (Nat.le_of_ble_eq_true rfl) ?_
    obtain ⟨v_8, hc_7, hf⟩ := bnd_at hf
    refine G.callVi (av := [.int v_6]) (rest := [.int x3, .ref (w0 + 1)]) dX10_onward_29 mvX10_45 (gX4_reach E (d + 1) b1 v_6 I hb1 hc_7) (isH_lt hb1) (isH_lk hb1) rfl rfl (Nat.le_of_ble_eq_true rfl) ?_
    obtain ⟨hi_9, hf⟩ := chk_at hf
    refine G.iast' dX10_onward_32 (isW_l1 hw0) (isW_k1 hw0) (isW_n1 hw0) hi_9 ?_
    refine G.nmI (fun I_10 e_I_10 => ?_)
    have hf := letb_at hf e_I_10
    clear e_I_10
    refine G.inc (w := 1) (L' := [some (.ref w0), some (.ref b1), some (.int x2), some (.int (x3 + (1 : Int32)))]) dX10_onward_33 (by decide) rfl (Nat.le_of_ble_eq_true rfl) rfl rfl ?_
    refine G.goto (tgt := 10) dX10_onward_36 (by decide) ?_
    have hf := Option.some.inj hf
    subst hf
    exact hK
theorem lX10_onward_10 (E : EV) (d : Nat) (rr : Option Value × Mem) (w0 : Nat) (b1 : Nat) (x2 : Int32) (hw0 : isW w0) (hb1 : isH b1) (z : (Int32 × Mem)) (hK : (fun (z : Int32 × Mem) => (some (.int z.1), z.2) = rr) z) : ∀ (n : Nat) (q : (Int32 × Mem)), iter (sX10_onward_10 w0 b1 x2) n q = some z → G E (d + 2) kX10_onward 10 [some (.ref w0), some (.ref b1), some (.int x2), some (.int q.1)] [] q.2 rr := by
  intro n
  induction n with
  | zero => intro q h; cases h
  | succ n ih =>
    intro q h
    rcases iter_at h with ⟨q2, hs, h2⟩ | hs
    · exact wX10_onward_10 E d rr w0 b1 x2 q.1 q.2 hw0 hb1 _ hs (ih q2 h2)
    · exact wX10_onward_10 E d rr w0 b1 x2 q.1 q.2 hw0 hb1 _ hs hK
def fX10_onward (w0 : Nat) (b1 : Nat) (x2 : Int32) (I : Mem) : Option (Int32 × Mem) :=
  letb (up2 I w0 1 (I b1 2)) fun I_1 =>
  iter (sX10_onward_10 w0 b1 x2) FU ((0 : Int32), I_1)
set_option maxRecDepth 20000 in
theorem gX10_onward (E : EV) (d : Nat) (w0 : Nat) (b1 : Nat) (x2 : Int32) (I : Mem) (hw0 : isW w0) (hb1 : isH b1) {v : Int32} {J : Mem} (hf : fX10_onward w0 b1 x2 I = some (v, J)) : Gm E (d + 2) kX10_onward [.ref w0, .ref b1, .int x2] I (some (.int v), J) := by
  refine (fun (y : (Int32 × Mem)) (hf : fX10_onward w0 b1 x2 I = some y) => (?_ : Gm E (d + 2) kX10_onward [.ref w0, .ref b1, .int x2] I (some (.int y.1), y.2))) (v, J) hf
  refine Gm.of (by decide) rfl (Nat.le_of_ble_eq_true rfl) ?_
  generalize hrr : ((some (.int y.1), y.2) : Option Value × Mem) = rr
  show G E (d + 2) kX10_onward 0 [some (.ref w0), some (.ref b1), some (.int x2), none] [] I rr
  have hK : (fun (z : Int32 × Mem) => (some (.int z.1), z.2) = rr) y := hrr
  clear hrr
  unfold fX10_onward at hf
  refine G.aload_n dX10_onward_0 rfl rfl ?_
  refine G.aload_n dX10_onward_1 rfl rfl ?_
  refine G.getI dX10_onward_2 flX10_15 (isH_lt hb1) (isH_lk hb1) ?_
  refine G.putI dX10_onward_5 flX10_21 (isW_lt hw0) (isW_lk hw0) ?_
  refine G.nmI (fun I_1 e_I_1 => ?_)
  have hf := letb_at hf e_I_1
  clear e_I_1
  refine G.iconst (v := 0) dX10_onward_8 (by decide) ?_
  refine G.istore_n (L' := [some (.ref w0), some (.ref b1), some (.int x2), some (.int (0 : Int32))]) dX10_onward_9 rfl (Nat.le_of_ble_eq_true rfl) (Nat.le_of_ble_eq_true rfl) rfl rfl ?_
  exact lX10_onward_10 E d rr w0 b1 x2 hw0 hb1 _ hK FU _ hf
