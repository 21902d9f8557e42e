theorem dJ7_fill_53178_0 : decode cJ7_fill_53178 0 = .ok (.iconst 0, 1) := by decide +kernel
theorem dJ7_fill_53178_1 : decode cJ7_fill_53178 1 = .ok (.istore_n 2, 1) := by decide +kernel
theorem dJ7_fill_53178_2 : decode cJ7_fill_53178 2 = .ok (.aload_n 0, 1) := by decide +kernel
theorem dJ7_fill_53178_3 : decode cJ7_fill_53178 3 = .ok (.arraylength, 1) := by decide +kernel
theorem dJ7_fill_53178_4 : decode cJ7_fill_53178 4 = .ok (.istore_n 3, 1) := by decide +kernel
theorem dJ7_fill_53178_5 : decode cJ7_fill_53178 5 = .ok (.iload_n 2, 1) := by decide +kernel
theorem dJ7_fill_53178_6 : decode cJ7_fill_53178 6 = .ok (.iload_n 3, 1) := by decide +kernel
theorem dJ7_fill_53178_7 : decode cJ7_fill_53178 7 = .ok (.if_icmp .ge 13, 3) := by decide +kernel
theorem dJ7_fill_53178_10 : decode cJ7_fill_53178 10 = .ok (.aload_n 0, 1) := by decide +kernel
theorem dJ7_fill_53178_11 : decode cJ7_fill_53178 11 = .ok (.iload_n 2, 1) := by decide +kernel
theorem dJ7_fill_53178_12 : decode cJ7_fill_53178 12 = .ok (.iload_n 1, 1) := by decide +kernel
theorem dJ7_fill_53178_13 : decode cJ7_fill_53178 13 = .ok (.iastore, 1) := by decide +kernel
theorem dJ7_fill_53178_14 : decode cJ7_fill_53178 14 = .ok (.iinc 2 1, 3) := by decide +kernel
theorem dJ7_fill_53178_17 : decode cJ7_fill_53178 17 = .ok (.goto (-12), 3) := by decide +kernel
theorem dJ7_fill_53178_20 : decode cJ7_fill_53178 20 = .ok (.return_, 1) := by decide +kernel
def KJ7_fill_53178_5 (E : EV) (d : Nat) (rr : Option Value × Mem) (a0 : Nat) (x1 : Int32) (x3 : Int32) (Kp : Mem → Prop) : ((Int32 × Mem) ⊕ Mem) → Prop
  | .inl q => G E (d + 0) kJ7_fill_53178 5 [some (.ref a0), some (.int x1), some (.int q.1), some (.int x3)] [] q.2 rr
  | .inr z => Kp z
def bJ7_fill_53178_5 (a0 : Nat) (x1 : Int32) (x3 : Int32) (x2 : Int32) (I : Mem) : Option ((Int32 × Mem) ⊕ Mem) :=
  if x3 ≤ x2 then
  (some (.inr I))
  else
  (chk (inb x2 (ln a0)) <|
  letb (up2 I a0 (ix x2) x1) fun I_3 =>
  some (.inl ((x2 + (1 : Int32)), I_3)))
def sJ7_fill_53178_5 (a0 : Nat) (x1 : Int32) (x3 : Int32) (q : (Int32 × Mem)) : Option ((Int32 × Mem) ⊕ Mem) := bJ7_fill_53178_5 a0 x1 x3 q.1 q.2
set_option maxRecDepth 20000 in
theorem wJ7_fill_53178_5 (E : EV) (d : Nat) (rr : Option Value × Mem) (a0 : Nat) (x1 : Int32) (x3 : Int32) (x2 : Int32) (I : Mem) (ha0 : isA a0) (y : ((Int32 × Mem) ⊕ Mem)) (hf : bJ7_fill_53178_5 a0 x1 x3 x2 I = some y) (hK : (KJ7_fill_53178_5 E d rr a0 x1 x3 (fun (z : Mem) => ((none : Option Value), z) = rr)) y) : G E (d + 0) kJ7_fill_53178 5 [some (.ref a0), some (.int x1), some (.int x2), some (.int x3)] [] I rr := by
  unfold bJ7_fill_53178_5 at hf
  refine G.iload_n dJ7_fill_53178_5 rfl rfl ?_
  refine G.iload_n dJ7_fill_53178_6 rfl rfl ?_
  refine G.icmp_ge (tgt := 20) dJ7_fill_53178_7 (by decide) (fun c_4 => ?_) (fun c_4 => ?_)
  · have hf := ite_t hf c_4
    have hf := Option.some.inj hf
    subst hf
    exact G.vret' dJ7_fill_53178_20 rfl hK
  · have hf := ite_f hf c_4
    refine G.aload_n dJ7_fill_53178_10 rfl rfl ?_
    refine G.iload_n dJ7_fill_53178_11 rfl rfl ?_
    refine G.iload_n dJ7_fill_53178_12 rfl rfl ?_
    obtain ⟨hi_2, hf⟩ := chk_at hf
    refine G.iast' dJ7_fill_53178_13 ha0.1 ha0.2 rfl hi_2 ?_
    refine G.nmI (fun I_3 e_I_3 => ?_)
    have hf := letb_at hf e_I_3
    clear e_I_3
    refine G.inc (w := 1) (L' := [some (.ref a0), some (.int x1), some (.int (x2 + (1 : Int32))), some (.int x3)]) dJ7_fill_53178_14 (by decide) rfl (Nat.le_of_ble_eq_true rfl) rfl rfl ?_
    refine G.goto (tgt := 5) dJ7_fill_53178_17 (by decide) ?_
    have hf := Option.some.inj hf
    subst hf
    exact hK
theorem lJ7_fill_53178_5 (E : EV) (d : Nat) (rr : Option Value × Mem) (a0 : Nat) (x1 : Int32) (x3 : Int32) (ha0 : isA a0) (z : Mem) (hK : (fun (z : Mem) => ((none : Option Value), z) = rr) z) : ∀ (n : Nat) (q : (Int32 × Mem)), iter (sJ7_fill_53178_5 a0 x1 x3) n q = some z → G E (d + 0) kJ7_fill_53178 5 [some (.ref a0), some (.int x1), some (.int q.1), some (.int x3)] [] q.2 rr := by
  intro n
  induction n with
  | zero => intro q h; cases h
  | succ n ih =>
    intro q h
    rcases iter_at h with ⟨q2, hs, h2⟩ | hs
    · exact wJ7_fill_53178_5 E d rr a0 x1 x3 q.1 q.2 ha0 _ hs (ih q2 h2)
    · exact wJ7_fill_53178_5 E d rr a0 x1 x3 q.1 q.2 ha0 _ hs hK
def fJ7_fill_53178 (a0 : Nat) (x1 : Int32) (I : Mem) : Option Mem :=
  letb (nI (ln a0)) fun x3_1 =>
  iter (sJ7_fill_53178_5 a0 x1 x3_1) FU ((0 : Int32), I)
set_option maxRecDepth 20000 in
theorem gJ7_fill_53178 (E : EV) (d : Nat) (a0 : Nat) (x1 : Int32) (I : Mem) (ha0 : isA a0) {J : Mem} (hf : fJ7_fill_53178 a0 x1 I = some J) : Gm E (d + 0) kJ7_fill_53178 [.ref a0, .int x1] I (none, J) := by
  refine (fun (y : Mem) (hf : fJ7_fill_53178 a0 x1 I = some y) => (?_ : Gm E (d + 0) kJ7_fill_53178 [.ref a0, .int x1] I (none, y))) J hf
  refine Gm.of (by decide) rfl (Nat.le_of_ble_eq_true rfl) ?_
  generalize hrr : ((none, y) : Option Value × Mem) = rr
  show G E (d + 0) kJ7_fill_53178 0 [some (.ref a0), some (.int x1), none, none] [] I rr
  have hK : (fun (z : Mem) => ((none : Option Value), z) = rr) y := hrr
  clear hrr
  unfold fJ7_fill_53178 at hf
  refine G.iconst (v := 0) dJ7_fill_53178_0 (by decide) ?_
  refine G.istore_n (L' := [some (.ref a0), some (.int x1), some (.int (0 : Int32)), none]) dJ7_fill_53178_1 rfl (Nat.le_of_ble_eq_true rfl) (Nat.le_of_ble_eq_true rfl) rfl rfl ?_
  refine G.aload_n dJ7_fill_53178_2 rfl rfl ?_
  refine G.alen (v := nI (ln a0)) dJ7_fill_53178_3 ha0.1 ha0.2 (congrArg nI rfl) ?_
  refine G.nmi (fun x3_1 e_x3_1 => ?_)
  have hf := letb_at hf e_x3_1
  clear e_x3_1
  refine G.istore_n (L' := [some (.ref a0), some (.int x1), some (.int (0 : Int32)), some (.int x3_1)]) dJ7_fill_53178_4 rfl (Nat.le_of_ble_eq_true rfl) (Nat.le_of_ble_eq_true rfl) rfl rfl ?_
  exact lJ7_fill_53178_5 E d rr a0 x1 x3_1 ha0 _ hK FU _ hf
theorem dJ6_bitCount_0f7a4_0 : decode cJ6_bitCount_0f7a4 0 = .ok (.iload_n 0, 1) := by decide +kernel
theorem dJ6_bitCount_0f7a4_1 : decode cJ6_bitCount_0f7a4 1 = .ok (.iload_n 0, 1) := by decide +kernel
theorem dJ6_bitCount_0f7a4_2 : decode cJ6_bitCount_0f7a4 2 = .ok (.iconst 1, 1) := by decide +kernel
theorem dJ6_bitCount_0f7a4_3 : decode cJ6_bitCount_0f7a4 3 = .ok (.iushr, 1) := by decide +kernel
theorem dJ6_bitCount_0f7a4_4 : decode cJ6_bitCount_0f7a4 4 = .ok (.ldc_w 265, 3) := by decide +kernel
theorem dJ6_bitCount_0f7a4_7 : decode cJ6_bitCount_0f7a4 7 = .ok (.iand, 1) := by decide +kernel
theorem dJ6_bitCount_0f7a4_8 : decode cJ6_bitCount_0f7a4 8 = .ok (.isub, 1) := by decide +kernel
theorem dJ6_bitCount_0f7a4_9 : decode cJ6_bitCount_0f7a4 9 = .ok (.istore_n 0, 1) := by decide +kernel
theorem dJ6_bitCount_0f7a4_10 : decode cJ6_bitCount_0f7a4 10 = .ok (.iload_n 0, 1) := by decide +kernel
theorem dJ6_bitCount_0f7a4_11 : decode cJ6_bitCount_0f7a4 11 = .ok (.ldc_w 266, 3) := by decide +kernel
theorem dJ6_bitCount_0f7a4_14 : decode cJ6_bitCount_0f7a4 14 = .ok (.iand, 1) := by decide +kernel
theorem dJ6_bitCount_0f7a4_15 : decode cJ6_bitCount_0f7a4 15 = .ok (.iload_n 0, 1) := by decide +kernel
theorem dJ6_bitCount_0f7a4_16 : decode cJ6_bitCount_0f7a4 16 = .ok (.iconst 2, 1) := by decide +kernel
theorem dJ6_bitCount_0f7a4_17 : decode cJ6_bitCount_0f7a4 17 = .ok (.iushr, 1) := by decide +kernel
theorem dJ6_bitCount_0f7a4_18 : decode cJ6_bitCount_0f7a4 18 = .ok (.ldc_w 266, 3) := by decide +kernel
theorem dJ6_bitCount_0f7a4_21 : decode cJ6_bitCount_0f7a4 21 = .ok (.iand, 1) := by decide +kernel
theorem dJ6_bitCount_0f7a4_22 : decode cJ6_bitCount_0f7a4 22 = .ok (.iadd, 1) := by decide +kernel
theorem dJ6_bitCount_0f7a4_23 : decode cJ6_bitCount_0f7a4 23 = .ok (.istore_n 0, 1) := by decide +kernel
theorem dJ6_bitCount_0f7a4_24 : decode cJ6_bitCount_0f7a4 24 = .ok (.iload_n 0, 1) := by decide +kernel
theorem dJ6_bitCount_0f7a4_25 : decode cJ6_bitCount_0f7a4 25 = .ok (.iload_n 0, 1) := by decide +kernel
theorem dJ6_bitCount_0f7a4_26 : decode cJ6_bitCount_0f7a4 26 = .ok (.iconst 4, 1) := by decide +kernel
theorem dJ6_bitCount_0f7a4_27 : decode cJ6_bitCount_0f7a4 27 = .ok (.iushr, 1) := by decide +kernel
theorem dJ6_bitCount_0f7a4_28 : decode cJ6_bitCount_0f7a4 28 = .ok (.iadd, 1) := by decide +kernel
theorem dJ6_bitCount_0f7a4_29 : decode cJ6_bitCount_0f7a4 29 = .ok (.ldc_w 267, 3) := by decide +kernel
theorem dJ6_bitCount_0f7a4_32 : decode cJ6_bitCount_0f7a4 32 = .ok (.iand, 1) := by decide +kernel
theorem dJ6_bitCount_0f7a4_33 : decode cJ6_bitCount_0f7a4 33 = .ok (.istore_n 0, 1) := by decide +kernel
theorem dJ6_bitCount_0f7a4_34 : decode cJ6_bitCount_0f7a4 34 = .ok (.iload_n 0, 1) := by decide +kernel
theorem dJ6_bitCount_0f7a4_35 : decode cJ6_bitCount_0f7a4 35 = .ok (.iload_n 0, 1) := by decide +kernel
theorem dJ6_bitCount_0f7a4_36 : decode cJ6_bitCount_0f7a4 36 = .ok (.bipush 8, 2) := by decide +kernel
theorem dJ6_bitCount_0f7a4_38 : decode cJ6_bitCount_0f7a4 38 = .ok (.iushr, 1) := by decide +kernel
theorem dJ6_bitCount_0f7a4_39 : decode cJ6_bitCount_0f7a4 39 = .ok (.iadd, 1) := by decide +kernel
theorem dJ6_bitCount_0f7a4_40 : decode cJ6_bitCount_0f7a4 40 = .ok (.istore_n 0, 1) := by decide +kernel
theorem dJ6_bitCount_0f7a4_41 : decode cJ6_bitCount_0f7a4 41 = .ok (.iload_n 0, 1) := by decide +kernel
theorem dJ6_bitCount_0f7a4_42 : decode cJ6_bitCount_0f7a4 42 = .ok (.iload_n 0, 1) := by decide +kernel
theorem dJ6_bitCount_0f7a4_43 : decode cJ6_bitCount_0f7a4 43 = .ok (.bipush 16, 2) := by decide +kernel
theorem dJ6_bitCount_0f7a4_45 : decode cJ6_bitCount_0f7a4 45 = .ok (.iushr, 1) := by decide +kernel
theorem dJ6_bitCount_0f7a4_46 : decode cJ6_bitCount_0f7a4 46 = .ok (.iadd, 1) := by decide +kernel
theorem dJ6_bitCount_0f7a4_47 : decode cJ6_bitCount_0f7a4 47 = .ok (.istore_n 0, 1) := by decide +kernel
theorem dJ6_bitCount_0f7a4_48 : decode cJ6_bitCount_0f7a4 48 = .ok (.iload_n 0, 1) := by decide +kernel
theorem dJ6_bitCount_0f7a4_49 : decode cJ6_bitCount_0f7a4 49 = .ok (.bipush 63, 2) := by decide +kernel
theorem dJ6_bitCount_0f7a4_51 : decode cJ6_bitCount_0f7a4 51 = .ok (.iand, 1) := by decide +kernel
theorem dJ6_bitCount_0f7a4_52 : decode cJ6_bitCount_0f7a4 52 = .ok (.ireturn, 1) := by decide +kernel
def fJ6_bitCount_0f7a4 (x0 : Int32) (I : Mem) : Option Int32 :=
  letb (x0 - ((Int32.toUInt32 x0 >>> (Int32.toUInt32 (1 : Int32) &&& Int32.toUInt32 31)).toInt32 &&& (1431655765 : Int32))) fun x0_1 =>
  letb ((x0_1 &&& (858993459 : Int32)) + ((Int32.toUInt32 x0_1 >>> (Int32.toUInt32 (2 : Int32) &&& Int32.toUInt32 31)).toInt32 &&& (858993459 : Int32))) fun x0_2 =>
  letb ((x0_2 + (Int32.toUInt32 x0_2 >>> (Int32.toUInt32 (4 : Int32) &&& Int32.toUInt32 31)).toInt32) &&& (252645135 : Int32)) fun x0_3 =>
  letb (x0_3 + (Int32.toUInt32 x0_3 >>> (Int32.toUInt32 (8 : Int32) &&& Int32.toUInt32 31)).toInt32) fun x0_4 =>
  letb (x0_4 + (Int32.toUInt32 x0_4 >>> (Int32.toUInt32 (16 : Int32) &&& Int32.toUInt32 31)).toInt32) fun x0_5 =>
  some (x0_5 &&& (63 : Int32))
set_option maxRecDepth 20000 in
theorem gJ6_bitCount_0f7a4 (E : EV) (d : Nat) (x0 : Int32) (I : Mem) {v : Int32} (hf : fJ6_bitCount_0f7a4 x0 I = some v) : Gm E (d + 0) kJ6_bitCount_0f7a4 [.int x0] I (some (.int v), I) := by
  refine (fun (y : Int32) (hf : fJ6_bitCount_0f7a4 x0 I = some y) => (?_ : Gm E (d + 0) kJ6_bitCount_0f7a4 [.int x0] I (some (.int y), I))) v hf
  refine Gm.of (by decide) rfl (Nat.le_of_ble_eq_true rfl) ?_
  generalize hrr : ((some (.int y), I) : Option Value × Mem) = rr
  show G E (d + 0) kJ6_bitCount_0f7a4 0 [some (.int x0)] [] I rr
  have hK : (fun (z : Int32) => (some (.int z), I) = rr) y := hrr
  clear hrr
  unfold fJ6_bitCount_0f7a4 at hf
  refine G.iload_n dJ6_bitCount_0f7a4_0 rfl rfl ?_
  refine G.iload_n dJ6_bitCount_0f7a4_1 rfl rfl ?_
  refine G.iconst (v := 1) dJ6_bitCount_0f7a4_2 (by decide) ?_
  refine G.iushr dJ6_bitCount_0f7a4_3 ?_
  refine G.ldcw (v := 1431655765) dJ6_bitCount_0f7a4_4 kcJ6_265 ?_
  refine G.iand dJ6_bitCount_0f7a4_7 ?_
  refine G.isub dJ6_bitCount_0f7a4_8 ?_
  refine G.nmi (fun x0_1 e_x0_1 => ?_)
  have hf := letb_at hf e_x0_1
  clear e_x0_1
  refine G.istore_n (L' := [some (.int x0_1)]) dJ6_bitCount_0f7a4_9 rfl (Nat.le_of_ble_eq_true rfl) (Nat.le_of_ble_eq_true rfl) rfl rfl ?_
  refine G.iload_n dJ6_bitCount_0f7a4_10 rfl rfl ?_
  refine G.ldcw (v := 858993459) dJ6_bitCount_0f7a4_11 kcJ6_266 ?_
  refine G.iand dJ6_bitCount_0f7a4_14 ?_
  refine G.iload_n dJ6_bitCount_0f7a4_15 rfl rfl ?_
  refine G.iconst (v := 2) dJ6_bitCount_0f7a4_16 (by decide) ?_
  refine G.iushr dJ6_bitCount_0f7a4_17 ?_
  refine G.ldcw (v := 858993459) dJ6_bitCount_0f7a4_18 kcJ6_266 ?_
  refine G.iand dJ6_bitCount_0f7a4_21 ?_
  refine G.iadd dJ6_bitCount_0f7a4_22 ?_
  refine G.nmi (fun x0_2 e_x0_2 => ?_)
  have hf := letb_at hf e_x0_2
  clear e_x0_2
  refine G.istore_n (L' := [some (.int x0_2)]) dJ6_bitCount_0f7a4_23 rfl (Nat.le_of_ble_eq_true rfl) (Nat.le_of_ble_eq_true rfl) rfl rfl ?_
  refine G.iload_n dJ6_bitCount_0f7a4_24 rfl rfl ?_
  refine G.iload_n dJ6_bitCount_0f7a4_25 rfl rfl ?_
  refine G.iconst (v := 4) dJ6_bitCount_0f7a4_26 (by decide) ?_
  refine G.iushr dJ6_bitCount_0f7a4_27 ?_
  refine G.iadd dJ6_bitCount_0f7a4_28 ?_
  refine G.ldcw (v := 252645135) dJ6_bitCount_0f7a4_29 kcJ6_267 ?_
  refine G.iand dJ6_bitCount_0f7a4_32 ?_
  refine G.nmi (fun x0_3 e_x0_3 => ?_)
  have hf := letb_at hf e_x0_3
  clear e_x0_3
  refine G.istore_n (L' := [some (.int x0_3)]) dJ6_bitCount_0f7a4_33 rfl (Nat.le_of_ble_eq_true rfl) (Nat.le_of_ble_eq_true rfl) rfl rfl ?_
  refine G.iload_n dJ6_bitCount_0f7a4_34 rfl rfl ?_
  refine G.iload_n dJ6_bitCount_0f7a4_35 rfl rfl ?_
  refine G.bipush (v := 8) dJ6_bitCount_0f7a4_36 (by decide) ?_
  refine G.iushr dJ6_bitCount_0f7a4_38 ?_
  refine G.iadd dJ6_bitCount_0f7a4_39 ?_
  refine G.nmi (fun x0_4 e_x0_4 => ?_)
  have hf := letb_at hf e_x0_4
  clear e_x0_4
  refine G.istore_n (L' := [some (.int x0_4)]) dJ6_bitCount_0f7a4_40 rfl (Nat.le_of_ble_eq_true rfl) (Nat.le_of_ble_eq_true rfl) rfl rfl ?_
  refine G.iload_n dJ6_bitCount_0f7a4_41 rfl rfl ?_
  refine G.iload_n dJ6_bitCount_0f7a4_42 rfl rfl ?_
  refine G.bipush (v := 16) dJ6_bitCount_0f7a4_43 (by decide) ?_
  refine G.iushr dJ6_bitCount_0f7a4_45 ?_
  refine G.iadd dJ6_bitCount_0f7a4_46 ?_
  refine G.nmi (fun x0_5 e_x0_5 => ?_)
  have hf := letb_at hf e_x0_5
  clear e_x0_5
  refine G.istore_n (L' := [some (.int x0_5)]) dJ6_bitCount_0f7a4_47 rfl (Nat.le_of_ble_eq_true rfl) (Nat.le_of_ble_eq_true rfl) rfl rfl ?_
  refine G.iload_n dJ6_bitCount_0f7a4_48 rfl rfl ?_
  refine G.bipush (v := 63) dJ6_bitCount_0f7a4_49 (by decide) ?_
  refine G.iand dJ6_bitCount_0f7a4_51 ?_
  have hf := Option.some.inj hf
  subst hf
  exact G.iret' dJ6_bitCount_0f7a4_52 rfl hK
theorem dJ6_numberOfTrailingZeros_0f7a4_0 : decode cJ6_numberOfTrailingZeros_0f7a4 0 = .ok (.iload_n 0, 1) := by decide +kernel
theorem dJ6_numberOfTrailingZeros_0f7a4_1 : decode cJ6_numberOfTrailingZeros_0f7a4 1 = .ok (.iconst (-1), 1) := by decide +kernel
theorem dJ6_numberOfTrailingZeros_0f7a4_2 : decode cJ6_numberOfTrailingZeros_0f7a4 2 = .ok (.ixor, 1) := by decide +kernel
theorem dJ6_numberOfTrailingZeros_0f7a4_3 : decode cJ6_numberOfTrailingZeros_0f7a4 3 = .ok (.iload_n 0, 1) := by decide +kernel
theorem dJ6_numberOfTrailingZeros_0f7a4_4 : decode cJ6_numberOfTrailingZeros_0f7a4 4 = .ok (.iconst 1, 1) := by decide +kernel
theorem dJ6_numberOfTrailingZeros_0f7a4_5 : decode cJ6_numberOfTrailingZeros_0f7a4 5 = .ok (.isub, 1) := by decide +kernel
theorem dJ6_numberOfTrailingZeros_0f7a4_6 : decode cJ6_numberOfTrailingZeros_0f7a4 6 = .ok (.iand, 1) := by decide +kernel
theorem dJ6_numberOfTrailingZeros_0f7a4_7 : decode cJ6_numberOfTrailingZeros_0f7a4 7 = .ok (.istore_n 0, 1) := by decide +kernel
theorem dJ6_numberOfTrailingZeros_0f7a4_8 : decode cJ6_numberOfTrailingZeros_0f7a4 8 = .ok (.iload_n 0, 1) := by decide +kernel
theorem dJ6_numberOfTrailingZeros_0f7a4_9 : decode cJ6_numberOfTrailingZeros_0f7a4 9 = .ok (.ifCond .gt 8, 3) := by decide +kernel
theorem dJ6_numberOfTrailingZeros_0f7a4_12 : decode cJ6_numberOfTrailingZeros_0f7a4 12 = .ok (.iload_n 0, 1) := by decide +kernel
theorem dJ6_numberOfTrailingZeros_0f7a4_13 : decode cJ6_numberOfTrailingZeros_0f7a4 13 = .ok (.bipush 32, 2) := by decide +kernel
theorem dJ6_numberOfTrailingZeros_0f7a4_15 : decode cJ6_numberOfTrailingZeros_0f7a4 15 = .ok (.iand, 1) := by decide +kernel
theorem dJ6_numberOfTrailingZeros_0f7a4_16 : decode cJ6_numberOfTrailingZeros_0f7a4 16 = .ok (.ireturn, 1) := by decide +kernel
theorem dJ6_numberOfTrailingZeros_0f7a4_17 : decode cJ6_numberOfTrailingZeros_0f7a4 17 = .ok (.iconst 1, 1) := by decide +kernel
theorem dJ6_numberOfTrailingZeros_0f7a4_18 : decode cJ6_numberOfTrailingZeros_0f7a4 18 = .ok (.istore_n 1, 1) := by decide +kernel
theorem dJ6_numberOfTrailingZeros_0f7a4_19 : decode cJ6_numberOfTrailingZeros_0f7a4 19 = .ok (.iload_n 0, 1) := by decide +kernel
theorem dJ6_numberOfTrailingZeros_0f7a4_20 : decode cJ6_numberOfTrailingZeros_0f7a4 20 = .ok (.ldc_w 264, 3) := by decide +kernel
theorem dJ6_numberOfTrailingZeros_0f7a4_23 : decode cJ6_numberOfTrailingZeros_0f7a4 23 = .ok (.if_icmp .le 11, 3) := by decide +kernel
theorem dJ6_numberOfTrailingZeros_0f7a4_26 : decode cJ6_numberOfTrailingZeros_0f7a4 26 = .ok (.iinc 1 16, 3) := by decide +kernel
theorem dJ6_numberOfTrailingZeros_0f7a4_29 : decode cJ6_numberOfTrailingZeros_0f7a4 29 = .ok (.iload_n 0, 1) := by decide +kernel
theorem dJ6_numberOfTrailingZeros_0f7a4_30 : decode cJ6_numberOfTrailingZeros_0f7a4 30 = .ok (.bipush 16, 2) := by decide +kernel
theorem dJ6_numberOfTrailingZeros_0f7a4_32 : decode cJ6_numberOfTrailingZeros_0f7a4 32 = .ok (.iushr, 1) := by decide +kernel
theorem dJ6_numberOfTrailingZeros_0f7a4_33 : decode cJ6_numberOfTrailingZeros_0f7a4 33 = .ok (.istore_n 0, 1) := by decide +kernel
theorem dJ6_numberOfTrailingZeros_0f7a4_34 : decode cJ6_numberOfTrailingZeros_0f7a4 34 = .ok (.iload_n 0, 1) := by decide +kernel
theorem dJ6_numberOfTrailingZeros_0f7a4_35 : decode cJ6_numberOfTrailingZeros_0f7a4 35 = .ok (.sipush 256, 3) := by decide +kernel
theorem dJ6_numberOfTrailingZeros_0f7a4_38 : decode cJ6_numberOfTrailingZeros_0f7a4 38 = .ok (.if_icmp .le 11, 3) := by decide +kernel
theorem dJ6_numberOfTrailingZeros_0f7a4_41 : decode cJ6_numberOfTrailingZeros_0f7a4 41 = .ok (.iinc 1 8, 3) := by decide +kernel
theorem dJ6_numberOfTrailingZeros_0f7a4_44 : decode cJ6_numberOfTrailingZeros_0f7a4 44 = .ok (.iload_n 0, 1) := by decide +kernel
theorem dJ6_numberOfTrailingZeros_0f7a4_45 : decode cJ6_numberOfTrailingZeros_0f7a4 45 = .ok (.bipush 8, 2) := by decide +kernel
theorem dJ6_numberOfTrailingZeros_0f7a4_47 : decode cJ6_numberOfTrailingZeros_0f7a4 47 = .ok (.iushr, 1) := by decide +kernel
theorem dJ6_numberOfTrailingZeros_0f7a4_48 : decode cJ6_numberOfTrailingZeros_0f7a4 48 = .ok (.istore_n 0, 1) := by decide +kernel
theorem dJ6_numberOfTrailingZeros_0f7a4_49 : decode cJ6_numberOfTrailingZeros_0f7a4 49 = .ok (.iload_n 0, 1) := by decide +kernel
theorem dJ6_numberOfTrailingZeros_0f7a4_50 : decode cJ6_numberOfTrailingZeros_0f7a4 50 = .ok (.bipush 16, 2) := by decide +kernel
theorem dJ6_numberOfTrailingZeros_0f7a4_52 : decode cJ6_numberOfTrailingZeros_0f7a4 52 = .ok (.if_icmp .le 10, 3) := by decide +kernel
theorem dJ6_numberOfTrailingZeros_0f7a4_55 : decode cJ6_numberOfTrailingZeros_0f7a4 55 = .ok (.iinc 1 4, 3) := by decide +kernel
theorem dJ6_numberOfTrailingZeros_0f7a4_58 : decode cJ6_numberOfTrailingZeros_0f7a4 58 = .ok (.iload_n 0, 1) := by decide +kernel
theorem dJ6_numberOfTrailingZeros_0f7a4_59 : decode cJ6_numberOfTrailingZeros_0f7a4 59 = .ok (.iconst 4, 1) := by decide +kernel
theorem dJ6_numberOfTrailingZeros_0f7a4_60 : decode cJ6_numberOfTrailingZeros_0f7a4 60 = .ok (.iushr, 1) := by decide +kernel
theorem dJ6_numberOfTrailingZeros_0f7a4_61 : decode cJ6_numberOfTrailingZeros_0f7a4 61 = .ok (.istore_n 0, 1) := by decide +kernel
theorem dJ6_numberOfTrailingZeros_0f7a4_62 : decode cJ6_numberOfTrailingZeros_0f7a4 62 = .ok (.iload_n 0, 1) := by decide +kernel
theorem dJ6_numberOfTrailingZeros_0f7a4_63 : decode cJ6_numberOfTrailingZeros_0f7a4 63 = .ok (.iconst 4, 1) := by decide +kernel
theorem dJ6_numberOfTrailingZeros_0f7a4_64 : decode cJ6_numberOfTrailingZeros_0f7a4 64 = .ok (.if_icmp .le 10, 3) := by decide +kernel
theorem dJ6_numberOfTrailingZeros_0f7a4_67 : decode cJ6_numberOfTrailingZeros_0f7a4 67 = .ok (.iinc 1 2, 3) := by decide +kernel
theorem dJ6_numberOfTrailingZeros_0f7a4_70 : decode cJ6_numberOfTrailingZeros_0f7a4 70 = .ok (.iload_n 0, 1) := by decide +kernel
theorem dJ6_numberOfTrailingZeros_0f7a4_71 : decode cJ6_numberOfTrailingZeros_0f7a4 71 = .ok (.iconst 2, 1) := by decide +kernel
theorem dJ6_numberOfTrailingZeros_0f7a4_72 : decode cJ6_numberOfTrailingZeros_0f7a4 72 = .ok (.iushr, 1) := by decide +kernel
theorem dJ6_numberOfTrailingZeros_0f7a4_73 : decode cJ6_numberOfTrailingZeros_0f7a4 73 = .ok (.istore_n 0, 1) := by decide +kernel
theorem dJ6_numberOfTrailingZeros_0f7a4_74 : decode cJ6_numberOfTrailingZeros_0f7a4 74 = .ok (.iload_n 1, 1) := by decide +kernel
theorem dJ6_numberOfTrailingZeros_0f7a4_75 : decode cJ6_numberOfTrailingZeros_0f7a4 75 = .ok (.iload_n 0, 1) := by decide +kernel
theorem dJ6_numberOfTrailingZeros_0f7a4_76 : decode cJ6_numberOfTrailingZeros_0f7a4 76 = .ok (.iconst 1, 1) := by decide +kernel
theorem dJ6_numberOfTrailingZeros_0f7a4_77 : decode cJ6_numberOfTrailingZeros_0f7a4 77 = .ok (.iushr, 1) := by decide +kernel
theorem dJ6_numberOfTrailingZeros_0f7a4_78 : decode cJ6_numberOfTrailingZeros_0f7a4 78 = .ok (.iadd, 1) := by decide +kernel
theorem dJ6_numberOfTrailingZeros_0f7a4_79 : decode cJ6_numberOfTrailingZeros_0f7a4 79 = .ok (.ireturn, 1) := by decide +kernel
def jJ6_numberOfTrailingZeros_0f7a4_62 (x0 : Int32) (x1 : Int32) (I : Mem) : Option Int32 :=
  if x0 ≤ (4 : Int32) then
  (some (x1 + (Int32.toUInt32 x0 >>> (Int32.toUInt32 (1 : Int32) &&& Int32.toUInt32 31)).toInt32))
  else
  (letb (Int32.toUInt32 x0 >>> (Int32.toUInt32 (2 : Int32) &&& Int32.toUInt32 31)).toInt32 fun x0_2 =>
  some ((x1 + (2 : Int32)) + (Int32.toUInt32 x0_2 >>> (Int32.toUInt32 (1 : Int32) &&& Int32.toUInt32 31)).toInt32))
set_option maxRecDepth 20000 in
theorem tJ6_numberOfTrailingZeros_0f7a4_62 (E : EV) (d : Nat) (rr : Option Value × Mem) (x0 : Int32) (x1 : Int32) (I : Mem) (y : Int32) (hf : jJ6_numberOfTrailingZeros_0f7a4_62 x0 x1 I = some y) (hK : (fun (z : Int32) => (some (.int z), I) = rr) y) : G E (d + 0) kJ6_numberOfTrailingZeros_0f7a4 62 [some (.int x0), some (.int x1)] [] I rr := by
  unfold jJ6_numberOfTrailingZeros_0f7a4_62 at hf
  refine G.iload_n dJ6_numberOfTrailingZeros_0f7a4_62 rfl rfl ?_
  refine G.iconst (v := 4) dJ6_numberOfTrailingZeros_0f7a4_63 (by decide) ?_
  refine G.icmp_le (tgt := 74) dJ6_numberOfTrailingZeros_0f7a4_64 (by decide) (fun c_3 => ?_) (fun c_3 => ?_)
  · have hf := ite_t hf c_3
    refine G.iload_n dJ6_numberOfTrailingZeros_0f7a4_74 rfl rfl ?_
    refine G.iload_n dJ6_numberOfTrailingZeros_0f7a4_75 rfl rfl ?_
    refine G.iconst (v := 1) dJ6_numberOfTrailingZeros_0f7a4_76 (by decide) ?_
    refine G.iushr dJ6_numberOfTrailingZeros_0f7a4_77 ?_
    refine G.iadd dJ6_numberOfTrailingZeros_0f7a4_78 ?_
    have hf := Option.some.inj hf
    subst hf
    exact G.iret' dJ6_numberOfTrailingZeros_0f7a4_79 rfl hK
  · have hf := ite_f hf c_3
    refine G.inc (w := 2) (L' := [some (.int x0), some (.int (x1 + (2 : Int32)))]) dJ6_numberOfTrailingZeros_0f7a4_67 (by decide) rfl (Nat.le_of_ble_eq_true rfl) rfl rfl ?_
    refine G.iload_n dJ6_numberOfTrailingZeros_0f7a4_70 rfl rfl ?_
    refine G.iconst (v := 2) dJ6_numberOfTrailingZeros_0f7a4_71 (by decide) ?_
    refine G.iushr dJ6_numberOfTrailingZeros_0f7a4_72 ?_
    refine G.nmi (fun x0_2 e_x0_2 => ?_)
    have hf := letb_at hf e_x0_2
    clear e_x0_2
    refine G.istore_n (L' := [some (.int x0_2), some (.int (x1 + (2 : Int32)))]) dJ6_numberOfTrailingZeros_0f7a4_73 rfl (Nat.le_of_ble_eq_true rfl) (Nat.le_of_ble_eq_true rfl) rfl rfl ?_
    refine G.iload_n dJ6_numberOfTrailingZeros_0f7a4_74 rfl rfl ?_
    refine G.iload_n dJ6_numberOfTrailingZeros_0f7a4_75 rfl rfl ?_
    refine G.iconst (v := 1) dJ6_numberOfTrailingZeros_0f7a4_76 (by decide) ?_
    refine G.iushr dJ6_numberOfTrailingZeros_0f7a4_77 ?_
    refine G.iadd dJ6_numberOfTrailingZeros_0f7a4_78 ?_
    have hf := Option.some.inj hf
    subst hf
    exact G.iret' dJ6_numberOfTrailingZeros_0f7a4_79 rfl hK
def jJ6_numberOfTrailingZeros_0f7a4_49 (x0 : Int32) (x1 : Int32) (I : Mem) : Option Int32 :=
  if x0 ≤ (16 : Int32) then
  (jJ6_numberOfTrailingZeros_0f7a4_62 x0 x1 I)
  else
  (letb (Int32.toUInt32 x0 >>> (Int32.toUInt32 (4 : Int32) &&& Int32.toUInt32 31)).toInt32 fun x0_4 =>
  jJ6_numberOfTrailingZeros_0f7a4_62 x0_4 (x1 + (4 : Int32)) I)
set_option maxRecDepth 20000 in
theorem tJ6_numberOfTrailingZeros_0f7a4_49 (E : EV) (d : Nat) (rr : Option Value × Mem) (x0 : Int32) (x1 : Int32) (I : Mem) (y : Int32) (hf : jJ6_numberOfTrailingZeros_0f7a4_49 x0 x1 I = some y) (hK : (fun (z : Int32) => (some (.int z), I) = rr) y) : G E (d + 0) kJ6_numberOfTrailingZeros_0f7a4 49 [some (.int x0), some (.int x1)] [] I rr := by
  unfold jJ6_numberOfTrailingZeros_0f7a4_49 at hf
  refine G.iload_n dJ6_numberOfTrailingZeros_0f7a4_49 rfl rfl ?_
  refine G.bipush (v := 16) dJ6_numberOfTrailingZeros_0f7a4_50 (by decide) ?_
  refine G.icmp_le (tgt := 62) dJ6_numberOfTrailingZeros_0f7a4_52 (by decide) (fun c_5 => ?_) (fun c_5 => ?_)
  · have hf := ite_t hf c_5
    exact tJ6_numberOfTrailingZeros_0f7a4_62 E d rr x0 x1 I _ hf hK
  · have hf := ite_f hf c_5
    refine G.inc (w := 4) (L' := [some (.int x0), some (.int (x1 + (4 : Int32)))]) dJ6_numberOfTrailingZeros_0f7a4_55 (by decide) rfl (Nat.le_of_ble_eq_true rfl) rfl rfl ?_
    refine G.iload_n dJ6_numberOfTrailingZeros_0f7a4_58 rfl rfl ?_
    refine G.iconst (v := 4) dJ6_numberOfTrailingZeros_0f7a4_59 (by decide) ?_
    refine G.iushr dJ6_numberOfTrailingZeros_0f7a4_60 ?_
    refine G.nmi (fun x0_4 e_x0_4 => ?_)
    have hf := letb_at hf e_x0_4
    clear e_x0_4
    refine G.istore_n (L' := [some (.int x0_4), some (.int (x1 + (4 : Int32)))]) dJ6_numberOfTrailingZeros_0f7a4_61 rfl (Nat.le_of_ble_eq_true rfl) (Nat.le_of_ble_eq_true rfl) rfl rfl ?_
    exact tJ6_numberOfTrailingZeros_0f7a4_62 E d rr x0_4 (x1 + (4 : Int32)) I _ hf hK
def jJ6_numberOfTrailingZeros_0f7a4_34 (x0 : Int32) (x1 : Int32) (I : Mem) : Option Int32 :=
  if x0 ≤ (256 : Int32) then
  (jJ6_numberOfTrailingZeros_0f7a4_49 x0 x1 I)
  else
  (letb (Int32.toUInt32 x0 >>> (Int32.toUInt32 (8 : Int32) &&& Int32.toUInt32 31)).toInt32 fun x0_6 =>
  jJ6_numberOfTrailingZeros_0f7a4_49 x0_6 (x1 + (8 : Int32)) I)
set_option maxRecDepth 20000 in
theorem tJ6_numberOfTrailingZeros_0f7a4_34 (E : EV) (d : Nat) (rr : Option Value × Mem) (x0 : Int32) (x1 : Int32) (I : Mem) (y : Int32) (hf : jJ6_numberOfTrailingZeros_0f7a4_34 x0 x1 I = some y) (hK : (fun (z : Int32) => (some (.int z), I) = rr) y) : G E (d + 0) kJ6_numberOfTrailingZeros_0f7a4 34 [some (.int x0), some (.int x1)] [] I rr := by
  unfold jJ6_numberOfTrailingZeros_0f7a4_34 at hf
  refine G.iload_n dJ6_numberOfTrailingZeros_0f7a4_34 rfl rfl ?_
  refine G.sipush (v := 256) dJ6_numberOfTrailingZeros_0f7a4_35 (by decide) ?_
  refine G.icmp_le (tgt := 49) dJ6_numberOfTrailingZeros_0f7a4_38 (by decide) (fun c_7 => ?_) (fun c_7 => ?_)
  · have hf := ite_t hf c_7
    exact tJ6_numberOfTrailingZeros_0f7a4_49 E d rr x0 x1 I _ hf hK
  · have hf := ite_f hf c_7
    refine G.inc (w := 8) (L' := [some (.int x0), some (.int (x1 + (8 : Int32)))]) dJ6_numberOfTrailingZeros_0f7a4_41 (by decide) rfl (Nat.le_of_ble_eq_true rfl) rfl rfl ?_
    refine G.iload_n dJ6_numberOfTrailingZeros_0f7a4_44 rfl rfl ?_
    refine G.bipush (v := 8) dJ6_numberOfTrailingZeros_0f7a4_45 (by decide) ?_
    refine G.iushr dJ6_numberOfTrailingZeros_0f7a4_47 ?_
    refine G.nmi (fun x0_6 e_x0_6 => ?_)
    have hf := letb_at hf e_x0_6
    clear e_x0_6
    refine G.istore_n (L' := [some (.int x0_6), some (.int (x1 + (8 : Int32)))]) dJ6_numberOfTrailingZeros_0f7a4_48 rfl (Nat.le_of_ble_eq_true rfl) (Nat.le_of_ble_eq_true rfl) rfl rfl ?_
    exact tJ6_numberOfTrailingZeros_0f7a4_49 E d rr x0_6 (x1 + (8 : Int32)) I _ hf hK
def fJ6_numberOfTrailingZeros_0f7a4 (x0 : Int32) (I : Mem) : Option Int32 :=
  letb ((x0 ^^^ (-1 : Int32)) &&& (x0 - (1 : Int32))) fun x0_1 =>
  if 0 < x0_1 then
  (if x0_1 ≤ (65536 : Int32) then
  (jJ6_numberOfTrailingZeros_0f7a4_34 x0_1 (1 : Int32) I)
  else
  (letb (Int32.toUInt32 x0_1 >>> (Int32.toUInt32 (16 : Int32) &&& Int32.toUInt32 31)).toInt32 fun x0_8 =>
  jJ6_numberOfTrailingZeros_0f7a4_34 x0_8 ((1 : Int32) + (16 : Int32)) I))
  else
  (some (x0_1 &&& (32 : Int32)))
set_option maxRecDepth 20000 in
theorem gJ6_numberOfTrailingZeros_0f7a4 (E : EV) (d : Nat) (x0 : Int32) (I : Mem) {v : Int32} (hf : fJ6_numberOfTrailingZeros_0f7a4 x0 I = some v) : Gm E (d + 0) kJ6_numberOfTrailingZeros_0f7a4 [.int x0] I (some (.int v), I) := by
  refine (fun (y : Int32) (hf : fJ6_numberOfTrailingZeros_0f7a4 x0 I = some y) => (?_ : Gm E (d + 0) kJ6_numberOfTrailingZeros_0f7a4 [.int x0] I (some (.int y), I))) v hf
  refine Gm.of (by decide) rfl (Nat.le_of_ble_eq_true rfl) ?_
  generalize hrr : ((some (.int y), I) : Option Value × Mem) = rr
  show G E (d + 0) kJ6_numberOfTrailingZeros_0f7a4 0 [some (.int x0), none] [] I rr
  have hK : (fun (z : Int32) => (some (.int z), I) = rr) y := hrr
  clear hrr
  unfold fJ6_numberOfTrailingZeros_0f7a4 at hf
  refine G.iload_n dJ6_numberOfTrailingZeros_0f7a4_0 rfl rfl ?_
  refine G.iconst (v := -1) dJ6_numberOfTrailingZeros_0f7a4_1 (by decide) ?_
  refine G.ixor dJ6_numberOfTrailingZeros_0f7a4_2 ?_
  refine G.iload_n dJ6_numberOfTrailingZeros_0f7a4_3 rfl rfl ?_
  refine G.iconst (v := 1) dJ6_numberOfTrailingZeros_0f7a4_4 (by decide) ?_
  refine G.isub dJ6_numberOfTrailingZeros_0f7a4_5 ?_
  refine G.iand dJ6_numberOfTrailingZeros_0f7a4_6 ?_
  refine G.nmi (fun x0_1 e_x0_1 => ?_)
  have hf := letb_at hf e_x0_1
  clear e_x0_1
  refine G.istore_n (L' := [some (.int x0_1), none]) dJ6_numberOfTrailingZeros_0f7a4_7 rfl (Nat.le_of_ble_eq_true rfl) (Nat.le_of_ble_eq_true rfl) rfl rfl ?_
  refine G.iload_n dJ6_numberOfTrailingZeros_0f7a4_8 rfl rfl ?_
  refine G.if_gt (tgt := 17) dJ6_numberOfTrailingZeros_0f7a4_9 (by decide) (fun c_10 => ?_) (fun c_10 => ?_)
  · have hf := ite_t hf c_10
    refine G.iconst (v := 1) dJ6_numberOfTrailingZeros_0f7a4_17 (by decide) ?_
    refine G.istore_n (L' := [some (.int x0_1), some (.int (1 : Int32))]) dJ6_numberOfTrailingZeros_0f7a4_18 rfl (Nat.le_of_ble_eq_true rfl) (Nat.le_of_ble_eq_true rfl) rfl rfl ?_
    refine G.iload_n dJ6_numberOfTrailingZeros_0f7a4_19 rfl rfl ?_
    refine G.ldcw (v := 65536) dJ6_numberOfTrailingZeros_0f7a4_20 kcJ6_264 ?_
    refine G.icmp_le (tgt := 34) dJ6_numberOfTrailingZeros_0f7a4_23 (by decide) (fun c_9 => ?_) (fun c_9 => ?_)
    · have hf := ite_t hf c_9
      exact tJ6_numberOfTrailingZeros_0f7a4_34 E d rr x0_1 (1 : Int32) I _ hf hK
    · have hf := ite_f hf c_9
      refine G.inc (w := 16) (L' := [some (.int x0_1), some (.int ((1 : Int32) + (16 : Int32)))]) dJ6_numberOfTrailingZeros_0f7a4_26 (by decide) rfl (Nat.le_of_ble_eq_true rfl) rfl rfl ?_
      refine G.iload_n dJ6_numberOfTrailingZeros_0f7a4_29 rfl rfl ?_
      refine G.bipush (v := 16) dJ6_numberOfTrailingZeros_0f7a4_30 (by decide) ?_
      refine G.iushr dJ6_numberOfTrailingZeros_0f7a4_32 ?_
      refine G.nmi (fun x0_8 e_x0_8 => ?_)
      have hf := letb_at hf e_x0_8
      clear e_x0_8
      refine G.istore_n (L' := [some (.int x0_8), some (.int ((1 : Int32) + (16 : Int32)))]) dJ6_numberOfTrailingZeros_0f7a4_33 rfl (Nat.le_of_ble_eq_true rfl) (Nat.le_of_ble_eq_true rfl) rfl rfl ?_
      exact tJ6_numberOfTrailingZeros_0f7a4_34 E d rr x0_8 ((1 : Int32) + (16 : Int32)) I _ hf hK
  · have hf := ite_f hf c_10
    refine G.iload_n dJ6_numberOfTrailingZeros_0f7a4_12 rfl rfl ?_
    refine G.bipush (v := 32) dJ6_numberOfTrailingZeros_0f7a4_13 (by decide) ?_
    refine G.iand dJ6_numberOfTrailingZeros_0f7a4_15 ?_
    have hf := Option.some.inj hf
    subst hf
    exact G.iret' dJ6_numberOfTrailingZeros_0f7a4_16 rfl hK
