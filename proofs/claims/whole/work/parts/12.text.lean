theorem dX8_add_0 : decode cX8_add 0 = .ok (.iload_n 3, 1) := by decide +kernel
theorem dX8_add_1 : decode cX8_add 1 = .ok (.iconst 1, 1) := by decide +kernel
theorem dX8_add_2 : decode cX8_add 2 = .ok (.isub, 1) := by decide +kernel
theorem dX8_add_3 : decode cX8_add 3 = .ok (.istore 4, 2) := by decide +kernel
theorem dX8_add_5 : decode cX8_add 5 = .ok (.iload 4, 2) := by decide +kernel
theorem dX8_add_7 : decode cX8_add 7 = .ok (.ifCond .lt 50, 3) := by decide +kernel
theorem dX8_add_10 : decode cX8_add 10 = .ok (.aload_n 0, 1) := by decide +kernel
theorem dX8_add_11 : decode cX8_add 11 = .ok (.getfield 15, 3) := by decide +kernel
theorem dX8_add_14 : decode cX8_add 14 = .ok (.sipush 200, 3) := by decide +kernel
theorem dX8_add_17 : decode cX8_add 17 = .ok (.if_icmp .ge 40, 3) := by decide +kernel
theorem dX8_add_20 : decode cX8_add 20 = .ok (.aload_n 0, 1) := by decide +kernel
theorem dX8_add_21 : decode cX8_add 21 = .ok (.getfield 9, 3) := by decide +kernel
theorem dX8_add_24 : decode cX8_add 24 = .ok (.aload_n 0, 1) := by decide +kernel
theorem dX8_add_25 : decode cX8_add 25 = .ok (.getfield 15, 3) := by decide +kernel
theorem dX8_add_28 : decode cX8_add 28 = .ok (.lload_n 1, 1) := by decide +kernel
theorem dX8_add_29 : decode cX8_add 29 = .ok (.bipush 8, 2) := by decide +kernel
theorem dX8_add_31 : decode cX8_add 31 = .ok (.iload 4, 2) := by decide +kernel
theorem dX8_add_33 : decode cX8_add 33 = .ok (.imul, 1) := by decide +kernel
theorem dX8_add_34 : decode cX8_add 34 = .ok (.lshr, 1) := by decide +kernel
theorem dX8_add_35 : decode cX8_add 35 = .ok (.l2i, 1) := by decide +kernel
theorem dX8_add_36 : decode cX8_add 36 = .ok (.sipush 255, 3) := by decide +kernel
theorem dX8_add_39 : decode cX8_add 39 = .ok (.iand, 1) := by decide +kernel
theorem dX8_add_40 : decode cX8_add 40 = .ok (.iastore, 1) := by decide +kernel
theorem dX8_add_41 : decode cX8_add 41 = .ok (.aload_n 0, 1) := by decide +kernel
theorem dX8_add_42 : decode cX8_add 42 = .ok (.dup, 1) := by decide +kernel
theorem dX8_add_43 : decode cX8_add 43 = .ok (.getfield 15, 3) := by decide +kernel
theorem dX8_add_46 : decode cX8_add 46 = .ok (.iconst 1, 1) := by decide +kernel
theorem dX8_add_47 : decode cX8_add 47 = .ok (.iadd, 1) := by decide +kernel
theorem dX8_add_48 : decode cX8_add 48 = .ok (.putfield 15, 3) := by decide +kernel
theorem dX8_add_51 : decode cX8_add 51 = .ok (.iinc 4 (-1), 3) := by decide +kernel
theorem dX8_add_54 : decode cX8_add 54 = .ok (.goto (-49), 3) := by decide +kernel
theorem dX8_add_57 : decode cX8_add 57 = .ok (.return_, 1) := by decide +kernel
def KX8_add_5 (E : EV) (d : Nat) (rr : Option Value × Mem) (l1 : Int64) (Kp : Mem → Prop) : ((Int32 × Mem) ⊕ Mem) → Prop
  | .inl q => G E (d + 0) kX8_add 5 [some (.ref 35), some (.long l1), none, none, some (.int q.1)] [] q.2 rr
  | .inr z => Kp z
def bX8_add_5 (l1 : Int64) (x4 : Int32) (I : Mem) : Option ((Int32 × Mem) ⊕ Mem) :=
  if x4 < 0 then
  (some (.inr I))
  else
  (if (200 : Int32) ≤ (I 35 0) then
  (some (.inr I))
  else
  (chk (inb (I 35 0) 200) <|
  letb (up2 I 36 (ix (I 35 0)) ((Int64.toInt32 (l1 >>> (Int32.toInt64 ((8 : Int32) * x4) &&& 63))) &&& (255 : Int32))) fun I_3 =>
  letb (up2 I_3 35 0 ((I_3 35 0) + (1 : Int32))) fun I_4 =>
  some (.inl ((x4 + (-1 : Int32)), I_4))))
def sX8_add_5 (l1 : Int64) (q : (Int32 × Mem)) : Option ((Int32 × Mem) ⊕ Mem) := bX8_add_5 l1 q.1 q.2
set_option maxRecDepth 20000 in
theorem wX8_add_5 (E : EV) (d : Nat) (rr : Option Value × Mem) (l1 : Int64) (x4 : Int32) (I : Mem) (y : ((Int32 × Mem) ⊕ Mem)) (hf : bX8_add_5 l1 x4 I = some y) (hK : (KX8_add_5 E d rr l1 (fun (z : Mem) => ((none : Option Value), z) = rr)) y) : G E (d + 0) kX8_add 5 [some (.ref 35), some (.long l1), none, none, some (.int x4)] [] I rr := by
  unfold bX8_add_5 at hf
  refine G.iload dX8_add_5 rfl ?_
  refine G.if_lt (tgt := 57) dX8_add_7 (by decide) (fun c_6 => ?_) (fun c_6 => ?_)
  · have hf := ite_t hf c_6
    have hf := Option.some.inj hf
    subst hf
    exact G.vret' dX8_add_57 rfl hK
  · have hf := ite_f hf c_6
    refine G.aload_n dX8_add_10 rfl rfl ?_
    refine G.getI dX8_add_11 flX8_15 (by decide) rfl ?_
    refine G.sipush (v := 200) dX8_add_14 (by decide) ?_
    refine G.icmp_ge (tgt := 57) dX8_add_17 (by decide) (fun c_5 => ?_) (fun c_5 => ?_)
    · have hf := ite_t hf c_5
      have hf := Option.some.inj hf
      subst hf
      exact G.vret' dX8_add_57 rfl hK
    · have hf := ite_f hf c_5
      refine G.aload_n dX8_add_20 rfl rfl ?_
      refine G.getR (q := 36) dX8_add_21 flX8_9 (by decide) rfl rfl ?_
      refine G.aload_n dX8_add_24 rfl rfl ?_
      refine G.getI dX8_add_25 flX8_15 (by decide) rfl ?_
      refine G.lload_n dX8_add_28 rfl rfl ?_
      refine G.bipush (v := 8) dX8_add_29 (by decide) ?_
      refine G.iload dX8_add_31 rfl ?_
      refine G.imul dX8_add_33 ?_
      refine G.lshr dX8_add_34 ?_
      refine G.l2i dX8_add_35 ?_
      refine G.sipush (v := 255) dX8_add_36 (by decide) ?_
      refine G.iand dX8_add_39 ?_
      obtain ⟨hi_2, hf⟩ := chk_at hf
      refine G.iast' dX8_add_40 (by decide) rfl rfl hi_2 ?_
      refine G.nmI (fun I_3 e_I_3 => ?_)
      have hf := letb_at hf e_I_3
      clear e_I_3
      refine G.aload_n dX8_add_41 rfl rfl ?_
      refine G.dup dX8_add_42 rfl ?_
      refine G.getI dX8_add_43 flX8_15 (by decide) rfl ?_
      refine G.iconst (v := 1) dX8_add_46 (by decide) ?_
      refine G.iadd dX8_add_47 ?_
      refine G.putI dX8_add_48 flX8_15 (by decide) rfl ?_
      refine G.nmI (fun I_4 e_I_4 => ?_)
      have hf := letb_at hf e_I_4
      clear e_I_4
      refine G.inc (w := -1) (L' := [some (.ref 35), some (.long l1), none, none, some (.int (x4 + (-1 : Int32)))]) dX8_add_51 (by decide) rfl (Nat.le_of_ble_eq_true rfl) rfl rfl ?_
      refine G.goto (tgt := 5) dX8_add_54 (by decide) ?_
      have hf := Option.some.inj hf
      subst hf
      exact hK
theorem lX8_add_5 (E : EV) (d : Nat) (rr : Option Value × Mem) (l1 : Int64) (z : Mem) (hK : (fun (z : Mem) => ((none : Option Value), z) = rr) z) : ∀ (n : Nat) (q : (Int32 × Mem)), iter (sX8_add_5 l1) n q = some z → G E (d + 0) kX8_add 5 [some (.ref 35), some (.long l1), none, none, some (.int q.1)] [] q.2 rr := by
  intro n
  induction n with
  | zero => intro q h; cases h
  | succ n ih =>
    intro q h
    rcases iter_at h with ⟨q2, hs, h2⟩ | hs
    · exact wX8_add_5 E d rr l1 q.1 q.2 _ hs (ih q2 h2)
    · exact wX8_add_5 E d rr l1 q.1 q.2 _ hs hK
def fX8_add (l1 : Int64) (x3 : Int32) (I : Mem) : Option Mem :=
  letb (x3 - (1 : Int32)) fun x4_1 =>
  iter (sX8_add_5 l1) FU (x4_1, I)
set_option maxRecDepth 20000 in
theorem gX8_add (E : EV) (d : Nat) (l1 : Int64) (x3 : Int32) (I : Mem) {J : Mem} (hf : fX8_add l1 x3 I = some J) : Gm E (d + 0) kX8_add [.ref 35, .long l1, .int x3] I (none, J) := by
  refine (fun (y : Mem) (hf : fX8_add l1 x3 I = some y) => (?_ : Gm E (d + 0) kX8_add [.ref 35, .long l1, .int x3] I (none, y))) J hf
  refine Gm.of (by decide) rfl (Nat.le_of_ble_eq_true rfl) ?_
  generalize hrr : ((none, y) : Option Value × Mem) = rr
  show G E (d + 0) kX8_add 0 [some (.ref 35), some (.long l1), none, some (.int x3), none] [] I rr
  have hK : (fun (z : Mem) => ((none : Option Value), z) = rr) y := hrr
  clear hrr
  unfold fX8_add at hf
  refine G.iload_n dX8_add_0 rfl rfl ?_
  refine G.iconst (v := 1) dX8_add_1 (by decide) ?_
  refine G.isub dX8_add_2 ?_
  refine G.nmi (fun x4_1 e_x4_1 => ?_)
  have hf := letb_at hf e_x4_1
  clear e_x4_1
  refine G.istore (L' := [some (.ref 35), some (.long l1), none, some (.int x3), some (.int x4_1)]) dX8_add_3 (Nat.le_of_ble_eq_true rfl) (Nat.le_of_ble_eq_true rfl) rfl rfl ?_
  refine G.forget (L' := [some (.ref 35), some (.long l1), none, none, some (.int x4_1)]) [3] rfl ?_
  exact lX8_add_5 E d rr l1 _ hK FU _ hf
theorem dX8_isWithin_0 : decode cX8_isWithin 0 = .ok (.aload_n 0, 1) := by decide +kernel
theorem dX8_isWithin_1 : decode cX8_isWithin 1 = .ok (.getfield 9, 3) := by decide +kernel
theorem dX8_isWithin_4 : decode cX8_isWithin 4 = .ok (.iload_n 1, 1) := by decide +kernel
theorem dX8_isWithin_5 : decode cX8_isWithin 5 = .ok (.iaload, 1) := by decide +kernel
theorem dX8_isWithin_6 : decode cX8_isWithin 6 = .ok (.iload_n 2, 1) := by decide +kernel
theorem dX8_isWithin_7 : decode cX8_isWithin 7 = .ok (.if_icmp .lt 17, 3) := by decide +kernel
theorem dX8_isWithin_10 : decode cX8_isWithin 10 = .ok (.aload_n 0, 1) := by decide +kernel
theorem dX8_isWithin_11 : decode cX8_isWithin 11 = .ok (.getfield 9, 3) := by decide +kernel
theorem dX8_isWithin_14 : decode cX8_isWithin 14 = .ok (.iload_n 1, 1) := by decide +kernel
theorem dX8_isWithin_15 : decode cX8_isWithin 15 = .ok (.iaload, 1) := by decide +kernel
theorem dX8_isWithin_16 : decode cX8_isWithin 16 = .ok (.iload_n 3, 1) := by decide +kernel
theorem dX8_isWithin_17 : decode cX8_isWithin 17 = .ok (.if_icmp .gt 7, 3) := by decide +kernel
theorem dX8_isWithin_20 : decode cX8_isWithin 20 = .ok (.iconst 1, 1) := by decide +kernel
theorem dX8_isWithin_21 : decode cX8_isWithin 21 = .ok (.goto 4, 3) := by decide +kernel
theorem dX8_isWithin_24 : decode cX8_isWithin 24 = .ok (.iconst 0, 1) := by decide +kernel
theorem dX8_isWithin_25 : decode cX8_isWithin 25 = .ok (.ireturn, 1) := by decide +kernel
def fX8_isWithin (x1 : Int32) (x2 : Int32) (x3 : Int32) (I : Mem) : Option Int32 :=
  chk (inb x1 200) <|
  if (I 36 (ix x1)) < x2 then
  (some (0 : Int32))
  else
  (chk (inb x1 200) <|
  if x3 < (I 36 (ix x1)) then
  (some (0 : Int32))
  else
  (some (1 : Int32)))
set_option maxRecDepth 20000 in
theorem gX8_isWithin (E : EV) (d : Nat) (x1 : Int32) (x2 : Int32) (x3 : Int32) (I : Mem) {v : Int32} (hf : fX8_isWithin x1 x2 x3 I = some v) : Gm E (d + 0) kX8_isWithin [.ref 35, .int x1, .int x2, .int x3] I (some (.int v), I) := by
  refine (fun (y : Int32) (hf : fX8_isWithin x1 x2 x3 I = some y) => (?_ : Gm E (d + 0) kX8_isWithin [.ref 35, .int x1, .int x2, .int x3] I (some (.int y), I))) v hf
  refine Gm.of (by decide) rfl (Nat.le_of_ble_eq_true rfl) ?_
  generalize hrr : ((some (.int y), I) : Option Value × Mem) = rr
  show G E (d + 0) kX8_isWithin 0 [some (.ref 35), some (.int x1), some (.int x2), some (.int x3)] [] I rr
  have hK : (fun (z : Int32) => (some (.int z), I) = rr) y := hrr
  clear hrr
  unfold fX8_isWithin at hf
  refine G.aload_n dX8_isWithin_0 rfl rfl ?_
  refine G.getR (q := 36) dX8_isWithin_1 flX8_9 (by decide) rfl rfl ?_
  refine G.iload_n dX8_isWithin_4 rfl rfl ?_
  obtain ⟨hi_1, hf⟩ := chk_at hf
  refine G.iald' dX8_isWithin_5 (by decide) rfl rfl hi_1 ?_
  refine G.iload_n dX8_isWithin_6 rfl rfl ?_
  refine G.icmp_lt (tgt := 24) dX8_isWithin_7 (by decide) (fun c_4 => ?_) (fun c_4 => ?_)
  · have hf := ite_t hf c_4
    refine G.iconst (v := 0) dX8_isWithin_24 (by decide) ?_
    have hf := Option.some.inj hf
    subst hf
    exact G.zret' dX8_isWithin_25 rfl (by decide) hK
  · have hf := ite_f hf c_4
    refine G.aload_n dX8_isWithin_10 rfl rfl ?_
    refine G.getR (q := 36) dX8_isWithin_11 flX8_9 (by decide) rfl rfl ?_
    refine G.iload_n dX8_isWithin_14 rfl rfl ?_
    obtain ⟨hi_2, hf⟩ := chk_at hf
    refine G.iald' dX8_isWithin_15 (by decide) rfl rfl hi_2 ?_
    refine G.iload_n dX8_isWithin_16 rfl rfl ?_
    refine G.icmp_gt (tgt := 24) dX8_isWithin_17 (by decide) (fun c_3 => ?_) (fun c_3 => ?_)
    · have hf := ite_t hf c_3
      refine G.iconst (v := 0) dX8_isWithin_24 (by decide) ?_
      have hf := Option.some.inj hf
      subst hf
      exact G.zret' dX8_isWithin_25 rfl (by decide) hK
    · have hf := ite_f hf c_3
      refine G.iconst (v := 1) dX8_isWithin_20 (by decide) ?_
      refine G.goto (tgt := 25) dX8_isWithin_21 (by decide) ?_
      have hf := Option.some.inj hf
      subst hf
      exact G.zret' dX8_isWithin_25 rfl (by decide) hK
theorem dX8_endOf_0 : decode cX8_endOf 0 = .ok (.aload_n 0, 1) := by decide +kernel
theorem dX8_endOf_1 : decode cX8_endOf 1 = .ok (.getfield 31, 3) := by decide +kernel
theorem dX8_endOf_4 : decode cX8_endOf 4 = .ok (.istore_n 3, 1) := by decide +kernel
theorem dX8_endOf_5 : decode cX8_endOf 5 = .ok (.iload_n 3, 1) := by decide +kernel
theorem dX8_endOf_6 : decode cX8_endOf 6 = .ok (.aload_n 0, 1) := by decide +kernel
theorem dX8_endOf_7 : decode cX8_endOf 7 = .ok (.getfield 15, 3) := by decide +kernel
theorem dX8_endOf_10 : decode cX8_endOf 10 = .ok (.if_icmp .ge 19, 3) := by decide +kernel
theorem dX8_endOf_13 : decode cX8_endOf 13 = .ok (.aload_n 0, 1) := by decide +kernel
theorem dX8_endOf_14 : decode cX8_endOf 14 = .ok (.iload_n 3, 1) := by decide +kernel
theorem dX8_endOf_15 : decode cX8_endOf 15 = .ok (.iload_n 1, 1) := by decide +kernel
theorem dX8_endOf_16 : decode cX8_endOf 16 = .ok (.iload_n 2, 1) := by decide +kernel
theorem dX8_endOf_17 : decode cX8_endOf 17 = .ok (.invokevirtual 81, 3) := by decide +kernel
theorem dX8_endOf_20 : decode cX8_endOf 20 = .ok (.ifCond .eq 9, 3) := by decide +kernel
theorem dX8_endOf_23 : decode cX8_endOf 23 = .ok (.iinc 3 1, 3) := by decide +kernel
theorem dX8_endOf_26 : decode cX8_endOf 26 = .ok (.goto (-21), 3) := by decide +kernel
theorem dX8_endOf_29 : decode cX8_endOf 29 = .ok (.iload_n 3, 1) := by decide +kernel
theorem dX8_endOf_30 : decode cX8_endOf 30 = .ok (.ireturn, 1) := by decide +kernel
def KX8_endOf_5 (E : EV) (d : Nat) (rr : Option Value × Mem) (x1 : Int32) (x2 : Int32) (I : Mem) (Kp : Int32 → Prop) : (Int32 ⊕ Int32) → Prop
  | .inl q => G E (d + 1) kX8_endOf 5 [some (.ref 35), some (.int x1), some (.int x2), some (.int q)] [] I rr
  | .inr z => Kp z
def bX8_endOf_5 (x1 : Int32) (x2 : Int32) (I : Mem) (x3 : Int32) : Option (Int32 ⊕ Int32) :=
  if (I 35 0) ≤ x3 then
  (some (.inr x3))
  else
  (bnd (fX8_isWithin x3 x1 x2 I) fun v_3 =>
  if v_3 = 0 then
  (some (.inr x3))
  else
  (some (.inl (x3 + (1 : Int32)))))
def sX8_endOf_5 (x1 : Int32) (x2 : Int32) (I : Mem) (q : Int32) : Option (Int32 ⊕ Int32) := bX8_endOf_5 x1 x2 I q
set_option maxRecDepth 20000 in
theorem wX8_endOf_5 (E : EV) (d : Nat) (rr : Option Value × Mem) (x1 : Int32) (x2 : Int32) (I : Mem) (x3 : Int32) (y : (Int32 ⊕ Int32)) (hf : bX8_endOf_5 x1 x2 I x3 = some y) (hK : (KX8_endOf_5 E d rr x1 x2 I (fun (z : Int32) => (some (.int z), I) = rr)) y) : G E (d + 1) kX8_endOf 5 [some (.ref 35), some (.int x1), some (.int x2), some (.int x3)] [] I rr := by
  unfold bX8_endOf_5 at hf
  refine G.iload_n dX8_endOf_5 rfl rfl ?_
  refine G.aload_n dX8_endOf_6 rfl rfl ?_
  refine G.getI dX8_endOf_7 flX8_15 (by decide) rfl ?_
  refine G.icmp_ge (tgt := 29) dX8_endOf_10 (by decide) (fun c_5 => ?_) (fun c_5 => ?_)
  · have hf := ite_t hf c_5
    refine G.iload_n dX8_endOf_29 rfl rfl ?_
    have hf := Option.some.inj hf
    subst hf
    exact G.iret' dX8_endOf_30 rfl hK
  · have hf := ite_f hf c_5
    refine G.aload_n dX8_endOf_13 rfl rfl ?_
    refine G.iload_n dX8_endOf_14 rfl rfl ?_
    refine G.iload_n dX8_endOf_15 rfl rfl ?_
    refine G.iload_n dX8_endOf_16 rfl rfl ?_
    obtain ⟨v_3, hc_2, hf⟩ := bnd_at hf
    refine G.callVi (av := [.int x3, .int x1, .int x2]) (rest := []) dX8_endOf_17 mvX8_81 (gX8_isWithin E d x3 x1 x2 I hc_2) (by decide) rfl rfl rfl (Nat.le_of_ble_eq_true rfl) ?_
    refine G.if_eq (tgt := 29) dX8_endOf_20 (by decide) (fun c_4 => ?_) (fun c_4 => ?_)
    · have hf := ite_t hf c_4
      refine G.iload_n dX8_endOf_29 rfl rfl ?_
      have hf := Option.some.inj hf
      subst hf
      exact G.iret' dX8_endOf_30 rfl hK
    · have hf := ite_f hf c_4
      refine G.inc (w := 1) (L' := [some (.ref 35), some (.int x1), some (.int x2), some (.int (x3 + (1 : Int32)))]) dX8_endOf_23 (by decide) rfl (Nat.le_of_ble_eq_true rfl) rfl rfl ?_
      refine G.goto (tgt := 5) dX8_endOf_26 (by decide) ?_
      have hf := Option.some.inj hf
      subst hf
      exact hK
theorem lX8_endOf_5 (E : EV) (d : Nat) (rr : Option Value × Mem) (x1 : Int32) (x2 : Int32) (I : Mem) (z : Int32) (hK : (fun (z : Int32) => (some (.int z), I) = rr) z) : ∀ (n : Nat) (q : Int32), iter (sX8_endOf_5 x1 x2 I) n q = some z → G E (d + 1) kX8_endOf 5 [some (.ref 35), some (.int x1), some (.int x2), some (.int q)] [] I rr := by
  intro n
  induction n with
  | zero => intro q h; cases h
  | succ n ih =>
    intro q h
    rcases iter_at h with ⟨q2, hs, h2⟩ | hs
    · exact wX8_endOf_5 E d rr x1 x2 I q _ hs (ih q2 h2)
    · exact wX8_endOf_5 E d rr x1 x2 I q _ hs hK
def fX8_endOf (x1 : Int32) (x2 : Int32) (I : Mem) : Option Int32 :=
  letb (I 35 3) fun x3_1 =>
  iter (sX8_endOf_5 x1 x2 I) FU x3_1
set_option maxRecDepth 20000 in
theorem gX8_endOf (E : EV) (d : Nat) (x1 : Int32) (x2 : Int32) (I : Mem) {v : Int32} (hf : fX8_endOf x1 x2 I = some v) : Gm E (d + 1) kX8_endOf [.ref 35, .int x1, .int x2] I (some (.int v), I) := by
  refine (fun (y : Int32) (hf : fX8_endOf x1 x2 I = some y) => (?_ : Gm E (d + 1) kX8_endOf [.ref 35, .int x1, .int x2] I (some (.int y), I))) v hf
  refine Gm.of (by decide) rfl (Nat.le_of_ble_eq_true rfl) ?_
  generalize hrr : ((some (.int y), I) : Option Value × Mem) = rr
  show G E (d + 1) kX8_endOf 0 [some (.ref 35), some (.int x1), some (.int x2), none] [] I rr
  have hK : (fun (z : Int32) => (some (.int z), I) = rr) y := hrr
  clear hrr
  unfold fX8_endOf at hf
  refine G.aload_n dX8_endOf_0 rfl rfl ?_
  refine G.getI dX8_endOf_1 flX8_31 (by decide) rfl ?_
  refine G.nmi (fun x3_1 e_x3_1 => ?_)
  have hf := letb_at hf e_x3_1
  clear e_x3_1
  refine G.istore_n (L' := [some (.ref 35), some (.int x1), some (.int x2), some (.int x3_1)]) dX8_endOf_4 rfl (Nat.le_of_ble_eq_true rfl) (Nat.le_of_ble_eq_true rfl) rfl rfl ?_
  exact lX8_endOf_5 E d rr x1 x2 I _ hK FU _ hf
theorem dX8_spells_0 : decode cX8_spells 0 = .ok (.aload_n 0, 1) := by decide +kernel
theorem dX8_spells_1 : decode cX8_spells 1 = .ok (.getfield 19, 3) := by decide +kernel
theorem dX8_spells_4 : decode cX8_spells 4 = .ok (.aload_n 0, 1) := by decide +kernel
theorem dX8_spells_5 : decode cX8_spells 5 = .ok (.getfield 31, 3) := by decide +kernel
theorem dX8_spells_8 : decode cX8_spells 8 = .ok (.isub, 1) := by decide +kernel
theorem dX8_spells_9 : decode cX8_spells 9 = .ok (.aload_n 1, 1) := by decide +kernel
theorem dX8_spells_10 : decode cX8_spells 10 = .ok (.invokevirtual 114, 3) := by decide +kernel
theorem dX8_spells_13 : decode cX8_spells 13 = .ok (.if_icmp .eq 5, 3) := by decide +kernel
theorem dX8_spells_16 : decode cX8_spells 16 = .ok (.iconst 0, 1) := by decide +kernel
theorem dX8_spells_17 : decode cX8_spells 17 = .ok (.ireturn, 1) := by decide +kernel
theorem dX8_spells_18 : decode cX8_spells 18 = .ok (.iconst 0, 1) := by decide +kernel
theorem dX8_spells_19 : decode cX8_spells 19 = .ok (.istore_n 2, 1) := by decide +kernel
theorem dX8_spells_20 : decode cX8_spells 20 = .ok (.iload_n 2, 1) := by decide +kernel
theorem dX8_spells_21 : decode cX8_spells 21 = .ok (.aload_n 1, 1) := by decide +kernel
theorem dX8_spells_22 : decode cX8_spells 22 = .ok (.invokevirtual 114, 3) := by decide +kernel
theorem dX8_spells_25 : decode cX8_spells 25 = .ok (.if_icmp .ge 30, 3) := by decide +kernel
theorem dX8_spells_28 : decode cX8_spells 28 = .ok (.aload_n 0, 1) := by decide +kernel
theorem dX8_spells_29 : decode cX8_spells 29 = .ok (.getfield 9, 3) := by decide +kernel
theorem dX8_spells_32 : decode cX8_spells 32 = .ok (.aload_n 0, 1) := by decide +kernel
theorem dX8_spells_33 : decode cX8_spells 33 = .ok (.getfield 31, 3) := by decide +kernel
theorem dX8_spells_36 : decode cX8_spells 36 = .ok (.iload_n 2, 1) := by decide +kernel
theorem dX8_spells_37 : decode cX8_spells 37 = .ok (.iadd, 1) := by decide +kernel
theorem dX8_spells_38 : decode cX8_spells 38 = .ok (.iaload, 1) := by decide +kernel
theorem dX8_spells_39 : decode cX8_spells 39 = .ok (.aload_n 1, 1) := by decide +kernel
theorem dX8_spells_40 : decode cX8_spells 40 = .ok (.iload_n 2, 1) := by decide +kernel
theorem dX8_spells_41 : decode cX8_spells 41 = .ok (.invokevirtual 118, 3) := by decide +kernel
theorem dX8_spells_44 : decode cX8_spells 44 = .ok (.if_icmp .eq 5, 3) := by decide +kernel
theorem dX8_spells_47 : decode cX8_spells 47 = .ok (.iconst 0, 1) := by decide +kernel
theorem dX8_spells_48 : decode cX8_spells 48 = .ok (.ireturn, 1) := by decide +kernel
theorem dX8_spells_49 : decode cX8_spells 49 = .ok (.iinc 2 1, 3) := by decide +kernel
theorem dX8_spells_52 : decode cX8_spells 52 = .ok (.goto (-32), 3) := by decide +kernel
theorem dX8_spells_55 : decode cX8_spells 55 = .ok (.iconst 1, 1) := by decide +kernel
theorem dX8_spells_56 : decode cX8_spells 56 = .ok (.ireturn, 1) := by decide +kernel
def KX8_spells_20 (E : EV) (d : Nat) (rr : Option Value × Mem) (s1 : Nat) (I : Mem) (Kp : Int32 → Prop) : (Int32 ⊕ Int32) → Prop
  | .inl q => G E (d + 4) kX8_spells 20 [some (.ref 35), some (.ref (1000 + s1)), some (.int q)] [] I rr
  | .inr z => Kp z
def bX8_spells_20 (s1 : Nat) (I : Mem) (x2 : Int32) : Option (Int32 ⊕ Int32) :=
  bnd (fS_length s1 I) fun v_3 =>
  if v_3 ≤ x2 then
  (some (.inr (1 : Int32)))
  else
  (chk (inb ((I 35 3) + x2) 200) <|
  bnd (fS_charAt s1 x2 I) fun v_6 =>
  if (I 36 (ix ((I 35 3) + x2))) = v_6 then
  (some (.inl (x2 + (1 : Int32))))
  else
  (some (.inr (0 : Int32))))
def sX8_spells_20 (s1 : Nat) (I : Mem) (q : Int32) : Option (Int32 ⊕ Int32) := bX8_spells_20 s1 I q
set_option maxRecDepth 20000 in
theorem wX8_spells_20 (E : EV) (d : Nat) (rr : Option Value × Mem) (s1 : Nat) (I : Mem) (x2 : Int32) (hs1 : s1 < 7) (y : (Int32 ⊕ Int32)) (hf : bX8_spells_20 s1 I x2 = some y) (hK : (KX8_spells_20 E d rr s1 I (fun (z : Int32) => (some (.int z), I) = rr)) y) : G E (d + 4) kX8_spells 20 [some (.ref 35), some (.ref (1000 + s1)), some (.int x2)] [] I rr := by
  unfold bX8_spells_20 at hf
  refine G.iload_n dX8_spells_20 rfl rfl ?_
  refine G.aload_n dX8_spells_21 rfl rfl ?_
  obtain ⟨v_3, hc_4, hf⟩ := bnd_at hf
  refine G.callJi (i := s1) (av := []) (rest := [.int x2]) dX8_spells_22 mjX8_114 (gS_length E (d + 2) s1 I hs1 hc_4) hs1 rfl rfl (Nat.le_of_ble_eq_true rfl) ?_
  refine G.icmp_ge (tgt := 55) dX8_spells_25 (by decide) (fun c_9 => ?_) (fun c_9 => ?_)
  · have hf := ite_t hf c_9
    refine G.iconst (v := 1) dX8_spells_55 (by decide) ?_
    have hf := Option.some.inj hf
    subst hf
    exact G.zret' dX8_spells_56 rfl (by decide) hK
  · have hf := ite_f hf c_9
    refine G.aload_n dX8_spells_28 rfl rfl ?_
    refine G.getR (q := 36) dX8_spells_29 flX8_9 (by decide) rfl rfl ?_
    refine G.aload_n dX8_spells_32 rfl rfl ?_
    refine G.getI dX8_spells_33 flX8_31 (by decide) rfl ?_
    refine G.iload_n dX8_spells_36 rfl rfl ?_
    refine G.iadd dX8_spells_37 ?_
    obtain ⟨hi_5, hf⟩ := chk_at hf
    refine G.iald' dX8_spells_38 (by decide) rfl rfl hi_5 ?_
    refine G.aload_n dX8_spells_39 rfl rfl ?_
    refine G.iload_n dX8_spells_40 rfl rfl ?_
    obtain ⟨v_6, hc_7, hf⟩ := bnd_at hf
    refine G.callJi (i := s1) (av := [.int x2]) (rest := [.int (I 36 (ix ((I 35 3) + x2)))]) dX8_spells_41 mjX8_118 (gS_charAt E d s1 x2 I hs1 hc_7) hs1 rfl rfl (Nat.le_of_ble_eq_true rfl) ?_
    refine G.icmp_eq (tgt := 49) dX8_spells_44 (by decide) (fun c_8 => ?_) (fun c_8 => ?_)
    · have hf := ite_t hf c_8
      refine G.inc (w := 1) (L' := [some (.ref 35), some (.ref (1000 + s1)), some (.int (x2 + (1 : Int32)))]) dX8_spells_49 (by decide) rfl (Nat.le_of_ble_eq_true rfl) rfl rfl ?_
      refine G.goto (tgt := 20) dX8_spells_52 (by decide) ?_
      have hf := Option.some.inj hf
      subst hf
      exact hK
    · have hf := ite_f hf c_8
      refine G.iconst (v := 0) dX8_spells_47 (by decide) ?_
      have hf := Option.some.inj hf
      subst hf
      exact G.zret' dX8_spells_48 rfl (by decide) hK
theorem lX8_spells_20 (E : EV) (d : Nat) (rr : Option Value × Mem) (s1 : Nat) (I : Mem) (hs1 : s1 < 7) (z : Int32) (hK : (fun (z : Int32) => (some (.int z), I) = rr) z) : ∀ (n : Nat) (q : Int32), iter (sX8_spells_20 s1 I) n q = some z → G E (d + 4) kX8_spells 20 [some (.ref 35), some (.ref (1000 + s1)), some (.int q)] [] I rr := by
  intro n
  induction n with
  | zero => intro q h; cases h
  | succ n ih =>
    intro q h
    rcases iter_at h with ⟨q2, hs, h2⟩ | hs
    · exact wX8_spells_20 E d rr s1 I q hs1 _ hs (ih q2 h2)
    · exact wX8_spells_20 E d rr s1 I q hs1 _ hs hK
def fX8_spells (s1 : Nat) (I : Mem) : Option Int32 :=
  bnd (fS_length s1 I) fun v_1 =>
  if ((I 35 4) - (I 35 3)) = v_1 then
  (iter (sX8_spells_20 s1 I) FU (0 : Int32))
  else
  (some (0 : Int32))
set_option maxRecDepth 20000 in
theorem gX8_spells (E : EV) (d : Nat) (s1 : Nat) (I : Mem) (hs1 : s1 < 7) {v : Int32} (hf : fX8_spells s1 I = some v) : Gm E (d + 4) kX8_spells [.ref 35, .ref (1000 + s1)] I (some (.int v), I) := by
  refine (fun (y : Int32) (hf : fX8_spells s1 I = some y) => (?_ : Gm E (d + 4) kX8_spells [.ref 35, .ref (1000 + s1)] I (some (.int y), I))) v hf
  refine Gm.of (by decide) rfl (Nat.le_of_ble_eq_true rfl) ?_
  generalize hrr : ((some (.int y), I) : Option Value × Mem) = rr
  show G E (d + 4) kX8_spells 0 [some (.ref 35), some (.ref (1000 + s1)), none] [] I rr
  have hK : (fun (z : Int32) => (some (.int z), I) = rr) y := hrr
  clear hrr
  unfold fX8_spells at hf
  refine G.aload_n dX8_spells_0 rfl rfl ?_
  refine G.getI dX8_spells_1 flX8_19 (by decide) rfl ?_
  refine G.aload_n dX8_spells_4 rfl rfl ?_
  refine G.getI dX8_spells_5 flX8_31 (by decide) rfl ?_
  refine G.isub dX8_spells_8 ?_
  refine G.aload_n dX8_spells_9 rfl rfl ?_
  obtain ⟨v_1, hc_2, hf⟩ := bnd_at hf
  refine G.callJi (i := s1) (av := []) (rest := [.int ((I 35 4) - (I 35 3))]) dX8_spells_10 mjX8_114 (gS_length E (d + 2) s1 I hs1 hc_2) hs1 rfl rfl (Nat.le_of_ble_eq_true rfl) ?_
  refine G.icmp_eq (tgt := 18) dX8_spells_13 (by decide) (fun c_10 => ?_) (fun c_10 => ?_)
  · have hf := ite_t hf c_10
    refine G.iconst (v := 0) dX8_spells_18 (by decide) ?_
    refine G.istore_n (L' := [some (.ref 35), some (.ref (1000 + s1)), some (.int (0 : Int32))]) dX8_spells_19 rfl (Nat.le_of_ble_eq_true rfl) (Nat.le_of_ble_eq_true rfl) rfl rfl ?_
    exact lX8_spells_20 E d rr s1 I hs1 _ hK FU _ hf
  · have hf := ite_f hf c_10
    refine G.iconst (v := 0) dX8_spells_16 (by decide) ?_
    have hf := Option.some.inj hf
    subst hf
    exact G.zret' dX8_spells_17 rfl (by decide) hK
theorem dX8_wordToken_0 : decode cX8_wordToken 0 = .ok (.aload_n 0, 1) := by decide +kernel
theorem dX8_wordToken_1 : decode cX8_wordToken 1 = .ok (.ldc 96, 2) := by decide +kernel
theorem dX8_wordToken_3 : decode cX8_wordToken 3 = .ok (.invokevirtual 98, 3) := by decide +kernel
theorem dX8_wordToken_6 : decode cX8_wordToken 6 = .ok (.ifCond .eq 5, 3) := by decide +kernel
theorem dX8_wordToken_9 : decode cX8_wordToken 9 = .ok (.iconst 4, 1) := by decide +kernel
theorem dX8_wordToken_10 : decode cX8_wordToken 10 = .ok (.ireturn, 1) := by decide +kernel
theorem dX8_wordToken_11 : decode cX8_wordToken 11 = .ok (.aload_n 0, 1) := by decide +kernel
theorem dX8_wordToken_12 : decode cX8_wordToken 12 = .ok (.ldc 102, 2) := by decide +kernel
theorem dX8_wordToken_14 : decode cX8_wordToken 14 = .ok (.invokevirtual 98, 3) := by decide +kernel
theorem dX8_wordToken_17 : decode cX8_wordToken 17 = .ok (.ifCond .eq 5, 3) := by decide +kernel
theorem dX8_wordToken_20 : decode cX8_wordToken 20 = .ok (.iconst 5, 1) := by decide +kernel
theorem dX8_wordToken_21 : decode cX8_wordToken 21 = .ok (.ireturn, 1) := by decide +kernel
theorem dX8_wordToken_22 : decode cX8_wordToken 22 = .ok (.aload_n 0, 1) := by decide +kernel
theorem dX8_wordToken_23 : decode cX8_wordToken 23 = .ok (.ldc 104, 2) := by decide +kernel
theorem dX8_wordToken_25 : decode cX8_wordToken 25 = .ok (.invokevirtual 98, 3) := by decide +kernel
theorem dX8_wordToken_28 : decode cX8_wordToken 28 = .ok (.ifCond .eq 6, 3) := by decide +kernel
theorem dX8_wordToken_31 : decode cX8_wordToken 31 = .ok (.bipush 6, 2) := by decide +kernel
theorem dX8_wordToken_33 : decode cX8_wordToken 33 = .ok (.ireturn, 1) := by decide +kernel
theorem dX8_wordToken_34 : decode cX8_wordToken 34 = .ok (.aload_n 0, 1) := by decide +kernel
theorem dX8_wordToken_35 : decode cX8_wordToken 35 = .ok (.ldc 106, 2) := by decide +kernel
theorem dX8_wordToken_37 : decode cX8_wordToken 37 = .ok (.invokevirtual 98, 3) := by decide +kernel
theorem dX8_wordToken_40 : decode cX8_wordToken 40 = .ok (.ifCond .eq 6, 3) := by decide +kernel
theorem dX8_wordToken_43 : decode cX8_wordToken 43 = .ok (.bipush 7, 2) := by decide +kernel
theorem dX8_wordToken_45 : decode cX8_wordToken 45 = .ok (.ireturn, 1) := by decide +kernel
theorem dX8_wordToken_46 : decode cX8_wordToken 46 = .ok (.aload_n 0, 1) := by decide +kernel
theorem dX8_wordToken_47 : decode cX8_wordToken 47 = .ok (.ldc 108, 2) := by decide +kernel
theorem dX8_wordToken_49 : decode cX8_wordToken 49 = .ok (.invokevirtual 98, 3) := by decide +kernel
theorem dX8_wordToken_52 : decode cX8_wordToken 52 = .ok (.ifCond .eq 6, 3) := by decide +kernel
theorem dX8_wordToken_55 : decode cX8_wordToken 55 = .ok (.bipush 8, 2) := by decide +kernel
theorem dX8_wordToken_57 : decode cX8_wordToken 57 = .ok (.ireturn, 1) := by decide +kernel
theorem dX8_wordToken_58 : decode cX8_wordToken 58 = .ok (.aload_n 0, 1) := by decide +kernel
theorem dX8_wordToken_59 : decode cX8_wordToken 59 = .ok (.ldc 110, 2) := by decide +kernel
theorem dX8_wordToken_61 : decode cX8_wordToken 61 = .ok (.invokevirtual 98, 3) := by decide +kernel
theorem dX8_wordToken_64 : decode cX8_wordToken 64 = .ok (.ifCond .eq 6, 3) := by decide +kernel
theorem dX8_wordToken_67 : decode cX8_wordToken 67 = .ok (.bipush 9, 2) := by decide +kernel
theorem dX8_wordToken_69 : decode cX8_wordToken 69 = .ok (.ireturn, 1) := by decide +kernel
theorem dX8_wordToken_70 : decode cX8_wordToken 70 = .ok (.aload_n 0, 1) := by decide +kernel
theorem dX8_wordToken_71 : decode cX8_wordToken 71 = .ok (.ldc 112, 2) := by decide +kernel
theorem dX8_wordToken_73 : decode cX8_wordToken 73 = .ok (.invokevirtual 98, 3) := by decide +kernel
theorem dX8_wordToken_76 : decode cX8_wordToken 76 = .ok (.ifCond .eq 8, 3) := by decide +kernel
theorem dX8_wordToken_79 : decode cX8_wordToken 79 = .ok (.bipush 10, 2) := by decide +kernel
theorem dX8_wordToken_81 : decode cX8_wordToken 81 = .ok (.goto 4, 3) := by decide +kernel
theorem dX8_wordToken_84 : decode cX8_wordToken 84 = .ok (.iconst 1, 1) := by decide +kernel
theorem dX8_wordToken_85 : decode cX8_wordToken 85 = .ok (.ireturn, 1) := by decide +kernel
def fX8_wordToken (I : Mem) : Option Int32 :=
  bnd (fX8_spells 0 I) fun v_2 =>
  if v_2 = 0 then
  (bnd (fX8_spells 1 I) fun v_4 =>
  if v_4 = 0 then
  (bnd (fX8_spells 2 I) fun v_6 =>
  if v_6 = 0 then
  (bnd (fX8_spells 3 I) fun v_8 =>
  if v_8 = 0 then
  (bnd (fX8_spells 4 I) fun v_10 =>
  if v_10 = 0 then
  (bnd (fX8_spells 5 I) fun v_12 =>
  if v_12 = 0 then
  (bnd (fX8_spells 6 I) fun v_14 =>
  if v_14 = 0 then
  (some (1 : Int32))
  else
  (some (10 : Int32)))
  else
  (some (9 : Int32)))
  else
  (some (8 : Int32)))
  else
  (some (7 : Int32)))
  else
  (some (6 : Int32)))
  else
  (some (5 : Int32)))
  else
  (some (4 : Int32))
set_option maxRecDepth 20000 in
theorem gX8_wordToken (E : EV) (d : Nat) (I : Mem) {v : Int32} (hf : fX8_wordToken I = some v) : Gm E (d + 5) kX8_wordToken [.ref 35] I (some (.int v), I) := by
  refine (fun (y : Int32) (hf : fX8_wordToken I = some y) => (?_ : Gm E (d + 5) kX8_wordToken [.ref 35] I (some (.int y), I))) v hf
  refine Gm.of (by decide) rfl (Nat.le_of_ble_eq_true rfl) ?_
  generalize hrr : ((some (.int y), I) : Option Value × Mem) = rr
  show G E (d + 5) kX8_wordToken 0 [some (.ref 35)] [] I rr
  have hK : (fun (z : Int32) => (some (.int z), I) = rr) y := hrr
  clear hrr
  unfold fX8_wordToken at hf
  refine G.aload_n dX8_wordToken_0 rfl rfl ?_
  refine G.ldcS (i := 0) dX8_wordToken_1 (by decide) rfl rfl ?_
  obtain ⟨v_2, hc_1, hf⟩ := bnd_at hf
  refine G.callVi (av := [.ref (1000 + 0)]) (rest := []) dX8_wordToken_3 mvX8_98 (gX8_spells E d 0 I (by decide) hc_1) (by decide) rfl rfl rfl (Nat.le_of_ble_eq_true rfl) ?_
  refine G.if_eq (tgt := 11) dX8_wordToken_6 (by decide) (fun c_21 => ?_) (fun c_21 => ?_)
  · have hf := ite_t hf c_21
    refine G.aload_n dX8_wordToken_11 rfl rfl ?_
    refine G.ldcS (i := 1) dX8_wordToken_12 (by decide) rfl rfl ?_
    obtain ⟨v_4, hc_3, hf⟩ := bnd_at hf
    refine G.callVi (av := [.ref (1000 + 1)]) (rest := []) dX8_wordToken_14 mvX8_98 (gX8_spells E d 1 I (by decide) hc_3) (by decide) rfl rfl rfl (Nat.le_of_ble_eq_true rfl) ?_
    refine G.if_eq (tgt := 22) dX8_wordToken_17 (by decide) (fun c_20 => ?_) (fun c_20 => ?_)
    · have hf := ite_t hf c_20
      refine G.aload_n dX8_wordToken_22 rfl rfl ?_
      refine G.ldcS (i := 2) dX8_wordToken_23 (by decide) rfl rfl ?_
      obtain ⟨v_6, hc_5, hf⟩ := bnd_at hf
      refine G.callVi (av := [.ref (1000 + 2)]) (rest := []) dX8_wordToken_25 mvX8_98 (gX8_spells E d 2 I (by decide) hc_5) (by decide) rfl rfl rfl (Nat.le_of_ble_eq_true rfl) ?_
      refine G.if_eq (tgt := 34) dX8_wordToken_28 (by decide) (fun c_19 => ?_) (fun c_19 => ?_)
      · have hf := ite_t hf c_19
        refine G.aload_n dX8_wordToken_34 rfl rfl ?_
        refine G.ldcS (i := 3) dX8_wordToken_35 (by decide) rfl rfl ?_
        obtain ⟨v_8, hc_7, hf⟩ := bnd_at hf
        refine G.callVi (av := [.ref (1000 + 3)]) (rest := []) dX8_wordToken_37 mvX8_98 (gX8_spells E d 3 I (by decide) hc_7) (by decide) rfl rfl rfl (Nat.le_of_ble_eq_true rfl) ?_
        refine G.if_eq (tgt := 46) dX8_wordToken_40 (by decide) (fun c_18 => ?_) (fun c_18 => ?_)
        · have hf := ite_t hf c_18
          refine G.aload_n dX8_wordToken_46 rfl rfl ?_
          refine G.ldcS (i := 4) dX8_wordToken_47 (by decide) rfl rfl ?_
          obtain ⟨v_10, hc_9, hf⟩ := bnd_at hf
          refine G.callVi (av := [.ref (1000 + 4)]) (rest := []) dX8_wordToken_49 mvX8_98 (gX8_spells E d 4 I (by decide) hc_9) (by decide) rfl rfl rfl (Nat.le_of_ble_eq_true rfl) ?_
          refine G.if_eq (tgt := 58) dX8_wordToken_52 (by decide) (fun c_17 => ?_) (fun c_17 => ?_)
          · have hf := ite_t hf c_17
            refine G.aload_n dX8_wordToken_58 rfl rfl ?_
            refine G.ldcS (i := 5) dX8_wordToken_59 (by decide) rfl rfl ?_
            obtain ⟨v_12, hc_11, hf⟩ := bnd_at hf
            refine G.callVi (av := [.ref (1000 + 5)]) (rest := []) dX8_wordToken_61 mvX8_98 (gX8_spells E d 5 I (by decide) hc_11) (by decide) rfl rfl rfl (Nat.le_of_ble_eq_true rfl) ?_
            refine G.if_eq (tgt := 70) dX8_wordToken_64 (by decide) (fun c_16 => ?_) (fun c_16 => ?_)
            · have hf := ite_t hf c_16
              refine G.aload_n dX8_wordToken_70 rfl rfl ?_
              refine G.ldcS (i := 6) dX8_wordToken_71 (by decide) rfl rfl ?_
              obtain ⟨v_14, hc_13, hf⟩ := bnd_at hf
              refine G.callVi (av := [.ref (1000 + 6)]) (rest := []) dX8_wordToken_73 mvX8_98 (gX8_spells E d 6 I (by decide) hc_13) (by decide) rfl rfl rfl (Nat.le_of_ble_eq_true rfl) ?_
              refine G.if_eq (tgt := 84) dX8_wordToken_76 (by decide) (fun c_15 => ?_) (fun c_15 => ?_)
              · have hf := ite_t hf c_15
                refine G.iconst (v := 1) dX8_wordToken_84 (by decide) ?_
                have hf := Option.some.inj hf
                subst hf
                exact G.iret' dX8_wordToken_85 rfl hK
              · have hf := ite_f hf c_15
                refine G.bipush (v := 10) dX8_wordToken_79 (by decide) ?_
                refine G.goto (tgt := 85) dX8_wordToken_81 (by decide) ?_
                have hf := Option.some.inj hf
                subst hf
                exact G.iret' dX8_wordToken_85 rfl hK
            · have hf := ite_f hf c_16
              refine G.bipush (v := 9) dX8_wordToken_67 (by decide) ?_
              have hf := Option.some.inj hf
              subst hf
              exact G.iret' dX8_wordToken_69 rfl hK
          · have hf := ite_f hf c_17
            refine G.bipush (v := 8) dX8_wordToken_55 (by decide) ?_
            have hf := Option.some.inj hf
            subst hf
            exact G.iret' dX8_wordToken_57 rfl hK
        · have hf := ite_f hf c_18
          refine G.bipush (v := 7) dX8_wordToken_43 (by decide) ?_
          have hf := Option.some.inj hf
          subst hf
          exact G.iret' dX8_wordToken_45 rfl hK
      · have hf := ite_f hf c_19
        refine G.bipush (v := 6) dX8_wordToken_31 (by decide) ?_
        have hf := Option.some.inj hf
        subst hf
        exact G.iret' dX8_wordToken_33 rfl hK
    · have hf := ite_f hf c_20
      refine G.iconst (v := 5) dX8_wordToken_20 (by decide) ?_
      have hf := Option.some.inj hf
      subst hf
      exact G.iret' dX8_wordToken_21 rfl hK
  · have hf := ite_f hf c_21
    refine G.iconst (v := 4) dX8_wordToken_9 (by decide) ?_
    have hf := Option.some.inj hf
    subst hf
    exact G.iret' dX8_wordToken_10 rfl hK
theorem dX8_numberToken_0 : decode cX8_numberToken 0 = .ok (.aload_n 0, 1) := by decide +kernel
theorem dX8_numberToken_1 : decode cX8_numberToken 1 = .ok (.getfield 19, 3) := by decide +kernel
theorem dX8_numberToken_4 : decode cX8_numberToken 4 = .ok (.aload_n 0, 1) := by decide +kernel
theorem dX8_numberToken_5 : decode cX8_numberToken 5 = .ok (.getfield 31, 3) := by decide +kernel
theorem dX8_numberToken_8 : decode cX8_numberToken 8 = .ok (.isub, 1) := by decide +kernel
theorem dX8_numberToken_9 : decode cX8_numberToken 9 = .ok (.iconst 3, 1) := by decide +kernel
theorem dX8_numberToken_10 : decode cX8_numberToken 10 = .ok (.if_icmp .le 5, 3) := by decide +kernel
theorem dX8_numberToken_13 : decode cX8_numberToken 13 = .ok (.iconst 1, 1) := by decide +kernel
theorem dX8_numberToken_14 : decode cX8_numberToken 14 = .ok (.ireturn, 1) := by decide +kernel
theorem dX8_numberToken_15 : decode cX8_numberToken 15 = .ok (.aload_n 0, 1) := by decide +kernel
theorem dX8_numberToken_16 : decode cX8_numberToken 16 = .ok (.iconst 0, 1) := by decide +kernel
theorem dX8_numberToken_17 : decode cX8_numberToken 17 = .ok (.putfield 78, 3) := by decide +kernel
theorem dX8_numberToken_20 : decode cX8_numberToken 20 = .ok (.aload_n 0, 1) := by decide +kernel
theorem dX8_numberToken_21 : decode cX8_numberToken 21 = .ok (.getfield 31, 3) := by decide +kernel
theorem dX8_numberToken_24 : decode cX8_numberToken 24 = .ok (.istore_n 1, 1) := by decide +kernel
theorem dX8_numberToken_25 : decode cX8_numberToken 25 = .ok (.iload_n 1, 1) := by decide +kernel
theorem dX8_numberToken_26 : decode cX8_numberToken 26 = .ok (.aload_n 0, 1) := by decide +kernel
theorem dX8_numberToken_27 : decode cX8_numberToken 27 = .ok (.getfield 19, 3) := by decide +kernel
theorem dX8_numberToken_30 : decode cX8_numberToken 30 = .ok (.if_icmp .ge 30, 3) := by decide +kernel
theorem dX8_numberToken_33 : decode cX8_numberToken 33 = .ok (.aload_n 0, 1) := by decide +kernel
theorem dX8_numberToken_34 : decode cX8_numberToken 34 = .ok (.bipush 10, 2) := by decide +kernel
theorem dX8_numberToken_36 : decode cX8_numberToken 36 = .ok (.aload_n 0, 1) := by decide +kernel
theorem dX8_numberToken_37 : decode cX8_numberToken 37 = .ok (.getfield 78, 3) := by decide +kernel
theorem dX8_numberToken_40 : decode cX8_numberToken 40 = .ok (.imul, 1) := by decide +kernel
theorem dX8_numberToken_41 : decode cX8_numberToken 41 = .ok (.aload_n 0, 1) := by decide +kernel
theorem dX8_numberToken_42 : decode cX8_numberToken 42 = .ok (.getfield 9, 3) := by decide +kernel
theorem dX8_numberToken_45 : decode cX8_numberToken 45 = .ok (.iload_n 1, 1) := by decide +kernel
theorem dX8_numberToken_46 : decode cX8_numberToken 46 = .ok (.iaload, 1) := by decide +kernel
theorem dX8_numberToken_47 : decode cX8_numberToken 47 = .ok (.iadd, 1) := by decide +kernel
theorem dX8_numberToken_48 : decode cX8_numberToken 48 = .ok (.bipush 48, 2) := by decide +kernel
theorem dX8_numberToken_50 : decode cX8_numberToken 50 = .ok (.isub, 1) := by decide +kernel
theorem dX8_numberToken_51 : decode cX8_numberToken 51 = .ok (.putfield 78, 3) := by decide +kernel
theorem dX8_numberToken_54 : decode cX8_numberToken 54 = .ok (.iinc 1 1, 3) := by decide +kernel
theorem dX8_numberToken_57 : decode cX8_numberToken 57 = .ok (.goto (-32), 3) := by decide +kernel
theorem dX8_numberToken_60 : decode cX8_numberToken 60 = .ok (.iconst 2, 1) := by decide +kernel
theorem dX8_numberToken_61 : decode cX8_numberToken 61 = .ok (.ireturn, 1) := by decide +kernel
def KX8_numberToken_25 (E : EV) (d : Nat) (rr : Option Value × Mem) (Kp : (Int32 × Mem) → Prop) : ((Int32 × Mem) ⊕ (Int32 × Mem)) → Prop
  | .inl q => G E (d + 0) kX8_numberToken 25 [some (.ref 35), some (.int q.1)] [] q.2 rr
  | .inr z => Kp z
def bX8_numberToken_25 (x1 : Int32) (I : Mem) : Option ((Int32 × Mem) ⊕ (Int32 × Mem)) :=
  if (I 35 4) ≤ x1 then
  (some (.inr ((2 : Int32), I)))
  else
  (chk (inb x1 200) <|
  letb (up2 I 35 5 ((((10 : Int32) * (I 35 5)) + (I 36 (ix x1))) - (48 : Int32))) fun I_4 =>
  some (.inl ((x1 + (1 : Int32)), I_4)))
def sX8_numberToken_25 (q : (Int32 × Mem)) : Option ((Int32 × Mem) ⊕ (Int32 × Mem)) := bX8_numberToken_25 q.1 q.2
set_option maxRecDepth 20000 in
theorem wX8_numberToken_25 (E : EV) (d : Nat) (rr : Option Value × Mem) (x1 : Int32) (I : Mem) (y : ((Int32 × Mem) ⊕ (Int32 × Mem))) (hf : bX8_numberToken_25 x1 I = some y) (hK : (KX8_numberToken_25 E d rr  (fun (z : Int32 × Mem) => (some (.int z.1), z.2) = rr)) y) : G E (d + 0) kX8_numberToken 25 [some (.ref 35), some (.int x1)] [] I rr := by
  unfold bX8_numberToken_25 at hf
  refine G.iload_n dX8_numberToken_25 rfl rfl ?_
  refine G.aload_n dX8_numberToken_26 rfl rfl ?_
  refine G.getI dX8_numberToken_27 flX8_19 (by decide) rfl ?_
  refine G.icmp_ge (tgt := 60) dX8_numberToken_30 (by decide) (fun c_5 => ?_) (fun c_5 => ?_)
  · have hf := ite_t hf c_5
    refine G.iconst (v := 2) dX8_numberToken_60 (by decide) ?_
    have hf := Option.some.inj hf
    subst hf
    exact G.iret' dX8_numberToken_61 rfl hK
  · have hf := ite_f hf c_5
    refine G.aload_n dX8_numberToken_33 rfl rfl ?_
    refine G.bipush (v := 10) dX8_numberToken_34 (by decide) ?_
    refine G.aload_n dX8_numberToken_36 rfl rfl ?_
    refine G.getI dX8_numberToken_37 flX8_78 (by decide) rfl ?_
    refine G.imul dX8_numberToken_40 ?_
    refine G.aload_n dX8_numberToken_41 rfl rfl ?_
    refine G.getR (q := 36) dX8_numberToken_42 flX8_9 (by decide) rfl rfl ?_
    refine G.iload_n dX8_numberToken_45 rfl rfl ?_
    obtain ⟨hi_3, hf⟩ := chk_at hf
    refine G.iald' dX8_numberToken_46 (by decide) rfl rfl hi_3 ?_
    refine G.iadd dX8_numberToken_47 ?_
    refine G.bipush (v := 48) dX8_numberToken_48 (by decide) ?_
    refine G.isub dX8_numberToken_50 ?_
    refine G.putI dX8_numberToken_51 flX8_78 (by decide) rfl ?_
    refine G.nmI (fun I_4 e_I_4 => ?_)
    have hf := letb_at hf e_I_4
    clear e_I_4
    refine G.inc (w := 1) (L' := [some (.ref 35), some (.int (x1 + (1 : Int32)))]) dX8_numberToken_54 (by decide) rfl (Nat.le_of_ble_eq_true rfl) rfl rfl ?_
    refine G.goto (tgt := 25) dX8_numberToken_57 (by decide) ?_
    have hf := Option.some.inj hf
    subst hf
    exact hK
theorem lX8_numberToken_25 (E : EV) (d : Nat) (rr : Option Value × Mem) (z : (Int32 × Mem)) (hK : (fun (z : Int32 × Mem) => (some (.int z.1), z.2) = rr) z) : ∀ (n : Nat) (q : (Int32 × Mem)), iter (sX8_numberToken_25) n q = some z → G E (d + 0) kX8_numberToken 25 [some (.ref 35), some (.int q.1)] [] q.2 rr := by
  intro n
  induction n with
  | zero => intro q h; cases h
  | succ n ih =>
    intro q h
    rcases iter_at h with ⟨q2, hs, h2⟩ | hs
    · exact wX8_numberToken_25 E d rr q.1 q.2 _ hs (ih q2 h2)
    · exact wX8_numberToken_25 E d rr q.1 q.2 _ hs hK
def fX8_numberToken (I : Mem) : Option (Int32 × Mem) :=
  if ((I 35 4) - (I 35 3)) ≤ (3 : Int32) then
  (letb (up2 I 35 5 (0 : Int32)) fun I_1 =>
  letb (I_1 35 3) fun x1_2 =>
  iter (sX8_numberToken_25) FU (x1_2, I_1))
  else
  (some ((1 : Int32), I))
set_option maxRecDepth 20000 in
theorem gX8_numberToken (E : EV) (d : Nat) (I : Mem) {v : Int32} {J : Mem} (hf : fX8_numberToken I = some (v, J)) : Gm E (d + 0) kX8_numberToken [.ref 35] I (some (.int v), J) := by
  refine (fun (y : (Int32 × Mem)) (hf : fX8_numberToken I = some y) => (?_ : Gm E (d + 0) kX8_numberToken [.ref 35] I (some (.int y.1), y.2))) (v, J) hf
  refine Gm.of (by decide) rfl (Nat.le_of_ble_eq_true rfl) ?_
  generalize hrr : ((some (.int y.1), y.2) : Option Value × Mem) = rr
  show G E (d + 0) kX8_numberToken 0 [some (.ref 35), none] [] I rr
  have hK : (fun (z : Int32 × Mem) => (some (.int z.1), z.2) = rr) y := hrr
  clear hrr
  unfold fX8_numberToken at hf
  refine G.aload_n dX8_numberToken_0 rfl rfl ?_
  refine G.getI dX8_numberToken_1 flX8_19 (by decide) rfl ?_
  refine G.aload_n dX8_numberToken_4 rfl rfl ?_
  refine G.getI dX8_numberToken_5 flX8_31 (by decide) rfl ?_
  refine G.isub dX8_numberToken_8 ?_
  refine G.iconst (v := 3) dX8_numberToken_9 (by decide) ?_
  refine G.icmp_le (tgt := 15) dX8_numberToken_10 (by decide) (fun c_6 => ?_) (fun c_6 => ?_)
  · have hf := ite_t hf c_6
    refine G.aload_n dX8_numberToken_15 rfl rfl ?_
    refine G.iconst (v := 0) dX8_numberToken_16 (by decide) ?_
    refine G.putI dX8_numberToken_17 flX8_78 (by decide) rfl ?_
    refine G.nmI (fun I_1 e_I_1 => ?_)
    have hf := letb_at hf e_I_1
    clear e_I_1
    refine G.aload_n dX8_numberToken_20 rfl rfl ?_
    refine G.getI dX8_numberToken_21 flX8_31 (by decide) rfl ?_
    refine G.nmi (fun x1_2 e_x1_2 => ?_)
    have hf := letb_at hf e_x1_2
    clear e_x1_2
    refine G.istore_n (L' := [some (.ref 35), some (.int x1_2)]) dX8_numberToken_24 rfl (Nat.le_of_ble_eq_true rfl) (Nat.le_of_ble_eq_true rfl) rfl rfl ?_
    exact lX8_numberToken_25 E d rr _ hK FU _ hf
  · have hf := ite_f hf c_6
    refine G.iconst (v := 1) dX8_numberToken_13 (by decide) ?_
    have hf := Option.some.inj hf
    subst hf
    exact G.iret' dX8_numberToken_14 rfl hK
theorem dX8_advance_0 : decode cX8_advance 0 = .ok (.aload_n 0, 1) := by decide +kernel
theorem dX8_advance_1 : decode cX8_advance 1 = .ok (.getfield 19, 3) := by decide +kernel
theorem dX8_advance_4 : decode cX8_advance 4 = .ok (.aload_n 0, 1) := by decide +kernel
theorem dX8_advance_5 : decode cX8_advance 5 = .ok (.getfield 15, 3) := by decide +kernel
theorem dX8_advance_8 : decode cX8_advance 8 = .ok (.if_icmp .ge 30, 3) := by decide +kernel
theorem dX8_advance_11 : decode cX8_advance 11 = .ok (.aload_n 0, 1) := by decide +kernel
theorem dX8_advance_12 : decode cX8_advance 12 = .ok (.getfield 9, 3) := by decide +kernel
theorem dX8_advance_15 : decode cX8_advance 15 = .ok (.aload_n 0, 1) := by decide +kernel
theorem dX8_advance_16 : decode cX8_advance 16 = .ok (.getfield 19, 3) := by decide +kernel
theorem dX8_advance_19 : decode cX8_advance 19 = .ok (.iaload, 1) := by decide +kernel
theorem dX8_advance_20 : decode cX8_advance 20 = .ok (.bipush 32, 2) := by decide +kernel
theorem dX8_advance_22 : decode cX8_advance 22 = .ok (.if_icmp .ne 16, 3) := by decide +kernel
theorem dX8_advance_25 : decode cX8_advance 25 = .ok (.aload_n 0, 1) := by decide +kernel
theorem dX8_advance_26 : decode cX8_advance 26 = .ok (.dup, 1) := by decide +kernel
theorem dX8_advance_27 : decode cX8_advance 27 = .ok (.getfield 19, 3) := by decide +kernel
theorem dX8_advance_30 : decode cX8_advance 30 = .ok (.iconst 1, 1) := by decide +kernel
theorem dX8_advance_31 : decode cX8_advance 31 = .ok (.iadd, 1) := by decide +kernel
theorem dX8_advance_32 : decode cX8_advance 32 = .ok (.putfield 19, 3) := by decide +kernel
theorem dX8_advance_35 : decode cX8_advance 35 = .ok (.goto (-35), 3) := by decide +kernel
theorem dX8_advance_38 : decode cX8_advance 38 = .ok (.aload_n 0, 1) := by decide +kernel
theorem dX8_advance_39 : decode cX8_advance 39 = .ok (.aload_n 0, 1) := by decide +kernel
theorem dX8_advance_40 : decode cX8_advance 40 = .ok (.getfield 19, 3) := by decide +kernel
theorem dX8_advance_43 : decode cX8_advance 43 = .ok (.putfield 31, 3) := by decide +kernel
theorem dX8_advance_46 : decode cX8_advance 46 = .ok (.aload_n 0, 1) := by decide +kernel
theorem dX8_advance_47 : decode cX8_advance 47 = .ok (.getfield 19, 3) := by decide +kernel
theorem dX8_advance_50 : decode cX8_advance 50 = .ok (.aload_n 0, 1) := by decide +kernel
theorem dX8_advance_51 : decode cX8_advance 51 = .ok (.getfield 15, 3) := by decide +kernel
theorem dX8_advance_54 : decode cX8_advance 54 = .ok (.if_icmp .lt 11, 3) := by decide +kernel
theorem dX8_advance_57 : decode cX8_advance 57 = .ok (.aload_n 0, 1) := by decide +kernel
theorem dX8_advance_58 : decode cX8_advance 58 = .ok (.iconst 0, 1) := by decide +kernel
theorem dX8_advance_59 : decode cX8_advance 59 = .ok (.putfield 28, 3) := by decide +kernel
theorem dX8_advance_62 : decode cX8_advance 62 = .ok (.goto 112, 3) := by decide +kernel
theorem dX8_advance_65 : decode cX8_advance 65 = .ok (.aload_n 0, 1) := by decide +kernel
theorem dX8_advance_66 : decode cX8_advance 66 = .ok (.aload_n 0, 1) := by decide +kernel
theorem dX8_advance_67 : decode cX8_advance 67 = .ok (.getfield 19, 3) := by decide +kernel
theorem dX8_advance_70 : decode cX8_advance 70 = .ok (.bipush 97, 2) := by decide +kernel
theorem dX8_advance_72 : decode cX8_advance 72 = .ok (.bipush 122, 2) := by decide +kernel
theorem dX8_advance_74 : decode cX8_advance 74 = .ok (.invokevirtual 81, 3) := by decide +kernel
theorem dX8_advance_77 : decode cX8_advance 77 = .ok (.ifCond .eq 26, 3) := by decide +kernel
theorem dX8_advance_80 : decode cX8_advance 80 = .ok (.aload_n 0, 1) := by decide +kernel
theorem dX8_advance_81 : decode cX8_advance 81 = .ok (.aload_n 0, 1) := by decide +kernel
theorem dX8_advance_82 : decode cX8_advance 82 = .ok (.bipush 97, 2) := by decide +kernel
theorem dX8_advance_84 : decode cX8_advance 84 = .ok (.bipush 122, 2) := by decide +kernel
theorem dX8_advance_86 : decode cX8_advance 86 = .ok (.invokevirtual 85, 3) := by decide +kernel
theorem dX8_advance_89 : decode cX8_advance 89 = .ok (.putfield 19, 3) := by decide +kernel
theorem dX8_advance_92 : decode cX8_advance 92 = .ok (.aload_n 0, 1) := by decide +kernel
theorem dX8_advance_93 : decode cX8_advance 93 = .ok (.aload_n 0, 1) := by decide +kernel
theorem dX8_advance_94 : decode cX8_advance 94 = .ok (.invokevirtual 89, 3) := by decide +kernel
theorem dX8_advance_97 : decode cX8_advance 97 = .ok (.putfield 28, 3) := by decide +kernel
theorem dX8_advance_100 : decode cX8_advance 100 = .ok (.goto 74, 3) := by decide +kernel
theorem dX8_advance_103 : decode cX8_advance 103 = .ok (.aload_n 0, 1) := by decide +kernel
theorem dX8_advance_104 : decode cX8_advance 104 = .ok (.aload_n 0, 1) := by decide +kernel
theorem dX8_advance_105 : decode cX8_advance 105 = .ok (.getfield 19, 3) := by decide +kernel
theorem dX8_advance_108 : decode cX8_advance 108 = .ok (.bipush 48, 2) := by decide +kernel
theorem dX8_advance_110 : decode cX8_advance 110 = .ok (.bipush 57, 2) := by decide +kernel
theorem dX8_advance_112 : decode cX8_advance 112 = .ok (.invokevirtual 81, 3) := by decide +kernel
theorem dX8_advance_115 : decode cX8_advance 115 = .ok (.ifCond .eq 26, 3) := by decide +kernel
theorem dX8_advance_118 : decode cX8_advance 118 = .ok (.aload_n 0, 1) := by decide +kernel
theorem dX8_advance_119 : decode cX8_advance 119 = .ok (.aload_n 0, 1) := by decide +kernel
theorem dX8_advance_120 : decode cX8_advance 120 = .ok (.bipush 48, 2) := by decide +kernel
theorem dX8_advance_122 : decode cX8_advance 122 = .ok (.bipush 57, 2) := by decide +kernel
theorem dX8_advance_124 : decode cX8_advance 124 = .ok (.invokevirtual 85, 3) := by decide +kernel
theorem dX8_advance_127 : decode cX8_advance 127 = .ok (.putfield 19, 3) := by decide +kernel
theorem dX8_advance_130 : decode cX8_advance 130 = .ok (.aload_n 0, 1) := by decide +kernel
theorem dX8_advance_131 : decode cX8_advance 131 = .ok (.aload_n 0, 1) := by decide +kernel
theorem dX8_advance_132 : decode cX8_advance 132 = .ok (.invokevirtual 93, 3) := by decide +kernel
theorem dX8_advance_135 : decode cX8_advance 135 = .ok (.putfield 28, 3) := by decide +kernel
theorem dX8_advance_138 : decode cX8_advance 138 = .ok (.goto 36, 3) := by decide +kernel
theorem dX8_advance_141 : decode cX8_advance 141 = .ok (.aload_n 0, 1) := by decide +kernel
theorem dX8_advance_142 : decode cX8_advance 142 = .ok (.aload_n 0, 1) := by decide +kernel
theorem dX8_advance_143 : decode cX8_advance 143 = .ok (.getfield 9, 3) := by decide +kernel
theorem dX8_advance_146 : decode cX8_advance 146 = .ok (.aload_n 0, 1) := by decide +kernel
theorem dX8_advance_147 : decode cX8_advance 147 = .ok (.getfield 19, 3) := by decide +kernel
theorem dX8_advance_150 : decode cX8_advance 150 = .ok (.iaload, 1) := by decide +kernel
theorem dX8_advance_151 : decode cX8_advance 151 = .ok (.bipush 59, 2) := by decide +kernel
theorem dX8_advance_153 : decode cX8_advance 153 = .ok (.if_icmp .ne 7, 3) := by decide +kernel
theorem dX8_advance_156 : decode cX8_advance 156 = .ok (.iconst 3, 1) := by decide +kernel
theorem dX8_advance_157 : decode cX8_advance 157 = .ok (.goto 4, 3) := by decide +kernel
theorem dX8_advance_160 : decode cX8_advance 160 = .ok (.iconst 1, 1) := by decide +kernel
theorem dX8_advance_161 : decode cX8_advance 161 = .ok (.putfield 28, 3) := by decide +kernel
theorem dX8_advance_164 : decode cX8_advance 164 = .ok (.aload_n 0, 1) := by decide +kernel
theorem dX8_advance_165 : decode cX8_advance 165 = .ok (.dup, 1) := by decide +kernel
theorem dX8_advance_166 : decode cX8_advance 166 = .ok (.getfield 19, 3) := by decide +kernel
theorem dX8_advance_169 : decode cX8_advance 169 = .ok (.iconst 1, 1) := by decide +kernel
theorem dX8_advance_170 : decode cX8_advance 170 = .ok (.iadd, 1) := by decide +kernel
theorem dX8_advance_171 : decode cX8_advance 171 = .ok (.putfield 19, 3) := by decide +kernel
theorem dX8_advance_174 : decode cX8_advance 174 = .ok (.return_, 1) := by decide +kernel
def KX8_advance_0 (E : EV) (d : Nat) (rr : Option Value × Mem) (Kp : Mem → Prop) : (Mem ⊕ Mem) → Prop
  | .inl q => G E (d + 6) kX8_advance 0 [some (.ref 35)] [] q rr
  | .inr z => Kp z
def jX8_advance_161 (u0 : Int32) (I : Mem) : Option Mem :=
  letb (up2 I 35 2 u0) fun I_7 =>
  letb (up2 I_7 35 4 ((I_7 35 4) + (1 : Int32))) fun I_8 =>
  some I_8
set_option maxRecDepth 20000 in
theorem tX8_advance_161 (E : EV) (d : Nat) (rr : Option Value × Mem) (u0 : Int32) (I : Mem) (y : Mem) (hf : jX8_advance_161 u0 I = some y) (hK : (fun (z : Mem) => ((none : Option Value), z) = rr) y) : G E (d + 6) kX8_advance 161 [some (.ref 35)] [.int u0, .ref 35] I rr := by
  unfold jX8_advance_161 at hf
  refine G.putI dX8_advance_161 flX8_28 (by decide) rfl ?_
  refine G.nmI (fun I_7 e_I_7 => ?_)
  have hf := letb_at hf e_I_7
  clear e_I_7
  refine G.aload_n dX8_advance_164 rfl rfl ?_
  refine G.dup dX8_advance_165 rfl ?_
  refine G.getI dX8_advance_166 flX8_19 (by decide) rfl ?_
  refine G.iconst (v := 1) dX8_advance_169 (by decide) ?_
  refine G.iadd dX8_advance_170 ?_
  refine G.putI dX8_advance_171 flX8_19 (by decide) rfl ?_
  refine G.nmI (fun I_8 e_I_8 => ?_)
  have hf := letb_at hf e_I_8
  clear e_I_8
  have hf := Option.some.inj hf
  subst hf
  exact G.vret' dX8_advance_174 rfl hK
def jX8_advance_38 (I : Mem) : Option Mem :=
  letb (up2 I 35 3 (I 35 4)) fun I_1 =>
  if (I_1 35 4) < (I_1 35 0) then
  (bnd (fX8_isWithin (I_1 35 4) (97 : Int32) (122 : Int32) I_1) fun v_3 =>
  if v_3 = 0 then
  (bnd (fX8_isWithin (I_1 35 4) (48 : Int32) (57 : Int32) I_1) fun v_5 =>
  if v_5 = 0 then
  (chk (inb (I_1 35 4) 200) <|
  if (I_1 36 (ix (I_1 35 4))) = (59 : Int32) then
  (jX8_advance_161 (3 : Int32) I_1)
  else
  (jX8_advance_161 (1 : Int32) I_1))
  else
  (bnd (fX8_endOf (48 : Int32) (57 : Int32) I_1) fun v_11 =>
  letb (up2 I_1 35 4 v_11) fun I_12 =>
  bnd2 (fX8_numberToken I_12) fun v_14 I_15 =>
  letb (up2 I_15 35 2 v_14) fun I_16 =>
  some I_16))
  else
  (bnd (fX8_endOf (97 : Int32) (122 : Int32) I_1) fun v_19 =>
  letb (up2 I_1 35 4 v_19) fun I_20 =>
  bnd (fX8_wordToken I_20) fun v_22 =>
  letb (up2 I_20 35 2 v_22) fun I_23 =>
  some I_23))
  else
  (letb (up2 I_1 35 2 (0 : Int32)) fun I_25 =>
  some I_25)
set_option maxRecDepth 20000 in
theorem tX8_advance_38 (E : EV) (d : Nat) (rr : Option Value × Mem) (I : Mem) (y : Mem) (hf : jX8_advance_38 I = some y) (hK : (fun (z : Mem) => ((none : Option Value), z) = rr) y) : G E (d + 6) kX8_advance 38 [some (.ref 35)] [] I rr := by
  unfold jX8_advance_38 at hf
  refine G.aload_n dX8_advance_38 rfl rfl ?_
  refine G.aload_n dX8_advance_39 rfl rfl ?_
  refine G.getI dX8_advance_40 flX8_19 (by decide) rfl ?_
  refine G.putI dX8_advance_43 flX8_31 (by decide) rfl ?_
  refine G.nmI (fun I_1 e_I_1 => ?_)
  have hf := letb_at hf e_I_1
  clear e_I_1
  refine G.aload_n dX8_advance_46 rfl rfl ?_
  refine G.getI dX8_advance_47 flX8_19 (by decide) rfl ?_
  refine G.aload_n dX8_advance_50 rfl rfl ?_
  refine G.getI dX8_advance_51 flX8_15 (by decide) rfl ?_
  refine G.icmp_lt (tgt := 65) dX8_advance_54 (by decide) (fun c_26 => ?_) (fun c_26 => ?_)
  · have hf := ite_t hf c_26
    refine G.aload_n dX8_advance_65 rfl rfl ?_
    refine G.aload_n dX8_advance_66 rfl rfl ?_
    refine G.getI dX8_advance_67 flX8_19 (by decide) rfl ?_
    refine G.bipush (v := 97) dX8_advance_70 (by decide) ?_
    refine G.bipush (v := 122) dX8_advance_72 (by decide) ?_
    obtain ⟨v_3, hc_2, hf⟩ := bnd_at hf
    refine G.callVi (av := [.int (I_1 35 4), .int (97 : Int32), .int (122 : Int32)]) (rest := []) dX8_advance_74 mvX8_81 (gX8_isWithin E (d + 5) (I_1 35 4) (97 : Int32) (122 : Int32) I_1 hc_2) (by decide) rfl rfl rfl (Nat.le_of_ble_eq_true rfl) ?_
    refine G.if_eq (tgt := 103) dX8_advance_77 (by decide) (fun c_24 => ?_) (fun c_24 => ?_)
    · have hf := ite_t hf c_24
      refine G.aload_n dX8_advance_103 rfl rfl ?_
      refine G.aload_n dX8_advance_104 rfl rfl ?_
      refine G.getI dX8_advance_105 flX8_19 (by decide) rfl ?_
      refine G.bipush (v := 48) dX8_advance_108 (by decide) ?_
      refine G.bipush (v := 57) dX8_advance_110 (by decide) ?_
      obtain ⟨v_5, hc_4, hf⟩ := bnd_at hf
      refine G.callVi (av := [.int (I_1 35 4), .int (48 : Int32), .int (57 : Int32)]) (rest := []) dX8_advance_112 mvX8_81 (gX8_isWithin E (d + 5) (I_1 35 4) (48 : Int32) (57 : Int32) I_1 hc_4) (by decide) rfl rfl rfl (Nat.le_of_ble_eq_true rfl) ?_
      refine G.if_eq (tgt := 141) dX8_advance_115 (by decide) (fun c_17 => ?_) (fun c_17 => ?_)
      · have hf := ite_t hf c_17
        refine G.aload_n dX8_advance_141 rfl rfl ?_
        refine G.aload_n dX8_advance_142 rfl rfl ?_
        refine G.getR (q := 36) dX8_advance_143 flX8_9 (by decide) rfl rfl ?_
        refine G.aload_n dX8_advance_146 rfl rfl ?_
        refine G.getI dX8_advance_147 flX8_19 (by decide) rfl ?_
        obtain ⟨hi_6, hf⟩ := chk_at hf
        refine G.iald' dX8_advance_150 (by decide) rfl rfl hi_6 ?_
        refine G.bipush (v := 59) dX8_advance_151 (by decide) ?_
        refine G.icmp_ne (tgt := 160) dX8_advance_153 (by decide) (fun c_9 => ?_) (fun c_9 => ?_)
        · have hf := ite_f hf c_9
          refine G.iconst (v := 1) dX8_advance_160 (by decide) ?_
          exact tX8_advance_161 E d rr (1 : Int32) I_1 _ hf hK
        · have hf := ite_t hf c_9
          refine G.iconst (v := 3) dX8_advance_156 (by decide) ?_
          refine G.goto (tgt := 161) dX8_advance_157 (by decide) ?_
          exact tX8_advance_161 E d rr (3 : Int32) I_1 _ hf hK
      · have hf := ite_f hf c_17
        refine G.aload_n dX8_advance_118 rfl rfl ?_
        refine G.aload_n dX8_advance_119 rfl rfl ?_
        refine G.bipush (v := 48) dX8_advance_120 (by decide) ?_
        refine G.bipush (v := 57) dX8_advance_122 (by decide) ?_
        obtain ⟨v_11, hc_10, hf⟩ := bnd_at hf
        refine G.callVi (av := [.int (48 : Int32), .int (57 : Int32)]) (rest := [.ref 35]) dX8_advance_124 mvX8_85 (gX8_endOf E (d + 4) (48 : Int32) (57 : Int32) I_1 hc_10) (by decide) rfl rfl rfl (Nat.le_of_ble_eq_true rfl) ?_
        refine G.putI dX8_advance_127 flX8_19 (by decide) rfl ?_
        refine G.nmI (fun I_12 e_I_12 => ?_)
        have hf := letb_at hf e_I_12
        clear e_I_12
        refine G.aload_n dX8_advance_130 rfl rfl ?_
        refine G.aload_n dX8_advance_131 rfl rfl ?_
        obtain ⟨v_14, I_15, hc_13, hf⟩ := bnd2_at hf
        refine G.callVi (av := []) (rest := [.ref 35]) dX8_advance_132 mvX8_93 (gX8_numberToken E (d + 5) I_12 hc_13) (by decide) rfl rfl rfl (Nat.le_of_ble_eq_true rfl) ?_
        refine G.putI dX8_advance_135 flX8_28 (by decide) rfl ?_
        refine G.nmI (fun I_16 e_I_16 => ?_)
        have hf := letb_at hf e_I_16
        clear e_I_16
        refine G.goto (tgt := 174) dX8_advance_138 (by decide) ?_
        have hf := Option.some.inj hf
        subst hf
        exact G.vret' dX8_advance_174 rfl hK
    · have hf := ite_f hf c_24
      refine G.aload_n dX8_advance_80 rfl rfl ?_
      refine G.aload_n dX8_advance_81 rfl rfl ?_
      refine G.bipush (v := 97) dX8_advance_82 (by decide) ?_
      refine G.bipush (v := 122) dX8_advance_84 (by decide) ?_
      obtain ⟨v_19, hc_18, hf⟩ := bnd_at hf
      refine G.callVi (av := [.int (97 : Int32), .int (122 : Int32)]) (rest := [.ref 35]) dX8_advance_86 mvX8_85 (gX8_endOf E (d + 4) (97 : Int32) (122 : Int32) I_1 hc_18) (by decide) rfl rfl rfl (Nat.le_of_ble_eq_true rfl) ?_
      refine G.putI dX8_advance_89 flX8_19 (by decide) rfl ?_
      refine G.nmI (fun I_20 e_I_20 => ?_)
      have hf := letb_at hf e_I_20
      clear e_I_20
      refine G.aload_n dX8_advance_92 rfl rfl ?_
      refine G.aload_n dX8_advance_93 rfl rfl ?_
      obtain ⟨v_22, hc_21, hf⟩ := bnd_at hf
      refine G.callVi (av := []) (rest := [.ref 35]) dX8_advance_94 mvX8_89 (gX8_wordToken E d I_20 hc_21) (by decide) rfl rfl rfl (Nat.le_of_ble_eq_true rfl) ?_
      refine G.putI dX8_advance_97 flX8_28 (by decide) rfl ?_
      refine G.nmI (fun I_23 e_I_23 => ?_)
      have hf := letb_at hf e_I_23
      clear e_I_23
      refine G.goto (tgt := 174) dX8_advance_100 (by decide) ?_
      have hf := Option.some.inj hf
      subst hf
      exact G.vret' dX8_advance_174 rfl hK
  · have hf := ite_f hf c_26
    refine G.aload_n dX8_advance_57 rfl rfl ?_
    refine G.iconst (v := 0) dX8_advance_58 (by decide) ?_
    refine G.putI dX8_advance_59 flX8_28 (by decide) rfl ?_
    refine G.nmI (fun I_25 e_I_25 => ?_)
    have hf := letb_at hf e_I_25
    clear e_I_25
    refine G.goto (tgt := 174) dX8_advance_62 (by decide) ?_
    have hf := Option.some.inj hf
    subst hf
    exact G.vret' dX8_advance_174 rfl hK
def bX8_advance_0 (I : Mem) : Option (Mem ⊕ Mem) :=
  if (I 35 0) ≤ (I 35 4) then
  (inrO (jX8_advance_38 I))
  else
  (chk (inb (I 35 4) 200) <|
  if (I 36 (ix (I 35 4))) = (32 : Int32) then
  (letb (up2 I 35 4 ((I 35 4) + (1 : Int32))) fun I_30 =>
  some (.inl I_30))
  else
  (inrO (jX8_advance_38 I)))
def sX8_advance_0 (q : Mem) : Option (Mem ⊕ Mem) := bX8_advance_0 q
set_option maxRecDepth 20000 in
theorem wX8_advance_0 (E : EV) (d : Nat) (rr : Option Value × Mem) (I : Mem) (y : (Mem ⊕ Mem)) (hf : bX8_advance_0 I = some y) (hK : (KX8_advance_0 E d rr  (fun (z : Mem) => ((none : Option Value), z) = rr)) y) : G E (d + 6) kX8_advance 0 [some (.ref 35)] [] I rr := by
  unfold bX8_advance_0 at hf
  refine G.aload_n dX8_advance_0 rfl rfl ?_
  refine G.getI dX8_advance_1 flX8_19 (by decide) rfl ?_
  refine G.aload_n dX8_advance_4 rfl rfl ?_
  refine G.getI dX8_advance_5 flX8_15 (by decide) rfl ?_
  refine G.icmp_ge (tgt := 38) dX8_advance_8 (by decide) (fun c_32 => ?_) (fun c_32 => ?_)
  · have hf := ite_t hf c_32
    obtain ⟨z_27, hz_27, rfl⟩ := inrO_at hf
    have hf := hz_27
    exact tX8_advance_38 E d rr I _ hf hK
  · have hf := ite_f hf c_32
    refine G.aload_n dX8_advance_11 rfl rfl ?_
    refine G.getR (q := 36) dX8_advance_12 flX8_9 (by decide) rfl rfl ?_
    refine G.aload_n dX8_advance_15 rfl rfl ?_
    refine G.getI dX8_advance_16 flX8_19 (by decide) rfl ?_
    obtain ⟨hi_28, hf⟩ := chk_at hf
    refine G.iald' dX8_advance_19 (by decide) rfl rfl hi_28 ?_
    refine G.bipush (v := 32) dX8_advance_20 (by decide) ?_
    refine G.icmp_ne (tgt := 38) dX8_advance_22 (by decide) (fun c_31 => ?_) (fun c_31 => ?_)
    · have hf := ite_f hf c_31
      obtain ⟨z_29, hz_29, rfl⟩ := inrO_at hf
      have hf := hz_29
      exact tX8_advance_38 E d rr I _ hf hK
    · have hf := ite_t hf c_31
      refine G.aload_n dX8_advance_25 rfl rfl ?_
      refine G.dup dX8_advance_26 rfl ?_
      refine G.getI dX8_advance_27 flX8_19 (by decide) rfl ?_
      refine G.iconst (v := 1) dX8_advance_30 (by decide) ?_
      refine G.iadd dX8_advance_31 ?_
      refine G.putI dX8_advance_32 flX8_19 (by decide) rfl ?_
      refine G.nmI (fun I_30 e_I_30 => ?_)
      have hf := letb_at hf e_I_30
      clear e_I_30
      refine G.goto (tgt := 0) dX8_advance_35 (by decide) ?_
      have hf := Option.some.inj hf
      subst hf
      exact hK
theorem lX8_advance_0 (E : EV) (d : Nat) (rr : Option Value × Mem) (z : Mem) (hK : (fun (z : Mem) => ((none : Option Value), z) = rr) z) : ∀ (n : Nat) (q : Mem), iter (sX8_advance_0) n q = some z → G E (d + 6) kX8_advance 0 [some (.ref 35)] [] q rr := by
  intro n
  induction n with
  | zero => intro q h; cases h
  | succ n ih =>
    intro q h
    rcases iter_at h with ⟨q2, hs, h2⟩ | hs
    · exact wX8_advance_0 E d rr q _ hs (ih q2 h2)
    · exact wX8_advance_0 E d rr q _ hs hK
def fX8_advance (I : Mem) : Option Mem :=
  iter (sX8_advance_0) FU I
set_option maxRecDepth 20000 in
theorem gX8_advance (E : EV) (d : Nat) (I : Mem) {J : Mem} (hf : fX8_advance I = some J) : Gm E (d + 6) kX8_advance [.ref 35] I (none, J) := by
  refine (fun (y : Mem) (hf : fX8_advance I = some y) => (?_ : Gm E (d + 6) kX8_advance [.ref 35] I (none, y))) J hf
  refine Gm.of (by decide) rfl (Nat.le_of_ble_eq_true rfl) ?_
  generalize hrr : ((none, y) : Option Value × Mem) = rr
  show G E (d + 6) kX8_advance 0 [some (.ref 35)] [] I rr
  have hK : (fun (z : Mem) => ((none : Option Value), z) = rr) y := hrr
  clear hrr
  unfold fX8_advance at hf
  exact lX8_advance_0 E d rr _ hK FU _ hf
theorem dX8_takeNumber_0 : decode cX8_takeNumber 0 = .ok (.aload_n 0, 1) := by decide +kernel
theorem dX8_takeNumber_1 : decode cX8_takeNumber 1 = .ok (.getfield 22, 3) := by decide +kernel
theorem dX8_takeNumber_4 : decode cX8_takeNumber 4 = .ok (.iconst (-1), 1) := by decide +kernel
theorem dX8_takeNumber_5 : decode cX8_takeNumber 5 = .ok (.if_icmp .eq 5, 3) := by decide +kernel
theorem dX8_takeNumber_8 : decode cX8_takeNumber 8 = .ok (.iload_n 1, 1) := by decide +kernel
theorem dX8_takeNumber_9 : decode cX8_takeNumber 9 = .ok (.ireturn, 1) := by decide +kernel
theorem dX8_takeNumber_10 : decode cX8_takeNumber 10 = .ok (.aload_n 0, 1) := by decide +kernel
theorem dX8_takeNumber_11 : decode cX8_takeNumber 11 = .ok (.invokevirtual 25, 3) := by decide +kernel
theorem dX8_takeNumber_14 : decode cX8_takeNumber 14 = .ok (.aload_n 0, 1) := by decide +kernel
theorem dX8_takeNumber_15 : decode cX8_takeNumber 15 = .ok (.getfield 28, 3) := by decide +kernel
theorem dX8_takeNumber_18 : decode cX8_takeNumber 18 = .ok (.iconst 2, 1) := by decide +kernel
theorem dX8_takeNumber_19 : decode cX8_takeNumber 19 = .ok (.if_icmp .ne 19, 3) := by decide +kernel
theorem dX8_takeNumber_22 : decode cX8_takeNumber 22 = .ok (.aload_n 0, 1) := by decide +kernel
theorem dX8_takeNumber_23 : decode cX8_takeNumber 23 = .ok (.getfield 78, 3) := by decide +kernel
theorem dX8_takeNumber_26 : decode cX8_takeNumber 26 = .ok (.iload_n 1, 1) := by decide +kernel
theorem dX8_takeNumber_27 : decode cX8_takeNumber 27 = .ok (.if_icmp .lt 11, 3) := by decide +kernel
theorem dX8_takeNumber_30 : decode cX8_takeNumber 30 = .ok (.aload_n 0, 1) := by decide +kernel
theorem dX8_takeNumber_31 : decode cX8_takeNumber 31 = .ok (.getfield 78, 3) := by decide +kernel
theorem dX8_takeNumber_34 : decode cX8_takeNumber 34 = .ok (.iload_n 2, 1) := by decide +kernel
theorem dX8_takeNumber_35 : decode cX8_takeNumber 35 = .ok (.if_icmp .le 13, 3) := by decide +kernel
theorem dX8_takeNumber_38 : decode cX8_takeNumber 38 = .ok (.aload_n 0, 1) := by decide +kernel
theorem dX8_takeNumber_39 : decode cX8_takeNumber 39 = .ok (.aload_n 0, 1) := by decide +kernel
theorem dX8_takeNumber_40 : decode cX8_takeNumber 40 = .ok (.getfield 31, 3) := by decide +kernel
theorem dX8_takeNumber_43 : decode cX8_takeNumber 43 = .ok (.putfield 22, 3) := by decide +kernel
theorem dX8_takeNumber_46 : decode cX8_takeNumber 46 = .ok (.iload_n 1, 1) := by decide +kernel
theorem dX8_takeNumber_47 : decode cX8_takeNumber 47 = .ok (.ireturn, 1) := by decide +kernel
theorem dX8_takeNumber_48 : decode cX8_takeNumber 48 = .ok (.aload_n 0, 1) := by decide +kernel
theorem dX8_takeNumber_49 : decode cX8_takeNumber 49 = .ok (.getfield 78, 3) := by decide +kernel
theorem dX8_takeNumber_52 : decode cX8_takeNumber 52 = .ok (.ireturn, 1) := by decide +kernel
def fX8_takeNumber (x1 : Int32) (x2 : Int32) (I : Mem) : Option (Int32 × Mem) :=
  if (I 35 6) = (-1 : Int32) then
  (bnd (fX8_advance I) fun I_2 =>
  if (I_2 35 2) = (2 : Int32) then
  (if (I_2 35 5) < x1 then
  (letb (up2 I_2 35 6 (I_2 35 3)) fun I_4 =>
  some (x1, I_4))
  else
  (if (I_2 35 5) ≤ x2 then
  (some ((I_2 35 5), I_2))
  else
  (letb (up2 I_2 35 6 (I_2 35 3)) fun I_5 =>
  some (x1, I_5))))
  else
  (letb (up2 I_2 35 6 (I_2 35 3)) fun I_3 =>
  some (x1, I_3)))
  else
  (some (x1, I))
set_option maxRecDepth 20000 in
theorem gX8_takeNumber (E : EV) (d : Nat) (x1 : Int32) (x2 : Int32) (I : Mem) {v : Int32} {J : Mem} (hf : fX8_takeNumber x1 x2 I = some (v, J)) : Gm E (d + 7) kX8_takeNumber [.ref 35, .int x1, .int x2] I (some (.int v), J) := by
  refine (fun (y : (Int32 × Mem)) (hf : fX8_takeNumber x1 x2 I = some y) => (?_ : Gm E (d + 7) kX8_takeNumber [.ref 35, .int x1, .int x2] I (some (.int y.1), y.2))) (v, J) hf
  refine Gm.of (by decide) rfl (Nat.le_of_ble_eq_true rfl) ?_
  generalize hrr : ((some (.int y.1), y.2) : Option Value × Mem) = rr
  show G E (d + 7) kX8_takeNumber 0 [some (.ref 35), some (.int x1), some (.int x2)] [] I rr
  have hK : (fun (z : Int32 × Mem) => (some (.int z.1), z.2) = rr) y := hrr
  clear hrr
  unfold fX8_takeNumber at hf
  refine G.aload_n dX8_takeNumber_0 rfl rfl ?_
  refine G.getI dX8_takeNumber_1 flX8_22 (by decide) rfl ?_
  refine G.iconst (v := -1) dX8_takeNumber_4 (by decide) ?_
  refine G.icmp_eq (tgt := 10) dX8_takeNumber_5 (by decide) (fun c_9 => ?_) (fun c_9 => ?_)
  · have hf := ite_t hf c_9
    refine G.aload_n dX8_takeNumber_10 rfl rfl ?_
    obtain ⟨I_2, hc_1, hf⟩ := bnd_at hf
    refine G.callVv (av := []) (rest := []) dX8_takeNumber_11 mvX8_25 (gX8_advance E d I hc_1) (by decide) rfl rfl rfl (Nat.le_of_ble_eq_true rfl) ?_
    refine G.aload_n dX8_takeNumber_14 rfl rfl ?_
    refine G.getI dX8_takeNumber_15 flX8_28 (by decide) rfl ?_
    refine G.iconst (v := 2) dX8_takeNumber_18 (by decide) ?_
    refine G.icmp_ne (tgt := 38) dX8_takeNumber_19 (by decide) (fun c_8 => ?_) (fun c_8 => ?_)
    · have hf := ite_f hf c_8
      refine G.aload_n dX8_takeNumber_38 rfl rfl ?_
      refine G.aload_n dX8_takeNumber_39 rfl rfl ?_
      refine G.getI dX8_takeNumber_40 flX8_31 (by decide) rfl ?_
      refine G.putI dX8_takeNumber_43 flX8_22 (by decide) rfl ?_
      refine G.nmI (fun I_3 e_I_3 => ?_)
      have hf := letb_at hf e_I_3
      clear e_I_3
      refine G.iload_n dX8_takeNumber_46 rfl rfl ?_
      have hf := Option.some.inj hf
      subst hf
      exact G.iret' dX8_takeNumber_47 rfl hK
    · have hf := ite_t hf c_8
      refine G.aload_n dX8_takeNumber_22 rfl rfl ?_
      refine G.getI dX8_takeNumber_23 flX8_78 (by decide) rfl ?_
      refine G.iload_n dX8_takeNumber_26 rfl rfl ?_
      refine G.icmp_lt (tgt := 38) dX8_takeNumber_27 (by decide) (fun c_7 => ?_) (fun c_7 => ?_)
      · have hf := ite_t hf c_7
        refine G.aload_n dX8_takeNumber_38 rfl rfl ?_
        refine G.aload_n dX8_takeNumber_39 rfl rfl ?_
        refine G.getI dX8_takeNumber_40 flX8_31 (by decide) rfl ?_
        refine G.putI dX8_takeNumber_43 flX8_22 (by decide) rfl ?_
        refine G.nmI (fun I_4 e_I_4 => ?_)
        have hf := letb_at hf e_I_4
        clear e_I_4
        refine G.iload_n dX8_takeNumber_46 rfl rfl ?_
        have hf := Option.some.inj hf
        subst hf
        exact G.iret' dX8_takeNumber_47 rfl hK
      · have hf := ite_f hf c_7
        refine G.aload_n dX8_takeNumber_30 rfl rfl ?_
        refine G.getI dX8_takeNumber_31 flX8_78 (by decide) rfl ?_
        refine G.iload_n dX8_takeNumber_34 rfl rfl ?_
        refine G.icmp_le (tgt := 48) dX8_takeNumber_35 (by decide) (fun c_6 => ?_) (fun c_6 => ?_)
        · have hf := ite_t hf c_6
          refine G.aload_n dX8_takeNumber_48 rfl rfl ?_
          refine G.getI dX8_takeNumber_49 flX8_78 (by decide) rfl ?_
          have hf := Option.some.inj hf
          subst hf
          exact G.iret' dX8_takeNumber_52 rfl hK
        · have hf := ite_f hf c_6
          refine G.aload_n dX8_takeNumber_38 rfl rfl ?_
          refine G.aload_n dX8_takeNumber_39 rfl rfl ?_
          refine G.getI dX8_takeNumber_40 flX8_31 (by decide) rfl ?_
          refine G.putI dX8_takeNumber_43 flX8_22 (by decide) rfl ?_
          refine G.nmI (fun I_5 e_I_5 => ?_)
          have hf := letb_at hf e_I_5
          clear e_I_5
          refine G.iload_n dX8_takeNumber_46 rfl rfl ?_
          have hf := Option.some.inj hf
          subst hf
          exact G.iret' dX8_takeNumber_47 rfl hK
  · have hf := ite_f hf c_9
    refine G.iload_n dX8_takeNumber_8 rfl rfl ?_
    have hf := Option.some.inj hf
    subst hf
    exact G.iret' dX8_takeNumber_9 rfl hK
theorem dX8_takeStop_0 : decode cX8_takeStop 0 = .ok (.aload_n 0, 1) := by decide +kernel
theorem dX8_takeStop_1 : decode cX8_takeStop 1 = .ok (.getfield 22, 3) := by decide +kernel
theorem dX8_takeStop_4 : decode cX8_takeStop 4 = .ok (.iconst (-1), 1) := by decide +kernel
theorem dX8_takeStop_5 : decode cX8_takeStop 5 = .ok (.if_icmp .eq 4, 3) := by decide +kernel
theorem dX8_takeStop_8 : decode cX8_takeStop 8 = .ok (.return_, 1) := by decide +kernel
theorem dX8_takeStop_9 : decode cX8_takeStop 9 = .ok (.aload_n 0, 1) := by decide +kernel
theorem dX8_takeStop_10 : decode cX8_takeStop 10 = .ok (.invokevirtual 25, 3) := by decide +kernel
theorem dX8_takeStop_13 : decode cX8_takeStop 13 = .ok (.aload_n 0, 1) := by decide +kernel
theorem dX8_takeStop_14 : decode cX8_takeStop 14 = .ok (.getfield 28, 3) := by decide +kernel
theorem dX8_takeStop_17 : decode cX8_takeStop 17 = .ok (.iconst 3, 1) := by decide +kernel
theorem dX8_takeStop_18 : decode cX8_takeStop 18 = .ok (.if_icmp .eq 11, 3) := by decide +kernel
theorem dX8_takeStop_21 : decode cX8_takeStop 21 = .ok (.aload_n 0, 1) := by decide +kernel
theorem dX8_takeStop_22 : decode cX8_takeStop 22 = .ok (.aload_n 0, 1) := by decide +kernel
theorem dX8_takeStop_23 : decode cX8_takeStop 23 = .ok (.getfield 31, 3) := by decide +kernel
theorem dX8_takeStop_26 : decode cX8_takeStop 26 = .ok (.putfield 22, 3) := by decide +kernel
theorem dX8_takeStop_29 : decode cX8_takeStop 29 = .ok (.return_, 1) := by decide +kernel
def fX8_takeStop (I : Mem) : Option Mem :=
  if (I 35 6) = (-1 : Int32) then
  (bnd (fX8_advance I) fun I_2 =>
  if (I_2 35 2) = (3 : Int32) then
  (some I_2)
  else
  (letb (up2 I_2 35 6 (I_2 35 3)) fun I_3 =>
  some I_3))
  else
  (some I)
set_option maxRecDepth 20000 in
theorem gX8_takeStop (E : EV) (d : Nat) (I : Mem) {J : Mem} (hf : fX8_takeStop I = some J) : Gm E (d + 7) kX8_takeStop [.ref 35] I (none, J) := by
  refine (fun (y : Mem) (hf : fX8_takeStop I = some y) => (?_ : Gm E (d + 7) kX8_takeStop [.ref 35] I (none, y))) J hf
  refine Gm.of (by decide) rfl (Nat.le_of_ble_eq_true rfl) ?_
  generalize hrr : ((none, y) : Option Value × Mem) = rr
  show G E (d + 7) kX8_takeStop 0 [some (.ref 35)] [] I rr
  have hK : (fun (z : Mem) => ((none : Option Value), z) = rr) y := hrr
  clear hrr
  unfold fX8_takeStop at hf
  refine G.aload_n dX8_takeStop_0 rfl rfl ?_
  refine G.getI dX8_takeStop_1 flX8_22 (by decide) rfl ?_
  refine G.iconst (v := -1) dX8_takeStop_4 (by decide) ?_
  refine G.icmp_eq (tgt := 9) dX8_takeStop_5 (by decide) (fun c_5 => ?_) (fun c_5 => ?_)
  · have hf := ite_t hf c_5
    refine G.aload_n dX8_takeStop_9 rfl rfl ?_
    obtain ⟨I_2, hc_1, hf⟩ := bnd_at hf
    refine G.callVv (av := []) (rest := []) dX8_takeStop_10 mvX8_25 (gX8_advance E d I hc_1) (by decide) rfl rfl rfl (Nat.le_of_ble_eq_true rfl) ?_
    refine G.aload_n dX8_takeStop_13 rfl rfl ?_
    refine G.getI dX8_takeStop_14 flX8_28 (by decide) rfl ?_
    refine G.iconst (v := 3) dX8_takeStop_17 (by decide) ?_
    refine G.icmp_eq (tgt := 29) dX8_takeStop_18 (by decide) (fun c_4 => ?_) (fun c_4 => ?_)
    · have hf := ite_t hf c_4
      have hf := Option.some.inj hf
      subst hf
      exact G.vret' dX8_takeStop_29 rfl hK
    · have hf := ite_f hf c_4
      refine G.aload_n dX8_takeStop_21 rfl rfl ?_
      refine G.aload_n dX8_takeStop_22 rfl rfl ?_
      refine G.getI dX8_takeStop_23 flX8_31 (by decide) rfl ?_
      refine G.putI dX8_takeStop_26 flX8_22 (by decide) rfl ?_
      refine G.nmI (fun I_3 e_I_3 => ?_)
      have hf := letb_at hf e_I_3
      clear e_I_3
      have hf := Option.some.inj hf
      subst hf
      exact G.vret' dX8_takeStop_29 rfl hK
  · have hf := ite_f hf c_5
    have hf := Option.some.inj hf
    subst hf
    exact G.vret' dX8_takeStop_8 rfl hK
theorem dX8_takeItem_0 : decode cX8_takeItem 0 = .ok (.aload_n 1, 1) := by decide +kernel
theorem dX8_takeItem_1 : decode cX8_takeItem 1 = .ok (.getfield 51, 3) := by decide +kernel
theorem dX8_takeItem_4 : decode cX8_takeItem 4 = .ok (.iconst 1, 1) := by decide +kernel
theorem dX8_takeItem_5 : decode cX8_takeItem 5 = .ok (.isub, 1) := by decide +kernel
theorem dX8_takeItem_6 : decode cX8_takeItem 6 = .ok (.istore_n 2, 1) := by decide +kernel
theorem dX8_takeItem_7 : decode cX8_takeItem 7 = .ok (.aload_n 0, 1) := by decide +kernel
theorem dX8_takeItem_8 : decode cX8_takeItem 8 = .ok (.getfield 28, 3) := by decide +kernel
theorem dX8_takeItem_11 : decode cX8_takeItem 11 = .ok (.tableswitch 236 5 10 #[37, 103, 123, 149, 181, 223], 37) := by decide +kernel
theorem dX8_takeItem_48 : decode cX8_takeItem 48 = .ok (.aload_n 0, 1) := by decide +kernel
theorem dX8_takeItem_49 : decode cX8_takeItem 49 = .ok (.iconst 0, 1) := by decide +kernel
theorem dX8_takeItem_50 : decode cX8_takeItem 50 = .ok (.iload_n 2, 1) := by decide +kernel
theorem dX8_takeItem_51 : decode cX8_takeItem 51 = .ok (.invokevirtual 34, 3) := by decide +kernel
theorem dX8_takeItem_54 : decode cX8_takeItem 54 = .ok (.istore_n 3, 1) := by decide +kernel
theorem dX8_takeItem_55 : decode cX8_takeItem 55 = .ok (.aload_n 0, 1) := by decide +kernel
theorem dX8_takeItem_56 : decode cX8_takeItem 56 = .ok (.iconst 0, 1) := by decide +kernel
theorem dX8_takeItem_57 : decode cX8_takeItem 57 = .ok (.iload_n 2, 1) := by decide +kernel
theorem dX8_takeItem_58 : decode cX8_takeItem 58 = .ok (.invokevirtual 34, 3) := by decide +kernel
theorem dX8_takeItem_61 : decode cX8_takeItem 61 = .ok (.istore 4, 2) := by decide +kernel
theorem dX8_takeItem_63 : decode cX8_takeItem 63 = .ok (.iload_n 3, 1) := by decide +kernel
theorem dX8_takeItem_64 : decode cX8_takeItem 64 = .ok (.iload 4, 2) := by decide +kernel
theorem dX8_takeItem_66 : decode cX8_takeItem 66 = .ok (.if_icmp .ne 19, 3) := by decide +kernel
theorem dX8_takeItem_69 : decode cX8_takeItem 69 = .ok (.aload_n 0, 1) := by decide +kernel
theorem dX8_takeItem_70 : decode cX8_takeItem 70 = .ok (.getfield 22, 3) := by decide +kernel
theorem dX8_takeItem_73 : decode cX8_takeItem 73 = .ok (.iconst (-1), 1) := by decide +kernel
theorem dX8_takeItem_74 : decode cX8_takeItem 74 = .ok (.if_icmp .ne 11, 3) := by decide +kernel
theorem dX8_takeItem_77 : decode cX8_takeItem 77 = .ok (.aload_n 0, 1) := by decide +kernel
theorem dX8_takeItem_78 : decode cX8_takeItem 78 = .ok (.aload_n 0, 1) := by decide +kernel
theorem dX8_takeItem_79 : decode cX8_takeItem 79 = .ok (.getfield 31, 3) := by decide +kernel
theorem dX8_takeItem_82 : decode cX8_takeItem 82 = .ok (.putfield 22, 3) := by decide +kernel
theorem dX8_takeItem_85 : decode cX8_takeItem 85 = .ok (.aload_n 1, 1) := by decide +kernel
theorem dX8_takeItem_86 : decode cX8_takeItem 86 = .ok (.getfield 54, 3) := by decide +kernel
theorem dX8_takeItem_89 : decode cX8_takeItem 89 = .ok (.iload_n 3, 1) := by decide +kernel
theorem dX8_takeItem_90 : decode cX8_takeItem 90 = .ok (.dup2, 1) := by decide +kernel
theorem dX8_takeItem_91 : decode cX8_takeItem 91 = .ok (.iaload, 1) := by decide +kernel
theorem dX8_takeItem_92 : decode cX8_takeItem 92 = .ok (.iconst 1, 1) := by decide +kernel
theorem dX8_takeItem_93 : decode cX8_takeItem 93 = .ok (.iload 4, 2) := by decide +kernel
theorem dX8_takeItem_95 : decode cX8_takeItem 95 = .ok (.ishl, 1) := by decide +kernel
theorem dX8_takeItem_96 : decode cX8_takeItem 96 = .ok (.ior, 1) := by decide +kernel
theorem dX8_takeItem_97 : decode cX8_takeItem 97 = .ok (.iastore, 1) := by decide +kernel
theorem dX8_takeItem_98 : decode cX8_takeItem 98 = .ok (.aload_n 1, 1) := by decide +kernel
theorem dX8_takeItem_99 : decode cX8_takeItem 99 = .ok (.getfield 54, 3) := by decide +kernel
theorem dX8_takeItem_102 : decode cX8_takeItem 102 = .ok (.iload 4, 2) := by decide +kernel
theorem dX8_takeItem_104 : decode cX8_takeItem 104 = .ok (.dup2, 1) := by decide +kernel
theorem dX8_takeItem_105 : decode cX8_takeItem 105 = .ok (.iaload, 1) := by decide +kernel
theorem dX8_takeItem_106 : decode cX8_takeItem 106 = .ok (.iconst 1, 1) := by decide +kernel
theorem dX8_takeItem_107 : decode cX8_takeItem 107 = .ok (.iload_n 3, 1) := by decide +kernel
theorem dX8_takeItem_108 : decode cX8_takeItem 108 = .ok (.ishl, 1) := by decide +kernel
theorem dX8_takeItem_109 : decode cX8_takeItem 109 = .ok (.ior, 1) := by decide +kernel
theorem dX8_takeItem_110 : decode cX8_takeItem 110 = .ok (.iastore, 1) := by decide +kernel
theorem dX8_takeItem_111 : decode cX8_takeItem 111 = .ok (.goto 144, 3) := by decide +kernel
theorem dX8_takeItem_114 : decode cX8_takeItem 114 = .ok (.aload_n 1, 1) := by decide +kernel
theorem dX8_takeItem_115 : decode cX8_takeItem 115 = .ok (.dup, 1) := by decide +kernel
theorem dX8_takeItem_116 : decode cX8_takeItem 116 = .ok (.getfield 57, 3) := by decide +kernel
theorem dX8_takeItem_119 : decode cX8_takeItem 119 = .ok (.iconst 1, 1) := by decide +kernel
theorem dX8_takeItem_120 : decode cX8_takeItem 120 = .ok (.aload_n 0, 1) := by decide +kernel
theorem dX8_takeItem_121 : decode cX8_takeItem 121 = .ok (.iconst 0, 1) := by decide +kernel
theorem dX8_takeItem_122 : decode cX8_takeItem 122 = .ok (.iload_n 2, 1) := by decide +kernel
theorem dX8_takeItem_123 : decode cX8_takeItem 123 = .ok (.invokevirtual 34, 3) := by decide +kernel
theorem dX8_takeItem_126 : decode cX8_takeItem 126 = .ok (.ishl, 1) := by decide +kernel
theorem dX8_takeItem_127 : decode cX8_takeItem 127 = .ok (.ior, 1) := by decide +kernel
theorem dX8_takeItem_128 : decode cX8_takeItem 128 = .ok (.putfield 57, 3) := by decide +kernel
theorem dX8_takeItem_131 : decode cX8_takeItem 131 = .ok (.goto 124, 3) := by decide +kernel
theorem dX8_takeItem_134 : decode cX8_takeItem 134 = .ok (.aload_n 0, 1) := by decide +kernel
theorem dX8_takeItem_135 : decode cX8_takeItem 135 = .ok (.iconst 0, 1) := by decide +kernel
theorem dX8_takeItem_136 : decode cX8_takeItem 136 = .ok (.iload_n 2, 1) := by decide +kernel
theorem dX8_takeItem_137 : decode cX8_takeItem 137 = .ok (.invokevirtual 34, 3) := by decide +kernel
theorem dX8_takeItem_140 : decode cX8_takeItem 140 = .ok (.istore 5, 2) := by decide +kernel
theorem dX8_takeItem_142 : decode cX8_takeItem 142 = .ok (.aload_n 1, 1) := by decide +kernel
theorem dX8_takeItem_143 : decode cX8_takeItem 143 = .ok (.getfield 60, 3) := by decide +kernel
theorem dX8_takeItem_146 : decode cX8_takeItem 146 = .ok (.iload 5, 2) := by decide +kernel
theorem dX8_takeItem_148 : decode cX8_takeItem 148 = .ok (.aload_n 0, 1) := by decide +kernel
theorem dX8_takeItem_149 : decode cX8_takeItem 149 = .ok (.iconst 0, 1) := by decide +kernel
theorem dX8_takeItem_150 : decode cX8_takeItem 150 = .ok (.sipush 999, 3) := by decide +kernel
theorem dX8_takeItem_153 : decode cX8_takeItem 153 = .ok (.invokevirtual 34, 3) := by decide +kernel
theorem dX8_takeItem_156 : decode cX8_takeItem 156 = .ok (.iastore, 1) := by decide +kernel
theorem dX8_takeItem_157 : decode cX8_takeItem 157 = .ok (.goto 98, 3) := by decide +kernel
theorem dX8_takeItem_160 : decode cX8_takeItem 160 = .ok (.aload_n 1, 1) := by decide +kernel
theorem dX8_takeItem_161 : decode cX8_takeItem 161 = .ok (.getfield 63, 3) := by decide +kernel
theorem dX8_takeItem_164 : decode cX8_takeItem 164 = .ok (.iconst 4, 1) := by decide +kernel
theorem dX8_takeItem_165 : decode cX8_takeItem 165 = .ok (.if_icmp .lt 14, 3) := by decide +kernel
theorem dX8_takeItem_168 : decode cX8_takeItem 168 = .ok (.aload_n 0, 1) := by decide +kernel
theorem dX8_takeItem_169 : decode cX8_takeItem 169 = .ok (.aload_n 0, 1) := by decide +kernel
theorem dX8_takeItem_170 : decode cX8_takeItem 170 = .ok (.getfield 31, 3) := by decide +kernel
theorem dX8_takeItem_173 : decode cX8_takeItem 173 = .ok (.putfield 22, 3) := by decide +kernel
theorem dX8_takeItem_176 : decode cX8_takeItem 176 = .ok (.goto 79, 3) := by decide +kernel
theorem dX8_takeItem_179 : decode cX8_takeItem 179 = .ok (.aload_n 1, 1) := by decide +kernel
theorem dX8_takeItem_180 : decode cX8_takeItem 180 = .ok (.aload_n 0, 1) := by decide +kernel
theorem dX8_takeItem_181 : decode cX8_takeItem 181 = .ok (.iconst 0, 1) := by decide +kernel
theorem dX8_takeItem_182 : decode cX8_takeItem 182 = .ok (.iload_n 2, 1) := by decide +kernel
theorem dX8_takeItem_183 : decode cX8_takeItem 183 = .ok (.invokevirtual 34, 3) := by decide +kernel
theorem dX8_takeItem_186 : decode cX8_takeItem 186 = .ok (.invokevirtual 66, 3) := by decide +kernel
theorem dX8_takeItem_189 : decode cX8_takeItem 189 = .ok (.goto 66, 3) := by decide +kernel
theorem dX8_takeItem_192 : decode cX8_takeItem 192 = .ok (.aload_n 0, 1) := by decide +kernel
theorem dX8_takeItem_193 : decode cX8_takeItem 193 = .ok (.iconst 0, 1) := by decide +kernel
theorem dX8_takeItem_194 : decode cX8_takeItem 194 = .ok (.aload_n 1, 1) := by decide +kernel
theorem dX8_takeItem_195 : decode cX8_takeItem 195 = .ok (.getfield 63, 3) := by decide +kernel
theorem dX8_takeItem_198 : decode cX8_takeItem 198 = .ok (.iconst 1, 1) := by decide +kernel
theorem dX8_takeItem_199 : decode cX8_takeItem 199 = .ok (.isub, 1) := by decide +kernel
theorem dX8_takeItem_200 : decode cX8_takeItem 200 = .ok (.invokevirtual 34, 3) := by decide +kernel
theorem dX8_takeItem_203 : decode cX8_takeItem 203 = .ok (.istore 6, 2) := by decide +kernel
theorem dX8_takeItem_205 : decode cX8_takeItem 205 = .ok (.iload 6, 2) := by decide +kernel
theorem dX8_takeItem_207 : decode cX8_takeItem 207 = .ok (.aload_n 0, 1) := by decide +kernel
theorem dX8_takeItem_208 : decode cX8_takeItem 208 = .ok (.iconst 1, 1) := by decide +kernel
theorem dX8_takeItem_209 : decode cX8_takeItem 209 = .ok (.iconst 4, 1) := by decide +kernel
theorem dX8_takeItem_210 : decode cX8_takeItem 210 = .ok (.invokevirtual 34, 3) := by decide +kernel
theorem dX8_takeItem_213 : decode cX8_takeItem 213 = .ok (.invokestatic 69, 3) := by decide +kernel
theorem dX8_takeItem_216 : decode cX8_takeItem 216 = .ok (.istore 7, 2) := by decide +kernel
theorem dX8_takeItem_218 : decode cX8_takeItem 218 = .ok (.aload_n 1, 1) := by decide +kernel
theorem dX8_takeItem_219 : decode cX8_takeItem 219 = .ok (.getfield 72, 3) := by decide +kernel
theorem dX8_takeItem_222 : decode cX8_takeItem 222 = .ok (.iload 7, 2) := by decide +kernel
theorem dX8_takeItem_224 : decode cX8_takeItem 224 = .ok (.aload_n 0, 1) := by decide +kernel
theorem dX8_takeItem_225 : decode cX8_takeItem 225 = .ok (.iconst 0, 1) := by decide +kernel
theorem dX8_takeItem_226 : decode cX8_takeItem 226 = .ok (.iload_n 2, 1) := by decide +kernel
theorem dX8_takeItem_227 : decode cX8_takeItem 227 = .ok (.invokevirtual 34, 3) := by decide +kernel
theorem dX8_takeItem_230 : decode cX8_takeItem 230 = .ok (.iastore, 1) := by decide +kernel
theorem dX8_takeItem_231 : decode cX8_takeItem 231 = .ok (.goto 24, 3) := by decide +kernel
theorem dX8_takeItem_234 : decode cX8_takeItem 234 = .ok (.aload_n 1, 1) := by decide +kernel
theorem dX8_takeItem_235 : decode cX8_takeItem 235 = .ok (.aload_n 0, 1) := by decide +kernel
theorem dX8_takeItem_236 : decode cX8_takeItem 236 = .ok (.iconst 0, 1) := by decide +kernel
theorem dX8_takeItem_237 : decode cX8_takeItem 237 = .ok (.iconst 4, 1) := by decide +kernel
theorem dX8_takeItem_238 : decode cX8_takeItem 238 = .ok (.invokevirtual 34, 3) := by decide +kernel
theorem dX8_takeItem_241 : decode cX8_takeItem 241 = .ok (.putfield 75, 3) := by decide +kernel
theorem dX8_takeItem_244 : decode cX8_takeItem 244 = .ok (.goto 11, 3) := by decide +kernel
theorem dX8_takeItem_247 : decode cX8_takeItem 247 = .ok (.aload_n 0, 1) := by decide +kernel
theorem dX8_takeItem_248 : decode cX8_takeItem 248 = .ok (.aload_n 0, 1) := by decide +kernel
theorem dX8_takeItem_249 : decode cX8_takeItem 249 = .ok (.getfield 31, 3) := by decide +kernel
theorem dX8_takeItem_252 : decode cX8_takeItem 252 = .ok (.putfield 22, 3) := by decide +kernel
theorem dX8_takeItem_255 : decode cX8_takeItem 255 = .ok (.return_, 1) := by decide +kernel
def jX8_takeItem_85 (b1 : Nat) (x3 : Int32) (x4 : Int32) (I : Mem) : Option Mem :=
  chk (inb x3 5) <|
  chk (inb x3 5) <|
  letb (up2 I (b1 + 1) (ix x3) ((I (b1 + 1) (ix x3)) ||| ((1 : Int32) <<< (x4 &&& 31)))) fun I_11 =>
  chk (inb x4 5) <|
  chk (inb x4 5) <|
  letb (up2 I_11 (b1 + 1) (ix x4) ((I_11 (b1 + 1) (ix x4)) ||| ((1 : Int32) <<< (x3 &&& 31)))) fun I_14 =>
  some I_14
set_option maxRecDepth 20000 in
theorem tX8_takeItem_85 (E : EV) (d : Nat) (rr : Option Value × Mem) (b1 : Nat) (x3 : Int32) (x4 : Int32) (I : Mem) (hb1 : isH b1) (y : Mem) (hf : jX8_takeItem_85 b1 x3 x4 I = some y) (hK : (fun (z : Mem) => ((none : Option Value), z) = rr) y) : G E (d + 8) kX8_takeItem 85 [none, some (.ref b1), none, some (.int x3), some (.int x4), none, none, none] [] I rr := by
  unfold jX8_takeItem_85 at hf
  refine G.aload_n dX8_takeItem_85 rfl rfl ?_
  refine G.getR (q := (b1 + 1)) dX8_takeItem_86 flX8_54 (isH_lt hb1) (isH_lk hb1) (isH_r1 hb1) ?_
  refine G.iload_n dX8_takeItem_89 rfl rfl ?_
  refine G.dup2 dX8_takeItem_90 rfl rfl ?_
  obtain ⟨hi_9, hf⟩ := chk_at hf
  refine G.iald' dX8_takeItem_91 (isH_l1 hb1) (isH_k1 hb1) (isH_n1 hb1) hi_9 ?_
  refine G.iconst (v := 1) dX8_takeItem_92 (by decide) ?_
  refine G.iload dX8_takeItem_93 rfl ?_
  refine G.ishl dX8_takeItem_95 ?_
  refine G.ior dX8_takeItem_96 ?_
  obtain ⟨hi_10, hf⟩ := chk_at hf
  refine G.iast' dX8_takeItem_97 (isH_l1 hb1) (isH_k1 hb1) (isH_n1 hb1) hi_10 ?_
  refine G.nmI (fun I_11 e_I_11 => ?_)
  have hf := letb_at hf e_I_11
  clear e_I_11
  refine G.aload_n dX8_takeItem_98 rfl rfl ?_
  refine G.getR (q := (b1 + 1)) dX8_takeItem_99 flX8_54 (isH_lt hb1) (isH_lk hb1) (isH_r1 hb1) ?_
  refine G.iload dX8_takeItem_102 rfl ?_
  refine G.dup2 dX8_takeItem_104 rfl rfl ?_
  obtain ⟨hi_12, hf⟩ := chk_at hf
  refine G.iald' dX8_takeItem_105 (isH_l1 hb1) (isH_k1 hb1) (isH_n1 hb1) hi_12 ?_
  refine G.iconst (v := 1) dX8_takeItem_106 (by decide) ?_
  refine G.iload_n dX8_takeItem_107 rfl rfl ?_
  refine G.ishl dX8_takeItem_108 ?_
  refine G.ior dX8_takeItem_109 ?_
  obtain ⟨hi_13, hf⟩ := chk_at hf
  refine G.iast' dX8_takeItem_110 (isH_l1 hb1) (isH_k1 hb1) (isH_n1 hb1) hi_13 ?_
  refine G.nmI (fun I_14 e_I_14 => ?_)
  have hf := letb_at hf e_I_14
  clear e_I_14
  refine G.goto (tgt := 255) dX8_takeItem_111 (by decide) ?_
  have hf := Option.some.inj hf
  subst hf
  exact G.vret' dX8_takeItem_255 rfl hK
def fX8_takeItem (b1 : Nat) (I : Mem) : Option Mem :=
  letb ((I b1 0) - (1 : Int32)) fun x2_1 =>
  if (I 35 2) = 5 then
  (bnd2 (fX8_takeNumber (0 : Int32) x2_1 I) fun v_4 I_5 =>
  bnd2 (fX8_takeNumber (0 : Int32) x2_1 I_5) fun v_7 I_8 =>
  if v_4 = v_7 then
  (if (I_8 35 6) = (-1 : Int32) then
  (letb (up2 I_8 35 6 (I_8 35 3)) fun I_15 =>
  jX8_takeItem_85 b1 v_4 v_7 I_15)
  else
  (jX8_takeItem_85 b1 v_4 v_7 I_8))
  else
  (jX8_takeItem_85 b1 v_4 v_7 I_8))
  else
  (if (I 35 2) = 6 then
  (bnd2 (fX8_takeNumber (0 : Int32) x2_1 I) fun v_20 I_21 =>
  letb (up2 I_21 b1 1 ((I b1 1) ||| ((1 : Int32) <<< (v_20 &&& 31)))) fun I_22 =>
  some I_22)
  else
  (if (I 35 2) = 7 then
  (bnd2 (fX8_takeNumber (0 : Int32) x2_1 I) fun v_25 I_26 =>
  bnd2 (fX8_takeNumber (0 : Int32) (999 : Int32) I_26) fun v_28 I_29 =>
  chk (inb v_25 5) <|
  letb (up2 I_29 (b1 + 2) (ix v_25) v_28) fun I_31 =>
  some I_31)
  else
  (if (I 35 2) = 8 then
  (if (I b1 2) < (4 : Int32) then
  (bnd2 (fX8_takeNumber (0 : Int32) x2_1 I) fun v_34 I_35 =>
  bnd (fX4_enter b1 v_34 I_35) fun I_37 =>
  some I_37)
  else
  (letb (up2 I 35 6 (I 35 3)) fun I_38 =>
  some I_38))
  else
  (if (I 35 2) = 9 then
  (bnd2 (fX8_takeNumber (0 : Int32) ((I b1 2) - (1 : Int32)) I) fun v_42 I_43 =>
  bnd2 (fX8_takeNumber (1 : Int32) (4 : Int32) I_43) fun v_45 I_46 =>
  bnd (fX11_wishPlace v_42 v_45 I_46) fun v_48 =>
  bnd2 (fX8_takeNumber (0 : Int32) x2_1 I_46) fun v_50 I_51 =>
  chk (inb v_48 16) <|
  letb (up2 I_51 (b1 + 5) (ix v_48) v_50) fun I_53 =>
  some I_53)
  else
  (if (I 35 2) = 10 then
  (bnd2 (fX8_takeNumber (0 : Int32) (4 : Int32) I) fun v_56 I_57 =>
  letb (up2 I_57 b1 4 v_56) fun I_58 =>
  some I_58)
  else
  (letb (up2 I 35 6 (I 35 3)) fun I_59 =>
  some I_59))))))
set_option maxRecDepth 20000 in
theorem gX8_takeItem (E : EV) (d : Nat) (b1 : Nat) (I : Mem) (hb1 : isH b1) {J : Mem} (hf : fX8_takeItem b1 I = some J) : Gm E (d + 8) kX8_takeItem [.ref 35, .ref b1] I (none, J) := by
  refine (fun (y : Mem) (hf : fX8_takeItem b1 I = some y) => (?_ : Gm E (d + 8) kX8_takeItem [.ref 35, .ref b1] I (none, y))) J hf
  refine Gm.of (by decide) rfl (Nat.le_of_ble_eq_true rfl) ?_
  generalize hrr : ((none, y) : Option Value × Mem) = rr
  show G E (d + 8) kX8_takeItem 0 [some (.ref 35), some (.ref b1), none, none, none, none, none, none] [] I rr
  have hK : (fun (z : Mem) => ((none : Option Value), z) = rr) y := hrr
  clear hrr
  unfold fX8_takeItem at hf
  refine G.aload_n dX8_takeItem_0 rfl rfl ?_
  refine G.getI dX8_takeItem_1 flX8_51 (isH_lt hb1) (isH_lk hb1) ?_
  refine G.iconst (v := 1) dX8_takeItem_4 (by decide) ?_
  refine G.isub dX8_takeItem_5 ?_
  refine G.nmi (fun x2_1 e_x2_1 => ?_)
  have hf := letb_at hf e_x2_1
  clear e_x2_1
  refine G.istore_n (L' := [some (.ref 35), some (.ref b1), some (.int x2_1), none, none, none, none, none]) dX8_takeItem_6 rfl (Nat.le_of_ble_eq_true rfl) (Nat.le_of_ble_eq_true rfl) rfl rfl ?_
  refine G.aload_n dX8_takeItem_7 rfl rfl ?_
  refine G.getI dX8_takeItem_8 flX8_28 (by decide) rfl ?_
  by_cases c_2 : (I 35 2) = 5
  · have hf := ite_t hf c_2
    refine G.tsw_at (j := 5) (tgt := 48) dX8_takeItem_11 c_2 (by decide) (by decide) rfl (by decide) ?_
    refine G.aload_n dX8_takeItem_48 rfl rfl ?_
    refine G.iconst (v := 0) dX8_takeItem_49 (by decide) ?_
    refine G.iload_n dX8_takeItem_50 rfl rfl ?_
    obtain ⟨v_4, I_5, hc_3, hf⟩ := bnd2_at hf
    refine G.callVi (av := [.int (0 : Int32), .int x2_1]) (rest := []) dX8_takeItem_51 mvX8_34 (gX8_takeNumber E d (0 : Int32) x2_1 I hc_3) (by decide) rfl rfl rfl (Nat.le_of_ble_eq_true rfl) ?_
    refine G.istore_n (L' := [some (.ref 35), some (.ref b1), some (.int x2_1), some (.int v_4), none, none, none, none]) dX8_takeItem_54 rfl (Nat.le_of_ble_eq_true rfl) (Nat.le_of_ble_eq_true rfl) rfl rfl ?_
    refine G.aload_n dX8_takeItem_55 rfl rfl ?_
    refine G.iconst (v := 0) dX8_takeItem_56 (by decide) ?_
    refine G.iload_n dX8_takeItem_57 rfl rfl ?_
    obtain ⟨v_7, I_8, hc_6, hf⟩ := bnd2_at hf
    refine G.callVi (av := [.int (0 : Int32), .int x2_1]) (rest := []) dX8_takeItem_58 mvX8_34 (gX8_takeNumber E d (0 : Int32) x2_1 I_5 hc_6) (by decide) rfl rfl rfl (Nat.le_of_ble_eq_true rfl) ?_
    refine G.istore (L' := [some (.ref 35), some (.ref b1), some (.int x2_1), some (.int v_4), some (.int v_7), none, none, none]) dX8_takeItem_61 (Nat.le_of_ble_eq_true rfl) (Nat.le_of_ble_eq_true rfl) rfl rfl ?_
    refine G.iload_n dX8_takeItem_63 rfl rfl ?_
    refine G.iload dX8_takeItem_64 rfl ?_
    refine G.icmp_ne (tgt := 85) dX8_takeItem_66 (by decide) (fun c_17 => ?_) (fun c_17 => ?_)
    · have hf := ite_f hf c_17
      refine G.forget (L' := [none, some (.ref b1), none, some (.int v_4), some (.int v_7), none, none, none]) [0, 2] rfl ?_
      exact tX8_takeItem_85 E d rr b1 v_4 v_7 I_8 hb1 _ hf hK
    · have hf := ite_t hf c_17
      refine G.aload_n dX8_takeItem_69 rfl rfl ?_
      refine G.getI dX8_takeItem_70 flX8_22 (by decide) rfl ?_
      refine G.iconst (v := -1) dX8_takeItem_73 (by decide) ?_
      refine G.icmp_ne (tgt := 85) dX8_takeItem_74 (by decide) (fun c_16 => ?_) (fun c_16 => ?_)
      · have hf := ite_f hf c_16
        refine G.forget (L' := [none, some (.ref b1), none, some (.int v_4), some (.int v_7), none, none, none]) [0, 2] rfl ?_
        exact tX8_takeItem_85 E d rr b1 v_4 v_7 I_8 hb1 _ hf hK
      · have hf := ite_t hf c_16
        refine G.aload_n dX8_takeItem_77 rfl rfl ?_
        refine G.aload_n dX8_takeItem_78 rfl rfl ?_
        refine G.getI dX8_takeItem_79 flX8_31 (by decide) rfl ?_
        refine G.putI dX8_takeItem_82 flX8_22 (by decide) rfl ?_
        refine G.nmI (fun I_15 e_I_15 => ?_)
        have hf := letb_at hf e_I_15
        clear e_I_15
        refine G.forget (L' := [none, some (.ref b1), none, some (.int v_4), some (.int v_7), none, none, none]) [0, 2] rfl ?_
        exact tX8_takeItem_85 E d rr b1 v_4 v_7 I_15 hb1 _ hf hK
  · have hf := ite_f hf c_2
    by_cases c_18 : (I 35 2) = 6
    · have hf := ite_t hf c_18
      refine G.tsw_at (j := 6) (tgt := 114) dX8_takeItem_11 c_18 (by decide) (by decide) rfl (by decide) ?_
      refine G.aload_n dX8_takeItem_114 rfl rfl ?_
      refine G.dup dX8_takeItem_115 rfl ?_
      refine G.getI dX8_takeItem_116 flX8_57 (isH_lt hb1) (isH_lk hb1) ?_
      refine G.iconst (v := 1) dX8_takeItem_119 (by decide) ?_
      refine G.aload_n dX8_takeItem_120 rfl rfl ?_
      refine G.iconst (v := 0) dX8_takeItem_121 (by decide) ?_
      refine G.iload_n dX8_takeItem_122 rfl rfl ?_
      obtain ⟨v_20, I_21, hc_19, hf⟩ := bnd2_at hf
      refine G.callVi (av := [.int (0 : Int32), .int x2_1]) (rest := [.int (1 : Int32), .int (I b1 1), .ref b1]) dX8_takeItem_123 mvX8_34 (gX8_takeNumber E d (0 : Int32) x2_1 I hc_19) (by decide) rfl rfl rfl (Nat.le_of_ble_eq_true rfl) ?_
      refine G.ishl dX8_takeItem_126 ?_
      refine G.ior dX8_takeItem_127 ?_
      refine G.putI dX8_takeItem_128 flX8_57 (isH_lt hb1) (isH_lk hb1) ?_
      refine G.nmI (fun I_22 e_I_22 => ?_)
      have hf := letb_at hf e_I_22
      clear e_I_22
      refine G.goto (tgt := 255) dX8_takeItem_131 (by decide) ?_
      have hf := Option.some.inj hf
      subst hf
      exact G.vret' dX8_takeItem_255 rfl hK
    · have hf := ite_f hf c_18
      by_cases c_23 : (I 35 2) = 7
      · have hf := ite_t hf c_23
        refine G.tsw_at (j := 7) (tgt := 134) dX8_takeItem_11 c_23 (by decide) (by decide) rfl (by decide) ?_
        refine G.aload_n dX8_takeItem_134 rfl rfl ?_
        refine G.iconst (v := 0) dX8_takeItem_135 (by decide) ?_
        refine G.iload_n dX8_takeItem_136 rfl rfl ?_
        obtain ⟨v_25, I_26, hc_24, hf⟩ := bnd2_at hf
        refine G.callVi (av := [.int (0 : Int32), .int x2_1]) (rest := []) dX8_takeItem_137 mvX8_34 (gX8_takeNumber E d (0 : Int32) x2_1 I hc_24) (by decide) rfl rfl rfl (Nat.le_of_ble_eq_true rfl) ?_
        refine G.istore (L' := [some (.ref 35), some (.ref b1), some (.int x2_1), none, none, some (.int v_25), none, none]) dX8_takeItem_140 (Nat.le_of_ble_eq_true rfl) (Nat.le_of_ble_eq_true rfl) rfl rfl ?_
        refine G.aload_n dX8_takeItem_142 rfl rfl ?_
        refine G.getR (q := (b1 + 2)) dX8_takeItem_143 flX8_60 (isH_lt hb1) (isH_lk hb1) (isH_r2 hb1) ?_
        refine G.iload dX8_takeItem_146 rfl ?_
        refine G.aload_n dX8_takeItem_148 rfl rfl ?_
        refine G.iconst (v := 0) dX8_takeItem_149 (by decide) ?_
        refine G.sipush (v := 999) dX8_takeItem_150 (by decide) ?_
        obtain ⟨v_28, I_29, hc_27, hf⟩ := bnd2_at hf
        refine G.callVi (av := [.int (0 : Int32), .int (999 : Int32)]) (rest := [.int v_25, .ref (b1 + 2)]) dX8_takeItem_153 mvX8_34 (gX8_takeNumber E d (0 : Int32) (999 : Int32) I_26 hc_27) (by decide) rfl rfl rfl (Nat.le_of_ble_eq_true rfl) ?_
        obtain ⟨hi_30, hf⟩ := chk_at hf
        refine G.iast' dX8_takeItem_156 (isH_l2 hb1) (isH_k2 hb1) (isH_n2 hb1) hi_30 ?_
        refine G.nmI (fun I_31 e_I_31 => ?_)
        have hf := letb_at hf e_I_31
        clear e_I_31
        refine G.goto (tgt := 255) dX8_takeItem_157 (by decide) ?_
        have hf := Option.some.inj hf
        subst hf
        exact G.vret' dX8_takeItem_255 rfl hK
      · have hf := ite_f hf c_23
        by_cases c_32 : (I 35 2) = 8
        · have hf := ite_t hf c_32
          refine G.tsw_at (j := 8) (tgt := 160) dX8_takeItem_11 c_32 (by decide) (by decide) rfl (by decide) ?_
          refine G.aload_n dX8_takeItem_160 rfl rfl ?_
          refine G.getI dX8_takeItem_161 flX8_63 (isH_lt hb1) (isH_lk hb1) ?_
          refine G.iconst (v := 4) dX8_takeItem_164 (by decide) ?_
          refine G.icmp_lt (tgt := 179) dX8_takeItem_165 (by decide) (fun c_39 => ?_) (fun c_39 => ?_)
          · have hf := ite_t hf c_39
            refine G.aload_n dX8_takeItem_179 rfl rfl ?_
            refine G.aload_n dX8_takeItem_180 rfl rfl ?_
            refine G.iconst (v := 0) dX8_takeItem_181 (by decide) ?_
            refine G.iload_n dX8_takeItem_182 rfl rfl ?_
            obtain ⟨v_34, I_35, hc_33, hf⟩ := bnd2_at hf
            refine G.callVi (av := [.int (0 : Int32), .int x2_1]) (rest := [.ref b1]) dX8_takeItem_183 mvX8_34 (gX8_takeNumber E d (0 : Int32) x2_1 I hc_33) (by decide) rfl rfl rfl (Nat.le_of_ble_eq_true rfl) ?_
            obtain ⟨I_37, hc_36, hf⟩ := bnd_at hf
            refine G.callVv (av := [.int v_34]) (rest := []) dX8_takeItem_186 mvX8_66 (gX4_enter E (d + 7) b1 v_34 I_35 hb1 hc_36) (isH_lt hb1) (isH_lk hb1) rfl rfl (Nat.le_of_ble_eq_true rfl) ?_
            refine G.goto (tgt := 255) dX8_takeItem_189 (by decide) ?_
            have hf := Option.some.inj hf
            subst hf
            exact G.vret' dX8_takeItem_255 rfl hK
          · have hf := ite_f hf c_39
            refine G.aload_n dX8_takeItem_168 rfl rfl ?_
            refine G.aload_n dX8_takeItem_169 rfl rfl ?_
            refine G.getI dX8_takeItem_170 flX8_31 (by decide) rfl ?_
            refine G.putI dX8_takeItem_173 flX8_22 (by decide) rfl ?_
            refine G.nmI (fun I_38 e_I_38 => ?_)
            have hf := letb_at hf e_I_38
            clear e_I_38
            refine G.goto (tgt := 255) dX8_takeItem_176 (by decide) ?_
            have hf := Option.some.inj hf
            subst hf
            exact G.vret' dX8_takeItem_255 rfl hK
        · have hf := ite_f hf c_32
          by_cases c_40 : (I 35 2) = 9
          · have hf := ite_t hf c_40
            refine G.tsw_at (j := 9) (tgt := 192) dX8_takeItem_11 c_40 (by decide) (by decide) rfl (by decide) ?_
            refine G.aload_n dX8_takeItem_192 rfl rfl ?_
            refine G.iconst (v := 0) dX8_takeItem_193 (by decide) ?_
            refine G.aload_n dX8_takeItem_194 rfl rfl ?_
            refine G.getI dX8_takeItem_195 flX8_63 (isH_lt hb1) (isH_lk hb1) ?_
            refine G.iconst (v := 1) dX8_takeItem_198 (by decide) ?_
            refine G.isub dX8_takeItem_199 ?_
            obtain ⟨v_42, I_43, hc_41, hf⟩ := bnd2_at hf
            refine G.callVi (av := [.int (0 : Int32), .int ((I b1 2) - (1 : Int32))]) (rest := []) dX8_takeItem_200 mvX8_34 (gX8_takeNumber E d (0 : Int32) ((I b1 2) - (1 : Int32)) I hc_41) (by decide) rfl rfl rfl (Nat.le_of_ble_eq_true rfl) ?_
            refine G.istore (L' := [some (.ref 35), some (.ref b1), some (.int x2_1), none, none, none, some (.int v_42), none]) dX8_takeItem_203 (Nat.le_of_ble_eq_true rfl) (Nat.le_of_ble_eq_true rfl) rfl rfl ?_
            refine G.iload dX8_takeItem_205 rfl ?_
            refine G.aload_n dX8_takeItem_207 rfl rfl ?_
            refine G.iconst (v := 1) dX8_takeItem_208 (by decide) ?_
            refine G.iconst (v := 4) dX8_takeItem_209 (by decide) ?_
            obtain ⟨v_45, I_46, hc_44, hf⟩ := bnd2_at hf
            refine G.callVi (av := [.int (1 : Int32), .int (4 : Int32)]) (rest := [.int v_42]) dX8_takeItem_210 mvX8_34 (gX8_takeNumber E d (1 : Int32) (4 : Int32) I_43 hc_44) (by decide) rfl rfl rfl (Nat.le_of_ble_eq_true rfl) ?_
            obtain ⟨v_48, hc_47, hf⟩ := bnd_at hf
            refine G.callNi (av := [.int v_42, .int v_45]) (rest := []) dX8_takeItem_213 mnX8_69 (gX11_wishPlace E (d + 7) v_42 v_45 I_46 hc_47) rfl rfl (Nat.le_of_ble_eq_true rfl) ?_
            refine G.istore (L' := [some (.ref 35), some (.ref b1), some (.int x2_1), none, none, none, some (.int v_42), some (.int v_48)]) dX8_takeItem_216 (Nat.le_of_ble_eq_true rfl) (Nat.le_of_ble_eq_true rfl) rfl rfl ?_
            refine G.aload_n dX8_takeItem_218 rfl rfl ?_
            refine G.getR (q := (b1 + 5)) dX8_takeItem_219 flX8_72 (isH_lt hb1) (isH_lk hb1) (isH_r5 hb1) ?_
            refine G.iload dX8_takeItem_222 rfl ?_
            refine G.aload_n dX8_takeItem_224 rfl rfl ?_
            refine G.iconst (v := 0) dX8_takeItem_225 (by decide) ?_
            refine G.iload_n dX8_takeItem_226 rfl rfl ?_
            obtain ⟨v_50, I_51, hc_49, hf⟩ := bnd2_at hf
            refine G.callVi (av := [.int (0 : Int32), .int x2_1]) (rest := [.int v_48, .ref (b1 + 5)]) dX8_takeItem_227 mvX8_34 (gX8_takeNumber E d (0 : Int32) x2_1 I_46 hc_49) (by decide) rfl rfl rfl (Nat.le_of_ble_eq_true rfl) ?_
            obtain ⟨hi_52, hf⟩ := chk_at hf
            refine G.iast' dX8_takeItem_230 (isH_l5 hb1) (isH_k5 hb1) (isH_n5 hb1) hi_52 ?_
            refine G.nmI (fun I_53 e_I_53 => ?_)
            have hf := letb_at hf e_I_53
            clear e_I_53
            refine G.goto (tgt := 255) dX8_takeItem_231 (by decide) ?_
            have hf := Option.some.inj hf
            subst hf
            exact G.vret' dX8_takeItem_255 rfl hK
          · have hf := ite_f hf c_40
            by_cases c_54 : (I 35 2) = 10
            · have hf := ite_t hf c_54
              refine G.tsw_at (j := 10) (tgt := 234) dX8_takeItem_11 c_54 (by decide) (by decide) rfl (by decide) ?_
              refine G.aload_n dX8_takeItem_234 rfl rfl ?_
              refine G.aload_n dX8_takeItem_235 rfl rfl ?_
              refine G.iconst (v := 0) dX8_takeItem_236 (by decide) ?_
              refine G.iconst (v := 4) dX8_takeItem_237 (by decide) ?_
              obtain ⟨v_56, I_57, hc_55, hf⟩ := bnd2_at hf
              refine G.callVi (av := [.int (0 : Int32), .int (4 : Int32)]) (rest := [.ref b1]) dX8_takeItem_238 mvX8_34 (gX8_takeNumber E d (0 : Int32) (4 : Int32) I hc_55) (by decide) rfl rfl rfl (Nat.le_of_ble_eq_true rfl) ?_
              refine G.putI dX8_takeItem_241 flX8_75 (isH_lt hb1) (isH_lk hb1) ?_
              refine G.nmI (fun I_58 e_I_58 => ?_)
              have hf := letb_at hf e_I_58
              clear e_I_58
              refine G.goto (tgt := 255) dX8_takeItem_244 (by decide) ?_
              have hf := Option.some.inj hf
              subst hf
              exact G.vret' dX8_takeItem_255 rfl hK
            · have hf := ite_f hf c_54
              refine G.tsw_out (tgt := 247) dX8_takeItem_11 (by have q5 := lv_neT (a := 5) c_2 rfl; have q6 := lv_neT (a := 6) c_18 rfl; have q7 := lv_neT (a := 7) c_23 rfl; have q8 := lv_neT (a := 8) c_32 rfl; have q9 := lv_neT (a := 9) c_40 rfl; have q10 := lv_neT (a := 10) c_54 rfl; omega) (by decide) ?_
              refine G.aload_n dX8_takeItem_247 rfl rfl ?_
              refine G.aload_n dX8_takeItem_248 rfl rfl ?_
              refine G.getI dX8_takeItem_249 flX8_31 (by decide) rfl ?_
              refine G.putI dX8_takeItem_252 flX8_22 (by decide) rfl ?_
              refine G.nmI (fun I_59 e_I_59 => ?_)
              have hf := letb_at hf e_I_59
              clear e_I_59
              have hf := Option.some.inj hf
              subst hf
              exact G.vret' dX8_takeItem_255 rfl hK
theorem dX8_parse_0 : decode cX8_parse 0 = .ok (.aload_n 0, 1) := by decide +kernel
theorem dX8_parse_1 : decode cX8_parse 1 = .ok (.iconst 0, 1) := by decide +kernel
theorem dX8_parse_2 : decode cX8_parse 2 = .ok (.putfield 19, 3) := by decide +kernel
theorem dX8_parse_5 : decode cX8_parse 5 = .ok (.aload_n 0, 1) := by decide +kernel
theorem dX8_parse_6 : decode cX8_parse 6 = .ok (.iconst (-1), 1) := by decide +kernel
theorem dX8_parse_7 : decode cX8_parse 7 = .ok (.putfield 22, 3) := by decide +kernel
theorem dX8_parse_10 : decode cX8_parse 10 = .ok (.aload_n 0, 1) := by decide +kernel
theorem dX8_parse_11 : decode cX8_parse 11 = .ok (.invokevirtual 25, 3) := by decide +kernel
theorem dX8_parse_14 : decode cX8_parse 14 = .ok (.aload_n 0, 1) := by decide +kernel
theorem dX8_parse_15 : decode cX8_parse 15 = .ok (.getfield 28, 3) := by decide +kernel
theorem dX8_parse_18 : decode cX8_parse 18 = .ok (.iconst 4, 1) := by decide +kernel
theorem dX8_parse_19 : decode cX8_parse 19 = .ok (.if_icmp .eq 8, 3) := by decide +kernel
theorem dX8_parse_22 : decode cX8_parse 22 = .ok (.aload_n 0, 1) := by decide +kernel
theorem dX8_parse_23 : decode cX8_parse 23 = .ok (.getfield 31, 3) := by decide +kernel
theorem dX8_parse_26 : decode cX8_parse 26 = .ok (.ireturn, 1) := by decide +kernel
theorem dX8_parse_27 : decode cX8_parse 27 = .ok (.aload_n 1, 1) := by decide +kernel
theorem dX8_parse_28 : decode cX8_parse 28 = .ok (.aload_n 0, 1) := by decide +kernel
theorem dX8_parse_29 : decode cX8_parse 29 = .ok (.iconst 1, 1) := by decide +kernel
theorem dX8_parse_30 : decode cX8_parse 30 = .ok (.iconst 5, 1) := by decide +kernel
theorem dX8_parse_31 : decode cX8_parse 31 = .ok (.invokevirtual 34, 3) := by decide +kernel
theorem dX8_parse_34 : decode cX8_parse 34 = .ok (.invokevirtual 38, 3) := by decide +kernel
theorem dX8_parse_37 : decode cX8_parse 37 = .ok (.aload_n 0, 1) := by decide +kernel
theorem dX8_parse_38 : decode cX8_parse 38 = .ok (.invokevirtual 44, 3) := by decide +kernel
theorem dX8_parse_41 : decode cX8_parse 41 = .ok (.iconst 0, 1) := by decide +kernel
theorem dX8_parse_42 : decode cX8_parse 42 = .ok (.istore_n 2, 1) := by decide +kernel
theorem dX8_parse_43 : decode cX8_parse 43 = .ok (.iload_n 2, 1) := by decide +kernel
theorem dX8_parse_44 : decode cX8_parse 44 = .ok (.aload_n 0, 1) := by decide +kernel
theorem dX8_parse_45 : decode cX8_parse 45 = .ok (.getfield 15, 3) := by decide +kernel
theorem dX8_parse_48 : decode cX8_parse 48 = .ok (.if_icmp .ge 39, 3) := by decide +kernel
theorem dX8_parse_51 : decode cX8_parse 51 = .ok (.aload_n 0, 1) := by decide +kernel
theorem dX8_parse_52 : decode cX8_parse 52 = .ok (.getfield 22, 3) := by decide +kernel
theorem dX8_parse_55 : decode cX8_parse 55 = .ok (.iconst (-1), 1) := by decide +kernel
theorem dX8_parse_56 : decode cX8_parse 56 = .ok (.if_icmp .ne 31, 3) := by decide +kernel
theorem dX8_parse_59 : decode cX8_parse 59 = .ok (.aload_n 0, 1) := by decide +kernel
theorem dX8_parse_60 : decode cX8_parse 60 = .ok (.invokevirtual 25, 3) := by decide +kernel
theorem dX8_parse_63 : decode cX8_parse 63 = .ok (.aload_n 0, 1) := by decide +kernel
theorem dX8_parse_64 : decode cX8_parse 64 = .ok (.getfield 28, 3) := by decide +kernel
theorem dX8_parse_67 : decode cX8_parse 67 = .ok (.ifCond .ne 5, 3) := by decide +kernel
theorem dX8_parse_70 : decode cX8_parse 70 = .ok (.iconst (-1), 1) := by decide +kernel
theorem dX8_parse_71 : decode cX8_parse 71 = .ok (.ireturn, 1) := by decide +kernel
theorem dX8_parse_72 : decode cX8_parse 72 = .ok (.aload_n 0, 1) := by decide +kernel
theorem dX8_parse_73 : decode cX8_parse 73 = .ok (.aload_n 1, 1) := by decide +kernel
theorem dX8_parse_74 : decode cX8_parse 74 = .ok (.invokevirtual 47, 3) := by decide +kernel
theorem dX8_parse_77 : decode cX8_parse 77 = .ok (.aload_n 0, 1) := by decide +kernel
theorem dX8_parse_78 : decode cX8_parse 78 = .ok (.invokevirtual 44, 3) := by decide +kernel
theorem dX8_parse_81 : decode cX8_parse 81 = .ok (.iinc 2 1, 3) := by decide +kernel
theorem dX8_parse_84 : decode cX8_parse 84 = .ok (.goto (-41), 3) := by decide +kernel
theorem dX8_parse_87 : decode cX8_parse 87 = .ok (.aload_n 0, 1) := by decide +kernel
theorem dX8_parse_88 : decode cX8_parse 88 = .ok (.getfield 22, 3) := by decide +kernel
theorem dX8_parse_91 : decode cX8_parse 91 = .ok (.ireturn, 1) := by decide +kernel
def KX8_parse_43 (E : EV) (d : Nat) (rr : Option Value × Mem) (b1 : Nat) (Kp : (Int32 × Mem) → Prop) : ((Int32 × Mem) ⊕ (Int32 × Mem)) → Prop
  | .inl q => G E (d + 9) kX8_parse 43 [some (.ref 35), some (.ref b1), some (.int q.1)] [] q.2 rr
  | .inr z => Kp z
def bX8_parse_43 (b1 : Nat) (x2 : Int32) (I : Mem) : Option ((Int32 × Mem) ⊕ (Int32 × Mem)) :=
  if (I 35 0) ≤ x2 then
  (some (.inr ((I 35 6), I)))
  else
  (if (I 35 6) = (-1 : Int32) then
  (bnd (fX8_advance I) fun I_13 =>
  if (I_13 35 2) = 0 then
  (some (.inr ((-1 : Int32), I_13)))
  else
  (bnd (fX8_takeItem b1 I_13) fun I_15 =>
  bnd (fX8_takeStop I_15) fun I_17 =>
  some (.inl ((x2 + (1 : Int32)), I_17))))
  else
  (some (.inr ((I 35 6), I))))
def sX8_parse_43 (b1 : Nat) (q : (Int32 × Mem)) : Option ((Int32 × Mem) ⊕ (Int32 × Mem)) := bX8_parse_43 b1 q.1 q.2
set_option maxRecDepth 20000 in
theorem wX8_parse_43 (E : EV) (d : Nat) (rr : Option Value × Mem) (b1 : Nat) (x2 : Int32) (I : Mem) (hb1 : isH b1) (y : ((Int32 × Mem) ⊕ (Int32 × Mem))) (hf : bX8_parse_43 b1 x2 I = some y) (hK : (KX8_parse_43 E d rr b1 (fun (z : Int32 × Mem) => (some (.int z.1), z.2) = rr)) y) : G E (d + 9) kX8_parse 43 [some (.ref 35), some (.ref b1), some (.int x2)] [] I rr := by
  unfold bX8_parse_43 at hf
  refine G.iload_n dX8_parse_43 rfl rfl ?_
  refine G.aload_n dX8_parse_44 rfl rfl ?_
  refine G.getI dX8_parse_45 flX8_15 (by decide) rfl ?_
  refine G.icmp_ge (tgt := 87) dX8_parse_48 (by decide) (fun c_20 => ?_) (fun c_20 => ?_)
  · have hf := ite_t hf c_20
    refine G.aload_n dX8_parse_87 rfl rfl ?_
    refine G.getI dX8_parse_88 flX8_22 (by decide) rfl ?_
    have hf := Option.some.inj hf
    subst hf
    exact G.iret' dX8_parse_91 rfl hK
  · have hf := ite_f hf c_20
    refine G.aload_n dX8_parse_51 rfl rfl ?_
    refine G.getI dX8_parse_52 flX8_22 (by decide) rfl ?_
    refine G.iconst (v := -1) dX8_parse_55 (by decide) ?_
    refine G.icmp_ne (tgt := 87) dX8_parse_56 (by decide) (fun c_19 => ?_) (fun c_19 => ?_)
    · have hf := ite_f hf c_19
      refine G.aload_n dX8_parse_87 rfl rfl ?_
      refine G.getI dX8_parse_88 flX8_22 (by decide) rfl ?_
      have hf := Option.some.inj hf
      subst hf
      exact G.iret' dX8_parse_91 rfl hK
    · have hf := ite_t hf c_19
      refine G.aload_n dX8_parse_59 rfl rfl ?_
      obtain ⟨I_13, hc_12, hf⟩ := bnd_at hf
      refine G.callVv (av := []) (rest := []) dX8_parse_60 mvX8_25 (gX8_advance E (d + 2) I hc_12) (by decide) rfl rfl rfl (Nat.le_of_ble_eq_true rfl) ?_
      refine G.aload_n dX8_parse_63 rfl rfl ?_
      refine G.getI dX8_parse_64 flX8_28 (by decide) rfl ?_
      refine G.if_ne (tgt := 72) dX8_parse_67 (by decide) (fun c_18 => ?_) (fun c_18 => ?_)
      · have hf := ite_f hf c_18
        refine G.aload_n dX8_parse_72 rfl rfl ?_
        refine G.aload_n dX8_parse_73 rfl rfl ?_
        obtain ⟨I_15, hc_14, hf⟩ := bnd_at hf
        refine G.callVv (av := [.ref b1]) (rest := []) dX8_parse_74 mvX8_47 (gX8_takeItem E d b1 I_13 hb1 hc_14) (by decide) rfl rfl rfl (Nat.le_of_ble_eq_true rfl) ?_
        refine G.aload_n dX8_parse_77 rfl rfl ?_
        obtain ⟨I_17, hc_16, hf⟩ := bnd_at hf
        refine G.callVv (av := []) (rest := []) dX8_parse_78 mvX8_44 (gX8_takeStop E (d + 1) I_15 hc_16) (by decide) rfl rfl rfl (Nat.le_of_ble_eq_true rfl) ?_
        refine G.inc (w := 1) (L' := [some (.ref 35), some (.ref b1), some (.int (x2 + (1 : Int32)))]) dX8_parse_81 (by decide) rfl (Nat.le_of_ble_eq_true rfl) rfl rfl ?_
        refine G.goto (tgt := 43) dX8_parse_84 (by decide) ?_
        have hf := Option.some.inj hf
        subst hf
        exact hK
      · have hf := ite_t hf c_18
        refine G.iconst (v := -1) dX8_parse_70 (by decide) ?_
        have hf := Option.some.inj hf
        subst hf
        exact G.iret' dX8_parse_71 rfl hK
theorem lX8_parse_43 (E : EV) (d : Nat) (rr : Option Value × Mem) (b1 : Nat) (hb1 : isH b1) (z : (Int32 × Mem)) (hK : (fun (z : Int32 × Mem) => (some (.int z.1), z.2) = rr) z) : ∀ (n : Nat) (q : (Int32 × Mem)), iter (sX8_parse_43 b1) n q = some z → G E (d + 9) kX8_parse 43 [some (.ref 35), some (.ref b1), some (.int q.1)] [] q.2 rr := by
  intro n
  induction n with
  | zero => intro q h; cases h
  | succ n ih =>
    intro q h
    rcases iter_at h with ⟨q2, hs, h2⟩ | hs
    · exact wX8_parse_43 E d rr b1 q.1 q.2 hb1 _ hs (ih q2 h2)
    · exact wX8_parse_43 E d rr b1 q.1 q.2 hb1 _ hs hK
def fX8_parse (b1 : Nat) (I : Mem) : Option (Int32 × Mem) :=
  letb (up2 I 35 4 (0 : Int32)) fun I_1 =>
  letb (up2 I_1 35 6 (-1 : Int32)) fun I_2 =>
  bnd (fX8_advance I_2) fun I_4 =>
  if (I_4 35 2) = (4 : Int32) then
  (bnd2 (fX8_takeNumber (1 : Int32) (5 : Int32) I_4) fun v_6 I_7 =>
  bnd (fX4_empty b1 v_6 I_7) fun I_9 =>
  bnd (fX8_takeStop I_9) fun I_11 =>
  iter (sX8_parse_43 b1) FU ((0 : Int32), I_11))
  else
  (some ((I_4 35 3), I_4))
set_option maxRecDepth 20000 in
theorem gX8_parse (E : EV) (d : Nat) (b1 : Nat) (I : Mem) (hb1 : isH b1) {v : Int32} {J : Mem} (hf : fX8_parse b1 I = some (v, J)) : Gm E (d + 9) kX8_parse [.ref 35, .ref b1] I (some (.int v), J) := by
  refine (fun (y : (Int32 × Mem)) (hf : fX8_parse b1 I = some y) => (?_ : Gm E (d + 9) kX8_parse [.ref 35, .ref b1] I (some (.int y.1), y.2))) (v, J) hf
  refine Gm.of (by decide) rfl (Nat.le_of_ble_eq_true rfl) ?_
  generalize hrr : ((some (.int y.1), y.2) : Option Value × Mem) = rr
  show G E (d + 9) kX8_parse 0 [some (.ref 35), some (.ref b1), none] [] I rr
  have hK : (fun (z : Int32 × Mem) => (some (.int z.1), z.2) = rr) y := hrr
  clear hrr
  unfold fX8_parse at hf
  refine G.aload_n dX8_parse_0 rfl rfl ?_
  refine G.iconst (v := 0) dX8_parse_1 (by decide) ?_
  refine G.putI dX8_parse_2 flX8_19 (by decide) rfl ?_
  refine G.nmI (fun I_1 e_I_1 => ?_)
  have hf := letb_at hf e_I_1
  clear e_I_1
  refine G.aload_n dX8_parse_5 rfl rfl ?_
  refine G.iconst (v := -1) dX8_parse_6 (by decide) ?_
  refine G.putI dX8_parse_7 flX8_22 (by decide) rfl ?_
  refine G.nmI (fun I_2 e_I_2 => ?_)
  have hf := letb_at hf e_I_2
  clear e_I_2
  refine G.aload_n dX8_parse_10 rfl rfl ?_
  obtain ⟨I_4, hc_3, hf⟩ := bnd_at hf
  refine G.callVv (av := []) (rest := []) dX8_parse_11 mvX8_25 (gX8_advance E (d + 2) I_2 hc_3) (by decide) rfl rfl rfl (Nat.le_of_ble_eq_true rfl) ?_
  refine G.aload_n dX8_parse_14 rfl rfl ?_
  refine G.getI dX8_parse_15 flX8_28 (by decide) rfl ?_
  refine G.iconst (v := 4) dX8_parse_18 (by decide) ?_
  refine G.icmp_eq (tgt := 27) dX8_parse_19 (by decide) (fun c_21 => ?_) (fun c_21 => ?_)
  · have hf := ite_t hf c_21
    refine G.aload_n dX8_parse_27 rfl rfl ?_
    refine G.aload_n dX8_parse_28 rfl rfl ?_
    refine G.iconst (v := 1) dX8_parse_29 (by decide) ?_
    refine G.iconst (v := 5) dX8_parse_30 (by decide) ?_
    obtain ⟨v_6, I_7, hc_5, hf⟩ := bnd2_at hf
    refine G.callVi (av := [.int (1 : Int32), .int (5 : Int32)]) (rest := [.ref b1]) dX8_parse_31 mvX8_34 (gX8_takeNumber E (d + 1) (1 : Int32) (5 : Int32) I_4 hc_5) (by decide) rfl rfl rfl (Nat.le_of_ble_eq_true rfl) ?_
    obtain ⟨I_9, hc_8, hf⟩ := bnd_at hf
    refine G.callVv (av := [.int v_6]) (rest := []) dX8_parse_34 mvX8_38 (gX4_empty E (d + 7) b1 v_6 I_7 hb1 hc_8) (isH_lt hb1) (isH_lk hb1) rfl rfl (Nat.le_of_ble_eq_true rfl) ?_
    refine G.aload_n dX8_parse_37 rfl rfl ?_
    obtain ⟨I_11, hc_10, hf⟩ := bnd_at hf
    refine G.callVv (av := []) (rest := []) dX8_parse_38 mvX8_44 (gX8_takeStop E (d + 1) I_9 hc_10) (by decide) rfl rfl rfl (Nat.le_of_ble_eq_true rfl) ?_
    refine G.iconst (v := 0) dX8_parse_41 (by decide) ?_
    refine G.istore_n (L' := [some (.ref 35), some (.ref b1), some (.int (0 : Int32))]) dX8_parse_42 rfl (Nat.le_of_ble_eq_true rfl) (Nat.le_of_ble_eq_true rfl) rfl rfl ?_
    exact lX8_parse_43 E d rr b1 hb1 _ hK FU _ hf
  · have hf := ite_f hf c_21
    refine G.aload_n dX8_parse_22 rfl rfl ?_
    refine G.getI dX8_parse_23 flX8_31 (by decide) rfl ?_
    have hf := Option.some.inj hf
    subst hf
    exact G.iret' dX8_parse_26 rfl hK
