theorem dX12_in_0 : decode cX12_in 0 = .ok (.lload_n 0, 1) := by decide +kernel
theorem dX12_in_1 : decode cX12_in 1 = .ok (.lload_n 2, 1) := by decide +kernel
theorem dX12_in_2 : decode cX12_in 2 = .ok (.lcmp, 1) := by decide +kernel
theorem dX12_in_3 : decode cX12_in 3 = .ok (.ifCond .lt 14, 3) := by decide +kernel
theorem dX12_in_6 : decode cX12_in 6 = .ok (.lload_n 0, 1) := by decide +kernel
theorem dX12_in_7 : decode cX12_in 7 = .ok (.lload 4, 2) := by decide +kernel
theorem dX12_in_9 : decode cX12_in 9 = .ok (.lcmp, 1) := by decide +kernel
theorem dX12_in_10 : decode cX12_in 10 = .ok (.ifCond .gt 7, 3) := by decide +kernel
theorem dX12_in_13 : decode cX12_in 13 = .ok (.iconst 1, 1) := by decide +kernel
theorem dX12_in_14 : decode cX12_in 14 = .ok (.goto 4, 3) := by decide +kernel
theorem dX12_in_17 : decode cX12_in 17 = .ok (.iconst 0, 1) := by decide +kernel
theorem dX12_in_18 : decode cX12_in 18 = .ok (.ireturn, 1) := by decide +kernel
def fX12_in (l0 : Int64) (l2 : Int64) (l4 : Int64) (I : Mem) : Option Int32 :=
  if (lg_cmp l0 l2) < 0 then
  (some (0 : Int32))
  else
  (if 0 < (lg_cmp l0 l4) then
  (some (0 : Int32))
  else
  (some (1 : Int32)))
set_option maxRecDepth 20000 in
theorem gX12_in (E : EV) (d : Nat) (l0 : Int64) (l2 : Int64) (l4 : Int64) (I : Mem) {v : Int32} (hf : fX12_in l0 l2 l4 I = some v) : Gm E (d + 0) kX12_in [.long l0, .long l2, .long l4] I (some (.int v), I) := by
  refine (fun (y : Int32) (hf : fX12_in l0 l2 l4 I = some y) => (?_ : Gm E (d + 0) kX12_in [.long l0, .long l2, .long l4] I (some (.int y), I))) v hf
  refine Gm.of (by decide) rfl (Nat.le_of_ble_eq_true rfl) ?_
  generalize hrr : ((some (.int y), I) : Option Value × Mem) = rr
  show G E (d + 0) kX12_in 0 [some (.long l0), none, some (.long l2), none, some (.long l4), none] [] I rr
  have hK : (fun (z : Int32) => (some (.int z), I) = rr) y := hrr
  clear hrr
  unfold fX12_in at hf
  refine G.lload_n dX12_in_0 rfl rfl ?_
  refine G.lload_n dX12_in_1 rfl rfl ?_
  refine G.lcmp dX12_in_2 ?_
  refine G.if_lt (tgt := 17) dX12_in_3 (by decide) (fun c_2 => ?_) (fun c_2 => ?_)
  · have hf := ite_t hf c_2
    refine G.iconst (v := 0) dX12_in_17 (by decide) ?_
    have hf := Option.some.inj hf
    subst hf
    exact G.zret' dX12_in_18 rfl (by decide) hK
  · have hf := ite_f hf c_2
    refine G.lload_n dX12_in_6 rfl rfl ?_
    refine G.lload dX12_in_7 rfl ?_
    refine G.lcmp dX12_in_9 ?_
    refine G.if_gt (tgt := 17) dX12_in_10 (by decide) (fun c_1 => ?_) (fun c_1 => ?_)
    · have hf := ite_t hf c_1
      refine G.iconst (v := 0) dX12_in_17 (by decide) ?_
      have hf := Option.some.inj hf
      subst hf
      exact G.zret' dX12_in_18 rfl (by decide) hK
    · have hf := ite_f hf c_1
      refine G.iconst (v := 1) dX12_in_13 (by decide) ?_
      refine G.goto (tgt := 18) dX12_in_14 (by decide) ?_
      have hf := Option.some.inj hf
      subst hf
      exact G.zret' dX12_in_18 rfl (by decide) hK
theorem dX12_has_0 : decode cX12_has 0 = .ok (.iload_n 0, 1) := by decide +kernel
theorem dX12_has_1 : decode cX12_has 1 = .ok (.iload_n 1, 1) := by decide +kernel
theorem dX12_has_2 : decode cX12_has 2 = .ok (.ishr, 1) := by decide +kernel
theorem dX12_has_3 : decode cX12_has 3 = .ok (.iconst 1, 1) := by decide +kernel
theorem dX12_has_4 : decode cX12_has 4 = .ok (.iand, 1) := by decide +kernel
theorem dX12_has_5 : decode cX12_has 5 = .ok (.iconst 1, 1) := by decide +kernel
theorem dX12_has_6 : decode cX12_has 6 = .ok (.if_icmp .ne 7, 3) := by decide +kernel
theorem dX12_has_9 : decode cX12_has 9 = .ok (.iconst 1, 1) := by decide +kernel
theorem dX12_has_10 : decode cX12_has 10 = .ok (.goto 4, 3) := by decide +kernel
theorem dX12_has_13 : decode cX12_has 13 = .ok (.iconst 0, 1) := by decide +kernel
theorem dX12_has_14 : decode cX12_has 14 = .ok (.ireturn, 1) := by decide +kernel
def fX12_has (x0 : Int32) (x1 : Int32) (I : Mem) : Option Int32 :=
  if ((x0 >>> (x1 &&& 31)) &&& (1 : Int32)) = (1 : Int32) then
  (some (1 : Int32))
  else
  (some (0 : Int32))
set_option maxRecDepth 20000 in
theorem gX12_has (E : EV) (d : Nat) (x0 : Int32) (x1 : Int32) (I : Mem) {v : Int32} (hf : fX12_has x0 x1 I = some v) : Gm E (d + 0) kX12_has [.int x0, .int x1] I (some (.int v), I) := by
  refine (fun (y : Int32) (hf : fX12_has x0 x1 I = some y) => (?_ : Gm E (d + 0) kX12_has [.int x0, .int x1] I (some (.int y), I))) v hf
  refine Gm.of (by decide) rfl (Nat.le_of_ble_eq_true rfl) ?_
  generalize hrr : ((some (.int y), I) : Option Value × Mem) = rr
  show G E (d + 0) kX12_has 0 [some (.int x0), some (.int x1)] [] I rr
  have hK : (fun (z : Int32) => (some (.int z), I) = rr) y := hrr
  clear hrr
  unfold fX12_has at hf
  refine G.iload_n dX12_has_0 rfl rfl ?_
  refine G.iload_n dX12_has_1 rfl rfl ?_
  refine G.ishr dX12_has_2 ?_
  refine G.iconst (v := 1) dX12_has_3 (by decide) ?_
  refine G.iand dX12_has_4 ?_
  refine G.iconst (v := 1) dX12_has_5 (by decide) ?_
  refine G.icmp_ne (tgt := 13) dX12_has_6 (by decide) (fun c_1 => ?_) (fun c_1 => ?_)
  · have hf := ite_f hf c_1
    refine G.iconst (v := 0) dX12_has_13 (by decide) ?_
    have hf := Option.some.inj hf
    subst hf
    exact G.zret' dX12_has_14 rfl (by decide) hK
  · have hf := ite_t hf c_1
    refine G.iconst (v := 1) dX12_has_9 (by decide) ?_
    refine G.goto (tgt := 14) dX12_has_10 (by decide) ?_
    have hf := Option.some.inj hf
    subst hf
    exact G.zret' dX12_has_14 rfl (by decide) hK
theorem dX12_bits_0 : decode cX12_bits 0 = .ok (.iconst 0, 1) := by decide +kernel
theorem dX12_bits_1 : decode cX12_bits 1 = .ok (.istore_n 1, 1) := by decide +kernel
theorem dX12_bits_2 : decode cX12_bits 2 = .ok (.iconst 0, 1) := by decide +kernel
theorem dX12_bits_3 : decode cX12_bits 3 = .ok (.istore_n 2, 1) := by decide +kernel
theorem dX12_bits_4 : decode cX12_bits 4 = .ok (.iload_n 2, 1) := by decide +kernel
theorem dX12_bits_5 : decode cX12_bits 5 = .ok (.iconst 5, 1) := by decide +kernel
theorem dX12_bits_6 : decode cX12_bits 6 = .ok (.if_icmp .ge 17, 3) := by decide +kernel
theorem dX12_bits_9 : decode cX12_bits 9 = .ok (.iload_n 1, 1) := by decide +kernel
theorem dX12_bits_10 : decode cX12_bits 10 = .ok (.iload_n 0, 1) := by decide +kernel
theorem dX12_bits_11 : decode cX12_bits 11 = .ok (.iload_n 2, 1) := by decide +kernel
theorem dX12_bits_12 : decode cX12_bits 12 = .ok (.ishr, 1) := by decide +kernel
theorem dX12_bits_13 : decode cX12_bits 13 = .ok (.iconst 1, 1) := by decide +kernel
theorem dX12_bits_14 : decode cX12_bits 14 = .ok (.iand, 1) := by decide +kernel
theorem dX12_bits_15 : decode cX12_bits 15 = .ok (.iadd, 1) := by decide +kernel
theorem dX12_bits_16 : decode cX12_bits 16 = .ok (.istore_n 1, 1) := by decide +kernel
theorem dX12_bits_17 : decode cX12_bits 17 = .ok (.iinc 2 1, 3) := by decide +kernel
theorem dX12_bits_20 : decode cX12_bits 20 = .ok (.goto (-16), 3) := by decide +kernel
theorem dX12_bits_23 : decode cX12_bits 23 = .ok (.iload_n 1, 1) := by decide +kernel
theorem dX12_bits_24 : decode cX12_bits 24 = .ok (.ireturn, 1) := by decide +kernel
def KX12_bits_4 (E : EV) (d : Nat) (rr : Option Value × Mem) (x0 : Int32) (I : Mem) (Kp : Int32 → Prop) : ((Int32 × Int32) ⊕ Int32) → Prop
  | .inl q => G E (d + 0) kX12_bits 4 [some (.int x0), some (.int q.1), some (.int q.2)] [] I rr
  | .inr z => Kp z
def bX12_bits_4 (x0 : Int32) (I : Mem) (x1 : Int32) (x2 : Int32) : Option ((Int32 × Int32) ⊕ Int32) :=
  if (5 : Int32) ≤ x2 then
  (some (.inr x1))
  else
  (letb (x1 + ((x0 >>> (x2 &&& 31)) &&& (1 : Int32))) fun x1_1 =>
  some (.inl (x1_1, (x2 + (1 : Int32)))))
def sX12_bits_4 (x0 : Int32) (I : Mem) (q : (Int32 × Int32)) : Option ((Int32 × Int32) ⊕ Int32) := bX12_bits_4 x0 I q.1 q.2
set_option maxRecDepth 20000 in
theorem wX12_bits_4 (E : EV) (d : Nat) (rr : Option Value × Mem) (x0 : Int32) (I : Mem) (x1 : Int32) (x2 : Int32) (y : ((Int32 × Int32) ⊕ Int32)) (hf : bX12_bits_4 x0 I x1 x2 = some y) (hK : (KX12_bits_4 E d rr x0 I (fun (z : Int32) => (some (.int z), I) = rr)) y) : G E (d + 0) kX12_bits 4 [some (.int x0), some (.int x1), some (.int x2)] [] I rr := by
  unfold bX12_bits_4 at hf
  refine G.iload_n dX12_bits_4 rfl rfl ?_
  refine G.iconst (v := 5) dX12_bits_5 (by decide) ?_
  refine G.icmp_ge (tgt := 23) dX12_bits_6 (by decide) (fun c_2 => ?_) (fun c_2 => ?_)
  · have hf := ite_t hf c_2
    refine G.iload_n dX12_bits_23 rfl rfl ?_
    have hf := Option.some.inj hf
    subst hf
    exact G.iret' dX12_bits_24 rfl hK
  · have hf := ite_f hf c_2
    refine G.iload_n dX12_bits_9 rfl rfl ?_
    refine G.iload_n dX12_bits_10 rfl rfl ?_
    refine G.iload_n dX12_bits_11 rfl rfl ?_
    refine G.ishr dX12_bits_12 ?_
    refine G.iconst (v := 1) dX12_bits_13 (by decide) ?_
    refine G.iand dX12_bits_14 ?_
    refine G.iadd dX12_bits_15 ?_
    refine G.nmi (fun x1_1 e_x1_1 => ?_)
    have hf := letb_at hf e_x1_1
    clear e_x1_1
    refine G.istore_n (L' := [some (.int x0), some (.int x1_1), some (.int x2)]) dX12_bits_16 rfl (Nat.le_of_ble_eq_true rfl) (Nat.le_of_ble_eq_true rfl) rfl rfl ?_
    refine G.inc (w := 1) (L' := [some (.int x0), some (.int x1_1), some (.int (x2 + (1 : Int32)))]) dX12_bits_17 (by decide) rfl (Nat.le_of_ble_eq_true rfl) rfl rfl ?_
    refine G.goto (tgt := 4) dX12_bits_20 (by decide) ?_
    have hf := Option.some.inj hf
    subst hf
    exact hK
theorem lX12_bits_4 (E : EV) (d : Nat) (rr : Option Value × Mem) (x0 : Int32) (I : Mem) (z : Int32) (hK : (fun (z : Int32) => (some (.int z), I) = rr) z) : ∀ (n : Nat) (q : (Int32 × Int32)), iter (sX12_bits_4 x0 I) n q = some z → G E (d + 0) kX12_bits 4 [some (.int x0), some (.int q.1), some (.int q.2)] [] I rr := by
  intro n
  induction n with
  | zero => intro q h; cases h
  | succ n ih =>
    intro q h
    rcases iter_at h with ⟨q2, hs, h2⟩ | hs
    · exact wX12_bits_4 E d rr x0 I q.1 q.2 _ hs (ih q2 h2)
    · exact wX12_bits_4 E d rr x0 I q.1 q.2 _ hs hK
def fX12_bits (x0 : Int32) (I : Mem) : Option Int32 :=
  iter (sX12_bits_4 x0 I) FU ((0 : Int32), (0 : Int32))
set_option maxRecDepth 20000 in
theorem gX12_bits (E : EV) (d : Nat) (x0 : Int32) (I : Mem) {v : Int32} (hf : fX12_bits x0 I = some v) : Gm E (d + 0) kX12_bits [.int x0] I (some (.int v), I) := by
  refine (fun (y : Int32) (hf : fX12_bits x0 I = some y) => (?_ : Gm E (d + 0) kX12_bits [.int x0] I (some (.int y), I))) v hf
  refine Gm.of (by decide) rfl (Nat.le_of_ble_eq_true rfl) ?_
  generalize hrr : ((some (.int y), I) : Option Value × Mem) = rr
  show G E (d + 0) kX12_bits 0 [some (.int x0), none, none] [] I rr
  have hK : (fun (z : Int32) => (some (.int z), I) = rr) y := hrr
  clear hrr
  unfold fX12_bits at hf
  refine G.iconst (v := 0) dX12_bits_0 (by decide) ?_
  refine G.istore_n (L' := [some (.int x0), some (.int (0 : Int32)), none]) dX12_bits_1 rfl (Nat.le_of_ble_eq_true rfl) (Nat.le_of_ble_eq_true rfl) rfl rfl ?_
  refine G.iconst (v := 0) dX12_bits_2 (by decide) ?_
  refine G.istore_n (L' := [some (.int x0), some (.int (0 : Int32)), some (.int (0 : Int32))]) dX12_bits_3 rfl (Nat.le_of_ble_eq_true rfl) (Nat.le_of_ble_eq_true rfl) rfl rfl ?_
  exact lX12_bits_4 E d rr x0 I _ hK FU _ hf
theorem dX12_bad_0 : decode cX12_bad 0 = .ok (.aload_n 0, 1) := by decide +kernel
theorem dX12_bad_1 : decode cX12_bad 1 = .ok (.getfield 20, 3) := by decide +kernel
theorem dX12_bad_4 : decode cX12_bad 4 = .ok (.iconst 0, 1) := by decide +kernel
theorem dX12_bad_5 : decode cX12_bad 5 = .ok (.dup2, 1) := by decide +kernel
theorem dX12_bad_6 : decode cX12_bad 6 = .ok (.iaload, 1) := by decide +kernel
theorem dX12_bad_7 : decode cX12_bad 7 = .ok (.iconst 1, 1) := by decide +kernel
theorem dX12_bad_8 : decode cX12_bad 8 = .ok (.iadd, 1) := by decide +kernel
theorem dX12_bad_9 : decode cX12_bad 9 = .ok (.iastore, 1) := by decide +kernel
theorem dX12_bad_10 : decode cX12_bad 10 = .ok (.iload_n 1, 1) := by decide +kernel
theorem dX12_bad_11 : decode cX12_bad 11 = .ok (.ireturn, 1) := by decide +kernel
def fX12_bad (x1 : Int32) (I : Mem) : Option (Int32 × Mem) :=
  chk (inb (0 : Int32) 3) <|
  chk (inb (0 : Int32) 3) <|
  letb (up2 I 78 (ix (0 : Int32)) ((I 78 (ix (0 : Int32))) + (1 : Int32))) fun I_3 =>
  some (x1, I_3)
set_option maxRecDepth 20000 in
theorem gX12_bad (E : EV) (d : Nat) (x1 : Int32) (I : Mem) {v : Int32} {J : Mem} (hf : fX12_bad x1 I = some (v, J)) : Gm E (d + 0) kX12_bad [.ref 74, .int x1] I (some (.int v), J) := by
  refine (fun (y : (Int32 × Mem)) (hf : fX12_bad x1 I = some y) => (?_ : Gm E (d + 0) kX12_bad [.ref 74, .int x1] I (some (.int y.1), y.2))) (v, J) hf
  refine Gm.of (by decide) rfl (Nat.le_of_ble_eq_true rfl) ?_
  generalize hrr : ((some (.int y.1), y.2) : Option Value × Mem) = rr
  show G E (d + 0) kX12_bad 0 [some (.ref 74), some (.int x1)] [] I rr
  have hK : (fun (z : Int32 × Mem) => (some (.int z.1), z.2) = rr) y := hrr
  clear hrr
  unfold fX12_bad at hf
  refine G.aload_n dX12_bad_0 rfl rfl ?_
  refine G.getR (q := 78) dX12_bad_1 flX12_20 (by decide) rfl rfl ?_
  refine G.iconst (v := 0) dX12_bad_4 (by decide) ?_
  refine G.dup2 dX12_bad_5 rfl rfl ?_
  obtain ⟨hi_1, hf⟩ := chk_at hf
  refine G.iald' dX12_bad_6 (by decide) rfl rfl hi_1 ?_
  refine G.iconst (v := 1) dX12_bad_7 (by decide) ?_
  refine G.iadd dX12_bad_8 ?_
  obtain ⟨hi_2, hf⟩ := chk_at hf
  refine G.iast' dX12_bad_9 (by decide) rfl rfl hi_2 ?_
  refine G.nmI (fun I_3 e_I_3 => ?_)
  have hf := letb_at hf e_I_3
  clear e_I_3
  refine G.iload_n dX12_bad_10 rfl rfl ?_
  have hf := Option.some.inj hf
  subst hf
  exact G.iret' dX12_bad_11 rfl hK
theorem dX12_no_0 : decode cX12_no 0 = .ok (.aload_n 0, 1) := by decide +kernel
theorem dX12_no_1 : decode cX12_no 1 = .ok (.getfield 20, 3) := by decide +kernel
theorem dX12_no_4 : decode cX12_no 4 = .ok (.iconst 1, 1) := by decide +kernel
theorem dX12_no_5 : decode cX12_no 5 = .ok (.dup2, 1) := by decide +kernel
theorem dX12_no_6 : decode cX12_no 6 = .ok (.iaload, 1) := by decide +kernel
theorem dX12_no_7 : decode cX12_no 7 = .ok (.iconst 1, 1) := by decide +kernel
theorem dX12_no_8 : decode cX12_no 8 = .ok (.iadd, 1) := by decide +kernel
theorem dX12_no_9 : decode cX12_no 9 = .ok (.iastore, 1) := by decide +kernel
theorem dX12_no_10 : decode cX12_no 10 = .ok (.bipush (-3), 2) := by decide +kernel
theorem dX12_no_12 : decode cX12_no 12 = .ok (.ireturn, 1) := by decide +kernel
def fX12_no (I : Mem) : Option (Int32 × Mem) :=
  chk (inb (1 : Int32) 3) <|
  chk (inb (1 : Int32) 3) <|
  letb (up2 I 78 (ix (1 : Int32)) ((I 78 (ix (1 : Int32))) + (1 : Int32))) fun I_3 =>
  some ((-3 : Int32), I_3)
set_option maxRecDepth 20000 in
theorem gX12_no (E : EV) (d : Nat) (I : Mem) {v : Int32} {J : Mem} (hf : fX12_no I = some (v, J)) : Gm E (d + 0) kX12_no [.ref 74] I (some (.int v), J) := by
  refine (fun (y : (Int32 × Mem)) (hf : fX12_no I = some y) => (?_ : Gm E (d + 0) kX12_no [.ref 74] I (some (.int y.1), y.2))) (v, J) hf
  refine Gm.of (by decide) rfl (Nat.le_of_ble_eq_true rfl) ?_
  generalize hrr : ((some (.int y.1), y.2) : Option Value × Mem) = rr
  show G E (d + 0) kX12_no 0 [some (.ref 74)] [] I rr
  have hK : (fun (z : Int32 × Mem) => (some (.int z.1), z.2) = rr) y := hrr
  clear hrr
  unfold fX12_no at hf
  refine G.aload_n dX12_no_0 rfl rfl ?_
  refine G.getR (q := 78) dX12_no_1 flX12_20 (by decide) rfl rfl ?_
  refine G.iconst (v := 1) dX12_no_4 (by decide) ?_
  refine G.dup2 dX12_no_5 rfl rfl ?_
  obtain ⟨hi_1, hf⟩ := chk_at hf
  refine G.iald' dX12_no_6 (by decide) rfl rfl hi_1 ?_
  refine G.iconst (v := 1) dX12_no_7 (by decide) ?_
  refine G.iadd dX12_no_8 ?_
  obtain ⟨hi_2, hf⟩ := chk_at hf
  refine G.iast' dX12_no_9 (by decide) rfl rfl hi_2 ?_
  refine G.nmI (fun I_3 e_I_3 => ?_)
  have hf := letb_at hf e_I_3
  clear e_I_3
  refine G.bipush (v := -3) dX12_no_10 (by decide) ?_
  have hf := Option.some.inj hf
  subst hf
  exact G.iret' dX12_no_12 rfl hK
theorem dX12_full_0 : decode cX12_full 0 = .ok (.aload_n 0, 1) := by decide +kernel
theorem dX12_full_1 : decode cX12_full 1 = .ok (.getfield 20, 3) := by decide +kernel
theorem dX12_full_4 : decode cX12_full 4 = .ok (.iconst 2, 1) := by decide +kernel
theorem dX12_full_5 : decode cX12_full 5 = .ok (.dup2, 1) := by decide +kernel
theorem dX12_full_6 : decode cX12_full 6 = .ok (.iaload, 1) := by decide +kernel
theorem dX12_full_7 : decode cX12_full 7 = .ok (.iconst 1, 1) := by decide +kernel
theorem dX12_full_8 : decode cX12_full 8 = .ok (.iadd, 1) := by decide +kernel
theorem dX12_full_9 : decode cX12_full 9 = .ok (.iastore, 1) := by decide +kernel
theorem dX12_full_10 : decode cX12_full 10 = .ok (.bipush (-4), 2) := by decide +kernel
theorem dX12_full_12 : decode cX12_full 12 = .ok (.ireturn, 1) := by decide +kernel
def fX12_full (I : Mem) : Option (Int32 × Mem) :=
  chk (inb (2 : Int32) 3) <|
  chk (inb (2 : Int32) 3) <|
  letb (up2 I 78 (ix (2 : Int32)) ((I 78 (ix (2 : Int32))) + (1 : Int32))) fun I_3 =>
  some ((-4 : Int32), I_3)
set_option maxRecDepth 20000 in
theorem gX12_full (E : EV) (d : Nat) (I : Mem) {v : Int32} {J : Mem} (hf : fX12_full I = some (v, J)) : Gm E (d + 0) kX12_full [.ref 74] I (some (.int v), J) := by
  refine (fun (y : (Int32 × Mem)) (hf : fX12_full I = some y) => (?_ : Gm E (d + 0) kX12_full [.ref 74] I (some (.int y.1), y.2))) (v, J) hf
  refine Gm.of (by decide) rfl (Nat.le_of_ble_eq_true rfl) ?_
  generalize hrr : ((some (.int y.1), y.2) : Option Value × Mem) = rr
  show G E (d + 0) kX12_full 0 [some (.ref 74)] [] I rr
  have hK : (fun (z : Int32 × Mem) => (some (.int z.1), z.2) = rr) y := hrr
  clear hrr
  unfold fX12_full at hf
  refine G.aload_n dX12_full_0 rfl rfl ?_
  refine G.getR (q := 78) dX12_full_1 flX12_20 (by decide) rfl rfl ?_
  refine G.iconst (v := 2) dX12_full_4 (by decide) ?_
  refine G.dup2 dX12_full_5 rfl rfl ?_
  obtain ⟨hi_1, hf⟩ := chk_at hf
  refine G.iald' dX12_full_6 (by decide) rfl rfl hi_1 ?_
  refine G.iconst (v := 1) dX12_full_7 (by decide) ?_
  refine G.iadd dX12_full_8 ?_
  obtain ⟨hi_2, hf⟩ := chk_at hf
  refine G.iast' dX12_full_9 (by decide) rfl rfl hi_2 ?_
  refine G.nmI (fun I_3 e_I_3 => ?_)
  have hf := letb_at hf e_I_3
  clear e_I_3
  refine G.bipush (v := -4) dX12_full_10 (by decide) ?_
  have hf := Option.some.inj hf
  subst hf
  exact G.iret' dX12_full_12 rfl hK
theorem dX12_isRoom_0 : decode cX12_isRoom 0 = .ok (.iload_n 1, 1) := by decide +kernel
theorem dX12_isRoom_1 : decode cX12_isRoom 1 = .ok (.i2l, 1) := by decide +kernel
theorem dX12_isRoom_2 : decode cX12_isRoom 2 = .ok (.lconst 0, 1) := by decide +kernel
theorem dX12_isRoom_3 : decode cX12_isRoom 3 = .ok (.aload_n 0, 1) := by decide +kernel
theorem dX12_isRoom_4 : decode cX12_isRoom 4 = .ok (.getfield 7, 3) := by decide +kernel
theorem dX12_isRoom_7 : decode cX12_isRoom 7 = .ok (.iconst 0, 1) := by decide +kernel
theorem dX12_isRoom_8 : decode cX12_isRoom 8 = .ok (.iaload, 1) := by decide +kernel
theorem dX12_isRoom_9 : decode cX12_isRoom 9 = .ok (.iconst 1, 1) := by decide +kernel
theorem dX12_isRoom_10 : decode cX12_isRoom 10 = .ok (.isub, 1) := by decide +kernel
theorem dX12_isRoom_11 : decode cX12_isRoom 11 = .ok (.i2l, 1) := by decide +kernel
theorem dX12_isRoom_12 : decode cX12_isRoom 12 = .ok (.invokestatic 49, 3) := by decide +kernel
theorem dX12_isRoom_15 : decode cX12_isRoom 15 = .ok (.ireturn, 1) := by decide +kernel
def fX12_isRoom (x1 : Int32) (I : Mem) : Option Int32 :=
  chk (inb (0 : Int32) 632) <|
  bnd (fX12_in (Int32.toInt64 x1) (0 : Int64) (Int32.toInt64 ((I 75 (ix (0 : Int32))) - (1 : Int32))) I) fun v_3 =>
  chk (zb v_3) <|
  some v_3
set_option maxRecDepth 20000 in
theorem gX12_isRoom (E : EV) (d : Nat) (x1 : Int32) (I : Mem) {v : Int32} (hf : fX12_isRoom x1 I = some v) : Gm E (d + 1) kX12_isRoom [.ref 74, .int x1] I (some (.int v), I) := by
  refine (fun (y : Int32) (hf : fX12_isRoom x1 I = some y) => (?_ : Gm E (d + 1) kX12_isRoom [.ref 74, .int x1] I (some (.int y), I))) v hf
  refine Gm.of (by decide) rfl (Nat.le_of_ble_eq_true rfl) ?_
  generalize hrr : ((some (.int y), I) : Option Value × Mem) = rr
  show G E (d + 1) kX12_isRoom 0 [some (.ref 74), some (.int x1)] [] I rr
  have hK : (fun (z : Int32) => (some (.int z), I) = rr) y := hrr
  clear hrr
  unfold fX12_isRoom at hf
  refine G.iload_n dX12_isRoom_0 rfl rfl ?_
  refine G.i2l dX12_isRoom_1 ?_
  refine G.lconst (v := 0) dX12_isRoom_2 (by decide) ?_
  refine G.aload_n dX12_isRoom_3 rfl rfl ?_
  refine G.getR (q := 75) dX12_isRoom_4 flX12_7 (by decide) rfl rfl ?_
  refine G.iconst (v := 0) dX12_isRoom_7 (by decide) ?_
  obtain ⟨hi_1, hf⟩ := chk_at hf
  refine G.iald' dX12_isRoom_8 (by decide) rfl rfl hi_1 ?_
  refine G.iconst (v := 1) dX12_isRoom_9 (by decide) ?_
  refine G.isub dX12_isRoom_10 ?_
  refine G.i2l dX12_isRoom_11 ?_
  obtain ⟨v_3, hc_2, hf⟩ := bnd_at hf
  refine G.callSi (av := [.long (Int32.toInt64 x1), .long (0 : Int64), .long (Int32.toInt64 ((I 75 (ix (0 : Int32))) - (1 : Int32)))]) (rest := []) dX12_isRoom_12 msX12_49 (gX12_in E d (Int32.toInt64 x1) (0 : Int64) (Int32.toInt64 ((I 75 (ix (0 : Int32))) - (1 : Int32))) I hc_2) rfl rfl (Nat.le_of_ble_eq_true rfl) ?_
  obtain ⟨hz_4, hf⟩ := chk_at hf
  have hf := Option.some.inj hf
  subst hf
  exact G.zret' dX12_isRoom_15 rfl hz_4 hK
theorem dX12_isPerson_0 : decode cX12_isPerson 0 = .ok (.iload_n 1, 1) := by decide +kernel
theorem dX12_isPerson_1 : decode cX12_isPerson 1 = .ok (.i2l, 1) := by decide +kernel
theorem dX12_isPerson_2 : decode cX12_isPerson 2 = .ok (.lconst 0, 1) := by decide +kernel
theorem dX12_isPerson_3 : decode cX12_isPerson 3 = .ok (.aload_n 0, 1) := by decide +kernel
theorem dX12_isPerson_4 : decode cX12_isPerson 4 = .ok (.getfield 7, 3) := by decide +kernel
theorem dX12_isPerson_7 : decode cX12_isPerson 7 = .ok (.iconst 3, 1) := by decide +kernel
theorem dX12_isPerson_8 : decode cX12_isPerson 8 = .ok (.iaload, 1) := by decide +kernel
theorem dX12_isPerson_9 : decode cX12_isPerson 9 = .ok (.iconst 1, 1) := by decide +kernel
theorem dX12_isPerson_10 : decode cX12_isPerson 10 = .ok (.isub, 1) := by decide +kernel
theorem dX12_isPerson_11 : decode cX12_isPerson 11 = .ok (.i2l, 1) := by decide +kernel
theorem dX12_isPerson_12 : decode cX12_isPerson 12 = .ok (.invokestatic 49, 3) := by decide +kernel
theorem dX12_isPerson_15 : decode cX12_isPerson 15 = .ok (.ireturn, 1) := by decide +kernel
def fX12_isPerson (x1 : Int32) (I : Mem) : Option Int32 :=
  chk (inb (3 : Int32) 632) <|
  bnd (fX12_in (Int32.toInt64 x1) (0 : Int64) (Int32.toInt64 ((I 75 (ix (3 : Int32))) - (1 : Int32))) I) fun v_3 =>
  chk (zb v_3) <|
  some v_3
set_option maxRecDepth 20000 in
theorem gX12_isPerson (E : EV) (d : Nat) (x1 : Int32) (I : Mem) {v : Int32} (hf : fX12_isPerson x1 I = some v) : Gm E (d + 1) kX12_isPerson [.ref 74, .int x1] I (some (.int v), I) := by
  refine (fun (y : Int32) (hf : fX12_isPerson x1 I = some y) => (?_ : Gm E (d + 1) kX12_isPerson [.ref 74, .int x1] I (some (.int y), I))) v hf
  refine Gm.of (by decide) rfl (Nat.le_of_ble_eq_true rfl) ?_
  generalize hrr : ((some (.int y), I) : Option Value × Mem) = rr
  show G E (d + 1) kX12_isPerson 0 [some (.ref 74), some (.int x1)] [] I rr
  have hK : (fun (z : Int32) => (some (.int z), I) = rr) y := hrr
  clear hrr
  unfold fX12_isPerson at hf
  refine G.iload_n dX12_isPerson_0 rfl rfl ?_
  refine G.i2l dX12_isPerson_1 ?_
  refine G.lconst (v := 0) dX12_isPerson_2 (by decide) ?_
  refine G.aload_n dX12_isPerson_3 rfl rfl ?_
  refine G.getR (q := 75) dX12_isPerson_4 flX12_7 (by decide) rfl rfl ?_
  refine G.iconst (v := 3) dX12_isPerson_7 (by decide) ?_
  obtain ⟨hi_1, hf⟩ := chk_at hf
  refine G.iald' dX12_isPerson_8 (by decide) rfl rfl hi_1 ?_
  refine G.iconst (v := 1) dX12_isPerson_9 (by decide) ?_
  refine G.isub dX12_isPerson_10 ?_
  refine G.i2l dX12_isPerson_11 ?_
  obtain ⟨v_3, hc_2, hf⟩ := bnd_at hf
  refine G.callSi (av := [.long (Int32.toInt64 x1), .long (0 : Int64), .long (Int32.toInt64 ((I 75 (ix (3 : Int32))) - (1 : Int32)))]) (rest := []) dX12_isPerson_12 msX12_49 (gX12_in E d (Int32.toInt64 x1) (0 : Int64) (Int32.toInt64 ((I 75 (ix (3 : Int32))) - (1 : Int32))) I hc_2) rfl rfl (Nat.le_of_ble_eq_true rfl) ?_
  obtain ⟨hz_4, hf⟩ := chk_at hf
  have hf := Option.some.inj hf
  subst hf
  exact G.zret' dX12_isPerson_15 rfl hz_4 hK
theorem dX12_clearAll_0 : decode cX12_clearAll 0 = .ok (.iconst 0, 1) := by decide +kernel
theorem dX12_clearAll_1 : decode cX12_clearAll 1 = .ok (.istore_n 2, 1) := by decide +kernel
theorem dX12_clearAll_2 : decode cX12_clearAll 2 = .ok (.iload_n 2, 1) := by decide +kernel
theorem dX12_clearAll_3 : decode cX12_clearAll 3 = .ok (.sipush 158, 3) := by decide +kernel
theorem dX12_clearAll_6 : decode cX12_clearAll 6 = .ok (.if_icmp .ge 34, 3) := by decide +kernel
theorem dX12_clearAll_9 : decode cX12_clearAll 9 = .ok (.aload_n 0, 1) := by decide +kernel
theorem dX12_clearAll_10 : decode cX12_clearAll 10 = .ok (.getfield 7, 3) := by decide +kernel
theorem dX12_clearAll_13 : decode cX12_clearAll 13 = .ok (.iload_n 2, 1) := by decide +kernel
theorem dX12_clearAll_14 : decode cX12_clearAll 14 = .ok (.iload_n 2, 1) := by decide +kernel
theorem dX12_clearAll_15 : decode cX12_clearAll 15 = .ok (.i2l, 1) := by decide +kernel
theorem dX12_clearAll_16 : decode cX12_clearAll 16 = .ok (.ldc2_w 53, 3) := by decide +kernel
theorem dX12_clearAll_19 : decode cX12_clearAll 19 = .ok (.ldc2_w 55, 3) := by decide +kernel
theorem dX12_clearAll_22 : decode cX12_clearAll 22 = .ok (.invokestatic 49, 3) := by decide +kernel
theorem dX12_clearAll_25 : decode cX12_clearAll 25 = .ok (.ifCond .eq 7, 3) := by decide +kernel
theorem dX12_clearAll_28 : decode cX12_clearAll 28 = .ok (.iconst (-1), 1) := by decide +kernel
theorem dX12_clearAll_29 : decode cX12_clearAll 29 = .ok (.goto 4, 3) := by decide +kernel
theorem dX12_clearAll_32 : decode cX12_clearAll 32 = .ok (.iconst 0, 1) := by decide +kernel
theorem dX12_clearAll_33 : decode cX12_clearAll 33 = .ok (.iastore, 1) := by decide +kernel
theorem dX12_clearAll_34 : decode cX12_clearAll 34 = .ok (.iinc 2 1, 3) := by decide +kernel
theorem dX12_clearAll_37 : decode cX12_clearAll 37 = .ok (.goto (-35), 3) := by decide +kernel
theorem dX12_clearAll_40 : decode cX12_clearAll 40 = .ok (.aload_n 0, 1) := by decide +kernel
theorem dX12_clearAll_41 : decode cX12_clearAll 41 = .ok (.getfield 7, 3) := by decide +kernel
theorem dX12_clearAll_44 : decode cX12_clearAll 44 = .ok (.iconst 0, 1) := by decide +kernel
theorem dX12_clearAll_45 : decode cX12_clearAll 45 = .ok (.iload_n 1, 1) := by decide +kernel
theorem dX12_clearAll_46 : decode cX12_clearAll 46 = .ok (.iastore, 1) := by decide +kernel
theorem dX12_clearAll_47 : decode cX12_clearAll 47 = .ok (.return_, 1) := by decide +kernel
def KX12_clearAll_2 (E : EV) (d : Nat) (rr : Option Value × Mem) (x1 : Int32) (Kp : Mem → Prop) : ((Int32 × Mem) ⊕ Mem) → Prop
  | .inl q => G E (d + 1) kX12_clearAll 2 [some (.ref 74), some (.int x1), some (.int q.1)] [] q.2 rr
  | .inr z => Kp z
def bX12_clearAll_2 (x1 : Int32) (x2 : Int32) (I : Mem) : Option ((Int32 × Mem) ⊕ Mem) :=
  if (158 : Int32) ≤ x2 then
  (chk (inb (0 : Int32) 632) <|
  letb (up2 I 75 (ix (0 : Int32)) x1) fun I_2 =>
  some (.inr I_2))
  else
  (bnd (fX12_in (Int32.toInt64 x2) (28 : Int64) (43 : Int64) I) fun v_4 =>
  if v_4 = 0 then
  (chk (inb x2 632) <|
  letb (up2 I 75 (ix x2) (0 : Int32)) fun I_6 =>
  some (.inl ((x2 + (1 : Int32)), I_6)))
  else
  (chk (inb x2 632) <|
  letb (up2 I 75 (ix x2) (-1 : Int32)) fun I_8 =>
  some (.inl ((x2 + (1 : Int32)), I_8))))
def sX12_clearAll_2 (x1 : Int32) (q : (Int32 × Mem)) : Option ((Int32 × Mem) ⊕ Mem) := bX12_clearAll_2 x1 q.1 q.2
set_option maxRecDepth 20000 in
theorem wX12_clearAll_2 (E : EV) (d : Nat) (rr : Option Value × Mem) (x1 : Int32) (x2 : Int32) (I : Mem) (y : ((Int32 × Mem) ⊕ Mem)) (hf : bX12_clearAll_2 x1 x2 I = some y) (hK : (KX12_clearAll_2 E d rr x1 (fun (z : Mem) => ((none : Option Value), z) = rr)) y) : G E (d + 1) kX12_clearAll 2 [some (.ref 74), some (.int x1), some (.int x2)] [] I rr := by
  unfold bX12_clearAll_2 at hf
  refine G.iload_n dX12_clearAll_2 rfl rfl ?_
  refine G.sipush (v := 158) dX12_clearAll_3 (by decide) ?_
  refine G.icmp_ge (tgt := 40) dX12_clearAll_6 (by decide) (fun c_10 => ?_) (fun c_10 => ?_)
  · have hf := ite_t hf c_10
    refine G.aload_n dX12_clearAll_40 rfl rfl ?_
    refine G.getR (q := 75) dX12_clearAll_41 flX12_7 (by decide) rfl rfl ?_
    refine G.iconst (v := 0) dX12_clearAll_44 (by decide) ?_
    refine G.iload_n dX12_clearAll_45 rfl rfl ?_
    obtain ⟨hi_1, hf⟩ := chk_at hf
    refine G.iast' dX12_clearAll_46 (by decide) rfl rfl hi_1 ?_
    refine G.nmI (fun I_2 e_I_2 => ?_)
    have hf := letb_at hf e_I_2
    clear e_I_2
    have hf := Option.some.inj hf
    subst hf
    exact G.vret' dX12_clearAll_47 rfl hK
  · have hf := ite_f hf c_10
    refine G.aload_n dX12_clearAll_9 rfl rfl ?_
    refine G.getR (q := 75) dX12_clearAll_10 flX12_7 (by decide) rfl rfl ?_
    refine G.iload_n dX12_clearAll_13 rfl rfl ?_
    refine G.iload_n dX12_clearAll_14 rfl rfl ?_
    refine G.i2l dX12_clearAll_15 ?_
    refine G.ldc2 (v := 28) dX12_clearAll_16 kcX12_53 ?_
    refine G.ldc2 (v := 43) dX12_clearAll_19 kcX12_55 ?_
    obtain ⟨v_4, hc_3, hf⟩ := bnd_at hf
    refine G.callSi (av := [.long (Int32.toInt64 x2), .long (28 : Int64), .long (43 : Int64)]) (rest := [.int x2, .ref 75]) dX12_clearAll_22 msX12_49 (gX12_in E d (Int32.toInt64 x2) (28 : Int64) (43 : Int64) I hc_3) rfl rfl (Nat.le_of_ble_eq_true rfl) ?_
    refine G.if_eq (tgt := 32) dX12_clearAll_25 (by decide) (fun c_9 => ?_) (fun c_9 => ?_)
    · have hf := ite_t hf c_9
      refine G.iconst (v := 0) dX12_clearAll_32 (by decide) ?_
      obtain ⟨hi_5, hf⟩ := chk_at hf
      refine G.iast' dX12_clearAll_33 (by decide) rfl rfl hi_5 ?_
      refine G.nmI (fun I_6 e_I_6 => ?_)
      have hf := letb_at hf e_I_6
      clear e_I_6
      refine G.inc (w := 1) (L' := [some (.ref 74), some (.int x1), some (.int (x2 + (1 : Int32)))]) dX12_clearAll_34 (by decide) rfl (Nat.le_of_ble_eq_true rfl) rfl rfl ?_
      refine G.goto (tgt := 2) dX12_clearAll_37 (by decide) ?_
      have hf := Option.some.inj hf
      subst hf
      exact hK
    · have hf := ite_f hf c_9
      refine G.iconst (v := -1) dX12_clearAll_28 (by decide) ?_
      refine G.goto (tgt := 33) dX12_clearAll_29 (by decide) ?_
      obtain ⟨hi_7, hf⟩ := chk_at hf
      refine G.iast' dX12_clearAll_33 (by decide) rfl rfl hi_7 ?_
      refine G.nmI (fun I_8 e_I_8 => ?_)
      have hf := letb_at hf e_I_8
      clear e_I_8
      refine G.inc (w := 1) (L' := [some (.ref 74), some (.int x1), some (.int (x2 + (1 : Int32)))]) dX12_clearAll_34 (by decide) rfl (Nat.le_of_ble_eq_true rfl) rfl rfl ?_
      refine G.goto (tgt := 2) dX12_clearAll_37 (by decide) ?_
      have hf := Option.some.inj hf
      subst hf
      exact hK
theorem lX12_clearAll_2 (E : EV) (d : Nat) (rr : Option Value × Mem) (x1 : Int32) (z : Mem) (hK : (fun (z : Mem) => ((none : Option Value), z) = rr) z) : ∀ (n : Nat) (q : (Int32 × Mem)), iter (sX12_clearAll_2 x1) n q = some z → G E (d + 1) kX12_clearAll 2 [some (.ref 74), some (.int x1), some (.int q.1)] [] q.2 rr := by
  intro n
  induction n with
  | zero => intro q h; cases h
  | succ n ih =>
    intro q h
    rcases iter_at h with ⟨q2, hs, h2⟩ | hs
    · exact wX12_clearAll_2 E d rr x1 q.1 q.2 _ hs (ih q2 h2)
    · exact wX12_clearAll_2 E d rr x1 q.1 q.2 _ hs hK
def fX12_clearAll (x1 : Int32) (I : Mem) : Option Mem :=
  iter (sX12_clearAll_2 x1) FU ((0 : Int32), I)
set_option maxRecDepth 20000 in
theorem gX12_clearAll (E : EV) (d : Nat) (x1 : Int32) (I : Mem) {J : Mem} (hf : fX12_clearAll x1 I = some J) : Gm E (d + 1) kX12_clearAll [.ref 74, .int x1] I (none, J) := by
  refine (fun (y : Mem) (hf : fX12_clearAll x1 I = some y) => (?_ : Gm E (d + 1) kX12_clearAll [.ref 74, .int x1] I (none, y))) J hf
  refine Gm.of (by decide) rfl (Nat.le_of_ble_eq_true rfl) ?_
  generalize hrr : ((none, y) : Option Value × Mem) = rr
  show G E (d + 1) kX12_clearAll 0 [some (.ref 74), some (.int x1), none] [] I rr
  have hK : (fun (z : Mem) => ((none : Option Value), z) = rr) y := hrr
  clear hrr
  unfold fX12_clearAll at hf
  refine G.iconst (v := 0) dX12_clearAll_0 (by decide) ?_
  refine G.istore_n (L' := [some (.ref 74), some (.int x1), some (.int (0 : Int32))]) dX12_clearAll_1 rfl (Nat.le_of_ble_eq_true rfl) (Nat.le_of_ble_eq_true rfl) rfl rfl ?_
  exact lX12_clearAll_2 E d rr x1 _ hK FU _ hf
theorem dX12_rooms_0 : decode cX12_rooms 0 = .ok (.iload_n 1, 1) := by decide +kernel
theorem dX12_rooms_1 : decode cX12_rooms 1 = .ok (.i2l, 1) := by decide +kernel
theorem dX12_rooms_2 : decode cX12_rooms 2 = .ok (.lconst 1, 1) := by decide +kernel
theorem dX12_rooms_3 : decode cX12_rooms 3 = .ok (.ldc2_w 57, 3) := by decide +kernel
theorem dX12_rooms_6 : decode cX12_rooms 6 = .ok (.invokestatic 49, 3) := by decide +kernel
theorem dX12_rooms_9 : decode cX12_rooms 9 = .ok (.ifCond .ne 10, 3) := by decide +kernel
theorem dX12_rooms_12 : decode cX12_rooms 12 = .ok (.aload_n 0, 1) := by decide +kernel
theorem dX12_rooms_13 : decode cX12_rooms 13 = .ok (.bipush (-2), 2) := by decide +kernel
theorem dX12_rooms_15 : decode cX12_rooms 15 = .ok (.invokevirtual 59, 3) := by decide +kernel
theorem dX12_rooms_18 : decode cX12_rooms 18 = .ok (.ireturn, 1) := by decide +kernel
theorem dX12_rooms_19 : decode cX12_rooms 19 = .ok (.aload_n 0, 1) := by decide +kernel
theorem dX12_rooms_20 : decode cX12_rooms 20 = .ok (.getfield 7, 3) := by decide +kernel
theorem dX12_rooms_23 : decode cX12_rooms 23 = .ok (.iconst 0, 1) := by decide +kernel
theorem dX12_rooms_24 : decode cX12_rooms 24 = .ok (.iaload, 1) := by decide +kernel
theorem dX12_rooms_25 : decode cX12_rooms 25 = .ok (.istore_n 2, 1) := by decide +kernel
theorem dX12_rooms_26 : decode cX12_rooms 26 = .ok (.aload_n 0, 1) := by decide +kernel
theorem dX12_rooms_27 : decode cX12_rooms 27 = .ok (.iload_n 1, 1) := by decide +kernel
theorem dX12_rooms_28 : decode cX12_rooms 28 = .ok (.invokevirtual 45, 3) := by decide +kernel
theorem dX12_rooms_31 : decode cX12_rooms 31 = .ok (.iload_n 2, 1) := by decide +kernel
theorem dX12_rooms_32 : decode cX12_rooms 32 = .ok (.ireturn, 1) := by decide +kernel
def fX12_rooms (x1 : Int32) (I : Mem) : Option (Int32 × Mem) :=
  bnd (fX12_in (Int32.toInt64 x1) (1 : Int64) (5 : Int64) I) fun v_2 =>
  if v_2 = 0 then
  (bnd2 (fX12_bad (-2 : Int32) I) fun v_8 I_9 =>
  some (v_8, I_9))
  else
  (chk (inb (0 : Int32) 632) <|
  letb (I 75 (ix (0 : Int32))) fun x2_4 =>
  bnd (fX12_clearAll x1 I) fun I_6 =>
  some (x2_4, I_6))
set_option maxRecDepth 20000 in
theorem gX12_rooms (E : EV) (d : Nat) (x1 : Int32) (I : Mem) {v : Int32} {J : Mem} (hf : fX12_rooms x1 I = some (v, J)) : Gm E (d + 2) kX12_rooms [.ref 74, .int x1] I (some (.int v), J) := by
  refine (fun (y : (Int32 × Mem)) (hf : fX12_rooms x1 I = some y) => (?_ : Gm E (d + 2) kX12_rooms [.ref 74, .int x1] I (some (.int y.1), y.2))) (v, J) hf
  refine Gm.of (by decide) rfl (Nat.le_of_ble_eq_true rfl) ?_
  generalize hrr : ((some (.int y.1), y.2) : Option Value × Mem) = rr
  show G E (d + 2) kX12_rooms 0 [some (.ref 74), some (.int x1), none] [] I rr
  have hK : (fun (z : Int32 × Mem) => (some (.int z.1), z.2) = rr) y := hrr
  clear hrr
  unfold fX12_rooms at hf
  refine G.iload_n dX12_rooms_0 rfl rfl ?_
  refine G.i2l dX12_rooms_1 ?_
  refine G.lconst (v := 1) dX12_rooms_2 (by decide) ?_
  refine G.ldc2 (v := 5) dX12_rooms_3 kcX12_57 ?_
  obtain ⟨v_2, hc_1, hf⟩ := bnd_at hf
  refine G.callSi (av := [.long (Int32.toInt64 x1), .long (1 : Int64), .long (5 : Int64)]) (rest := []) dX12_rooms_6 msX12_49 (gX12_in E (d + 1) (Int32.toInt64 x1) (1 : Int64) (5 : Int64) I hc_1) rfl rfl (Nat.le_of_ble_eq_true rfl) ?_
  refine G.if_ne (tgt := 19) dX12_rooms_9 (by decide) (fun c_10 => ?_) (fun c_10 => ?_)
  · have hf := ite_f hf c_10
    refine G.aload_n dX12_rooms_19 rfl rfl ?_
    refine G.getR (q := 75) dX12_rooms_20 flX12_7 (by decide) rfl rfl ?_
    refine G.iconst (v := 0) dX12_rooms_23 (by decide) ?_
    obtain ⟨hi_3, hf⟩ := chk_at hf
    refine G.iald' dX12_rooms_24 (by decide) rfl rfl hi_3 ?_
    refine G.nmi (fun x2_4 e_x2_4 => ?_)
    have hf := letb_at hf e_x2_4
    clear e_x2_4
    refine G.istore_n (L' := [some (.ref 74), some (.int x1), some (.int x2_4)]) dX12_rooms_25 rfl (Nat.le_of_ble_eq_true rfl) (Nat.le_of_ble_eq_true rfl) rfl rfl ?_
    refine G.aload_n dX12_rooms_26 rfl rfl ?_
    refine G.iload_n dX12_rooms_27 rfl rfl ?_
    obtain ⟨I_6, hc_5, hf⟩ := bnd_at hf
    refine G.callVv (av := [.int x1]) (rest := []) dX12_rooms_28 mvX12_45 (gX12_clearAll E d x1 I hc_5) (by decide) rfl rfl rfl (Nat.le_of_ble_eq_true rfl) ?_
    refine G.iload_n dX12_rooms_31 rfl rfl ?_
    have hf := Option.some.inj hf
    subst hf
    exact G.iret' dX12_rooms_32 rfl hK
  · have hf := ite_t hf c_10
    refine G.aload_n dX12_rooms_12 rfl rfl ?_
    refine G.bipush (v := -2) dX12_rooms_13 (by decide) ?_
    obtain ⟨v_8, I_9, hc_7, hf⟩ := bnd2_at hf
    refine G.callVi (av := [.int (-2 : Int32)]) (rest := []) dX12_rooms_15 mvX12_59 (gX12_bad E (d + 1) (-2 : Int32) I hc_7) (by decide) rfl rfl rfl (Nat.le_of_ble_eq_true rfl) ?_
    have hf := Option.some.inj hf
    subst hf
    exact G.iret' dX12_rooms_18 rfl hK
theorem dX12_layDoor_0 : decode cX12_layDoor 0 = .ok (.aload_n 0, 1) := by decide +kernel
theorem dX12_layDoor_1 : decode cX12_layDoor 1 = .ok (.getfield 7, 3) := by decide +kernel
theorem dX12_layDoor_4 : decode cX12_layDoor 4 = .ok (.iconst 5, 1) := by decide +kernel
theorem dX12_layDoor_5 : decode cX12_layDoor 5 = .ok (.iload_n 1, 1) := by decide +kernel
theorem dX12_layDoor_6 : decode cX12_layDoor 6 = .ok (.iadd, 1) := by decide +kernel
theorem dX12_layDoor_7 : decode cX12_layDoor 7 = .ok (.aload_n 0, 1) := by decide +kernel
theorem dX12_layDoor_8 : decode cX12_layDoor 8 = .ok (.getfield 7, 3) := by decide +kernel
theorem dX12_layDoor_11 : decode cX12_layDoor 11 = .ok (.iconst 5, 1) := by decide +kernel
theorem dX12_layDoor_12 : decode cX12_layDoor 12 = .ok (.iload_n 1, 1) := by decide +kernel
theorem dX12_layDoor_13 : decode cX12_layDoor 13 = .ok (.iadd, 1) := by decide +kernel
theorem dX12_layDoor_14 : decode cX12_layDoor 14 = .ok (.iaload, 1) := by decide +kernel
theorem dX12_layDoor_15 : decode cX12_layDoor 15 = .ok (.iconst 1, 1) := by decide +kernel
theorem dX12_layDoor_16 : decode cX12_layDoor 16 = .ok (.iload_n 2, 1) := by decide +kernel
theorem dX12_layDoor_17 : decode cX12_layDoor 17 = .ok (.ishl, 1) := by decide +kernel
theorem dX12_layDoor_18 : decode cX12_layDoor 18 = .ok (.iconst (-1), 1) := by decide +kernel
theorem dX12_layDoor_19 : decode cX12_layDoor 19 = .ok (.ixor, 1) := by decide +kernel
theorem dX12_layDoor_20 : decode cX12_layDoor 20 = .ok (.iand, 1) := by decide +kernel
theorem dX12_layDoor_21 : decode cX12_layDoor 21 = .ok (.iload_n 3, 1) := by decide +kernel
theorem dX12_layDoor_22 : decode cX12_layDoor 22 = .ok (.ifCond .eq 9, 3) := by decide +kernel
theorem dX12_layDoor_25 : decode cX12_layDoor 25 = .ok (.iconst 1, 1) := by decide +kernel
theorem dX12_layDoor_26 : decode cX12_layDoor 26 = .ok (.iload_n 2, 1) := by decide +kernel
theorem dX12_layDoor_27 : decode cX12_layDoor 27 = .ok (.ishl, 1) := by decide +kernel
theorem dX12_layDoor_28 : decode cX12_layDoor 28 = .ok (.goto 4, 3) := by decide +kernel
theorem dX12_layDoor_31 : decode cX12_layDoor 31 = .ok (.iconst 0, 1) := by decide +kernel
theorem dX12_layDoor_32 : decode cX12_layDoor 32 = .ok (.ior, 1) := by decide +kernel
theorem dX12_layDoor_33 : decode cX12_layDoor 33 = .ok (.iastore, 1) := by decide +kernel
theorem dX12_layDoor_34 : decode cX12_layDoor 34 = .ok (.aload_n 0, 1) := by decide +kernel
theorem dX12_layDoor_35 : decode cX12_layDoor 35 = .ok (.getfield 7, 3) := by decide +kernel
theorem dX12_layDoor_38 : decode cX12_layDoor 38 = .ok (.iconst 5, 1) := by decide +kernel
theorem dX12_layDoor_39 : decode cX12_layDoor 39 = .ok (.iload_n 2, 1) := by decide +kernel
theorem dX12_layDoor_40 : decode cX12_layDoor 40 = .ok (.iadd, 1) := by decide +kernel
theorem dX12_layDoor_41 : decode cX12_layDoor 41 = .ok (.aload_n 0, 1) := by decide +kernel
theorem dX12_layDoor_42 : decode cX12_layDoor 42 = .ok (.getfield 7, 3) := by decide +kernel
theorem dX12_layDoor_45 : decode cX12_layDoor 45 = .ok (.iconst 5, 1) := by decide +kernel
theorem dX12_layDoor_46 : decode cX12_layDoor 46 = .ok (.iload_n 2, 1) := by decide +kernel
theorem dX12_layDoor_47 : decode cX12_layDoor 47 = .ok (.iadd, 1) := by decide +kernel
theorem dX12_layDoor_48 : decode cX12_layDoor 48 = .ok (.iaload, 1) := by decide +kernel
theorem dX12_layDoor_49 : decode cX12_layDoor 49 = .ok (.iconst 1, 1) := by decide +kernel
theorem dX12_layDoor_50 : decode cX12_layDoor 50 = .ok (.iload_n 1, 1) := by decide +kernel
theorem dX12_layDoor_51 : decode cX12_layDoor 51 = .ok (.ishl, 1) := by decide +kernel
theorem dX12_layDoor_52 : decode cX12_layDoor 52 = .ok (.iconst (-1), 1) := by decide +kernel
theorem dX12_layDoor_53 : decode cX12_layDoor 53 = .ok (.ixor, 1) := by decide +kernel
theorem dX12_layDoor_54 : decode cX12_layDoor 54 = .ok (.iand, 1) := by decide +kernel
theorem dX12_layDoor_55 : decode cX12_layDoor 55 = .ok (.iload_n 3, 1) := by decide +kernel
theorem dX12_layDoor_56 : decode cX12_layDoor 56 = .ok (.ifCond .eq 9, 3) := by decide +kernel
theorem dX12_layDoor_59 : decode cX12_layDoor 59 = .ok (.iconst 1, 1) := by decide +kernel
theorem dX12_layDoor_60 : decode cX12_layDoor 60 = .ok (.iload_n 1, 1) := by decide +kernel
theorem dX12_layDoor_61 : decode cX12_layDoor 61 = .ok (.ishl, 1) := by decide +kernel
theorem dX12_layDoor_62 : decode cX12_layDoor 62 = .ok (.goto 4, 3) := by decide +kernel
theorem dX12_layDoor_65 : decode cX12_layDoor 65 = .ok (.iconst 0, 1) := by decide +kernel
theorem dX12_layDoor_66 : decode cX12_layDoor 66 = .ok (.ior, 1) := by decide +kernel
theorem dX12_layDoor_67 : decode cX12_layDoor 67 = .ok (.iastore, 1) := by decide +kernel
theorem dX12_layDoor_68 : decode cX12_layDoor 68 = .ok (.return_, 1) := by decide +kernel
def jX12_layDoor_32 (x1 : Int32) (x2 : Int32) (x3 : Int32) (u0 : Int32) (u1 : Int32) (u2 : Int32) (I : Mem) : Option Mem :=
  chk (inb u2 632) <|
  letb (up2 I 75 (ix u2) (u1 ||| u0)) fun I_3 =>
  chk (inb ((5 : Int32) + x2) 632) <|
  if x3 = 0 then
  (chk (inb ((5 : Int32) + x2) 632) <|
  letb (up2 I_3 75 (ix ((5 : Int32) + x2)) (((I_3 75 (ix ((5 : Int32) + x2))) &&& (((1 : Int32) <<< (x1 &&& 31)) ^^^ (-1 : Int32))) ||| (0 : Int32))) fun I_6 =>
  some I_6)
  else
  (chk (inb ((5 : Int32) + x2) 632) <|
  letb (up2 I_3 75 (ix ((5 : Int32) + x2)) (((I_3 75 (ix ((5 : Int32) + x2))) &&& (((1 : Int32) <<< (x1 &&& 31)) ^^^ (-1 : Int32))) ||| ((1 : Int32) <<< (x1 &&& 31)))) fun I_8 =>
  some I_8)
set_option maxRecDepth 20000 in
theorem tX12_layDoor_32 (E : EV) (d : Nat) (rr : Option Value × Mem) (x1 : Int32) (x2 : Int32) (x3 : Int32) (u0 : Int32) (u1 : Int32) (u2 : Int32) (I : Mem) (y : Mem) (hf : jX12_layDoor_32 x1 x2 x3 u0 u1 u2 I = some y) (hK : (fun (z : Mem) => ((none : Option Value), z) = rr) y) : G E (d + 0) kX12_layDoor 32 [some (.ref 74), some (.int x1), some (.int x2), some (.int x3)] [.int u0, .int u1, .int u2, .ref 75] I rr := by
  unfold jX12_layDoor_32 at hf
  refine G.ior dX12_layDoor_32 ?_
  obtain ⟨hi_2, hf⟩ := chk_at hf
  refine G.iast' dX12_layDoor_33 (by decide) rfl rfl hi_2 ?_
  refine G.nmI (fun I_3 e_I_3 => ?_)
  have hf := letb_at hf e_I_3
  clear e_I_3
  refine G.aload_n dX12_layDoor_34 rfl rfl ?_
  refine G.getR (q := 75) dX12_layDoor_35 flX12_7 (by decide) rfl rfl ?_
  refine G.iconst (v := 5) dX12_layDoor_38 (by decide) ?_
  refine G.iload_n dX12_layDoor_39 rfl rfl ?_
  refine G.iadd dX12_layDoor_40 ?_
  refine G.aload_n dX12_layDoor_41 rfl rfl ?_
  refine G.getR (q := 75) dX12_layDoor_42 flX12_7 (by decide) rfl rfl ?_
  refine G.iconst (v := 5) dX12_layDoor_45 (by decide) ?_
  refine G.iload_n dX12_layDoor_46 rfl rfl ?_
  refine G.iadd dX12_layDoor_47 ?_
  obtain ⟨hi_4, hf⟩ := chk_at hf
  refine G.iald' dX12_layDoor_48 (by decide) rfl rfl hi_4 ?_
  refine G.iconst (v := 1) dX12_layDoor_49 (by decide) ?_
  refine G.iload_n dX12_layDoor_50 rfl rfl ?_
  refine G.ishl dX12_layDoor_51 ?_
  refine G.iconst (v := -1) dX12_layDoor_52 (by decide) ?_
  refine G.ixor dX12_layDoor_53 ?_
  refine G.iand dX12_layDoor_54 ?_
  refine G.iload_n dX12_layDoor_55 rfl rfl ?_
  refine G.if_eq (tgt := 65) dX12_layDoor_56 (by decide) (fun c_9 => ?_) (fun c_9 => ?_)
  · have hf := ite_t hf c_9
    refine G.iconst (v := 0) dX12_layDoor_65 (by decide) ?_
    refine G.ior dX12_layDoor_66 ?_
    obtain ⟨hi_5, hf⟩ := chk_at hf
    refine G.iast' dX12_layDoor_67 (by decide) rfl rfl hi_5 ?_
    refine G.nmI (fun I_6 e_I_6 => ?_)
    have hf := letb_at hf e_I_6
    clear e_I_6
    have hf := Option.some.inj hf
    subst hf
    exact G.vret' dX12_layDoor_68 rfl hK
  · have hf := ite_f hf c_9
    refine G.iconst (v := 1) dX12_layDoor_59 (by decide) ?_
    refine G.iload_n dX12_layDoor_60 rfl rfl ?_
    refine G.ishl dX12_layDoor_61 ?_
    refine G.goto (tgt := 66) dX12_layDoor_62 (by decide) ?_
    refine G.ior dX12_layDoor_66 ?_
    obtain ⟨hi_7, hf⟩ := chk_at hf
    refine G.iast' dX12_layDoor_67 (by decide) rfl rfl hi_7 ?_
    refine G.nmI (fun I_8 e_I_8 => ?_)
    have hf := letb_at hf e_I_8
    clear e_I_8
    have hf := Option.some.inj hf
    subst hf
    exact G.vret' dX12_layDoor_68 rfl hK
def fX12_layDoor (x1 : Int32) (x2 : Int32) (x3 : Int32) (I : Mem) : Option Mem :=
  chk (inb ((5 : Int32) + x1) 632) <|
  if x3 = 0 then
  (jX12_layDoor_32 x1 x2 x3 (0 : Int32) ((I 75 (ix ((5 : Int32) + x1))) &&& (((1 : Int32) <<< (x2 &&& 31)) ^^^ (-1 : Int32))) ((5 : Int32) + x1) I)
  else
  (jX12_layDoor_32 x1 x2 x3 ((1 : Int32) <<< (x2 &&& 31)) ((I 75 (ix ((5 : Int32) + x1))) &&& (((1 : Int32) <<< (x2 &&& 31)) ^^^ (-1 : Int32))) ((5 : Int32) + x1) I)
set_option maxRecDepth 20000 in
theorem gX12_layDoor (E : EV) (d : Nat) (x1 : Int32) (x2 : Int32) (x3 : Int32) (I : Mem) {J : Mem} (hf : fX12_layDoor x1 x2 x3 I = some J) : Gm E (d + 0) kX12_layDoor [.ref 74, .int x1, .int x2, .int x3] I (none, J) := by
  refine (fun (y : Mem) (hf : fX12_layDoor x1 x2 x3 I = some y) => (?_ : Gm E (d + 0) kX12_layDoor [.ref 74, .int x1, .int x2, .int x3] I (none, y))) J hf
  refine Gm.of (by decide) rfl (Nat.le_of_ble_eq_true rfl) ?_
  generalize hrr : ((none, y) : Option Value × Mem) = rr
  show G E (d + 0) kX12_layDoor 0 [some (.ref 74), some (.int x1), some (.int x2), some (.int x3)] [] I rr
  have hK : (fun (z : Mem) => ((none : Option Value), z) = rr) y := hrr
  clear hrr
  unfold fX12_layDoor at hf
  refine G.aload_n dX12_layDoor_0 rfl rfl ?_
  refine G.getR (q := 75) dX12_layDoor_1 flX12_7 (by decide) rfl rfl ?_
  refine G.iconst (v := 5) dX12_layDoor_4 (by decide) ?_
  refine G.iload_n dX12_layDoor_5 rfl rfl ?_
  refine G.iadd dX12_layDoor_6 ?_
  refine G.aload_n dX12_layDoor_7 rfl rfl ?_
  refine G.getR (q := 75) dX12_layDoor_8 flX12_7 (by decide) rfl rfl ?_
  refine G.iconst (v := 5) dX12_layDoor_11 (by decide) ?_
  refine G.iload_n dX12_layDoor_12 rfl rfl ?_
  refine G.iadd dX12_layDoor_13 ?_
  obtain ⟨hi_1, hf⟩ := chk_at hf
  refine G.iald' dX12_layDoor_14 (by decide) rfl rfl hi_1 ?_
  refine G.iconst (v := 1) dX12_layDoor_15 (by decide) ?_
  refine G.iload_n dX12_layDoor_16 rfl rfl ?_
  refine G.ishl dX12_layDoor_17 ?_
  refine G.iconst (v := -1) dX12_layDoor_18 (by decide) ?_
  refine G.ixor dX12_layDoor_19 ?_
  refine G.iand dX12_layDoor_20 ?_
  refine G.iload_n dX12_layDoor_21 rfl rfl ?_
  refine G.if_eq (tgt := 31) dX12_layDoor_22 (by decide) (fun c_10 => ?_) (fun c_10 => ?_)
  · have hf := ite_t hf c_10
    refine G.iconst (v := 0) dX12_layDoor_31 (by decide) ?_
    exact tX12_layDoor_32 E d rr x1 x2 x3 (0 : Int32) ((I 75 (ix ((5 : Int32) + x1))) &&& (((1 : Int32) <<< (x2 &&& 31)) ^^^ (-1 : Int32))) ((5 : Int32) + x1) I _ hf hK
  · have hf := ite_f hf c_10
    refine G.iconst (v := 1) dX12_layDoor_25 (by decide) ?_
    refine G.iload_n dX12_layDoor_26 rfl rfl ?_
    refine G.ishl dX12_layDoor_27 ?_
    refine G.goto (tgt := 32) dX12_layDoor_28 (by decide) ?_
    exact tX12_layDoor_32 E d rr x1 x2 x3 ((1 : Int32) <<< (x2 &&& 31)) ((I 75 (ix ((5 : Int32) + x1))) &&& (((1 : Int32) <<< (x2 &&& 31)) ^^^ (-1 : Int32))) ((5 : Int32) + x1) I _ hf hK
theorem dX12_door_0 : decode cX12_door 0 = .ok (.aload_n 0, 1) := by decide +kernel
theorem dX12_door_1 : decode cX12_door 1 = .ok (.iload_n 1, 1) := by decide +kernel
theorem dX12_door_2 : decode cX12_door 2 = .ok (.invokevirtual 63, 3) := by decide +kernel
theorem dX12_door_5 : decode cX12_door 5 = .ok (.ifCond .eq 16, 3) := by decide +kernel
theorem dX12_door_8 : decode cX12_door 8 = .ok (.aload_n 0, 1) := by decide +kernel
theorem dX12_door_9 : decode cX12_door 9 = .ok (.iload_n 2, 1) := by decide +kernel
theorem dX12_door_10 : decode cX12_door 10 = .ok (.invokevirtual 63, 3) := by decide +kernel
theorem dX12_door_13 : decode cX12_door 13 = .ok (.ifCond .eq 8, 3) := by decide +kernel
theorem dX12_door_16 : decode cX12_door 16 = .ok (.iload_n 1, 1) := by decide +kernel
theorem dX12_door_17 : decode cX12_door 17 = .ok (.iload_n 2, 1) := by decide +kernel
theorem dX12_door_18 : decode cX12_door 18 = .ok (.if_icmp .ne 10, 3) := by decide +kernel
theorem dX12_door_21 : decode cX12_door 21 = .ok (.aload_n 0, 1) := by decide +kernel
theorem dX12_door_22 : decode cX12_door 22 = .ok (.bipush (-2), 2) := by decide +kernel
theorem dX12_door_24 : decode cX12_door 24 = .ok (.invokevirtual 59, 3) := by decide +kernel
theorem dX12_door_27 : decode cX12_door 27 = .ok (.ireturn, 1) := by decide +kernel
theorem dX12_door_28 : decode cX12_door 28 = .ok (.aload_n 0, 1) := by decide +kernel
theorem dX12_door_29 : decode cX12_door 29 = .ok (.getfield 7, 3) := by decide +kernel
theorem dX12_door_32 : decode cX12_door 32 = .ok (.iconst 5, 1) := by decide +kernel
theorem dX12_door_33 : decode cX12_door 33 = .ok (.iload_n 1, 1) := by decide +kernel
theorem dX12_door_34 : decode cX12_door 34 = .ok (.iadd, 1) := by decide +kernel
theorem dX12_door_35 : decode cX12_door 35 = .ok (.iaload, 1) := by decide +kernel
theorem dX12_door_36 : decode cX12_door 36 = .ok (.iload_n 2, 1) := by decide +kernel
theorem dX12_door_37 : decode cX12_door 37 = .ok (.invokestatic 67, 3) := by decide +kernel
theorem dX12_door_40 : decode cX12_door 40 = .ok (.iload_n 3, 1) := by decide +kernel
theorem dX12_door_41 : decode cX12_door 41 = .ok (.if_icmp .ne 8, 3) := by decide +kernel
theorem dX12_door_44 : decode cX12_door 44 = .ok (.aload_n 0, 1) := by decide +kernel
theorem dX12_door_45 : decode cX12_door 45 = .ok (.invokevirtual 71, 3) := by decide +kernel
theorem dX12_door_48 : decode cX12_door 48 = .ok (.ireturn, 1) := by decide +kernel
theorem dX12_door_49 : decode cX12_door 49 = .ok (.aload_n 0, 1) := by decide +kernel
theorem dX12_door_50 : decode cX12_door 50 = .ok (.iload_n 1, 1) := by decide +kernel
theorem dX12_door_51 : decode cX12_door 51 = .ok (.iload_n 2, 1) := by decide +kernel
theorem dX12_door_52 : decode cX12_door 52 = .ok (.iload_n 3, 1) := by decide +kernel
theorem dX12_door_53 : decode cX12_door 53 = .ok (.invokevirtual 75, 3) := by decide +kernel
theorem dX12_door_56 : decode cX12_door 56 = .ok (.iconst 1, 1) := by decide +kernel
theorem dX12_door_57 : decode cX12_door 57 = .ok (.ireturn, 1) := by decide +kernel
def jX12_door_21 (I : Mem) : Option (Int32 × Mem) :=
  bnd2 (fX12_bad (-2 : Int32) I) fun v_4 I_5 =>
  some (v_4, I_5)
set_option maxRecDepth 20000 in
theorem tX12_door_21 (E : EV) (d : Nat) (rr : Option Value × Mem) (I : Mem) (y : (Int32 × Mem)) (hf : jX12_door_21 I = some y) (hK : (fun (z : Int32 × Mem) => (some (.int z.1), z.2) = rr) y) : G E (d + 2) kX12_door 21 [some (.ref 74), none, none, none] [] I rr := by
  unfold jX12_door_21 at hf
  refine G.aload_n dX12_door_21 rfl rfl ?_
  refine G.bipush (v := -2) dX12_door_22 (by decide) ?_
  obtain ⟨v_4, I_5, hc_3, hf⟩ := bnd2_at hf
  refine G.callVi (av := [.int (-2 : Int32)]) (rest := []) dX12_door_24 mvX12_59 (gX12_bad E (d + 1) (-2 : Int32) I hc_3) (by decide) rfl rfl rfl (Nat.le_of_ble_eq_true rfl) ?_
  have hf := Option.some.inj hf
  subst hf
  exact G.iret' dX12_door_27 rfl hK
def fX12_door (x1 : Int32) (x2 : Int32) (x3 : Int32) (I : Mem) : Option (Int32 × Mem) :=
  bnd (fX12_isRoom x1 I) fun v_2 =>
  if v_2 = 0 then
  (jX12_door_21 I)
  else
  (bnd (fX12_isRoom x2 I) fun v_7 =>
  if v_7 = 0 then
  (jX12_door_21 I)
  else
  (if x1 = x2 then
  (jX12_door_21 I)
  else
  (chk (inb ((5 : Int32) + x1) 632) <|
  bnd (fX12_has (I 75 (ix ((5 : Int32) + x1))) x2 I) fun v_10 =>
  if v_10 = x3 then
  (bnd2 (fX12_no I) fun v_14 I_15 =>
  some (v_14, I_15))
  else
  (bnd (fX12_layDoor x1 x2 x3 I) fun I_12 =>
  some ((1 : Int32), I_12)))))
set_option maxRecDepth 20000 in
theorem gX12_door (E : EV) (d : Nat) (x1 : Int32) (x2 : Int32) (x3 : Int32) (I : Mem) {v : Int32} {J : Mem} (hf : fX12_door x1 x2 x3 I = some (v, J)) : Gm E (d + 2) kX12_door [.ref 74, .int x1, .int x2, .int x3] I (some (.int v), J) := by
  refine (fun (y : (Int32 × Mem)) (hf : fX12_door x1 x2 x3 I = some y) => (?_ : Gm E (d + 2) kX12_door [.ref 74, .int x1, .int x2, .int x3] I (some (.int y.1), y.2))) (v, J) hf
  refine Gm.of (by decide) rfl (Nat.le_of_ble_eq_true rfl) ?_
  generalize hrr : ((some (.int y.1), y.2) : Option Value × Mem) = rr
  show G E (d + 2) kX12_door 0 [some (.ref 74), some (.int x1), some (.int x2), some (.int x3)] [] I rr
  have hK : (fun (z : Int32 × Mem) => (some (.int z.1), z.2) = rr) y := hrr
  clear hrr
  unfold fX12_door at hf
  refine G.aload_n dX12_door_0 rfl rfl ?_
  refine G.iload_n dX12_door_1 rfl rfl ?_
  obtain ⟨v_2, hc_1, hf⟩ := bnd_at hf
  refine G.callVi (av := [.int x1]) (rest := []) dX12_door_2 mvX12_63 (gX12_isRoom E d x1 I hc_1) (by decide) rfl rfl rfl (Nat.le_of_ble_eq_true rfl) ?_
  refine G.if_eq (tgt := 21) dX12_door_5 (by decide) (fun c_19 => ?_) (fun c_19 => ?_)
  · have hf := ite_t hf c_19
    refine G.forget (L' := [some (.ref 74), none, none, none]) [1, 2, 3] rfl ?_
    exact tX12_door_21 E d rr I _ hf hK
  · have hf := ite_f hf c_19
    refine G.aload_n dX12_door_8 rfl rfl ?_
    refine G.iload_n dX12_door_9 rfl rfl ?_
    obtain ⟨v_7, hc_6, hf⟩ := bnd_at hf
    refine G.callVi (av := [.int x2]) (rest := []) dX12_door_10 mvX12_63 (gX12_isRoom E d x2 I hc_6) (by decide) rfl rfl rfl (Nat.le_of_ble_eq_true rfl) ?_
    refine G.if_eq (tgt := 21) dX12_door_13 (by decide) (fun c_18 => ?_) (fun c_18 => ?_)
    · have hf := ite_t hf c_18
      refine G.forget (L' := [some (.ref 74), none, none, none]) [1, 2, 3] rfl ?_
      exact tX12_door_21 E d rr I _ hf hK
    · have hf := ite_f hf c_18
      refine G.iload_n dX12_door_16 rfl rfl ?_
      refine G.iload_n dX12_door_17 rfl rfl ?_
      refine G.icmp_ne (tgt := 28) dX12_door_18 (by decide) (fun c_17 => ?_) (fun c_17 => ?_)
      · have hf := ite_f hf c_17
        refine G.aload_n dX12_door_28 rfl rfl ?_
        refine G.getR (q := 75) dX12_door_29 flX12_7 (by decide) rfl rfl ?_
        refine G.iconst (v := 5) dX12_door_32 (by decide) ?_
        refine G.iload_n dX12_door_33 rfl rfl ?_
        refine G.iadd dX12_door_34 ?_
        obtain ⟨hi_8, hf⟩ := chk_at hf
        refine G.iald' dX12_door_35 (by decide) rfl rfl hi_8 ?_
        refine G.iload_n dX12_door_36 rfl rfl ?_
        obtain ⟨v_10, hc_9, hf⟩ := bnd_at hf
        refine G.callSi (av := [.int (I 75 (ix ((5 : Int32) + x1))), .int x2]) (rest := []) dX12_door_37 msX12_67 (gX12_has E (d + 1) (I 75 (ix ((5 : Int32) + x1))) x2 I hc_9) rfl rfl (Nat.le_of_ble_eq_true rfl) ?_
        refine G.iload_n dX12_door_40 rfl rfl ?_
        refine G.icmp_ne (tgt := 49) dX12_door_41 (by decide) (fun c_16 => ?_) (fun c_16 => ?_)
        · have hf := ite_f hf c_16
          refine G.aload_n dX12_door_49 rfl rfl ?_
          refine G.iload_n dX12_door_50 rfl rfl ?_
          refine G.iload_n dX12_door_51 rfl rfl ?_
          refine G.iload_n dX12_door_52 rfl rfl ?_
          obtain ⟨I_12, hc_11, hf⟩ := bnd_at hf
          refine G.callVv (av := [.int x1, .int x2, .int x3]) (rest := []) dX12_door_53 mvX12_75 (gX12_layDoor E (d + 1) x1 x2 x3 I hc_11) (by decide) rfl rfl rfl (Nat.le_of_ble_eq_true rfl) ?_
          refine G.iconst (v := 1) dX12_door_56 (by decide) ?_
          have hf := Option.some.inj hf
          subst hf
          exact G.iret' dX12_door_57 rfl hK
        · have hf := ite_t hf c_16
          refine G.aload_n dX12_door_44 rfl rfl ?_
          obtain ⟨v_14, I_15, hc_13, hf⟩ := bnd2_at hf
          refine G.callVi (av := []) (rest := []) dX12_door_45 mvX12_71 (gX12_no E (d + 1) I hc_13) (by decide) rfl rfl rfl (Nat.le_of_ble_eq_true rfl) ?_
          have hf := Option.some.inj hf
          subst hf
          exact G.iret' dX12_door_48 rfl hK
      · have hf := ite_t hf c_17
        refine G.forget (L' := [some (.ref 74), none, none, none]) [1, 2, 3] rfl ?_
        exact tX12_door_21 E d rr I _ hf hK
theorem dX12_cat_0 : decode cX12_cat 0 = .ok (.aload_n 0, 1) := by decide +kernel
theorem dX12_cat_1 : decode cX12_cat 1 = .ok (.iload_n 1, 1) := by decide +kernel
theorem dX12_cat_2 : decode cX12_cat 2 = .ok (.invokevirtual 63, 3) := by decide +kernel
theorem dX12_cat_5 : decode cX12_cat 5 = .ok (.ifCond .ne 10, 3) := by decide +kernel
theorem dX12_cat_8 : decode cX12_cat 8 = .ok (.aload_n 0, 1) := by decide +kernel
theorem dX12_cat_9 : decode cX12_cat 9 = .ok (.bipush (-2), 2) := by decide +kernel
theorem dX12_cat_11 : decode cX12_cat 11 = .ok (.invokevirtual 59, 3) := by decide +kernel
theorem dX12_cat_14 : decode cX12_cat 14 = .ok (.ireturn, 1) := by decide +kernel
theorem dX12_cat_15 : decode cX12_cat 15 = .ok (.aload_n 0, 1) := by decide +kernel
theorem dX12_cat_16 : decode cX12_cat 16 = .ok (.getfield 7, 3) := by decide +kernel
theorem dX12_cat_19 : decode cX12_cat 19 = .ok (.iconst 4, 1) := by decide +kernel
theorem dX12_cat_20 : decode cX12_cat 20 = .ok (.iaload, 1) := by decide +kernel
theorem dX12_cat_21 : decode cX12_cat 21 = .ok (.iload_n 1, 1) := by decide +kernel
theorem dX12_cat_22 : decode cX12_cat 22 = .ok (.invokestatic 67, 3) := by decide +kernel
theorem dX12_cat_25 : decode cX12_cat 25 = .ok (.iload_n 2, 1) := by decide +kernel
theorem dX12_cat_26 : decode cX12_cat 26 = .ok (.if_icmp .ne 8, 3) := by decide +kernel
theorem dX12_cat_29 : decode cX12_cat 29 = .ok (.aload_n 0, 1) := by decide +kernel
theorem dX12_cat_30 : decode cX12_cat 30 = .ok (.invokevirtual 71, 3) := by decide +kernel
theorem dX12_cat_33 : decode cX12_cat 33 = .ok (.ireturn, 1) := by decide +kernel
theorem dX12_cat_34 : decode cX12_cat 34 = .ok (.aload_n 0, 1) := by decide +kernel
theorem dX12_cat_35 : decode cX12_cat 35 = .ok (.getfield 7, 3) := by decide +kernel
theorem dX12_cat_38 : decode cX12_cat 38 = .ok (.iconst 4, 1) := by decide +kernel
theorem dX12_cat_39 : decode cX12_cat 39 = .ok (.dup2, 1) := by decide +kernel
theorem dX12_cat_40 : decode cX12_cat 40 = .ok (.iaload, 1) := by decide +kernel
theorem dX12_cat_41 : decode cX12_cat 41 = .ok (.iconst 1, 1) := by decide +kernel
theorem dX12_cat_42 : decode cX12_cat 42 = .ok (.iload_n 1, 1) := by decide +kernel
theorem dX12_cat_43 : decode cX12_cat 43 = .ok (.ishl, 1) := by decide +kernel
theorem dX12_cat_44 : decode cX12_cat 44 = .ok (.ixor, 1) := by decide +kernel
theorem dX12_cat_45 : decode cX12_cat 45 = .ok (.iastore, 1) := by decide +kernel
theorem dX12_cat_46 : decode cX12_cat 46 = .ok (.iconst 1, 1) := by decide +kernel
theorem dX12_cat_47 : decode cX12_cat 47 = .ok (.ireturn, 1) := by decide +kernel
def fX12_cat (x1 : Int32) (x2 : Int32) (I : Mem) : Option (Int32 × Mem) :=
  bnd (fX12_isRoom x1 I) fun v_2 =>
  if v_2 = 0 then
  (bnd2 (fX12_bad (-2 : Int32) I) fun v_14 I_15 =>
  some (v_14, I_15))
  else
  (chk (inb (4 : Int32) 632) <|
  bnd (fX12_has (I 75 (ix (4 : Int32))) x1 I) fun v_5 =>
  if v_5 = x2 then
  (bnd2 (fX12_no I) fun v_10 I_11 =>
  some (v_10, I_11))
  else
  (chk (inb (4 : Int32) 632) <|
  chk (inb (4 : Int32) 632) <|
  letb (up2 I 75 (ix (4 : Int32)) ((I 75 (ix (4 : Int32))) ^^^ ((1 : Int32) <<< (x1 &&& 31)))) fun I_8 =>
  some ((1 : Int32), I_8)))
set_option maxRecDepth 20000 in
theorem gX12_cat (E : EV) (d : Nat) (x1 : Int32) (x2 : Int32) (I : Mem) {v : Int32} {J : Mem} (hf : fX12_cat x1 x2 I = some (v, J)) : Gm E (d + 2) kX12_cat [.ref 74, .int x1, .int x2] I (some (.int v), J) := by
  refine (fun (y : (Int32 × Mem)) (hf : fX12_cat x1 x2 I = some y) => (?_ : Gm E (d + 2) kX12_cat [.ref 74, .int x1, .int x2] I (some (.int y.1), y.2))) (v, J) hf
  refine Gm.of (by decide) rfl (Nat.le_of_ble_eq_true rfl) ?_
  generalize hrr : ((some (.int y.1), y.2) : Option Value × Mem) = rr
  show G E (d + 2) kX12_cat 0 [some (.ref 74), some (.int x1), some (.int x2)] [] I rr
  have hK : (fun (z : Int32 × Mem) => (some (.int z.1), z.2) = rr) y := hrr
  clear hrr
  unfold fX12_cat at hf
  refine G.aload_n dX12_cat_0 rfl rfl ?_
  refine G.iload_n dX12_cat_1 rfl rfl ?_
  obtain ⟨v_2, hc_1, hf⟩ := bnd_at hf
  refine G.callVi (av := [.int x1]) (rest := []) dX12_cat_2 mvX12_63 (gX12_isRoom E d x1 I hc_1) (by decide) rfl rfl rfl (Nat.le_of_ble_eq_true rfl) ?_
  refine G.if_ne (tgt := 15) dX12_cat_5 (by decide) (fun c_16 => ?_) (fun c_16 => ?_)
  · have hf := ite_f hf c_16
    refine G.aload_n dX12_cat_15 rfl rfl ?_
    refine G.getR (q := 75) dX12_cat_16 flX12_7 (by decide) rfl rfl ?_
    refine G.iconst (v := 4) dX12_cat_19 (by decide) ?_
    obtain ⟨hi_3, hf⟩ := chk_at hf
    refine G.iald' dX12_cat_20 (by decide) rfl rfl hi_3 ?_
    refine G.iload_n dX12_cat_21 rfl rfl ?_
    obtain ⟨v_5, hc_4, hf⟩ := bnd_at hf
    refine G.callSi (av := [.int (I 75 (ix (4 : Int32))), .int x1]) (rest := []) dX12_cat_22 msX12_67 (gX12_has E (d + 1) (I 75 (ix (4 : Int32))) x1 I hc_4) rfl rfl (Nat.le_of_ble_eq_true rfl) ?_
    refine G.iload_n dX12_cat_25 rfl rfl ?_
    refine G.icmp_ne (tgt := 34) dX12_cat_26 (by decide) (fun c_12 => ?_) (fun c_12 => ?_)
    · have hf := ite_f hf c_12
      refine G.aload_n dX12_cat_34 rfl rfl ?_
      refine G.getR (q := 75) dX12_cat_35 flX12_7 (by decide) rfl rfl ?_
      refine G.iconst (v := 4) dX12_cat_38 (by decide) ?_
      refine G.dup2 dX12_cat_39 rfl rfl ?_
      obtain ⟨hi_6, hf⟩ := chk_at hf
      refine G.iald' dX12_cat_40 (by decide) rfl rfl hi_6 ?_
      refine G.iconst (v := 1) dX12_cat_41 (by decide) ?_
      refine G.iload_n dX12_cat_42 rfl rfl ?_
      refine G.ishl dX12_cat_43 ?_
      refine G.ixor dX12_cat_44 ?_
      obtain ⟨hi_7, hf⟩ := chk_at hf
      refine G.iast' dX12_cat_45 (by decide) rfl rfl hi_7 ?_
      refine G.nmI (fun I_8 e_I_8 => ?_)
      have hf := letb_at hf e_I_8
      clear e_I_8
      refine G.iconst (v := 1) dX12_cat_46 (by decide) ?_
      have hf := Option.some.inj hf
      subst hf
      exact G.iret' dX12_cat_47 rfl hK
    · have hf := ite_t hf c_12
      refine G.aload_n dX12_cat_29 rfl rfl ?_
      obtain ⟨v_10, I_11, hc_9, hf⟩ := bnd2_at hf
      refine G.callVi (av := []) (rest := []) dX12_cat_30 mvX12_71 (gX12_no E (d + 1) I hc_9) (by decide) rfl rfl rfl (Nat.le_of_ble_eq_true rfl) ?_
      have hf := Option.some.inj hf
      subst hf
      exact G.iret' dX12_cat_33 rfl hK
  · have hf := ite_t hf c_16
    refine G.aload_n dX12_cat_8 rfl rfl ?_
    refine G.bipush (v := -2) dX12_cat_9 (by decide) ?_
    obtain ⟨v_14, I_15, hc_13, hf⟩ := bnd2_at hf
    refine G.callVi (av := [.int (-2 : Int32)]) (rest := []) dX12_cat_11 mvX12_59 (gX12_bad E (d + 1) (-2 : Int32) I hc_13) (by decide) rfl rfl rfl (Nat.le_of_ble_eq_true rfl) ?_
    have hf := Option.some.inj hf
    subst hf
    exact G.iret' dX12_cat_14 rfl hK
theorem dX12_lay_0 : decode cX12_lay 0 = .ok (.aload_n 0, 1) := by decide +kernel
theorem dX12_lay_1 : decode cX12_lay 1 = .ok (.iload_n 1, 1) := by decide +kernel
theorem dX12_lay_2 : decode cX12_lay 2 = .ok (.invokevirtual 63, 3) := by decide +kernel
theorem dX12_lay_5 : decode cX12_lay 5 = .ok (.ifCond .eq 15, 3) := by decide +kernel
theorem dX12_lay_8 : decode cX12_lay 8 = .ok (.iload_n 2, 1) := by decide +kernel
theorem dX12_lay_9 : decode cX12_lay 9 = .ok (.i2l, 1) := by decide +kernel
theorem dX12_lay_10 : decode cX12_lay 10 = .ok (.lconst 0, 1) := by decide +kernel
theorem dX12_lay_11 : decode cX12_lay 11 = .ok (.ldc2_w 79, 3) := by decide +kernel
theorem dX12_lay_14 : decode cX12_lay 14 = .ok (.invokestatic 49, 3) := by decide +kernel
theorem dX12_lay_17 : decode cX12_lay 17 = .ok (.ifCond .ne 10, 3) := by decide +kernel
theorem dX12_lay_20 : decode cX12_lay 20 = .ok (.aload_n 0, 1) := by decide +kernel
theorem dX12_lay_21 : decode cX12_lay 21 = .ok (.bipush (-2), 2) := by decide +kernel
theorem dX12_lay_23 : decode cX12_lay 23 = .ok (.invokevirtual 59, 3) := by decide +kernel
theorem dX12_lay_26 : decode cX12_lay 26 = .ok (.ireturn, 1) := by decide +kernel
theorem dX12_lay_27 : decode cX12_lay 27 = .ok (.aload_n 0, 1) := by decide +kernel
theorem dX12_lay_28 : decode cX12_lay 28 = .ok (.getfield 7, 3) := by decide +kernel
theorem dX12_lay_31 : decode cX12_lay 31 = .ok (.bipush 10, 2) := by decide +kernel
theorem dX12_lay_33 : decode cX12_lay 33 = .ok (.iload_n 1, 1) := by decide +kernel
theorem dX12_lay_34 : decode cX12_lay 34 = .ok (.iadd, 1) := by decide +kernel
theorem dX12_lay_35 : decode cX12_lay 35 = .ok (.iaload, 1) := by decide +kernel
theorem dX12_lay_36 : decode cX12_lay 36 = .ok (.istore_n 3, 1) := by decide +kernel
theorem dX12_lay_37 : decode cX12_lay 37 = .ok (.aload_n 0, 1) := by decide +kernel
theorem dX12_lay_38 : decode cX12_lay 38 = .ok (.getfield 7, 3) := by decide +kernel
theorem dX12_lay_41 : decode cX12_lay 41 = .ok (.bipush 10, 2) := by decide +kernel
theorem dX12_lay_43 : decode cX12_lay 43 = .ok (.iload_n 1, 1) := by decide +kernel
theorem dX12_lay_44 : decode cX12_lay 44 = .ok (.iadd, 1) := by decide +kernel
theorem dX12_lay_45 : decode cX12_lay 45 = .ok (.iload_n 2, 1) := by decide +kernel
theorem dX12_lay_46 : decode cX12_lay 46 = .ok (.iastore, 1) := by decide +kernel
theorem dX12_lay_47 : decode cX12_lay 47 = .ok (.iload_n 3, 1) := by decide +kernel
theorem dX12_lay_48 : decode cX12_lay 48 = .ok (.ireturn, 1) := by decide +kernel
def jX12_lay_20 (I : Mem) : Option (Int32 × Mem) :=
  bnd2 (fX12_bad (-2 : Int32) I) fun v_4 I_5 =>
  some (v_4, I_5)
set_option maxRecDepth 20000 in
theorem tX12_lay_20 (E : EV) (d : Nat) (rr : Option Value × Mem) (I : Mem) (y : (Int32 × Mem)) (hf : jX12_lay_20 I = some y) (hK : (fun (z : Int32 × Mem) => (some (.int z.1), z.2) = rr) y) : G E (d + 2) kX12_lay 20 [some (.ref 74), none, none, none] [] I rr := by
  unfold jX12_lay_20 at hf
  refine G.aload_n dX12_lay_20 rfl rfl ?_
  refine G.bipush (v := -2) dX12_lay_21 (by decide) ?_
  obtain ⟨v_4, I_5, hc_3, hf⟩ := bnd2_at hf
  refine G.callVi (av := [.int (-2 : Int32)]) (rest := []) dX12_lay_23 mvX12_59 (gX12_bad E (d + 1) (-2 : Int32) I hc_3) (by decide) rfl rfl rfl (Nat.le_of_ble_eq_true rfl) ?_
  have hf := Option.some.inj hf
  subst hf
  exact G.iret' dX12_lay_26 rfl hK
def fX12_lay (x1 : Int32) (x2 : Int32) (I : Mem) : Option (Int32 × Mem) :=
  bnd (fX12_isRoom x1 I) fun v_2 =>
  if v_2 = 0 then
  (jX12_lay_20 I)
  else
  (bnd (fX12_in (Int32.toInt64 x2) (0 : Int64) (999 : Int64) I) fun v_7 =>
  if v_7 = 0 then
  (jX12_lay_20 I)
  else
  (chk (inb ((10 : Int32) + x1) 632) <|
  letb (I 75 (ix ((10 : Int32) + x1))) fun x3_9 =>
  chk (inb ((10 : Int32) + x1) 632) <|
  letb (up2 I 75 (ix ((10 : Int32) + x1)) x2) fun I_11 =>
  some (x3_9, I_11)))
set_option maxRecDepth 20000 in
theorem gX12_lay (E : EV) (d : Nat) (x1 : Int32) (x2 : Int32) (I : Mem) {v : Int32} {J : Mem} (hf : fX12_lay x1 x2 I = some (v, J)) : Gm E (d + 2) kX12_lay [.ref 74, .int x1, .int x2] I (some (.int v), J) := by
  refine (fun (y : (Int32 × Mem)) (hf : fX12_lay x1 x2 I = some y) => (?_ : Gm E (d + 2) kX12_lay [.ref 74, .int x1, .int x2] I (some (.int y.1), y.2))) (v, J) hf
  refine Gm.of (by decide) rfl (Nat.le_of_ble_eq_true rfl) ?_
  generalize hrr : ((some (.int y.1), y.2) : Option Value × Mem) = rr
  show G E (d + 2) kX12_lay 0 [some (.ref 74), some (.int x1), some (.int x2), none] [] I rr
  have hK : (fun (z : Int32 × Mem) => (some (.int z.1), z.2) = rr) y := hrr
  clear hrr
  unfold fX12_lay at hf
  refine G.aload_n dX12_lay_0 rfl rfl ?_
  refine G.iload_n dX12_lay_1 rfl rfl ?_
  obtain ⟨v_2, hc_1, hf⟩ := bnd_at hf
  refine G.callVi (av := [.int x1]) (rest := []) dX12_lay_2 mvX12_63 (gX12_isRoom E d x1 I hc_1) (by decide) rfl rfl rfl (Nat.le_of_ble_eq_true rfl) ?_
  refine G.if_eq (tgt := 20) dX12_lay_5 (by decide) (fun c_13 => ?_) (fun c_13 => ?_)
  · have hf := ite_t hf c_13
    refine G.forget (L' := [some (.ref 74), none, none, none]) [1, 2] rfl ?_
    exact tX12_lay_20 E d rr I _ hf hK
  · have hf := ite_f hf c_13
    refine G.iload_n dX12_lay_8 rfl rfl ?_
    refine G.i2l dX12_lay_9 ?_
    refine G.lconst (v := 0) dX12_lay_10 (by decide) ?_
    refine G.ldc2 (v := 999) dX12_lay_11 kcX12_79 ?_
    obtain ⟨v_7, hc_6, hf⟩ := bnd_at hf
    refine G.callSi (av := [.long (Int32.toInt64 x2), .long (0 : Int64), .long (999 : Int64)]) (rest := []) dX12_lay_14 msX12_49 (gX12_in E (d + 1) (Int32.toInt64 x2) (0 : Int64) (999 : Int64) I hc_6) rfl rfl (Nat.le_of_ble_eq_true rfl) ?_
    refine G.if_ne (tgt := 27) dX12_lay_17 (by decide) (fun c_12 => ?_) (fun c_12 => ?_)
    · have hf := ite_f hf c_12
      refine G.aload_n dX12_lay_27 rfl rfl ?_
      refine G.getR (q := 75) dX12_lay_28 flX12_7 (by decide) rfl rfl ?_
      refine G.bipush (v := 10) dX12_lay_31 (by decide) ?_
      refine G.iload_n dX12_lay_33 rfl rfl ?_
      refine G.iadd dX12_lay_34 ?_
      obtain ⟨hi_8, hf⟩ := chk_at hf
      refine G.iald' dX12_lay_35 (by decide) rfl rfl hi_8 ?_
      refine G.nmi (fun x3_9 e_x3_9 => ?_)
      have hf := letb_at hf e_x3_9
      clear e_x3_9
      refine G.istore_n (L' := [some (.ref 74), some (.int x1), some (.int x2), some (.int x3_9)]) dX12_lay_36 rfl (Nat.le_of_ble_eq_true rfl) (Nat.le_of_ble_eq_true rfl) rfl rfl ?_
      refine G.aload_n dX12_lay_37 rfl rfl ?_
      refine G.getR (q := 75) dX12_lay_38 flX12_7 (by decide) rfl rfl ?_
      refine G.bipush (v := 10) dX12_lay_41 (by decide) ?_
      refine G.iload_n dX12_lay_43 rfl rfl ?_
      refine G.iadd dX12_lay_44 ?_
      refine G.iload_n dX12_lay_45 rfl rfl ?_
      obtain ⟨hi_10, hf⟩ := chk_at hf
      refine G.iast' dX12_lay_46 (by decide) rfl rfl hi_10 ?_
      refine G.nmI (fun I_11 e_I_11 => ?_)
      have hf := letb_at hf e_I_11
      clear e_I_11
      refine G.iload_n dX12_lay_47 rfl rfl ?_
      have hf := Option.some.inj hf
      subst hf
      exact G.iret' dX12_lay_48 rfl hK
    · have hf := ite_t hf c_12
      refine G.forget (L' := [some (.ref 74), none, none, none]) [1, 2] rfl ?_
      exact tX12_lay_20 E d rr I _ hf hK
theorem dX12_addPerson_0 : decode cX12_addPerson 0 = .ok (.aload_n 0, 1) := by decide +kernel
theorem dX12_addPerson_1 : decode cX12_addPerson 1 = .ok (.getfield 7, 3) := by decide +kernel
theorem dX12_addPerson_4 : decode cX12_addPerson 4 = .ok (.iconst 3, 1) := by decide +kernel
theorem dX12_addPerson_5 : decode cX12_addPerson 5 = .ok (.iaload, 1) := by decide +kernel
theorem dX12_addPerson_6 : decode cX12_addPerson 6 = .ok (.istore_n 2, 1) := by decide +kernel
theorem dX12_addPerson_7 : decode cX12_addPerson 7 = .ok (.aload_n 0, 1) := by decide +kernel
theorem dX12_addPerson_8 : decode cX12_addPerson 8 = .ok (.getfield 7, 3) := by decide +kernel
theorem dX12_addPerson_11 : decode cX12_addPerson 11 = .ok (.bipush 20, 2) := by decide +kernel
theorem dX12_addPerson_13 : decode cX12_addPerson 13 = .ok (.iload_n 2, 1) := by decide +kernel
theorem dX12_addPerson_14 : decode cX12_addPerson 14 = .ok (.iadd, 1) := by decide +kernel
theorem dX12_addPerson_15 : decode cX12_addPerson 15 = .ok (.iload_n 1, 1) := by decide +kernel
theorem dX12_addPerson_16 : decode cX12_addPerson 16 = .ok (.iastore, 1) := by decide +kernel
theorem dX12_addPerson_17 : decode cX12_addPerson 17 = .ok (.aload_n 0, 1) := by decide +kernel
theorem dX12_addPerson_18 : decode cX12_addPerson 18 = .ok (.getfield 7, 3) := by decide +kernel
theorem dX12_addPerson_21 : decode cX12_addPerson 21 = .ok (.bipush 24, 2) := by decide +kernel
theorem dX12_addPerson_23 : decode cX12_addPerson 23 = .ok (.iload_n 2, 1) := by decide +kernel
theorem dX12_addPerson_24 : decode cX12_addPerson 24 = .ok (.iadd, 1) := by decide +kernel
theorem dX12_addPerson_25 : decode cX12_addPerson 25 = .ok (.iconst 0, 1) := by decide +kernel
theorem dX12_addPerson_26 : decode cX12_addPerson 26 = .ok (.iastore, 1) := by decide +kernel
theorem dX12_addPerson_27 : decode cX12_addPerson 27 = .ok (.aload_n 0, 1) := by decide +kernel
theorem dX12_addPerson_28 : decode cX12_addPerson 28 = .ok (.getfield 7, 3) := by decide +kernel
theorem dX12_addPerson_31 : decode cX12_addPerson 31 = .ok (.iconst 3, 1) := by decide +kernel
theorem dX12_addPerson_32 : decode cX12_addPerson 32 = .ok (.dup2, 1) := by decide +kernel
theorem dX12_addPerson_33 : decode cX12_addPerson 33 = .ok (.iaload, 1) := by decide +kernel
theorem dX12_addPerson_34 : decode cX12_addPerson 34 = .ok (.iconst 1, 1) := by decide +kernel
theorem dX12_addPerson_35 : decode cX12_addPerson 35 = .ok (.iadd, 1) := by decide +kernel
theorem dX12_addPerson_36 : decode cX12_addPerson 36 = .ok (.iastore, 1) := by decide +kernel
theorem dX12_addPerson_37 : decode cX12_addPerson 37 = .ok (.aload_n 0, 1) := by decide +kernel
theorem dX12_addPerson_38 : decode cX12_addPerson 38 = .ok (.getfield 7, 3) := by decide +kernel
theorem dX12_addPerson_41 : decode cX12_addPerson 41 = .ok (.bipush 53, 2) := by decide +kernel
theorem dX12_addPerson_43 : decode cX12_addPerson 43 = .ok (.iconst 0, 1) := by decide +kernel
theorem dX12_addPerson_44 : decode cX12_addPerson 44 = .ok (.iastore, 1) := by decide +kernel
theorem dX12_addPerson_45 : decode cX12_addPerson 45 = .ok (.iload_n 2, 1) := by decide +kernel
theorem dX12_addPerson_46 : decode cX12_addPerson 46 = .ok (.ireturn, 1) := by decide +kernel
def fX12_addPerson (x1 : Int32) (I : Mem) : Option (Int32 × Mem) :=
  chk (inb (3 : Int32) 632) <|
  letb (I 75 (ix (3 : Int32))) fun x2_2 =>
  chk (inb ((20 : Int32) + x2_2) 632) <|
  letb (up2 I 75 (ix ((20 : Int32) + x2_2)) x1) fun I_4 =>
  chk (inb ((24 : Int32) + x2_2) 632) <|
  letb (up2 I_4 75 (ix ((24 : Int32) + x2_2)) (0 : Int32)) fun I_6 =>
  chk (inb (3 : Int32) 632) <|
  chk (inb (3 : Int32) 632) <|
  letb (up2 I_6 75 (ix (3 : Int32)) ((I_6 75 (ix (3 : Int32))) + (1 : Int32))) fun I_9 =>
  chk (inb (53 : Int32) 632) <|
  letb (up2 I_9 75 (ix (53 : Int32)) (0 : Int32)) fun I_11 =>
  some (x2_2, I_11)
set_option maxRecDepth 20000 in
theorem gX12_addPerson (E : EV) (d : Nat) (x1 : Int32) (I : Mem) {v : Int32} {J : Mem} (hf : fX12_addPerson x1 I = some (v, J)) : Gm E (d + 0) kX12_addPerson [.ref 74, .int x1] I (some (.int v), J) := by
  refine (fun (y : (Int32 × Mem)) (hf : fX12_addPerson x1 I = some y) => (?_ : Gm E (d + 0) kX12_addPerson [.ref 74, .int x1] I (some (.int y.1), y.2))) (v, J) hf
  refine Gm.of (by decide) rfl (Nat.le_of_ble_eq_true rfl) ?_
  generalize hrr : ((some (.int y.1), y.2) : Option Value × Mem) = rr
  show G E (d + 0) kX12_addPerson 0 [some (.ref 74), some (.int x1), none] [] I rr
  have hK : (fun (z : Int32 × Mem) => (some (.int z.1), z.2) = rr) y := hrr
  clear hrr
  unfold fX12_addPerson at hf
  refine G.aload_n dX12_addPerson_0 rfl rfl ?_
  refine G.getR (q := 75) dX12_addPerson_1 flX12_7 (by decide) rfl rfl ?_
  refine G.iconst (v := 3) dX12_addPerson_4 (by decide) ?_
  obtain ⟨hi_1, hf⟩ := chk_at hf
  refine G.iald' dX12_addPerson_5 (by decide) rfl rfl hi_1 ?_
  refine G.nmi (fun x2_2 e_x2_2 => ?_)
  have hf := letb_at hf e_x2_2
  clear e_x2_2
  refine G.istore_n (L' := [some (.ref 74), some (.int x1), some (.int x2_2)]) dX12_addPerson_6 rfl (Nat.le_of_ble_eq_true rfl) (Nat.le_of_ble_eq_true rfl) rfl rfl ?_
  refine G.aload_n dX12_addPerson_7 rfl rfl ?_
  refine G.getR (q := 75) dX12_addPerson_8 flX12_7 (by decide) rfl rfl ?_
  refine G.bipush (v := 20) dX12_addPerson_11 (by decide) ?_
  refine G.iload_n dX12_addPerson_13 rfl rfl ?_
  refine G.iadd dX12_addPerson_14 ?_
  refine G.iload_n dX12_addPerson_15 rfl rfl ?_
  obtain ⟨hi_3, hf⟩ := chk_at hf
  refine G.iast' dX12_addPerson_16 (by decide) rfl rfl hi_3 ?_
  refine G.nmI (fun I_4 e_I_4 => ?_)
  have hf := letb_at hf e_I_4
  clear e_I_4
  refine G.aload_n dX12_addPerson_17 rfl rfl ?_
  refine G.getR (q := 75) dX12_addPerson_18 flX12_7 (by decide) rfl rfl ?_
  refine G.bipush (v := 24) dX12_addPerson_21 (by decide) ?_
  refine G.iload_n dX12_addPerson_23 rfl rfl ?_
  refine G.iadd dX12_addPerson_24 ?_
  refine G.iconst (v := 0) dX12_addPerson_25 (by decide) ?_
  obtain ⟨hi_5, hf⟩ := chk_at hf
  refine G.iast' dX12_addPerson_26 (by decide) rfl rfl hi_5 ?_
  refine G.nmI (fun I_6 e_I_6 => ?_)
  have hf := letb_at hf e_I_6
  clear e_I_6
  refine G.aload_n dX12_addPerson_27 rfl rfl ?_
  refine G.getR (q := 75) dX12_addPerson_28 flX12_7 (by decide) rfl rfl ?_
  refine G.iconst (v := 3) dX12_addPerson_31 (by decide) ?_
  refine G.dup2 dX12_addPerson_32 rfl rfl ?_
  obtain ⟨hi_7, hf⟩ := chk_at hf
  refine G.iald' dX12_addPerson_33 (by decide) rfl rfl hi_7 ?_
  refine G.iconst (v := 1) dX12_addPerson_34 (by decide) ?_
  refine G.iadd dX12_addPerson_35 ?_
  obtain ⟨hi_8, hf⟩ := chk_at hf
  refine G.iast' dX12_addPerson_36 (by decide) rfl rfl hi_8 ?_
  refine G.nmI (fun I_9 e_I_9 => ?_)
  have hf := letb_at hf e_I_9
  clear e_I_9
  refine G.aload_n dX12_addPerson_37 rfl rfl ?_
  refine G.getR (q := 75) dX12_addPerson_38 flX12_7 (by decide) rfl rfl ?_
  refine G.bipush (v := 53) dX12_addPerson_41 (by decide) ?_
  refine G.iconst (v := 0) dX12_addPerson_43 (by decide) ?_
  obtain ⟨hi_10, hf⟩ := chk_at hf
  refine G.iast' dX12_addPerson_44 (by decide) rfl rfl hi_10 ?_
  refine G.nmI (fun I_11 e_I_11 => ?_)
  have hf := letb_at hf e_I_11
  clear e_I_11
  refine G.iload_n dX12_addPerson_45 rfl rfl ?_
  have hf := Option.some.inj hf
  subst hf
  exact G.iret' dX12_addPerson_46 rfl hK
theorem dX12_person_0 : decode cX12_person 0 = .ok (.aload_n 0, 1) := by decide +kernel
theorem dX12_person_1 : decode cX12_person 1 = .ok (.iload_n 1, 1) := by decide +kernel
theorem dX12_person_2 : decode cX12_person 2 = .ok (.invokevirtual 63, 3) := by decide +kernel
theorem dX12_person_5 : decode cX12_person 5 = .ok (.ifCond .ne 10, 3) := by decide +kernel
theorem dX12_person_8 : decode cX12_person 8 = .ok (.aload_n 0, 1) := by decide +kernel
theorem dX12_person_9 : decode cX12_person 9 = .ok (.bipush (-2), 2) := by decide +kernel
theorem dX12_person_11 : decode cX12_person 11 = .ok (.invokevirtual 59, 3) := by decide +kernel
theorem dX12_person_14 : decode cX12_person 14 = .ok (.ireturn, 1) := by decide +kernel
theorem dX12_person_15 : decode cX12_person 15 = .ok (.aload_n 0, 1) := by decide +kernel
theorem dX12_person_16 : decode cX12_person 16 = .ok (.getfield 7, 3) := by decide +kernel
theorem dX12_person_19 : decode cX12_person 19 = .ok (.iconst 3, 1) := by decide +kernel
theorem dX12_person_20 : decode cX12_person 20 = .ok (.iaload, 1) := by decide +kernel
theorem dX12_person_21 : decode cX12_person 21 = .ok (.iconst 4, 1) := by decide +kernel
theorem dX12_person_22 : decode cX12_person 22 = .ok (.if_icmp .ne 10, 3) := by decide +kernel
theorem dX12_person_25 : decode cX12_person 25 = .ok (.aload_n 0, 1) := by decide +kernel
theorem dX12_person_26 : decode cX12_person 26 = .ok (.invokevirtual 81, 3) := by decide +kernel
theorem dX12_person_29 : decode cX12_person 29 = .ok (.goto 8, 3) := by decide +kernel
theorem dX12_person_32 : decode cX12_person 32 = .ok (.aload_n 0, 1) := by decide +kernel
theorem dX12_person_33 : decode cX12_person 33 = .ok (.iload_n 1, 1) := by decide +kernel
theorem dX12_person_34 : decode cX12_person 34 = .ok (.invokevirtual 84, 3) := by decide +kernel
theorem dX12_person_37 : decode cX12_person 37 = .ok (.ireturn, 1) := by decide +kernel
def fX12_person (x1 : Int32) (I : Mem) : Option (Int32 × Mem) :=
  bnd (fX12_isRoom x1 I) fun v_2 =>
  if v_2 = 0 then
  (bnd2 (fX12_bad (-2 : Int32) I) fun v_12 I_13 =>
  some (v_12, I_13))
  else
  (chk (inb (3 : Int32) 632) <|
  if (I 75 (ix (3 : Int32))) = (4 : Int32) then
  (bnd2 (fX12_full I) fun v_8 I_9 =>
  some (v_8, I_9))
  else
  (bnd2 (fX12_addPerson x1 I) fun v_5 I_6 =>
  some (v_5, I_6)))
set_option maxRecDepth 20000 in
theorem gX12_person (E : EV) (d : Nat) (x1 : Int32) (I : Mem) {v : Int32} {J : Mem} (hf : fX12_person x1 I = some (v, J)) : Gm E (d + 2) kX12_person [.ref 74, .int x1] I (some (.int v), J) := by
  refine (fun (y : (Int32 × Mem)) (hf : fX12_person x1 I = some y) => (?_ : Gm E (d + 2) kX12_person [.ref 74, .int x1] I (some (.int y.1), y.2))) (v, J) hf
  refine Gm.of (by decide) rfl (Nat.le_of_ble_eq_true rfl) ?_
  generalize hrr : ((some (.int y.1), y.2) : Option Value × Mem) = rr
  show G E (d + 2) kX12_person 0 [some (.ref 74), some (.int x1)] [] I rr
  have hK : (fun (z : Int32 × Mem) => (some (.int z.1), z.2) = rr) y := hrr
  clear hrr
  unfold fX12_person at hf
  refine G.aload_n dX12_person_0 rfl rfl ?_
  refine G.iload_n dX12_person_1 rfl rfl ?_
  obtain ⟨v_2, hc_1, hf⟩ := bnd_at hf
  refine G.callVi (av := [.int x1]) (rest := []) dX12_person_2 mvX12_63 (gX12_isRoom E d x1 I hc_1) (by decide) rfl rfl rfl (Nat.le_of_ble_eq_true rfl) ?_
  refine G.if_ne (tgt := 15) dX12_person_5 (by decide) (fun c_14 => ?_) (fun c_14 => ?_)
  · have hf := ite_f hf c_14
    refine G.aload_n dX12_person_15 rfl rfl ?_
    refine G.getR (q := 75) dX12_person_16 flX12_7 (by decide) rfl rfl ?_
    refine G.iconst (v := 3) dX12_person_19 (by decide) ?_
    obtain ⟨hi_3, hf⟩ := chk_at hf
    refine G.iald' dX12_person_20 (by decide) rfl rfl hi_3 ?_
    refine G.iconst (v := 4) dX12_person_21 (by decide) ?_
    refine G.icmp_ne (tgt := 32) dX12_person_22 (by decide) (fun c_10 => ?_) (fun c_10 => ?_)
    · have hf := ite_f hf c_10
      refine G.aload_n dX12_person_32 rfl rfl ?_
      refine G.iload_n dX12_person_33 rfl rfl ?_
      obtain ⟨v_5, I_6, hc_4, hf⟩ := bnd2_at hf
      refine G.callVi (av := [.int x1]) (rest := []) dX12_person_34 mvX12_84 (gX12_addPerson E (d + 1) x1 I hc_4) (by decide) rfl rfl rfl (Nat.le_of_ble_eq_true rfl) ?_
      have hf := Option.some.inj hf
      subst hf
      exact G.iret' dX12_person_37 rfl hK
    · have hf := ite_t hf c_10
      refine G.aload_n dX12_person_25 rfl rfl ?_
      obtain ⟨v_8, I_9, hc_7, hf⟩ := bnd2_at hf
      refine G.callVi (av := []) (rest := []) dX12_person_26 mvX12_81 (gX12_full E (d + 1) I hc_7) (by decide) rfl rfl rfl (Nat.le_of_ble_eq_true rfl) ?_
      refine G.goto (tgt := 37) dX12_person_29 (by decide) ?_
      have hf := Option.some.inj hf
      subst hf
      exact G.iret' dX12_person_37 rfl hK
  · have hf := ite_t hf c_14
    refine G.aload_n dX12_person_8 rfl rfl ?_
    refine G.bipush (v := -2) dX12_person_9 (by decide) ?_
    obtain ⟨v_12, I_13, hc_11, hf⟩ := bnd2_at hf
    refine G.callVi (av := [.int (-2 : Int32)]) (rest := []) dX12_person_11 mvX12_59 (gX12_bad E (d + 1) (-2 : Int32) I hc_11) (by decide) rfl rfl rfl (Nat.le_of_ble_eq_true rfl) ?_
    have hf := Option.some.inj hf
    subst hf
    exact G.iret' dX12_person_14 rfl hK
theorem dX12_law_0 : decode cX12_law 0 = .ok (.iload_n 1, 1) := by decide +kernel
theorem dX12_law_1 : decode cX12_law 1 = .ok (.i2l, 1) := by decide +kernel
theorem dX12_law_2 : decode cX12_law 2 = .ok (.lconst 0, 1) := by decide +kernel
theorem dX12_law_3 : decode cX12_law 3 = .ok (.ldc2_w 87, 3) := by decide +kernel
theorem dX12_law_6 : decode cX12_law 6 = .ok (.invokestatic 49, 3) := by decide +kernel
theorem dX12_law_9 : decode cX12_law 9 = .ok (.ifCond .ne 10, 3) := by decide +kernel
theorem dX12_law_12 : decode cX12_law 12 = .ok (.aload_n 0, 1) := by decide +kernel
theorem dX12_law_13 : decode cX12_law 13 = .ok (.bipush (-2), 2) := by decide +kernel
theorem dX12_law_15 : decode cX12_law 15 = .ok (.invokevirtual 59, 3) := by decide +kernel
theorem dX12_law_18 : decode cX12_law 18 = .ok (.ireturn, 1) := by decide +kernel
theorem dX12_law_19 : decode cX12_law 19 = .ok (.aload_n 0, 1) := by decide +kernel
theorem dX12_law_20 : decode cX12_law 20 = .ok (.getfield 7, 3) := by decide +kernel
theorem dX12_law_23 : decode cX12_law 23 = .ok (.iconst 1, 1) := by decide +kernel
theorem dX12_law_24 : decode cX12_law 24 = .ok (.iaload, 1) := by decide +kernel
theorem dX12_law_25 : decode cX12_law 25 = .ok (.istore_n 2, 1) := by decide +kernel
theorem dX12_law_26 : decode cX12_law 26 = .ok (.aload_n 0, 1) := by decide +kernel
theorem dX12_law_27 : decode cX12_law 27 = .ok (.getfield 7, 3) := by decide +kernel
theorem dX12_law_30 : decode cX12_law 30 = .ok (.iconst 1, 1) := by decide +kernel
theorem dX12_law_31 : decode cX12_law 31 = .ok (.iload_n 1, 1) := by decide +kernel
theorem dX12_law_32 : decode cX12_law 32 = .ok (.iastore, 1) := by decide +kernel
theorem dX12_law_33 : decode cX12_law 33 = .ok (.iload_n 2, 1) := by decide +kernel
theorem dX12_law_34 : decode cX12_law 34 = .ok (.ireturn, 1) := by decide +kernel
def fX12_law (x1 : Int32) (I : Mem) : Option (Int32 × Mem) :=
  bnd (fX12_in (Int32.toInt64 x1) (0 : Int64) (4 : Int64) I) fun v_2 =>
  if v_2 = 0 then
  (bnd2 (fX12_bad (-2 : Int32) I) fun v_8 I_9 =>
  some (v_8, I_9))
  else
  (chk (inb (1 : Int32) 632) <|
  letb (I 75 (ix (1 : Int32))) fun x2_4 =>
  chk (inb (1 : Int32) 632) <|
  letb (up2 I 75 (ix (1 : Int32)) x1) fun I_6 =>
  some (x2_4, I_6))
set_option maxRecDepth 20000 in
theorem gX12_law (E : EV) (d : Nat) (x1 : Int32) (I : Mem) {v : Int32} {J : Mem} (hf : fX12_law x1 I = some (v, J)) : Gm E (d + 1) kX12_law [.ref 74, .int x1] I (some (.int v), J) := by
  refine (fun (y : (Int32 × Mem)) (hf : fX12_law x1 I = some y) => (?_ : Gm E (d + 1) kX12_law [.ref 74, .int x1] I (some (.int y.1), y.2))) (v, J) hf
  refine Gm.of (by decide) rfl (Nat.le_of_ble_eq_true rfl) ?_
  generalize hrr : ((some (.int y.1), y.2) : Option Value × Mem) = rr
  show G E (d + 1) kX12_law 0 [some (.ref 74), some (.int x1), none] [] I rr
  have hK : (fun (z : Int32 × Mem) => (some (.int z.1), z.2) = rr) y := hrr
  clear hrr
  unfold fX12_law at hf
  refine G.iload_n dX12_law_0 rfl rfl ?_
  refine G.i2l dX12_law_1 ?_
  refine G.lconst (v := 0) dX12_law_2 (by decide) ?_
  refine G.ldc2 (v := 4) dX12_law_3 kcX12_87 ?_
  obtain ⟨v_2, hc_1, hf⟩ := bnd_at hf
  refine G.callSi (av := [.long (Int32.toInt64 x1), .long (0 : Int64), .long (4 : Int64)]) (rest := []) dX12_law_6 msX12_49 (gX12_in E d (Int32.toInt64 x1) (0 : Int64) (4 : Int64) I hc_1) rfl rfl (Nat.le_of_ble_eq_true rfl) ?_
  refine G.if_ne (tgt := 19) dX12_law_9 (by decide) (fun c_10 => ?_) (fun c_10 => ?_)
  · have hf := ite_f hf c_10
    refine G.aload_n dX12_law_19 rfl rfl ?_
    refine G.getR (q := 75) dX12_law_20 flX12_7 (by decide) rfl rfl ?_
    refine G.iconst (v := 1) dX12_law_23 (by decide) ?_
    obtain ⟨hi_3, hf⟩ := chk_at hf
    refine G.iald' dX12_law_24 (by decide) rfl rfl hi_3 ?_
    refine G.nmi (fun x2_4 e_x2_4 => ?_)
    have hf := letb_at hf e_x2_4
    clear e_x2_4
    refine G.istore_n (L' := [some (.ref 74), some (.int x1), some (.int x2_4)]) dX12_law_25 rfl (Nat.le_of_ble_eq_true rfl) (Nat.le_of_ble_eq_true rfl) rfl rfl ?_
    refine G.aload_n dX12_law_26 rfl rfl ?_
    refine G.getR (q := 75) dX12_law_27 flX12_7 (by decide) rfl rfl ?_
    refine G.iconst (v := 1) dX12_law_30 (by decide) ?_
    refine G.iload_n dX12_law_31 rfl rfl ?_
    obtain ⟨hi_5, hf⟩ := chk_at hf
    refine G.iast' dX12_law_32 (by decide) rfl rfl hi_5 ?_
    refine G.nmI (fun I_6 e_I_6 => ?_)
    have hf := letb_at hf e_I_6
    clear e_I_6
    refine G.iload_n dX12_law_33 rfl rfl ?_
    have hf := Option.some.inj hf
    subst hf
    exact G.iret' dX12_law_34 rfl hK
  · have hf := ite_t hf c_10
    refine G.aload_n dX12_law_12 rfl rfl ?_
    refine G.bipush (v := -2) dX12_law_13 (by decide) ?_
    obtain ⟨v_8, I_9, hc_7, hf⟩ := bnd2_at hf
    refine G.callVi (av := [.int (-2 : Int32)]) (rest := []) dX12_law_15 mvX12_59 (gX12_bad E d (-2 : Int32) I hc_7) (by decide) rfl rfl rfl (Nat.le_of_ble_eq_true rfl) ?_
    have hf := Option.some.inj hf
    subst hf
    exact G.iret' dX12_law_18 rfl hK
theorem dX12_wish_0 : decode cX12_wish 0 = .ok (.aload_n 0, 1) := by decide +kernel
theorem dX12_wish_1 : decode cX12_wish 1 = .ok (.iload_n 1, 1) := by decide +kernel
theorem dX12_wish_2 : decode cX12_wish 2 = .ok (.invokevirtual 89, 3) := by decide +kernel
theorem dX12_wish_5 : decode cX12_wish 5 = .ok (.ifCond .eq 28, 3) := by decide +kernel
theorem dX12_wish_8 : decode cX12_wish 8 = .ok (.iload_n 2, 1) := by decide +kernel
theorem dX12_wish_9 : decode cX12_wish 9 = .ok (.i2l, 1) := by decide +kernel
theorem dX12_wish_10 : decode cX12_wish 10 = .ok (.lconst 1, 1) := by decide +kernel
theorem dX12_wish_11 : decode cX12_wish 11 = .ok (.ldc2_w 87, 3) := by decide +kernel
theorem dX12_wish_14 : decode cX12_wish 14 = .ok (.invokestatic 49, 3) := by decide +kernel
theorem dX12_wish_17 : decode cX12_wish 17 = .ok (.ifCond .eq 16, 3) := by decide +kernel
theorem dX12_wish_20 : decode cX12_wish 20 = .ok (.iload_n 3, 1) := by decide +kernel
theorem dX12_wish_21 : decode cX12_wish 21 = .ok (.iconst (-1), 1) := by decide +kernel
theorem dX12_wish_22 : decode cX12_wish 22 = .ok (.if_icmp .eq 18, 3) := by decide +kernel
theorem dX12_wish_25 : decode cX12_wish 25 = .ok (.aload_n 0, 1) := by decide +kernel
theorem dX12_wish_26 : decode cX12_wish 26 = .ok (.iload_n 3, 1) := by decide +kernel
theorem dX12_wish_27 : decode cX12_wish 27 = .ok (.invokevirtual 63, 3) := by decide +kernel
theorem dX12_wish_30 : decode cX12_wish 30 = .ok (.ifCond .ne 10, 3) := by decide +kernel
theorem dX12_wish_33 : decode cX12_wish 33 = .ok (.aload_n 0, 1) := by decide +kernel
theorem dX12_wish_34 : decode cX12_wish 34 = .ok (.bipush (-10), 2) := by decide +kernel
theorem dX12_wish_36 : decode cX12_wish 36 = .ok (.invokevirtual 59, 3) := by decide +kernel
theorem dX12_wish_39 : decode cX12_wish 39 = .ok (.ireturn, 1) := by decide +kernel
theorem dX12_wish_40 : decode cX12_wish 40 = .ok (.aload_n 0, 1) := by decide +kernel
theorem dX12_wish_41 : decode cX12_wish 41 = .ok (.getfield 7, 3) := by decide +kernel
theorem dX12_wish_44 : decode cX12_wish 44 = .ok (.bipush 28, 2) := by decide +kernel
theorem dX12_wish_46 : decode cX12_wish 46 = .ok (.iconst 4, 1) := by decide +kernel
theorem dX12_wish_47 : decode cX12_wish 47 = .ok (.iload_n 1, 1) := by decide +kernel
theorem dX12_wish_48 : decode cX12_wish 48 = .ok (.imul, 1) := by decide +kernel
theorem dX12_wish_49 : decode cX12_wish 49 = .ok (.iadd, 1) := by decide +kernel
theorem dX12_wish_50 : decode cX12_wish 50 = .ok (.iload_n 2, 1) := by decide +kernel
theorem dX12_wish_51 : decode cX12_wish 51 = .ok (.iadd, 1) := by decide +kernel
theorem dX12_wish_52 : decode cX12_wish 52 = .ok (.iconst 1, 1) := by decide +kernel
theorem dX12_wish_53 : decode cX12_wish 53 = .ok (.isub, 1) := by decide +kernel
theorem dX12_wish_54 : decode cX12_wish 54 = .ok (.iaload, 1) := by decide +kernel
theorem dX12_wish_55 : decode cX12_wish 55 = .ok (.istore 4, 2) := by decide +kernel
theorem dX12_wish_57 : decode cX12_wish 57 = .ok (.aload_n 0, 1) := by decide +kernel
theorem dX12_wish_58 : decode cX12_wish 58 = .ok (.getfield 7, 3) := by decide +kernel
theorem dX12_wish_61 : decode cX12_wish 61 = .ok (.bipush 28, 2) := by decide +kernel
theorem dX12_wish_63 : decode cX12_wish 63 = .ok (.iconst 4, 1) := by decide +kernel
theorem dX12_wish_64 : decode cX12_wish 64 = .ok (.iload_n 1, 1) := by decide +kernel
theorem dX12_wish_65 : decode cX12_wish 65 = .ok (.imul, 1) := by decide +kernel
theorem dX12_wish_66 : decode cX12_wish 66 = .ok (.iadd, 1) := by decide +kernel
theorem dX12_wish_67 : decode cX12_wish 67 = .ok (.iload_n 2, 1) := by decide +kernel
theorem dX12_wish_68 : decode cX12_wish 68 = .ok (.iadd, 1) := by decide +kernel
theorem dX12_wish_69 : decode cX12_wish 69 = .ok (.iconst 1, 1) := by decide +kernel
theorem dX12_wish_70 : decode cX12_wish 70 = .ok (.isub, 1) := by decide +kernel
theorem dX12_wish_71 : decode cX12_wish 71 = .ok (.iload_n 3, 1) := by decide +kernel
theorem dX12_wish_72 : decode cX12_wish 72 = .ok (.iastore, 1) := by decide +kernel
theorem dX12_wish_73 : decode cX12_wish 73 = .ok (.iload 4, 2) := by decide +kernel
theorem dX12_wish_75 : decode cX12_wish 75 = .ok (.ireturn, 1) := by decide +kernel
def jX12_wish_33 (I : Mem) : Option (Int32 × Mem) :=
  bnd2 (fX12_bad (-10 : Int32) I) fun v_4 I_5 =>
  some (v_4, I_5)
set_option maxRecDepth 20000 in
theorem tX12_wish_33 (E : EV) (d : Nat) (rr : Option Value × Mem) (I : Mem) (y : (Int32 × Mem)) (hf : jX12_wish_33 I = some y) (hK : (fun (z : Int32 × Mem) => (some (.int z.1), z.2) = rr) y) : G E (d + 2) kX12_wish 33 [some (.ref 74), none, none, none, none] [] I rr := by
  unfold jX12_wish_33 at hf
  refine G.aload_n dX12_wish_33 rfl rfl ?_
  refine G.bipush (v := -10) dX12_wish_34 (by decide) ?_
  obtain ⟨v_4, I_5, hc_3, hf⟩ := bnd2_at hf
  refine G.callVi (av := [.int (-10 : Int32)]) (rest := []) dX12_wish_36 mvX12_59 (gX12_bad E (d + 1) (-10 : Int32) I hc_3) (by decide) rfl rfl rfl (Nat.le_of_ble_eq_true rfl) ?_
  have hf := Option.some.inj hf
  subst hf
  exact G.iret' dX12_wish_39 rfl hK
def jX12_wish_40 (x1 : Int32) (x2 : Int32) (x3 : Int32) (I : Mem) : Option (Int32 × Mem) :=
  chk (inb ((((28 : Int32) + ((4 : Int32) * x1)) + x2) - (1 : Int32)) 632) <|
  letb (I 75 (ix ((((28 : Int32) + ((4 : Int32) * x1)) + x2) - (1 : Int32)))) fun x4_9 =>
  chk (inb ((((28 : Int32) + ((4 : Int32) * x1)) + x2) - (1 : Int32)) 632) <|
  letb (up2 I 75 (ix ((((28 : Int32) + ((4 : Int32) * x1)) + x2) - (1 : Int32))) x3) fun I_11 =>
  some (x4_9, I_11)
set_option maxRecDepth 20000 in
theorem tX12_wish_40 (E : EV) (d : Nat) (rr : Option Value × Mem) (x1 : Int32) (x2 : Int32) (x3 : Int32) (I : Mem) (y : (Int32 × Mem)) (hf : jX12_wish_40 x1 x2 x3 I = some y) (hK : (fun (z : Int32 × Mem) => (some (.int z.1), z.2) = rr) y) : G E (d + 2) kX12_wish 40 [some (.ref 74), some (.int x1), some (.int x2), some (.int x3), none] [] I rr := by
  unfold jX12_wish_40 at hf
  refine G.aload_n dX12_wish_40 rfl rfl ?_
  refine G.getR (q := 75) dX12_wish_41 flX12_7 (by decide) rfl rfl ?_
  refine G.bipush (v := 28) dX12_wish_44 (by decide) ?_
  refine G.iconst (v := 4) dX12_wish_46 (by decide) ?_
  refine G.iload_n dX12_wish_47 rfl rfl ?_
  refine G.imul dX12_wish_48 ?_
  refine G.iadd dX12_wish_49 ?_
  refine G.iload_n dX12_wish_50 rfl rfl ?_
  refine G.iadd dX12_wish_51 ?_
  refine G.iconst (v := 1) dX12_wish_52 (by decide) ?_
  refine G.isub dX12_wish_53 ?_
  obtain ⟨hi_8, hf⟩ := chk_at hf
  refine G.iald' dX12_wish_54 (by decide) rfl rfl hi_8 ?_
  refine G.nmi (fun x4_9 e_x4_9 => ?_)
  have hf := letb_at hf e_x4_9
  clear e_x4_9
  refine G.istore (L' := [some (.ref 74), some (.int x1), some (.int x2), some (.int x3), some (.int x4_9)]) dX12_wish_55 (Nat.le_of_ble_eq_true rfl) (Nat.le_of_ble_eq_true rfl) rfl rfl ?_
  refine G.aload_n dX12_wish_57 rfl rfl ?_
  refine G.getR (q := 75) dX12_wish_58 flX12_7 (by decide) rfl rfl ?_
  refine G.bipush (v := 28) dX12_wish_61 (by decide) ?_
  refine G.iconst (v := 4) dX12_wish_63 (by decide) ?_
  refine G.iload_n dX12_wish_64 rfl rfl ?_
  refine G.imul dX12_wish_65 ?_
  refine G.iadd dX12_wish_66 ?_
  refine G.iload_n dX12_wish_67 rfl rfl ?_
  refine G.iadd dX12_wish_68 ?_
  refine G.iconst (v := 1) dX12_wish_69 (by decide) ?_
  refine G.isub dX12_wish_70 ?_
  refine G.iload_n dX12_wish_71 rfl rfl ?_
  obtain ⟨hi_10, hf⟩ := chk_at hf
  refine G.iast' dX12_wish_72 (by decide) rfl rfl hi_10 ?_
  refine G.nmI (fun I_11 e_I_11 => ?_)
  have hf := letb_at hf e_I_11
  clear e_I_11
  refine G.iload dX12_wish_73 rfl ?_
  have hf := Option.some.inj hf
  subst hf
  exact G.iret' dX12_wish_75 rfl hK
def fX12_wish (x1 : Int32) (x2 : Int32) (x3 : Int32) (I : Mem) : Option (Int32 × Mem) :=
  bnd (fX12_isPerson x1 I) fun v_2 =>
  if v_2 = 0 then
  (jX12_wish_33 I)
  else
  (bnd (fX12_in (Int32.toInt64 x2) (1 : Int64) (4 : Int64) I) fun v_7 =>
  if v_7 = 0 then
  (jX12_wish_33 I)
  else
  (if x3 = (-1 : Int32) then
  (jX12_wish_40 x1 x2 x3 I)
  else
  (bnd (fX12_isRoom x3 I) fun v_13 =>
  if v_13 = 0 then
  (jX12_wish_33 I)
  else
  (jX12_wish_40 x1 x2 x3 I))))
set_option maxRecDepth 20000 in
theorem gX12_wish (E : EV) (d : Nat) (x1 : Int32) (x2 : Int32) (x3 : Int32) (I : Mem) {v : Int32} {J : Mem} (hf : fX12_wish x1 x2 x3 I = some (v, J)) : Gm E (d + 2) kX12_wish [.ref 74, .int x1, .int x2, .int x3] I (some (.int v), J) := by
  refine (fun (y : (Int32 × Mem)) (hf : fX12_wish x1 x2 x3 I = some y) => (?_ : Gm E (d + 2) kX12_wish [.ref 74, .int x1, .int x2, .int x3] I (some (.int y.1), y.2))) (v, J) hf
  refine Gm.of (by decide) rfl (Nat.le_of_ble_eq_true rfl) ?_
  generalize hrr : ((some (.int y.1), y.2) : Option Value × Mem) = rr
  show G E (d + 2) kX12_wish 0 [some (.ref 74), some (.int x1), some (.int x2), some (.int x3), none] [] I rr
  have hK : (fun (z : Int32 × Mem) => (some (.int z.1), z.2) = rr) y := hrr
  clear hrr
  unfold fX12_wish at hf
  refine G.aload_n dX12_wish_0 rfl rfl ?_
  refine G.iload_n dX12_wish_1 rfl rfl ?_
  obtain ⟨v_2, hc_1, hf⟩ := bnd_at hf
  refine G.callVi (av := [.int x1]) (rest := []) dX12_wish_2 mvX12_89 (gX12_isPerson E d x1 I hc_1) (by decide) rfl rfl rfl (Nat.le_of_ble_eq_true rfl) ?_
  refine G.if_eq (tgt := 33) dX12_wish_5 (by decide) (fun c_17 => ?_) (fun c_17 => ?_)
  · have hf := ite_t hf c_17
    refine G.forget (L' := [some (.ref 74), none, none, none, none]) [1, 2, 3] rfl ?_
    exact tX12_wish_33 E d rr I _ hf hK
  · have hf := ite_f hf c_17
    refine G.iload_n dX12_wish_8 rfl rfl ?_
    refine G.i2l dX12_wish_9 ?_
    refine G.lconst (v := 1) dX12_wish_10 (by decide) ?_
    refine G.ldc2 (v := 4) dX12_wish_11 kcX12_87 ?_
    obtain ⟨v_7, hc_6, hf⟩ := bnd_at hf
    refine G.callSi (av := [.long (Int32.toInt64 x2), .long (1 : Int64), .long (4 : Int64)]) (rest := []) dX12_wish_14 msX12_49 (gX12_in E (d + 1) (Int32.toInt64 x2) (1 : Int64) (4 : Int64) I hc_6) rfl rfl (Nat.le_of_ble_eq_true rfl) ?_
    refine G.if_eq (tgt := 33) dX12_wish_17 (by decide) (fun c_16 => ?_) (fun c_16 => ?_)
    · have hf := ite_t hf c_16
      refine G.forget (L' := [some (.ref 74), none, none, none, none]) [1, 2, 3] rfl ?_
      exact tX12_wish_33 E d rr I _ hf hK
    · have hf := ite_f hf c_16
      refine G.iload_n dX12_wish_20 rfl rfl ?_
      refine G.iconst (v := -1) dX12_wish_21 (by decide) ?_
      refine G.icmp_eq (tgt := 40) dX12_wish_22 (by decide) (fun c_15 => ?_) (fun c_15 => ?_)
      · have hf := ite_t hf c_15
        exact tX12_wish_40 E d rr x1 x2 x3 I _ hf hK
      · have hf := ite_f hf c_15
        refine G.aload_n dX12_wish_25 rfl rfl ?_
        refine G.iload_n dX12_wish_26 rfl rfl ?_
        obtain ⟨v_13, hc_12, hf⟩ := bnd_at hf
        refine G.callVi (av := [.int x3]) (rest := []) dX12_wish_27 mvX12_63 (gX12_isRoom E d x3 I hc_12) (by decide) rfl rfl rfl (Nat.le_of_ble_eq_true rfl) ?_
        refine G.if_ne (tgt := 40) dX12_wish_30 (by decide) (fun c_14 => ?_) (fun c_14 => ?_)
        · have hf := ite_f hf c_14
          exact tX12_wish_40 E d rr x1 x2 x3 I _ hf hK
        · have hf := ite_t hf c_14
          refine G.forget (L' := [some (.ref 74), none, none, none, none]) [1, 2, 3] rfl ?_
          exact tX12_wish_33 E d rr I _ hf hK
theorem dX12_type_0 : decode cX12_type 0 = .ok (.iload_n 3, 1) := by decide +kernel
theorem dX12_type_1 : decode cX12_type 1 = .ok (.i2l, 1) := by decide +kernel
theorem dX12_type_2 : decode cX12_type 2 = .ok (.lconst 1, 1) := by decide +kernel
theorem dX12_type_3 : decode cX12_type 3 = .ok (.ldc2_w 92, 3) := by decide +kernel
theorem dX12_type_6 : decode cX12_type 6 = .ok (.invokestatic 49, 3) := by decide +kernel
theorem dX12_type_9 : decode cX12_type 9 = .ok (.ifCond .ne 10, 3) := by decide +kernel
theorem dX12_type_12 : decode cX12_type 12 = .ok (.aload_n 0, 1) := by decide +kernel
theorem dX12_type_13 : decode cX12_type 13 = .ok (.bipush (-2), 2) := by decide +kernel
theorem dX12_type_15 : decode cX12_type 15 = .ok (.invokevirtual 59, 3) := by decide +kernel
theorem dX12_type_18 : decode cX12_type 18 = .ok (.ireturn, 1) := by decide +kernel
theorem dX12_type_19 : decode cX12_type 19 = .ok (.aload_n 0, 1) := by decide +kernel
theorem dX12_type_20 : decode cX12_type 20 = .ok (.getfield 94, 3) := by decide +kernel
theorem dX12_type_23 : decode cX12_type 23 = .ok (.iload_n 3, 1) := by decide +kernel
theorem dX12_type_24 : decode cX12_type 24 = .ok (.iadd, 1) := by decide +kernel
theorem dX12_type_25 : decode cX12_type 25 = .ok (.sipush 200, 3) := by decide +kernel
theorem dX12_type_28 : decode cX12_type 28 = .ok (.if_icmp .le 8, 3) := by decide +kernel
theorem dX12_type_31 : decode cX12_type 31 = .ok (.aload_n 0, 1) := by decide +kernel
theorem dX12_type_32 : decode cX12_type 32 = .ok (.invokevirtual 81, 3) := by decide +kernel
theorem dX12_type_35 : decode cX12_type 35 = .ok (.ireturn, 1) := by decide +kernel
theorem dX12_type_36 : decode cX12_type 36 = .ok (.iload_n 3, 1) := by decide +kernel
theorem dX12_type_37 : decode cX12_type 37 = .ok (.iconst 1, 1) := by decide +kernel
theorem dX12_type_38 : decode cX12_type 38 = .ok (.isub, 1) := by decide +kernel
theorem dX12_type_39 : decode cX12_type 39 = .ok (.istore 4, 2) := by decide +kernel
theorem dX12_type_41 : decode cX12_type 41 = .ok (.iload 4, 2) := by decide +kernel
theorem dX12_type_43 : decode cX12_type 43 = .ok (.ifCond .lt 40, 3) := by decide +kernel
theorem dX12_type_46 : decode cX12_type 46 = .ok (.aload_n 0, 1) := by decide +kernel
theorem dX12_type_47 : decode cX12_type 47 = .ok (.getfield 17, 3) := by decide +kernel
theorem dX12_type_50 : decode cX12_type 50 = .ok (.aload_n 0, 1) := by decide +kernel
theorem dX12_type_51 : decode cX12_type 51 = .ok (.getfield 94, 3) := by decide +kernel
theorem dX12_type_54 : decode cX12_type 54 = .ok (.lload_n 1, 1) := by decide +kernel
theorem dX12_type_55 : decode cX12_type 55 = .ok (.bipush 8, 2) := by decide +kernel
theorem dX12_type_57 : decode cX12_type 57 = .ok (.iload 4, 2) := by decide +kernel
theorem dX12_type_59 : decode cX12_type 59 = .ok (.imul, 1) := by decide +kernel
theorem dX12_type_60 : decode cX12_type 60 = .ok (.lshr, 1) := by decide +kernel
theorem dX12_type_61 : decode cX12_type 61 = .ok (.ldc2_w 97, 3) := by decide +kernel
theorem dX12_type_64 : decode cX12_type 64 = .ok (.land, 1) := by decide +kernel
theorem dX12_type_65 : decode cX12_type 65 = .ok (.l2i, 1) := by decide +kernel
theorem dX12_type_66 : decode cX12_type 66 = .ok (.iastore, 1) := by decide +kernel
theorem dX12_type_67 : decode cX12_type 67 = .ok (.aload_n 0, 1) := by decide +kernel
theorem dX12_type_68 : decode cX12_type 68 = .ok (.dup, 1) := by decide +kernel
theorem dX12_type_69 : decode cX12_type 69 = .ok (.getfield 94, 3) := by decide +kernel
theorem dX12_type_72 : decode cX12_type 72 = .ok (.iconst 1, 1) := by decide +kernel
theorem dX12_type_73 : decode cX12_type 73 = .ok (.iadd, 1) := by decide +kernel
theorem dX12_type_74 : decode cX12_type 74 = .ok (.putfield 94, 3) := by decide +kernel
theorem dX12_type_77 : decode cX12_type 77 = .ok (.iinc 4 (-1), 3) := by decide +kernel
theorem dX12_type_80 : decode cX12_type 80 = .ok (.goto (-39), 3) := by decide +kernel
theorem dX12_type_83 : decode cX12_type 83 = .ok (.aload_n 0, 1) := by decide +kernel
theorem dX12_type_84 : decode cX12_type 84 = .ok (.getfield 94, 3) := by decide +kernel
theorem dX12_type_87 : decode cX12_type 87 = .ok (.ireturn, 1) := by decide +kernel
def KX12_type_41 (E : EV) (d : Nat) (rr : Option Value × Mem) (l1 : Int64) (Kp : (Int32 × Mem) → Prop) : ((Int32 × Mem) ⊕ (Int32 × Mem)) → Prop
  | .inl q => G E (d + 1) kX12_type 41 [some (.ref 74), some (.long l1), none, none, some (.int q.1)] [] q.2 rr
  | .inr z => Kp z
def bX12_type_41 (l1 : Int64) (x4 : Int32) (I : Mem) : Option ((Int32 × Mem) ⊕ (Int32 × Mem)) :=
  if x4 < 0 then
  (some (.inr ((I 74 3), I)))
  else
  (chk (inb (I 74 3) 200) <|
  letb (up2 I 77 (ix (I 74 3)) (Int64.toInt32 ((l1 >>> (Int32.toInt64 ((8 : Int32) * x4) &&& 63)) &&& (255 : Int64)))) fun I_5 =>
  letb (up2 I_5 74 3 ((I_5 74 3) + (1 : Int32))) fun I_6 =>
  some (.inl ((x4 + (-1 : Int32)), I_6)))
def sX12_type_41 (l1 : Int64) (q : (Int32 × Mem)) : Option ((Int32 × Mem) ⊕ (Int32 × Mem)) := bX12_type_41 l1 q.1 q.2
set_option maxRecDepth 20000 in
theorem wX12_type_41 (E : EV) (d : Nat) (rr : Option Value × Mem) (l1 : Int64) (x4 : Int32) (I : Mem) (y : ((Int32 × Mem) ⊕ (Int32 × Mem))) (hf : bX12_type_41 l1 x4 I = some y) (hK : (KX12_type_41 E d rr l1 (fun (z : Int32 × Mem) => (some (.int z.1), z.2) = rr)) y) : G E (d + 1) kX12_type 41 [some (.ref 74), some (.long l1), none, none, some (.int x4)] [] I rr := by
  unfold bX12_type_41 at hf
  refine G.iload dX12_type_41 rfl ?_
  refine G.if_lt (tgt := 83) dX12_type_43 (by decide) (fun c_7 => ?_) (fun c_7 => ?_)
  · have hf := ite_t hf c_7
    refine G.aload_n dX12_type_83 rfl rfl ?_
    refine G.getI dX12_type_84 flX12_94 (by decide) rfl ?_
    have hf := Option.some.inj hf
    subst hf
    exact G.iret' dX12_type_87 rfl hK
  · have hf := ite_f hf c_7
    refine G.aload_n dX12_type_46 rfl rfl ?_
    refine G.getR (q := 77) dX12_type_47 flX12_17 (by decide) rfl rfl ?_
    refine G.aload_n dX12_type_50 rfl rfl ?_
    refine G.getI dX12_type_51 flX12_94 (by decide) rfl ?_
    refine G.lload_n dX12_type_54 rfl rfl ?_
    refine G.bipush (v := 8) dX12_type_55 (by decide) ?_
    refine G.iload dX12_type_57 rfl ?_
    refine G.imul dX12_type_59 ?_
    refine G.lshr dX12_type_60 ?_
    refine G.ldc2 (v := 255) dX12_type_61 kcX12_97 ?_
    refine G.land dX12_type_64 ?_
    refine G.l2i dX12_type_65 ?_
    obtain ⟨hi_4, hf⟩ := chk_at hf
    refine G.iast' dX12_type_66 (by decide) rfl rfl hi_4 ?_
    refine G.nmI (fun I_5 e_I_5 => ?_)
    have hf := letb_at hf e_I_5
    clear e_I_5
    refine G.aload_n dX12_type_67 rfl rfl ?_
    refine G.dup dX12_type_68 rfl ?_
    refine G.getI dX12_type_69 flX12_94 (by decide) rfl ?_
    refine G.iconst (v := 1) dX12_type_72 (by decide) ?_
    refine G.iadd dX12_type_73 ?_
    refine G.putI dX12_type_74 flX12_94 (by decide) rfl ?_
    refine G.nmI (fun I_6 e_I_6 => ?_)
    have hf := letb_at hf e_I_6
    clear e_I_6
    refine G.inc (w := -1) (L' := [some (.ref 74), some (.long l1), none, none, some (.int (x4 + (-1 : Int32)))]) dX12_type_77 (by decide) rfl (Nat.le_of_ble_eq_true rfl) rfl rfl ?_
    refine G.goto (tgt := 41) dX12_type_80 (by decide) ?_
    have hf := Option.some.inj hf
    subst hf
    exact hK
theorem lX12_type_41 (E : EV) (d : Nat) (rr : Option Value × Mem) (l1 : Int64) (z : (Int32 × Mem)) (hK : (fun (z : Int32 × Mem) => (some (.int z.1), z.2) = rr) z) : ∀ (n : Nat) (q : (Int32 × Mem)), iter (sX12_type_41 l1) n q = some z → G E (d + 1) kX12_type 41 [some (.ref 74), some (.long l1), none, none, some (.int q.1)] [] q.2 rr := by
  intro n
  induction n with
  | zero => intro q h; cases h
  | succ n ih =>
    intro q h
    rcases iter_at h with ⟨q2, hs, h2⟩ | hs
    · exact wX12_type_41 E d rr l1 q.1 q.2 _ hs (ih q2 h2)
    · exact wX12_type_41 E d rr l1 q.1 q.2 _ hs hK
def fX12_type (l1 : Int64) (x3 : Int32) (I : Mem) : Option (Int32 × Mem) :=
  bnd (fX12_in (Int32.toInt64 x3) (1 : Int64) (8 : Int64) I) fun v_2 =>
  if v_2 = 0 then
  (bnd2 (fX12_bad (-2 : Int32) I) fun v_13 I_14 =>
  some (v_13, I_14))
  else
  (if ((I 74 3) + x3) ≤ (200 : Int32) then
  (letb (x3 - (1 : Int32)) fun x4_3 =>
  iter (sX12_type_41 l1) FU (x4_3, I))
  else
  (bnd2 (fX12_full I) fun v_9 I_10 =>
  some (v_9, I_10)))
set_option maxRecDepth 20000 in
theorem gX12_type (E : EV) (d : Nat) (l1 : Int64) (x3 : Int32) (I : Mem) {v : Int32} {J : Mem} (hf : fX12_type l1 x3 I = some (v, J)) : Gm E (d + 1) kX12_type [.ref 74, .long l1, .int x3] I (some (.int v), J) := by
  refine (fun (y : (Int32 × Mem)) (hf : fX12_type l1 x3 I = some y) => (?_ : Gm E (d + 1) kX12_type [.ref 74, .long l1, .int x3] I (some (.int y.1), y.2))) (v, J) hf
  refine Gm.of (by decide) rfl (Nat.le_of_ble_eq_true rfl) ?_
  generalize hrr : ((some (.int y.1), y.2) : Option Value × Mem) = rr
  show G E (d + 1) kX12_type 0 [some (.ref 74), some (.long l1), none, some (.int x3), none] [] I rr
  have hK : (fun (z : Int32 × Mem) => (some (.int z.1), z.2) = rr) y := hrr
  clear hrr
  unfold fX12_type at hf
  refine G.iload_n dX12_type_0 rfl rfl ?_
  refine G.i2l dX12_type_1 ?_
  refine G.lconst (v := 1) dX12_type_2 (by decide) ?_
  refine G.ldc2 (v := 8) dX12_type_3 kcX12_92 ?_
  obtain ⟨v_2, hc_1, hf⟩ := bnd_at hf
  refine G.callSi (av := [.long (Int32.toInt64 x3), .long (1 : Int64), .long (8 : Int64)]) (rest := []) dX12_type_6 msX12_49 (gX12_in E d (Int32.toInt64 x3) (1 : Int64) (8 : Int64) I hc_1) rfl rfl (Nat.le_of_ble_eq_true rfl) ?_
  refine G.if_ne (tgt := 19) dX12_type_9 (by decide) (fun c_15 => ?_) (fun c_15 => ?_)
  · have hf := ite_f hf c_15
    refine G.aload_n dX12_type_19 rfl rfl ?_
    refine G.getI dX12_type_20 flX12_94 (by decide) rfl ?_
    refine G.iload_n dX12_type_23 rfl rfl ?_
    refine G.iadd dX12_type_24 ?_
    refine G.sipush (v := 200) dX12_type_25 (by decide) ?_
    refine G.icmp_le (tgt := 36) dX12_type_28 (by decide) (fun c_11 => ?_) (fun c_11 => ?_)
    · have hf := ite_t hf c_11
      refine G.iload_n dX12_type_36 rfl rfl ?_
      refine G.iconst (v := 1) dX12_type_37 (by decide) ?_
      refine G.isub dX12_type_38 ?_
      refine G.nmi (fun x4_3 e_x4_3 => ?_)
      have hf := letb_at hf e_x4_3
      clear e_x4_3
      refine G.istore (L' := [some (.ref 74), some (.long l1), none, some (.int x3), some (.int x4_3)]) dX12_type_39 (Nat.le_of_ble_eq_true rfl) (Nat.le_of_ble_eq_true rfl) rfl rfl ?_
      refine G.forget (L' := [some (.ref 74), some (.long l1), none, none, some (.int x4_3)]) [3] rfl ?_
      exact lX12_type_41 E d rr l1 _ hK FU _ hf
    · have hf := ite_f hf c_11
      refine G.aload_n dX12_type_31 rfl rfl ?_
      obtain ⟨v_9, I_10, hc_8, hf⟩ := bnd2_at hf
      refine G.callVi (av := []) (rest := []) dX12_type_32 mvX12_81 (gX12_full E d I hc_8) (by decide) rfl rfl rfl (Nat.le_of_ble_eq_true rfl) ?_
      have hf := Option.some.inj hf
      subst hf
      exact G.iret' dX12_type_35 rfl hK
  · have hf := ite_t hf c_15
    refine G.aload_n dX12_type_12 rfl rfl ?_
    refine G.bipush (v := -2) dX12_type_13 (by decide) ?_
    obtain ⟨v_13, I_14, hc_12, hf⟩ := bnd2_at hf
    refine G.callVi (av := [.int (-2 : Int32)]) (rest := []) dX12_type_15 mvX12_59 (gX12_bad E d (-2 : Int32) I hc_12) (by decide) rfl rfl rfl (Nat.le_of_ble_eq_true rfl) ?_
    have hf := Option.some.inj hf
    subst hf
    exact G.iret' dX12_type_18 rfl hK
theorem dX12_clear_0 : decode cX12_clear 0 = .ok (.aload_n 0, 1) := by decide +kernel
theorem dX12_clear_1 : decode cX12_clear 1 = .ok (.getfield 94, 3) := by decide +kernel
theorem dX12_clear_4 : decode cX12_clear 4 = .ok (.istore_n 1, 1) := by decide +kernel
theorem dX12_clear_5 : decode cX12_clear 5 = .ok (.aload_n 0, 1) := by decide +kernel
theorem dX12_clear_6 : decode cX12_clear 6 = .ok (.iconst 0, 1) := by decide +kernel
theorem dX12_clear_7 : decode cX12_clear 7 = .ok (.putfield 94, 3) := by decide +kernel
theorem dX12_clear_10 : decode cX12_clear 10 = .ok (.iload_n 1, 1) := by decide +kernel
theorem dX12_clear_11 : decode cX12_clear 11 = .ok (.ireturn, 1) := by decide +kernel
def fX12_clear (I : Mem) : Option (Int32 × Mem) :=
  letb (I 74 3) fun x1_1 =>
  letb (up2 I 74 3 (0 : Int32)) fun I_2 =>
  some (x1_1, I_2)
set_option maxRecDepth 20000 in
theorem gX12_clear (E : EV) (d : Nat) (I : Mem) {v : Int32} {J : Mem} (hf : fX12_clear I = some (v, J)) : Gm E (d + 0) kX12_clear [.ref 74] I (some (.int v), J) := by
  refine (fun (y : (Int32 × Mem)) (hf : fX12_clear I = some y) => (?_ : Gm E (d + 0) kX12_clear [.ref 74] I (some (.int y.1), y.2))) (v, J) hf
  refine Gm.of (by decide) rfl (Nat.le_of_ble_eq_true rfl) ?_
  generalize hrr : ((some (.int y.1), y.2) : Option Value × Mem) = rr
  show G E (d + 0) kX12_clear 0 [some (.ref 74), none] [] I rr
  have hK : (fun (z : Int32 × Mem) => (some (.int z.1), z.2) = rr) y := hrr
  clear hrr
  unfold fX12_clear at hf
  refine G.aload_n dX12_clear_0 rfl rfl ?_
  refine G.getI dX12_clear_1 flX12_94 (by decide) rfl ?_
  refine G.nmi (fun x1_1 e_x1_1 => ?_)
  have hf := letb_at hf e_x1_1
  clear e_x1_1
  refine G.istore_n (L' := [some (.ref 74), some (.int x1_1)]) dX12_clear_4 rfl (Nat.le_of_ble_eq_true rfl) (Nat.le_of_ble_eq_true rfl) rfl rfl ?_
  refine G.aload_n dX12_clear_5 rfl rfl ?_
  refine G.iconst (v := 0) dX12_clear_6 (by decide) ?_
  refine G.putI dX12_clear_7 flX12_94 (by decide) rfl ?_
  refine G.nmI (fun I_2 e_I_2 => ?_)
  have hf := letb_at hf e_I_2
  clear e_I_2
  refine G.iload_n dX12_clear_10 rfl rfl ?_
  have hf := Option.some.inj hf
  subst hf
  exact G.iret' dX12_clear_11 rfl hK
