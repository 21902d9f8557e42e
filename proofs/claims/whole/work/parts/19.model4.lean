theorem dX12_quiet_0 : decode cX12_quiet 0 = .ok (.iconst 0, 1) := by decide +kernel
theorem dX12_quiet_1 : decode cX12_quiet 1 = .ok (.istore_n 1, 1) := by decide +kernel
theorem dX12_quiet_2 : decode cX12_quiet 2 = .ok (.iconst 0, 1) := by decide +kernel
theorem dX12_quiet_3 : decode cX12_quiet 3 = .ok (.istore_n 2, 1) := by decide +kernel
theorem dX12_quiet_4 : decode cX12_quiet 4 = .ok (.iload_n 2, 1) := by decide +kernel
theorem dX12_quiet_5 : decode cX12_quiet 5 = .ok (.aload_n 0, 1) := by decide +kernel
theorem dX12_quiet_6 : decode cX12_quiet 6 = .ok (.invokevirtual 197, 3) := by decide +kernel
theorem dX12_quiet_9 : decode cX12_quiet 9 = .ok (.if_icmp .ge 73, 3) := by decide +kernel
theorem dX12_quiet_12 : decode cX12_quiet 12 = .ok (.aload_n 0, 1) := by decide +kernel
theorem dX12_quiet_13 : decode cX12_quiet 13 = .ok (.iload_n 2, 1) := by decide +kernel
theorem dX12_quiet_14 : decode cX12_quiet 14 = .ok (.invokevirtual 200, 3) := by decide +kernel
theorem dX12_quiet_17 : decode cX12_quiet 17 = .ok (.istore_n 3, 1) := by decide +kernel
theorem dX12_quiet_18 : decode cX12_quiet 18 = .ok (.iconst 1, 1) := by decide +kernel
theorem dX12_quiet_19 : decode cX12_quiet 19 = .ok (.istore 4, 2) := by decide +kernel
theorem dX12_quiet_21 : decode cX12_quiet 21 = .ok (.iconst 0, 1) := by decide +kernel
theorem dX12_quiet_22 : decode cX12_quiet 22 = .ok (.istore 5, 2) := by decide +kernel
theorem dX12_quiet_24 : decode cX12_quiet 24 = .ok (.iload 5, 2) := by decide +kernel
theorem dX12_quiet_26 : decode cX12_quiet 26 = .ok (.aload_n 0, 1) := by decide +kernel
theorem dX12_quiet_27 : decode cX12_quiet 27 = .ok (.getfield 7, 3) := by decide +kernel
theorem dX12_quiet_30 : decode cX12_quiet 30 = .ok (.iconst 3, 1) := by decide +kernel
theorem dX12_quiet_31 : decode cX12_quiet 31 = .ok (.iaload, 1) := by decide +kernel
theorem dX12_quiet_32 : decode cX12_quiet 32 = .ok (.if_icmp .ge 31, 3) := by decide +kernel
theorem dX12_quiet_35 : decode cX12_quiet 35 = .ok (.iload 4, 2) := by decide +kernel
theorem dX12_quiet_37 : decode cX12_quiet 37 = .ok (.ifCond .eq 17, 3) := by decide +kernel
theorem dX12_quiet_40 : decode cX12_quiet 40 = .ok (.aload_n 0, 1) := by decide +kernel
theorem dX12_quiet_41 : decode cX12_quiet 41 = .ok (.iload_n 3, 1) := by decide +kernel
theorem dX12_quiet_42 : decode cX12_quiet 42 = .ok (.iload 5, 2) := by decide +kernel
theorem dX12_quiet_44 : decode cX12_quiet 44 = .ok (.invokevirtual 155, 3) := by decide +kernel
theorem dX12_quiet_47 : decode cX12_quiet 47 = .ok (.ifCond .ne 7, 3) := by decide +kernel
theorem dX12_quiet_50 : decode cX12_quiet 50 = .ok (.iconst 1, 1) := by decide +kernel
theorem dX12_quiet_51 : decode cX12_quiet 51 = .ok (.goto 4, 3) := by decide +kernel
theorem dX12_quiet_54 : decode cX12_quiet 54 = .ok (.iconst 0, 1) := by decide +kernel
theorem dX12_quiet_55 : decode cX12_quiet 55 = .ok (.istore 4, 2) := by decide +kernel
theorem dX12_quiet_57 : decode cX12_quiet 57 = .ok (.iinc 5 1, 3) := by decide +kernel
theorem dX12_quiet_60 : decode cX12_quiet 60 = .ok (.goto (-36), 3) := by decide +kernel
theorem dX12_quiet_63 : decode cX12_quiet 63 = .ok (.iload_n 1, 1) := by decide +kernel
theorem dX12_quiet_64 : decode cX12_quiet 64 = .ok (.iload 4, 2) := by decide +kernel
theorem dX12_quiet_66 : decode cX12_quiet 66 = .ok (.ifCond .eq 7, 3) := by decide +kernel
theorem dX12_quiet_69 : decode cX12_quiet 69 = .ok (.iconst 1, 1) := by decide +kernel
theorem dX12_quiet_70 : decode cX12_quiet 70 = .ok (.goto 4, 3) := by decide +kernel
theorem dX12_quiet_73 : decode cX12_quiet 73 = .ok (.iconst 0, 1) := by decide +kernel
theorem dX12_quiet_74 : decode cX12_quiet 74 = .ok (.iadd, 1) := by decide +kernel
theorem dX12_quiet_75 : decode cX12_quiet 75 = .ok (.istore_n 1, 1) := by decide +kernel
theorem dX12_quiet_76 : decode cX12_quiet 76 = .ok (.iinc 2 1, 3) := by decide +kernel
theorem dX12_quiet_79 : decode cX12_quiet 79 = .ok (.goto (-75), 3) := by decide +kernel
theorem dX12_quiet_82 : decode cX12_quiet 82 = .ok (.iload_n 1, 1) := by decide +kernel
theorem dX12_quiet_83 : decode cX12_quiet 83 = .ok (.ireturn, 1) := by decide +kernel
def KX12_quiet_4 (E : EV) (d : Nat) (rr : Option Value × Mem) (I : Mem) (Kp : Int32 → Prop) : ((Int32 × Int32) ⊕ Int32) → Prop
  | .inl q => G E (d + 2) kX12_quiet 4 [some (.ref 74), some (.int q.1), some (.int q.2), none, none, none] [] I rr
  | .inr z => Kp z
def KX12_quiet_24 (E : EV) (d : Nat) (rr : Option Value × Mem) (x1 : Int32) (x2 : Int32) (x3 : Int32) (I : Mem) (Kp : ((Int32 × Int32) ⊕ Int32) → Prop) : ((Int32 × Int32) ⊕ ((Int32 × Int32) ⊕ Int32)) → Prop
  | .inl q => G E (d + 2) kX12_quiet 24 [some (.ref 74), some (.int x1), some (.int x2), some (.int x3), some (.int q.1), some (.int q.2)] [] I rr
  | .inr z => Kp z
def bX12_quiet_24 (x1 : Int32) (x2 : Int32) (x3 : Int32) (I : Mem) (x4 : Int32) (x5 : Int32) : Option ((Int32 × Int32) ⊕ ((Int32 × Int32) ⊕ Int32)) :=
  chk (inb (3 : Int32) 632) <|
  if (I 75 (ix (3 : Int32))) ≤ x5 then
  (if x4 = 0 then
  (letb (x1 + (0 : Int32)) fun x1_6 =>
  some (.inr (.inl (x1_6, (x2 + (1 : Int32))))))
  else
  (letb (x1 + (1 : Int32)) fun x1_7 =>
  some (.inr (.inl (x1_7, (x2 + (1 : Int32)))))))
  else
  (if x4 = 0 then
  (some (.inl ((0 : Int32), (x5 + (1 : Int32)))))
  else
  (bnd (fX12_isAlone x3 x5 I) fun v_10 =>
  if v_10 = 0 then
  (some (.inl ((1 : Int32), (x5 + (1 : Int32)))))
  else
  (some (.inl ((0 : Int32), (x5 + (1 : Int32)))))))
def sX12_quiet_24 (x1 : Int32) (x2 : Int32) (x3 : Int32) (I : Mem) (q : (Int32 × Int32)) : Option ((Int32 × Int32) ⊕ ((Int32 × Int32) ⊕ Int32)) := bX12_quiet_24 x1 x2 x3 I q.1 q.2
set_option maxRecDepth 20000 in
theorem wX12_quiet_24 (E : EV) (d : Nat) (rr : Option Value × Mem) (x1 : Int32) (x2 : Int32) (x3 : Int32) (I : Mem) (x4 : Int32) (x5 : Int32) (y : ((Int32 × Int32) ⊕ ((Int32 × Int32) ⊕ Int32))) (hf : bX12_quiet_24 x1 x2 x3 I x4 x5 = some y) (hK : (KX12_quiet_24 E d rr x1 x2 x3 I (KX12_quiet_4 E d rr I (fun (z : Int32) => (some (.int z), I) = rr))) y) : G E (d + 2) kX12_quiet 24 [some (.ref 74), some (.int x1), some (.int x2), some (.int x3), some (.int x4), some (.int x5)] [] I rr := by
  unfold bX12_quiet_24 at hf
  refine G.iload dX12_quiet_24 rfl ?_
  refine G.aload_n dX12_quiet_26 rfl rfl ?_
  refine G.getR (q := 75) dX12_quiet_27 flX12_7 (by decide) rfl rfl ?_
  refine G.iconst (v := 3) dX12_quiet_30 (by decide) ?_
  obtain ⟨hi_5, hf⟩ := chk_at hf
  refine G.iald' dX12_quiet_31 (by decide) rfl rfl hi_5 ?_
  refine G.icmp_ge (tgt := 63) dX12_quiet_32 (by decide) (fun c_13 => ?_) (fun c_13 => ?_)
  · have hf := ite_t hf c_13
    refine G.iload_n dX12_quiet_63 rfl rfl ?_
    refine G.iload dX12_quiet_64 rfl ?_
    refine G.if_eq (tgt := 73) dX12_quiet_66 (by decide) (fun c_8 => ?_) (fun c_8 => ?_)
    · have hf := ite_t hf c_8
      refine G.iconst (v := 0) dX12_quiet_73 (by decide) ?_
      refine G.iadd dX12_quiet_74 ?_
      refine G.nmi (fun x1_6 e_x1_6 => ?_)
      have hf := letb_at hf e_x1_6
      clear e_x1_6
      refine G.istore_n (L' := [some (.ref 74), some (.int x1_6), some (.int x2), some (.int x3), some (.int x4), some (.int x5)]) dX12_quiet_75 rfl (Nat.le_of_ble_eq_true rfl) (Nat.le_of_ble_eq_true rfl) rfl rfl ?_
      refine G.inc (w := 1) (L' := [some (.ref 74), some (.int x1_6), some (.int (x2 + (1 : Int32))), some (.int x3), some (.int x4), some (.int x5)]) dX12_quiet_76 (by decide) rfl (Nat.le_of_ble_eq_true rfl) rfl rfl ?_
      refine G.goto (tgt := 4) dX12_quiet_79 (by decide) ?_
      have hf := Option.some.inj hf
      subst hf
      refine G.forget (L' := [some (.ref 74), some (.int x1_6), some (.int (x2 + (1 : Int32))), none, none, none]) [3, 4, 5] rfl ?_
      exact hK
    · have hf := ite_f hf c_8
      refine G.iconst (v := 1) dX12_quiet_69 (by decide) ?_
      refine G.goto (tgt := 74) dX12_quiet_70 (by decide) ?_
      refine G.iadd dX12_quiet_74 ?_
      refine G.nmi (fun x1_7 e_x1_7 => ?_)
      have hf := letb_at hf e_x1_7
      clear e_x1_7
      refine G.istore_n (L' := [some (.ref 74), some (.int x1_7), some (.int x2), some (.int x3), some (.int x4), some (.int x5)]) dX12_quiet_75 rfl (Nat.le_of_ble_eq_true rfl) (Nat.le_of_ble_eq_true rfl) rfl rfl ?_
      refine G.inc (w := 1) (L' := [some (.ref 74), some (.int x1_7), some (.int (x2 + (1 : Int32))), some (.int x3), some (.int x4), some (.int x5)]) dX12_quiet_76 (by decide) rfl (Nat.le_of_ble_eq_true rfl) rfl rfl ?_
      refine G.goto (tgt := 4) dX12_quiet_79 (by decide) ?_
      have hf := Option.some.inj hf
      subst hf
      refine G.forget (L' := [some (.ref 74), some (.int x1_7), some (.int (x2 + (1 : Int32))), none, none, none]) [3, 4, 5] rfl ?_
      exact hK
  · have hf := ite_f hf c_13
    refine G.iload dX12_quiet_35 rfl ?_
    refine G.if_eq (tgt := 54) dX12_quiet_37 (by decide) (fun c_12 => ?_) (fun c_12 => ?_)
    · have hf := ite_t hf c_12
      refine G.iconst (v := 0) dX12_quiet_54 (by decide) ?_
      refine G.istore (L' := [some (.ref 74), some (.int x1), some (.int x2), some (.int x3), some (.int (0 : Int32)), some (.int x5)]) dX12_quiet_55 (Nat.le_of_ble_eq_true rfl) (Nat.le_of_ble_eq_true rfl) rfl rfl ?_
      refine G.inc (w := 1) (L' := [some (.ref 74), some (.int x1), some (.int x2), some (.int x3), some (.int (0 : Int32)), some (.int (x5 + (1 : Int32)))]) dX12_quiet_57 (by decide) rfl (Nat.le_of_ble_eq_true rfl) rfl rfl ?_
      refine G.goto (tgt := 24) dX12_quiet_60 (by decide) ?_
      have hf := Option.some.inj hf
      subst hf
      exact hK
    · have hf := ite_f hf c_12
      refine G.aload_n dX12_quiet_40 rfl rfl ?_
      refine G.iload_n dX12_quiet_41 rfl rfl ?_
      refine G.iload dX12_quiet_42 rfl ?_
      obtain ⟨v_10, hc_9, hf⟩ := bnd_at hf
      refine G.callVi (av := [.int x3, .int x5]) (rest := []) dX12_quiet_44 mvX12_155 (gX12_isAlone E d x3 x5 I hc_9) (by decide) rfl rfl rfl (Nat.le_of_ble_eq_true rfl) ?_
      refine G.if_ne (tgt := 54) dX12_quiet_47 (by decide) (fun c_11 => ?_) (fun c_11 => ?_)
      · have hf := ite_f hf c_11
        refine G.iconst (v := 0) dX12_quiet_54 (by decide) ?_
        refine G.istore (L' := [some (.ref 74), some (.int x1), some (.int x2), some (.int x3), some (.int (0 : Int32)), some (.int x5)]) dX12_quiet_55 (Nat.le_of_ble_eq_true rfl) (Nat.le_of_ble_eq_true rfl) rfl rfl ?_
        refine G.inc (w := 1) (L' := [some (.ref 74), some (.int x1), some (.int x2), some (.int x3), some (.int (0 : Int32)), some (.int (x5 + (1 : Int32)))]) dX12_quiet_57 (by decide) rfl (Nat.le_of_ble_eq_true rfl) rfl rfl ?_
        refine G.goto (tgt := 24) dX12_quiet_60 (by decide) ?_
        have hf := Option.some.inj hf
        subst hf
        exact hK
      · have hf := ite_t hf c_11
        refine G.iconst (v := 1) dX12_quiet_50 (by decide) ?_
        refine G.goto (tgt := 55) dX12_quiet_51 (by decide) ?_
        refine G.istore (L' := [some (.ref 74), some (.int x1), some (.int x2), some (.int x3), some (.int (1 : Int32)), some (.int x5)]) dX12_quiet_55 (Nat.le_of_ble_eq_true rfl) (Nat.le_of_ble_eq_true rfl) rfl rfl ?_
        refine G.inc (w := 1) (L' := [some (.ref 74), some (.int x1), some (.int x2), some (.int x3), some (.int (1 : Int32)), some (.int (x5 + (1 : Int32)))]) dX12_quiet_57 (by decide) rfl (Nat.le_of_ble_eq_true rfl) rfl rfl ?_
        refine G.goto (tgt := 24) dX12_quiet_60 (by decide) ?_
        have hf := Option.some.inj hf
        subst hf
        exact hK
theorem lX12_quiet_24 (E : EV) (d : Nat) (rr : Option Value × Mem) (x1 : Int32) (x2 : Int32) (x3 : Int32) (I : Mem) (z : ((Int32 × Int32) ⊕ Int32)) (hK : (KX12_quiet_4 E d rr I (fun (z : Int32) => (some (.int z), I) = rr)) z) : ∀ (n : Nat) (q : (Int32 × Int32)), iter (sX12_quiet_24 x1 x2 x3 I) n q = some z → G E (d + 2) kX12_quiet 24 [some (.ref 74), some (.int x1), some (.int x2), some (.int x3), some (.int q.1), some (.int q.2)] [] I rr := by
  intro n
  induction n with
  | zero => intro q h; cases h
  | succ n ih =>
    intro q h
    rcases iter_at h with ⟨q2, hs, h2⟩ | hs
    · exact wX12_quiet_24 E d rr x1 x2 x3 I q.1 q.2 _ hs (ih q2 h2)
    · exact wX12_quiet_24 E d rr x1 x2 x3 I q.1 q.2 _ hs hK
def bX12_quiet_4 (I : Mem) (x1 : Int32) (x2 : Int32) : Option ((Int32 × Int32) ⊕ Int32) :=
  bnd (fX12_standings I) fun v_2 =>
  if v_2 ≤ x2 then
  (some (.inr x1))
  else
  (bnd (fX12_standingOf x2 I) fun v_4 =>
  iter (sX12_quiet_24 x1 x2 v_4 I) FU ((1 : Int32), (0 : Int32)))
def sX12_quiet_4 (I : Mem) (q : (Int32 × Int32)) : Option ((Int32 × Int32) ⊕ Int32) := bX12_quiet_4 I q.1 q.2
set_option maxRecDepth 20000 in
theorem wX12_quiet_4 (E : EV) (d : Nat) (rr : Option Value × Mem) (I : Mem) (x1 : Int32) (x2 : Int32) (y : ((Int32 × Int32) ⊕ Int32)) (hf : bX12_quiet_4 I x1 x2 = some y) (hK : (KX12_quiet_4 E d rr I (fun (z : Int32) => (some (.int z), I) = rr)) y) : G E (d + 2) kX12_quiet 4 [some (.ref 74), some (.int x1), some (.int x2), none, none, none] [] I rr := by
  unfold bX12_quiet_4 at hf
  refine G.iload_n dX12_quiet_4 rfl rfl ?_
  refine G.aload_n dX12_quiet_5 rfl rfl ?_
  obtain ⟨v_2, hc_1, hf⟩ := bnd_at hf
  refine G.callVi (av := []) (rest := [.int x2]) dX12_quiet_6 mvX12_197 (gX12_standings E (d + 1) I hc_1) (by decide) rfl rfl rfl (Nat.le_of_ble_eq_true rfl) ?_
  refine G.icmp_ge (tgt := 82) dX12_quiet_9 (by decide) (fun c_14 => ?_) (fun c_14 => ?_)
  · have hf := ite_t hf c_14
    refine G.iload_n dX12_quiet_82 rfl rfl ?_
    have hf := Option.some.inj hf
    subst hf
    exact G.iret' dX12_quiet_83 rfl hK
  · have hf := ite_f hf c_14
    refine G.aload_n dX12_quiet_12 rfl rfl ?_
    refine G.iload_n dX12_quiet_13 rfl rfl ?_
    obtain ⟨v_4, hc_3, hf⟩ := bnd_at hf
    refine G.callVi (av := [.int x2]) (rest := []) dX12_quiet_14 mvX12_200 (gX12_standingOf E (d + 1) x2 I hc_3) (by decide) rfl rfl rfl (Nat.le_of_ble_eq_true rfl) ?_
    refine G.istore_n (L' := [some (.ref 74), some (.int x1), some (.int x2), some (.int v_4), none, none]) dX12_quiet_17 rfl (Nat.le_of_ble_eq_true rfl) (Nat.le_of_ble_eq_true rfl) rfl rfl ?_
    refine G.iconst (v := 1) dX12_quiet_18 (by decide) ?_
    refine G.istore (L' := [some (.ref 74), some (.int x1), some (.int x2), some (.int v_4), some (.int (1 : Int32)), none]) dX12_quiet_19 (Nat.le_of_ble_eq_true rfl) (Nat.le_of_ble_eq_true rfl) rfl rfl ?_
    refine G.iconst (v := 0) dX12_quiet_21 (by decide) ?_
    refine G.istore (L' := [some (.ref 74), some (.int x1), some (.int x2), some (.int v_4), some (.int (1 : Int32)), some (.int (0 : Int32))]) dX12_quiet_22 (Nat.le_of_ble_eq_true rfl) (Nat.le_of_ble_eq_true rfl) rfl rfl ?_
    exact lX12_quiet_24 E d rr x1 x2 v_4 I _ hK FU _ hf
theorem lX12_quiet_4 (E : EV) (d : Nat) (rr : Option Value × Mem) (I : Mem) (z : Int32) (hK : (fun (z : Int32) => (some (.int z), I) = rr) z) : ∀ (n : Nat) (q : (Int32 × Int32)), iter (sX12_quiet_4 I) n q = some z → G E (d + 2) kX12_quiet 4 [some (.ref 74), some (.int q.1), some (.int q.2), none, none, none] [] I rr := by
  intro n
  induction n with
  | zero => intro q h; cases h
  | succ n ih =>
    intro q h
    rcases iter_at h with ⟨q2, hs, h2⟩ | hs
    · exact wX12_quiet_4 E d rr I q.1 q.2 _ hs (ih q2 h2)
    · exact wX12_quiet_4 E d rr I q.1 q.2 _ hs hK
def fX12_quiet (I : Mem) : Option Int32 :=
  iter (sX12_quiet_4 I) FU ((0 : Int32), (0 : Int32))
set_option maxRecDepth 20000 in
theorem gX12_quiet (E : EV) (d : Nat) (I : Mem) {v : Int32} (hf : fX12_quiet I = some v) : Gm E (d + 2) kX12_quiet [.ref 74] I (some (.int v), I) := by
  refine (fun (y : Int32) (hf : fX12_quiet I = some y) => (?_ : Gm E (d + 2) kX12_quiet [.ref 74] I (some (.int y), I))) v hf
  refine Gm.of (by decide) rfl (Nat.le_of_ble_eq_true rfl) ?_
  generalize hrr : ((some (.int y), I) : Option Value × Mem) = rr
  show G E (d + 2) kX12_quiet 0 [some (.ref 74), none, none, none, none, none] [] I rr
  have hK : (fun (z : Int32) => (some (.int z), I) = rr) y := hrr
  clear hrr
  unfold fX12_quiet at hf
  refine G.iconst (v := 0) dX12_quiet_0 (by decide) ?_
  refine G.istore_n (L' := [some (.ref 74), some (.int (0 : Int32)), none, none, none, none]) dX12_quiet_1 rfl (Nat.le_of_ble_eq_true rfl) (Nat.le_of_ble_eq_true rfl) rfl rfl ?_
  refine G.iconst (v := 0) dX12_quiet_2 (by decide) ?_
  refine G.istore_n (L' := [some (.ref 74), some (.int (0 : Int32)), some (.int (0 : Int32)), none, none, none]) dX12_quiet_3 rfl (Nat.le_of_ble_eq_true rfl) (Nat.le_of_ble_eq_true rfl) rfl rfl ?_
  exact lX12_quiet_4 E d rr I _ hK FU _ hf
theorem dX12_liesOn_0 : decode cX12_liesOn 0 = .ok (.iconst 1, 1) := by decide +kernel
theorem dX12_liesOn_1 : decode cX12_liesOn 1 = .ok (.istore 4, 2) := by decide +kernel
theorem dX12_liesOn_3 : decode cX12_liesOn 3 = .ok (.iconst 1, 1) := by decide +kernel
theorem dX12_liesOn_4 : decode cX12_liesOn 4 = .ok (.istore 5, 2) := by decide +kernel
theorem dX12_liesOn_6 : decode cX12_liesOn 6 = .ok (.iload 5, 2) := by decide +kernel
theorem dX12_liesOn_8 : decode cX12_liesOn 8 = .ok (.iload_n 2, 1) := by decide +kernel
theorem dX12_liesOn_9 : decode cX12_liesOn 9 = .ok (.if_icmp .ge 15, 3) := by decide +kernel
theorem dX12_liesOn_12 : decode cX12_liesOn 12 = .ok (.iload 4, 2) := by decide +kernel
theorem dX12_liesOn_14 : decode cX12_liesOn 14 = .ok (.iconst 5, 1) := by decide +kernel
theorem dX12_liesOn_15 : decode cX12_liesOn 15 = .ok (.imul, 1) := by decide +kernel
theorem dX12_liesOn_16 : decode cX12_liesOn 16 = .ok (.istore 4, 2) := by decide +kernel
theorem dX12_liesOn_18 : decode cX12_liesOn 18 = .ok (.iinc 5 1, 3) := by decide +kernel
theorem dX12_liesOn_21 : decode cX12_liesOn 21 = .ok (.goto (-15), 3) := by decide +kernel
theorem dX12_liesOn_24 : decode cX12_liesOn 24 = .ok (.iload_n 1, 1) := by decide +kernel
theorem dX12_liesOn_25 : decode cX12_liesOn 25 = .ok (.istore 5, 2) := by decide +kernel
theorem dX12_liesOn_27 : decode cX12_liesOn 27 = .ok (.iconst 1, 1) := by decide +kernel
theorem dX12_liesOn_28 : decode cX12_liesOn 28 = .ok (.iload_n 1, 1) := by decide +kernel
theorem dX12_liesOn_29 : decode cX12_liesOn 29 = .ok (.ishl, 1) := by decide +kernel
theorem dX12_liesOn_30 : decode cX12_liesOn 30 = .ok (.istore 6, 2) := by decide +kernel
theorem dX12_liesOn_32 : decode cX12_liesOn 32 = .ok (.aload_n 0, 1) := by decide +kernel
theorem dX12_liesOn_33 : decode cX12_liesOn 33 = .ok (.getfield 7, 3) := by decide +kernel
theorem dX12_liesOn_36 : decode cX12_liesOn 36 = .ok (.bipush 10, 2) := by decide +kernel
theorem dX12_liesOn_38 : decode cX12_liesOn 38 = .ok (.iload_n 1, 1) := by decide +kernel
theorem dX12_liesOn_39 : decode cX12_liesOn 39 = .ok (.iadd, 1) := by decide +kernel
theorem dX12_liesOn_40 : decode cX12_liesOn 40 = .ok (.iaload, 1) := by decide +kernel
theorem dX12_liesOn_41 : decode cX12_liesOn 41 = .ok (.istore 7, 2) := by decide +kernel
theorem dX12_liesOn_43 : decode cX12_liesOn 43 = .ok (.iconst 0, 1) := by decide +kernel
theorem dX12_liesOn_44 : decode cX12_liesOn 44 = .ok (.istore 8, 2) := by decide +kernel
theorem dX12_liesOn_46 : decode cX12_liesOn 46 = .ok (.iload 8, 2) := by decide +kernel
theorem dX12_liesOn_48 : decode cX12_liesOn 48 = .ok (.iload_n 2, 1) := by decide +kernel
theorem dX12_liesOn_49 : decode cX12_liesOn 49 = .ok (.if_icmp .ge 103, 3) := by decide +kernel
theorem dX12_liesOn_52 : decode cX12_liesOn 52 = .ok (.iload_n 3, 1) := by decide +kernel
theorem dX12_liesOn_53 : decode cX12_liesOn 53 = .ok (.iload 4, 2) := by decide +kernel
theorem dX12_liesOn_55 : decode cX12_liesOn 55 = .ok (.idiv, 1) := by decide +kernel
theorem dX12_liesOn_56 : decode cX12_liesOn 56 = .ok (.iconst 5, 1) := by decide +kernel
theorem dX12_liesOn_57 : decode cX12_liesOn 57 = .ok (.irem, 1) := by decide +kernel
theorem dX12_liesOn_58 : decode cX12_liesOn 58 = .ok (.istore 9, 2) := by decide +kernel
theorem dX12_liesOn_60 : decode cX12_liesOn 60 = .ok (.iload 4, 2) := by decide +kernel
theorem dX12_liesOn_62 : decode cX12_liesOn 62 = .ok (.iconst 1, 1) := by decide +kernel
theorem dX12_liesOn_63 : decode cX12_liesOn 63 = .ok (.if_icmp .le 10, 3) := by decide +kernel
theorem dX12_liesOn_66 : decode cX12_liesOn 66 = .ok (.iload 4, 2) := by decide +kernel
theorem dX12_liesOn_68 : decode cX12_liesOn 68 = .ok (.iconst 5, 1) := by decide +kernel
theorem dX12_liesOn_69 : decode cX12_liesOn 69 = .ok (.idiv, 1) := by decide +kernel
theorem dX12_liesOn_70 : decode cX12_liesOn 70 = .ok (.goto 4, 3) := by decide +kernel
theorem dX12_liesOn_73 : decode cX12_liesOn 73 = .ok (.iconst 1, 1) := by decide +kernel
theorem dX12_liesOn_74 : decode cX12_liesOn 74 = .ok (.istore 4, 2) := by decide +kernel
theorem dX12_liesOn_76 : decode cX12_liesOn 76 = .ok (.aload_n 0, 1) := by decide +kernel
theorem dX12_liesOn_77 : decode cX12_liesOn 77 = .ok (.iload 9, 2) := by decide +kernel
theorem dX12_liesOn_79 : decode cX12_liesOn 79 = .ok (.invokevirtual 63, 3) := by decide +kernel
theorem dX12_liesOn_82 : decode cX12_liesOn 82 = .ok (.ifCond .eq 20, 3) := by decide +kernel
theorem dX12_liesOn_85 : decode cX12_liesOn 85 = .ok (.aload_n 0, 1) := by decide +kernel
theorem dX12_liesOn_86 : decode cX12_liesOn 86 = .ok (.getfield 7, 3) := by decide +kernel
theorem dX12_liesOn_89 : decode cX12_liesOn 89 = .ok (.iconst 5, 1) := by decide +kernel
theorem dX12_liesOn_90 : decode cX12_liesOn 90 = .ok (.iload 5, 2) := by decide +kernel
theorem dX12_liesOn_92 : decode cX12_liesOn 92 = .ok (.iadd, 1) := by decide +kernel
theorem dX12_liesOn_93 : decode cX12_liesOn 93 = .ok (.iaload, 1) := by decide +kernel
theorem dX12_liesOn_94 : decode cX12_liesOn 94 = .ok (.iload 9, 2) := by decide +kernel
theorem dX12_liesOn_96 : decode cX12_liesOn 96 = .ok (.invokestatic 67, 3) := by decide +kernel
theorem dX12_liesOn_99 : decode cX12_liesOn 99 = .ok (.ifCond .ne 5, 3) := by decide +kernel
theorem dX12_liesOn_102 : decode cX12_liesOn 102 = .ok (.iconst (-1), 1) := by decide +kernel
theorem dX12_liesOn_103 : decode cX12_liesOn 103 = .ok (.ireturn, 1) := by decide +kernel
theorem dX12_liesOn_104 : decode cX12_liesOn 104 = .ok (.iload 7, 2) := by decide +kernel
theorem dX12_liesOn_106 : decode cX12_liesOn 106 = .ok (.iload 6, 2) := by decide +kernel
theorem dX12_liesOn_108 : decode cX12_liesOn 108 = .ok (.iload 9, 2) := by decide +kernel
theorem dX12_liesOn_110 : decode cX12_liesOn 110 = .ok (.invokestatic 67, 3) := by decide +kernel
theorem dX12_liesOn_113 : decode cX12_liesOn 113 = .ok (.ifCond .eq 7, 3) := by decide +kernel
theorem dX12_liesOn_116 : decode cX12_liesOn 116 = .ok (.iconst 0, 1) := by decide +kernel
theorem dX12_liesOn_117 : decode cX12_liesOn 117 = .ok (.goto 13, 3) := by decide +kernel
theorem dX12_liesOn_120 : decode cX12_liesOn 120 = .ok (.aload_n 0, 1) := by decide +kernel
theorem dX12_liesOn_121 : decode cX12_liesOn 121 = .ok (.getfield 7, 3) := by decide +kernel
theorem dX12_liesOn_124 : decode cX12_liesOn 124 = .ok (.bipush 10, 2) := by decide +kernel
theorem dX12_liesOn_126 : decode cX12_liesOn 126 = .ok (.iload 9, 2) := by decide +kernel
theorem dX12_liesOn_128 : decode cX12_liesOn 128 = .ok (.iadd, 1) := by decide +kernel
theorem dX12_liesOn_129 : decode cX12_liesOn 129 = .ok (.iaload, 1) := by decide +kernel
theorem dX12_liesOn_130 : decode cX12_liesOn 130 = .ok (.iadd, 1) := by decide +kernel
theorem dX12_liesOn_131 : decode cX12_liesOn 131 = .ok (.istore 7, 2) := by decide +kernel
theorem dX12_liesOn_133 : decode cX12_liesOn 133 = .ok (.iload 6, 2) := by decide +kernel
theorem dX12_liesOn_135 : decode cX12_liesOn 135 = .ok (.iconst 1, 1) := by decide +kernel
theorem dX12_liesOn_136 : decode cX12_liesOn 136 = .ok (.iload 9, 2) := by decide +kernel
theorem dX12_liesOn_138 : decode cX12_liesOn 138 = .ok (.ishl, 1) := by decide +kernel
theorem dX12_liesOn_139 : decode cX12_liesOn 139 = .ok (.ior, 1) := by decide +kernel
theorem dX12_liesOn_140 : decode cX12_liesOn 140 = .ok (.istore 6, 2) := by decide +kernel
theorem dX12_liesOn_142 : decode cX12_liesOn 142 = .ok (.iload 9, 2) := by decide +kernel
theorem dX12_liesOn_144 : decode cX12_liesOn 144 = .ok (.istore 5, 2) := by decide +kernel
theorem dX12_liesOn_146 : decode cX12_liesOn 146 = .ok (.iinc 8 1, 3) := by decide +kernel
theorem dX12_liesOn_149 : decode cX12_liesOn 149 = .ok (.goto (-103), 3) := by decide +kernel
theorem dX12_liesOn_152 : decode cX12_liesOn 152 = .ok (.iload 7, 2) := by decide +kernel
theorem dX12_liesOn_154 : decode cX12_liesOn 154 = .ok (.ireturn, 1) := by decide +kernel
def KX12_liesOn_6 (E : EV) (d : Nat) (rr : Option Value × Mem) (x1 : Int32) (x2 : Int32) (x3 : Int32) (I : Mem) (Kp : Int32 → Prop) : ((Int32 × Int32) ⊕ Int32) → Prop
  | .inl q => G E (d + 2) kX12_liesOn 6 [some (.ref 74), some (.int x1), some (.int x2), some (.int x3), some (.int q.1), some (.int q.2), none, none, none, none] [] I rr
  | .inr z => Kp z
def KX12_liesOn_46 (E : EV) (d : Nat) (rr : Option Value × Mem) (x2 : Int32) (x3 : Int32) (I : Mem) (Kp : Int32 → Prop) : ((Int32 × Int32 × Int32 × Int32 × Int32) ⊕ Int32) → Prop
  | .inl q => G E (d + 2) kX12_liesOn 46 [some (.ref 74), none, some (.int x2), some (.int x3), some (.int q.1), some (.int q.2.1), some (.int q.2.2.1), some (.int q.2.2.2.1), some (.int q.2.2.2.2), none] [] I rr
  | .inr z => Kp z
def jX12_liesOn_130 (x2 : Int32) (x3 : Int32) (x4 : Int32) (x6 : Int32) (x8 : Int32) (x9 : Int32) (u0 : Int32) (u1 : Int32) (I : Mem) : Option ((Int32 × Int32 × Int32 × Int32 × Int32) ⊕ Int32) :=
  letb (u1 + u0) fun x7_14 =>
  letb (x6 ||| ((1 : Int32) <<< (x9 &&& 31))) fun x6_15 =>
  some (.inl (x4, x9, x6_15, x7_14, (x8 + (1 : Int32))))
set_option maxRecDepth 20000 in
theorem tX12_liesOn_130 (E : EV) (d : Nat) (rr : Option Value × Mem) (x2 : Int32) (x3 : Int32) (x4 : Int32) (x6 : Int32) (x8 : Int32) (x9 : Int32) (u0 : Int32) (u1 : Int32) (I : Mem) (y : ((Int32 × Int32 × Int32 × Int32 × Int32) ⊕ Int32)) (hf : jX12_liesOn_130 x2 x3 x4 x6 x8 x9 u0 u1 I = some y) (hK : (KX12_liesOn_46 E d rr x2 x3 I (fun (z : Int32) => (some (.int z), I) = rr)) y) : G E (d + 2) kX12_liesOn 130 [some (.ref 74), none, some (.int x2), some (.int x3), some (.int x4), none, some (.int x6), none, some (.int x8), some (.int x9)] [.int u0, .int u1] I rr := by
  unfold jX12_liesOn_130 at hf
  refine G.iadd dX12_liesOn_130 ?_
  refine G.nmi (fun x7_14 e_x7_14 => ?_)
  have hf := letb_at hf e_x7_14
  clear e_x7_14
  refine G.istore (L' := [some (.ref 74), none, some (.int x2), some (.int x3), some (.int x4), none, some (.int x6), some (.int x7_14), some (.int x8), some (.int x9)]) dX12_liesOn_131 (Nat.le_of_ble_eq_true rfl) (Nat.le_of_ble_eq_true rfl) rfl rfl ?_
  refine G.iload dX12_liesOn_133 rfl ?_
  refine G.iconst (v := 1) dX12_liesOn_135 (by decide) ?_
  refine G.iload dX12_liesOn_136 rfl ?_
  refine G.ishl dX12_liesOn_138 ?_
  refine G.ior dX12_liesOn_139 ?_
  refine G.nmi (fun x6_15 e_x6_15 => ?_)
  have hf := letb_at hf e_x6_15
  clear e_x6_15
  refine G.istore (L' := [some (.ref 74), none, some (.int x2), some (.int x3), some (.int x4), none, some (.int x6_15), some (.int x7_14), some (.int x8), some (.int x9)]) dX12_liesOn_140 (Nat.le_of_ble_eq_true rfl) (Nat.le_of_ble_eq_true rfl) rfl rfl ?_
  refine G.iload dX12_liesOn_142 rfl ?_
  refine G.istore (L' := [some (.ref 74), none, some (.int x2), some (.int x3), some (.int x4), some (.int x9), some (.int x6_15), some (.int x7_14), some (.int x8), some (.int x9)]) dX12_liesOn_144 (Nat.le_of_ble_eq_true rfl) (Nat.le_of_ble_eq_true rfl) rfl rfl ?_
  refine G.inc (w := 1) (L' := [some (.ref 74), none, some (.int x2), some (.int x3), some (.int x4), some (.int x9), some (.int x6_15), some (.int x7_14), some (.int (x8 + (1 : Int32))), some (.int x9)]) dX12_liesOn_146 (by decide) rfl (Nat.le_of_ble_eq_true rfl) rfl rfl ?_
  refine G.goto (tgt := 46) dX12_liesOn_149 (by decide) ?_
  have hf := Option.some.inj hf
  subst hf
  refine G.forget (L' := [some (.ref 74), none, some (.int x2), some (.int x3), some (.int x4), some (.int x9), some (.int x6_15), some (.int x7_14), some (.int (x8 + (1 : Int32))), none]) [9] rfl ?_
  exact hK
def jX12_liesOn_74 (x2 : Int32) (x3 : Int32) (x5 : Int32) (x6 : Int32) (x7 : Int32) (x8 : Int32) (x9 : Int32) (u0 : Int32) (I : Mem) : Option ((Int32 × Int32 × Int32 × Int32 × Int32) ⊕ Int32) :=
  bnd (fX12_isRoom x9 I) fun v_7 =>
  if v_7 = 0 then
  (some (.inr (-1 : Int32)))
  else
  (chk (inb ((5 : Int32) + x5) 632) <|
  bnd (fX12_has (I 75 (ix ((5 : Int32) + x5))) x9 I) fun v_10 =>
  if v_10 = 0 then
  (some (.inr (-1 : Int32)))
  else
  (bnd (fX12_has x6 x9 I) fun v_12 =>
  if v_12 = 0 then
  (chk (inb ((10 : Int32) + x9) 632) <|
  jX12_liesOn_130 x2 x3 u0 x6 x8 x9 (I 75 (ix ((10 : Int32) + x9))) x7 I)
  else
  (jX12_liesOn_130 x2 x3 u0 x6 x8 x9 (0 : Int32) x7 I)))
set_option maxRecDepth 20000 in
theorem tX12_liesOn_74 (E : EV) (d : Nat) (rr : Option Value × Mem) (x2 : Int32) (x3 : Int32) (x5 : Int32) (x6 : Int32) (x7 : Int32) (x8 : Int32) (x9 : Int32) (u0 : Int32) (I : Mem) (y : ((Int32 × Int32 × Int32 × Int32 × Int32) ⊕ Int32)) (hf : jX12_liesOn_74 x2 x3 x5 x6 x7 x8 x9 u0 I = some y) (hK : (KX12_liesOn_46 E d rr x2 x3 I (fun (z : Int32) => (some (.int z), I) = rr)) y) : G E (d + 2) kX12_liesOn 74 [some (.ref 74), none, some (.int x2), some (.int x3), none, some (.int x5), some (.int x6), some (.int x7), some (.int x8), some (.int x9)] [.int u0] I rr := by
  unfold jX12_liesOn_74 at hf
  refine G.istore (L' := [some (.ref 74), none, some (.int x2), some (.int x3), some (.int u0), some (.int x5), some (.int x6), some (.int x7), some (.int x8), some (.int x9)]) dX12_liesOn_74 (Nat.le_of_ble_eq_true rfl) (Nat.le_of_ble_eq_true rfl) rfl rfl ?_
  refine G.aload_n dX12_liesOn_76 rfl rfl ?_
  refine G.iload dX12_liesOn_77 rfl ?_
  obtain ⟨v_7, hc_6, hf⟩ := bnd_at hf
  refine G.callVi (av := [.int x9]) (rest := []) dX12_liesOn_79 mvX12_63 (gX12_isRoom E d x9 I hc_6) (by decide) rfl rfl rfl (Nat.le_of_ble_eq_true rfl) ?_
  refine G.if_eq (tgt := 102) dX12_liesOn_82 (by decide) (fun c_18 => ?_) (fun c_18 => ?_)
  · have hf := ite_t hf c_18
    refine G.iconst (v := -1) dX12_liesOn_102 (by decide) ?_
    have hf := Option.some.inj hf
    subst hf
    exact G.iret' dX12_liesOn_103 rfl hK
  · have hf := ite_f hf c_18
    refine G.aload_n dX12_liesOn_85 rfl rfl ?_
    refine G.getR (q := 75) dX12_liesOn_86 flX12_7 (by decide) rfl rfl ?_
    refine G.iconst (v := 5) dX12_liesOn_89 (by decide) ?_
    refine G.iload dX12_liesOn_90 rfl ?_
    refine G.iadd dX12_liesOn_92 ?_
    obtain ⟨hi_8, hf⟩ := chk_at hf
    refine G.iald' dX12_liesOn_93 (by decide) rfl rfl hi_8 ?_
    refine G.iload dX12_liesOn_94 rfl ?_
    obtain ⟨v_10, hc_9, hf⟩ := bnd_at hf
    refine G.callSi (av := [.int (I 75 (ix ((5 : Int32) + x5))), .int x9]) (rest := []) dX12_liesOn_96 msX12_67 (gX12_has E (d + 1) (I 75 (ix ((5 : Int32) + x5))) x9 I hc_9) rfl rfl (Nat.le_of_ble_eq_true rfl) ?_
    refine G.if_ne (tgt := 104) dX12_liesOn_99 (by decide) (fun c_17 => ?_) (fun c_17 => ?_)
    · have hf := ite_f hf c_17
      refine G.iload dX12_liesOn_104 rfl ?_
      refine G.iload dX12_liesOn_106 rfl ?_
      refine G.iload dX12_liesOn_108 rfl ?_
      obtain ⟨v_12, hc_11, hf⟩ := bnd_at hf
      refine G.callSi (av := [.int x6, .int x9]) (rest := [.int x7]) dX12_liesOn_110 msX12_67 (gX12_has E (d + 1) x6 x9 I hc_11) rfl rfl (Nat.le_of_ble_eq_true rfl) ?_
      refine G.if_eq (tgt := 120) dX12_liesOn_113 (by decide) (fun c_16 => ?_) (fun c_16 => ?_)
      · have hf := ite_t hf c_16
        refine G.aload_n dX12_liesOn_120 rfl rfl ?_
        refine G.getR (q := 75) dX12_liesOn_121 flX12_7 (by decide) rfl rfl ?_
        refine G.bipush (v := 10) dX12_liesOn_124 (by decide) ?_
        refine G.iload dX12_liesOn_126 rfl ?_
        refine G.iadd dX12_liesOn_128 ?_
        obtain ⟨hi_13, hf⟩ := chk_at hf
        refine G.iald' dX12_liesOn_129 (by decide) rfl rfl hi_13 ?_
        refine G.forget (L' := [some (.ref 74), none, some (.int x2), some (.int x3), some (.int u0), none, some (.int x6), none, some (.int x8), some (.int x9)]) [5, 7] rfl ?_
        exact tX12_liesOn_130 E d rr x2 x3 u0 x6 x8 x9 (I 75 (ix ((10 : Int32) + x9))) x7 I _ hf hK
      · have hf := ite_f hf c_16
        refine G.iconst (v := 0) dX12_liesOn_116 (by decide) ?_
        refine G.goto (tgt := 130) dX12_liesOn_117 (by decide) ?_
        refine G.forget (L' := [some (.ref 74), none, some (.int x2), some (.int x3), some (.int u0), none, some (.int x6), none, some (.int x8), some (.int x9)]) [5, 7] rfl ?_
        exact tX12_liesOn_130 E d rr x2 x3 u0 x6 x8 x9 (0 : Int32) x7 I _ hf hK
    · have hf := ite_t hf c_17
      refine G.iconst (v := -1) dX12_liesOn_102 (by decide) ?_
      have hf := Option.some.inj hf
      subst hf
      exact G.iret' dX12_liesOn_103 rfl hK
def bX12_liesOn_46 (x2 : Int32) (x3 : Int32) (I : Mem) (x4 : Int32) (x5 : Int32) (x6 : Int32) (x7 : Int32) (x8 : Int32) : Option ((Int32 × Int32 × Int32 × Int32 × Int32) ⊕ Int32) :=
  if x2 ≤ x8 then
  (some (.inr x7))
  else
  (chk (decide (¬ x4 = 0)) <|
  letb ((x3 / x4) - (x3 / x4) / (5 : Int32) * (5 : Int32)) fun x9_5 =>
  if x4 ≤ (1 : Int32) then
  (jX12_liesOn_74 x2 x3 x5 x6 x7 x8 x9_5 (1 : Int32) I)
  else
  (jX12_liesOn_74 x2 x3 x5 x6 x7 x8 x9_5 (x4 / (5 : Int32)) I))
def sX12_liesOn_46 (x2 : Int32) (x3 : Int32) (I : Mem) (q : (Int32 × Int32 × Int32 × Int32 × Int32)) : Option ((Int32 × Int32 × Int32 × Int32 × Int32) ⊕ Int32) := bX12_liesOn_46 x2 x3 I q.1 q.2.1 q.2.2.1 q.2.2.2.1 q.2.2.2.2
set_option maxRecDepth 20000 in
theorem wX12_liesOn_46 (E : EV) (d : Nat) (rr : Option Value × Mem) (x2 : Int32) (x3 : Int32) (I : Mem) (x4 : Int32) (x5 : Int32) (x6 : Int32) (x7 : Int32) (x8 : Int32) (y : ((Int32 × Int32 × Int32 × Int32 × Int32) ⊕ Int32)) (hf : bX12_liesOn_46 x2 x3 I x4 x5 x6 x7 x8 = some y) (hK : (KX12_liesOn_46 E d rr x2 x3 I (fun (z : Int32) => (some (.int z), I) = rr)) y) : G E (d + 2) kX12_liesOn 46 [some (.ref 74), none, some (.int x2), some (.int x3), some (.int x4), some (.int x5), some (.int x6), some (.int x7), some (.int x8), none] [] I rr := by
  unfold bX12_liesOn_46 at hf
  refine G.iload dX12_liesOn_46 rfl ?_
  refine G.iload_n dX12_liesOn_48 rfl rfl ?_
  refine G.icmp_ge (tgt := 152) dX12_liesOn_49 (by decide) (fun c_20 => ?_) (fun c_20 => ?_)
  · have hf := ite_t hf c_20
    refine G.iload dX12_liesOn_152 rfl ?_
    have hf := Option.some.inj hf
    subst hf
    exact G.iret' dX12_liesOn_154 rfl hK
  · have hf := ite_f hf c_20
    refine G.iload_n dX12_liesOn_52 rfl rfl ?_
    refine G.iload dX12_liesOn_53 rfl ?_
    obtain ⟨hz_4, hf⟩ := chk_at hf
    refine G.idiv dX12_liesOn_55 (of_decide_eq_true hz_4) ?_
    refine G.iconst (v := 5) dX12_liesOn_56 (by decide) ?_
    refine G.irem dX12_liesOn_57 (by decide) ?_
    refine G.nmi (fun x9_5 e_x9_5 => ?_)
    have hf := letb_at hf e_x9_5
    clear e_x9_5
    refine G.istore (L' := [some (.ref 74), none, some (.int x2), some (.int x3), some (.int x4), some (.int x5), some (.int x6), some (.int x7), some (.int x8), some (.int x9_5)]) dX12_liesOn_58 (Nat.le_of_ble_eq_true rfl) (Nat.le_of_ble_eq_true rfl) rfl rfl ?_
    refine G.iload dX12_liesOn_60 rfl ?_
    refine G.iconst (v := 1) dX12_liesOn_62 (by decide) ?_
    refine G.icmp_le (tgt := 73) dX12_liesOn_63 (by decide) (fun c_19 => ?_) (fun c_19 => ?_)
    · have hf := ite_t hf c_19
      refine G.iconst (v := 1) dX12_liesOn_73 (by decide) ?_
      refine G.forget (L' := [some (.ref 74), none, some (.int x2), some (.int x3), none, some (.int x5), some (.int x6), some (.int x7), some (.int x8), some (.int x9_5)]) [4] rfl ?_
      exact tX12_liesOn_74 E d rr x2 x3 x5 x6 x7 x8 x9_5 (1 : Int32) I _ hf hK
    · have hf := ite_f hf c_19
      refine G.iload dX12_liesOn_66 rfl ?_
      refine G.iconst (v := 5) dX12_liesOn_68 (by decide) ?_
      refine G.idiv dX12_liesOn_69 (by decide) ?_
      refine G.goto (tgt := 74) dX12_liesOn_70 (by decide) ?_
      refine G.forget (L' := [some (.ref 74), none, some (.int x2), some (.int x3), none, some (.int x5), some (.int x6), some (.int x7), some (.int x8), some (.int x9_5)]) [4] rfl ?_
      exact tX12_liesOn_74 E d rr x2 x3 x5 x6 x7 x8 x9_5 (x4 / (5 : Int32)) I _ hf hK
theorem lX12_liesOn_46 (E : EV) (d : Nat) (rr : Option Value × Mem) (x2 : Int32) (x3 : Int32) (I : Mem) (z : Int32) (hK : (fun (z : Int32) => (some (.int z), I) = rr) z) : ∀ (n : Nat) (q : (Int32 × Int32 × Int32 × Int32 × Int32)), iter (sX12_liesOn_46 x2 x3 I) n q = some z → G E (d + 2) kX12_liesOn 46 [some (.ref 74), none, some (.int x2), some (.int x3), some (.int q.1), some (.int q.2.1), some (.int q.2.2.1), some (.int q.2.2.2.1), some (.int q.2.2.2.2), none] [] I rr := by
  intro n
  induction n with
  | zero => intro q h; cases h
  | succ n ih =>
    intro q h
    rcases iter_at h with ⟨q2, hs, h2⟩ | hs
    · exact wX12_liesOn_46 E d rr x2 x3 I q.1 q.2.1 q.2.2.1 q.2.2.2.1 q.2.2.2.2 _ hs (ih q2 h2)
    · exact wX12_liesOn_46 E d rr x2 x3 I q.1 q.2.1 q.2.2.1 q.2.2.2.1 q.2.2.2.2 _ hs hK
def bX12_liesOn_6 (x1 : Int32) (x2 : Int32) (x3 : Int32) (I : Mem) (x4 : Int32) (x5 : Int32) : Option ((Int32 × Int32) ⊕ Int32) :=
  if x2 ≤ x5 then
  (letb ((1 : Int32) <<< (x1 &&& 31)) fun x6_1 =>
  chk (inb ((10 : Int32) + x1) 632) <|
  letb (I 75 (ix ((10 : Int32) + x1))) fun x7_3 =>
  inrO (iter (sX12_liesOn_46 x2 x3 I) FU (x4, x1, x6_1, x7_3, (0 : Int32))))
  else
  (letb (x4 * (5 : Int32)) fun x4_22 =>
  some (.inl (x4_22, (x5 + (1 : Int32)))))
def sX12_liesOn_6 (x1 : Int32) (x2 : Int32) (x3 : Int32) (I : Mem) (q : (Int32 × Int32)) : Option ((Int32 × Int32) ⊕ Int32) := bX12_liesOn_6 x1 x2 x3 I q.1 q.2
set_option maxRecDepth 20000 in
theorem wX12_liesOn_6 (E : EV) (d : Nat) (rr : Option Value × Mem) (x1 : Int32) (x2 : Int32) (x3 : Int32) (I : Mem) (x4 : Int32) (x5 : Int32) (y : ((Int32 × Int32) ⊕ Int32)) (hf : bX12_liesOn_6 x1 x2 x3 I x4 x5 = some y) (hK : (KX12_liesOn_6 E d rr x1 x2 x3 I (fun (z : Int32) => (some (.int z), I) = rr)) y) : G E (d + 2) kX12_liesOn 6 [some (.ref 74), some (.int x1), some (.int x2), some (.int x3), some (.int x4), some (.int x5), none, none, none, none] [] I rr := by
  unfold bX12_liesOn_6 at hf
  refine G.iload dX12_liesOn_6 rfl ?_
  refine G.iload_n dX12_liesOn_8 rfl rfl ?_
  refine G.icmp_ge (tgt := 24) dX12_liesOn_9 (by decide) (fun c_23 => ?_) (fun c_23 => ?_)
  · have hf := ite_t hf c_23
    refine G.iload_n dX12_liesOn_24 rfl rfl ?_
    refine G.istore (L' := [some (.ref 74), some (.int x1), some (.int x2), some (.int x3), some (.int x4), some (.int x1), none, none, none, none]) dX12_liesOn_25 (Nat.le_of_ble_eq_true rfl) (Nat.le_of_ble_eq_true rfl) rfl rfl ?_
    refine G.iconst (v := 1) dX12_liesOn_27 (by decide) ?_
    refine G.iload_n dX12_liesOn_28 rfl rfl ?_
    refine G.ishl dX12_liesOn_29 ?_
    refine G.nmi (fun x6_1 e_x6_1 => ?_)
    have hf := letb_at hf e_x6_1
    clear e_x6_1
    refine G.istore (L' := [some (.ref 74), some (.int x1), some (.int x2), some (.int x3), some (.int x4), some (.int x1), some (.int x6_1), none, none, none]) dX12_liesOn_30 (Nat.le_of_ble_eq_true rfl) (Nat.le_of_ble_eq_true rfl) rfl rfl ?_
    refine G.aload_n dX12_liesOn_32 rfl rfl ?_
    refine G.getR (q := 75) dX12_liesOn_33 flX12_7 (by decide) rfl rfl ?_
    refine G.bipush (v := 10) dX12_liesOn_36 (by decide) ?_
    refine G.iload_n dX12_liesOn_38 rfl rfl ?_
    refine G.iadd dX12_liesOn_39 ?_
    obtain ⟨hi_2, hf⟩ := chk_at hf
    refine G.iald' dX12_liesOn_40 (by decide) rfl rfl hi_2 ?_
    refine G.nmi (fun x7_3 e_x7_3 => ?_)
    have hf := letb_at hf e_x7_3
    clear e_x7_3
    refine G.istore (L' := [some (.ref 74), some (.int x1), some (.int x2), some (.int x3), some (.int x4), some (.int x1), some (.int x6_1), some (.int x7_3), none, none]) dX12_liesOn_41 (Nat.le_of_ble_eq_true rfl) (Nat.le_of_ble_eq_true rfl) rfl rfl ?_
    refine G.iconst (v := 0) dX12_liesOn_43 (by decide) ?_
    refine G.istore (L' := [some (.ref 74), some (.int x1), some (.int x2), some (.int x3), some (.int x4), some (.int x1), some (.int x6_1), some (.int x7_3), some (.int (0 : Int32)), none]) dX12_liesOn_44 (Nat.le_of_ble_eq_true rfl) (Nat.le_of_ble_eq_true rfl) rfl rfl ?_
    obtain ⟨z_21, hz_21, rfl⟩ := inrO_at hf
    have hf := hz_21
    refine G.forget (L' := [some (.ref 74), none, some (.int x2), some (.int x3), some (.int x4), some (.int x1), some (.int x6_1), some (.int x7_3), some (.int (0 : Int32)), none]) [1] rfl ?_
    exact lX12_liesOn_46 E d rr x2 x3 I _ hK FU _ hf
  · have hf := ite_f hf c_23
    refine G.iload dX12_liesOn_12 rfl ?_
    refine G.iconst (v := 5) dX12_liesOn_14 (by decide) ?_
    refine G.imul dX12_liesOn_15 ?_
    refine G.nmi (fun x4_22 e_x4_22 => ?_)
    have hf := letb_at hf e_x4_22
    clear e_x4_22
    refine G.istore (L' := [some (.ref 74), some (.int x1), some (.int x2), some (.int x3), some (.int x4_22), some (.int x5), none, none, none, none]) dX12_liesOn_16 (Nat.le_of_ble_eq_true rfl) (Nat.le_of_ble_eq_true rfl) rfl rfl ?_
    refine G.inc (w := 1) (L' := [some (.ref 74), some (.int x1), some (.int x2), some (.int x3), some (.int x4_22), some (.int (x5 + (1 : Int32))), none, none, none, none]) dX12_liesOn_18 (by decide) rfl (Nat.le_of_ble_eq_true rfl) rfl rfl ?_
    refine G.goto (tgt := 6) dX12_liesOn_21 (by decide) ?_
    have hf := Option.some.inj hf
    subst hf
    exact hK
theorem lX12_liesOn_6 (E : EV) (d : Nat) (rr : Option Value × Mem) (x1 : Int32) (x2 : Int32) (x3 : Int32) (I : Mem) (z : Int32) (hK : (fun (z : Int32) => (some (.int z), I) = rr) z) : ∀ (n : Nat) (q : (Int32 × Int32)), iter (sX12_liesOn_6 x1 x2 x3 I) n q = some z → G E (d + 2) kX12_liesOn 6 [some (.ref 74), some (.int x1), some (.int x2), some (.int x3), some (.int q.1), some (.int q.2), none, none, none, none] [] I rr := by
  intro n
  induction n with
  | zero => intro q h; cases h
  | succ n ih =>
    intro q h
    rcases iter_at h with ⟨q2, hs, h2⟩ | hs
    · exact wX12_liesOn_6 E d rr x1 x2 x3 I q.1 q.2 _ hs (ih q2 h2)
    · exact wX12_liesOn_6 E d rr x1 x2 x3 I q.1 q.2 _ hs hK
def fX12_liesOn (x1 : Int32) (x2 : Int32) (x3 : Int32) (I : Mem) : Option Int32 :=
  iter (sX12_liesOn_6 x1 x2 x3 I) FU ((1 : Int32), (1 : Int32))
set_option maxRecDepth 20000 in
theorem gX12_liesOn (E : EV) (d : Nat) (x1 : Int32) (x2 : Int32) (x3 : Int32) (I : Mem) {v : Int32} (hf : fX12_liesOn x1 x2 x3 I = some v) : Gm E (d + 2) kX12_liesOn [.ref 74, .int x1, .int x2, .int x3] I (some (.int v), I) := by
  refine (fun (y : Int32) (hf : fX12_liesOn x1 x2 x3 I = some y) => (?_ : Gm E (d + 2) kX12_liesOn [.ref 74, .int x1, .int x2, .int x3] I (some (.int y), I))) v hf
  refine Gm.of (by decide) rfl (Nat.le_of_ble_eq_true rfl) ?_
  generalize hrr : ((some (.int y), I) : Option Value × Mem) = rr
  show G E (d + 2) kX12_liesOn 0 [some (.ref 74), some (.int x1), some (.int x2), some (.int x3), none, none, none, none, none, none] [] I rr
  have hK : (fun (z : Int32) => (some (.int z), I) = rr) y := hrr
  clear hrr
  unfold fX12_liesOn at hf
  refine G.iconst (v := 1) dX12_liesOn_0 (by decide) ?_
  refine G.istore (L' := [some (.ref 74), some (.int x1), some (.int x2), some (.int x3), some (.int (1 : Int32)), none, none, none, none, none]) dX12_liesOn_1 (Nat.le_of_ble_eq_true rfl) (Nat.le_of_ble_eq_true rfl) rfl rfl ?_
  refine G.iconst (v := 1) dX12_liesOn_3 (by decide) ?_
  refine G.istore (L' := [some (.ref 74), some (.int x1), some (.int x2), some (.int x3), some (.int (1 : Int32)), some (.int (1 : Int32)), none, none, none, none]) dX12_liesOn_4 (Nat.le_of_ble_eq_true rfl) (Nat.le_of_ble_eq_true rfl) rfl rfl ?_
  exact lX12_liesOn_6 E d rr x1 x2 x3 I _ hK FU _ hf
theorem dX12_figure_0 : decode cX12_figure 0 = .ok (.iload_n 0, 1) := by decide +kernel
theorem dX12_figure_1 : decode cX12_figure 1 = .ok (.istore_n 2, 1) := by decide +kernel
theorem dX12_figure_2 : decode cX12_figure 2 = .ok (.iconst 0, 1) := by decide +kernel
theorem dX12_figure_3 : decode cX12_figure 3 = .ok (.istore_n 3, 1) := by decide +kernel
theorem dX12_figure_4 : decode cX12_figure 4 = .ok (.iload_n 3, 1) := by decide +kernel
theorem dX12_figure_5 : decode cX12_figure 5 = .ok (.iload_n 1, 1) := by decide +kernel
theorem dX12_figure_6 : decode cX12_figure 6 = .ok (.if_icmp .ge 13, 3) := by decide +kernel
theorem dX12_figure_9 : decode cX12_figure 9 = .ok (.iload_n 2, 1) := by decide +kernel
theorem dX12_figure_10 : decode cX12_figure 10 = .ok (.iconst 5, 1) := by decide +kernel
theorem dX12_figure_11 : decode cX12_figure 11 = .ok (.idiv, 1) := by decide +kernel
theorem dX12_figure_12 : decode cX12_figure 12 = .ok (.istore_n 2, 1) := by decide +kernel
theorem dX12_figure_13 : decode cX12_figure 13 = .ok (.iinc 3 1, 3) := by decide +kernel
theorem dX12_figure_16 : decode cX12_figure 16 = .ok (.goto (-12), 3) := by decide +kernel
theorem dX12_figure_19 : decode cX12_figure 19 = .ok (.iload_n 2, 1) := by decide +kernel
theorem dX12_figure_20 : decode cX12_figure 20 = .ok (.iconst 5, 1) := by decide +kernel
theorem dX12_figure_21 : decode cX12_figure 21 = .ok (.irem, 1) := by decide +kernel
theorem dX12_figure_22 : decode cX12_figure 22 = .ok (.ireturn, 1) := by decide +kernel
def KX12_figure_4 (E : EV) (d : Nat) (rr : Option Value × Mem) (x1 : Int32) (I : Mem) (Kp : Int32 → Prop) : ((Int32 × Int32) ⊕ Int32) → Prop
  | .inl q => G E (d + 0) kX12_figure 4 [none, some (.int x1), some (.int q.1), some (.int q.2)] [] I rr
  | .inr z => Kp z
def bX12_figure_4 (x1 : Int32) (I : Mem) (x2 : Int32) (x3 : Int32) : Option ((Int32 × Int32) ⊕ Int32) :=
  if x1 ≤ x3 then
  (some (.inr (x2 - x2 / (5 : Int32) * (5 : Int32))))
  else
  (letb (x2 / (5 : Int32)) fun x2_1 =>
  some (.inl (x2_1, (x3 + (1 : Int32)))))
def sX12_figure_4 (x1 : Int32) (I : Mem) (q : (Int32 × Int32)) : Option ((Int32 × Int32) ⊕ Int32) := bX12_figure_4 x1 I q.1 q.2
set_option maxRecDepth 20000 in
theorem wX12_figure_4 (E : EV) (d : Nat) (rr : Option Value × Mem) (x1 : Int32) (I : Mem) (x2 : Int32) (x3 : Int32) (y : ((Int32 × Int32) ⊕ Int32)) (hf : bX12_figure_4 x1 I x2 x3 = some y) (hK : (KX12_figure_4 E d rr x1 I (fun (z : Int32) => (some (.int z), I) = rr)) y) : G E (d + 0) kX12_figure 4 [none, some (.int x1), some (.int x2), some (.int x3)] [] I rr := by
  unfold bX12_figure_4 at hf
  refine G.iload_n dX12_figure_4 rfl rfl ?_
  refine G.iload_n dX12_figure_5 rfl rfl ?_
  refine G.icmp_ge (tgt := 19) dX12_figure_6 (by decide) (fun c_2 => ?_) (fun c_2 => ?_)
  · have hf := ite_t hf c_2
    refine G.iload_n dX12_figure_19 rfl rfl ?_
    refine G.iconst (v := 5) dX12_figure_20 (by decide) ?_
    refine G.irem dX12_figure_21 (by decide) ?_
    have hf := Option.some.inj hf
    subst hf
    exact G.iret' dX12_figure_22 rfl hK
  · have hf := ite_f hf c_2
    refine G.iload_n dX12_figure_9 rfl rfl ?_
    refine G.iconst (v := 5) dX12_figure_10 (by decide) ?_
    refine G.idiv dX12_figure_11 (by decide) ?_
    refine G.nmi (fun x2_1 e_x2_1 => ?_)
    have hf := letb_at hf e_x2_1
    clear e_x2_1
    refine G.istore_n (L' := [none, some (.int x1), some (.int x2_1), some (.int x3)]) dX12_figure_12 rfl (Nat.le_of_ble_eq_true rfl) (Nat.le_of_ble_eq_true rfl) rfl rfl ?_
    refine G.inc (w := 1) (L' := [none, some (.int x1), some (.int x2_1), some (.int (x3 + (1 : Int32)))]) dX12_figure_13 (by decide) rfl (Nat.le_of_ble_eq_true rfl) rfl rfl ?_
    refine G.goto (tgt := 4) dX12_figure_16 (by decide) ?_
    have hf := Option.some.inj hf
    subst hf
    exact hK
theorem lX12_figure_4 (E : EV) (d : Nat) (rr : Option Value × Mem) (x1 : Int32) (I : Mem) (z : Int32) (hK : (fun (z : Int32) => (some (.int z), I) = rr) z) : ∀ (n : Nat) (q : (Int32 × Int32)), iter (sX12_figure_4 x1 I) n q = some z → G E (d + 0) kX12_figure 4 [none, some (.int x1), some (.int q.1), some (.int q.2)] [] I rr := by
  intro n
  induction n with
  | zero => intro q h; cases h
  | succ n ih =>
    intro q h
    rcases iter_at h with ⟨q2, hs, h2⟩ | hs
    · exact wX12_figure_4 E d rr x1 I q.1 q.2 _ hs (ih q2 h2)
    · exact wX12_figure_4 E d rr x1 I q.1 q.2 _ hs hK
def fX12_figure (x0 : Int32) (x1 : Int32) (I : Mem) : Option Int32 :=
  iter (sX12_figure_4 x1 I) FU (x0, (0 : Int32))
set_option maxRecDepth 20000 in
theorem gX12_figure (E : EV) (d : Nat) (x0 : Int32) (x1 : Int32) (I : Mem) {v : Int32} (hf : fX12_figure x0 x1 I = some v) : Gm E (d + 0) kX12_figure [.int x0, .int x1] I (some (.int v), I) := by
  refine (fun (y : Int32) (hf : fX12_figure x0 x1 I = some y) => (?_ : Gm E (d + 0) kX12_figure [.int x0, .int x1] I (some (.int y), I))) v hf
  refine Gm.of (by decide) rfl (Nat.le_of_ble_eq_true rfl) ?_
  generalize hrr : ((some (.int y), I) : Option Value × Mem) = rr
  show G E (d + 0) kX12_figure 0 [some (.int x0), some (.int x1), none, none] [] I rr
  have hK : (fun (z : Int32) => (some (.int z), I) = rr) y := hrr
  clear hrr
  unfold fX12_figure at hf
  refine G.iload_n dX12_figure_0 rfl rfl ?_
  refine G.istore_n (L' := [some (.int x0), some (.int x1), some (.int x0), none]) dX12_figure_1 rfl (Nat.le_of_ble_eq_true rfl) (Nat.le_of_ble_eq_true rfl) rfl rfl ?_
  refine G.iconst (v := 0) dX12_figure_2 (by decide) ?_
  refine G.istore_n (L' := [some (.int x0), some (.int x1), some (.int x0), some (.int (0 : Int32))]) dX12_figure_3 rfl (Nat.le_of_ble_eq_true rfl) (Nat.le_of_ble_eq_true rfl) rfl rfl ?_
  refine G.forget (L' := [none, some (.int x1), some (.int x0), some (.int (0 : Int32))]) [0] rfl ?_
  exact lX12_figure_4 E d rr x1 I _ hK FU _ hf
theorem dX12_picks_0 : decode cX12_picks 0 = .ok (.aload_n 0, 1) := by decide +kernel
theorem dX12_picks_1 : decode cX12_picks 1 = .ok (.iload_n 1, 1) := by decide +kernel
theorem dX12_picks_2 : decode cX12_picks 2 = .ok (.invokevirtual 63, 3) := by decide +kernel
theorem dX12_picks_5 : decode cX12_picks 5 = .ok (.ifCond .eq 20, 3) := by decide +kernel
theorem dX12_picks_8 : decode cX12_picks 8 = .ok (.iload_n 2, 1) := by decide +kernel
theorem dX12_picks_9 : decode cX12_picks 9 = .ok (.i2l, 1) := by decide +kernel
theorem dX12_picks_10 : decode cX12_picks 10 = .ok (.lconst 0, 1) := by decide +kernel
theorem dX12_picks_11 : decode cX12_picks 11 = .ok (.ldc2_w 213, 3) := by decide +kernel
theorem dX12_picks_14 : decode cX12_picks 14 = .ok (.invokestatic 49, 3) := by decide +kernel
theorem dX12_picks_17 : decode cX12_picks 17 = .ok (.ifCond .eq 8, 3) := by decide +kernel
theorem dX12_picks_20 : decode cX12_picks 20 = .ok (.iload_n 3, 1) := by decide +kernel
theorem dX12_picks_21 : decode cX12_picks 21 = .ok (.iconst (-1), 1) := by decide +kernel
theorem dX12_picks_22 : decode cX12_picks 22 = .ok (.if_icmp .ge 10, 3) := by decide +kernel
theorem dX12_picks_25 : decode cX12_picks 25 = .ok (.aload_n 0, 1) := by decide +kernel
theorem dX12_picks_26 : decode cX12_picks 26 = .ok (.bipush (-10), 2) := by decide +kernel
theorem dX12_picks_28 : decode cX12_picks 28 = .ok (.invokevirtual 59, 3) := by decide +kernel
theorem dX12_picks_31 : decode cX12_picks 31 = .ok (.ireturn, 1) := by decide +kernel
theorem dX12_picks_32 : decode cX12_picks 32 = .ok (.iconst (-1), 1) := by decide +kernel
theorem dX12_picks_33 : decode cX12_picks 33 = .ok (.istore 4, 2) := by decide +kernel
theorem dX12_picks_35 : decode cX12_picks 35 = .ok (.iconst 0, 1) := by decide +kernel
theorem dX12_picks_36 : decode cX12_picks 36 = .ok (.istore 5, 2) := by decide +kernel
theorem dX12_picks_38 : decode cX12_picks 38 = .ok (.iconst 0, 1) := by decide +kernel
theorem dX12_picks_39 : decode cX12_picks 39 = .ok (.istore 6, 2) := by decide +kernel
theorem dX12_picks_41 : decode cX12_picks 41 = .ok (.iconst 1, 1) := by decide +kernel
theorem dX12_picks_42 : decode cX12_picks 42 = .ok (.istore 7, 2) := by decide +kernel
theorem dX12_picks_44 : decode cX12_picks 44 = .ok (.iconst 0, 1) := by decide +kernel
theorem dX12_picks_45 : decode cX12_picks 45 = .ok (.istore 8, 2) := by decide +kernel
theorem dX12_picks_47 : decode cX12_picks 47 = .ok (.iload 8, 2) := by decide +kernel
theorem dX12_picks_49 : decode cX12_picks 49 = .ok (.iload_n 2, 1) := by decide +kernel
theorem dX12_picks_50 : decode cX12_picks 50 = .ok (.if_icmp .gt 90, 3) := by decide +kernel
theorem dX12_picks_53 : decode cX12_picks 53 = .ok (.iconst 0, 1) := by decide +kernel
theorem dX12_picks_54 : decode cX12_picks 54 = .ok (.istore 9, 2) := by decide +kernel
theorem dX12_picks_56 : decode cX12_picks 56 = .ok (.iload 9, 2) := by decide +kernel
theorem dX12_picks_58 : decode cX12_picks 58 = .ok (.iload 7, 2) := by decide +kernel
theorem dX12_picks_60 : decode cX12_picks 60 = .ok (.if_icmp .ge 68, 3) := by decide +kernel
theorem dX12_picks_63 : decode cX12_picks 63 = .ok (.aload_n 0, 1) := by decide +kernel
theorem dX12_picks_64 : decode cX12_picks 64 = .ok (.iload_n 1, 1) := by decide +kernel
theorem dX12_picks_65 : decode cX12_picks 65 = .ok (.iload 8, 2) := by decide +kernel
theorem dX12_picks_67 : decode cX12_picks 67 = .ok (.iload 9, 2) := by decide +kernel
theorem dX12_picks_69 : decode cX12_picks 69 = .ok (.invokevirtual 215, 3) := by decide +kernel
theorem dX12_picks_72 : decode cX12_picks 72 = .ok (.istore 10, 2) := by decide +kernel
theorem dX12_picks_74 : decode cX12_picks 74 = .ok (.iload 10, 2) := by decide +kernel
theorem dX12_picks_76 : decode cX12_picks 76 = .ok (.iload 4, 2) := by decide +kernel
theorem dX12_picks_78 : decode cX12_picks 78 = .ok (.if_icmp .le 8, 3) := by decide +kernel
theorem dX12_picks_81 : decode cX12_picks 81 = .ok (.iload 8, 2) := by decide +kernel
theorem dX12_picks_83 : decode cX12_picks 83 = .ok (.goto 5, 3) := by decide +kernel
theorem dX12_picks_86 : decode cX12_picks 86 = .ok (.iload 5, 2) := by decide +kernel
theorem dX12_picks_88 : decode cX12_picks 88 = .ok (.istore 5, 2) := by decide +kernel
theorem dX12_picks_90 : decode cX12_picks 90 = .ok (.iload 10, 2) := by decide +kernel
theorem dX12_picks_92 : decode cX12_picks 92 = .ok (.iload 4, 2) := by decide +kernel
theorem dX12_picks_94 : decode cX12_picks 94 = .ok (.if_icmp .le 8, 3) := by decide +kernel
theorem dX12_picks_97 : decode cX12_picks 97 = .ok (.iload 9, 2) := by decide +kernel
theorem dX12_picks_99 : decode cX12_picks 99 = .ok (.goto 5, 3) := by decide +kernel
theorem dX12_picks_102 : decode cX12_picks 102 = .ok (.iload 6, 2) := by decide +kernel
theorem dX12_picks_104 : decode cX12_picks 104 = .ok (.istore 6, 2) := by decide +kernel
theorem dX12_picks_106 : decode cX12_picks 106 = .ok (.iload 10, 2) := by decide +kernel
theorem dX12_picks_108 : decode cX12_picks 108 = .ok (.iload 4, 2) := by decide +kernel
theorem dX12_picks_110 : decode cX12_picks 110 = .ok (.if_icmp .le 8, 3) := by decide +kernel
theorem dX12_picks_113 : decode cX12_picks 113 = .ok (.iload 10, 2) := by decide +kernel
theorem dX12_picks_115 : decode cX12_picks 115 = .ok (.goto 5, 3) := by decide +kernel
theorem dX12_picks_118 : decode cX12_picks 118 = .ok (.iload 4, 2) := by decide +kernel
theorem dX12_picks_120 : decode cX12_picks 120 = .ok (.istore 4, 2) := by decide +kernel
theorem dX12_picks_122 : decode cX12_picks 122 = .ok (.iinc 9 1, 3) := by decide +kernel
theorem dX12_picks_125 : decode cX12_picks 125 = .ok (.goto (-69), 3) := by decide +kernel
theorem dX12_picks_128 : decode cX12_picks 128 = .ok (.iload 7, 2) := by decide +kernel
theorem dX12_picks_130 : decode cX12_picks 130 = .ok (.iconst 5, 1) := by decide +kernel
theorem dX12_picks_131 : decode cX12_picks 131 = .ok (.imul, 1) := by decide +kernel
theorem dX12_picks_132 : decode cX12_picks 132 = .ok (.istore 7, 2) := by decide +kernel
theorem dX12_picks_134 : decode cX12_picks 134 = .ok (.iinc 8 1, 3) := by decide +kernel
theorem dX12_picks_137 : decode cX12_picks 137 = .ok (.goto (-90), 3) := by decide +kernel
theorem dX12_picks_140 : decode cX12_picks 140 = .ok (.iload_n 3, 1) := by decide +kernel
theorem dX12_picks_141 : decode cX12_picks 141 = .ok (.iconst (-1), 1) := by decide +kernel
theorem dX12_picks_142 : decode cX12_picks 142 = .ok (.if_icmp .eq 9, 3) := by decide +kernel
theorem dX12_picks_145 : decode cX12_picks 145 = .ok (.iload_n 3, 1) := by decide +kernel
theorem dX12_picks_146 : decode cX12_picks 146 = .ok (.iload 5, 2) := by decide +kernel
theorem dX12_picks_148 : decode cX12_picks 148 = .ok (.if_icmp .le 16, 3) := by decide +kernel
theorem dX12_picks_151 : decode cX12_picks 151 = .ok (.iload_n 3, 1) := by decide +kernel
theorem dX12_picks_152 : decode cX12_picks 152 = .ok (.iconst (-1), 1) := by decide +kernel
theorem dX12_picks_153 : decode cX12_picks 153 = .ok (.if_icmp .ne 8, 3) := by decide +kernel
theorem dX12_picks_156 : decode cX12_picks 156 = .ok (.iload 4, 2) := by decide +kernel
theorem dX12_picks_158 : decode cX12_picks 158 = .ok (.goto 5, 3) := by decide +kernel
theorem dX12_picks_161 : decode cX12_picks 161 = .ok (.bipush (-5), 2) := by decide +kernel
theorem dX12_picks_163 : decode cX12_picks 163 = .ok (.ireturn, 1) := by decide +kernel
theorem dX12_picks_164 : decode cX12_picks 164 = .ok (.iload_n 3, 1) := by decide +kernel
theorem dX12_picks_165 : decode cX12_picks 165 = .ok (.ifCond .ne 7, 3) := by decide +kernel
theorem dX12_picks_168 : decode cX12_picks 168 = .ok (.iload_n 1, 1) := by decide +kernel
theorem dX12_picks_169 : decode cX12_picks 169 = .ok (.goto 12, 3) := by decide +kernel
theorem dX12_picks_172 : decode cX12_picks 172 = .ok (.iload 6, 2) := by decide +kernel
theorem dX12_picks_174 : decode cX12_picks 174 = .ok (.iload 5, 2) := by decide +kernel
theorem dX12_picks_176 : decode cX12_picks 176 = .ok (.iload_n 3, 1) := by decide +kernel
theorem dX12_picks_177 : decode cX12_picks 177 = .ok (.isub, 1) := by decide +kernel
theorem dX12_picks_178 : decode cX12_picks 178 = .ok (.invokestatic 218, 3) := by decide +kernel
theorem dX12_picks_181 : decode cX12_picks 181 = .ok (.ireturn, 1) := by decide +kernel
def jX12_picks_25 (I : Mem) : Option (Int32 × Mem) :=
  bnd2 (fX12_bad (-10 : Int32) I) fun v_4 I_5 =>
  some (v_4, I_5)
set_option maxRecDepth 20000 in
theorem tX12_picks_25 (E : EV) (d : Nat) (rr : Option Value × Mem) (I : Mem) (y : (Int32 × Mem)) (hf : jX12_picks_25 I = some y) (hK : (fun (z : Int32 × Mem) => (some (.int z.1), z.2) = rr) y) : G E (d + 3) kX12_picks 25 [some (.ref 74), none, none, none, none, none, none, none, none, none, none] [] I rr := by
  unfold jX12_picks_25 at hf
  refine G.aload_n dX12_picks_25 rfl rfl ?_
  refine G.bipush (v := -10) dX12_picks_26 (by decide) ?_
  obtain ⟨v_4, I_5, hc_3, hf⟩ := bnd2_at hf
  refine G.callVi (av := [.int (-10 : Int32)]) (rest := []) dX12_picks_28 mvX12_59 (gX12_bad E (d + 2) (-10 : Int32) I hc_3) (by decide) rfl rfl rfl (Nat.le_of_ble_eq_true rfl) ?_
  have hf := Option.some.inj hf
  subst hf
  exact G.iret' dX12_picks_31 rfl hK
def KX12_picks_47 (E : EV) (d : Nat) (rr : Option Value × Mem) (x1 : Int32) (x2 : Int32) (x3 : Int32) (I : Mem) (Kp : (Int32 × Mem) → Prop) : ((Int32 × Int32 × Int32 × Int32 × Int32) ⊕ (Int32 × Mem)) → Prop
  | .inl q => G E (d + 3) kX12_picks 47 [some (.ref 74), some (.int x1), some (.int x2), some (.int x3), some (.int q.1), some (.int q.2.1), some (.int q.2.2.1), some (.int q.2.2.2.1), some (.int q.2.2.2.2), none, none] [] I rr
  | .inr z => Kp z
def jX12_picks_151 (x3 : Int32) (x4 : Int32) (I : Mem) : Option (Int32 × Mem) :=
  if x3 = (-1 : Int32) then
  (some (x4, I))
  else
  (some ((-5 : Int32), I))
set_option maxRecDepth 20000 in
theorem tX12_picks_151 (E : EV) (d : Nat) (rr : Option Value × Mem) (x3 : Int32) (x4 : Int32) (I : Mem) (y : (Int32 × Mem)) (hf : jX12_picks_151 x3 x4 I = some y) (hK : (fun (z : Int32 × Mem) => (some (.int z.1), z.2) = rr) y) : G E (d + 3) kX12_picks 151 [none, none, none, some (.int x3), some (.int x4), none, none, none, none, none, none] [] I rr := by
  unfold jX12_picks_151 at hf
  refine G.iload_n dX12_picks_151 rfl rfl ?_
  refine G.iconst (v := -1) dX12_picks_152 (by decide) ?_
  refine G.icmp_ne (tgt := 161) dX12_picks_153 (by decide) (fun c_8 => ?_) (fun c_8 => ?_)
  · have hf := ite_f hf c_8
    refine G.bipush (v := -5) dX12_picks_161 (by decide) ?_
    have hf := Option.some.inj hf
    subst hf
    exact G.iret' dX12_picks_163 rfl hK
  · have hf := ite_t hf c_8
    refine G.iload dX12_picks_156 rfl ?_
    refine G.goto (tgt := 163) dX12_picks_158 (by decide) ?_
    have hf := Option.some.inj hf
    subst hf
    exact G.iret' dX12_picks_163 rfl hK
def KX12_picks_56 (E : EV) (d : Nat) (rr : Option Value × Mem) (x1 : Int32) (x2 : Int32) (x3 : Int32) (x7 : Int32) (x8 : Int32) (I : Mem) (Kp : ((Int32 × Int32 × Int32 × Int32 × Int32) ⊕ (Int32 × Mem)) → Prop) : ((Int32 × Int32 × Int32 × Int32) ⊕ ((Int32 × Int32 × Int32 × Int32 × Int32) ⊕ (Int32 × Mem))) → Prop
  | .inl q => G E (d + 3) kX12_picks 56 [some (.ref 74), some (.int x1), some (.int x2), some (.int x3), some (.int q.1), some (.int q.2.1), some (.int q.2.2.1), some (.int x7), some (.int x8), some (.int q.2.2.2), none] [] I rr
  | .inr z => Kp z
def jX12_picks_104 (x1 : Int32) (x2 : Int32) (x3 : Int32) (x4 : Int32) (x5 : Int32) (x7 : Int32) (x8 : Int32) (x9 : Int32) (x10 : Int32) (u0 : Int32) (I : Mem) : Option ((Int32 × Int32 × Int32 × Int32) ⊕ ((Int32 × Int32 × Int32 × Int32 × Int32) ⊕ (Int32 × Mem))) :=
  if x10 ≤ x4 then
  (some (.inl (x4, x5, u0, (x9 + (1 : Int32)))))
  else
  (some (.inl (x10, x5, u0, (x9 + (1 : Int32)))))
set_option maxRecDepth 20000 in
theorem tX12_picks_104 (E : EV) (d : Nat) (rr : Option Value × Mem) (x1 : Int32) (x2 : Int32) (x3 : Int32) (x4 : Int32) (x5 : Int32) (x7 : Int32) (x8 : Int32) (x9 : Int32) (x10 : Int32) (u0 : Int32) (I : Mem) (y : ((Int32 × Int32 × Int32 × Int32) ⊕ ((Int32 × Int32 × Int32 × Int32 × Int32) ⊕ (Int32 × Mem)))) (hf : jX12_picks_104 x1 x2 x3 x4 x5 x7 x8 x9 x10 u0 I = some y) (hK : (KX12_picks_56 E d rr x1 x2 x3 x7 x8 I (KX12_picks_47 E d rr x1 x2 x3 I (fun (z : Int32 × Mem) => (some (.int z.1), z.2) = rr))) y) : G E (d + 3) kX12_picks 104 [some (.ref 74), some (.int x1), some (.int x2), some (.int x3), some (.int x4), some (.int x5), none, some (.int x7), some (.int x8), some (.int x9), some (.int x10)] [.int u0] I rr := by
  unfold jX12_picks_104 at hf
  refine G.istore (L' := [some (.ref 74), some (.int x1), some (.int x2), some (.int x3), some (.int x4), some (.int x5), some (.int u0), some (.int x7), some (.int x8), some (.int x9), some (.int x10)]) dX12_picks_104 (Nat.le_of_ble_eq_true rfl) (Nat.le_of_ble_eq_true rfl) rfl rfl ?_
  refine G.iload dX12_picks_106 rfl ?_
  refine G.iload dX12_picks_108 rfl ?_
  refine G.icmp_le (tgt := 118) dX12_picks_110 (by decide) (fun c_19 => ?_) (fun c_19 => ?_)
  · have hf := ite_t hf c_19
    refine G.iload dX12_picks_118 rfl ?_
    refine G.istore (L' := [some (.ref 74), some (.int x1), some (.int x2), some (.int x3), some (.int x4), some (.int x5), some (.int u0), some (.int x7), some (.int x8), some (.int x9), some (.int x10)]) dX12_picks_120 (Nat.le_of_ble_eq_true rfl) (Nat.le_of_ble_eq_true rfl) rfl rfl ?_
    refine G.inc (w := 1) (L' := [some (.ref 74), some (.int x1), some (.int x2), some (.int x3), some (.int x4), some (.int x5), some (.int u0), some (.int x7), some (.int x8), some (.int (x9 + (1 : Int32))), some (.int x10)]) dX12_picks_122 (by decide) rfl (Nat.le_of_ble_eq_true rfl) rfl rfl ?_
    refine G.goto (tgt := 56) dX12_picks_125 (by decide) ?_
    have hf := Option.some.inj hf
    subst hf
    refine G.forget (L' := [some (.ref 74), some (.int x1), some (.int x2), some (.int x3), some (.int x4), some (.int x5), some (.int u0), some (.int x7), some (.int x8), some (.int (x9 + (1 : Int32))), none]) [10] rfl ?_
    exact hK
  · have hf := ite_f hf c_19
    refine G.iload dX12_picks_113 rfl ?_
    refine G.goto (tgt := 120) dX12_picks_115 (by decide) ?_
    refine G.istore (L' := [some (.ref 74), some (.int x1), some (.int x2), some (.int x3), some (.int x10), some (.int x5), some (.int u0), some (.int x7), some (.int x8), some (.int x9), some (.int x10)]) dX12_picks_120 (Nat.le_of_ble_eq_true rfl) (Nat.le_of_ble_eq_true rfl) rfl rfl ?_
    refine G.inc (w := 1) (L' := [some (.ref 74), some (.int x1), some (.int x2), some (.int x3), some (.int x10), some (.int x5), some (.int u0), some (.int x7), some (.int x8), some (.int (x9 + (1 : Int32))), some (.int x10)]) dX12_picks_122 (by decide) rfl (Nat.le_of_ble_eq_true rfl) rfl rfl ?_
    refine G.goto (tgt := 56) dX12_picks_125 (by decide) ?_
    have hf := Option.some.inj hf
    subst hf
    refine G.forget (L' := [some (.ref 74), some (.int x1), some (.int x2), some (.int x3), some (.int x10), some (.int x5), some (.int u0), some (.int x7), some (.int x8), some (.int (x9 + (1 : Int32))), none]) [10] rfl ?_
    exact hK
def jX12_picks_88 (x1 : Int32) (x2 : Int32) (x3 : Int32) (x4 : Int32) (x6 : Int32) (x7 : Int32) (x8 : Int32) (x9 : Int32) (x10 : Int32) (u0 : Int32) (I : Mem) : Option ((Int32 × Int32 × Int32 × Int32) ⊕ ((Int32 × Int32 × Int32 × Int32 × Int32) ⊕ (Int32 × Mem))) :=
  if x10 ≤ x4 then
  (jX12_picks_104 x1 x2 x3 x4 u0 x7 x8 x9 x10 x6 I)
  else
  (jX12_picks_104 x1 x2 x3 x4 u0 x7 x8 x9 x10 x9 I)
set_option maxRecDepth 20000 in
theorem tX12_picks_88 (E : EV) (d : Nat) (rr : Option Value × Mem) (x1 : Int32) (x2 : Int32) (x3 : Int32) (x4 : Int32) (x6 : Int32) (x7 : Int32) (x8 : Int32) (x9 : Int32) (x10 : Int32) (u0 : Int32) (I : Mem) (y : ((Int32 × Int32 × Int32 × Int32) ⊕ ((Int32 × Int32 × Int32 × Int32 × Int32) ⊕ (Int32 × Mem)))) (hf : jX12_picks_88 x1 x2 x3 x4 x6 x7 x8 x9 x10 u0 I = some y) (hK : (KX12_picks_56 E d rr x1 x2 x3 x7 x8 I (KX12_picks_47 E d rr x1 x2 x3 I (fun (z : Int32 × Mem) => (some (.int z.1), z.2) = rr))) y) : G E (d + 3) kX12_picks 88 [some (.ref 74), some (.int x1), some (.int x2), some (.int x3), some (.int x4), none, some (.int x6), some (.int x7), some (.int x8), some (.int x9), some (.int x10)] [.int u0] I rr := by
  unfold jX12_picks_88 at hf
  refine G.istore (L' := [some (.ref 74), some (.int x1), some (.int x2), some (.int x3), some (.int x4), some (.int u0), some (.int x6), some (.int x7), some (.int x8), some (.int x9), some (.int x10)]) dX12_picks_88 (Nat.le_of_ble_eq_true rfl) (Nat.le_of_ble_eq_true rfl) rfl rfl ?_
  refine G.iload dX12_picks_90 rfl ?_
  refine G.iload dX12_picks_92 rfl ?_
  refine G.icmp_le (tgt := 102) dX12_picks_94 (by decide) (fun c_20 => ?_) (fun c_20 => ?_)
  · have hf := ite_t hf c_20
    refine G.iload dX12_picks_102 rfl ?_
    refine G.forget (L' := [some (.ref 74), some (.int x1), some (.int x2), some (.int x3), some (.int x4), some (.int u0), none, some (.int x7), some (.int x8), some (.int x9), some (.int x10)]) [6] rfl ?_
    exact tX12_picks_104 E d rr x1 x2 x3 x4 u0 x7 x8 x9 x10 x6 I _ hf hK
  · have hf := ite_f hf c_20
    refine G.iload dX12_picks_97 rfl ?_
    refine G.goto (tgt := 104) dX12_picks_99 (by decide) ?_
    refine G.forget (L' := [some (.ref 74), some (.int x1), some (.int x2), some (.int x3), some (.int x4), some (.int u0), none, some (.int x7), some (.int x8), some (.int x9), some (.int x10)]) [6] rfl ?_
    exact tX12_picks_104 E d rr x1 x2 x3 x4 u0 x7 x8 x9 x10 x9 I _ hf hK
def bX12_picks_56 (x1 : Int32) (x2 : Int32) (x3 : Int32) (x7 : Int32) (x8 : Int32) (I : Mem) (x4 : Int32) (x5 : Int32) (x6 : Int32) (x9 : Int32) : Option ((Int32 × Int32 × Int32 × Int32) ⊕ ((Int32 × Int32 × Int32 × Int32 × Int32) ⊕ (Int32 × Mem))) :=
  if x7 ≤ x9 then
  (letb (x7 * (5 : Int32)) fun x7_16 =>
  some (.inr (.inl (x4, x5, x6, x7_16, (x8 + (1 : Int32))))))
  else
  (bnd (fX12_liesOn x1 x8 x9 I) fun v_18 =>
  if v_18 ≤ x4 then
  (jX12_picks_88 x1 x2 x3 x4 x6 x7 x8 x9 v_18 x5 I)
  else
  (jX12_picks_88 x1 x2 x3 x4 x6 x7 x8 x9 v_18 x8 I))
def sX12_picks_56 (x1 : Int32) (x2 : Int32) (x3 : Int32) (x7 : Int32) (x8 : Int32) (I : Mem) (q : (Int32 × Int32 × Int32 × Int32)) : Option ((Int32 × Int32 × Int32 × Int32) ⊕ ((Int32 × Int32 × Int32 × Int32 × Int32) ⊕ (Int32 × Mem))) := bX12_picks_56 x1 x2 x3 x7 x8 I q.1 q.2.1 q.2.2.1 q.2.2.2
set_option maxRecDepth 20000 in
theorem wX12_picks_56 (E : EV) (d : Nat) (rr : Option Value × Mem) (x1 : Int32) (x2 : Int32) (x3 : Int32) (x7 : Int32) (x8 : Int32) (I : Mem) (x4 : Int32) (x5 : Int32) (x6 : Int32) (x9 : Int32) (y : ((Int32 × Int32 × Int32 × Int32) ⊕ ((Int32 × Int32 × Int32 × Int32 × Int32) ⊕ (Int32 × Mem)))) (hf : bX12_picks_56 x1 x2 x3 x7 x8 I x4 x5 x6 x9 = some y) (hK : (KX12_picks_56 E d rr x1 x2 x3 x7 x8 I (KX12_picks_47 E d rr x1 x2 x3 I (fun (z : Int32 × Mem) => (some (.int z.1), z.2) = rr))) y) : G E (d + 3) kX12_picks 56 [some (.ref 74), some (.int x1), some (.int x2), some (.int x3), some (.int x4), some (.int x5), some (.int x6), some (.int x7), some (.int x8), some (.int x9), none] [] I rr := by
  unfold bX12_picks_56 at hf
  refine G.iload dX12_picks_56 rfl ?_
  refine G.iload dX12_picks_58 rfl ?_
  refine G.icmp_ge (tgt := 128) dX12_picks_60 (by decide) (fun c_22 => ?_) (fun c_22 => ?_)
  · have hf := ite_t hf c_22
    refine G.iload dX12_picks_128 rfl ?_
    refine G.iconst (v := 5) dX12_picks_130 (by decide) ?_
    refine G.imul dX12_picks_131 ?_
    refine G.nmi (fun x7_16 e_x7_16 => ?_)
    have hf := letb_at hf e_x7_16
    clear e_x7_16
    refine G.istore (L' := [some (.ref 74), some (.int x1), some (.int x2), some (.int x3), some (.int x4), some (.int x5), some (.int x6), some (.int x7_16), some (.int x8), some (.int x9), none]) dX12_picks_132 (Nat.le_of_ble_eq_true rfl) (Nat.le_of_ble_eq_true rfl) rfl rfl ?_
    refine G.inc (w := 1) (L' := [some (.ref 74), some (.int x1), some (.int x2), some (.int x3), some (.int x4), some (.int x5), some (.int x6), some (.int x7_16), some (.int (x8 + (1 : Int32))), some (.int x9), none]) dX12_picks_134 (by decide) rfl (Nat.le_of_ble_eq_true rfl) rfl rfl ?_
    refine G.goto (tgt := 47) dX12_picks_137 (by decide) ?_
    have hf := Option.some.inj hf
    subst hf
    refine G.forget (L' := [some (.ref 74), some (.int x1), some (.int x2), some (.int x3), some (.int x4), some (.int x5), some (.int x6), some (.int x7_16), some (.int (x8 + (1 : Int32))), none, none]) [9] rfl ?_
    exact hK
  · have hf := ite_f hf c_22
    refine G.aload_n dX12_picks_63 rfl rfl ?_
    refine G.iload_n dX12_picks_64 rfl rfl ?_
    refine G.iload dX12_picks_65 rfl ?_
    refine G.iload dX12_picks_67 rfl ?_
    obtain ⟨v_18, hc_17, hf⟩ := bnd_at hf
    refine G.callVi (av := [.int x1, .int x8, .int x9]) (rest := []) dX12_picks_69 mvX12_215 (gX12_liesOn E d x1 x8 x9 I hc_17) (by decide) rfl rfl rfl (Nat.le_of_ble_eq_true rfl) ?_
    refine G.istore (L' := [some (.ref 74), some (.int x1), some (.int x2), some (.int x3), some (.int x4), some (.int x5), some (.int x6), some (.int x7), some (.int x8), some (.int x9), some (.int v_18)]) dX12_picks_72 (Nat.le_of_ble_eq_true rfl) (Nat.le_of_ble_eq_true rfl) rfl rfl ?_
    refine G.iload dX12_picks_74 rfl ?_
    refine G.iload dX12_picks_76 rfl ?_
    refine G.icmp_le (tgt := 86) dX12_picks_78 (by decide) (fun c_21 => ?_) (fun c_21 => ?_)
    · have hf := ite_t hf c_21
      refine G.iload dX12_picks_86 rfl ?_
      refine G.forget (L' := [some (.ref 74), some (.int x1), some (.int x2), some (.int x3), some (.int x4), none, some (.int x6), some (.int x7), some (.int x8), some (.int x9), some (.int v_18)]) [5] rfl ?_
      exact tX12_picks_88 E d rr x1 x2 x3 x4 x6 x7 x8 x9 v_18 x5 I _ hf hK
    · have hf := ite_f hf c_21
      refine G.iload dX12_picks_81 rfl ?_
      refine G.goto (tgt := 88) dX12_picks_83 (by decide) ?_
      refine G.forget (L' := [some (.ref 74), some (.int x1), some (.int x2), some (.int x3), some (.int x4), none, some (.int x6), some (.int x7), some (.int x8), some (.int x9), some (.int v_18)]) [5] rfl ?_
      exact tX12_picks_88 E d rr x1 x2 x3 x4 x6 x7 x8 x9 v_18 x8 I _ hf hK
theorem lX12_picks_56 (E : EV) (d : Nat) (rr : Option Value × Mem) (x1 : Int32) (x2 : Int32) (x3 : Int32) (x7 : Int32) (x8 : Int32) (I : Mem) (z : ((Int32 × Int32 × Int32 × Int32 × Int32) ⊕ (Int32 × Mem))) (hK : (KX12_picks_47 E d rr x1 x2 x3 I (fun (z : Int32 × Mem) => (some (.int z.1), z.2) = rr)) z) : ∀ (n : Nat) (q : (Int32 × Int32 × Int32 × Int32)), iter (sX12_picks_56 x1 x2 x3 x7 x8 I) n q = some z → G E (d + 3) kX12_picks 56 [some (.ref 74), some (.int x1), some (.int x2), some (.int x3), some (.int q.1), some (.int q.2.1), some (.int q.2.2.1), some (.int x7), some (.int x8), some (.int q.2.2.2), none] [] I rr := by
  intro n
  induction n with
  | zero => intro q h; cases h
  | succ n ih =>
    intro q h
    rcases iter_at h with ⟨q2, hs, h2⟩ | hs
    · exact wX12_picks_56 E d rr x1 x2 x3 x7 x8 I q.1 q.2.1 q.2.2.1 q.2.2.2 _ hs (ih q2 h2)
    · exact wX12_picks_56 E d rr x1 x2 x3 x7 x8 I q.1 q.2.1 q.2.2.1 q.2.2.2 _ hs hK
def bX12_picks_47 (x1 : Int32) (x2 : Int32) (x3 : Int32) (I : Mem) (x4 : Int32) (x5 : Int32) (x6 : Int32) (x7 : Int32) (x8 : Int32) : Option ((Int32 × Int32 × Int32 × Int32 × Int32) ⊕ (Int32 × Mem)) :=
  if x2 < x8 then
  (if x3 = (-1 : Int32) then
  (inrO (jX12_picks_151 x3 x4 I))
  else
  (if x3 ≤ x5 then
  (if x3 = 0 then
  (some (.inr (x1, I)))
  else
  (bnd (fX12_figure x6 (x5 - x3) I) fun v_11 =>
  some (.inr (v_11, I))))
  else
  (inrO (jX12_picks_151 x3 x4 I))))
  else
  (iter (sX12_picks_56 x1 x2 x3 x7 x8 I) FU (x4, x5, x6, (0 : Int32)))
def sX12_picks_47 (x1 : Int32) (x2 : Int32) (x3 : Int32) (I : Mem) (q : (Int32 × Int32 × Int32 × Int32 × Int32)) : Option ((Int32 × Int32 × Int32 × Int32 × Int32) ⊕ (Int32 × Mem)) := bX12_picks_47 x1 x2 x3 I q.1 q.2.1 q.2.2.1 q.2.2.2.1 q.2.2.2.2
set_option maxRecDepth 20000 in
theorem wX12_picks_47 (E : EV) (d : Nat) (rr : Option Value × Mem) (x1 : Int32) (x2 : Int32) (x3 : Int32) (I : Mem) (x4 : Int32) (x5 : Int32) (x6 : Int32) (x7 : Int32) (x8 : Int32) (y : ((Int32 × Int32 × Int32 × Int32 × Int32) ⊕ (Int32 × Mem))) (hf : bX12_picks_47 x1 x2 x3 I x4 x5 x6 x7 x8 = some y) (hK : (KX12_picks_47 E d rr x1 x2 x3 I (fun (z : Int32 × Mem) => (some (.int z.1), z.2) = rr)) y) : G E (d + 3) kX12_picks 47 [some (.ref 74), some (.int x1), some (.int x2), some (.int x3), some (.int x4), some (.int x5), some (.int x6), some (.int x7), some (.int x8), none, none] [] I rr := by
  unfold bX12_picks_47 at hf
  refine G.iload dX12_picks_47 rfl ?_
  refine G.iload_n dX12_picks_49 rfl rfl ?_
  refine G.icmp_gt (tgt := 140) dX12_picks_50 (by decide) (fun c_23 => ?_) (fun c_23 => ?_)
  · have hf := ite_t hf c_23
    refine G.iload_n dX12_picks_140 rfl rfl ?_
    refine G.iconst (v := -1) dX12_picks_141 (by decide) ?_
    refine G.icmp_eq (tgt := 151) dX12_picks_142 (by decide) (fun c_15 => ?_) (fun c_15 => ?_)
    · have hf := ite_t hf c_15
      obtain ⟨z_9, hz_9, rfl⟩ := inrO_at hf
      have hf := hz_9
      refine G.forget (L' := [none, none, none, some (.int x3), some (.int x4), none, none, none, none, none, none]) [0, 1, 2, 5, 6, 7, 8] rfl ?_
      exact tX12_picks_151 E d rr x3 x4 I _ hf hK
    · have hf := ite_f hf c_15
      refine G.iload_n dX12_picks_145 rfl rfl ?_
      refine G.iload dX12_picks_146 rfl ?_
      refine G.icmp_le (tgt := 164) dX12_picks_148 (by decide) (fun c_14 => ?_) (fun c_14 => ?_)
      · have hf := ite_t hf c_14
        refine G.iload_n dX12_picks_164 rfl rfl ?_
        refine G.if_ne (tgt := 172) dX12_picks_165 (by decide) (fun c_12 => ?_) (fun c_12 => ?_)
        · have hf := ite_f hf c_12
          refine G.iload dX12_picks_172 rfl ?_
          refine G.iload dX12_picks_174 rfl ?_
          refine G.iload_n dX12_picks_176 rfl rfl ?_
          refine G.isub dX12_picks_177 ?_
          obtain ⟨v_11, hc_10, hf⟩ := bnd_at hf
          refine G.callSi (av := [.int x6, .int (x5 - x3)]) (rest := []) dX12_picks_178 msX12_218 (gX12_figure E (d + 2) x6 (x5 - x3) I hc_10) rfl rfl (Nat.le_of_ble_eq_true rfl) ?_
          have hf := Option.some.inj hf
          subst hf
          exact G.iret' dX12_picks_181 rfl hK
        · have hf := ite_t hf c_12
          refine G.iload_n dX12_picks_168 rfl rfl ?_
          refine G.goto (tgt := 181) dX12_picks_169 (by decide) ?_
          have hf := Option.some.inj hf
          subst hf
          exact G.iret' dX12_picks_181 rfl hK
      · have hf := ite_f hf c_14
        obtain ⟨z_13, hz_13, rfl⟩ := inrO_at hf
        have hf := hz_13
        refine G.forget (L' := [none, none, none, some (.int x3), some (.int x4), none, none, none, none, none, none]) [0, 1, 2, 5, 6, 7, 8] rfl ?_
        exact tX12_picks_151 E d rr x3 x4 I _ hf hK
  · have hf := ite_f hf c_23
    refine G.iconst (v := 0) dX12_picks_53 (by decide) ?_
    refine G.istore (L' := [some (.ref 74), some (.int x1), some (.int x2), some (.int x3), some (.int x4), some (.int x5), some (.int x6), some (.int x7), some (.int x8), some (.int (0 : Int32)), none]) dX12_picks_54 (Nat.le_of_ble_eq_true rfl) (Nat.le_of_ble_eq_true rfl) rfl rfl ?_
    exact lX12_picks_56 E d rr x1 x2 x3 x7 x8 I _ hK FU _ hf
theorem lX12_picks_47 (E : EV) (d : Nat) (rr : Option Value × Mem) (x1 : Int32) (x2 : Int32) (x3 : Int32) (I : Mem) (z : (Int32 × Mem)) (hK : (fun (z : Int32 × Mem) => (some (.int z.1), z.2) = rr) z) : ∀ (n : Nat) (q : (Int32 × Int32 × Int32 × Int32 × Int32)), iter (sX12_picks_47 x1 x2 x3 I) n q = some z → G E (d + 3) kX12_picks 47 [some (.ref 74), some (.int x1), some (.int x2), some (.int x3), some (.int q.1), some (.int q.2.1), some (.int q.2.2.1), some (.int q.2.2.2.1), some (.int q.2.2.2.2), none, none] [] I rr := by
  intro n
  induction n with
  | zero => intro q h; cases h
  | succ n ih =>
    intro q h
    rcases iter_at h with ⟨q2, hs, h2⟩ | hs
    · exact wX12_picks_47 E d rr x1 x2 x3 I q.1 q.2.1 q.2.2.1 q.2.2.2.1 q.2.2.2.2 _ hs (ih q2 h2)
    · exact wX12_picks_47 E d rr x1 x2 x3 I q.1 q.2.1 q.2.2.1 q.2.2.2.1 q.2.2.2.2 _ hs hK
def fX12_picks (x1 : Int32) (x2 : Int32) (x3 : Int32) (I : Mem) : Option (Int32 × Mem) :=
  bnd (fX12_isRoom x1 I) fun v_2 =>
  if v_2 = 0 then
  (jX12_picks_25 I)
  else
  (bnd (fX12_in (Int32.toInt64 x2) (0 : Int64) (6 : Int64) I) fun v_7 =>
  if v_7 = 0 then
  (jX12_picks_25 I)
  else
  (if (-1 : Int32) ≤ x3 then
  (iter (sX12_picks_47 x1 x2 x3 I) FU ((-1 : Int32), (0 : Int32), (0 : Int32), (1 : Int32), (0 : Int32)))
  else
  (jX12_picks_25 I)))
set_option maxRecDepth 20000 in
theorem gX12_picks (E : EV) (d : Nat) (x1 : Int32) (x2 : Int32) (x3 : Int32) (I : Mem) {v : Int32} {J : Mem} (hf : fX12_picks x1 x2 x3 I = some (v, J)) : Gm E (d + 3) kX12_picks [.ref 74, .int x1, .int x2, .int x3] I (some (.int v), J) := by
  refine (fun (y : (Int32 × Mem)) (hf : fX12_picks x1 x2 x3 I = some y) => (?_ : Gm E (d + 3) kX12_picks [.ref 74, .int x1, .int x2, .int x3] I (some (.int y.1), y.2))) (v, J) hf
  refine Gm.of (by decide) rfl (Nat.le_of_ble_eq_true rfl) ?_
  generalize hrr : ((some (.int y.1), y.2) : Option Value × Mem) = rr
  show G E (d + 3) kX12_picks 0 [some (.ref 74), some (.int x1), some (.int x2), some (.int x3), none, none, none, none, none, none, none] [] I rr
  have hK : (fun (z : Int32 × Mem) => (some (.int z.1), z.2) = rr) y := hrr
  clear hrr
  unfold fX12_picks at hf
  refine G.aload_n dX12_picks_0 rfl rfl ?_
  refine G.iload_n dX12_picks_1 rfl rfl ?_
  obtain ⟨v_2, hc_1, hf⟩ := bnd_at hf
  refine G.callVi (av := [.int x1]) (rest := []) dX12_picks_2 mvX12_63 (gX12_isRoom E (d + 1) x1 I hc_1) (by decide) rfl rfl rfl (Nat.le_of_ble_eq_true rfl) ?_
  refine G.if_eq (tgt := 25) dX12_picks_5 (by decide) (fun c_26 => ?_) (fun c_26 => ?_)
  · have hf := ite_t hf c_26
    refine G.forget (L' := [some (.ref 74), none, none, none, none, none, none, none, none, none, none]) [1, 2, 3] rfl ?_
    exact tX12_picks_25 E d rr I _ hf hK
  · have hf := ite_f hf c_26
    refine G.iload_n dX12_picks_8 rfl rfl ?_
    refine G.i2l dX12_picks_9 ?_
    refine G.lconst (v := 0) dX12_picks_10 (by decide) ?_
    refine G.ldc2 (v := 6) dX12_picks_11 kcX12_213 ?_
    obtain ⟨v_7, hc_6, hf⟩ := bnd_at hf
    refine G.callSi (av := [.long (Int32.toInt64 x2), .long (0 : Int64), .long (6 : Int64)]) (rest := []) dX12_picks_14 msX12_49 (gX12_in E (d + 2) (Int32.toInt64 x2) (0 : Int64) (6 : Int64) I hc_6) rfl rfl (Nat.le_of_ble_eq_true rfl) ?_
    refine G.if_eq (tgt := 25) dX12_picks_17 (by decide) (fun c_25 => ?_) (fun c_25 => ?_)
    · have hf := ite_t hf c_25
      refine G.forget (L' := [some (.ref 74), none, none, none, none, none, none, none, none, none, none]) [1, 2, 3] rfl ?_
      exact tX12_picks_25 E d rr I _ hf hK
    · have hf := ite_f hf c_25
      refine G.iload_n dX12_picks_20 rfl rfl ?_
      refine G.iconst (v := -1) dX12_picks_21 (by decide) ?_
      refine G.icmp_ge (tgt := 32) dX12_picks_22 (by decide) (fun c_24 => ?_) (fun c_24 => ?_)
      · have hf := ite_t hf c_24
        refine G.iconst (v := -1) dX12_picks_32 (by decide) ?_
        refine G.istore (L' := [some (.ref 74), some (.int x1), some (.int x2), some (.int x3), some (.int (-1 : Int32)), none, none, none, none, none, none]) dX12_picks_33 (Nat.le_of_ble_eq_true rfl) (Nat.le_of_ble_eq_true rfl) rfl rfl ?_
        refine G.iconst (v := 0) dX12_picks_35 (by decide) ?_
        refine G.istore (L' := [some (.ref 74), some (.int x1), some (.int x2), some (.int x3), some (.int (-1 : Int32)), some (.int (0 : Int32)), none, none, none, none, none]) dX12_picks_36 (Nat.le_of_ble_eq_true rfl) (Nat.le_of_ble_eq_true rfl) rfl rfl ?_
        refine G.iconst (v := 0) dX12_picks_38 (by decide) ?_
        refine G.istore (L' := [some (.ref 74), some (.int x1), some (.int x2), some (.int x3), some (.int (-1 : Int32)), some (.int (0 : Int32)), some (.int (0 : Int32)), none, none, none, none]) dX12_picks_39 (Nat.le_of_ble_eq_true rfl) (Nat.le_of_ble_eq_true rfl) rfl rfl ?_
        refine G.iconst (v := 1) dX12_picks_41 (by decide) ?_
        refine G.istore (L' := [some (.ref 74), some (.int x1), some (.int x2), some (.int x3), some (.int (-1 : Int32)), some (.int (0 : Int32)), some (.int (0 : Int32)), some (.int (1 : Int32)), none, none, none]) dX12_picks_42 (Nat.le_of_ble_eq_true rfl) (Nat.le_of_ble_eq_true rfl) rfl rfl ?_
        refine G.iconst (v := 0) dX12_picks_44 (by decide) ?_
        refine G.istore (L' := [some (.ref 74), some (.int x1), some (.int x2), some (.int x3), some (.int (-1 : Int32)), some (.int (0 : Int32)), some (.int (0 : Int32)), some (.int (1 : Int32)), some (.int (0 : Int32)), none, none]) dX12_picks_45 (Nat.le_of_ble_eq_true rfl) (Nat.le_of_ble_eq_true rfl) rfl rfl ?_
        exact lX12_picks_47 E d rr x1 x2 x3 I _ hK FU _ hf
      · have hf := ite_f hf c_24
        refine G.forget (L' := [some (.ref 74), none, none, none, none, none, none, none, none, none, none]) [1, 2, 3] rfl ?_
        exact tX12_picks_25 E d rr I _ hf hK
theorem dX12_copy_0 : decode cX12_copy 0 = .ok (.iconst 0, 1) := by decide +kernel
theorem dX12_copy_1 : decode cX12_copy 1 = .ok (.istore_n 3, 1) := by decide +kernel
theorem dX12_copy_2 : decode cX12_copy 2 = .ok (.iload_n 3, 1) := by decide +kernel
theorem dX12_copy_3 : decode cX12_copy 3 = .ok (.sipush 158, 3) := by decide +kernel
theorem dX12_copy_6 : decode cX12_copy 6 = .ok (.if_icmp .ge 33, 3) := by decide +kernel
theorem dX12_copy_9 : decode cX12_copy 9 = .ok (.aload_n 0, 1) := by decide +kernel
theorem dX12_copy_10 : decode cX12_copy 10 = .ok (.getfield 7, 3) := by decide +kernel
theorem dX12_copy_13 : decode cX12_copy 13 = .ok (.sipush 158, 3) := by decide +kernel
theorem dX12_copy_16 : decode cX12_copy 16 = .ok (.iload_n 2, 1) := by decide +kernel
theorem dX12_copy_17 : decode cX12_copy 17 = .ok (.imul, 1) := by decide +kernel
theorem dX12_copy_18 : decode cX12_copy 18 = .ok (.iload_n 3, 1) := by decide +kernel
theorem dX12_copy_19 : decode cX12_copy 19 = .ok (.iadd, 1) := by decide +kernel
theorem dX12_copy_20 : decode cX12_copy 20 = .ok (.aload_n 0, 1) := by decide +kernel
theorem dX12_copy_21 : decode cX12_copy 21 = .ok (.getfield 7, 3) := by decide +kernel
theorem dX12_copy_24 : decode cX12_copy 24 = .ok (.sipush 158, 3) := by decide +kernel
theorem dX12_copy_27 : decode cX12_copy 27 = .ok (.iload_n 1, 1) := by decide +kernel
theorem dX12_copy_28 : decode cX12_copy 28 = .ok (.imul, 1) := by decide +kernel
theorem dX12_copy_29 : decode cX12_copy 29 = .ok (.iload_n 3, 1) := by decide +kernel
theorem dX12_copy_30 : decode cX12_copy 30 = .ok (.iadd, 1) := by decide +kernel
theorem dX12_copy_31 : decode cX12_copy 31 = .ok (.iaload, 1) := by decide +kernel
theorem dX12_copy_32 : decode cX12_copy 32 = .ok (.iastore, 1) := by decide +kernel
theorem dX12_copy_33 : decode cX12_copy 33 = .ok (.iinc 3 1, 3) := by decide +kernel
theorem dX12_copy_36 : decode cX12_copy 36 = .ok (.goto (-34), 3) := by decide +kernel
theorem dX12_copy_39 : decode cX12_copy 39 = .ok (.return_, 1) := by decide +kernel
def KX12_copy_2 (E : EV) (d : Nat) (rr : Option Value × Mem) (x1 : Int32) (x2 : Int32) (Kp : Mem → Prop) : ((Int32 × Mem) ⊕ Mem) → Prop
  | .inl q => G E (d + 0) kX12_copy 2 [some (.ref 74), some (.int x1), some (.int x2), some (.int q.1)] [] q.2 rr
  | .inr z => Kp z
def bX12_copy_2 (x1 : Int32) (x2 : Int32) (x3 : Int32) (I : Mem) : Option ((Int32 × Mem) ⊕ Mem) :=
  if (158 : Int32) ≤ x3 then
  (some (.inr I))
  else
  (chk (inb (((158 : Int32) * x1) + x3) 632) <|
  chk (inb (((158 : Int32) * x2) + x3) 632) <|
  letb (up2 I 75 (ix (((158 : Int32) * x2) + x3)) (I 75 (ix (((158 : Int32) * x1) + x3)))) fun I_3 =>
  some (.inl ((x3 + (1 : Int32)), I_3)))
def sX12_copy_2 (x1 : Int32) (x2 : Int32) (q : (Int32 × Mem)) : Option ((Int32 × Mem) ⊕ Mem) := bX12_copy_2 x1 x2 q.1 q.2
set_option maxRecDepth 20000 in
theorem wX12_copy_2 (E : EV) (d : Nat) (rr : Option Value × Mem) (x1 : Int32) (x2 : Int32) (x3 : Int32) (I : Mem) (y : ((Int32 × Mem) ⊕ Mem)) (hf : bX12_copy_2 x1 x2 x3 I = some y) (hK : (KX12_copy_2 E d rr x1 x2 (fun (z : Mem) => ((none : Option Value), z) = rr)) y) : G E (d + 0) kX12_copy 2 [some (.ref 74), some (.int x1), some (.int x2), some (.int x3)] [] I rr := by
  unfold bX12_copy_2 at hf
  refine G.iload_n dX12_copy_2 rfl rfl ?_
  refine G.sipush (v := 158) dX12_copy_3 (by decide) ?_
  refine G.icmp_ge (tgt := 39) dX12_copy_6 (by decide) (fun c_4 => ?_) (fun c_4 => ?_)
  · have hf := ite_t hf c_4
    have hf := Option.some.inj hf
    subst hf
    exact G.vret' dX12_copy_39 rfl hK
  · have hf := ite_f hf c_4
    refine G.aload_n dX12_copy_9 rfl rfl ?_
    refine G.getR (q := 75) dX12_copy_10 flX12_7 (by decide) rfl rfl ?_
    refine G.sipush (v := 158) dX12_copy_13 (by decide) ?_
    refine G.iload_n dX12_copy_16 rfl rfl ?_
    refine G.imul dX12_copy_17 ?_
    refine G.iload_n dX12_copy_18 rfl rfl ?_
    refine G.iadd dX12_copy_19 ?_
    refine G.aload_n dX12_copy_20 rfl rfl ?_
    refine G.getR (q := 75) dX12_copy_21 flX12_7 (by decide) rfl rfl ?_
    refine G.sipush (v := 158) dX12_copy_24 (by decide) ?_
    refine G.iload_n dX12_copy_27 rfl rfl ?_
    refine G.imul dX12_copy_28 ?_
    refine G.iload_n dX12_copy_29 rfl rfl ?_
    refine G.iadd dX12_copy_30 ?_
    obtain ⟨hi_1, hf⟩ := chk_at hf
    refine G.iald' dX12_copy_31 (by decide) rfl rfl hi_1 ?_
    obtain ⟨hi_2, hf⟩ := chk_at hf
    refine G.iast' dX12_copy_32 (by decide) rfl rfl hi_2 ?_
    refine G.nmI (fun I_3 e_I_3 => ?_)
    have hf := letb_at hf e_I_3
    clear e_I_3
    refine G.inc (w := 1) (L' := [some (.ref 74), some (.int x1), some (.int x2), some (.int (x3 + (1 : Int32)))]) dX12_copy_33 (by decide) rfl (Nat.le_of_ble_eq_true rfl) rfl rfl ?_
    refine G.goto (tgt := 2) dX12_copy_36 (by decide) ?_
    have hf := Option.some.inj hf
    subst hf
    exact hK
theorem lX12_copy_2 (E : EV) (d : Nat) (rr : Option Value × Mem) (x1 : Int32) (x2 : Int32) (z : Mem) (hK : (fun (z : Mem) => ((none : Option Value), z) = rr) z) : ∀ (n : Nat) (q : (Int32 × Mem)), iter (sX12_copy_2 x1 x2) n q = some z → G E (d + 0) kX12_copy 2 [some (.ref 74), some (.int x1), some (.int x2), some (.int q.1)] [] q.2 rr := by
  intro n
  induction n with
  | zero => intro q h; cases h
  | succ n ih =>
    intro q h
    rcases iter_at h with ⟨q2, hs, h2⟩ | hs
    · exact wX12_copy_2 E d rr x1 x2 q.1 q.2 _ hs (ih q2 h2)
    · exact wX12_copy_2 E d rr x1 x2 q.1 q.2 _ hs hK
def fX12_copy (x1 : Int32) (x2 : Int32) (I : Mem) : Option Mem :=
  iter (sX12_copy_2 x1 x2) FU ((0 : Int32), I)
set_option maxRecDepth 20000 in
theorem gX12_copy (E : EV) (d : Nat) (x1 : Int32) (x2 : Int32) (I : Mem) {J : Mem} (hf : fX12_copy x1 x2 I = some J) : Gm E (d + 0) kX12_copy [.ref 74, .int x1, .int x2] I (none, J) := by
  refine (fun (y : Mem) (hf : fX12_copy x1 x2 I = some y) => (?_ : Gm E (d + 0) kX12_copy [.ref 74, .int x1, .int x2] I (none, y))) J hf
  refine Gm.of (by decide) rfl (Nat.le_of_ble_eq_true rfl) ?_
  generalize hrr : ((none, y) : Option Value × Mem) = rr
  show G E (d + 0) kX12_copy 0 [some (.ref 74), some (.int x1), some (.int x2), none] [] I rr
  have hK : (fun (z : Mem) => ((none : Option Value), z) = rr) y := hrr
  clear hrr
  unfold fX12_copy at hf
  refine G.iconst (v := 0) dX12_copy_0 (by decide) ?_
  refine G.istore_n (L' := [some (.ref 74), some (.int x1), some (.int x2), some (.int (0 : Int32))]) dX12_copy_1 rfl (Nat.le_of_ble_eq_true rfl) (Nat.le_of_ble_eq_true rfl) rfl rfl ?_
  exact lX12_copy_2 E d rr x1 x2 _ hK FU _ hf
theorem dX12_joinTwo_0 : decode cX12_joinTwo 0 = .ok (.iconst 0, 1) := by decide +kernel
theorem dX12_joinTwo_1 : decode cX12_joinTwo 1 = .ok (.istore_n 3, 1) := by decide +kernel
theorem dX12_joinTwo_2 : decode cX12_joinTwo 2 = .ok (.iload_n 3, 1) := by decide +kernel
theorem dX12_joinTwo_3 : decode cX12_joinTwo 3 = .ok (.aload_n 0, 1) := by decide +kernel
theorem dX12_joinTwo_4 : decode cX12_joinTwo 4 = .ok (.getfield 7, 3) := by decide +kernel
theorem dX12_joinTwo_7 : decode cX12_joinTwo 7 = .ok (.iconst 0, 1) := by decide +kernel
theorem dX12_joinTwo_8 : decode cX12_joinTwo 8 = .ok (.iaload, 1) := by decide +kernel
theorem dX12_joinTwo_9 : decode cX12_joinTwo 9 = .ok (.if_icmp .ge 38, 3) := by decide +kernel
theorem dX12_joinTwo_12 : decode cX12_joinTwo 12 = .ok (.aload_n 0, 1) := by decide +kernel
theorem dX12_joinTwo_13 : decode cX12_joinTwo 13 = .ok (.getfield 7, 3) := by decide +kernel
theorem dX12_joinTwo_16 : decode cX12_joinTwo 16 = .ok (.iconst 5, 1) := by decide +kernel
theorem dX12_joinTwo_17 : decode cX12_joinTwo 17 = .ok (.iload_n 2, 1) := by decide +kernel
theorem dX12_joinTwo_18 : decode cX12_joinTwo 18 = .ok (.iadd, 1) := by decide +kernel
theorem dX12_joinTwo_19 : decode cX12_joinTwo 19 = .ok (.iaload, 1) := by decide +kernel
theorem dX12_joinTwo_20 : decode cX12_joinTwo 20 = .ok (.iload_n 3, 1) := by decide +kernel
theorem dX12_joinTwo_21 : decode cX12_joinTwo 21 = .ok (.invokestatic 67, 3) := by decide +kernel
theorem dX12_joinTwo_24 : decode cX12_joinTwo 24 = .ok (.ifCond .eq 17, 3) := by decide +kernel
theorem dX12_joinTwo_27 : decode cX12_joinTwo 27 = .ok (.aload_n 0, 1) := by decide +kernel
theorem dX12_joinTwo_28 : decode cX12_joinTwo 28 = .ok (.iload_n 2, 1) := by decide +kernel
theorem dX12_joinTwo_29 : decode cX12_joinTwo 29 = .ok (.iload_n 3, 1) := by decide +kernel
theorem dX12_joinTwo_30 : decode cX12_joinTwo 30 = .ok (.iconst 0, 1) := by decide +kernel
theorem dX12_joinTwo_31 : decode cX12_joinTwo 31 = .ok (.invokevirtual 75, 3) := by decide +kernel
theorem dX12_joinTwo_34 : decode cX12_joinTwo 34 = .ok (.aload_n 0, 1) := by decide +kernel
theorem dX12_joinTwo_35 : decode cX12_joinTwo 35 = .ok (.iload_n 1, 1) := by decide +kernel
theorem dX12_joinTwo_36 : decode cX12_joinTwo 36 = .ok (.iload_n 3, 1) := by decide +kernel
theorem dX12_joinTwo_37 : decode cX12_joinTwo 37 = .ok (.iconst 1, 1) := by decide +kernel
theorem dX12_joinTwo_38 : decode cX12_joinTwo 38 = .ok (.invokevirtual 75, 3) := by decide +kernel
theorem dX12_joinTwo_41 : decode cX12_joinTwo 41 = .ok (.iinc 3 1, 3) := by decide +kernel
theorem dX12_joinTwo_44 : decode cX12_joinTwo 44 = .ok (.goto (-42), 3) := by decide +kernel
theorem dX12_joinTwo_47 : decode cX12_joinTwo 47 = .ok (.aload_n 0, 1) := by decide +kernel
theorem dX12_joinTwo_48 : decode cX12_joinTwo 48 = .ok (.getfield 7, 3) := by decide +kernel
theorem dX12_joinTwo_51 : decode cX12_joinTwo 51 = .ok (.iconst 5, 1) := by decide +kernel
theorem dX12_joinTwo_52 : decode cX12_joinTwo 52 = .ok (.iload_n 1, 1) := by decide +kernel
theorem dX12_joinTwo_53 : decode cX12_joinTwo 53 = .ok (.iadd, 1) := by decide +kernel
theorem dX12_joinTwo_54 : decode cX12_joinTwo 54 = .ok (.dup2, 1) := by decide +kernel
theorem dX12_joinTwo_55 : decode cX12_joinTwo 55 = .ok (.iaload, 1) := by decide +kernel
theorem dX12_joinTwo_56 : decode cX12_joinTwo 56 = .ok (.iconst 1, 1) := by decide +kernel
theorem dX12_joinTwo_57 : decode cX12_joinTwo 57 = .ok (.iload_n 1, 1) := by decide +kernel
theorem dX12_joinTwo_58 : decode cX12_joinTwo 58 = .ok (.ishl, 1) := by decide +kernel
theorem dX12_joinTwo_59 : decode cX12_joinTwo 59 = .ok (.iconst (-1), 1) := by decide +kernel
theorem dX12_joinTwo_60 : decode cX12_joinTwo 60 = .ok (.ixor, 1) := by decide +kernel
theorem dX12_joinTwo_61 : decode cX12_joinTwo 61 = .ok (.iand, 1) := by decide +kernel
theorem dX12_joinTwo_62 : decode cX12_joinTwo 62 = .ok (.iastore, 1) := by decide +kernel
theorem dX12_joinTwo_63 : decode cX12_joinTwo 63 = .ok (.aload_n 0, 1) := by decide +kernel
theorem dX12_joinTwo_64 : decode cX12_joinTwo 64 = .ok (.getfield 7, 3) := by decide +kernel
theorem dX12_joinTwo_67 : decode cX12_joinTwo 67 = .ok (.iconst 4, 1) := by decide +kernel
theorem dX12_joinTwo_68 : decode cX12_joinTwo 68 = .ok (.dup2, 1) := by decide +kernel
theorem dX12_joinTwo_69 : decode cX12_joinTwo 69 = .ok (.iaload, 1) := by decide +kernel
theorem dX12_joinTwo_70 : decode cX12_joinTwo 70 = .ok (.aload_n 0, 1) := by decide +kernel
theorem dX12_joinTwo_71 : decode cX12_joinTwo 71 = .ok (.getfield 7, 3) := by decide +kernel
theorem dX12_joinTwo_74 : decode cX12_joinTwo 74 = .ok (.iconst 4, 1) := by decide +kernel
theorem dX12_joinTwo_75 : decode cX12_joinTwo 75 = .ok (.iaload, 1) := by decide +kernel
theorem dX12_joinTwo_76 : decode cX12_joinTwo 76 = .ok (.iload_n 2, 1) := by decide +kernel
theorem dX12_joinTwo_77 : decode cX12_joinTwo 77 = .ok (.invokestatic 67, 3) := by decide +kernel
theorem dX12_joinTwo_80 : decode cX12_joinTwo 80 = .ok (.ifCond .eq 9, 3) := by decide +kernel
theorem dX12_joinTwo_83 : decode cX12_joinTwo 83 = .ok (.iconst 1, 1) := by decide +kernel
theorem dX12_joinTwo_84 : decode cX12_joinTwo 84 = .ok (.iload_n 1, 1) := by decide +kernel
theorem dX12_joinTwo_85 : decode cX12_joinTwo 85 = .ok (.ishl, 1) := by decide +kernel
theorem dX12_joinTwo_86 : decode cX12_joinTwo 86 = .ok (.goto 4, 3) := by decide +kernel
theorem dX12_joinTwo_89 : decode cX12_joinTwo 89 = .ok (.iconst 0, 1) := by decide +kernel
theorem dX12_joinTwo_90 : decode cX12_joinTwo 90 = .ok (.ior, 1) := by decide +kernel
theorem dX12_joinTwo_91 : decode cX12_joinTwo 91 = .ok (.iastore, 1) := by decide +kernel
theorem dX12_joinTwo_92 : decode cX12_joinTwo 92 = .ok (.aload_n 0, 1) := by decide +kernel
theorem dX12_joinTwo_93 : decode cX12_joinTwo 93 = .ok (.getfield 7, 3) := by decide +kernel
theorem dX12_joinTwo_96 : decode cX12_joinTwo 96 = .ok (.iconst 4, 1) := by decide +kernel
theorem dX12_joinTwo_97 : decode cX12_joinTwo 97 = .ok (.dup2, 1) := by decide +kernel
theorem dX12_joinTwo_98 : decode cX12_joinTwo 98 = .ok (.iaload, 1) := by decide +kernel
theorem dX12_joinTwo_99 : decode cX12_joinTwo 99 = .ok (.iconst 1, 1) := by decide +kernel
theorem dX12_joinTwo_100 : decode cX12_joinTwo 100 = .ok (.iload_n 2, 1) := by decide +kernel
theorem dX12_joinTwo_101 : decode cX12_joinTwo 101 = .ok (.ishl, 1) := by decide +kernel
theorem dX12_joinTwo_102 : decode cX12_joinTwo 102 = .ok (.iconst (-1), 1) := by decide +kernel
theorem dX12_joinTwo_103 : decode cX12_joinTwo 103 = .ok (.ixor, 1) := by decide +kernel
theorem dX12_joinTwo_104 : decode cX12_joinTwo 104 = .ok (.iand, 1) := by decide +kernel
theorem dX12_joinTwo_105 : decode cX12_joinTwo 105 = .ok (.iastore, 1) := by decide +kernel
theorem dX12_joinTwo_106 : decode cX12_joinTwo 106 = .ok (.iconst 0, 1) := by decide +kernel
theorem dX12_joinTwo_107 : decode cX12_joinTwo 107 = .ok (.istore_n 3, 1) := by decide +kernel
theorem dX12_joinTwo_108 : decode cX12_joinTwo 108 = .ok (.iload_n 3, 1) := by decide +kernel
theorem dX12_joinTwo_109 : decode cX12_joinTwo 109 = .ok (.aload_n 0, 1) := by decide +kernel
theorem dX12_joinTwo_110 : decode cX12_joinTwo 110 = .ok (.getfield 7, 3) := by decide +kernel
theorem dX12_joinTwo_113 : decode cX12_joinTwo 113 = .ok (.iconst 3, 1) := by decide +kernel
theorem dX12_joinTwo_114 : decode cX12_joinTwo 114 = .ok (.iaload, 1) := by decide +kernel
theorem dX12_joinTwo_115 : decode cX12_joinTwo 115 = .ok (.if_icmp .ge 99, 3) := by decide +kernel
theorem dX12_joinTwo_118 : decode cX12_joinTwo 118 = .ok (.aload_n 0, 1) := by decide +kernel
theorem dX12_joinTwo_119 : decode cX12_joinTwo 119 = .ok (.getfield 7, 3) := by decide +kernel
theorem dX12_joinTwo_122 : decode cX12_joinTwo 122 = .ok (.bipush 20, 2) := by decide +kernel
theorem dX12_joinTwo_124 : decode cX12_joinTwo 124 = .ok (.iload_n 3, 1) := by decide +kernel
theorem dX12_joinTwo_125 : decode cX12_joinTwo 125 = .ok (.iadd, 1) := by decide +kernel
theorem dX12_joinTwo_126 : decode cX12_joinTwo 126 = .ok (.aload_n 0, 1) := by decide +kernel
theorem dX12_joinTwo_127 : decode cX12_joinTwo 127 = .ok (.getfield 7, 3) := by decide +kernel
theorem dX12_joinTwo_130 : decode cX12_joinTwo 130 = .ok (.bipush 20, 2) := by decide +kernel
theorem dX12_joinTwo_132 : decode cX12_joinTwo 132 = .ok (.iload_n 3, 1) := by decide +kernel
theorem dX12_joinTwo_133 : decode cX12_joinTwo 133 = .ok (.iadd, 1) := by decide +kernel
theorem dX12_joinTwo_134 : decode cX12_joinTwo 134 = .ok (.iaload, 1) := by decide +kernel
theorem dX12_joinTwo_135 : decode cX12_joinTwo 135 = .ok (.iload_n 2, 1) := by decide +kernel
theorem dX12_joinTwo_136 : decode cX12_joinTwo 136 = .ok (.if_icmp .ne 7, 3) := by decide +kernel
theorem dX12_joinTwo_139 : decode cX12_joinTwo 139 = .ok (.iload_n 1, 1) := by decide +kernel
theorem dX12_joinTwo_140 : decode cX12_joinTwo 140 = .ok (.goto 12, 3) := by decide +kernel
theorem dX12_joinTwo_143 : decode cX12_joinTwo 143 = .ok (.aload_n 0, 1) := by decide +kernel
theorem dX12_joinTwo_144 : decode cX12_joinTwo 144 = .ok (.getfield 7, 3) := by decide +kernel
theorem dX12_joinTwo_147 : decode cX12_joinTwo 147 = .ok (.bipush 20, 2) := by decide +kernel
theorem dX12_joinTwo_149 : decode cX12_joinTwo 149 = .ok (.iload_n 3, 1) := by decide +kernel
theorem dX12_joinTwo_150 : decode cX12_joinTwo 150 = .ok (.iadd, 1) := by decide +kernel
theorem dX12_joinTwo_151 : decode cX12_joinTwo 151 = .ok (.iaload, 1) := by decide +kernel
theorem dX12_joinTwo_152 : decode cX12_joinTwo 152 = .ok (.iastore, 1) := by decide +kernel
theorem dX12_joinTwo_153 : decode cX12_joinTwo 153 = .ok (.iconst 0, 1) := by decide +kernel
theorem dX12_joinTwo_154 : decode cX12_joinTwo 154 = .ok (.istore 4, 2) := by decide +kernel
theorem dX12_joinTwo_156 : decode cX12_joinTwo 156 = .ok (.iload 4, 2) := by decide +kernel
theorem dX12_joinTwo_158 : decode cX12_joinTwo 158 = .ok (.iconst 4, 1) := by decide +kernel
theorem dX12_joinTwo_159 : decode cX12_joinTwo 159 = .ok (.if_icmp .ge 49, 3) := by decide +kernel
theorem dX12_joinTwo_162 : decode cX12_joinTwo 162 = .ok (.bipush 28, 2) := by decide +kernel
theorem dX12_joinTwo_164 : decode cX12_joinTwo 164 = .ok (.iconst 4, 1) := by decide +kernel
theorem dX12_joinTwo_165 : decode cX12_joinTwo 165 = .ok (.iload_n 3, 1) := by decide +kernel
theorem dX12_joinTwo_166 : decode cX12_joinTwo 166 = .ok (.imul, 1) := by decide +kernel
theorem dX12_joinTwo_167 : decode cX12_joinTwo 167 = .ok (.iadd, 1) := by decide +kernel
theorem dX12_joinTwo_168 : decode cX12_joinTwo 168 = .ok (.iload 4, 2) := by decide +kernel
theorem dX12_joinTwo_170 : decode cX12_joinTwo 170 = .ok (.iadd, 1) := by decide +kernel
theorem dX12_joinTwo_171 : decode cX12_joinTwo 171 = .ok (.istore 5, 2) := by decide +kernel
theorem dX12_joinTwo_173 : decode cX12_joinTwo 173 = .ok (.aload_n 0, 1) := by decide +kernel
theorem dX12_joinTwo_174 : decode cX12_joinTwo 174 = .ok (.getfield 7, 3) := by decide +kernel
theorem dX12_joinTwo_177 : decode cX12_joinTwo 177 = .ok (.iload 5, 2) := by decide +kernel
theorem dX12_joinTwo_179 : decode cX12_joinTwo 179 = .ok (.aload_n 0, 1) := by decide +kernel
theorem dX12_joinTwo_180 : decode cX12_joinTwo 180 = .ok (.getfield 7, 3) := by decide +kernel
theorem dX12_joinTwo_183 : decode cX12_joinTwo 183 = .ok (.iload 5, 2) := by decide +kernel
theorem dX12_joinTwo_185 : decode cX12_joinTwo 185 = .ok (.iaload, 1) := by decide +kernel
theorem dX12_joinTwo_186 : decode cX12_joinTwo 186 = .ok (.iload_n 2, 1) := by decide +kernel
theorem dX12_joinTwo_187 : decode cX12_joinTwo 187 = .ok (.if_icmp .ne 7, 3) := by decide +kernel
theorem dX12_joinTwo_190 : decode cX12_joinTwo 190 = .ok (.iload_n 1, 1) := by decide +kernel
theorem dX12_joinTwo_191 : decode cX12_joinTwo 191 = .ok (.goto 10, 3) := by decide +kernel
theorem dX12_joinTwo_194 : decode cX12_joinTwo 194 = .ok (.aload_n 0, 1) := by decide +kernel
theorem dX12_joinTwo_195 : decode cX12_joinTwo 195 = .ok (.getfield 7, 3) := by decide +kernel
theorem dX12_joinTwo_198 : decode cX12_joinTwo 198 = .ok (.iload 5, 2) := by decide +kernel
theorem dX12_joinTwo_200 : decode cX12_joinTwo 200 = .ok (.iaload, 1) := by decide +kernel
theorem dX12_joinTwo_201 : decode cX12_joinTwo 201 = .ok (.iastore, 1) := by decide +kernel
theorem dX12_joinTwo_202 : decode cX12_joinTwo 202 = .ok (.iinc 4 1, 3) := by decide +kernel
theorem dX12_joinTwo_205 : decode cX12_joinTwo 205 = .ok (.goto (-49), 3) := by decide +kernel
theorem dX12_joinTwo_208 : decode cX12_joinTwo 208 = .ok (.iinc 3 1, 3) := by decide +kernel
theorem dX12_joinTwo_211 : decode cX12_joinTwo 211 = .ok (.goto (-103), 3) := by decide +kernel
theorem dX12_joinTwo_214 : decode cX12_joinTwo 214 = .ok (.aload_n 0, 1) := by decide +kernel
theorem dX12_joinTwo_215 : decode cX12_joinTwo 215 = .ok (.iload_n 2, 1) := by decide +kernel
theorem dX12_joinTwo_216 : decode cX12_joinTwo 216 = .ok (.putfield 35, 3) := by decide +kernel
theorem dX12_joinTwo_219 : decode cX12_joinTwo 219 = .ok (.return_, 1) := by decide +kernel
def KX12_joinTwo_2 (E : EV) (d : Nat) (rr : Option Value × Mem) (x1 : Int32) (x2 : Int32) (Kp : Mem → Prop) : ((Int32 × Mem) ⊕ Mem) → Prop
  | .inl q => G E (d + 1) kX12_joinTwo 2 [some (.ref 74), some (.int x1), some (.int x2), some (.int q.1), none, none] [] q.2 rr
  | .inr z => Kp z
def KX12_joinTwo_108 (E : EV) (d : Nat) (rr : Option Value × Mem) (x1 : Int32) (x2 : Int32) (Kp : Mem → Prop) : ((Int32 × Mem) ⊕ Mem) → Prop
  | .inl q => G E (d + 1) kX12_joinTwo 108 [some (.ref 74), some (.int x1), some (.int x2), some (.int q.1), none, none] [] q.2 rr
  | .inr z => Kp z
def KX12_joinTwo_156 (E : EV) (d : Nat) (rr : Option Value × Mem) (x1 : Int32) (x2 : Int32) (x3 : Int32) (Kp : ((Int32 × Mem) ⊕ Mem) → Prop) : ((Int32 × Mem) ⊕ ((Int32 × Mem) ⊕ Mem)) → Prop
  | .inl q => G E (d + 1) kX12_joinTwo 156 [some (.ref 74), some (.int x1), some (.int x2), some (.int x3), some (.int q.1), none] [] q.2 rr
  | .inr z => Kp z
def bX12_joinTwo_156 (x1 : Int32) (x2 : Int32) (x3 : Int32) (x4 : Int32) (I : Mem) : Option ((Int32 × Mem) ⊕ ((Int32 × Mem) ⊕ Mem)) :=
  if (4 : Int32) ≤ x4 then
  (some (.inr (.inl ((x3 + (1 : Int32)), I))))
  else
  (letb (((28 : Int32) + ((4 : Int32) * x3)) + x4) fun x5_20 =>
  chk (inb x5_20 632) <|
  if (I 75 (ix x5_20)) = x2 then
  (chk (inb x5_20 632) <|
  letb (up2 I 75 (ix x5_20) x1) fun I_26 =>
  some (.inl ((x4 + (1 : Int32)), I_26)))
  else
  (chk (inb x5_20 632) <|
  chk (inb x5_20 632) <|
  letb (up2 I 75 (ix x5_20) (I 75 (ix x5_20))) fun I_24 =>
  some (.inl ((x4 + (1 : Int32)), I_24))))
def sX12_joinTwo_156 (x1 : Int32) (x2 : Int32) (x3 : Int32) (q : (Int32 × Mem)) : Option ((Int32 × Mem) ⊕ ((Int32 × Mem) ⊕ Mem)) := bX12_joinTwo_156 x1 x2 x3 q.1 q.2
set_option maxRecDepth 20000 in
theorem wX12_joinTwo_156 (E : EV) (d : Nat) (rr : Option Value × Mem) (x1 : Int32) (x2 : Int32) (x3 : Int32) (x4 : Int32) (I : Mem) (y : ((Int32 × Mem) ⊕ ((Int32 × Mem) ⊕ Mem))) (hf : bX12_joinTwo_156 x1 x2 x3 x4 I = some y) (hK : (KX12_joinTwo_156 E d rr x1 x2 x3 (KX12_joinTwo_108 E d rr x1 x2 (fun (z : Mem) => ((none : Option Value), z) = rr))) y) : G E (d + 1) kX12_joinTwo 156 [some (.ref 74), some (.int x1), some (.int x2), some (.int x3), some (.int x4), none] [] I rr := by
  unfold bX12_joinTwo_156 at hf
  refine G.iload dX12_joinTwo_156 rfl ?_
  refine G.iconst (v := 4) dX12_joinTwo_158 (by decide) ?_
  refine G.icmp_ge (tgt := 208) dX12_joinTwo_159 (by decide) (fun c_28 => ?_) (fun c_28 => ?_)
  · have hf := ite_t hf c_28
    refine G.inc (w := 1) (L' := [some (.ref 74), some (.int x1), some (.int x2), some (.int (x3 + (1 : Int32))), some (.int x4), none]) dX12_joinTwo_208 (by decide) rfl (Nat.le_of_ble_eq_true rfl) rfl rfl ?_
    refine G.goto (tgt := 108) dX12_joinTwo_211 (by decide) ?_
    have hf := Option.some.inj hf
    subst hf
    refine G.forget (L' := [some (.ref 74), some (.int x1), some (.int x2), some (.int (x3 + (1 : Int32))), none, none]) [4] rfl ?_
    exact hK
  · have hf := ite_f hf c_28
    refine G.bipush (v := 28) dX12_joinTwo_162 (by decide) ?_
    refine G.iconst (v := 4) dX12_joinTwo_164 (by decide) ?_
    refine G.iload_n dX12_joinTwo_165 rfl rfl ?_
    refine G.imul dX12_joinTwo_166 ?_
    refine G.iadd dX12_joinTwo_167 ?_
    refine G.iload dX12_joinTwo_168 rfl ?_
    refine G.iadd dX12_joinTwo_170 ?_
    refine G.nmi (fun x5_20 e_x5_20 => ?_)
    have hf := letb_at hf e_x5_20
    clear e_x5_20
    refine G.istore (L' := [some (.ref 74), some (.int x1), some (.int x2), some (.int x3), some (.int x4), some (.int x5_20)]) dX12_joinTwo_171 (Nat.le_of_ble_eq_true rfl) (Nat.le_of_ble_eq_true rfl) rfl rfl ?_
    refine G.aload_n dX12_joinTwo_173 rfl rfl ?_
    refine G.getR (q := 75) dX12_joinTwo_174 flX12_7 (by decide) rfl rfl ?_
    refine G.iload dX12_joinTwo_177 rfl ?_
    refine G.aload_n dX12_joinTwo_179 rfl rfl ?_
    refine G.getR (q := 75) dX12_joinTwo_180 flX12_7 (by decide) rfl rfl ?_
    refine G.iload dX12_joinTwo_183 rfl ?_
    obtain ⟨hi_21, hf⟩ := chk_at hf
    refine G.iald' dX12_joinTwo_185 (by decide) rfl rfl hi_21 ?_
    refine G.iload_n dX12_joinTwo_186 rfl rfl ?_
    refine G.icmp_ne (tgt := 194) dX12_joinTwo_187 (by decide) (fun c_27 => ?_) (fun c_27 => ?_)
    · have hf := ite_f hf c_27
      refine G.aload_n dX12_joinTwo_194 rfl rfl ?_
      refine G.getR (q := 75) dX12_joinTwo_195 flX12_7 (by decide) rfl rfl ?_
      refine G.iload dX12_joinTwo_198 rfl ?_
      obtain ⟨hi_22, hf⟩ := chk_at hf
      refine G.iald' dX12_joinTwo_200 (by decide) rfl rfl hi_22 ?_
      obtain ⟨hi_23, hf⟩ := chk_at hf
      refine G.iast' dX12_joinTwo_201 (by decide) rfl rfl hi_23 ?_
      refine G.nmI (fun I_24 e_I_24 => ?_)
      have hf := letb_at hf e_I_24
      clear e_I_24
      refine G.inc (w := 1) (L' := [some (.ref 74), some (.int x1), some (.int x2), some (.int x3), some (.int (x4 + (1 : Int32))), some (.int x5_20)]) dX12_joinTwo_202 (by decide) rfl (Nat.le_of_ble_eq_true rfl) rfl rfl ?_
      refine G.goto (tgt := 156) dX12_joinTwo_205 (by decide) ?_
      have hf := Option.some.inj hf
      subst hf
      refine G.forget (L' := [some (.ref 74), some (.int x1), some (.int x2), some (.int x3), some (.int (x4 + (1 : Int32))), none]) [5] rfl ?_
      exact hK
    · have hf := ite_t hf c_27
      refine G.iload_n dX12_joinTwo_190 rfl rfl ?_
      refine G.goto (tgt := 201) dX12_joinTwo_191 (by decide) ?_
      obtain ⟨hi_25, hf⟩ := chk_at hf
      refine G.iast' dX12_joinTwo_201 (by decide) rfl rfl hi_25 ?_
      refine G.nmI (fun I_26 e_I_26 => ?_)
      have hf := letb_at hf e_I_26
      clear e_I_26
      refine G.inc (w := 1) (L' := [some (.ref 74), some (.int x1), some (.int x2), some (.int x3), some (.int (x4 + (1 : Int32))), some (.int x5_20)]) dX12_joinTwo_202 (by decide) rfl (Nat.le_of_ble_eq_true rfl) rfl rfl ?_
      refine G.goto (tgt := 156) dX12_joinTwo_205 (by decide) ?_
      have hf := Option.some.inj hf
      subst hf
      refine G.forget (L' := [some (.ref 74), some (.int x1), some (.int x2), some (.int x3), some (.int (x4 + (1 : Int32))), none]) [5] rfl ?_
      exact hK
theorem lX12_joinTwo_156 (E : EV) (d : Nat) (rr : Option Value × Mem) (x1 : Int32) (x2 : Int32) (x3 : Int32) (z : ((Int32 × Mem) ⊕ Mem)) (hK : (KX12_joinTwo_108 E d rr x1 x2 (fun (z : Mem) => ((none : Option Value), z) = rr)) z) : ∀ (n : Nat) (q : (Int32 × Mem)), iter (sX12_joinTwo_156 x1 x2 x3) n q = some z → G E (d + 1) kX12_joinTwo 156 [some (.ref 74), some (.int x1), some (.int x2), some (.int x3), some (.int q.1), none] [] q.2 rr := by
  intro n
  induction n with
  | zero => intro q h; cases h
  | succ n ih =>
    intro q h
    rcases iter_at h with ⟨q2, hs, h2⟩ | hs
    · exact wX12_joinTwo_156 E d rr x1 x2 x3 q.1 q.2 _ hs (ih q2 h2)
    · exact wX12_joinTwo_156 E d rr x1 x2 x3 q.1 q.2 _ hs hK
def jX12_joinTwo_152 (x1 : Int32) (x2 : Int32) (x3 : Int32) (u0 : Int32) (u1 : Int32) (I : Mem) : Option ((Int32 × Mem) ⊕ Mem) :=
  chk (inb u1 632) <|
  letb (up2 I 75 (ix u1) u0) fun I_19 =>
  iter (sX12_joinTwo_156 x1 x2 x3) FU ((0 : Int32), I_19)
set_option maxRecDepth 20000 in
theorem tX12_joinTwo_152 (E : EV) (d : Nat) (rr : Option Value × Mem) (x1 : Int32) (x2 : Int32) (x3 : Int32) (u0 : Int32) (u1 : Int32) (I : Mem) (y : ((Int32 × Mem) ⊕ Mem)) (hf : jX12_joinTwo_152 x1 x2 x3 u0 u1 I = some y) (hK : (KX12_joinTwo_108 E d rr x1 x2 (fun (z : Mem) => ((none : Option Value), z) = rr)) y) : G E (d + 1) kX12_joinTwo 152 [some (.ref 74), some (.int x1), some (.int x2), some (.int x3), none, none] [.int u0, .int u1, .ref 75] I rr := by
  unfold jX12_joinTwo_152 at hf
  obtain ⟨hi_18, hf⟩ := chk_at hf
  refine G.iast' dX12_joinTwo_152 (by decide) rfl rfl hi_18 ?_
  refine G.nmI (fun I_19 e_I_19 => ?_)
  have hf := letb_at hf e_I_19
  clear e_I_19
  refine G.iconst (v := 0) dX12_joinTwo_153 (by decide) ?_
  refine G.istore (L' := [some (.ref 74), some (.int x1), some (.int x2), some (.int x3), some (.int (0 : Int32)), none]) dX12_joinTwo_154 (Nat.le_of_ble_eq_true rfl) (Nat.le_of_ble_eq_true rfl) rfl rfl ?_
  exact lX12_joinTwo_156 E d rr x1 x2 x3 _ hK FU _ hf
def bX12_joinTwo_108 (x1 : Int32) (x2 : Int32) (x3 : Int32) (I : Mem) : Option ((Int32 × Mem) ⊕ Mem) :=
  chk (inb (3 : Int32) 632) <|
  if (I 75 (ix (3 : Int32))) ≤ x3 then
  (letb (up2 I 74 15 x2) fun I_15 =>
  some (.inr I_15))
  else
  (chk (inb ((20 : Int32) + x3) 632) <|
  if (I 75 (ix ((20 : Int32) + x3))) = x2 then
  (jX12_joinTwo_152 x1 x2 x3 x1 ((20 : Int32) + x3) I)
  else
  (chk (inb ((20 : Int32) + x3) 632) <|
  jX12_joinTwo_152 x1 x2 x3 (I 75 (ix ((20 : Int32) + x3))) ((20 : Int32) + x3) I))
def sX12_joinTwo_108 (x1 : Int32) (x2 : Int32) (q : (Int32 × Mem)) : Option ((Int32 × Mem) ⊕ Mem) := bX12_joinTwo_108 x1 x2 q.1 q.2
set_option maxRecDepth 20000 in
theorem wX12_joinTwo_108 (E : EV) (d : Nat) (rr : Option Value × Mem) (x1 : Int32) (x2 : Int32) (x3 : Int32) (I : Mem) (y : ((Int32 × Mem) ⊕ Mem)) (hf : bX12_joinTwo_108 x1 x2 x3 I = some y) (hK : (KX12_joinTwo_108 E d rr x1 x2 (fun (z : Mem) => ((none : Option Value), z) = rr)) y) : G E (d + 1) kX12_joinTwo 108 [some (.ref 74), some (.int x1), some (.int x2), some (.int x3), none, none] [] I rr := by
  unfold bX12_joinTwo_108 at hf
  refine G.iload_n dX12_joinTwo_108 rfl rfl ?_
  refine G.aload_n dX12_joinTwo_109 rfl rfl ?_
  refine G.getR (q := 75) dX12_joinTwo_110 flX12_7 (by decide) rfl rfl ?_
  refine G.iconst (v := 3) dX12_joinTwo_113 (by decide) ?_
  obtain ⟨hi_14, hf⟩ := chk_at hf
  refine G.iald' dX12_joinTwo_114 (by decide) rfl rfl hi_14 ?_
  refine G.icmp_ge (tgt := 214) dX12_joinTwo_115 (by decide) (fun c_30 => ?_) (fun c_30 => ?_)
  · have hf := ite_t hf c_30
    refine G.aload_n dX12_joinTwo_214 rfl rfl ?_
    refine G.iload_n dX12_joinTwo_215 rfl rfl ?_
    refine G.putI dX12_joinTwo_216 flX12_35 (by decide) rfl ?_
    refine G.nmI (fun I_15 e_I_15 => ?_)
    have hf := letb_at hf e_I_15
    clear e_I_15
    have hf := Option.some.inj hf
    subst hf
    exact G.vret' dX12_joinTwo_219 rfl hK
  · have hf := ite_f hf c_30
    refine G.aload_n dX12_joinTwo_118 rfl rfl ?_
    refine G.getR (q := 75) dX12_joinTwo_119 flX12_7 (by decide) rfl rfl ?_
    refine G.bipush (v := 20) dX12_joinTwo_122 (by decide) ?_
    refine G.iload_n dX12_joinTwo_124 rfl rfl ?_
    refine G.iadd dX12_joinTwo_125 ?_
    refine G.aload_n dX12_joinTwo_126 rfl rfl ?_
    refine G.getR (q := 75) dX12_joinTwo_127 flX12_7 (by decide) rfl rfl ?_
    refine G.bipush (v := 20) dX12_joinTwo_130 (by decide) ?_
    refine G.iload_n dX12_joinTwo_132 rfl rfl ?_
    refine G.iadd dX12_joinTwo_133 ?_
    obtain ⟨hi_16, hf⟩ := chk_at hf
    refine G.iald' dX12_joinTwo_134 (by decide) rfl rfl hi_16 ?_
    refine G.iload_n dX12_joinTwo_135 rfl rfl ?_
    refine G.icmp_ne (tgt := 143) dX12_joinTwo_136 (by decide) (fun c_29 => ?_) (fun c_29 => ?_)
    · have hf := ite_f hf c_29
      refine G.aload_n dX12_joinTwo_143 rfl rfl ?_
      refine G.getR (q := 75) dX12_joinTwo_144 flX12_7 (by decide) rfl rfl ?_
      refine G.bipush (v := 20) dX12_joinTwo_147 (by decide) ?_
      refine G.iload_n dX12_joinTwo_149 rfl rfl ?_
      refine G.iadd dX12_joinTwo_150 ?_
      obtain ⟨hi_17, hf⟩ := chk_at hf
      refine G.iald' dX12_joinTwo_151 (by decide) rfl rfl hi_17 ?_
      exact tX12_joinTwo_152 E d rr x1 x2 x3 (I 75 (ix ((20 : Int32) + x3))) ((20 : Int32) + x3) I _ hf hK
    · have hf := ite_t hf c_29
      refine G.iload_n dX12_joinTwo_139 rfl rfl ?_
      refine G.goto (tgt := 152) dX12_joinTwo_140 (by decide) ?_
      exact tX12_joinTwo_152 E d rr x1 x2 x3 x1 ((20 : Int32) + x3) I _ hf hK
theorem lX12_joinTwo_108 (E : EV) (d : Nat) (rr : Option Value × Mem) (x1 : Int32) (x2 : Int32) (z : Mem) (hK : (fun (z : Mem) => ((none : Option Value), z) = rr) z) : ∀ (n : Nat) (q : (Int32 × Mem)), iter (sX12_joinTwo_108 x1 x2) n q = some z → G E (d + 1) kX12_joinTwo 108 [some (.ref 74), some (.int x1), some (.int x2), some (.int q.1), none, none] [] q.2 rr := by
  intro n
  induction n with
  | zero => intro q h; cases h
  | succ n ih =>
    intro q h
    rcases iter_at h with ⟨q2, hs, h2⟩ | hs
    · exact wX12_joinTwo_108 E d rr x1 x2 q.1 q.2 _ hs (ih q2 h2)
    · exact wX12_joinTwo_108 E d rr x1 x2 q.1 q.2 _ hs hK
def jX12_joinTwo_90 (x1 : Int32) (x2 : Int32) (u0 : Int32) (u1 : Int32) (u2 : Int32) (I : Mem) : Option Mem :=
  chk (inb u2 632) <|
  letb (up2 I 75 (ix u2) (u1 ||| u0)) fun I_10 =>
  chk (inb (4 : Int32) 632) <|
  chk (inb (4 : Int32) 632) <|
  letb (up2 I_10 75 (ix (4 : Int32)) ((I_10 75 (ix (4 : Int32))) &&& (((1 : Int32) <<< (x2 &&& 31)) ^^^ (-1 : Int32)))) fun I_13 =>
  iter (sX12_joinTwo_108 x1 x2) FU ((0 : Int32), I_13)
set_option maxRecDepth 20000 in
theorem tX12_joinTwo_90 (E : EV) (d : Nat) (rr : Option Value × Mem) (x1 : Int32) (x2 : Int32) (u0 : Int32) (u1 : Int32) (u2 : Int32) (I : Mem) (y : Mem) (hf : jX12_joinTwo_90 x1 x2 u0 u1 u2 I = some y) (hK : (fun (z : Mem) => ((none : Option Value), z) = rr) y) : G E (d + 1) kX12_joinTwo 90 [some (.ref 74), some (.int x1), some (.int x2), none, none, none] [.int u0, .int u1, .int u2, .ref 75] I rr := by
  unfold jX12_joinTwo_90 at hf
  refine G.ior dX12_joinTwo_90 ?_
  obtain ⟨hi_9, hf⟩ := chk_at hf
  refine G.iast' dX12_joinTwo_91 (by decide) rfl rfl hi_9 ?_
  refine G.nmI (fun I_10 e_I_10 => ?_)
  have hf := letb_at hf e_I_10
  clear e_I_10
  refine G.aload_n dX12_joinTwo_92 rfl rfl ?_
  refine G.getR (q := 75) dX12_joinTwo_93 flX12_7 (by decide) rfl rfl ?_
  refine G.iconst (v := 4) dX12_joinTwo_96 (by decide) ?_
  refine G.dup2 dX12_joinTwo_97 rfl rfl ?_
  obtain ⟨hi_11, hf⟩ := chk_at hf
  refine G.iald' dX12_joinTwo_98 (by decide) rfl rfl hi_11 ?_
  refine G.iconst (v := 1) dX12_joinTwo_99 (by decide) ?_
  refine G.iload_n dX12_joinTwo_100 rfl rfl ?_
  refine G.ishl dX12_joinTwo_101 ?_
  refine G.iconst (v := -1) dX12_joinTwo_102 (by decide) ?_
  refine G.ixor dX12_joinTwo_103 ?_
  refine G.iand dX12_joinTwo_104 ?_
  obtain ⟨hi_12, hf⟩ := chk_at hf
  refine G.iast' dX12_joinTwo_105 (by decide) rfl rfl hi_12 ?_
  refine G.nmI (fun I_13 e_I_13 => ?_)
  have hf := letb_at hf e_I_13
  clear e_I_13
  refine G.iconst (v := 0) dX12_joinTwo_106 (by decide) ?_
  refine G.istore_n (L' := [some (.ref 74), some (.int x1), some (.int x2), some (.int (0 : Int32)), none, none]) dX12_joinTwo_107 rfl (Nat.le_of_ble_eq_true rfl) (Nat.le_of_ble_eq_true rfl) rfl rfl ?_
  exact lX12_joinTwo_108 E d rr x1 x2 _ hK FU _ hf
def bX12_joinTwo_2 (x1 : Int32) (x2 : Int32) (x3 : Int32) (I : Mem) : Option ((Int32 × Mem) ⊕ Mem) :=
  chk (inb (0 : Int32) 632) <|
  if (I 75 (ix (0 : Int32))) ≤ x3 then
  (chk (inb ((5 : Int32) + x1) 632) <|
  chk (inb ((5 : Int32) + x1) 632) <|
  letb (up2 I 75 (ix ((5 : Int32) + x1)) ((I 75 (ix ((5 : Int32) + x1))) &&& (((1 : Int32) <<< (x1 &&& 31)) ^^^ (-1 : Int32)))) fun I_4 =>
  chk (inb (4 : Int32) 632) <|
  chk (inb (4 : Int32) 632) <|
  bnd (fX12_has (I_4 75 (ix (4 : Int32))) x2 I_4) fun v_8 =>
  if v_8 = 0 then
  (inrO (jX12_joinTwo_90 x1 x2 (0 : Int32) (I_4 75 (ix (4 : Int32))) (4 : Int32) I_4))
  else
  (inrO (jX12_joinTwo_90 x1 x2 ((1 : Int32) <<< (x1 &&& 31)) (I_4 75 (ix (4 : Int32))) (4 : Int32) I_4)))
  else
  (chk (inb ((5 : Int32) + x2) 632) <|
  bnd (fX12_has (I 75 (ix ((5 : Int32) + x2))) x3 I) fun v_36 =>
  if v_36 = 0 then
  (some (.inl ((x3 + (1 : Int32)), I)))
  else
  (bnd (fX12_layDoor x2 x3 (0 : Int32) I) fun I_38 =>
  bnd (fX12_layDoor x1 x3 (1 : Int32) I_38) fun I_40 =>
  some (.inl ((x3 + (1 : Int32)), I_40))))
def sX12_joinTwo_2 (x1 : Int32) (x2 : Int32) (q : (Int32 × Mem)) : Option ((Int32 × Mem) ⊕ Mem) := bX12_joinTwo_2 x1 x2 q.1 q.2
set_option maxRecDepth 20000 in
theorem wX12_joinTwo_2 (E : EV) (d : Nat) (rr : Option Value × Mem) (x1 : Int32) (x2 : Int32) (x3 : Int32) (I : Mem) (y : ((Int32 × Mem) ⊕ Mem)) (hf : bX12_joinTwo_2 x1 x2 x3 I = some y) (hK : (KX12_joinTwo_2 E d rr x1 x2 (fun (z : Mem) => ((none : Option Value), z) = rr)) y) : G E (d + 1) kX12_joinTwo 2 [some (.ref 74), some (.int x1), some (.int x2), some (.int x3), none, none] [] I rr := by
  unfold bX12_joinTwo_2 at hf
  refine G.iload_n dX12_joinTwo_2 rfl rfl ?_
  refine G.aload_n dX12_joinTwo_3 rfl rfl ?_
  refine G.getR (q := 75) dX12_joinTwo_4 flX12_7 (by decide) rfl rfl ?_
  refine G.iconst (v := 0) dX12_joinTwo_7 (by decide) ?_
  obtain ⟨hi_1, hf⟩ := chk_at hf
  refine G.iald' dX12_joinTwo_8 (by decide) rfl rfl hi_1 ?_
  refine G.icmp_ge (tgt := 47) dX12_joinTwo_9 (by decide) (fun c_42 => ?_) (fun c_42 => ?_)
  · have hf := ite_t hf c_42
    refine G.aload_n dX12_joinTwo_47 rfl rfl ?_
    refine G.getR (q := 75) dX12_joinTwo_48 flX12_7 (by decide) rfl rfl ?_
    refine G.iconst (v := 5) dX12_joinTwo_51 (by decide) ?_
    refine G.iload_n dX12_joinTwo_52 rfl rfl ?_
    refine G.iadd dX12_joinTwo_53 ?_
    refine G.dup2 dX12_joinTwo_54 rfl rfl ?_
    obtain ⟨hi_2, hf⟩ := chk_at hf
    refine G.iald' dX12_joinTwo_55 (by decide) rfl rfl hi_2 ?_
    refine G.iconst (v := 1) dX12_joinTwo_56 (by decide) ?_
    refine G.iload_n dX12_joinTwo_57 rfl rfl ?_
    refine G.ishl dX12_joinTwo_58 ?_
    refine G.iconst (v := -1) dX12_joinTwo_59 (by decide) ?_
    refine G.ixor dX12_joinTwo_60 ?_
    refine G.iand dX12_joinTwo_61 ?_
    obtain ⟨hi_3, hf⟩ := chk_at hf
    refine G.iast' dX12_joinTwo_62 (by decide) rfl rfl hi_3 ?_
    refine G.nmI (fun I_4 e_I_4 => ?_)
    have hf := letb_at hf e_I_4
    clear e_I_4
    refine G.aload_n dX12_joinTwo_63 rfl rfl ?_
    refine G.getR (q := 75) dX12_joinTwo_64 flX12_7 (by decide) rfl rfl ?_
    refine G.iconst (v := 4) dX12_joinTwo_67 (by decide) ?_
    refine G.dup2 dX12_joinTwo_68 rfl rfl ?_
    obtain ⟨hi_5, hf⟩ := chk_at hf
    refine G.iald' dX12_joinTwo_69 (by decide) rfl rfl hi_5 ?_
    refine G.aload_n dX12_joinTwo_70 rfl rfl ?_
    refine G.getR (q := 75) dX12_joinTwo_71 flX12_7 (by decide) rfl rfl ?_
    refine G.iconst (v := 4) dX12_joinTwo_74 (by decide) ?_
    obtain ⟨hi_6, hf⟩ := chk_at hf
    refine G.iald' dX12_joinTwo_75 (by decide) rfl rfl hi_6 ?_
    refine G.iload_n dX12_joinTwo_76 rfl rfl ?_
    obtain ⟨v_8, hc_7, hf⟩ := bnd_at hf
    refine G.callSi (av := [.int (I_4 75 (ix (4 : Int32))), .int x2]) (rest := [.int (I_4 75 (ix (4 : Int32))), .int (4 : Int32), .ref 75]) dX12_joinTwo_77 msX12_67 (gX12_has E d (I_4 75 (ix (4 : Int32))) x2 I_4 hc_7) rfl rfl (Nat.le_of_ble_eq_true rfl) ?_
    refine G.if_eq (tgt := 89) dX12_joinTwo_80 (by decide) (fun c_33 => ?_) (fun c_33 => ?_)
    · have hf := ite_t hf c_33
      refine G.iconst (v := 0) dX12_joinTwo_89 (by decide) ?_
      obtain ⟨z_31, hz_31, rfl⟩ := inrO_at hf
      have hf := hz_31
      refine G.forget (L' := [some (.ref 74), some (.int x1), some (.int x2), none, none, none]) [3] rfl ?_
      exact tX12_joinTwo_90 E d rr x1 x2 (0 : Int32) (I_4 75 (ix (4 : Int32))) (4 : Int32) I_4 _ hf hK
    · have hf := ite_f hf c_33
      refine G.iconst (v := 1) dX12_joinTwo_83 (by decide) ?_
      refine G.iload_n dX12_joinTwo_84 rfl rfl ?_
      refine G.ishl dX12_joinTwo_85 ?_
      refine G.goto (tgt := 90) dX12_joinTwo_86 (by decide) ?_
      obtain ⟨z_32, hz_32, rfl⟩ := inrO_at hf
      have hf := hz_32
      refine G.forget (L' := [some (.ref 74), some (.int x1), some (.int x2), none, none, none]) [3] rfl ?_
      exact tX12_joinTwo_90 E d rr x1 x2 ((1 : Int32) <<< (x1 &&& 31)) (I_4 75 (ix (4 : Int32))) (4 : Int32) I_4 _ hf hK
  · have hf := ite_f hf c_42
    refine G.aload_n dX12_joinTwo_12 rfl rfl ?_
    refine G.getR (q := 75) dX12_joinTwo_13 flX12_7 (by decide) rfl rfl ?_
    refine G.iconst (v := 5) dX12_joinTwo_16 (by decide) ?_
    refine G.iload_n dX12_joinTwo_17 rfl rfl ?_
    refine G.iadd dX12_joinTwo_18 ?_
    obtain ⟨hi_34, hf⟩ := chk_at hf
    refine G.iald' dX12_joinTwo_19 (by decide) rfl rfl hi_34 ?_
    refine G.iload_n dX12_joinTwo_20 rfl rfl ?_
    obtain ⟨v_36, hc_35, hf⟩ := bnd_at hf
    refine G.callSi (av := [.int (I 75 (ix ((5 : Int32) + x2))), .int x3]) (rest := []) dX12_joinTwo_21 msX12_67 (gX12_has E d (I 75 (ix ((5 : Int32) + x2))) x3 I hc_35) rfl rfl (Nat.le_of_ble_eq_true rfl) ?_
    refine G.if_eq (tgt := 41) dX12_joinTwo_24 (by decide) (fun c_41 => ?_) (fun c_41 => ?_)
    · have hf := ite_t hf c_41
      refine G.inc (w := 1) (L' := [some (.ref 74), some (.int x1), some (.int x2), some (.int (x3 + (1 : Int32))), none, none]) dX12_joinTwo_41 (by decide) rfl (Nat.le_of_ble_eq_true rfl) rfl rfl ?_
      refine G.goto (tgt := 2) dX12_joinTwo_44 (by decide) ?_
      have hf := Option.some.inj hf
      subst hf
      exact hK
    · have hf := ite_f hf c_41
      refine G.aload_n dX12_joinTwo_27 rfl rfl ?_
      refine G.iload_n dX12_joinTwo_28 rfl rfl ?_
      refine G.iload_n dX12_joinTwo_29 rfl rfl ?_
      refine G.iconst (v := 0) dX12_joinTwo_30 (by decide) ?_
      obtain ⟨I_38, hc_37, hf⟩ := bnd_at hf
      refine G.callVv (av := [.int x2, .int x3, .int (0 : Int32)]) (rest := []) dX12_joinTwo_31 mvX12_75 (gX12_layDoor E d x2 x3 (0 : Int32) I hc_37) (by decide) rfl rfl rfl (Nat.le_of_ble_eq_true rfl) ?_
      refine G.aload_n dX12_joinTwo_34 rfl rfl ?_
      refine G.iload_n dX12_joinTwo_35 rfl rfl ?_
      refine G.iload_n dX12_joinTwo_36 rfl rfl ?_
      refine G.iconst (v := 1) dX12_joinTwo_37 (by decide) ?_
      obtain ⟨I_40, hc_39, hf⟩ := bnd_at hf
      refine G.callVv (av := [.int x1, .int x3, .int (1 : Int32)]) (rest := []) dX12_joinTwo_38 mvX12_75 (gX12_layDoor E d x1 x3 (1 : Int32) I_38 hc_39) (by decide) rfl rfl rfl (Nat.le_of_ble_eq_true rfl) ?_
      refine G.inc (w := 1) (L' := [some (.ref 74), some (.int x1), some (.int x2), some (.int (x3 + (1 : Int32))), none, none]) dX12_joinTwo_41 (by decide) rfl (Nat.le_of_ble_eq_true rfl) rfl rfl ?_
      refine G.goto (tgt := 2) dX12_joinTwo_44 (by decide) ?_
      have hf := Option.some.inj hf
      subst hf
      exact hK
theorem lX12_joinTwo_2 (E : EV) (d : Nat) (rr : Option Value × Mem) (x1 : Int32) (x2 : Int32) (z : Mem) (hK : (fun (z : Mem) => ((none : Option Value), z) = rr) z) : ∀ (n : Nat) (q : (Int32 × Mem)), iter (sX12_joinTwo_2 x1 x2) n q = some z → G E (d + 1) kX12_joinTwo 2 [some (.ref 74), some (.int x1), some (.int x2), some (.int q.1), none, none] [] q.2 rr := by
  intro n
  induction n with
  | zero => intro q h; cases h
  | succ n ih =>
    intro q h
    rcases iter_at h with ⟨q2, hs, h2⟩ | hs
    · exact wX12_joinTwo_2 E d rr x1 x2 q.1 q.2 _ hs (ih q2 h2)
    · exact wX12_joinTwo_2 E d rr x1 x2 q.1 q.2 _ hs hK
def fX12_joinTwo (x1 : Int32) (x2 : Int32) (I : Mem) : Option Mem :=
  iter (sX12_joinTwo_2 x1 x2) FU ((0 : Int32), I)
set_option maxRecDepth 20000 in
theorem gX12_joinTwo (E : EV) (d : Nat) (x1 : Int32) (x2 : Int32) (I : Mem) {J : Mem} (hf : fX12_joinTwo x1 x2 I = some J) : Gm E (d + 1) kX12_joinTwo [.ref 74, .int x1, .int x2] I (none, J) := by
  refine (fun (y : Mem) (hf : fX12_joinTwo x1 x2 I = some y) => (?_ : Gm E (d + 1) kX12_joinTwo [.ref 74, .int x1, .int x2] I (none, y))) J hf
  refine Gm.of (by decide) rfl (Nat.le_of_ble_eq_true rfl) ?_
  generalize hrr : ((none, y) : Option Value × Mem) = rr
  show G E (d + 1) kX12_joinTwo 0 [some (.ref 74), some (.int x1), some (.int x2), none, none, none] [] I rr
  have hK : (fun (z : Mem) => ((none : Option Value), z) = rr) y := hrr
  clear hrr
  unfold fX12_joinTwo at hf
  refine G.iconst (v := 0) dX12_joinTwo_0 (by decide) ?_
  refine G.istore_n (L' := [some (.ref 74), some (.int x1), some (.int x2), some (.int (0 : Int32)), none, none]) dX12_joinTwo_1 rfl (Nat.le_of_ble_eq_true rfl) (Nat.le_of_ble_eq_true rfl) rfl rfl ?_
  exact lX12_joinTwo_2 E d rr x1 x2 _ hK FU _ hf
theorem dX12_leastBy_0 : decode cX12_leastBy 0 = .ok (.aload_n 0, 1) := by decide +kernel
theorem dX12_leastBy_1 : decode cX12_leastBy 1 = .ok (.iload_n 1, 1) := by decide +kernel
theorem dX12_leastBy_2 : decode cX12_leastBy 2 = .ok (.invokevirtual 207, 3) := by decide +kernel
theorem dX12_leastBy_5 : decode cX12_leastBy 5 = .ok (.aload_n 0, 1) := by decide +kernel
theorem dX12_leastBy_6 : decode cX12_leastBy 6 = .ok (.getfield 32, 3) := by decide +kernel
theorem dX12_leastBy_9 : decode cX12_leastBy 9 = .ok (.aload_n 0, 1) := by decide +kernel
theorem dX12_leastBy_10 : decode cX12_leastBy 10 = .ok (.invokevirtual 173, 3) := by decide +kernel
theorem dX12_leastBy_13 : decode cX12_leastBy 13 = .ok (.iaload, 1) := by decide +kernel
theorem dX12_leastBy_14 : decode cX12_leastBy 14 = .ok (.ireturn, 1) := by decide +kernel
def fX12_leastBy (x1 : Int32) (I : Mem) : Option (Int32 × Mem) :=
  bnd (fX12_layCosts x1 I) fun I_2 =>
  bnd (fX12_now I_2) fun v_4 =>
  chk (inb v_4 20480) <|
  some ((I_2 82 (ix v_4)), I_2)
set_option maxRecDepth 20000 in
theorem gX12_leastBy (E : EV) (d : Nat) (x1 : Int32) (I : Mem) {v : Int32} {J : Mem} (hf : fX12_leastBy x1 I = some (v, J)) : Gm E (d + 6) kX12_leastBy [.ref 74, .int x1] I (some (.int v), J) := by
  refine (fun (y : (Int32 × Mem)) (hf : fX12_leastBy x1 I = some y) => (?_ : Gm E (d + 6) kX12_leastBy [.ref 74, .int x1] I (some (.int y.1), y.2))) (v, J) hf
  refine Gm.of (by decide) rfl (Nat.le_of_ble_eq_true rfl) ?_
  generalize hrr : ((some (.int y.1), y.2) : Option Value × Mem) = rr
  show G E (d + 6) kX12_leastBy 0 [some (.ref 74), some (.int x1)] [] I rr
  have hK : (fun (z : Int32 × Mem) => (some (.int z.1), z.2) = rr) y := hrr
  clear hrr
  unfold fX12_leastBy at hf
  refine G.aload_n dX12_leastBy_0 rfl rfl ?_
  refine G.iload_n dX12_leastBy_1 rfl rfl ?_
  obtain ⟨I_2, hc_1, hf⟩ := bnd_at hf
  refine G.callVv (av := [.int x1]) (rest := []) dX12_leastBy_2 mvX12_207 (gX12_layCosts E d x1 I hc_1) (by decide) rfl rfl rfl (Nat.le_of_ble_eq_true rfl) ?_
  refine G.aload_n dX12_leastBy_5 rfl rfl ?_
  refine G.getR (q := 82) dX12_leastBy_6 flX12_32 (by decide) rfl rfl ?_
  refine G.aload_n dX12_leastBy_9 rfl rfl ?_
  obtain ⟨v_4, hc_3, hf⟩ := bnd_at hf
  refine G.callVi (av := []) (rest := [.ref 82]) dX12_leastBy_10 mvX12_173 (gX12_now E (d + 5) I_2 hc_3) (by decide) rfl rfl rfl (Nat.le_of_ble_eq_true rfl) ?_
  obtain ⟨hi_5, hf⟩ := chk_at hf
  refine G.iald' dX12_leastBy_13 (by decide) rfl rfl hi_5 ?_
  have hf := Option.some.inj hf
  subst hf
  exact G.iret' dX12_leastBy_14 rfl hK
theorem dX12_join_0 : decode cX12_join 0 = .ok (.iload_n 1, 1) := by decide +kernel
theorem dX12_join_1 : decode cX12_join 1 = .ok (.i2l, 1) := by decide +kernel
theorem dX12_join_2 : decode cX12_join 2 = .ok (.lconst 1, 1) := by decide +kernel
theorem dX12_join_3 : decode cX12_join 3 = .ok (.ldc2_w 87, 3) := by decide +kernel
theorem dX12_join_6 : decode cX12_join 6 = .ok (.invokestatic 49, 3) := by decide +kernel
theorem dX12_join_9 : decode cX12_join 9 = .ok (.ifCond .ne 10, 3) := by decide +kernel
theorem dX12_join_12 : decode cX12_join 12 = .ok (.aload_n 0, 1) := by decide +kernel
theorem dX12_join_13 : decode cX12_join 13 = .ok (.bipush (-2), 2) := by decide +kernel
theorem dX12_join_15 : decode cX12_join 15 = .ok (.invokevirtual 59, 3) := by decide +kernel
theorem dX12_join_18 : decode cX12_join 18 = .ok (.ireturn, 1) := by decide +kernel
theorem dX12_join_19 : decode cX12_join 19 = .ok (.aload_n 0, 1) := by decide +kernel
theorem dX12_join_20 : decode cX12_join 20 = .ok (.getfield 7, 3) := by decide +kernel
theorem dX12_join_23 : decode cX12_join 23 = .ok (.iconst 3, 1) := by decide +kernel
theorem dX12_join_24 : decode cX12_join 24 = .ok (.iaload, 1) := by decide +kernel
theorem dX12_join_25 : decode cX12_join 25 = .ok (.iconst 4, 1) := by decide +kernel
theorem dX12_join_26 : decode cX12_join 26 = .ok (.if_icmp .ne 8, 3) := by decide +kernel
theorem dX12_join_29 : decode cX12_join 29 = .ok (.aload_n 0, 1) := by decide +kernel
theorem dX12_join_30 : decode cX12_join 30 = .ok (.invokevirtual 71, 3) := by decide +kernel
theorem dX12_join_33 : decode cX12_join 33 = .ok (.ireturn, 1) := by decide +kernel
theorem dX12_join_34 : decode cX12_join 34 = .ok (.aload_n 0, 1) := by decide +kernel
theorem dX12_join_35 : decode cX12_join 35 = .ok (.iload_n 1, 1) := by decide +kernel
theorem dX12_join_36 : decode cX12_join 36 = .ok (.invokevirtual 221, 3) := by decide +kernel
theorem dX12_join_39 : decode cX12_join 39 = .ok (.istore_n 2, 1) := by decide +kernel
theorem dX12_join_40 : decode cX12_join 40 = .ok (.iconst (-1), 1) := by decide +kernel
theorem dX12_join_41 : decode cX12_join 41 = .ok (.istore_n 3, 1) := by decide +kernel
theorem dX12_join_42 : decode cX12_join 42 = .ok (.iconst 0, 1) := by decide +kernel
theorem dX12_join_43 : decode cX12_join 43 = .ok (.istore 4, 2) := by decide +kernel
theorem dX12_join_45 : decode cX12_join 45 = .ok (.iload 4, 2) := by decide +kernel
theorem dX12_join_47 : decode cX12_join 47 = .ok (.bipush 25, 2) := by decide +kernel
theorem dX12_join_49 : decode cX12_join 49 = .ok (.if_icmp .ge 101, 3) := by decide +kernel
theorem dX12_join_52 : decode cX12_join 52 = .ok (.iload 4, 2) := by decide +kernel
theorem dX12_join_54 : decode cX12_join 54 = .ok (.iconst 5, 1) := by decide +kernel
theorem dX12_join_55 : decode cX12_join 55 = .ok (.idiv, 1) := by decide +kernel
theorem dX12_join_56 : decode cX12_join 56 = .ok (.istore 5, 2) := by decide +kernel
theorem dX12_join_58 : decode cX12_join 58 = .ok (.iload 4, 2) := by decide +kernel
theorem dX12_join_60 : decode cX12_join 60 = .ok (.iconst 5, 1) := by decide +kernel
theorem dX12_join_61 : decode cX12_join 61 = .ok (.irem, 1) := by decide +kernel
theorem dX12_join_62 : decode cX12_join 62 = .ok (.istore 6, 2) := by decide +kernel
theorem dX12_join_64 : decode cX12_join 64 = .ok (.iload 5, 2) := by decide +kernel
theorem dX12_join_66 : decode cX12_join 66 = .ok (.iload 6, 2) := by decide +kernel
theorem dX12_join_68 : decode cX12_join 68 = .ok (.if_icmp .ge 76, 3) := by decide +kernel
theorem dX12_join_71 : decode cX12_join 71 = .ok (.aload_n 0, 1) := by decide +kernel
theorem dX12_join_72 : decode cX12_join 72 = .ok (.iload 6, 2) := by decide +kernel
theorem dX12_join_74 : decode cX12_join 74 = .ok (.invokevirtual 63, 3) := by decide +kernel
theorem dX12_join_77 : decode cX12_join 77 = .ok (.ifCond .eq 67, 3) := by decide +kernel
theorem dX12_join_80 : decode cX12_join 80 = .ok (.aload_n 0, 1) := by decide +kernel
theorem dX12_join_81 : decode cX12_join 81 = .ok (.iconst 0, 1) := by decide +kernel
theorem dX12_join_82 : decode cX12_join 82 = .ok (.iconst 3, 1) := by decide +kernel
theorem dX12_join_83 : decode cX12_join 83 = .ok (.invokevirtual 224, 3) := by decide +kernel
theorem dX12_join_86 : decode cX12_join 86 = .ok (.aload_n 0, 1) := by decide +kernel
theorem dX12_join_87 : decode cX12_join 87 = .ok (.iload 5, 2) := by decide +kernel
theorem dX12_join_89 : decode cX12_join 89 = .ok (.iload 6, 2) := by decide +kernel
theorem dX12_join_91 : decode cX12_join 91 = .ok (.invokevirtual 228, 3) := by decide +kernel
theorem dX12_join_94 : decode cX12_join 94 = .ok (.aload_n 0, 1) := by decide +kernel
theorem dX12_join_95 : decode cX12_join 95 = .ok (.iload_n 1, 1) := by decide +kernel
theorem dX12_join_96 : decode cX12_join 96 = .ok (.invokevirtual 221, 3) := by decide +kernel
theorem dX12_join_99 : decode cX12_join 99 = .ok (.istore 7, 2) := by decide +kernel
theorem dX12_join_101 : decode cX12_join 101 = .ok (.iload 7, 2) := by decide +kernel
theorem dX12_join_103 : decode cX12_join 103 = .ok (.iload_n 2, 1) := by decide +kernel
theorem dX12_join_104 : decode cX12_join 104 = .ok (.if_icmp .ge 14, 3) := by decide +kernel
theorem dX12_join_107 : decode cX12_join 107 = .ok (.bipush 10, 2) := by decide +kernel
theorem dX12_join_109 : decode cX12_join 109 = .ok (.iload 5, 2) := by decide +kernel
theorem dX12_join_111 : decode cX12_join 111 = .ok (.imul, 1) := by decide +kernel
theorem dX12_join_112 : decode cX12_join 112 = .ok (.iload 6, 2) := by decide +kernel
theorem dX12_join_114 : decode cX12_join 114 = .ok (.iadd, 1) := by decide +kernel
theorem dX12_join_115 : decode cX12_join 115 = .ok (.goto 4, 3) := by decide +kernel
theorem dX12_join_118 : decode cX12_join 118 = .ok (.iload_n 3, 1) := by decide +kernel
theorem dX12_join_119 : decode cX12_join 119 = .ok (.istore_n 3, 1) := by decide +kernel
theorem dX12_join_120 : decode cX12_join 120 = .ok (.iload 7, 2) := by decide +kernel
theorem dX12_join_122 : decode cX12_join 122 = .ok (.iload_n 2, 1) := by decide +kernel
theorem dX12_join_123 : decode cX12_join 123 = .ok (.if_icmp .ge 8, 3) := by decide +kernel
theorem dX12_join_126 : decode cX12_join 126 = .ok (.iload 7, 2) := by decide +kernel
theorem dX12_join_128 : decode cX12_join 128 = .ok (.goto 4, 3) := by decide +kernel
theorem dX12_join_131 : decode cX12_join 131 = .ok (.iload_n 2, 1) := by decide +kernel
theorem dX12_join_132 : decode cX12_join 132 = .ok (.istore_n 2, 1) := by decide +kernel
theorem dX12_join_133 : decode cX12_join 133 = .ok (.aload_n 0, 1) := by decide +kernel
theorem dX12_join_134 : decode cX12_join 134 = .ok (.iconst 3, 1) := by decide +kernel
theorem dX12_join_135 : decode cX12_join 135 = .ok (.iconst 0, 1) := by decide +kernel
theorem dX12_join_136 : decode cX12_join 136 = .ok (.invokevirtual 224, 3) := by decide +kernel
theorem dX12_join_139 : decode cX12_join 139 = .ok (.aload_n 0, 1) := by decide +kernel
theorem dX12_join_140 : decode cX12_join 140 = .ok (.iconst (-1), 1) := by decide +kernel
theorem dX12_join_141 : decode cX12_join 141 = .ok (.putfield 35, 3) := by decide +kernel
theorem dX12_join_144 : decode cX12_join 144 = .ok (.iinc 4 1, 3) := by decide +kernel
theorem dX12_join_147 : decode cX12_join 147 = .ok (.goto (-102), 3) := by decide +kernel
theorem dX12_join_150 : decode cX12_join 150 = .ok (.iload_n 3, 1) := by decide +kernel
theorem dX12_join_151 : decode cX12_join 151 = .ok (.ireturn, 1) := by decide +kernel
def KX12_join_45 (E : EV) (d : Nat) (rr : Option Value × Mem) (x1 : Int32) (Kp : (Int32 × Mem) → Prop) : ((Int32 × Int32 × Int32 × Mem) ⊕ (Int32 × Mem)) → Prop
  | .inl q => G E (d + 7) kX12_join 45 [some (.ref 74), some (.int x1), some (.int q.1), some (.int q.2.1), some (.int q.2.2.1), none, none, none] [] q.2.2.2 rr
  | .inr z => Kp z
def jX12_join_132 (x1 : Int32) (x3 : Int32) (x4 : Int32) (u0 : Int32) (I : Mem) : Option ((Int32 × Int32 × Int32 × Mem) ⊕ (Int32 × Mem)) :=
  bnd (fX12_copy (3 : Int32) (0 : Int32) I) fun I_19 =>
  letb (up2 I_19 74 15 (-1 : Int32)) fun I_20 =>
  some (.inl (u0, x3, (x4 + (1 : Int32)), I_20))
set_option maxRecDepth 20000 in
theorem tX12_join_132 (E : EV) (d : Nat) (rr : Option Value × Mem) (x1 : Int32) (x3 : Int32) (x4 : Int32) (u0 : Int32) (I : Mem) (y : ((Int32 × Int32 × Int32 × Mem) ⊕ (Int32 × Mem))) (hf : jX12_join_132 x1 x3 x4 u0 I = some y) (hK : (KX12_join_45 E d rr x1 (fun (z : Int32 × Mem) => (some (.int z.1), z.2) = rr)) y) : G E (d + 7) kX12_join 132 [some (.ref 74), some (.int x1), none, some (.int x3), some (.int x4), none, none, none] [.int u0] I rr := by
  unfold jX12_join_132 at hf
  refine G.istore_n (L' := [some (.ref 74), some (.int x1), some (.int u0), some (.int x3), some (.int x4), none, none, none]) dX12_join_132 rfl (Nat.le_of_ble_eq_true rfl) (Nat.le_of_ble_eq_true rfl) rfl rfl ?_
  refine G.aload_n dX12_join_133 rfl rfl ?_
  refine G.iconst (v := 3) dX12_join_134 (by decide) ?_
  refine G.iconst (v := 0) dX12_join_135 (by decide) ?_
  obtain ⟨I_19, hc_18, hf⟩ := bnd_at hf
  refine G.callVv (av := [.int (3 : Int32), .int (0 : Int32)]) (rest := []) dX12_join_136 mvX12_224 (gX12_copy E (d + 6) (3 : Int32) (0 : Int32) I hc_18) (by decide) rfl rfl rfl (Nat.le_of_ble_eq_true rfl) ?_
  refine G.aload_n dX12_join_139 rfl rfl ?_
  refine G.iconst (v := -1) dX12_join_140 (by decide) ?_
  refine G.putI dX12_join_141 flX12_35 (by decide) rfl ?_
  refine G.nmI (fun I_20 e_I_20 => ?_)
  have hf := letb_at hf e_I_20
  clear e_I_20
  refine G.inc (w := 1) (L' := [some (.ref 74), some (.int x1), some (.int u0), some (.int x3), some (.int (x4 + (1 : Int32))), none, none, none]) dX12_join_144 (by decide) rfl (Nat.le_of_ble_eq_true rfl) rfl rfl ?_
  refine G.goto (tgt := 45) dX12_join_147 (by decide) ?_
  have hf := Option.some.inj hf
  subst hf
  exact hK
def jX12_join_119 (x1 : Int32) (x2 : Int32) (x4 : Int32) (x7 : Int32) (u0 : Int32) (I : Mem) : Option ((Int32 × Int32 × Int32 × Mem) ⊕ (Int32 × Mem)) :=
  if x2 ≤ x7 then
  (jX12_join_132 x1 u0 x4 x2 I)
  else
  (jX12_join_132 x1 u0 x4 x7 I)
set_option maxRecDepth 20000 in
theorem tX12_join_119 (E : EV) (d : Nat) (rr : Option Value × Mem) (x1 : Int32) (x2 : Int32) (x4 : Int32) (x7 : Int32) (u0 : Int32) (I : Mem) (y : ((Int32 × Int32 × Int32 × Mem) ⊕ (Int32 × Mem))) (hf : jX12_join_119 x1 x2 x4 x7 u0 I = some y) (hK : (KX12_join_45 E d rr x1 (fun (z : Int32 × Mem) => (some (.int z.1), z.2) = rr)) y) : G E (d + 7) kX12_join 119 [some (.ref 74), some (.int x1), some (.int x2), none, some (.int x4), none, none, some (.int x7)] [.int u0] I rr := by
  unfold jX12_join_119 at hf
  refine G.istore_n (L' := [some (.ref 74), some (.int x1), some (.int x2), some (.int u0), some (.int x4), none, none, some (.int x7)]) dX12_join_119 rfl (Nat.le_of_ble_eq_true rfl) (Nat.le_of_ble_eq_true rfl) rfl rfl ?_
  refine G.iload dX12_join_120 rfl ?_
  refine G.iload_n dX12_join_122 rfl rfl ?_
  refine G.icmp_ge (tgt := 131) dX12_join_123 (by decide) (fun c_21 => ?_) (fun c_21 => ?_)
  · have hf := ite_t hf c_21
    refine G.iload_n dX12_join_131 rfl rfl ?_
    refine G.forget (L' := [some (.ref 74), some (.int x1), none, some (.int u0), some (.int x4), none, none, none]) [2, 7] rfl ?_
    exact tX12_join_132 E d rr x1 u0 x4 x2 I _ hf hK
  · have hf := ite_f hf c_21
    refine G.iload dX12_join_126 rfl ?_
    refine G.goto (tgt := 132) dX12_join_128 (by decide) ?_
    refine G.forget (L' := [some (.ref 74), some (.int x1), none, some (.int u0), some (.int x4), none, none, none]) [2, 7] rfl ?_
    exact tX12_join_132 E d rr x1 u0 x4 x7 I _ hf hK
def bX12_join_45 (x1 : Int32) (x2 : Int32) (x3 : Int32) (x4 : Int32) (I : Mem) : Option ((Int32 × Int32 × Int32 × Mem) ⊕ (Int32 × Mem)) :=
  if (25 : Int32) ≤ x4 then
  (some (.inr (x3, I)))
  else
  (letb (x4 / (5 : Int32)) fun x5_7 =>
  letb (x4 - x4 / (5 : Int32) * (5 : Int32)) fun x6_8 =>
  if x6_8 ≤ x5_7 then
  (some (.inl (x2, x3, (x4 + (1 : Int32)), I)))
  else
  (bnd (fX12_isRoom x6_8 I) fun v_10 =>
  if v_10 = 0 then
  (some (.inl (x2, x3, (x4 + (1 : Int32)), I)))
  else
  (bnd (fX12_copy (0 : Int32) (3 : Int32) I) fun I_12 =>
  bnd (fX12_joinTwo x5_7 x6_8 I_12) fun I_14 =>
  bnd2 (fX12_leastBy x1 I_14) fun v_16 I_17 =>
  if x2 ≤ v_16 then
  (jX12_join_119 x1 x2 x4 v_16 x3 I_17)
  else
  (jX12_join_119 x1 x2 x4 v_16 (((10 : Int32) * x5_7) + x6_8) I_17))))
def sX12_join_45 (x1 : Int32) (q : (Int32 × Int32 × Int32 × Mem)) : Option ((Int32 × Int32 × Int32 × Mem) ⊕ (Int32 × Mem)) := bX12_join_45 x1 q.1 q.2.1 q.2.2.1 q.2.2.2
set_option maxRecDepth 20000 in
theorem wX12_join_45 (E : EV) (d : Nat) (rr : Option Value × Mem) (x1 : Int32) (x2 : Int32) (x3 : Int32) (x4 : Int32) (I : Mem) (y : ((Int32 × Int32 × Int32 × Mem) ⊕ (Int32 × Mem))) (hf : bX12_join_45 x1 x2 x3 x4 I = some y) (hK : (KX12_join_45 E d rr x1 (fun (z : Int32 × Mem) => (some (.int z.1), z.2) = rr)) y) : G E (d + 7) kX12_join 45 [some (.ref 74), some (.int x1), some (.int x2), some (.int x3), some (.int x4), none, none, none] [] I rr := by
  unfold bX12_join_45 at hf
  refine G.iload dX12_join_45 rfl ?_
  refine G.bipush (v := 25) dX12_join_47 (by decide) ?_
  refine G.icmp_ge (tgt := 150) dX12_join_49 (by decide) (fun c_25 => ?_) (fun c_25 => ?_)
  · have hf := ite_t hf c_25
    refine G.iload_n dX12_join_150 rfl rfl ?_
    have hf := Option.some.inj hf
    subst hf
    exact G.iret' dX12_join_151 rfl hK
  · have hf := ite_f hf c_25
    refine G.iload dX12_join_52 rfl ?_
    refine G.iconst (v := 5) dX12_join_54 (by decide) ?_
    refine G.idiv dX12_join_55 (by decide) ?_
    refine G.nmi (fun x5_7 e_x5_7 => ?_)
    have hf := letb_at hf e_x5_7
    clear e_x5_7
    refine G.istore (L' := [some (.ref 74), some (.int x1), some (.int x2), some (.int x3), some (.int x4), some (.int x5_7), none, none]) dX12_join_56 (Nat.le_of_ble_eq_true rfl) (Nat.le_of_ble_eq_true rfl) rfl rfl ?_
    refine G.iload dX12_join_58 rfl ?_
    refine G.iconst (v := 5) dX12_join_60 (by decide) ?_
    refine G.irem dX12_join_61 (by decide) ?_
    refine G.nmi (fun x6_8 e_x6_8 => ?_)
    have hf := letb_at hf e_x6_8
    clear e_x6_8
    refine G.istore (L' := [some (.ref 74), some (.int x1), some (.int x2), some (.int x3), some (.int x4), some (.int x5_7), some (.int x6_8), none]) dX12_join_62 (Nat.le_of_ble_eq_true rfl) (Nat.le_of_ble_eq_true rfl) rfl rfl ?_
    refine G.iload dX12_join_64 rfl ?_
    refine G.iload dX12_join_66 rfl ?_
    refine G.icmp_ge (tgt := 144) dX12_join_68 (by decide) (fun c_24 => ?_) (fun c_24 => ?_)
    · have hf := ite_t hf c_24
      refine G.inc (w := 1) (L' := [some (.ref 74), some (.int x1), some (.int x2), some (.int x3), some (.int (x4 + (1 : Int32))), some (.int x5_7), some (.int x6_8), none]) dX12_join_144 (by decide) rfl (Nat.le_of_ble_eq_true rfl) rfl rfl ?_
      refine G.goto (tgt := 45) dX12_join_147 (by decide) ?_
      have hf := Option.some.inj hf
      subst hf
      refine G.forget (L' := [some (.ref 74), some (.int x1), some (.int x2), some (.int x3), some (.int (x4 + (1 : Int32))), none, none, none]) [5, 6] rfl ?_
      exact hK
    · have hf := ite_f hf c_24
      refine G.aload_n dX12_join_71 rfl rfl ?_
      refine G.iload dX12_join_72 rfl ?_
      obtain ⟨v_10, hc_9, hf⟩ := bnd_at hf
      refine G.callVi (av := [.int x6_8]) (rest := []) dX12_join_74 mvX12_63 (gX12_isRoom E (d + 5) x6_8 I hc_9) (by decide) rfl rfl rfl (Nat.le_of_ble_eq_true rfl) ?_
      refine G.if_eq (tgt := 144) dX12_join_77 (by decide) (fun c_23 => ?_) (fun c_23 => ?_)
      · have hf := ite_t hf c_23
        refine G.inc (w := 1) (L' := [some (.ref 74), some (.int x1), some (.int x2), some (.int x3), some (.int (x4 + (1 : Int32))), some (.int x5_7), some (.int x6_8), none]) dX12_join_144 (by decide) rfl (Nat.le_of_ble_eq_true rfl) rfl rfl ?_
        refine G.goto (tgt := 45) dX12_join_147 (by decide) ?_
        have hf := Option.some.inj hf
        subst hf
        refine G.forget (L' := [some (.ref 74), some (.int x1), some (.int x2), some (.int x3), some (.int (x4 + (1 : Int32))), none, none, none]) [5, 6] rfl ?_
        exact hK
      · have hf := ite_f hf c_23
        refine G.aload_n dX12_join_80 rfl rfl ?_
        refine G.iconst (v := 0) dX12_join_81 (by decide) ?_
        refine G.iconst (v := 3) dX12_join_82 (by decide) ?_
        obtain ⟨I_12, hc_11, hf⟩ := bnd_at hf
        refine G.callVv (av := [.int (0 : Int32), .int (3 : Int32)]) (rest := []) dX12_join_83 mvX12_224 (gX12_copy E (d + 6) (0 : Int32) (3 : Int32) I hc_11) (by decide) rfl rfl rfl (Nat.le_of_ble_eq_true rfl) ?_
        refine G.aload_n dX12_join_86 rfl rfl ?_
        refine G.iload dX12_join_87 rfl ?_
        refine G.iload dX12_join_89 rfl ?_
        obtain ⟨I_14, hc_13, hf⟩ := bnd_at hf
        refine G.callVv (av := [.int x5_7, .int x6_8]) (rest := []) dX12_join_91 mvX12_228 (gX12_joinTwo E (d + 5) x5_7 x6_8 I_12 hc_13) (by decide) rfl rfl rfl (Nat.le_of_ble_eq_true rfl) ?_
        refine G.aload_n dX12_join_94 rfl rfl ?_
        refine G.iload_n dX12_join_95 rfl rfl ?_
        obtain ⟨v_16, I_17, hc_15, hf⟩ := bnd2_at hf
        refine G.callVi (av := [.int x1]) (rest := []) dX12_join_96 mvX12_221 (gX12_leastBy E d x1 I_14 hc_15) (by decide) rfl rfl rfl (Nat.le_of_ble_eq_true rfl) ?_
        refine G.istore (L' := [some (.ref 74), some (.int x1), some (.int x2), some (.int x3), some (.int x4), some (.int x5_7), some (.int x6_8), some (.int v_16)]) dX12_join_99 (Nat.le_of_ble_eq_true rfl) (Nat.le_of_ble_eq_true rfl) rfl rfl ?_
        refine G.iload dX12_join_101 rfl ?_
        refine G.iload_n dX12_join_103 rfl rfl ?_
        refine G.icmp_ge (tgt := 118) dX12_join_104 (by decide) (fun c_22 => ?_) (fun c_22 => ?_)
        · have hf := ite_t hf c_22
          refine G.iload_n dX12_join_118 rfl rfl ?_
          refine G.forget (L' := [some (.ref 74), some (.int x1), some (.int x2), none, some (.int x4), none, none, some (.int v_16)]) [3, 5, 6] rfl ?_
          exact tX12_join_119 E d rr x1 x2 x4 v_16 x3 I_17 _ hf hK
        · have hf := ite_f hf c_22
          refine G.bipush (v := 10) dX12_join_107 (by decide) ?_
          refine G.iload dX12_join_109 rfl ?_
          refine G.imul dX12_join_111 ?_
          refine G.iload dX12_join_112 rfl ?_
          refine G.iadd dX12_join_114 ?_
          refine G.goto (tgt := 119) dX12_join_115 (by decide) ?_
          refine G.forget (L' := [some (.ref 74), some (.int x1), some (.int x2), none, some (.int x4), none, none, some (.int v_16)]) [3, 5, 6] rfl ?_
          exact tX12_join_119 E d rr x1 x2 x4 v_16 (((10 : Int32) * x5_7) + x6_8) I_17 _ hf hK
theorem lX12_join_45 (E : EV) (d : Nat) (rr : Option Value × Mem) (x1 : Int32) (z : (Int32 × Mem)) (hK : (fun (z : Int32 × Mem) => (some (.int z.1), z.2) = rr) z) : ∀ (n : Nat) (q : (Int32 × Int32 × Int32 × Mem)), iter (sX12_join_45 x1) n q = some z → G E (d + 7) kX12_join 45 [some (.ref 74), some (.int x1), some (.int q.1), some (.int q.2.1), some (.int q.2.2.1), none, none, none] [] q.2.2.2 rr := by
  intro n
  induction n with
  | zero => intro q h; cases h
  | succ n ih =>
    intro q h
    rcases iter_at h with ⟨q2, hs, h2⟩ | hs
    · exact wX12_join_45 E d rr x1 q.1 q.2.1 q.2.2.1 q.2.2.2 _ hs (ih q2 h2)
    · exact wX12_join_45 E d rr x1 q.1 q.2.1 q.2.2.1 q.2.2.2 _ hs hK
def fX12_join (x1 : Int32) (I : Mem) : Option (Int32 × Mem) :=
  bnd (fX12_in (Int32.toInt64 x1) (1 : Int64) (4 : Int64) I) fun v_2 =>
  if v_2 = 0 then
  (bnd2 (fX12_bad (-2 : Int32) I) fun v_31 I_32 =>
  some (v_31, I_32))
  else
  (chk (inb (3 : Int32) 632) <|
  if (I 75 (ix (3 : Int32))) = (4 : Int32) then
  (bnd2 (fX12_no I) fun v_27 I_28 =>
  some (v_27, I_28))
  else
  (bnd2 (fX12_leastBy x1 I) fun v_5 I_6 =>
  iter (sX12_join_45 x1) FU (v_5, (-1 : Int32), (0 : Int32), I_6)))
set_option maxRecDepth 20000 in
theorem gX12_join (E : EV) (d : Nat) (x1 : Int32) (I : Mem) {v : Int32} {J : Mem} (hf : fX12_join x1 I = some (v, J)) : Gm E (d + 7) kX12_join [.ref 74, .int x1] I (some (.int v), J) := by
  refine (fun (y : (Int32 × Mem)) (hf : fX12_join x1 I = some y) => (?_ : Gm E (d + 7) kX12_join [.ref 74, .int x1] I (some (.int y.1), y.2))) (v, J) hf
  refine Gm.of (by decide) rfl (Nat.le_of_ble_eq_true rfl) ?_
  generalize hrr : ((some (.int y.1), y.2) : Option Value × Mem) = rr
  show G E (d + 7) kX12_join 0 [some (.ref 74), some (.int x1), none, none, none, none, none, none] [] I rr
  have hK : (fun (z : Int32 × Mem) => (some (.int z.1), z.2) = rr) y := hrr
  clear hrr
  unfold fX12_join at hf
  refine G.iload_n dX12_join_0 rfl rfl ?_
  refine G.i2l dX12_join_1 ?_
  refine G.lconst (v := 1) dX12_join_2 (by decide) ?_
  refine G.ldc2 (v := 4) dX12_join_3 kcX12_87 ?_
  obtain ⟨v_2, hc_1, hf⟩ := bnd_at hf
  refine G.callSi (av := [.long (Int32.toInt64 x1), .long (1 : Int64), .long (4 : Int64)]) (rest := []) dX12_join_6 msX12_49 (gX12_in E (d + 6) (Int32.toInt64 x1) (1 : Int64) (4 : Int64) I hc_1) rfl rfl (Nat.le_of_ble_eq_true rfl) ?_
  refine G.if_ne (tgt := 19) dX12_join_9 (by decide) (fun c_33 => ?_) (fun c_33 => ?_)
  · have hf := ite_f hf c_33
    refine G.aload_n dX12_join_19 rfl rfl ?_
    refine G.getR (q := 75) dX12_join_20 flX12_7 (by decide) rfl rfl ?_
    refine G.iconst (v := 3) dX12_join_23 (by decide) ?_
    obtain ⟨hi_3, hf⟩ := chk_at hf
    refine G.iald' dX12_join_24 (by decide) rfl rfl hi_3 ?_
    refine G.iconst (v := 4) dX12_join_25 (by decide) ?_
    refine G.icmp_ne (tgt := 34) dX12_join_26 (by decide) (fun c_29 => ?_) (fun c_29 => ?_)
    · have hf := ite_f hf c_29
      refine G.aload_n dX12_join_34 rfl rfl ?_
      refine G.iload_n dX12_join_35 rfl rfl ?_
      obtain ⟨v_5, I_6, hc_4, hf⟩ := bnd2_at hf
      refine G.callVi (av := [.int x1]) (rest := []) dX12_join_36 mvX12_221 (gX12_leastBy E d x1 I hc_4) (by decide) rfl rfl rfl (Nat.le_of_ble_eq_true rfl) ?_
      refine G.istore_n (L' := [some (.ref 74), some (.int x1), some (.int v_5), none, none, none, none, none]) dX12_join_39 rfl (Nat.le_of_ble_eq_true rfl) (Nat.le_of_ble_eq_true rfl) rfl rfl ?_
      refine G.iconst (v := -1) dX12_join_40 (by decide) ?_
      refine G.istore_n (L' := [some (.ref 74), some (.int x1), some (.int v_5), some (.int (-1 : Int32)), none, none, none, none]) dX12_join_41 rfl (Nat.le_of_ble_eq_true rfl) (Nat.le_of_ble_eq_true rfl) rfl rfl ?_
      refine G.iconst (v := 0) dX12_join_42 (by decide) ?_
      refine G.istore (L' := [some (.ref 74), some (.int x1), some (.int v_5), some (.int (-1 : Int32)), some (.int (0 : Int32)), none, none, none]) dX12_join_43 (Nat.le_of_ble_eq_true rfl) (Nat.le_of_ble_eq_true rfl) rfl rfl ?_
      exact lX12_join_45 E d rr x1 _ hK FU _ hf
    · have hf := ite_t hf c_29
      refine G.aload_n dX12_join_29 rfl rfl ?_
      obtain ⟨v_27, I_28, hc_26, hf⟩ := bnd2_at hf
      refine G.callVi (av := []) (rest := []) dX12_join_30 mvX12_71 (gX12_no E (d + 6) I hc_26) (by decide) rfl rfl rfl (Nat.le_of_ble_eq_true rfl) ?_
      have hf := Option.some.inj hf
      subst hf
      exact G.iret' dX12_join_33 rfl hK
  · have hf := ite_t hf c_33
    refine G.aload_n dX12_join_12 rfl rfl ?_
    refine G.bipush (v := -2) dX12_join_13 (by decide) ?_
    obtain ⟨v_31, I_32, hc_30, hf⟩ := bnd2_at hf
    refine G.callVi (av := [.int (-2 : Int32)]) (rest := []) dX12_join_15 mvX12_59 (gX12_bad E (d + 6) (-2 : Int32) I hc_30) (by decide) rfl rfl rfl (Nat.le_of_ble_eq_true rfl) ?_
    have hf := Option.some.inj hf
    subst hf
    exact G.iret' dX12_join_18 rfl hK
theorem dX12_spy_0 : decode cX12_spy 0 = .ok (.aload_n 0, 1) := by decide +kernel
theorem dX12_spy_1 : decode cX12_spy 1 = .ok (.iload_n 1, 1) := by decide +kernel
theorem dX12_spy_2 : decode cX12_spy 2 = .ok (.invokevirtual 63, 3) := by decide +kernel
theorem dX12_spy_5 : decode cX12_spy 5 = .ok (.ifCond .eq 15, 3) := by decide +kernel
theorem dX12_spy_8 : decode cX12_spy 8 = .ok (.iload_n 2, 1) := by decide +kernel
theorem dX12_spy_9 : decode cX12_spy 9 = .ok (.i2l, 1) := by decide +kernel
theorem dX12_spy_10 : decode cX12_spy 10 = .ok (.lconst 0, 1) := by decide +kernel
theorem dX12_spy_11 : decode cX12_spy 11 = .ok (.ldc2_w 231, 3) := by decide +kernel
theorem dX12_spy_14 : decode cX12_spy 14 = .ok (.invokestatic 49, 3) := by decide +kernel
theorem dX12_spy_17 : decode cX12_spy 17 = .ok (.ifCond .ne 10, 3) := by decide +kernel
theorem dX12_spy_20 : decode cX12_spy 20 = .ok (.aload_n 0, 1) := by decide +kernel
theorem dX12_spy_21 : decode cX12_spy 21 = .ok (.bipush (-2), 2) := by decide +kernel
theorem dX12_spy_23 : decode cX12_spy 23 = .ok (.invokevirtual 59, 3) := by decide +kernel
theorem dX12_spy_26 : decode cX12_spy 26 = .ok (.ireturn, 1) := by decide +kernel
theorem dX12_spy_27 : decode cX12_spy 27 = .ok (.aload_n 0, 1) := by decide +kernel
theorem dX12_spy_28 : decode cX12_spy 28 = .ok (.getfield 7, 3) := by decide +kernel
theorem dX12_spy_31 : decode cX12_spy 31 = .ok (.bipush 15, 2) := by decide +kernel
theorem dX12_spy_33 : decode cX12_spy 33 = .ok (.iload_n 1, 1) := by decide +kernel
theorem dX12_spy_34 : decode cX12_spy 34 = .ok (.iadd, 1) := by decide +kernel
theorem dX12_spy_35 : decode cX12_spy 35 = .ok (.iaload, 1) := by decide +kernel
theorem dX12_spy_36 : decode cX12_spy 36 = .ok (.istore_n 3, 1) := by decide +kernel
theorem dX12_spy_37 : decode cX12_spy 37 = .ok (.aload_n 0, 1) := by decide +kernel
theorem dX12_spy_38 : decode cX12_spy 38 = .ok (.getfield 7, 3) := by decide +kernel
theorem dX12_spy_41 : decode cX12_spy 41 = .ok (.bipush 15, 2) := by decide +kernel
theorem dX12_spy_43 : decode cX12_spy 43 = .ok (.iload_n 1, 1) := by decide +kernel
theorem dX12_spy_44 : decode cX12_spy 44 = .ok (.iadd, 1) := by decide +kernel
theorem dX12_spy_45 : decode cX12_spy 45 = .ok (.iload_n 2, 1) := by decide +kernel
theorem dX12_spy_46 : decode cX12_spy 46 = .ok (.iastore, 1) := by decide +kernel
theorem dX12_spy_47 : decode cX12_spy 47 = .ok (.iload_n 3, 1) := by decide +kernel
theorem dX12_spy_48 : decode cX12_spy 48 = .ok (.ireturn, 1) := by decide +kernel
def jX12_spy_20 (I : Mem) : Option (Int32 × Mem) :=
  bnd2 (fX12_bad (-2 : Int32) I) fun v_4 I_5 =>
  some (v_4, I_5)
set_option maxRecDepth 20000 in
theorem tX12_spy_20 (E : EV) (d : Nat) (rr : Option Value × Mem) (I : Mem) (y : (Int32 × Mem)) (hf : jX12_spy_20 I = some y) (hK : (fun (z : Int32 × Mem) => (some (.int z.1), z.2) = rr) y) : G E (d + 2) kX12_spy 20 [some (.ref 74), none, none, none] [] I rr := by
  unfold jX12_spy_20 at hf
  refine G.aload_n dX12_spy_20 rfl rfl ?_
  refine G.bipush (v := -2) dX12_spy_21 (by decide) ?_
  obtain ⟨v_4, I_5, hc_3, hf⟩ := bnd2_at hf
  refine G.callVi (av := [.int (-2 : Int32)]) (rest := []) dX12_spy_23 mvX12_59 (gX12_bad E (d + 1) (-2 : Int32) I hc_3) (by decide) rfl rfl rfl (Nat.le_of_ble_eq_true rfl) ?_
  have hf := Option.some.inj hf
  subst hf
  exact G.iret' dX12_spy_26 rfl hK
def fX12_spy (x1 : Int32) (x2 : Int32) (I : Mem) : Option (Int32 × Mem) :=
  bnd (fX12_isRoom x1 I) fun v_2 =>
  if v_2 = 0 then
  (jX12_spy_20 I)
  else
  (bnd (fX12_in (Int32.toInt64 x2) (0 : Int64) (1999 : Int64) I) fun v_7 =>
  if v_7 = 0 then
  (jX12_spy_20 I)
  else
  (chk (inb ((15 : Int32) + x1) 632) <|
  letb (I 75 (ix ((15 : Int32) + x1))) fun x3_9 =>
  chk (inb ((15 : Int32) + x1) 632) <|
  letb (up2 I 75 (ix ((15 : Int32) + x1)) x2) fun I_11 =>
  some (x3_9, I_11)))
set_option maxRecDepth 20000 in
theorem gX12_spy (E : EV) (d : Nat) (x1 : Int32) (x2 : Int32) (I : Mem) {v : Int32} {J : Mem} (hf : fX12_spy x1 x2 I = some (v, J)) : Gm E (d + 2) kX12_spy [.ref 74, .int x1, .int x2] I (some (.int v), J) := by
  refine (fun (y : (Int32 × Mem)) (hf : fX12_spy x1 x2 I = some y) => (?_ : Gm E (d + 2) kX12_spy [.ref 74, .int x1, .int x2] I (some (.int y.1), y.2))) (v, J) hf
  refine Gm.of (by decide) rfl (Nat.le_of_ble_eq_true rfl) ?_
  generalize hrr : ((some (.int y.1), y.2) : Option Value × Mem) = rr
  show G E (d + 2) kX12_spy 0 [some (.ref 74), some (.int x1), some (.int x2), none] [] I rr
  have hK : (fun (z : Int32 × Mem) => (some (.int z.1), z.2) = rr) y := hrr
  clear hrr
  unfold fX12_spy at hf
  refine G.aload_n dX12_spy_0 rfl rfl ?_
  refine G.iload_n dX12_spy_1 rfl rfl ?_
  obtain ⟨v_2, hc_1, hf⟩ := bnd_at hf
  refine G.callVi (av := [.int x1]) (rest := []) dX12_spy_2 mvX12_63 (gX12_isRoom E d x1 I hc_1) (by decide) rfl rfl rfl (Nat.le_of_ble_eq_true rfl) ?_
  refine G.if_eq (tgt := 20) dX12_spy_5 (by decide) (fun c_13 => ?_) (fun c_13 => ?_)
  · have hf := ite_t hf c_13
    refine G.forget (L' := [some (.ref 74), none, none, none]) [1, 2] rfl ?_
    exact tX12_spy_20 E d rr I _ hf hK
  · have hf := ite_f hf c_13
    refine G.iload_n dX12_spy_8 rfl rfl ?_
    refine G.i2l dX12_spy_9 ?_
    refine G.lconst (v := 0) dX12_spy_10 (by decide) ?_
    refine G.ldc2 (v := 1999) dX12_spy_11 kcX12_231 ?_
    obtain ⟨v_7, hc_6, hf⟩ := bnd_at hf
    refine G.callSi (av := [.long (Int32.toInt64 x2), .long (0 : Int64), .long (1999 : Int64)]) (rest := []) dX12_spy_14 msX12_49 (gX12_in E (d + 1) (Int32.toInt64 x2) (0 : Int64) (1999 : Int64) I hc_6) rfl rfl (Nat.le_of_ble_eq_true rfl) ?_
    refine G.if_ne (tgt := 27) dX12_spy_17 (by decide) (fun c_12 => ?_) (fun c_12 => ?_)
    · have hf := ite_f hf c_12
      refine G.aload_n dX12_spy_27 rfl rfl ?_
      refine G.getR (q := 75) dX12_spy_28 flX12_7 (by decide) rfl rfl ?_
      refine G.bipush (v := 15) dX12_spy_31 (by decide) ?_
      refine G.iload_n dX12_spy_33 rfl rfl ?_
      refine G.iadd dX12_spy_34 ?_
      obtain ⟨hi_8, hf⟩ := chk_at hf
      refine G.iald' dX12_spy_35 (by decide) rfl rfl hi_8 ?_
      refine G.nmi (fun x3_9 e_x3_9 => ?_)
      have hf := letb_at hf e_x3_9
      clear e_x3_9
      refine G.istore_n (L' := [some (.ref 74), some (.int x1), some (.int x2), some (.int x3_9)]) dX12_spy_36 rfl (Nat.le_of_ble_eq_true rfl) (Nat.le_of_ble_eq_true rfl) rfl rfl ?_
      refine G.aload_n dX12_spy_37 rfl rfl ?_
      refine G.getR (q := 75) dX12_spy_38 flX12_7 (by decide) rfl rfl ?_
      refine G.bipush (v := 15) dX12_spy_41 (by decide) ?_
      refine G.iload_n dX12_spy_43 rfl rfl ?_
      refine G.iadd dX12_spy_44 ?_
      refine G.iload_n dX12_spy_45 rfl rfl ?_
      obtain ⟨hi_10, hf⟩ := chk_at hf
      refine G.iast' dX12_spy_46 (by decide) rfl rfl hi_10 ?_
      refine G.nmI (fun I_11 e_I_11 => ?_)
      have hf := letb_at hf e_I_11
      clear e_I_11
      refine G.iload_n dX12_spy_47 rfl rfl ?_
      have hf := Option.some.inj hf
      subst hf
      exact G.iret' dX12_spy_48 rfl hK
    · have hf := ite_t hf c_12
      refine G.forget (L' := [some (.ref 74), none, none, none]) [1, 2] rfl ?_
      exact tX12_spy_20 E d rr I _ hf hK
theorem dX12_isSoBy_0 : decode cX12_isSoBy 0 = .ok (.aload_n 0, 1) := by decide +kernel
theorem dX12_isSoBy_1 : decode cX12_isSoBy 1 = .ok (.iload_n 1, 1) := by decide +kernel
theorem dX12_isSoBy_2 : decode cX12_isSoBy 2 = .ok (.iload_n 2, 1) := by decide +kernel
theorem dX12_isSoBy_3 : decode cX12_isSoBy 3 = .ok (.invokevirtual 176, 3) := by decide +kernel
theorem dX12_isSoBy_6 : decode cX12_isSoBy 6 = .ok (.istore_n 3, 1) := by decide +kernel
theorem dX12_isSoBy_7 : decode cX12_isSoBy 7 = .ok (.iload_n 3, 1) := by decide +kernel
theorem dX12_isSoBy_8 : decode cX12_isSoBy 8 = .ok (.ifCond .eq 10, 3) := by decide +kernel
theorem dX12_isSoBy_11 : decode cX12_isSoBy 11 = .ok (.aload_n 0, 1) := by decide +kernel
theorem dX12_isSoBy_12 : decode cX12_isSoBy 12 = .ok (.iload_n 1, 1) := by decide +kernel
theorem dX12_isSoBy_13 : decode cX12_isSoBy 13 = .ok (.iload_n 2, 1) := by decide +kernel
theorem dX12_isSoBy_14 : decode cX12_isSoBy 14 = .ok (.invokevirtual 179, 3) := by decide +kernel
theorem dX12_isSoBy_17 : decode cX12_isSoBy 17 = .ok (.pop, 1) := by decide +kernel
theorem dX12_isSoBy_18 : decode cX12_isSoBy 18 = .ok (.iconst 0, 1) := by decide +kernel
theorem dX12_isSoBy_19 : decode cX12_isSoBy 19 = .ok (.istore 4, 2) := by decide +kernel
theorem dX12_isSoBy_21 : decode cX12_isSoBy 21 = .ok (.iload 4, 2) := by decide +kernel
theorem dX12_isSoBy_23 : decode cX12_isSoBy 23 = .ok (.aload_n 0, 1) := by decide +kernel
theorem dX12_isSoBy_24 : decode cX12_isSoBy 24 = .ok (.getfield 7, 3) := by decide +kernel
theorem dX12_isSoBy_27 : decode cX12_isSoBy 27 = .ok (.iconst 0, 1) := by decide +kernel
theorem dX12_isSoBy_28 : decode cX12_isSoBy 28 = .ok (.iaload, 1) := by decide +kernel
theorem dX12_isSoBy_29 : decode cX12_isSoBy 29 = .ok (.if_icmp .ge 39, 3) := by decide +kernel
theorem dX12_isSoBy_32 : decode cX12_isSoBy 32 = .ok (.iload_n 3, 1) := by decide +kernel
theorem dX12_isSoBy_33 : decode cX12_isSoBy 33 = .ok (.ifCond .eq 35, 3) := by decide +kernel
theorem dX12_isSoBy_36 : decode cX12_isSoBy 36 = .ok (.aload_n 0, 1) := by decide +kernel
theorem dX12_isSoBy_37 : decode cX12_isSoBy 37 = .ok (.getfield 26, 3) := by decide +kernel
theorem dX12_isSoBy_40 : decode cX12_isSoBy 40 = .ok (.iload 4, 2) := by decide +kernel
theorem dX12_isSoBy_42 : decode cX12_isSoBy 42 = .ok (.iaload, 1) := by decide +kernel
theorem dX12_isSoBy_43 : decode cX12_isSoBy 43 = .ok (.aload_n 0, 1) := by decide +kernel
theorem dX12_isSoBy_44 : decode cX12_isSoBy 44 = .ok (.getfield 7, 3) := by decide +kernel
theorem dX12_isSoBy_47 : decode cX12_isSoBy 47 = .ok (.bipush 15, 2) := by decide +kernel
theorem dX12_isSoBy_49 : decode cX12_isSoBy 49 = .ok (.iload 4, 2) := by decide +kernel
theorem dX12_isSoBy_51 : decode cX12_isSoBy 51 = .ok (.iadd, 1) := by decide +kernel
theorem dX12_isSoBy_52 : decode cX12_isSoBy 52 = .ok (.iaload, 1) := by decide +kernel
theorem dX12_isSoBy_53 : decode cX12_isSoBy 53 = .ok (.if_icmp .ne 7, 3) := by decide +kernel
theorem dX12_isSoBy_56 : decode cX12_isSoBy 56 = .ok (.iconst 1, 1) := by decide +kernel
theorem dX12_isSoBy_57 : decode cX12_isSoBy 57 = .ok (.goto 4, 3) := by decide +kernel
theorem dX12_isSoBy_60 : decode cX12_isSoBy 60 = .ok (.iconst 0, 1) := by decide +kernel
theorem dX12_isSoBy_61 : decode cX12_isSoBy 61 = .ok (.istore_n 3, 1) := by decide +kernel
theorem dX12_isSoBy_62 : decode cX12_isSoBy 62 = .ok (.iinc 4 1, 3) := by decide +kernel
theorem dX12_isSoBy_65 : decode cX12_isSoBy 65 = .ok (.goto (-44), 3) := by decide +kernel
theorem dX12_isSoBy_68 : decode cX12_isSoBy 68 = .ok (.iload_n 3, 1) := by decide +kernel
theorem dX12_isSoBy_69 : decode cX12_isSoBy 69 = .ok (.ireturn, 1) := by decide +kernel
def KX12_isSoBy_21 (E : EV) (d : Nat) (rr : Option Value × Mem) (I : Mem) (Kp : (Int32 × Mem) → Prop) : ((Int32 × Int32) ⊕ (Int32 × Mem)) → Prop
  | .inl q => G E (d + 4) kX12_isSoBy 21 [some (.ref 74), none, none, some (.int q.1), some (.int q.2)] [] I rr
  | .inr z => Kp z
def bX12_isSoBy_21 (I : Mem) (x3 : Int32) (x4 : Int32) : Option ((Int32 × Int32) ⊕ (Int32 × Mem)) :=
  chk (inb (0 : Int32) 632) <|
  if (I 75 (ix (0 : Int32))) ≤ x4 then
  (chk (zb x3) <|
  some (.inr (x3, I)))
  else
  (if x3 = 0 then
  (chk (zb x3) <|
  some (.inr (x3, I)))
  else
  (chk (inb x4 5) <|
  chk (inb ((15 : Int32) + x4) 632) <|
  if (I 80 (ix x4)) = (I 75 (ix ((15 : Int32) + x4))) then
  (some (.inl ((1 : Int32), (x4 + (1 : Int32)))))
  else
  (some (.inl ((0 : Int32), (x4 + (1 : Int32)))))))
def sX12_isSoBy_21 (I : Mem) (q : (Int32 × Int32)) : Option ((Int32 × Int32) ⊕ (Int32 × Mem)) := bX12_isSoBy_21 I q.1 q.2
set_option maxRecDepth 20000 in
theorem wX12_isSoBy_21 (E : EV) (d : Nat) (rr : Option Value × Mem) (I : Mem) (x3 : Int32) (x4 : Int32) (y : ((Int32 × Int32) ⊕ (Int32 × Mem))) (hf : bX12_isSoBy_21 I x3 x4 = some y) (hK : (KX12_isSoBy_21 E d rr I (fun (z : Int32 × Mem) => (some (.int z.1), z.2) = rr)) y) : G E (d + 4) kX12_isSoBy 21 [some (.ref 74), none, none, some (.int x3), some (.int x4)] [] I rr := by
  unfold bX12_isSoBy_21 at hf
  refine G.iload dX12_isSoBy_21 rfl ?_
  refine G.aload_n dX12_isSoBy_23 rfl rfl ?_
  refine G.getR (q := 75) dX12_isSoBy_24 flX12_7 (by decide) rfl rfl ?_
  refine G.iconst (v := 0) dX12_isSoBy_27 (by decide) ?_
  obtain ⟨hi_3, hf⟩ := chk_at hf
  refine G.iald' dX12_isSoBy_28 (by decide) rfl rfl hi_3 ?_
  refine G.icmp_ge (tgt := 68) dX12_isSoBy_29 (by decide) (fun c_10 => ?_) (fun c_10 => ?_)
  · have hf := ite_t hf c_10
    refine G.iload_n dX12_isSoBy_68 rfl rfl ?_
    obtain ⟨hz_4, hf⟩ := chk_at hf
    have hf := Option.some.inj hf
    subst hf
    exact G.zret' dX12_isSoBy_69 rfl hz_4 hK
  · have hf := ite_f hf c_10
    refine G.iload_n dX12_isSoBy_32 rfl rfl ?_
    refine G.if_eq (tgt := 68) dX12_isSoBy_33 (by decide) (fun c_9 => ?_) (fun c_9 => ?_)
    · have hf := ite_t hf c_9
      refine G.iload_n dX12_isSoBy_68 rfl rfl ?_
      obtain ⟨hz_5, hf⟩ := chk_at hf
      have hf := Option.some.inj hf
      subst hf
      exact G.zret' dX12_isSoBy_69 rfl hz_5 hK
    · have hf := ite_f hf c_9
      refine G.aload_n dX12_isSoBy_36 rfl rfl ?_
      refine G.getR (q := 80) dX12_isSoBy_37 flX12_26 (by decide) rfl rfl ?_
      refine G.iload dX12_isSoBy_40 rfl ?_
      obtain ⟨hi_6, hf⟩ := chk_at hf
      refine G.iald' dX12_isSoBy_42 (by decide) rfl rfl hi_6 ?_
      refine G.aload_n dX12_isSoBy_43 rfl rfl ?_
      refine G.getR (q := 75) dX12_isSoBy_44 flX12_7 (by decide) rfl rfl ?_
      refine G.bipush (v := 15) dX12_isSoBy_47 (by decide) ?_
      refine G.iload dX12_isSoBy_49 rfl ?_
      refine G.iadd dX12_isSoBy_51 ?_
      obtain ⟨hi_7, hf⟩ := chk_at hf
      refine G.iald' dX12_isSoBy_52 (by decide) rfl rfl hi_7 ?_
      refine G.icmp_ne (tgt := 60) dX12_isSoBy_53 (by decide) (fun c_8 => ?_) (fun c_8 => ?_)
      · have hf := ite_f hf c_8
        refine G.iconst (v := 0) dX12_isSoBy_60 (by decide) ?_
        refine G.istore_n (L' := [some (.ref 74), none, none, some (.int (0 : Int32)), some (.int x4)]) dX12_isSoBy_61 rfl (Nat.le_of_ble_eq_true rfl) (Nat.le_of_ble_eq_true rfl) rfl rfl ?_
        refine G.inc (w := 1) (L' := [some (.ref 74), none, none, some (.int (0 : Int32)), some (.int (x4 + (1 : Int32)))]) dX12_isSoBy_62 (by decide) rfl (Nat.le_of_ble_eq_true rfl) rfl rfl ?_
        refine G.goto (tgt := 21) dX12_isSoBy_65 (by decide) ?_
        have hf := Option.some.inj hf
        subst hf
        exact hK
      · have hf := ite_t hf c_8
        refine G.iconst (v := 1) dX12_isSoBy_56 (by decide) ?_
        refine G.goto (tgt := 61) dX12_isSoBy_57 (by decide) ?_
        refine G.istore_n (L' := [some (.ref 74), none, none, some (.int (1 : Int32)), some (.int x4)]) dX12_isSoBy_61 rfl (Nat.le_of_ble_eq_true rfl) (Nat.le_of_ble_eq_true rfl) rfl rfl ?_
        refine G.inc (w := 1) (L' := [some (.ref 74), none, none, some (.int (1 : Int32)), some (.int (x4 + (1 : Int32)))]) dX12_isSoBy_62 (by decide) rfl (Nat.le_of_ble_eq_true rfl) rfl rfl ?_
        refine G.goto (tgt := 21) dX12_isSoBy_65 (by decide) ?_
        have hf := Option.some.inj hf
        subst hf
        exact hK
theorem lX12_isSoBy_21 (E : EV) (d : Nat) (rr : Option Value × Mem) (I : Mem) (z : (Int32 × Mem)) (hK : (fun (z : Int32 × Mem) => (some (.int z.1), z.2) = rr) z) : ∀ (n : Nat) (q : (Int32 × Int32)), iter (sX12_isSoBy_21 I) n q = some z → G E (d + 4) kX12_isSoBy 21 [some (.ref 74), none, none, some (.int q.1), some (.int q.2)] [] I rr := by
  intro n
  induction n with
  | zero => intro q h; cases h
  | succ n ih =>
    intro q h
    rcases iter_at h with ⟨q2, hs, h2⟩ | hs
    · exact wX12_isSoBy_21 E d rr I q.1 q.2 _ hs (ih q2 h2)
    · exact wX12_isSoBy_21 E d rr I q.1 q.2 _ hs hK
def jX12_isSoBy_18 (x3 : Int32) (I : Mem) : Option (Int32 × Mem) :=
  iter (sX12_isSoBy_21 I) FU (x3, (0 : Int32))
set_option maxRecDepth 20000 in
theorem tX12_isSoBy_18 (E : EV) (d : Nat) (rr : Option Value × Mem) (x3 : Int32) (I : Mem) (y : (Int32 × Mem)) (hf : jX12_isSoBy_18 x3 I = some y) (hK : (fun (z : Int32 × Mem) => (some (.int z.1), z.2) = rr) y) : G E (d + 4) kX12_isSoBy 18 [some (.ref 74), none, none, some (.int x3), none] [] I rr := by
  unfold jX12_isSoBy_18 at hf
  refine G.iconst (v := 0) dX12_isSoBy_18 (by decide) ?_
  refine G.istore (L' := [some (.ref 74), none, none, some (.int x3), some (.int (0 : Int32))]) dX12_isSoBy_19 (Nat.le_of_ble_eq_true rfl) (Nat.le_of_ble_eq_true rfl) rfl rfl ?_
  exact lX12_isSoBy_21 E d rr I _ hK FU _ hf
def fX12_isSoBy (x1 : Int32) (x2 : Int32) (I : Mem) : Option (Int32 × Mem) :=
  bnd (fX12_mayGo x1 x2 I) fun v_2 =>
  if v_2 = 0 then
  (jX12_isSoBy_18 v_2 I)
  else
  (bnd2 (fX12_tryBeat x1 x2 I) fun v_12 I_13 =>
  jX12_isSoBy_18 v_2 I_13)
set_option maxRecDepth 20000 in
theorem gX12_isSoBy (E : EV) (d : Nat) (x1 : Int32) (x2 : Int32) (I : Mem) {v : Int32} {J : Mem} (hf : fX12_isSoBy x1 x2 I = some (v, J)) : Gm E (d + 4) kX12_isSoBy [.ref 74, .int x1, .int x2] I (some (.int v), J) := by
  refine (fun (y : (Int32 × Mem)) (hf : fX12_isSoBy x1 x2 I = some y) => (?_ : Gm E (d + 4) kX12_isSoBy [.ref 74, .int x1, .int x2] I (some (.int y.1), y.2))) (v, J) hf
  refine Gm.of (by decide) rfl (Nat.le_of_ble_eq_true rfl) ?_
  generalize hrr : ((some (.int y.1), y.2) : Option Value × Mem) = rr
  show G E (d + 4) kX12_isSoBy 0 [some (.ref 74), some (.int x1), some (.int x2), none, none] [] I rr
  have hK : (fun (z : Int32 × Mem) => (some (.int z.1), z.2) = rr) y := hrr
  clear hrr
  unfold fX12_isSoBy at hf
  refine G.aload_n dX12_isSoBy_0 rfl rfl ?_
  refine G.iload_n dX12_isSoBy_1 rfl rfl ?_
  refine G.iload_n dX12_isSoBy_2 rfl rfl ?_
  obtain ⟨v_2, hc_1, hf⟩ := bnd_at hf
  refine G.callVi (av := [.int x1, .int x2]) (rest := []) dX12_isSoBy_3 mvX12_176 (gX12_mayGo E (d + 2) x1 x2 I hc_1) (by decide) rfl rfl rfl (Nat.le_of_ble_eq_true rfl) ?_
  refine G.istore_n (L' := [some (.ref 74), some (.int x1), some (.int x2), some (.int v_2), none]) dX12_isSoBy_6 rfl (Nat.le_of_ble_eq_true rfl) (Nat.le_of_ble_eq_true rfl) rfl rfl ?_
  refine G.iload_n dX12_isSoBy_7 rfl rfl ?_
  refine G.if_eq (tgt := 18) dX12_isSoBy_8 (by decide) (fun c_14 => ?_) (fun c_14 => ?_)
  · have hf := ite_t hf c_14
    refine G.forget (L' := [some (.ref 74), none, none, some (.int v_2), none]) [1, 2] rfl ?_
    exact tX12_isSoBy_18 E d rr v_2 I _ hf hK
  · have hf := ite_f hf c_14
    refine G.aload_n dX12_isSoBy_11 rfl rfl ?_
    refine G.iload_n dX12_isSoBy_12 rfl rfl ?_
    refine G.iload_n dX12_isSoBy_13 rfl rfl ?_
    obtain ⟨v_12, I_13, hc_11, hf⟩ := bnd2_at hf
    refine G.callVi (av := [.int x1, .int x2]) (rest := []) dX12_isSoBy_14 mvX12_179 (gX12_tryBeat E d x1 x2 I hc_11) (by decide) rfl rfl rfl (Nat.le_of_ble_eq_true rfl) ?_
    refine G.pop dX12_isSoBy_17 rfl ?_
    refine G.forget (L' := [some (.ref 74), none, none, some (.int v_2), none]) [1, 2] rfl ?_
    exact tX12_isSoBy_18 E d rr v_2 I_13 _ hf hK
theorem dX12_fits_0 : decode cX12_fits 0 = .ok (.aload_n 0, 1) := by decide +kernel
theorem dX12_fits_1 : decode cX12_fits 1 = .ok (.invokevirtual 173, 3) := by decide +kernel
theorem dX12_fits_4 : decode cX12_fits 4 = .ok (.istore_n 1, 1) := by decide +kernel
theorem dX12_fits_5 : decode cX12_fits 5 = .ok (.iconst 0, 1) := by decide +kernel
theorem dX12_fits_6 : decode cX12_fits 6 = .ok (.istore_n 2, 1) := by decide +kernel
theorem dX12_fits_7 : decode cX12_fits 7 = .ok (.iconst 0, 1) := by decide +kernel
theorem dX12_fits_8 : decode cX12_fits 8 = .ok (.istore_n 3, 1) := by decide +kernel
theorem dX12_fits_9 : decode cX12_fits 9 = .ok (.iload_n 3, 1) := by decide +kernel
theorem dX12_fits_10 : decode cX12_fits 10 = .ok (.aload_n 0, 1) := by decide +kernel
theorem dX12_fits_11 : decode cX12_fits 11 = .ok (.invokevirtual 197, 3) := by decide +kernel
theorem dX12_fits_14 : decode cX12_fits 14 = .ok (.if_icmp .ge 30, 3) := by decide +kernel
theorem dX12_fits_17 : decode cX12_fits 17 = .ok (.iload_n 2, 1) := by decide +kernel
theorem dX12_fits_18 : decode cX12_fits 18 = .ok (.aload_n 0, 1) := by decide +kernel
theorem dX12_fits_19 : decode cX12_fits 19 = .ok (.iload_n 1, 1) := by decide +kernel
theorem dX12_fits_20 : decode cX12_fits 20 = .ok (.aload_n 0, 1) := by decide +kernel
theorem dX12_fits_21 : decode cX12_fits 21 = .ok (.iload_n 3, 1) := by decide +kernel
theorem dX12_fits_22 : decode cX12_fits 22 = .ok (.invokevirtual 200, 3) := by decide +kernel
theorem dX12_fits_25 : decode cX12_fits 25 = .ok (.invokevirtual 233, 3) := by decide +kernel
theorem dX12_fits_28 : decode cX12_fits 28 = .ok (.ifCond .eq 7, 3) := by decide +kernel
theorem dX12_fits_31 : decode cX12_fits 31 = .ok (.iconst 1, 1) := by decide +kernel
theorem dX12_fits_32 : decode cX12_fits 32 = .ok (.goto 4, 3) := by decide +kernel
theorem dX12_fits_35 : decode cX12_fits 35 = .ok (.iconst 0, 1) := by decide +kernel
theorem dX12_fits_36 : decode cX12_fits 36 = .ok (.iadd, 1) := by decide +kernel
theorem dX12_fits_37 : decode cX12_fits 37 = .ok (.istore_n 2, 1) := by decide +kernel
theorem dX12_fits_38 : decode cX12_fits 38 = .ok (.iinc 3 1, 3) := by decide +kernel
theorem dX12_fits_41 : decode cX12_fits 41 = .ok (.goto (-32), 3) := by decide +kernel
theorem dX12_fits_44 : decode cX12_fits 44 = .ok (.iload_n 2, 1) := by decide +kernel
theorem dX12_fits_45 : decode cX12_fits 45 = .ok (.ireturn, 1) := by decide +kernel
def KX12_fits_9 (E : EV) (d : Nat) (rr : Option Value × Mem) (x1 : Int32) (Kp : (Int32 × Mem) → Prop) : ((Int32 × Int32 × Mem) ⊕ (Int32 × Mem)) → Prop
  | .inl q => G E (d + 5) kX12_fits 9 [some (.ref 74), some (.int x1), some (.int q.1), some (.int q.2.1)] [] q.2.2 rr
  | .inr z => Kp z
def bX12_fits_9 (x1 : Int32) (x2 : Int32) (x3 : Int32) (I : Mem) : Option ((Int32 × Int32 × Mem) ⊕ (Int32 × Mem)) :=
  bnd (fX12_standings I) fun v_4 =>
  if v_4 ≤ x3 then
  (some (.inr (x2, I)))
  else
  (bnd (fX12_standingOf x3 I) fun v_6 =>
  bnd2 (fX12_isSoBy x1 v_6 I) fun v_8 I_9 =>
  if v_8 = 0 then
  (letb (x2 + (0 : Int32)) fun x2_10 =>
  some (.inl (x2_10, (x3 + (1 : Int32)), I_9)))
  else
  (letb (x2 + (1 : Int32)) fun x2_11 =>
  some (.inl (x2_11, (x3 + (1 : Int32)), I_9))))
def sX12_fits_9 (x1 : Int32) (q : (Int32 × Int32 × Mem)) : Option ((Int32 × Int32 × Mem) ⊕ (Int32 × Mem)) := bX12_fits_9 x1 q.1 q.2.1 q.2.2
set_option maxRecDepth 20000 in
theorem wX12_fits_9 (E : EV) (d : Nat) (rr : Option Value × Mem) (x1 : Int32) (x2 : Int32) (x3 : Int32) (I : Mem) (y : ((Int32 × Int32 × Mem) ⊕ (Int32 × Mem))) (hf : bX12_fits_9 x1 x2 x3 I = some y) (hK : (KX12_fits_9 E d rr x1 (fun (z : Int32 × Mem) => (some (.int z.1), z.2) = rr)) y) : G E (d + 5) kX12_fits 9 [some (.ref 74), some (.int x1), some (.int x2), some (.int x3)] [] I rr := by
  unfold bX12_fits_9 at hf
  refine G.iload_n dX12_fits_9 rfl rfl ?_
  refine G.aload_n dX12_fits_10 rfl rfl ?_
  obtain ⟨v_4, hc_3, hf⟩ := bnd_at hf
  refine G.callVi (av := []) (rest := [.int x3]) dX12_fits_11 mvX12_197 (gX12_standings E (d + 4) I hc_3) (by decide) rfl rfl rfl (Nat.le_of_ble_eq_true rfl) ?_
  refine G.icmp_ge (tgt := 44) dX12_fits_14 (by decide) (fun c_13 => ?_) (fun c_13 => ?_)
  · have hf := ite_t hf c_13
    refine G.iload_n dX12_fits_44 rfl rfl ?_
    have hf := Option.some.inj hf
    subst hf
    exact G.iret' dX12_fits_45 rfl hK
  · have hf := ite_f hf c_13
    refine G.iload_n dX12_fits_17 rfl rfl ?_
    refine G.aload_n dX12_fits_18 rfl rfl ?_
    refine G.iload_n dX12_fits_19 rfl rfl ?_
    refine G.aload_n dX12_fits_20 rfl rfl ?_
    refine G.iload_n dX12_fits_21 rfl rfl ?_
    obtain ⟨v_6, hc_5, hf⟩ := bnd_at hf
    refine G.callVi (av := [.int x3]) (rest := [.int x1, .ref 74, .int x2]) dX12_fits_22 mvX12_200 (gX12_standingOf E (d + 4) x3 I hc_5) (by decide) rfl rfl rfl (Nat.le_of_ble_eq_true rfl) ?_
    obtain ⟨v_8, I_9, hc_7, hf⟩ := bnd2_at hf
    refine G.callVi (av := [.int x1, .int v_6]) (rest := [.int x2]) dX12_fits_25 mvX12_233 (gX12_isSoBy E d x1 v_6 I hc_7) (by decide) rfl rfl rfl (Nat.le_of_ble_eq_true rfl) ?_
    refine G.if_eq (tgt := 35) dX12_fits_28 (by decide) (fun c_12 => ?_) (fun c_12 => ?_)
    · have hf := ite_t hf c_12
      refine G.iconst (v := 0) dX12_fits_35 (by decide) ?_
      refine G.iadd dX12_fits_36 ?_
      refine G.nmi (fun x2_10 e_x2_10 => ?_)
      have hf := letb_at hf e_x2_10
      clear e_x2_10
      refine G.istore_n (L' := [some (.ref 74), some (.int x1), some (.int x2_10), some (.int x3)]) dX12_fits_37 rfl (Nat.le_of_ble_eq_true rfl) (Nat.le_of_ble_eq_true rfl) rfl rfl ?_
      refine G.inc (w := 1) (L' := [some (.ref 74), some (.int x1), some (.int x2_10), some (.int (x3 + (1 : Int32)))]) dX12_fits_38 (by decide) rfl (Nat.le_of_ble_eq_true rfl) rfl rfl ?_
      refine G.goto (tgt := 9) dX12_fits_41 (by decide) ?_
      have hf := Option.some.inj hf
      subst hf
      exact hK
    · have hf := ite_f hf c_12
      refine G.iconst (v := 1) dX12_fits_31 (by decide) ?_
      refine G.goto (tgt := 36) dX12_fits_32 (by decide) ?_
      refine G.iadd dX12_fits_36 ?_
      refine G.nmi (fun x2_11 e_x2_11 => ?_)
      have hf := letb_at hf e_x2_11
      clear e_x2_11
      refine G.istore_n (L' := [some (.ref 74), some (.int x1), some (.int x2_11), some (.int x3)]) dX12_fits_37 rfl (Nat.le_of_ble_eq_true rfl) (Nat.le_of_ble_eq_true rfl) rfl rfl ?_
      refine G.inc (w := 1) (L' := [some (.ref 74), some (.int x1), some (.int x2_11), some (.int (x3 + (1 : Int32)))]) dX12_fits_38 (by decide) rfl (Nat.le_of_ble_eq_true rfl) rfl rfl ?_
      refine G.goto (tgt := 9) dX12_fits_41 (by decide) ?_
      have hf := Option.some.inj hf
      subst hf
      exact hK
theorem lX12_fits_9 (E : EV) (d : Nat) (rr : Option Value × Mem) (x1 : Int32) (z : (Int32 × Mem)) (hK : (fun (z : Int32 × Mem) => (some (.int z.1), z.2) = rr) z) : ∀ (n : Nat) (q : (Int32 × Int32 × Mem)), iter (sX12_fits_9 x1) n q = some z → G E (d + 5) kX12_fits 9 [some (.ref 74), some (.int x1), some (.int q.1), some (.int q.2.1)] [] q.2.2 rr := by
  intro n
  induction n with
  | zero => intro q h; cases h
  | succ n ih =>
    intro q h
    rcases iter_at h with ⟨q2, hs, h2⟩ | hs
    · exact wX12_fits_9 E d rr x1 q.1 q.2.1 q.2.2 _ hs (ih q2 h2)
    · exact wX12_fits_9 E d rr x1 q.1 q.2.1 q.2.2 _ hs hK
def fX12_fits (I : Mem) : Option (Int32 × Mem) :=
  bnd (fX12_now I) fun v_2 =>
  iter (sX12_fits_9 v_2) FU ((0 : Int32), (0 : Int32), I)
set_option maxRecDepth 20000 in
theorem gX12_fits (E : EV) (d : Nat) (I : Mem) {v : Int32} {J : Mem} (hf : fX12_fits I = some (v, J)) : Gm E (d + 5) kX12_fits [.ref 74] I (some (.int v), J) := by
  refine (fun (y : (Int32 × Mem)) (hf : fX12_fits I = some y) => (?_ : Gm E (d + 5) kX12_fits [.ref 74] I (some (.int y.1), y.2))) (v, J) hf
  refine Gm.of (by decide) rfl (Nat.le_of_ble_eq_true rfl) ?_
  generalize hrr : ((some (.int y.1), y.2) : Option Value × Mem) = rr
  show G E (d + 5) kX12_fits 0 [some (.ref 74), none, none, none] [] I rr
  have hK : (fun (z : Int32 × Mem) => (some (.int z.1), z.2) = rr) y := hrr
  clear hrr
  unfold fX12_fits at hf
  refine G.aload_n dX12_fits_0 rfl rfl ?_
  obtain ⟨v_2, hc_1, hf⟩ := bnd_at hf
  refine G.callVi (av := []) (rest := []) dX12_fits_1 mvX12_173 (gX12_now E (d + 4) I hc_1) (by decide) rfl rfl rfl (Nat.le_of_ble_eq_true rfl) ?_
  refine G.istore_n (L' := [some (.ref 74), some (.int v_2), none, none]) dX12_fits_4 rfl (Nat.le_of_ble_eq_true rfl) (Nat.le_of_ble_eq_true rfl) rfl rfl ?_
  refine G.iconst (v := 0) dX12_fits_5 (by decide) ?_
  refine G.istore_n (L' := [some (.ref 74), some (.int v_2), some (.int (0 : Int32)), none]) dX12_fits_6 rfl (Nat.le_of_ble_eq_true rfl) (Nat.le_of_ble_eq_true rfl) rfl rfl ?_
  refine G.iconst (v := 0) dX12_fits_7 (by decide) ?_
  refine G.istore_n (L' := [some (.ref 74), some (.int v_2), some (.int (0 : Int32)), some (.int (0 : Int32))]) dX12_fits_8 rfl (Nat.le_of_ble_eq_true rfl) (Nat.le_of_ble_eq_true rfl) rfl rfl ?_
  exact lX12_fits_9 E d rr v_2 _ hK FU _ hf
theorem dX12_was_0 : decode cX12_was 0 = .ok (.aload_n 0, 1) := by decide +kernel
theorem dX12_was_1 : decode cX12_was 1 = .ok (.iload_n 1, 1) := by decide +kernel
theorem dX12_was_2 : decode cX12_was 2 = .ok (.invokevirtual 89, 3) := by decide +kernel
theorem dX12_was_5 : decode cX12_was 5 = .ok (.ifCond .eq 11, 3) := by decide +kernel
theorem dX12_was_8 : decode cX12_was 8 = .ok (.aload_n 0, 1) := by decide +kernel
theorem dX12_was_9 : decode cX12_was 9 = .ok (.iload_n 2, 1) := by decide +kernel
theorem dX12_was_10 : decode cX12_was 10 = .ok (.invokevirtual 63, 3) := by decide +kernel
theorem dX12_was_13 : decode cX12_was 13 = .ok (.ifCond .ne 10, 3) := by decide +kernel
theorem dX12_was_16 : decode cX12_was 16 = .ok (.aload_n 0, 1) := by decide +kernel
theorem dX12_was_17 : decode cX12_was 17 = .ok (.bipush (-2), 2) := by decide +kernel
theorem dX12_was_19 : decode cX12_was 19 = .ok (.invokevirtual 59, 3) := by decide +kernel
theorem dX12_was_22 : decode cX12_was 22 = .ok (.ireturn, 1) := by decide +kernel
theorem dX12_was_23 : decode cX12_was 23 = .ok (.aload_n 0, 1) := by decide +kernel
theorem dX12_was_24 : decode cX12_was 24 = .ok (.invokevirtual 173, 3) := by decide +kernel
theorem dX12_was_27 : decode cX12_was 27 = .ok (.istore_n 3, 1) := by decide +kernel
theorem dX12_was_28 : decode cX12_was 28 = .ok (.iconst 0, 1) := by decide +kernel
theorem dX12_was_29 : decode cX12_was 29 = .ok (.istore 4, 2) := by decide +kernel
theorem dX12_was_31 : decode cX12_was 31 = .ok (.iconst 0, 1) := by decide +kernel
theorem dX12_was_32 : decode cX12_was 32 = .ok (.istore 5, 2) := by decide +kernel
theorem dX12_was_34 : decode cX12_was 34 = .ok (.iload 5, 2) := by decide +kernel
theorem dX12_was_36 : decode cX12_was 36 = .ok (.aload_n 0, 1) := by decide +kernel
theorem dX12_was_37 : decode cX12_was 37 = .ok (.invokevirtual 197, 3) := by decide +kernel
theorem dX12_was_40 : decode cX12_was 40 = .ok (.if_icmp .ge 57, 3) := by decide +kernel
theorem dX12_was_43 : decode cX12_was 43 = .ok (.aload_n 0, 1) := by decide +kernel
theorem dX12_was_44 : decode cX12_was 44 = .ok (.iload 5, 2) := by decide +kernel
theorem dX12_was_46 : decode cX12_was 46 = .ok (.invokevirtual 200, 3) := by decide +kernel
theorem dX12_was_49 : decode cX12_was 49 = .ok (.istore 6, 2) := by decide +kernel
theorem dX12_was_51 : decode cX12_was 51 = .ok (.iload 4, 2) := by decide +kernel
theorem dX12_was_53 : decode cX12_was 53 = .ok (.iload 6, 2) := by decide +kernel
theorem dX12_was_55 : decode cX12_was 55 = .ok (.iload_n 1, 1) := by decide +kernel
theorem dX12_was_56 : decode cX12_was 56 = .ok (.invokestatic 151, 3) := by decide +kernel
theorem dX12_was_59 : decode cX12_was 59 = .ok (.iload_n 2, 1) := by decide +kernel
theorem dX12_was_60 : decode cX12_was 60 = .ok (.if_icmp .ne 27, 3) := by decide +kernel
theorem dX12_was_63 : decode cX12_was 63 = .ok (.aload_n 0, 1) := by decide +kernel
theorem dX12_was_64 : decode cX12_was 64 = .ok (.iload 6, 2) := by decide +kernel
theorem dX12_was_66 : decode cX12_was 66 = .ok (.iload_n 1, 1) := by decide +kernel
theorem dX12_was_67 : decode cX12_was 67 = .ok (.invokevirtual 155, 3) := by decide +kernel
theorem dX12_was_70 : decode cX12_was 70 = .ok (.ifCond .eq 17, 3) := by decide +kernel
theorem dX12_was_73 : decode cX12_was 73 = .ok (.aload_n 0, 1) := by decide +kernel
theorem dX12_was_74 : decode cX12_was 74 = .ok (.iload_n 3, 1) := by decide +kernel
theorem dX12_was_75 : decode cX12_was 75 = .ok (.iload 6, 2) := by decide +kernel
theorem dX12_was_77 : decode cX12_was 77 = .ok (.invokevirtual 233, 3) := by decide +kernel
theorem dX12_was_80 : decode cX12_was 80 = .ok (.ifCond .eq 7, 3) := by decide +kernel
theorem dX12_was_83 : decode cX12_was 83 = .ok (.iconst 1, 1) := by decide +kernel
theorem dX12_was_84 : decode cX12_was 84 = .ok (.goto 4, 3) := by decide +kernel
theorem dX12_was_87 : decode cX12_was 87 = .ok (.iconst 0, 1) := by decide +kernel
theorem dX12_was_88 : decode cX12_was 88 = .ok (.iadd, 1) := by decide +kernel
theorem dX12_was_89 : decode cX12_was 89 = .ok (.istore 4, 2) := by decide +kernel
theorem dX12_was_91 : decode cX12_was 91 = .ok (.iinc 5 1, 3) := by decide +kernel
theorem dX12_was_94 : decode cX12_was 94 = .ok (.goto (-60), 3) := by decide +kernel
theorem dX12_was_97 : decode cX12_was 97 = .ok (.iload 4, 2) := by decide +kernel
theorem dX12_was_99 : decode cX12_was 99 = .ok (.ireturn, 1) := by decide +kernel
def jX12_was_16 (I : Mem) : Option (Int32 × Mem) :=
  bnd2 (fX12_bad (-2 : Int32) I) fun v_4 I_5 =>
  some (v_4, I_5)
set_option maxRecDepth 20000 in
theorem tX12_was_16 (E : EV) (d : Nat) (rr : Option Value × Mem) (I : Mem) (y : (Int32 × Mem)) (hf : jX12_was_16 I = some y) (hK : (fun (z : Int32 × Mem) => (some (.int z.1), z.2) = rr) y) : G E (d + 5) kX12_was 16 [some (.ref 74), none, none, none, none, none, none] [] I rr := by
  unfold jX12_was_16 at hf
  refine G.aload_n dX12_was_16 rfl rfl ?_
  refine G.bipush (v := -2) dX12_was_17 (by decide) ?_
  obtain ⟨v_4, I_5, hc_3, hf⟩ := bnd2_at hf
  refine G.callVi (av := [.int (-2 : Int32)]) (rest := []) dX12_was_19 mvX12_59 (gX12_bad E (d + 4) (-2 : Int32) I hc_3) (by decide) rfl rfl rfl (Nat.le_of_ble_eq_true rfl) ?_
  have hf := Option.some.inj hf
  subst hf
  exact G.iret' dX12_was_22 rfl hK
def KX12_was_34 (E : EV) (d : Nat) (rr : Option Value × Mem) (x1 : Int32) (x2 : Int32) (x3 : Int32) (Kp : (Int32 × Mem) → Prop) : ((Int32 × Int32 × Mem) ⊕ (Int32 × Mem)) → Prop
  | .inl q => G E (d + 5) kX12_was 34 [some (.ref 74), some (.int x1), some (.int x2), some (.int x3), some (.int q.1), some (.int q.2.1), none] [] q.2.2 rr
  | .inr z => Kp z
def bX12_was_34 (x1 : Int32) (x2 : Int32) (x3 : Int32) (x4 : Int32) (x5 : Int32) (I : Mem) : Option ((Int32 × Int32 × Mem) ⊕ (Int32 × Mem)) :=
  bnd (fX12_standings I) fun v_11 =>
  if v_11 ≤ x5 then
  (some (.inr (x4, I)))
  else
  (bnd (fX12_standingOf x5 I) fun v_13 =>
  bnd (fX12_roomIn v_13 x1 I) fun v_15 =>
  if v_15 = x2 then
  (bnd (fX12_isAlone v_13 x1 I) fun v_18 =>
  if v_18 = 0 then
  (letb (x4 + (0 : Int32)) fun x4_19 =>
  some (.inl (x4_19, (x5 + (1 : Int32)), I)))
  else
  (bnd2 (fX12_isSoBy x3 v_13 I) fun v_21 I_22 =>
  if v_21 = 0 then
  (letb (x4 + (0 : Int32)) fun x4_23 =>
  some (.inl (x4_23, (x5 + (1 : Int32)), I_22)))
  else
  (letb (x4 + (1 : Int32)) fun x4_24 =>
  some (.inl (x4_24, (x5 + (1 : Int32)), I_22)))))
  else
  (letb (x4 + (0 : Int32)) fun x4_16 =>
  some (.inl (x4_16, (x5 + (1 : Int32)), I))))
def sX12_was_34 (x1 : Int32) (x2 : Int32) (x3 : Int32) (q : (Int32 × Int32 × Mem)) : Option ((Int32 × Int32 × Mem) ⊕ (Int32 × Mem)) := bX12_was_34 x1 x2 x3 q.1 q.2.1 q.2.2
set_option maxRecDepth 20000 in
theorem wX12_was_34 (E : EV) (d : Nat) (rr : Option Value × Mem) (x1 : Int32) (x2 : Int32) (x3 : Int32) (x4 : Int32) (x5 : Int32) (I : Mem) (y : ((Int32 × Int32 × Mem) ⊕ (Int32 × Mem))) (hf : bX12_was_34 x1 x2 x3 x4 x5 I = some y) (hK : (KX12_was_34 E d rr x1 x2 x3 (fun (z : Int32 × Mem) => (some (.int z.1), z.2) = rr)) y) : G E (d + 5) kX12_was 34 [some (.ref 74), some (.int x1), some (.int x2), some (.int x3), some (.int x4), some (.int x5), none] [] I rr := by
  unfold bX12_was_34 at hf
  refine G.iload dX12_was_34 rfl ?_
  refine G.aload_n dX12_was_36 rfl rfl ?_
  obtain ⟨v_11, hc_10, hf⟩ := bnd_at hf
  refine G.callVi (av := []) (rest := [.int x5]) dX12_was_37 mvX12_197 (gX12_standings E (d + 4) I hc_10) (by decide) rfl rfl rfl (Nat.le_of_ble_eq_true rfl) ?_
  refine G.icmp_ge (tgt := 97) dX12_was_40 (by decide) (fun c_28 => ?_) (fun c_28 => ?_)
  · have hf := ite_t hf c_28
    refine G.iload dX12_was_97 rfl ?_
    have hf := Option.some.inj hf
    subst hf
    exact G.iret' dX12_was_99 rfl hK
  · have hf := ite_f hf c_28
    refine G.aload_n dX12_was_43 rfl rfl ?_
    refine G.iload dX12_was_44 rfl ?_
    obtain ⟨v_13, hc_12, hf⟩ := bnd_at hf
    refine G.callVi (av := [.int x5]) (rest := []) dX12_was_46 mvX12_200 (gX12_standingOf E (d + 4) x5 I hc_12) (by decide) rfl rfl rfl (Nat.le_of_ble_eq_true rfl) ?_
    refine G.istore (L' := [some (.ref 74), some (.int x1), some (.int x2), some (.int x3), some (.int x4), some (.int x5), some (.int v_13)]) dX12_was_49 (Nat.le_of_ble_eq_true rfl) (Nat.le_of_ble_eq_true rfl) rfl rfl ?_
    refine G.iload dX12_was_51 rfl ?_
    refine G.iload dX12_was_53 rfl ?_
    refine G.iload_n dX12_was_55 rfl rfl ?_
    obtain ⟨v_15, hc_14, hf⟩ := bnd_at hf
    refine G.callSi (av := [.int v_13, .int x1]) (rest := [.int x4]) dX12_was_56 msX12_151 (gX12_roomIn E (d + 4) v_13 x1 I hc_14) rfl rfl (Nat.le_of_ble_eq_true rfl) ?_
    refine G.iload_n dX12_was_59 rfl rfl ?_
    refine G.icmp_ne (tgt := 87) dX12_was_60 (by decide) (fun c_27 => ?_) (fun c_27 => ?_)
    · have hf := ite_f hf c_27
      refine G.iconst (v := 0) dX12_was_87 (by decide) ?_
      refine G.iadd dX12_was_88 ?_
      refine G.nmi (fun x4_16 e_x4_16 => ?_)
      have hf := letb_at hf e_x4_16
      clear e_x4_16
      refine G.istore (L' := [some (.ref 74), some (.int x1), some (.int x2), some (.int x3), some (.int x4_16), some (.int x5), some (.int v_13)]) dX12_was_89 (Nat.le_of_ble_eq_true rfl) (Nat.le_of_ble_eq_true rfl) rfl rfl ?_
      refine G.inc (w := 1) (L' := [some (.ref 74), some (.int x1), some (.int x2), some (.int x3), some (.int x4_16), some (.int (x5 + (1 : Int32))), some (.int v_13)]) dX12_was_91 (by decide) rfl (Nat.le_of_ble_eq_true rfl) rfl rfl ?_
      refine G.goto (tgt := 34) dX12_was_94 (by decide) ?_
      have hf := Option.some.inj hf
      subst hf
      refine G.forget (L' := [some (.ref 74), some (.int x1), some (.int x2), some (.int x3), some (.int x4_16), some (.int (x5 + (1 : Int32))), none]) [6] rfl ?_
      exact hK
    · have hf := ite_t hf c_27
      refine G.aload_n dX12_was_63 rfl rfl ?_
      refine G.iload dX12_was_64 rfl ?_
      refine G.iload_n dX12_was_66 rfl rfl ?_
      obtain ⟨v_18, hc_17, hf⟩ := bnd_at hf
      refine G.callVi (av := [.int v_13, .int x1]) (rest := [.int x4]) dX12_was_67 mvX12_155 (gX12_isAlone E (d + 3) v_13 x1 I hc_17) (by decide) rfl rfl rfl (Nat.le_of_ble_eq_true rfl) ?_
      refine G.if_eq (tgt := 87) dX12_was_70 (by decide) (fun c_26 => ?_) (fun c_26 => ?_)
      · have hf := ite_t hf c_26
        refine G.iconst (v := 0) dX12_was_87 (by decide) ?_
        refine G.iadd dX12_was_88 ?_
        refine G.nmi (fun x4_19 e_x4_19 => ?_)
        have hf := letb_at hf e_x4_19
        clear e_x4_19
        refine G.istore (L' := [some (.ref 74), some (.int x1), some (.int x2), some (.int x3), some (.int x4_19), some (.int x5), some (.int v_13)]) dX12_was_89 (Nat.le_of_ble_eq_true rfl) (Nat.le_of_ble_eq_true rfl) rfl rfl ?_
        refine G.inc (w := 1) (L' := [some (.ref 74), some (.int x1), some (.int x2), some (.int x3), some (.int x4_19), some (.int (x5 + (1 : Int32))), some (.int v_13)]) dX12_was_91 (by decide) rfl (Nat.le_of_ble_eq_true rfl) rfl rfl ?_
        refine G.goto (tgt := 34) dX12_was_94 (by decide) ?_
        have hf := Option.some.inj hf
        subst hf
        refine G.forget (L' := [some (.ref 74), some (.int x1), some (.int x2), some (.int x3), some (.int x4_19), some (.int (x5 + (1 : Int32))), none]) [6] rfl ?_
        exact hK
      · have hf := ite_f hf c_26
        refine G.aload_n dX12_was_73 rfl rfl ?_
        refine G.iload_n dX12_was_74 rfl rfl ?_
        refine G.iload dX12_was_75 rfl ?_
        obtain ⟨v_21, I_22, hc_20, hf⟩ := bnd2_at hf
        refine G.callVi (av := [.int x3, .int v_13]) (rest := [.int x4]) dX12_was_77 mvX12_233 (gX12_isSoBy E d x3 v_13 I hc_20) (by decide) rfl rfl rfl (Nat.le_of_ble_eq_true rfl) ?_
        refine G.if_eq (tgt := 87) dX12_was_80 (by decide) (fun c_25 => ?_) (fun c_25 => ?_)
        · have hf := ite_t hf c_25
          refine G.iconst (v := 0) dX12_was_87 (by decide) ?_
          refine G.iadd dX12_was_88 ?_
          refine G.nmi (fun x4_23 e_x4_23 => ?_)
          have hf := letb_at hf e_x4_23
          clear e_x4_23
          refine G.istore (L' := [some (.ref 74), some (.int x1), some (.int x2), some (.int x3), some (.int x4_23), some (.int x5), some (.int v_13)]) dX12_was_89 (Nat.le_of_ble_eq_true rfl) (Nat.le_of_ble_eq_true rfl) rfl rfl ?_
          refine G.inc (w := 1) (L' := [some (.ref 74), some (.int x1), some (.int x2), some (.int x3), some (.int x4_23), some (.int (x5 + (1 : Int32))), some (.int v_13)]) dX12_was_91 (by decide) rfl (Nat.le_of_ble_eq_true rfl) rfl rfl ?_
          refine G.goto (tgt := 34) dX12_was_94 (by decide) ?_
          have hf := Option.some.inj hf
          subst hf
          refine G.forget (L' := [some (.ref 74), some (.int x1), some (.int x2), some (.int x3), some (.int x4_23), some (.int (x5 + (1 : Int32))), none]) [6] rfl ?_
          exact hK
        · have hf := ite_f hf c_25
          refine G.iconst (v := 1) dX12_was_83 (by decide) ?_
          refine G.goto (tgt := 88) dX12_was_84 (by decide) ?_
          refine G.iadd dX12_was_88 ?_
          refine G.nmi (fun x4_24 e_x4_24 => ?_)
          have hf := letb_at hf e_x4_24
          clear e_x4_24
          refine G.istore (L' := [some (.ref 74), some (.int x1), some (.int x2), some (.int x3), some (.int x4_24), some (.int x5), some (.int v_13)]) dX12_was_89 (Nat.le_of_ble_eq_true rfl) (Nat.le_of_ble_eq_true rfl) rfl rfl ?_
          refine G.inc (w := 1) (L' := [some (.ref 74), some (.int x1), some (.int x2), some (.int x3), some (.int x4_24), some (.int (x5 + (1 : Int32))), some (.int v_13)]) dX12_was_91 (by decide) rfl (Nat.le_of_ble_eq_true rfl) rfl rfl ?_
          refine G.goto (tgt := 34) dX12_was_94 (by decide) ?_
          have hf := Option.some.inj hf
          subst hf
          refine G.forget (L' := [some (.ref 74), some (.int x1), some (.int x2), some (.int x3), some (.int x4_24), some (.int (x5 + (1 : Int32))), none]) [6] rfl ?_
          exact hK
theorem lX12_was_34 (E : EV) (d : Nat) (rr : Option Value × Mem) (x1 : Int32) (x2 : Int32) (x3 : Int32) (z : (Int32 × Mem)) (hK : (fun (z : Int32 × Mem) => (some (.int z.1), z.2) = rr) z) : ∀ (n : Nat) (q : (Int32 × Int32 × Mem)), iter (sX12_was_34 x1 x2 x3) n q = some z → G E (d + 5) kX12_was 34 [some (.ref 74), some (.int x1), some (.int x2), some (.int x3), some (.int q.1), some (.int q.2.1), none] [] q.2.2 rr := by
  intro n
  induction n with
  | zero => intro q h; cases h
  | succ n ih =>
    intro q h
    rcases iter_at h with ⟨q2, hs, h2⟩ | hs
    · exact wX12_was_34 E d rr x1 x2 x3 q.1 q.2.1 q.2.2 _ hs (ih q2 h2)
    · exact wX12_was_34 E d rr x1 x2 x3 q.1 q.2.1 q.2.2 _ hs hK
def fX12_was (x1 : Int32) (x2 : Int32) (I : Mem) : Option (Int32 × Mem) :=
  bnd (fX12_isPerson x1 I) fun v_2 =>
  if v_2 = 0 then
  (jX12_was_16 I)
  else
  (bnd (fX12_isRoom x2 I) fun v_7 =>
  if v_7 = 0 then
  (jX12_was_16 I)
  else
  (bnd (fX12_now I) fun v_9 =>
  iter (sX12_was_34 x1 x2 v_9) FU ((0 : Int32), (0 : Int32), I)))
set_option maxRecDepth 20000 in
theorem gX12_was (E : EV) (d : Nat) (x1 : Int32) (x2 : Int32) (I : Mem) {v : Int32} {J : Mem} (hf : fX12_was x1 x2 I = some (v, J)) : Gm E (d + 5) kX12_was [.ref 74, .int x1, .int x2] I (some (.int v), J) := by
  refine (fun (y : (Int32 × Mem)) (hf : fX12_was x1 x2 I = some y) => (?_ : Gm E (d + 5) kX12_was [.ref 74, .int x1, .int x2] I (some (.int y.1), y.2))) (v, J) hf
  refine Gm.of (by decide) rfl (Nat.le_of_ble_eq_true rfl) ?_
  generalize hrr : ((some (.int y.1), y.2) : Option Value × Mem) = rr
  show G E (d + 5) kX12_was 0 [some (.ref 74), some (.int x1), some (.int x2), none, none, none, none] [] I rr
  have hK : (fun (z : Int32 × Mem) => (some (.int z.1), z.2) = rr) y := hrr
  clear hrr
  unfold fX12_was at hf
  refine G.aload_n dX12_was_0 rfl rfl ?_
  refine G.iload_n dX12_was_1 rfl rfl ?_
  obtain ⟨v_2, hc_1, hf⟩ := bnd_at hf
  refine G.callVi (av := [.int x1]) (rest := []) dX12_was_2 mvX12_89 (gX12_isPerson E (d + 3) x1 I hc_1) (by decide) rfl rfl rfl (Nat.le_of_ble_eq_true rfl) ?_
  refine G.if_eq (tgt := 16) dX12_was_5 (by decide) (fun c_30 => ?_) (fun c_30 => ?_)
  · have hf := ite_t hf c_30
    refine G.forget (L' := [some (.ref 74), none, none, none, none, none, none]) [1, 2] rfl ?_
    exact tX12_was_16 E d rr I _ hf hK
  · have hf := ite_f hf c_30
    refine G.aload_n dX12_was_8 rfl rfl ?_
    refine G.iload_n dX12_was_9 rfl rfl ?_
    obtain ⟨v_7, hc_6, hf⟩ := bnd_at hf
    refine G.callVi (av := [.int x2]) (rest := []) dX12_was_10 mvX12_63 (gX12_isRoom E (d + 3) x2 I hc_6) (by decide) rfl rfl rfl (Nat.le_of_ble_eq_true rfl) ?_
    refine G.if_ne (tgt := 23) dX12_was_13 (by decide) (fun c_29 => ?_) (fun c_29 => ?_)
    · have hf := ite_f hf c_29
      refine G.aload_n dX12_was_23 rfl rfl ?_
      obtain ⟨v_9, hc_8, hf⟩ := bnd_at hf
      refine G.callVi (av := []) (rest := []) dX12_was_24 mvX12_173 (gX12_now E (d + 4) I hc_8) (by decide) rfl rfl rfl (Nat.le_of_ble_eq_true rfl) ?_
      refine G.istore_n (L' := [some (.ref 74), some (.int x1), some (.int x2), some (.int v_9), none, none, none]) dX12_was_27 rfl (Nat.le_of_ble_eq_true rfl) (Nat.le_of_ble_eq_true rfl) rfl rfl ?_
      refine G.iconst (v := 0) dX12_was_28 (by decide) ?_
      refine G.istore (L' := [some (.ref 74), some (.int x1), some (.int x2), some (.int v_9), some (.int (0 : Int32)), none, none]) dX12_was_29 (Nat.le_of_ble_eq_true rfl) (Nat.le_of_ble_eq_true rfl) rfl rfl ?_
      refine G.iconst (v := 0) dX12_was_31 (by decide) ?_
      refine G.istore (L' := [some (.ref 74), some (.int x1), some (.int x2), some (.int v_9), some (.int (0 : Int32)), some (.int (0 : Int32)), none]) dX12_was_32 (Nat.le_of_ble_eq_true rfl) (Nat.le_of_ble_eq_true rfl) rfl rfl ?_
      exact lX12_was_34 E d rr x1 x2 v_9 _ hK FU _ hf
    · have hf := ite_t hf c_29
      refine G.forget (L' := [some (.ref 74), none, none, none, none, none, none]) [1, 2] rfl ?_
      exact tX12_was_16 E d rr I _ hf hK
theorem dX12_rent_0 : decode cX12_rent 0 = .ok (.iload_n 1, 1) := by decide +kernel
theorem dX12_rent_1 : decode cX12_rent 1 = .ok (.i2l, 1) := by decide +kernel
theorem dX12_rent_2 : decode cX12_rent 2 = .ok (.lconst 0, 1) := by decide +kernel
theorem dX12_rent_3 : decode cX12_rent 3 = .ok (.ldc2_w 236, 3) := by decide +kernel
theorem dX12_rent_6 : decode cX12_rent 6 = .ok (.invokestatic 49, 3) := by decide +kernel
theorem dX12_rent_9 : decode cX12_rent 9 = .ok (.ifCond .eq 13, 3) := by decide +kernel
theorem dX12_rent_12 : decode cX12_rent 12 = .ok (.iload_n 2, 1) := by decide +kernel
theorem dX12_rent_13 : decode cX12_rent 13 = .ok (.i2l, 1) := by decide +kernel
theorem dX12_rent_14 : decode cX12_rent 14 = .ok (.lconst 0, 1) := by decide +kernel
theorem dX12_rent_15 : decode cX12_rent 15 = .ok (.lconst 1, 1) := by decide +kernel
theorem dX12_rent_16 : decode cX12_rent 16 = .ok (.invokestatic 49, 3) := by decide +kernel
theorem dX12_rent_19 : decode cX12_rent 19 = .ok (.ifCond .ne 10, 3) := by decide +kernel
theorem dX12_rent_22 : decode cX12_rent 22 = .ok (.aload_n 0, 1) := by decide +kernel
theorem dX12_rent_23 : decode cX12_rent 23 = .ok (.bipush (-2), 2) := by decide +kernel
theorem dX12_rent_25 : decode cX12_rent 25 = .ok (.invokevirtual 59, 3) := by decide +kernel
theorem dX12_rent_28 : decode cX12_rent 28 = .ok (.ireturn, 1) := by decide +kernel
theorem dX12_rent_29 : decode cX12_rent 29 = .ok (.aload_n 0, 1) := by decide +kernel
theorem dX12_rent_30 : decode cX12_rent 30 = .ok (.getfield 7, 3) := by decide +kernel
theorem dX12_rent_33 : decode cX12_rent 33 = .ok (.iconst 2, 1) := by decide +kernel
theorem dX12_rent_34 : decode cX12_rent 34 = .ok (.iaload, 1) := by decide +kernel
theorem dX12_rent_35 : decode cX12_rent 35 = .ok (.iload_n 1, 1) := by decide +kernel
theorem dX12_rent_36 : decode cX12_rent 36 = .ok (.iadd, 1) := by decide +kernel
theorem dX12_rent_37 : decode cX12_rent 37 = .ok (.iconst 1, 1) := by decide +kernel
theorem dX12_rent_38 : decode cX12_rent 38 = .ok (.iadd, 1) := by decide +kernel
theorem dX12_rent_39 : decode cX12_rent 39 = .ok (.iconst 2, 1) := by decide +kernel
theorem dX12_rent_40 : decode cX12_rent 40 = .ok (.idiv, 1) := by decide +kernel
theorem dX12_rent_41 : decode cX12_rent 41 = .ok (.aload_n 0, 1) := by decide +kernel
theorem dX12_rent_42 : decode cX12_rent 42 = .ok (.getfield 7, 3) := by decide +kernel
theorem dX12_rent_45 : decode cX12_rent 45 = .ok (.iconst 2, 1) := by decide +kernel
theorem dX12_rent_46 : decode cX12_rent 46 = .ok (.iaload, 1) := by decide +kernel
theorem dX12_rent_47 : decode cX12_rent 47 = .ok (.iconst 1, 1) := by decide +kernel
theorem dX12_rent_48 : decode cX12_rent 48 = .ok (.iadd, 1) := by decide +kernel
theorem dX12_rent_49 : decode cX12_rent 49 = .ok (.iconst 2, 1) := by decide +kernel
theorem dX12_rent_50 : decode cX12_rent 50 = .ok (.idiv, 1) := by decide +kernel
theorem dX12_rent_51 : decode cX12_rent 51 = .ok (.isub, 1) := by decide +kernel
theorem dX12_rent_52 : decode cX12_rent 52 = .ok (.istore_n 3, 1) := by decide +kernel
theorem dX12_rent_53 : decode cX12_rent 53 = .ok (.aload_n 0, 1) := by decide +kernel
theorem dX12_rent_54 : decode cX12_rent 54 = .ok (.getfield 7, 3) := by decide +kernel
theorem dX12_rent_57 : decode cX12_rent 57 = .ok (.iconst 1, 1) := by decide +kernel
theorem dX12_rent_58 : decode cX12_rent 58 = .ok (.iaload, 1) := by decide +kernel
theorem dX12_rent_59 : decode cX12_rent 59 = .ok (.iconst 1, 1) := by decide +kernel
theorem dX12_rent_60 : decode cX12_rent 60 = .ok (.if_icmp .ne 7, 3) := by decide +kernel
theorem dX12_rent_63 : decode cX12_rent 63 = .ok (.iload_n 1, 1) := by decide +kernel
theorem dX12_rent_64 : decode cX12_rent 64 = .ok (.goto 41, 3) := by decide +kernel
theorem dX12_rent_67 : decode cX12_rent 67 = .ok (.aload_n 0, 1) := by decide +kernel
theorem dX12_rent_68 : decode cX12_rent 68 = .ok (.getfield 7, 3) := by decide +kernel
theorem dX12_rent_71 : decode cX12_rent 71 = .ok (.iconst 1, 1) := by decide +kernel
theorem dX12_rent_72 : decode cX12_rent 72 = .ok (.iaload, 1) := by decide +kernel
theorem dX12_rent_73 : decode cX12_rent 73 = .ok (.iconst 3, 1) := by decide +kernel
theorem dX12_rent_74 : decode cX12_rent 74 = .ok (.if_icmp .ne 7, 3) := by decide +kernel
theorem dX12_rent_77 : decode cX12_rent 77 = .ok (.iload_n 3, 1) := by decide +kernel
theorem dX12_rent_78 : decode cX12_rent 78 = .ok (.goto 27, 3) := by decide +kernel
theorem dX12_rent_81 : decode cX12_rent 81 = .ok (.aload_n 0, 1) := by decide +kernel
theorem dX12_rent_82 : decode cX12_rent 82 = .ok (.getfield 7, 3) := by decide +kernel
theorem dX12_rent_85 : decode cX12_rent 85 = .ok (.iconst 1, 1) := by decide +kernel
theorem dX12_rent_86 : decode cX12_rent 86 = .ok (.iaload, 1) := by decide +kernel
theorem dX12_rent_87 : decode cX12_rent 87 = .ok (.iconst 4, 1) := by decide +kernel
theorem dX12_rent_88 : decode cX12_rent 88 = .ok (.if_icmp .eq 12, 3) := by decide +kernel
theorem dX12_rent_91 : decode cX12_rent 91 = .ok (.iload_n 2, 1) := by decide +kernel
theorem dX12_rent_92 : decode cX12_rent 92 = .ok (.iconst 1, 1) := by decide +kernel
theorem dX12_rent_93 : decode cX12_rent 93 = .ok (.if_icmp .eq 7, 3) := by decide +kernel
theorem dX12_rent_96 : decode cX12_rent 96 = .ok (.iload_n 1, 1) := by decide +kernel
theorem dX12_rent_97 : decode cX12_rent 97 = .ok (.ifCond .ne 7, 3) := by decide +kernel
theorem dX12_rent_100 : decode cX12_rent 100 = .ok (.iconst 0, 1) := by decide +kernel
theorem dX12_rent_101 : decode cX12_rent 101 = .ok (.goto 4, 3) := by decide +kernel
theorem dX12_rent_104 : decode cX12_rent 104 = .ok (.iconst 1, 1) := by decide +kernel
theorem dX12_rent_105 : decode cX12_rent 105 = .ok (.ireturn, 1) := by decide +kernel
def jX12_rent_22 (I : Mem) : Option (Int32 × Mem) :=
  bnd2 (fX12_bad (-2 : Int32) I) fun v_4 I_5 =>
  some (v_4, I_5)
set_option maxRecDepth 20000 in
theorem tX12_rent_22 (E : EV) (d : Nat) (rr : Option Value × Mem) (I : Mem) (y : (Int32 × Mem)) (hf : jX12_rent_22 I = some y) (hK : (fun (z : Int32 × Mem) => (some (.int z.1), z.2) = rr) y) : G E (d + 1) kX12_rent 22 [some (.ref 74), none, none, none] [] I rr := by
  unfold jX12_rent_22 at hf
  refine G.aload_n dX12_rent_22 rfl rfl ?_
  refine G.bipush (v := -2) dX12_rent_23 (by decide) ?_
  obtain ⟨v_4, I_5, hc_3, hf⟩ := bnd2_at hf
  refine G.callVi (av := [.int (-2 : Int32)]) (rest := []) dX12_rent_25 mvX12_59 (gX12_bad E d (-2 : Int32) I hc_3) (by decide) rfl rfl rfl (Nat.le_of_ble_eq_true rfl) ?_
  have hf := Option.some.inj hf
  subst hf
  exact G.iret' dX12_rent_28 rfl hK
def fX12_rent (x1 : Int32) (x2 : Int32) (I : Mem) : Option (Int32 × Mem) :=
  bnd (fX12_in (Int32.toInt64 x1) (0 : Int64) (99 : Int64) I) fun v_2 =>
  if v_2 = 0 then
  (jX12_rent_22 I)
  else
  (bnd (fX12_in (Int32.toInt64 x2) (0 : Int64) (1 : Int64) I) fun v_7 =>
  if v_7 = 0 then
  (jX12_rent_22 I)
  else
  (chk (inb (2 : Int32) 632) <|
  chk (inb (2 : Int32) 632) <|
  letb (((((I 75 (ix (2 : Int32))) + x1) + (1 : Int32)) / (2 : Int32)) - (((I 75 (ix (2 : Int32))) + (1 : Int32)) / (2 : Int32))) fun x3_10 =>
  chk (inb (1 : Int32) 632) <|
  if (I 75 (ix (1 : Int32))) = (1 : Int32) then
  (some (x1, I))
  else
  (chk (inb (1 : Int32) 632) <|
  if (I 75 (ix (1 : Int32))) = (3 : Int32) then
  (some (x3_10, I))
  else
  (chk (inb (1 : Int32) 632) <|
  if (I 75 (ix (1 : Int32))) = (4 : Int32) then
  (some ((0 : Int32), I))
  else
  (if x2 = (1 : Int32) then
  (some ((0 : Int32), I))
  else
  (if x1 = 0 then
  (some ((0 : Int32), I))
  else
  (some ((1 : Int32), I))))))))
set_option maxRecDepth 20000 in
theorem gX12_rent (E : EV) (d : Nat) (x1 : Int32) (x2 : Int32) (I : Mem) {v : Int32} {J : Mem} (hf : fX12_rent x1 x2 I = some (v, J)) : Gm E (d + 1) kX12_rent [.ref 74, .int x1, .int x2] I (some (.int v), J) := by
  refine (fun (y : (Int32 × Mem)) (hf : fX12_rent x1 x2 I = some y) => (?_ : Gm E (d + 1) kX12_rent [.ref 74, .int x1, .int x2] I (some (.int y.1), y.2))) (v, J) hf
  refine Gm.of (by decide) rfl (Nat.le_of_ble_eq_true rfl) ?_
  generalize hrr : ((some (.int y.1), y.2) : Option Value × Mem) = rr
  show G E (d + 1) kX12_rent 0 [some (.ref 74), some (.int x1), some (.int x2), none] [] I rr
  have hK : (fun (z : Int32 × Mem) => (some (.int z.1), z.2) = rr) y := hrr
  clear hrr
  unfold fX12_rent at hf
  refine G.iload_n dX12_rent_0 rfl rfl ?_
  refine G.i2l dX12_rent_1 ?_
  refine G.lconst (v := 0) dX12_rent_2 (by decide) ?_
  refine G.ldc2 (v := 99) dX12_rent_3 kcX12_236 ?_
  obtain ⟨v_2, hc_1, hf⟩ := bnd_at hf
  refine G.callSi (av := [.long (Int32.toInt64 x1), .long (0 : Int64), .long (99 : Int64)]) (rest := []) dX12_rent_6 msX12_49 (gX12_in E d (Int32.toInt64 x1) (0 : Int64) (99 : Int64) I hc_1) rfl rfl (Nat.le_of_ble_eq_true rfl) ?_
  refine G.if_eq (tgt := 22) dX12_rent_9 (by decide) (fun c_20 => ?_) (fun c_20 => ?_)
  · have hf := ite_t hf c_20
    refine G.forget (L' := [some (.ref 74), none, none, none]) [1, 2] rfl ?_
    exact tX12_rent_22 E d rr I _ hf hK
  · have hf := ite_f hf c_20
    refine G.iload_n dX12_rent_12 rfl rfl ?_
    refine G.i2l dX12_rent_13 ?_
    refine G.lconst (v := 0) dX12_rent_14 (by decide) ?_
    refine G.lconst (v := 1) dX12_rent_15 (by decide) ?_
    obtain ⟨v_7, hc_6, hf⟩ := bnd_at hf
    refine G.callSi (av := [.long (Int32.toInt64 x2), .long (0 : Int64), .long (1 : Int64)]) (rest := []) dX12_rent_16 msX12_49 (gX12_in E d (Int32.toInt64 x2) (0 : Int64) (1 : Int64) I hc_6) rfl rfl (Nat.le_of_ble_eq_true rfl) ?_
    refine G.if_ne (tgt := 29) dX12_rent_19 (by decide) (fun c_19 => ?_) (fun c_19 => ?_)
    · have hf := ite_f hf c_19
      refine G.aload_n dX12_rent_29 rfl rfl ?_
      refine G.getR (q := 75) dX12_rent_30 flX12_7 (by decide) rfl rfl ?_
      refine G.iconst (v := 2) dX12_rent_33 (by decide) ?_
      obtain ⟨hi_8, hf⟩ := chk_at hf
      refine G.iald' dX12_rent_34 (by decide) rfl rfl hi_8 ?_
      refine G.iload_n dX12_rent_35 rfl rfl ?_
      refine G.iadd dX12_rent_36 ?_
      refine G.iconst (v := 1) dX12_rent_37 (by decide) ?_
      refine G.iadd dX12_rent_38 ?_
      refine G.iconst (v := 2) dX12_rent_39 (by decide) ?_
      refine G.idiv dX12_rent_40 (by decide) ?_
      refine G.aload_n dX12_rent_41 rfl rfl ?_
      refine G.getR (q := 75) dX12_rent_42 flX12_7 (by decide) rfl rfl ?_
      refine G.iconst (v := 2) dX12_rent_45 (by decide) ?_
      obtain ⟨hi_9, hf⟩ := chk_at hf
      refine G.iald' dX12_rent_46 (by decide) rfl rfl hi_9 ?_
      refine G.iconst (v := 1) dX12_rent_47 (by decide) ?_
      refine G.iadd dX12_rent_48 ?_
      refine G.iconst (v := 2) dX12_rent_49 (by decide) ?_
      refine G.idiv dX12_rent_50 (by decide) ?_
      refine G.isub dX12_rent_51 ?_
      refine G.nmi (fun x3_10 e_x3_10 => ?_)
      have hf := letb_at hf e_x3_10
      clear e_x3_10
      refine G.istore_n (L' := [some (.ref 74), some (.int x1), some (.int x2), some (.int x3_10)]) dX12_rent_52 rfl (Nat.le_of_ble_eq_true rfl) (Nat.le_of_ble_eq_true rfl) rfl rfl ?_
      refine G.aload_n dX12_rent_53 rfl rfl ?_
      refine G.getR (q := 75) dX12_rent_54 flX12_7 (by decide) rfl rfl ?_
      refine G.iconst (v := 1) dX12_rent_57 (by decide) ?_
      obtain ⟨hi_11, hf⟩ := chk_at hf
      refine G.iald' dX12_rent_58 (by decide) rfl rfl hi_11 ?_
      refine G.iconst (v := 1) dX12_rent_59 (by decide) ?_
      refine G.icmp_ne (tgt := 67) dX12_rent_60 (by decide) (fun c_18 => ?_) (fun c_18 => ?_)
      · have hf := ite_f hf c_18
        refine G.aload_n dX12_rent_67 rfl rfl ?_
        refine G.getR (q := 75) dX12_rent_68 flX12_7 (by decide) rfl rfl ?_
        refine G.iconst (v := 1) dX12_rent_71 (by decide) ?_
        obtain ⟨hi_12, hf⟩ := chk_at hf
        refine G.iald' dX12_rent_72 (by decide) rfl rfl hi_12 ?_
        refine G.iconst (v := 3) dX12_rent_73 (by decide) ?_
        refine G.icmp_ne (tgt := 81) dX12_rent_74 (by decide) (fun c_17 => ?_) (fun c_17 => ?_)
        · have hf := ite_f hf c_17
          refine G.aload_n dX12_rent_81 rfl rfl ?_
          refine G.getR (q := 75) dX12_rent_82 flX12_7 (by decide) rfl rfl ?_
          refine G.iconst (v := 1) dX12_rent_85 (by decide) ?_
          obtain ⟨hi_13, hf⟩ := chk_at hf
          refine G.iald' dX12_rent_86 (by decide) rfl rfl hi_13 ?_
          refine G.iconst (v := 4) dX12_rent_87 (by decide) ?_
          refine G.icmp_eq (tgt := 100) dX12_rent_88 (by decide) (fun c_16 => ?_) (fun c_16 => ?_)
          · have hf := ite_t hf c_16
            refine G.iconst (v := 0) dX12_rent_100 (by decide) ?_
            refine G.goto (tgt := 105) dX12_rent_101 (by decide) ?_
            have hf := Option.some.inj hf
            subst hf
            exact G.iret' dX12_rent_105 rfl hK
          · have hf := ite_f hf c_16
            refine G.iload_n dX12_rent_91 rfl rfl ?_
            refine G.iconst (v := 1) dX12_rent_92 (by decide) ?_
            refine G.icmp_eq (tgt := 100) dX12_rent_93 (by decide) (fun c_15 => ?_) (fun c_15 => ?_)
            · have hf := ite_t hf c_15
              refine G.iconst (v := 0) dX12_rent_100 (by decide) ?_
              refine G.goto (tgt := 105) dX12_rent_101 (by decide) ?_
              have hf := Option.some.inj hf
              subst hf
              exact G.iret' dX12_rent_105 rfl hK
            · have hf := ite_f hf c_15
              refine G.iload_n dX12_rent_96 rfl rfl ?_
              refine G.if_ne (tgt := 104) dX12_rent_97 (by decide) (fun c_14 => ?_) (fun c_14 => ?_)
              · have hf := ite_f hf c_14
                refine G.iconst (v := 1) dX12_rent_104 (by decide) ?_
                have hf := Option.some.inj hf
                subst hf
                exact G.iret' dX12_rent_105 rfl hK
              · have hf := ite_t hf c_14
                refine G.iconst (v := 0) dX12_rent_100 (by decide) ?_
                refine G.goto (tgt := 105) dX12_rent_101 (by decide) ?_
                have hf := Option.some.inj hf
                subst hf
                exact G.iret' dX12_rent_105 rfl hK
        · have hf := ite_t hf c_17
          refine G.iload_n dX12_rent_77 rfl rfl ?_
          refine G.goto (tgt := 105) dX12_rent_78 (by decide) ?_
          have hf := Option.some.inj hf
          subst hf
          exact G.iret' dX12_rent_105 rfl hK
      · have hf := ite_t hf c_18
        refine G.iload_n dX12_rent_63 rfl rfl ?_
        refine G.goto (tgt := 105) dX12_rent_64 (by decide) ?_
        have hf := Option.some.inj hf
        subst hf
        exact G.iret' dX12_rent_105 rfl hK
    · have hf := ite_t hf c_19
      refine G.forget (L' := [some (.ref 74), none, none, none]) [1, 2] rfl ?_
      exact tX12_rent_22 E d rr I _ hf hK
theorem dX12_drawn_0 : decode cX12_drawn 0 = .ok (.iload_n 1, 1) := by decide +kernel
theorem dX12_drawn_1 : decode cX12_drawn 1 = .ok (.i2l, 1) := by decide +kernel
theorem dX12_drawn_2 : decode cX12_drawn 2 = .ok (.lconst 0, 1) := by decide +kernel
theorem dX12_drawn_3 : decode cX12_drawn 3 = .ok (.ldc2_w 238, 3) := by decide +kernel
theorem dX12_drawn_6 : decode cX12_drawn 6 = .ok (.invokestatic 49, 3) := by decide +kernel
theorem dX12_drawn_9 : decode cX12_drawn 9 = .ok (.ifCond .eq 25, 3) := by decide +kernel
theorem dX12_drawn_12 : decode cX12_drawn 12 = .ok (.iload_n 2, 1) := by decide +kernel
theorem dX12_drawn_13 : decode cX12_drawn 13 = .ok (.i2l, 1) := by decide +kernel
theorem dX12_drawn_14 : decode cX12_drawn 14 = .ok (.lconst 0, 1) := by decide +kernel
theorem dX12_drawn_15 : decode cX12_drawn 15 = .ok (.ldc2_w 240, 3) := by decide +kernel
theorem dX12_drawn_18 : decode cX12_drawn 18 = .ok (.invokestatic 49, 3) := by decide +kernel
theorem dX12_drawn_21 : decode cX12_drawn 21 = .ok (.ifCond .eq 13, 3) := by decide +kernel
theorem dX12_drawn_24 : decode cX12_drawn 24 = .ok (.iload_n 3, 1) := by decide +kernel
theorem dX12_drawn_25 : decode cX12_drawn 25 = .ok (.i2l, 1) := by decide +kernel
theorem dX12_drawn_26 : decode cX12_drawn 26 = .ok (.lconst 0, 1) := by decide +kernel
theorem dX12_drawn_27 : decode cX12_drawn 27 = .ok (.lconst 1, 1) := by decide +kernel
theorem dX12_drawn_28 : decode cX12_drawn 28 = .ok (.invokestatic 49, 3) := by decide +kernel
theorem dX12_drawn_31 : decode cX12_drawn 31 = .ok (.ifCond .ne 10, 3) := by decide +kernel
theorem dX12_drawn_34 : decode cX12_drawn 34 = .ok (.aload_n 0, 1) := by decide +kernel
theorem dX12_drawn_35 : decode cX12_drawn 35 = .ok (.bipush (-2), 2) := by decide +kernel
theorem dX12_drawn_37 : decode cX12_drawn 37 = .ok (.invokevirtual 59, 3) := by decide +kernel
theorem dX12_drawn_40 : decode cX12_drawn 40 = .ok (.ireturn, 1) := by decide +kernel
theorem dX12_drawn_41 : decode cX12_drawn 41 = .ok (.iload_n 1, 1) := by decide +kernel
theorem dX12_drawn_42 : decode cX12_drawn 42 = .ok (.i2l, 1) := by decide +kernel
theorem dX12_drawn_43 : decode cX12_drawn 43 = .ok (.lstore 4, 2) := by decide +kernel
theorem dX12_drawn_45 : decode cX12_drawn 45 = .ok (.aload_n 0, 1) := by decide +kernel
theorem dX12_drawn_46 : decode cX12_drawn 46 = .ok (.invokevirtual 173, 3) := by decide +kernel
theorem dX12_drawn_49 : decode cX12_drawn 49 = .ok (.istore 6, 2) := by decide +kernel
theorem dX12_drawn_51 : decode cX12_drawn 51 = .ok (.iconst 0, 1) := by decide +kernel
theorem dX12_drawn_52 : decode cX12_drawn 52 = .ok (.istore 7, 2) := by decide +kernel
theorem dX12_drawn_54 : decode cX12_drawn 54 = .ok (.iconst 1, 1) := by decide +kernel
theorem dX12_drawn_55 : decode cX12_drawn 55 = .ok (.istore 8, 2) := by decide +kernel
theorem dX12_drawn_57 : decode cX12_drawn 57 = .ok (.iload 8, 2) := by decide +kernel
theorem dX12_drawn_59 : decode cX12_drawn 59 = .ok (.iload_n 2, 1) := by decide +kernel
theorem dX12_drawn_60 : decode cX12_drawn 60 = .ok (.if_icmp .gt 177, 3) := by decide +kernel
theorem dX12_drawn_63 : decode cX12_drawn 63 = .ok (.iconst 0, 1) := by decide +kernel
theorem dX12_drawn_64 : decode cX12_drawn 64 = .ok (.istore 9, 2) := by decide +kernel
theorem dX12_drawn_66 : decode cX12_drawn 66 = .ok (.iconst 0, 1) := by decide +kernel
theorem dX12_drawn_67 : decode cX12_drawn 67 = .ok (.istore 10, 2) := by decide +kernel
theorem dX12_drawn_69 : decode cX12_drawn 69 = .ok (.iload 10, 2) := by decide +kernel
theorem dX12_drawn_71 : decode cX12_drawn 71 = .ok (.aload_n 0, 1) := by decide +kernel
theorem dX12_drawn_72 : decode cX12_drawn 72 = .ok (.getfield 7, 3) := by decide +kernel
theorem dX12_drawn_75 : decode cX12_drawn 75 = .ok (.iconst 3, 1) := by decide +kernel
theorem dX12_drawn_76 : decode cX12_drawn 76 = .ok (.iaload, 1) := by decide +kernel
theorem dX12_drawn_77 : decode cX12_drawn 77 = .ok (.if_icmp .ge 122, 3) := by decide +kernel
theorem dX12_drawn_80 : decode cX12_drawn 80 = .ok (.lload 4, 2) := by decide +kernel
theorem dX12_drawn_82 : decode cX12_drawn 82 = .ok (.ldc2_w 242, 3) := by decide +kernel
theorem dX12_drawn_85 : decode cX12_drawn 85 = .ok (.lmul, 1) := by decide +kernel
theorem dX12_drawn_86 : decode cX12_drawn 86 = .ok (.ldc2_w 244, 3) := by decide +kernel
theorem dX12_drawn_89 : decode cX12_drawn 89 = .ok (.ladd, 1) := by decide +kernel
theorem dX12_drawn_90 : decode cX12_drawn 90 = .ok (.ldc2_w 246, 3) := by decide +kernel
theorem dX12_drawn_93 : decode cX12_drawn 93 = .ok (.lrem, 1) := by decide +kernel
theorem dX12_drawn_94 : decode cX12_drawn 94 = .ok (.lstore 4, 2) := by decide +kernel
theorem dX12_drawn_96 : decode cX12_drawn 96 = .ok (.aload_n 0, 1) := by decide +kernel
theorem dX12_drawn_97 : decode cX12_drawn 97 = .ok (.getfield 7, 3) := by decide +kernel
theorem dX12_drawn_100 : decode cX12_drawn 100 = .ok (.iconst 5, 1) := by decide +kernel
theorem dX12_drawn_101 : decode cX12_drawn 101 = .ok (.iload 6, 2) := by decide +kernel
theorem dX12_drawn_103 : decode cX12_drawn 103 = .ok (.iload 10, 2) := by decide +kernel
theorem dX12_drawn_105 : decode cX12_drawn 105 = .ok (.invokestatic 151, 3) := by decide +kernel
theorem dX12_drawn_108 : decode cX12_drawn 108 = .ok (.iadd, 1) := by decide +kernel
theorem dX12_drawn_109 : decode cX12_drawn 109 = .ok (.iaload, 1) := by decide +kernel
theorem dX12_drawn_110 : decode cX12_drawn 110 = .ok (.iconst 1, 1) := by decide +kernel
theorem dX12_drawn_111 : decode cX12_drawn 111 = .ok (.iload 6, 2) := by decide +kernel
theorem dX12_drawn_113 : decode cX12_drawn 113 = .ok (.iload 10, 2) := by decide +kernel
theorem dX12_drawn_115 : decode cX12_drawn 115 = .ok (.invokestatic 151, 3) := by decide +kernel
theorem dX12_drawn_118 : decode cX12_drawn 118 = .ok (.ishl, 1) := by decide +kernel
theorem dX12_drawn_119 : decode cX12_drawn 119 = .ok (.ior, 1) := by decide +kernel
theorem dX12_drawn_120 : decode cX12_drawn 120 = .ok (.istore 11, 2) := by decide +kernel
theorem dX12_drawn_122 : decode cX12_drawn 122 = .ok (.lload 4, 2) := by decide +kernel
theorem dX12_drawn_124 : decode cX12_drawn 124 = .ok (.ldc2_w 248, 3) := by decide +kernel
theorem dX12_drawn_127 : decode cX12_drawn 127 = .ok (.ldiv, 1) := by decide +kernel
theorem dX12_drawn_128 : decode cX12_drawn 128 = .ok (.l2i, 1) := by decide +kernel
theorem dX12_drawn_129 : decode cX12_drawn 129 = .ok (.iload 11, 2) := by decide +kernel
theorem dX12_drawn_131 : decode cX12_drawn 131 = .ok (.invokestatic 250, 3) := by decide +kernel
theorem dX12_drawn_134 : decode cX12_drawn 134 = .ok (.irem, 1) := by decide +kernel
theorem dX12_drawn_135 : decode cX12_drawn 135 = .ok (.istore 12, 2) := by decide +kernel
theorem dX12_drawn_137 : decode cX12_drawn 137 = .ok (.iconst 0, 1) := by decide +kernel
theorem dX12_drawn_138 : decode cX12_drawn 138 = .ok (.istore 13, 2) := by decide +kernel
theorem dX12_drawn_140 : decode cX12_drawn 140 = .ok (.iload 11, 2) := by decide +kernel
theorem dX12_drawn_142 : decode cX12_drawn 142 = .ok (.iload 13, 2) := by decide +kernel
theorem dX12_drawn_144 : decode cX12_drawn 144 = .ok (.invokestatic 67, 3) := by decide +kernel
theorem dX12_drawn_147 : decode cX12_drawn 147 = .ok (.ifCond .eq 8, 3) := by decide +kernel
theorem dX12_drawn_150 : decode cX12_drawn 150 = .ok (.iload 12, 2) := by decide +kernel
theorem dX12_drawn_152 : decode cX12_drawn 152 = .ok (.ifCond .le 29, 3) := by decide +kernel
theorem dX12_drawn_155 : decode cX12_drawn 155 = .ok (.iload 12, 2) := by decide +kernel
theorem dX12_drawn_157 : decode cX12_drawn 157 = .ok (.iload 11, 2) := by decide +kernel
theorem dX12_drawn_159 : decode cX12_drawn 159 = .ok (.iload 13, 2) := by decide +kernel
theorem dX12_drawn_161 : decode cX12_drawn 161 = .ok (.invokestatic 67, 3) := by decide +kernel
theorem dX12_drawn_164 : decode cX12_drawn 164 = .ok (.ifCond .eq 7, 3) := by decide +kernel
theorem dX12_drawn_167 : decode cX12_drawn 167 = .ok (.iconst 1, 1) := by decide +kernel
theorem dX12_drawn_168 : decode cX12_drawn 168 = .ok (.goto 4, 3) := by decide +kernel
theorem dX12_drawn_171 : decode cX12_drawn 171 = .ok (.iconst 0, 1) := by decide +kernel
theorem dX12_drawn_172 : decode cX12_drawn 172 = .ok (.isub, 1) := by decide +kernel
theorem dX12_drawn_173 : decode cX12_drawn 173 = .ok (.istore 12, 2) := by decide +kernel
theorem dX12_drawn_175 : decode cX12_drawn 175 = .ok (.iinc 13 1, 3) := by decide +kernel
theorem dX12_drawn_178 : decode cX12_drawn 178 = .ok (.goto (-38), 3) := by decide +kernel
theorem dX12_drawn_181 : decode cX12_drawn 181 = .ok (.iload 9, 2) := by decide +kernel
theorem dX12_drawn_183 : decode cX12_drawn 183 = .ok (.iload 13, 2) := by decide +kernel
theorem dX12_drawn_185 : decode cX12_drawn 185 = .ok (.iconst 3, 1) := by decide +kernel
theorem dX12_drawn_186 : decode cX12_drawn 186 = .ok (.iload 10, 2) := by decide +kernel
theorem dX12_drawn_188 : decode cX12_drawn 188 = .ok (.imul, 1) := by decide +kernel
theorem dX12_drawn_189 : decode cX12_drawn 189 = .ok (.ishl, 1) := by decide +kernel
theorem dX12_drawn_190 : decode cX12_drawn 190 = .ok (.ior, 1) := by decide +kernel
theorem dX12_drawn_191 : decode cX12_drawn 191 = .ok (.istore 9, 2) := by decide +kernel
theorem dX12_drawn_193 : decode cX12_drawn 193 = .ok (.iinc 10 1, 3) := by decide +kernel
theorem dX12_drawn_196 : decode cX12_drawn 196 = .ok (.goto (-127), 3) := by decide +kernel
theorem dX12_drawn_199 : decode cX12_drawn 199 = .ok (.iload 7, 2) := by decide +kernel
theorem dX12_drawn_201 : decode cX12_drawn 201 = .ok (.aload_n 0, 1) := by decide +kernel
theorem dX12_drawn_202 : decode cX12_drawn 202 = .ok (.aload_n 0, 1) := by decide +kernel
theorem dX12_drawn_203 : decode cX12_drawn 203 = .ok (.getfield 7, 3) := by decide +kernel
theorem dX12_drawn_206 : decode cX12_drawn 206 = .ok (.iconst 1, 1) := by decide +kernel
theorem dX12_drawn_207 : decode cX12_drawn 207 = .ok (.iaload, 1) := by decide +kernel
theorem dX12_drawn_208 : decode cX12_drawn 208 = .ok (.aload_n 0, 1) := by decide +kernel
theorem dX12_drawn_209 : decode cX12_drawn 209 = .ok (.getfield 7, 3) := by decide +kernel
theorem dX12_drawn_212 : decode cX12_drawn 212 = .ok (.iconst 2, 1) := by decide +kernel
theorem dX12_drawn_213 : decode cX12_drawn 213 = .ok (.iaload, 1) := by decide +kernel
theorem dX12_drawn_214 : decode cX12_drawn 214 = .ok (.iload 8, 2) := by decide +kernel
theorem dX12_drawn_216 : decode cX12_drawn 216 = .ok (.iadd, 1) := by decide +kernel
theorem dX12_drawn_217 : decode cX12_drawn 217 = .ok (.iload 6, 2) := by decide +kernel
theorem dX12_drawn_219 : decode cX12_drawn 219 = .ok (.iload 9, 2) := by decide +kernel
theorem dX12_drawn_221 : decode cX12_drawn 221 = .ok (.invokevirtual 189, 3) := by decide +kernel
theorem dX12_drawn_224 : decode cX12_drawn 224 = .ok (.iadd, 1) := by decide +kernel
theorem dX12_drawn_225 : decode cX12_drawn 225 = .ok (.istore 7, 2) := by decide +kernel
theorem dX12_drawn_227 : decode cX12_drawn 227 = .ok (.iload 9, 2) := by decide +kernel
theorem dX12_drawn_229 : decode cX12_drawn 229 = .ok (.istore 6, 2) := by decide +kernel
theorem dX12_drawn_231 : decode cX12_drawn 231 = .ok (.iinc 8 1, 3) := by decide +kernel
theorem dX12_drawn_234 : decode cX12_drawn 234 = .ok (.goto (-177), 3) := by decide +kernel
theorem dX12_drawn_237 : decode cX12_drawn 237 = .ok (.iconst 0, 1) := by decide +kernel
theorem dX12_drawn_238 : decode cX12_drawn 238 = .ok (.istore 8, 2) := by decide +kernel
theorem dX12_drawn_240 : decode cX12_drawn 240 = .ok (.iconst 0, 1) := by decide +kernel
theorem dX12_drawn_241 : decode cX12_drawn 241 = .ok (.istore 9, 2) := by decide +kernel
theorem dX12_drawn_243 : decode cX12_drawn 243 = .ok (.iload 9, 2) := by decide +kernel
theorem dX12_drawn_245 : decode cX12_drawn 245 = .ok (.aload_n 0, 1) := by decide +kernel
theorem dX12_drawn_246 : decode cX12_drawn 246 = .ok (.getfield 7, 3) := by decide +kernel
theorem dX12_drawn_249 : decode cX12_drawn 249 = .ok (.iconst 3, 1) := by decide +kernel
theorem dX12_drawn_250 : decode cX12_drawn 250 = .ok (.iaload, 1) := by decide +kernel
theorem dX12_drawn_251 : decode cX12_drawn 251 = .ok (.if_icmp .ge 23, 3) := by decide +kernel
theorem dX12_drawn_254 : decode cX12_drawn 254 = .ok (.iload 8, 2) := by decide +kernel
theorem dX12_drawn_256 : decode cX12_drawn 256 = .ok (.iconst 1, 1) := by decide +kernel
theorem dX12_drawn_257 : decode cX12_drawn 257 = .ok (.iload 6, 2) := by decide +kernel
theorem dX12_drawn_259 : decode cX12_drawn 259 = .ok (.iload 9, 2) := by decide +kernel
theorem dX12_drawn_261 : decode cX12_drawn 261 = .ok (.invokestatic 151, 3) := by decide +kernel
theorem dX12_drawn_264 : decode cX12_drawn 264 = .ok (.ishl, 1) := by decide +kernel
theorem dX12_drawn_265 : decode cX12_drawn 265 = .ok (.ior, 1) := by decide +kernel
theorem dX12_drawn_266 : decode cX12_drawn 266 = .ok (.istore 8, 2) := by decide +kernel
theorem dX12_drawn_268 : decode cX12_drawn 268 = .ok (.iinc 9 1, 3) := by decide +kernel
theorem dX12_drawn_271 : decode cX12_drawn 271 = .ok (.goto (-28), 3) := by decide +kernel
theorem dX12_drawn_274 : decode cX12_drawn 274 = .ok (.iload_n 3, 1) := by decide +kernel
theorem dX12_drawn_275 : decode cX12_drawn 275 = .ok (.ifCond .ne 8, 3) := by decide +kernel
theorem dX12_drawn_278 : decode cX12_drawn 278 = .ok (.iload 7, 2) := by decide +kernel
theorem dX12_drawn_280 : decode cX12_drawn 280 = .ok (.goto 8, 3) := by decide +kernel
theorem dX12_drawn_283 : decode cX12_drawn 283 = .ok (.iload 8, 2) := by decide +kernel
theorem dX12_drawn_285 : decode cX12_drawn 285 = .ok (.invokestatic 250, 3) := by decide +kernel
theorem dX12_drawn_288 : decode cX12_drawn 288 = .ok (.ireturn, 1) := by decide +kernel
def jX12_drawn_34 (I : Mem) : Option (Int32 × Mem) :=
  bnd2 (fX12_bad (-2 : Int32) I) fun v_4 I_5 =>
  some (v_4, I_5)
set_option maxRecDepth 20000 in
theorem tX12_drawn_34 (E : EV) (d : Nat) (rr : Option Value × Mem) (I : Mem) (y : (Int32 × Mem)) (hf : jX12_drawn_34 I = some y) (hK : (fun (z : Int32 × Mem) => (some (.int z.1), z.2) = rr) y) : G E (d + 4) kX12_drawn 34 [some (.ref 74), none, none, none, none, none, none, none, none, none, none, none, none, none] [] I rr := by
  unfold jX12_drawn_34 at hf
  refine G.aload_n dX12_drawn_34 rfl rfl ?_
  refine G.bipush (v := -2) dX12_drawn_35 (by decide) ?_
  obtain ⟨v_4, I_5, hc_3, hf⟩ := bnd2_at hf
  refine G.callVi (av := [.int (-2 : Int32)]) (rest := []) dX12_drawn_37 mvX12_59 (gX12_bad E (d + 3) (-2 : Int32) I hc_3) (by decide) rfl rfl rfl (Nat.le_of_ble_eq_true rfl) ?_
  have hf := Option.some.inj hf
  subst hf
  exact G.iret' dX12_drawn_40 rfl hK
def KX12_drawn_57 (E : EV) (d : Nat) (rr : Option Value × Mem) (x2 : Int32) (x3 : Int32) (I : Mem) (Kp : (Int32 × Mem) → Prop) : ((Int64 × Int32 × Int32 × Int32) ⊕ (Int32 × Mem)) → Prop
  | .inl q => G E (d + 4) kX12_drawn 57 [some (.ref 74), none, some (.int x2), some (.int x3), some (.long q.1), none, some (.int q.2.1), some (.int q.2.2.1), some (.int q.2.2.2), none, none, none, none, none] [] I rr
  | .inr z => Kp z
def KX12_drawn_243 (E : EV) (d : Nat) (rr : Option Value × Mem) (x3 : Int32) (x6 : Int32) (x7 : Int32) (I : Mem) (Kp : (Int32 × Mem) → Prop) : ((Int32 × Int32) ⊕ (Int32 × Mem)) → Prop
  | .inl q => G E (d + 4) kX12_drawn 243 [some (.ref 74), none, none, some (.int x3), none, none, some (.int x6), some (.int x7), some (.int q.1), some (.int q.2), none, none, none, none] [] I rr
  | .inr z => Kp z
def bX12_drawn_243 (x3 : Int32) (x6 : Int32) (x7 : Int32) (I : Mem) (x8 : Int32) (x9 : Int32) : Option ((Int32 × Int32) ⊕ (Int32 × Mem)) :=
  chk (inb (3 : Int32) 632) <|
  if (I 75 (ix (3 : Int32))) ≤ x9 then
  (if x3 = 0 then
  (some (.inr (x7, I)))
  else
  (bnd (fX12_bits x8 I) fun v_15 =>
  some (.inr (v_15, I))))
  else
  (bnd (fX12_roomIn x6 x9 I) fun v_18 =>
  letb (x8 ||| ((1 : Int32) <<< (v_18 &&& 31))) fun x8_19 =>
  some (.inl (x8_19, (x9 + (1 : Int32)))))
def sX12_drawn_243 (x3 : Int32) (x6 : Int32) (x7 : Int32) (I : Mem) (q : (Int32 × Int32)) : Option ((Int32 × Int32) ⊕ (Int32 × Mem)) := bX12_drawn_243 x3 x6 x7 I q.1 q.2
set_option maxRecDepth 20000 in
theorem wX12_drawn_243 (E : EV) (d : Nat) (rr : Option Value × Mem) (x3 : Int32) (x6 : Int32) (x7 : Int32) (I : Mem) (x8 : Int32) (x9 : Int32) (y : ((Int32 × Int32) ⊕ (Int32 × Mem))) (hf : bX12_drawn_243 x3 x6 x7 I x8 x9 = some y) (hK : (KX12_drawn_243 E d rr x3 x6 x7 I (fun (z : Int32 × Mem) => (some (.int z.1), z.2) = rr)) y) : G E (d + 4) kX12_drawn 243 [some (.ref 74), none, none, some (.int x3), none, none, some (.int x6), some (.int x7), some (.int x8), some (.int x9), none, none, none, none] [] I rr := by
  unfold bX12_drawn_243 at hf
  refine G.iload dX12_drawn_243 rfl ?_
  refine G.aload_n dX12_drawn_245 rfl rfl ?_
  refine G.getR (q := 75) dX12_drawn_246 flX12_7 (by decide) rfl rfl ?_
  refine G.iconst (v := 3) dX12_drawn_249 (by decide) ?_
  obtain ⟨hi_13, hf⟩ := chk_at hf
  refine G.iald' dX12_drawn_250 (by decide) rfl rfl hi_13 ?_
  refine G.icmp_ge (tgt := 274) dX12_drawn_251 (by decide) (fun c_20 => ?_) (fun c_20 => ?_)
  · have hf := ite_t hf c_20
    refine G.iload_n dX12_drawn_274 rfl rfl ?_
    refine G.if_ne (tgt := 283) dX12_drawn_275 (by decide) (fun c_16 => ?_) (fun c_16 => ?_)
    · have hf := ite_f hf c_16
      refine G.iload dX12_drawn_283 rfl ?_
      obtain ⟨v_15, hc_14, hf⟩ := bnd_at hf
      refine G.callSi (av := [.int x8]) (rest := []) dX12_drawn_285 msX12_250 (gX12_bits E (d + 3) x8 I hc_14) rfl rfl (Nat.le_of_ble_eq_true rfl) ?_
      have hf := Option.some.inj hf
      subst hf
      exact G.iret' dX12_drawn_288 rfl hK
    · have hf := ite_t hf c_16
      refine G.iload dX12_drawn_278 rfl ?_
      refine G.goto (tgt := 288) dX12_drawn_280 (by decide) ?_
      have hf := Option.some.inj hf
      subst hf
      exact G.iret' dX12_drawn_288 rfl hK
  · have hf := ite_f hf c_20
    refine G.iload dX12_drawn_254 rfl ?_
    refine G.iconst (v := 1) dX12_drawn_256 (by decide) ?_
    refine G.iload dX12_drawn_257 rfl ?_
    refine G.iload dX12_drawn_259 rfl ?_
    obtain ⟨v_18, hc_17, hf⟩ := bnd_at hf
    refine G.callSi (av := [.int x6, .int x9]) (rest := [.int (1 : Int32), .int x8]) dX12_drawn_261 msX12_151 (gX12_roomIn E (d + 3) x6 x9 I hc_17) rfl rfl (Nat.le_of_ble_eq_true rfl) ?_
    refine G.ishl dX12_drawn_264 ?_
    refine G.ior dX12_drawn_265 ?_
    refine G.nmi (fun x8_19 e_x8_19 => ?_)
    have hf := letb_at hf e_x8_19
    clear e_x8_19
    refine G.istore (L' := [some (.ref 74), none, none, some (.int x3), none, none, some (.int x6), some (.int x7), some (.int x8_19), some (.int x9), none, none, none, none]) dX12_drawn_266 (Nat.le_of_ble_eq_true rfl) (Nat.le_of_ble_eq_true rfl) rfl rfl ?_
    refine G.inc (w := 1) (L' := [some (.ref 74), none, none, some (.int x3), none, none, some (.int x6), some (.int x7), some (.int x8_19), some (.int (x9 + (1 : Int32))), none, none, none, none]) dX12_drawn_268 (by decide) rfl (Nat.le_of_ble_eq_true rfl) rfl rfl ?_
    refine G.goto (tgt := 243) dX12_drawn_271 (by decide) ?_
    have hf := Option.some.inj hf
    subst hf
    exact hK
theorem lX12_drawn_243 (E : EV) (d : Nat) (rr : Option Value × Mem) (x3 : Int32) (x6 : Int32) (x7 : Int32) (I : Mem) (z : (Int32 × Mem)) (hK : (fun (z : Int32 × Mem) => (some (.int z.1), z.2) = rr) z) : ∀ (n : Nat) (q : (Int32 × Int32)), iter (sX12_drawn_243 x3 x6 x7 I) n q = some z → G E (d + 4) kX12_drawn 243 [some (.ref 74), none, none, some (.int x3), none, none, some (.int x6), some (.int x7), some (.int q.1), some (.int q.2), none, none, none, none] [] I rr := by
  intro n
  induction n with
  | zero => intro q h; cases h
  | succ n ih =>
    intro q h
    rcases iter_at h with ⟨q2, hs, h2⟩ | hs
    · exact wX12_drawn_243 E d rr x3 x6 x7 I q.1 q.2 _ hs (ih q2 h2)
    · exact wX12_drawn_243 E d rr x3 x6 x7 I q.1 q.2 _ hs hK
def KX12_drawn_69 (E : EV) (d : Nat) (rr : Option Value × Mem) (x2 : Int32) (x3 : Int32) (x6 : Int32) (x7 : Int32) (x8 : Int32) (I : Mem) (Kp : ((Int64 × Int32 × Int32 × Int32) ⊕ (Int32 × Mem)) → Prop) : ((Int64 × Int32 × Int32) ⊕ ((Int64 × Int32 × Int32 × Int32) ⊕ (Int32 × Mem))) → Prop
  | .inl q => G E (d + 4) kX12_drawn 69 [some (.ref 74), none, some (.int x2), some (.int x3), some (.long q.1), none, some (.int x6), some (.int x7), some (.int x8), some (.int q.2.1), some (.int q.2.2), none, none, none] [] I rr
  | .inr z => Kp z
def KX12_drawn_140 (E : EV) (d : Nat) (rr : Option Value × Mem) (x2 : Int32) (x3 : Int32) (l4 : Int64) (x6 : Int32) (x7 : Int32) (x8 : Int32) (x9 : Int32) (x10 : Int32) (x11 : Int32) (I : Mem) (Kp : ((Int64 × Int32 × Int32) ⊕ ((Int64 × Int32 × Int32 × Int32) ⊕ (Int32 × Mem))) → Prop) : ((Int32 × Int32) ⊕ ((Int64 × Int32 × Int32) ⊕ ((Int64 × Int32 × Int32 × Int32) ⊕ (Int32 × Mem)))) → Prop
  | .inl q => G E (d + 4) kX12_drawn 140 [some (.ref 74), none, some (.int x2), some (.int x3), some (.long l4), none, some (.int x6), some (.int x7), some (.int x8), some (.int x9), some (.int x10), some (.int x11), some (.int q.1), some (.int q.2)] [] I rr
  | .inr z => Kp z
def jX12_drawn_155 (x2 : Int32) (x3 : Int32) (l4 : Int64) (x6 : Int32) (x7 : Int32) (x8 : Int32) (x9 : Int32) (x10 : Int32) (x11 : Int32) (x12 : Int32) (x13 : Int32) (I : Mem) : Option ((Int32 × Int32) ⊕ ((Int64 × Int32 × Int32) ⊕ ((Int64 × Int32 × Int32 × Int32) ⊕ (Int32 × Mem)))) :=
  bnd (fX12_has x11 x13 I) fun v_42 =>
  if v_42 = 0 then
  (letb (x12 - (0 : Int32)) fun x12_43 =>
  some (.inl (x12_43, (x13 + (1 : Int32)))))
  else
  (letb (x12 - (1 : Int32)) fun x12_44 =>
  some (.inl (x12_44, (x13 + (1 : Int32)))))
set_option maxRecDepth 20000 in
theorem tX12_drawn_155 (E : EV) (d : Nat) (rr : Option Value × Mem) (x2 : Int32) (x3 : Int32) (l4 : Int64) (x6 : Int32) (x7 : Int32) (x8 : Int32) (x9 : Int32) (x10 : Int32) (x11 : Int32) (x12 : Int32) (x13 : Int32) (I : Mem) (y : ((Int32 × Int32) ⊕ ((Int64 × Int32 × Int32) ⊕ ((Int64 × Int32 × Int32 × Int32) ⊕ (Int32 × Mem))))) (hf : jX12_drawn_155 x2 x3 l4 x6 x7 x8 x9 x10 x11 x12 x13 I = some y) (hK : (KX12_drawn_140 E d rr x2 x3 l4 x6 x7 x8 x9 x10 x11 I (KX12_drawn_69 E d rr x2 x3 x6 x7 x8 I (KX12_drawn_57 E d rr x2 x3 I (fun (z : Int32 × Mem) => (some (.int z.1), z.2) = rr)))) y) : G E (d + 4) kX12_drawn 155 [some (.ref 74), none, some (.int x2), some (.int x3), some (.long l4), none, some (.int x6), some (.int x7), some (.int x8), some (.int x9), some (.int x10), some (.int x11), some (.int x12), some (.int x13)] [] I rr := by
  unfold jX12_drawn_155 at hf
  refine G.iload dX12_drawn_155 rfl ?_
  refine G.iload dX12_drawn_157 rfl ?_
  refine G.iload dX12_drawn_159 rfl ?_
  obtain ⟨v_42, hc_41, hf⟩ := bnd_at hf
  refine G.callSi (av := [.int x11, .int x13]) (rest := [.int x12]) dX12_drawn_161 msX12_67 (gX12_has E (d + 3) x11 x13 I hc_41) rfl rfl (Nat.le_of_ble_eq_true rfl) ?_
  refine G.if_eq (tgt := 171) dX12_drawn_164 (by decide) (fun c_45 => ?_) (fun c_45 => ?_)
  · have hf := ite_t hf c_45
    refine G.iconst (v := 0) dX12_drawn_171 (by decide) ?_
    refine G.isub dX12_drawn_172 ?_
    refine G.nmi (fun x12_43 e_x12_43 => ?_)
    have hf := letb_at hf e_x12_43
    clear e_x12_43
    refine G.istore (L' := [some (.ref 74), none, some (.int x2), some (.int x3), some (.long l4), none, some (.int x6), some (.int x7), some (.int x8), some (.int x9), some (.int x10), some (.int x11), some (.int x12_43), some (.int x13)]) dX12_drawn_173 (Nat.le_of_ble_eq_true rfl) (Nat.le_of_ble_eq_true rfl) rfl rfl ?_
    refine G.inc (w := 1) (L' := [some (.ref 74), none, some (.int x2), some (.int x3), some (.long l4), none, some (.int x6), some (.int x7), some (.int x8), some (.int x9), some (.int x10), some (.int x11), some (.int x12_43), some (.int (x13 + (1 : Int32)))]) dX12_drawn_175 (by decide) rfl (Nat.le_of_ble_eq_true rfl) rfl rfl ?_
    refine G.goto (tgt := 140) dX12_drawn_178 (by decide) ?_
    have hf := Option.some.inj hf
    subst hf
    exact hK
  · have hf := ite_f hf c_45
    refine G.iconst (v := 1) dX12_drawn_167 (by decide) ?_
    refine G.goto (tgt := 172) dX12_drawn_168 (by decide) ?_
    refine G.isub dX12_drawn_172 ?_
    refine G.nmi (fun x12_44 e_x12_44 => ?_)
    have hf := letb_at hf e_x12_44
    clear e_x12_44
    refine G.istore (L' := [some (.ref 74), none, some (.int x2), some (.int x3), some (.long l4), none, some (.int x6), some (.int x7), some (.int x8), some (.int x9), some (.int x10), some (.int x11), some (.int x12_44), some (.int x13)]) dX12_drawn_173 (Nat.le_of_ble_eq_true rfl) (Nat.le_of_ble_eq_true rfl) rfl rfl ?_
    refine G.inc (w := 1) (L' := [some (.ref 74), none, some (.int x2), some (.int x3), some (.long l4), none, some (.int x6), some (.int x7), some (.int x8), some (.int x9), some (.int x10), some (.int x11), some (.int x12_44), some (.int (x13 + (1 : Int32)))]) dX12_drawn_175 (by decide) rfl (Nat.le_of_ble_eq_true rfl) rfl rfl ?_
    refine G.goto (tgt := 140) dX12_drawn_178 (by decide) ?_
    have hf := Option.some.inj hf
    subst hf
    exact hK
def bX12_drawn_140 (x2 : Int32) (x3 : Int32) (l4 : Int64) (x6 : Int32) (x7 : Int32) (x8 : Int32) (x9 : Int32) (x10 : Int32) (x11 : Int32) (I : Mem) (x12 : Int32) (x13 : Int32) : Option ((Int32 × Int32) ⊕ ((Int64 × Int32 × Int32) ⊕ ((Int64 × Int32 × Int32 × Int32) ⊕ (Int32 × Mem)))) :=
  bnd (fX12_has x11 x13 I) fun v_40 =>
  if v_40 = 0 then
  (jX12_drawn_155 x2 x3 l4 x6 x7 x8 x9 x10 x11 x12 x13 I)
  else
  (if x12 ≤ 0 then
  (letb (x9 ||| (x13 <<< (((3 : Int32) * x10) &&& 31))) fun x9_46 =>
  some (.inr (.inl (l4, x9_46, (x10 + (1 : Int32))))))
  else
  (jX12_drawn_155 x2 x3 l4 x6 x7 x8 x9 x10 x11 x12 x13 I))
def sX12_drawn_140 (x2 : Int32) (x3 : Int32) (l4 : Int64) (x6 : Int32) (x7 : Int32) (x8 : Int32) (x9 : Int32) (x10 : Int32) (x11 : Int32) (I : Mem) (q : (Int32 × Int32)) : Option ((Int32 × Int32) ⊕ ((Int64 × Int32 × Int32) ⊕ ((Int64 × Int32 × Int32 × Int32) ⊕ (Int32 × Mem)))) := bX12_drawn_140 x2 x3 l4 x6 x7 x8 x9 x10 x11 I q.1 q.2
set_option maxRecDepth 20000 in
theorem wX12_drawn_140 (E : EV) (d : Nat) (rr : Option Value × Mem) (x2 : Int32) (x3 : Int32) (l4 : Int64) (x6 : Int32) (x7 : Int32) (x8 : Int32) (x9 : Int32) (x10 : Int32) (x11 : Int32) (I : Mem) (x12 : Int32) (x13 : Int32) (y : ((Int32 × Int32) ⊕ ((Int64 × Int32 × Int32) ⊕ ((Int64 × Int32 × Int32 × Int32) ⊕ (Int32 × Mem))))) (hf : bX12_drawn_140 x2 x3 l4 x6 x7 x8 x9 x10 x11 I x12 x13 = some y) (hK : (KX12_drawn_140 E d rr x2 x3 l4 x6 x7 x8 x9 x10 x11 I (KX12_drawn_69 E d rr x2 x3 x6 x7 x8 I (KX12_drawn_57 E d rr x2 x3 I (fun (z : Int32 × Mem) => (some (.int z.1), z.2) = rr)))) y) : G E (d + 4) kX12_drawn 140 [some (.ref 74), none, some (.int x2), some (.int x3), some (.long l4), none, some (.int x6), some (.int x7), some (.int x8), some (.int x9), some (.int x10), some (.int x11), some (.int x12), some (.int x13)] [] I rr := by
  unfold bX12_drawn_140 at hf
  refine G.iload dX12_drawn_140 rfl ?_
  refine G.iload dX12_drawn_142 rfl ?_
  obtain ⟨v_40, hc_39, hf⟩ := bnd_at hf
  refine G.callSi (av := [.int x11, .int x13]) (rest := []) dX12_drawn_144 msX12_67 (gX12_has E (d + 3) x11 x13 I hc_39) rfl rfl (Nat.le_of_ble_eq_true rfl) ?_
  refine G.if_eq (tgt := 155) dX12_drawn_147 (by decide) (fun c_48 => ?_) (fun c_48 => ?_)
  · have hf := ite_t hf c_48
    exact tX12_drawn_155 E d rr x2 x3 l4 x6 x7 x8 x9 x10 x11 x12 x13 I _ hf hK
  · have hf := ite_f hf c_48
    refine G.iload dX12_drawn_150 rfl ?_
    refine G.if_le (tgt := 181) dX12_drawn_152 (by decide) (fun c_47 => ?_) (fun c_47 => ?_)
    · have hf := ite_t hf c_47
      refine G.iload dX12_drawn_181 rfl ?_
      refine G.iload dX12_drawn_183 rfl ?_
      refine G.iconst (v := 3) dX12_drawn_185 (by decide) ?_
      refine G.iload dX12_drawn_186 rfl ?_
      refine G.imul dX12_drawn_188 ?_
      refine G.ishl dX12_drawn_189 ?_
      refine G.ior dX12_drawn_190 ?_
      refine G.nmi (fun x9_46 e_x9_46 => ?_)
      have hf := letb_at hf e_x9_46
      clear e_x9_46
      refine G.istore (L' := [some (.ref 74), none, some (.int x2), some (.int x3), some (.long l4), none, some (.int x6), some (.int x7), some (.int x8), some (.int x9_46), some (.int x10), some (.int x11), some (.int x12), some (.int x13)]) dX12_drawn_191 (Nat.le_of_ble_eq_true rfl) (Nat.le_of_ble_eq_true rfl) rfl rfl ?_
      refine G.inc (w := 1) (L' := [some (.ref 74), none, some (.int x2), some (.int x3), some (.long l4), none, some (.int x6), some (.int x7), some (.int x8), some (.int x9_46), some (.int (x10 + (1 : Int32))), some (.int x11), some (.int x12), some (.int x13)]) dX12_drawn_193 (by decide) rfl (Nat.le_of_ble_eq_true rfl) rfl rfl ?_
      refine G.goto (tgt := 69) dX12_drawn_196 (by decide) ?_
      have hf := Option.some.inj hf
      subst hf
      refine G.forget (L' := [some (.ref 74), none, some (.int x2), some (.int x3), some (.long l4), none, some (.int x6), some (.int x7), some (.int x8), some (.int x9_46), some (.int (x10 + (1 : Int32))), none, none, none]) [11, 12, 13] rfl ?_
      exact hK
    · have hf := ite_f hf c_47
      exact tX12_drawn_155 E d rr x2 x3 l4 x6 x7 x8 x9 x10 x11 x12 x13 I _ hf hK
theorem lX12_drawn_140 (E : EV) (d : Nat) (rr : Option Value × Mem) (x2 : Int32) (x3 : Int32) (l4 : Int64) (x6 : Int32) (x7 : Int32) (x8 : Int32) (x9 : Int32) (x10 : Int32) (x11 : Int32) (I : Mem) (z : ((Int64 × Int32 × Int32) ⊕ ((Int64 × Int32 × Int32 × Int32) ⊕ (Int32 × Mem)))) (hK : (KX12_drawn_69 E d rr x2 x3 x6 x7 x8 I (KX12_drawn_57 E d rr x2 x3 I (fun (z : Int32 × Mem) => (some (.int z.1), z.2) = rr))) z) : ∀ (n : Nat) (q : (Int32 × Int32)), iter (sX12_drawn_140 x2 x3 l4 x6 x7 x8 x9 x10 x11 I) n q = some z → G E (d + 4) kX12_drawn 140 [some (.ref 74), none, some (.int x2), some (.int x3), some (.long l4), none, some (.int x6), some (.int x7), some (.int x8), some (.int x9), some (.int x10), some (.int x11), some (.int q.1), some (.int q.2)] [] I rr := by
  intro n
  induction n with
  | zero => intro q h; cases h
  | succ n ih =>
    intro q h
    rcases iter_at h with ⟨q2, hs, h2⟩ | hs
    · exact wX12_drawn_140 E d rr x2 x3 l4 x6 x7 x8 x9 x10 x11 I q.1 q.2 _ hs (ih q2 h2)
    · exact wX12_drawn_140 E d rr x2 x3 l4 x6 x7 x8 x9 x10 x11 I q.1 q.2 _ hs hK
def bX12_drawn_69 (x2 : Int32) (x3 : Int32) (x6 : Int32) (x7 : Int32) (x8 : Int32) (I : Mem) (l4 : Int64) (x9 : Int32) (x10 : Int32) : Option ((Int64 × Int32 × Int32) ⊕ ((Int64 × Int32 × Int32 × Int32) ⊕ (Int32 × Mem))) :=
  chk (inb (3 : Int32) 632) <|
  if (I 75 (ix (3 : Int32))) ≤ x10 then
  (chk (inb (1 : Int32) 632) <|
  chk (inb (2 : Int32) 632) <|
  bnd (fX12_laid (I 75 (ix (1 : Int32))) ((I 75 (ix (2 : Int32))) + x8) x6 x9 I) fun v_26 =>
  letb (x7 + v_26) fun x7_27 =>
  some (.inr (.inl (l4, x9, x7_27, (x8 + (1 : Int32))))))
  else
  (letb (((l4 * (1103515245 : Int64)) + (12345 : Int64)) - ((l4 * (1103515245 : Int64)) + (12345 : Int64)) / (2147483648 : Int64) * (2147483648 : Int64)) fun l4_28 =>
  bnd (fX12_roomIn x6 x10 I) fun v_30 =>
  chk (inb ((5 : Int32) + v_30) 632) <|
  bnd (fX12_roomIn x6 x10 I) fun v_33 =>
  letb ((I 75 (ix ((5 : Int32) + v_30))) ||| ((1 : Int32) <<< (v_33 &&& 31))) fun x11_34 =>
  bnd (fX12_bits x11_34 I) fun v_36 =>
  chk (decide (¬ v_36 = 0)) <|
  letb ((Int64.toInt32 (l4_28 / (65536 : Int64))) - (Int64.toInt32 (l4_28 / (65536 : Int64))) / v_36 * v_36) fun x12_38 =>
  iter (sX12_drawn_140 x2 x3 l4_28 x6 x7 x8 x9 x10 x11_34 I) FU (x12_38, (0 : Int32)))
def sX12_drawn_69 (x2 : Int32) (x3 : Int32) (x6 : Int32) (x7 : Int32) (x8 : Int32) (I : Mem) (q : (Int64 × Int32 × Int32)) : Option ((Int64 × Int32 × Int32) ⊕ ((Int64 × Int32 × Int32 × Int32) ⊕ (Int32 × Mem))) := bX12_drawn_69 x2 x3 x6 x7 x8 I q.1 q.2.1 q.2.2
set_option maxRecDepth 20000 in
theorem wX12_drawn_69 (E : EV) (d : Nat) (rr : Option Value × Mem) (x2 : Int32) (x3 : Int32) (x6 : Int32) (x7 : Int32) (x8 : Int32) (I : Mem) (l4 : Int64) (x9 : Int32) (x10 : Int32) (y : ((Int64 × Int32 × Int32) ⊕ ((Int64 × Int32 × Int32 × Int32) ⊕ (Int32 × Mem)))) (hf : bX12_drawn_69 x2 x3 x6 x7 x8 I l4 x9 x10 = some y) (hK : (KX12_drawn_69 E d rr x2 x3 x6 x7 x8 I (KX12_drawn_57 E d rr x2 x3 I (fun (z : Int32 × Mem) => (some (.int z.1), z.2) = rr))) y) : G E (d + 4) kX12_drawn 69 [some (.ref 74), none, some (.int x2), some (.int x3), some (.long l4), none, some (.int x6), some (.int x7), some (.int x8), some (.int x9), some (.int x10), none, none, none] [] I rr := by
  unfold bX12_drawn_69 at hf
  refine G.iload dX12_drawn_69 rfl ?_
  refine G.aload_n dX12_drawn_71 rfl rfl ?_
  refine G.getR (q := 75) dX12_drawn_72 flX12_7 (by decide) rfl rfl ?_
  refine G.iconst (v := 3) dX12_drawn_75 (by decide) ?_
  obtain ⟨hi_22, hf⟩ := chk_at hf
  refine G.iald' dX12_drawn_76 (by decide) rfl rfl hi_22 ?_
  refine G.icmp_ge (tgt := 199) dX12_drawn_77 (by decide) (fun c_49 => ?_) (fun c_49 => ?_)
  · have hf := ite_t hf c_49
    refine G.iload dX12_drawn_199 rfl ?_
    refine G.aload_n dX12_drawn_201 rfl rfl ?_
    refine G.aload_n dX12_drawn_202 rfl rfl ?_
    refine G.getR (q := 75) dX12_drawn_203 flX12_7 (by decide) rfl rfl ?_
    refine G.iconst (v := 1) dX12_drawn_206 (by decide) ?_
    obtain ⟨hi_23, hf⟩ := chk_at hf
    refine G.iald' dX12_drawn_207 (by decide) rfl rfl hi_23 ?_
    refine G.aload_n dX12_drawn_208 rfl rfl ?_
    refine G.getR (q := 75) dX12_drawn_209 flX12_7 (by decide) rfl rfl ?_
    refine G.iconst (v := 2) dX12_drawn_212 (by decide) ?_
    obtain ⟨hi_24, hf⟩ := chk_at hf
    refine G.iald' dX12_drawn_213 (by decide) rfl rfl hi_24 ?_
    refine G.iload dX12_drawn_214 rfl ?_
    refine G.iadd dX12_drawn_216 ?_
    refine G.iload dX12_drawn_217 rfl ?_
    refine G.iload dX12_drawn_219 rfl ?_
    obtain ⟨v_26, hc_25, hf⟩ := bnd_at hf
    refine G.callVi (av := [.int (I 75 (ix (1 : Int32))), .int ((I 75 (ix (2 : Int32))) + x8), .int x6, .int x9]) (rest := [.int x7]) dX12_drawn_221 mvX12_189 (gX12_laid E d (I 75 (ix (1 : Int32))) ((I 75 (ix (2 : Int32))) + x8) x6 x9 I hc_25) (by decide) rfl rfl rfl (Nat.le_of_ble_eq_true rfl) ?_
    refine G.iadd dX12_drawn_224 ?_
    refine G.nmi (fun x7_27 e_x7_27 => ?_)
    have hf := letb_at hf e_x7_27
    clear e_x7_27
    refine G.istore (L' := [some (.ref 74), none, some (.int x2), some (.int x3), some (.long l4), none, some (.int x6), some (.int x7_27), some (.int x8), some (.int x9), some (.int x10), none, none, none]) dX12_drawn_225 (Nat.le_of_ble_eq_true rfl) (Nat.le_of_ble_eq_true rfl) rfl rfl ?_
    refine G.iload dX12_drawn_227 rfl ?_
    refine G.istore (L' := [some (.ref 74), none, some (.int x2), some (.int x3), some (.long l4), none, some (.int x9), some (.int x7_27), some (.int x8), some (.int x9), some (.int x10), none, none, none]) dX12_drawn_229 (Nat.le_of_ble_eq_true rfl) (Nat.le_of_ble_eq_true rfl) rfl rfl ?_
    refine G.inc (w := 1) (L' := [some (.ref 74), none, some (.int x2), some (.int x3), some (.long l4), none, some (.int x9), some (.int x7_27), some (.int (x8 + (1 : Int32))), some (.int x9), some (.int x10), none, none, none]) dX12_drawn_231 (by decide) rfl (Nat.le_of_ble_eq_true rfl) rfl rfl ?_
    refine G.goto (tgt := 57) dX12_drawn_234 (by decide) ?_
    have hf := Option.some.inj hf
    subst hf
    refine G.forget (L' := [some (.ref 74), none, some (.int x2), some (.int x3), some (.long l4), none, some (.int x9), some (.int x7_27), some (.int (x8 + (1 : Int32))), none, none, none, none, none]) [9, 10] rfl ?_
    exact hK
  · have hf := ite_f hf c_49
    refine G.lload dX12_drawn_80 rfl ?_
    refine G.ldc2 (v := 1103515245) dX12_drawn_82 kcX12_242 ?_
    refine G.lmul dX12_drawn_85 ?_
    refine G.ldc2 (v := 12345) dX12_drawn_86 kcX12_244 ?_
    refine G.ladd dX12_drawn_89 ?_
    refine G.ldc2 (v := 2147483648) dX12_drawn_90 kcX12_246 ?_
    refine G.lrem dX12_drawn_93 (by decide) ?_
    refine G.nml (fun l4_28 e_l4_28 => ?_)
    have hf := letb_at hf e_l4_28
    clear e_l4_28
    refine G.lstore (L' := [some (.ref 74), none, some (.int x2), some (.int x3), some (.long l4_28), none, some (.int x6), some (.int x7), some (.int x8), some (.int x9), some (.int x10), none, none, none]) dX12_drawn_94 (Nat.le_of_ble_eq_true rfl) (Nat.le_of_ble_eq_true rfl) rfl rfl ?_
    refine G.aload_n dX12_drawn_96 rfl rfl ?_
    refine G.getR (q := 75) dX12_drawn_97 flX12_7 (by decide) rfl rfl ?_
    refine G.iconst (v := 5) dX12_drawn_100 (by decide) ?_
    refine G.iload dX12_drawn_101 rfl ?_
    refine G.iload dX12_drawn_103 rfl ?_
    obtain ⟨v_30, hc_29, hf⟩ := bnd_at hf
    refine G.callSi (av := [.int x6, .int x10]) (rest := [.int (5 : Int32), .ref 75]) dX12_drawn_105 msX12_151 (gX12_roomIn E (d + 3) x6 x10 I hc_29) rfl rfl (Nat.le_of_ble_eq_true rfl) ?_
    refine G.iadd dX12_drawn_108 ?_
    obtain ⟨hi_31, hf⟩ := chk_at hf
    refine G.iald' dX12_drawn_109 (by decide) rfl rfl hi_31 ?_
    refine G.iconst (v := 1) dX12_drawn_110 (by decide) ?_
    refine G.iload dX12_drawn_111 rfl ?_
    refine G.iload dX12_drawn_113 rfl ?_
    obtain ⟨v_33, hc_32, hf⟩ := bnd_at hf
    refine G.callSi (av := [.int x6, .int x10]) (rest := [.int (1 : Int32), .int (I 75 (ix ((5 : Int32) + v_30)))]) dX12_drawn_115 msX12_151 (gX12_roomIn E (d + 3) x6 x10 I hc_32) rfl rfl (Nat.le_of_ble_eq_true rfl) ?_
    refine G.ishl dX12_drawn_118 ?_
    refine G.ior dX12_drawn_119 ?_
    refine G.nmi (fun x11_34 e_x11_34 => ?_)
    have hf := letb_at hf e_x11_34
    clear e_x11_34
    refine G.istore (L' := [some (.ref 74), none, some (.int x2), some (.int x3), some (.long l4_28), none, some (.int x6), some (.int x7), some (.int x8), some (.int x9), some (.int x10), some (.int x11_34), none, none]) dX12_drawn_120 (Nat.le_of_ble_eq_true rfl) (Nat.le_of_ble_eq_true rfl) rfl rfl ?_
    refine G.lload dX12_drawn_122 rfl ?_
    refine G.ldc2 (v := 65536) dX12_drawn_124 kcX12_248 ?_
    refine G.ldiv dX12_drawn_127 (by decide) ?_
    refine G.l2i dX12_drawn_128 ?_
    refine G.iload dX12_drawn_129 rfl ?_
    obtain ⟨v_36, hc_35, hf⟩ := bnd_at hf
    refine G.callSi (av := [.int x11_34]) (rest := [.int (Int64.toInt32 (l4_28 / (65536 : Int64)))]) dX12_drawn_131 msX12_250 (gX12_bits E (d + 3) x11_34 I hc_35) rfl rfl (Nat.le_of_ble_eq_true rfl) ?_
    obtain ⟨hz_37, hf⟩ := chk_at hf
    refine G.irem dX12_drawn_134 (of_decide_eq_true hz_37) ?_
    refine G.nmi (fun x12_38 e_x12_38 => ?_)
    have hf := letb_at hf e_x12_38
    clear e_x12_38
    refine G.istore (L' := [some (.ref 74), none, some (.int x2), some (.int x3), some (.long l4_28), none, some (.int x6), some (.int x7), some (.int x8), some (.int x9), some (.int x10), some (.int x11_34), some (.int x12_38), none]) dX12_drawn_135 (Nat.le_of_ble_eq_true rfl) (Nat.le_of_ble_eq_true rfl) rfl rfl ?_
    refine G.iconst (v := 0) dX12_drawn_137 (by decide) ?_
    refine G.istore (L' := [some (.ref 74), none, some (.int x2), some (.int x3), some (.long l4_28), none, some (.int x6), some (.int x7), some (.int x8), some (.int x9), some (.int x10), some (.int x11_34), some (.int x12_38), some (.int (0 : Int32))]) dX12_drawn_138 (Nat.le_of_ble_eq_true rfl) (Nat.le_of_ble_eq_true rfl) rfl rfl ?_
    exact lX12_drawn_140 E d rr x2 x3 l4_28 x6 x7 x8 x9 x10 x11_34 I _ hK FU _ hf
theorem lX12_drawn_69 (E : EV) (d : Nat) (rr : Option Value × Mem) (x2 : Int32) (x3 : Int32) (x6 : Int32) (x7 : Int32) (x8 : Int32) (I : Mem) (z : ((Int64 × Int32 × Int32 × Int32) ⊕ (Int32 × Mem))) (hK : (KX12_drawn_57 E d rr x2 x3 I (fun (z : Int32 × Mem) => (some (.int z.1), z.2) = rr)) z) : ∀ (n : Nat) (q : (Int64 × Int32 × Int32)), iter (sX12_drawn_69 x2 x3 x6 x7 x8 I) n q = some z → G E (d + 4) kX12_drawn 69 [some (.ref 74), none, some (.int x2), some (.int x3), some (.long q.1), none, some (.int x6), some (.int x7), some (.int x8), some (.int q.2.1), some (.int q.2.2), none, none, none] [] I rr := by
  intro n
  induction n with
  | zero => intro q h; cases h
  | succ n ih =>
    intro q h
    rcases iter_at h with ⟨q2, hs, h2⟩ | hs
    · exact wX12_drawn_69 E d rr x2 x3 x6 x7 x8 I q.1 q.2.1 q.2.2 _ hs (ih q2 h2)
    · exact wX12_drawn_69 E d rr x2 x3 x6 x7 x8 I q.1 q.2.1 q.2.2 _ hs hK
def bX12_drawn_57 (x2 : Int32) (x3 : Int32) (I : Mem) (l4 : Int64) (x6 : Int32) (x7 : Int32) (x8 : Int32) : Option ((Int64 × Int32 × Int32 × Int32) ⊕ (Int32 × Mem)) :=
  if x2 < x8 then
  (inrO (iter (sX12_drawn_243 x3 x6 x7 I) FU ((0 : Int32), (0 : Int32))))
  else
  (iter (sX12_drawn_69 x2 x3 x6 x7 x8 I) FU (l4, (0 : Int32), (0 : Int32)))
def sX12_drawn_57 (x2 : Int32) (x3 : Int32) (I : Mem) (q : (Int64 × Int32 × Int32 × Int32)) : Option ((Int64 × Int32 × Int32 × Int32) ⊕ (Int32 × Mem)) := bX12_drawn_57 x2 x3 I q.1 q.2.1 q.2.2.1 q.2.2.2
set_option maxRecDepth 20000 in
theorem wX12_drawn_57 (E : EV) (d : Nat) (rr : Option Value × Mem) (x2 : Int32) (x3 : Int32) (I : Mem) (l4 : Int64) (x6 : Int32) (x7 : Int32) (x8 : Int32) (y : ((Int64 × Int32 × Int32 × Int32) ⊕ (Int32 × Mem))) (hf : bX12_drawn_57 x2 x3 I l4 x6 x7 x8 = some y) (hK : (KX12_drawn_57 E d rr x2 x3 I (fun (z : Int32 × Mem) => (some (.int z.1), z.2) = rr)) y) : G E (d + 4) kX12_drawn 57 [some (.ref 74), none, some (.int x2), some (.int x3), some (.long l4), none, some (.int x6), some (.int x7), some (.int x8), none, none, none, none, none] [] I rr := by
  unfold bX12_drawn_57 at hf
  refine G.iload dX12_drawn_57 rfl ?_
  refine G.iload_n dX12_drawn_59 rfl rfl ?_
  refine G.icmp_gt (tgt := 237) dX12_drawn_60 (by decide) (fun c_50 => ?_) (fun c_50 => ?_)
  · have hf := ite_t hf c_50
    refine G.iconst (v := 0) dX12_drawn_237 (by decide) ?_
    refine G.istore (L' := [some (.ref 74), none, some (.int x2), some (.int x3), some (.long l4), none, some (.int x6), some (.int x7), some (.int (0 : Int32)), none, none, none, none, none]) dX12_drawn_238 (Nat.le_of_ble_eq_true rfl) (Nat.le_of_ble_eq_true rfl) rfl rfl ?_
    refine G.iconst (v := 0) dX12_drawn_240 (by decide) ?_
    refine G.istore (L' := [some (.ref 74), none, some (.int x2), some (.int x3), some (.long l4), none, some (.int x6), some (.int x7), some (.int (0 : Int32)), some (.int (0 : Int32)), none, none, none, none]) dX12_drawn_241 (Nat.le_of_ble_eq_true rfl) (Nat.le_of_ble_eq_true rfl) rfl rfl ?_
    obtain ⟨z_21, hz_21, rfl⟩ := inrO_at hf
    have hf := hz_21
    refine G.forget (L' := [some (.ref 74), none, none, some (.int x3), none, none, some (.int x6), some (.int x7), some (.int (0 : Int32)), some (.int (0 : Int32)), none, none, none, none]) [2, 4] rfl ?_
    exact lX12_drawn_243 E d rr x3 x6 x7 I _ hK FU _ hf
  · have hf := ite_f hf c_50
    refine G.iconst (v := 0) dX12_drawn_63 (by decide) ?_
    refine G.istore (L' := [some (.ref 74), none, some (.int x2), some (.int x3), some (.long l4), none, some (.int x6), some (.int x7), some (.int x8), some (.int (0 : Int32)), none, none, none, none]) dX12_drawn_64 (Nat.le_of_ble_eq_true rfl) (Nat.le_of_ble_eq_true rfl) rfl rfl ?_
    refine G.iconst (v := 0) dX12_drawn_66 (by decide) ?_
    refine G.istore (L' := [some (.ref 74), none, some (.int x2), some (.int x3), some (.long l4), none, some (.int x6), some (.int x7), some (.int x8), some (.int (0 : Int32)), some (.int (0 : Int32)), none, none, none]) dX12_drawn_67 (Nat.le_of_ble_eq_true rfl) (Nat.le_of_ble_eq_true rfl) rfl rfl ?_
    exact lX12_drawn_69 E d rr x2 x3 x6 x7 x8 I _ hK FU _ hf
theorem lX12_drawn_57 (E : EV) (d : Nat) (rr : Option Value × Mem) (x2 : Int32) (x3 : Int32) (I : Mem) (z : (Int32 × Mem)) (hK : (fun (z : Int32 × Mem) => (some (.int z.1), z.2) = rr) z) : ∀ (n : Nat) (q : (Int64 × Int32 × Int32 × Int32)), iter (sX12_drawn_57 x2 x3 I) n q = some z → G E (d + 4) kX12_drawn 57 [some (.ref 74), none, some (.int x2), some (.int x3), some (.long q.1), none, some (.int q.2.1), some (.int q.2.2.1), some (.int q.2.2.2), none, none, none, none, none] [] I rr := by
  intro n
  induction n with
  | zero => intro q h; cases h
  | succ n ih =>
    intro q h
    rcases iter_at h with ⟨q2, hs, h2⟩ | hs
    · exact wX12_drawn_57 E d rr x2 x3 I q.1 q.2.1 q.2.2.1 q.2.2.2 _ hs (ih q2 h2)
    · exact wX12_drawn_57 E d rr x2 x3 I q.1 q.2.1 q.2.2.1 q.2.2.2 _ hs hK
def fX12_drawn (x1 : Int32) (x2 : Int32) (x3 : Int32) (I : Mem) : Option (Int32 × Mem) :=
  bnd (fX12_in (Int32.toInt64 x1) (0 : Int64) (999999 : Int64) I) fun v_2 =>
  if v_2 = 0 then
  (jX12_drawn_34 I)
  else
  (bnd (fX12_in (Int32.toInt64 x2) (0 : Int64) (20 : Int64) I) fun v_7 =>
  if v_7 = 0 then
  (jX12_drawn_34 I)
  else
  (bnd (fX12_in (Int32.toInt64 x3) (0 : Int64) (1 : Int64) I) fun v_9 =>
  if v_9 = 0 then
  (jX12_drawn_34 I)
  else
  (letb (Int32.toInt64 x1) fun l4_10 =>
  bnd (fX12_now I) fun v_12 =>
  iter (sX12_drawn_57 x2 x3 I) FU (l4_10, v_12, (0 : Int32), (1 : Int32)))))
set_option maxRecDepth 20000 in
theorem gX12_drawn (E : EV) (d : Nat) (x1 : Int32) (x2 : Int32) (x3 : Int32) (I : Mem) {v : Int32} {J : Mem} (hf : fX12_drawn x1 x2 x3 I = some (v, J)) : Gm E (d + 4) kX12_drawn [.ref 74, .int x1, .int x2, .int x3] I (some (.int v), J) := by
  refine (fun (y : (Int32 × Mem)) (hf : fX12_drawn x1 x2 x3 I = some y) => (?_ : Gm E (d + 4) kX12_drawn [.ref 74, .int x1, .int x2, .int x3] I (some (.int y.1), y.2))) (v, J) hf
  refine Gm.of (by decide) rfl (Nat.le_of_ble_eq_true rfl) ?_
  generalize hrr : ((some (.int y.1), y.2) : Option Value × Mem) = rr
  show G E (d + 4) kX12_drawn 0 [some (.ref 74), some (.int x1), some (.int x2), some (.int x3), none, none, none, none, none, none, none, none, none, none] [] I rr
  have hK : (fun (z : Int32 × Mem) => (some (.int z.1), z.2) = rr) y := hrr
  clear hrr
  unfold fX12_drawn at hf
  refine G.iload_n dX12_drawn_0 rfl rfl ?_
  refine G.i2l dX12_drawn_1 ?_
  refine G.lconst (v := 0) dX12_drawn_2 (by decide) ?_
  refine G.ldc2 (v := 999999) dX12_drawn_3 kcX12_238 ?_
  obtain ⟨v_2, hc_1, hf⟩ := bnd_at hf
  refine G.callSi (av := [.long (Int32.toInt64 x1), .long (0 : Int64), .long (999999 : Int64)]) (rest := []) dX12_drawn_6 msX12_49 (gX12_in E (d + 3) (Int32.toInt64 x1) (0 : Int64) (999999 : Int64) I hc_1) rfl rfl (Nat.le_of_ble_eq_true rfl) ?_
  refine G.if_eq (tgt := 34) dX12_drawn_9 (by decide) (fun c_53 => ?_) (fun c_53 => ?_)
  · have hf := ite_t hf c_53
    refine G.forget (L' := [some (.ref 74), none, none, none, none, none, none, none, none, none, none, none, none, none]) [1, 2, 3] rfl ?_
    exact tX12_drawn_34 E d rr I _ hf hK
  · have hf := ite_f hf c_53
    refine G.iload_n dX12_drawn_12 rfl rfl ?_
    refine G.i2l dX12_drawn_13 ?_
    refine G.lconst (v := 0) dX12_drawn_14 (by decide) ?_
    refine G.ldc2 (v := 20) dX12_drawn_15 kcX12_240 ?_
    obtain ⟨v_7, hc_6, hf⟩ := bnd_at hf
    refine G.callSi (av := [.long (Int32.toInt64 x2), .long (0 : Int64), .long (20 : Int64)]) (rest := []) dX12_drawn_18 msX12_49 (gX12_in E (d + 3) (Int32.toInt64 x2) (0 : Int64) (20 : Int64) I hc_6) rfl rfl (Nat.le_of_ble_eq_true rfl) ?_
    refine G.if_eq (tgt := 34) dX12_drawn_21 (by decide) (fun c_52 => ?_) (fun c_52 => ?_)
    · have hf := ite_t hf c_52
      refine G.forget (L' := [some (.ref 74), none, none, none, none, none, none, none, none, none, none, none, none, none]) [1, 2, 3] rfl ?_
      exact tX12_drawn_34 E d rr I _ hf hK
    · have hf := ite_f hf c_52
      refine G.iload_n dX12_drawn_24 rfl rfl ?_
      refine G.i2l dX12_drawn_25 ?_
      refine G.lconst (v := 0) dX12_drawn_26 (by decide) ?_
      refine G.lconst (v := 1) dX12_drawn_27 (by decide) ?_
      obtain ⟨v_9, hc_8, hf⟩ := bnd_at hf
      refine G.callSi (av := [.long (Int32.toInt64 x3), .long (0 : Int64), .long (1 : Int64)]) (rest := []) dX12_drawn_28 msX12_49 (gX12_in E (d + 3) (Int32.toInt64 x3) (0 : Int64) (1 : Int64) I hc_8) rfl rfl (Nat.le_of_ble_eq_true rfl) ?_
      refine G.if_ne (tgt := 41) dX12_drawn_31 (by decide) (fun c_51 => ?_) (fun c_51 => ?_)
      · have hf := ite_f hf c_51
        refine G.iload_n dX12_drawn_41 rfl rfl ?_
        refine G.i2l dX12_drawn_42 ?_
        refine G.nml (fun l4_10 e_l4_10 => ?_)
        have hf := letb_at hf e_l4_10
        clear e_l4_10
        refine G.lstore (L' := [some (.ref 74), some (.int x1), some (.int x2), some (.int x3), some (.long l4_10), none, none, none, none, none, none, none, none, none]) dX12_drawn_43 (Nat.le_of_ble_eq_true rfl) (Nat.le_of_ble_eq_true rfl) rfl rfl ?_
        refine G.aload_n dX12_drawn_45 rfl rfl ?_
        obtain ⟨v_12, hc_11, hf⟩ := bnd_at hf
        refine G.callVi (av := []) (rest := []) dX12_drawn_46 mvX12_173 (gX12_now E (d + 3) I hc_11) (by decide) rfl rfl rfl (Nat.le_of_ble_eq_true rfl) ?_
        refine G.istore (L' := [some (.ref 74), some (.int x1), some (.int x2), some (.int x3), some (.long l4_10), none, some (.int v_12), none, none, none, none, none, none, none]) dX12_drawn_49 (Nat.le_of_ble_eq_true rfl) (Nat.le_of_ble_eq_true rfl) rfl rfl ?_
        refine G.iconst (v := 0) dX12_drawn_51 (by decide) ?_
        refine G.istore (L' := [some (.ref 74), some (.int x1), some (.int x2), some (.int x3), some (.long l4_10), none, some (.int v_12), some (.int (0 : Int32)), none, none, none, none, none, none]) dX12_drawn_52 (Nat.le_of_ble_eq_true rfl) (Nat.le_of_ble_eq_true rfl) rfl rfl ?_
        refine G.iconst (v := 1) dX12_drawn_54 (by decide) ?_
        refine G.istore (L' := [some (.ref 74), some (.int x1), some (.int x2), some (.int x3), some (.long l4_10), none, some (.int v_12), some (.int (0 : Int32)), some (.int (1 : Int32)), none, none, none, none, none]) dX12_drawn_55 (Nat.le_of_ble_eq_true rfl) (Nat.le_of_ble_eq_true rfl) rfl rfl ?_
        refine G.forget (L' := [some (.ref 74), none, some (.int x2), some (.int x3), some (.long l4_10), none, some (.int v_12), some (.int (0 : Int32)), some (.int (1 : Int32)), none, none, none, none, none]) [1] rfl ?_
        exact lX12_drawn_57 E d rr x2 x3 I _ hK FU _ hf
      · have hf := ite_t hf c_51
        refine G.forget (L' := [some (.ref 74), none, none, none, none, none, none, none, none, none, none, none, none, none]) [1, 2, 3] rfl ?_
        exact tX12_drawn_34 E d rr I _ hf hK
theorem dX12_image_0 : decode cX12_image 0 = .ok (.iload_n 1, 1) := by decide +kernel
theorem dX12_image_1 : decode cX12_image 1 = .ok (.i2l, 1) := by decide +kernel
theorem dX12_image_2 : decode cX12_image 2 = .ok (.lconst 0, 1) := by decide +kernel
theorem dX12_image_3 : decode cX12_image 3 = .ok (.lconst 1, 1) := by decide +kernel
theorem dX12_image_4 : decode cX12_image 4 = .ok (.invokestatic 49, 3) := by decide +kernel
theorem dX12_image_7 : decode cX12_image 7 = .ok (.ifCond .ne 10, 3) := by decide +kernel
theorem dX12_image_10 : decode cX12_image 10 = .ok (.aload_n 0, 1) := by decide +kernel
theorem dX12_image_11 : decode cX12_image 11 = .ok (.bipush (-2), 2) := by decide +kernel
theorem dX12_image_13 : decode cX12_image 13 = .ok (.invokevirtual 59, 3) := by decide +kernel
theorem dX12_image_16 : decode cX12_image 16 = .ok (.ireturn, 1) := by decide +kernel
theorem dX12_image_17 : decode cX12_image 17 = .ok (.aload_n 0, 1) := by decide +kernel
theorem dX12_image_18 : decode cX12_image 18 = .ok (.iconst 0, 1) := by decide +kernel
theorem dX12_image_19 : decode cX12_image 19 = .ok (.iconst 1, 1) := by decide +kernel
theorem dX12_image_20 : decode cX12_image 20 = .ok (.iload_n 1, 1) := by decide +kernel
theorem dX12_image_21 : decode cX12_image 21 = .ok (.iadd, 1) := by decide +kernel
theorem dX12_image_22 : decode cX12_image 22 = .ok (.invokevirtual 224, 3) := by decide +kernel
theorem dX12_image_25 : decode cX12_image 25 = .ok (.aload_n 0, 1) := by decide +kernel
theorem dX12_image_26 : decode cX12_image 26 = .ok (.getfield 13, 3) := by decide +kernel
theorem dX12_image_29 : decode cX12_image 29 = .ok (.iload_n 1, 1) := by decide +kernel
theorem dX12_image_30 : decode cX12_image 30 = .ok (.iconst 1, 1) := by decide +kernel
theorem dX12_image_31 : decode cX12_image 31 = .ok (.bastore, 1) := by decide +kernel
theorem dX12_image_32 : decode cX12_image 32 = .ok (.iconst 1, 1) := by decide +kernel
theorem dX12_image_33 : decode cX12_image 33 = .ok (.ireturn, 1) := by decide +kernel
def fX12_image (x1 : Int32) (I : Mem) : Option (Int32 × Mem) :=
  bnd (fX12_in (Int32.toInt64 x1) (0 : Int64) (1 : Int64) I) fun v_2 =>
  if v_2 = 0 then
  (bnd2 (fX12_bad (-2 : Int32) I) fun v_8 I_9 =>
  some (v_8, I_9))
  else
  (bnd (fX12_copy (0 : Int32) ((1 : Int32) + x1) I) fun I_4 =>
  chk (inb x1 2) <|
  letb (up2 I_4 76 (ix x1) (1 : Int32)) fun I_6 =>
  some ((1 : Int32), I_6))
set_option maxRecDepth 20000 in
theorem gX12_image (E : EV) (d : Nat) (x1 : Int32) (I : Mem) {v : Int32} {J : Mem} (hf : fX12_image x1 I = some (v, J)) : Gm E (d + 1) kX12_image [.ref 74, .int x1] I (some (.int v), J) := by
  refine (fun (y : (Int32 × Mem)) (hf : fX12_image x1 I = some y) => (?_ : Gm E (d + 1) kX12_image [.ref 74, .int x1] I (some (.int y.1), y.2))) (v, J) hf
  refine Gm.of (by decide) rfl (Nat.le_of_ble_eq_true rfl) ?_
  generalize hrr : ((some (.int y.1), y.2) : Option Value × Mem) = rr
  show G E (d + 1) kX12_image 0 [some (.ref 74), some (.int x1)] [] I rr
  have hK : (fun (z : Int32 × Mem) => (some (.int z.1), z.2) = rr) y := hrr
  clear hrr
  unfold fX12_image at hf
  refine G.iload_n dX12_image_0 rfl rfl ?_
  refine G.i2l dX12_image_1 ?_
  refine G.lconst (v := 0) dX12_image_2 (by decide) ?_
  refine G.lconst (v := 1) dX12_image_3 (by decide) ?_
  obtain ⟨v_2, hc_1, hf⟩ := bnd_at hf
  refine G.callSi (av := [.long (Int32.toInt64 x1), .long (0 : Int64), .long (1 : Int64)]) (rest := []) dX12_image_4 msX12_49 (gX12_in E d (Int32.toInt64 x1) (0 : Int64) (1 : Int64) I hc_1) rfl rfl (Nat.le_of_ble_eq_true rfl) ?_
  refine G.if_ne (tgt := 17) dX12_image_7 (by decide) (fun c_10 => ?_) (fun c_10 => ?_)
  · have hf := ite_f hf c_10
    refine G.aload_n dX12_image_17 rfl rfl ?_
    refine G.iconst (v := 0) dX12_image_18 (by decide) ?_
    refine G.iconst (v := 1) dX12_image_19 (by decide) ?_
    refine G.iload_n dX12_image_20 rfl rfl ?_
    refine G.iadd dX12_image_21 ?_
    obtain ⟨I_4, hc_3, hf⟩ := bnd_at hf
    refine G.callVv (av := [.int (0 : Int32), .int ((1 : Int32) + x1)]) (rest := []) dX12_image_22 mvX12_224 (gX12_copy E d (0 : Int32) ((1 : Int32) + x1) I hc_3) (by decide) rfl rfl rfl (Nat.le_of_ble_eq_true rfl) ?_
    refine G.aload_n dX12_image_25 rfl rfl ?_
    refine G.getR (q := 76) dX12_image_26 flX12_13 (by decide) rfl rfl ?_
    refine G.iload_n dX12_image_29 rfl rfl ?_
    refine G.iconst (v := 1) dX12_image_30 (by decide) ?_
    obtain ⟨hi_5, hf⟩ := chk_at hf
    refine G.zast (v := 1) dX12_image_31 (by decide) rfl hi_5 (by decide) ?_
    refine G.nmI (fun I_6 e_I_6 => ?_)
    have hf := letb_at hf e_I_6
    clear e_I_6
    refine G.iconst (v := 1) dX12_image_32 (by decide) ?_
    have hf := Option.some.inj hf
    subst hf
    exact G.iret' dX12_image_33 rfl hK
  · have hf := ite_t hf c_10
    refine G.aload_n dX12_image_10 rfl rfl ?_
    refine G.bipush (v := -2) dX12_image_11 (by decide) ?_
    obtain ⟨v_8, I_9, hc_7, hf⟩ := bnd2_at hf
    refine G.callVi (av := [.int (-2 : Int32)]) (rest := []) dX12_image_13 mvX12_59 (gX12_bad E d (-2 : Int32) I hc_7) (by decide) rfl rfl rfl (Nat.le_of_ble_eq_true rfl) ?_
    have hf := Option.some.inj hf
    subst hf
    exact G.iret' dX12_image_16 rfl hK
theorem dX12_from_0 : decode cX12_from 0 = .ok (.iload_n 1, 1) := by decide +kernel
theorem dX12_from_1 : decode cX12_from 1 = .ok (.i2l, 1) := by decide +kernel
theorem dX12_from_2 : decode cX12_from 2 = .ok (.lconst 0, 1) := by decide +kernel
theorem dX12_from_3 : decode cX12_from 3 = .ok (.lconst 1, 1) := by decide +kernel
theorem dX12_from_4 : decode cX12_from 4 = .ok (.invokestatic 49, 3) := by decide +kernel
theorem dX12_from_7 : decode cX12_from 7 = .ok (.ifCond .ne 10, 3) := by decide +kernel
theorem dX12_from_10 : decode cX12_from 10 = .ok (.aload_n 0, 1) := by decide +kernel
theorem dX12_from_11 : decode cX12_from 11 = .ok (.bipush (-2), 2) := by decide +kernel
theorem dX12_from_13 : decode cX12_from 13 = .ok (.invokevirtual 59, 3) := by decide +kernel
theorem dX12_from_16 : decode cX12_from 16 = .ok (.ireturn, 1) := by decide +kernel
theorem dX12_from_17 : decode cX12_from 17 = .ok (.aload_n 0, 1) := by decide +kernel
theorem dX12_from_18 : decode cX12_from 18 = .ok (.getfield 13, 3) := by decide +kernel
theorem dX12_from_21 : decode cX12_from 21 = .ok (.iload_n 1, 1) := by decide +kernel
theorem dX12_from_22 : decode cX12_from 22 = .ok (.baload, 1) := by decide +kernel
theorem dX12_from_23 : decode cX12_from 23 = .ok (.ifCond .ne 8, 3) := by decide +kernel
theorem dX12_from_26 : decode cX12_from 26 = .ok (.aload_n 0, 1) := by decide +kernel
theorem dX12_from_27 : decode cX12_from 27 = .ok (.invokevirtual 71, 3) := by decide +kernel
theorem dX12_from_30 : decode cX12_from 30 = .ok (.ireturn, 1) := by decide +kernel
theorem dX12_from_31 : decode cX12_from 31 = .ok (.aload_n 0, 1) := by decide +kernel
theorem dX12_from_32 : decode cX12_from 32 = .ok (.iconst 1, 1) := by decide +kernel
theorem dX12_from_33 : decode cX12_from 33 = .ok (.iload_n 1, 1) := by decide +kernel
theorem dX12_from_34 : decode cX12_from 34 = .ok (.iadd, 1) := by decide +kernel
theorem dX12_from_35 : decode cX12_from 35 = .ok (.iconst 0, 1) := by decide +kernel
theorem dX12_from_36 : decode cX12_from 36 = .ok (.invokevirtual 224, 3) := by decide +kernel
theorem dX12_from_39 : decode cX12_from 39 = .ok (.iconst 1, 1) := by decide +kernel
theorem dX12_from_40 : decode cX12_from 40 = .ok (.ireturn, 1) := by decide +kernel
def fX12_from (x1 : Int32) (I : Mem) : Option (Int32 × Mem) :=
  bnd (fX12_in (Int32.toInt64 x1) (0 : Int64) (1 : Int64) I) fun v_2 =>
  if v_2 = 0 then
  (bnd2 (fX12_bad (-2 : Int32) I) fun v_11 I_12 =>
  some (v_11, I_12))
  else
  (chk (inb x1 2) <|
  if (I 76 (ix x1)) = 0 then
  (bnd2 (fX12_no I) fun v_7 I_8 =>
  some (v_7, I_8))
  else
  (bnd (fX12_copy ((1 : Int32) + x1) (0 : Int32) I) fun I_5 =>
  some ((1 : Int32), I_5)))
set_option maxRecDepth 20000 in
theorem gX12_from (E : EV) (d : Nat) (x1 : Int32) (I : Mem) {v : Int32} {J : Mem} (hf : fX12_from x1 I = some (v, J)) : Gm E (d + 1) kX12_from [.ref 74, .int x1] I (some (.int v), J) := by
  refine (fun (y : (Int32 × Mem)) (hf : fX12_from x1 I = some y) => (?_ : Gm E (d + 1) kX12_from [.ref 74, .int x1] I (some (.int y.1), y.2))) (v, J) hf
  refine Gm.of (by decide) rfl (Nat.le_of_ble_eq_true rfl) ?_
  generalize hrr : ((some (.int y.1), y.2) : Option Value × Mem) = rr
  show G E (d + 1) kX12_from 0 [some (.ref 74), some (.int x1)] [] I rr
  have hK : (fun (z : Int32 × Mem) => (some (.int z.1), z.2) = rr) y := hrr
  clear hrr
  unfold fX12_from at hf
  refine G.iload_n dX12_from_0 rfl rfl ?_
  refine G.i2l dX12_from_1 ?_
  refine G.lconst (v := 0) dX12_from_2 (by decide) ?_
  refine G.lconst (v := 1) dX12_from_3 (by decide) ?_
  obtain ⟨v_2, hc_1, hf⟩ := bnd_at hf
  refine G.callSi (av := [.long (Int32.toInt64 x1), .long (0 : Int64), .long (1 : Int64)]) (rest := []) dX12_from_4 msX12_49 (gX12_in E d (Int32.toInt64 x1) (0 : Int64) (1 : Int64) I hc_1) rfl rfl (Nat.le_of_ble_eq_true rfl) ?_
  refine G.if_ne (tgt := 17) dX12_from_7 (by decide) (fun c_13 => ?_) (fun c_13 => ?_)
  · have hf := ite_f hf c_13
    refine G.aload_n dX12_from_17 rfl rfl ?_
    refine G.getR (q := 76) dX12_from_18 flX12_13 (by decide) rfl rfl ?_
    refine G.iload_n dX12_from_21 rfl rfl ?_
    obtain ⟨hi_3, hf⟩ := chk_at hf
    refine G.zald dX12_from_22 (by decide) rfl hi_3 ?_
    refine G.if_ne (tgt := 31) dX12_from_23 (by decide) (fun c_9 => ?_) (fun c_9 => ?_)
    · have hf := ite_f hf c_9
      refine G.aload_n dX12_from_31 rfl rfl ?_
      refine G.iconst (v := 1) dX12_from_32 (by decide) ?_
      refine G.iload_n dX12_from_33 rfl rfl ?_
      refine G.iadd dX12_from_34 ?_
      refine G.iconst (v := 0) dX12_from_35 (by decide) ?_
      obtain ⟨I_5, hc_4, hf⟩ := bnd_at hf
      refine G.callVv (av := [.int ((1 : Int32) + x1), .int (0 : Int32)]) (rest := []) dX12_from_36 mvX12_224 (gX12_copy E d ((1 : Int32) + x1) (0 : Int32) I hc_4) (by decide) rfl rfl rfl (Nat.le_of_ble_eq_true rfl) ?_
      refine G.iconst (v := 1) dX12_from_39 (by decide) ?_
      have hf := Option.some.inj hf
      subst hf
      exact G.iret' dX12_from_40 rfl hK
    · have hf := ite_t hf c_9
      refine G.aload_n dX12_from_26 rfl rfl ?_
      obtain ⟨v_7, I_8, hc_6, hf⟩ := bnd2_at hf
      refine G.callVi (av := []) (rest := []) dX12_from_27 mvX12_71 (gX12_no E d I hc_6) (by decide) rfl rfl rfl (Nat.le_of_ble_eq_true rfl) ?_
      have hf := Option.some.inj hf
      subst hf
      exact G.iret' dX12_from_30 rfl hK
  · have hf := ite_t hf c_13
    refine G.aload_n dX12_from_10 rfl rfl ?_
    refine G.bipush (v := -2) dX12_from_11 (by decide) ?_
    obtain ⟨v_11, I_12, hc_10, hf⟩ := bnd2_at hf
    refine G.callVi (av := [.int (-2 : Int32)]) (rest := []) dX12_from_13 mvX12_59 (gX12_bad E d (-2 : Int32) I hc_10) (by decide) rfl rfl rfl (Nat.le_of_ble_eq_true rfl) ?_
    have hf := Option.some.inj hf
    subst hf
    exact G.iret' dX12_from_16 rfl hK
theorem dX12_status_0 : decode cX12_status 0 = .ok (.iload_n 1, 1) := by decide +kernel
theorem dX12_status_1 : decode cX12_status 1 = .ok (.i2l, 1) := by decide +kernel
theorem dX12_status_2 : decode cX12_status 2 = .ok (.lconst 0, 1) := by decide +kernel
theorem dX12_status_3 : decode cX12_status 3 = .ok (.ldc2_w 253, 3) := by decide +kernel
theorem dX12_status_6 : decode cX12_status 6 = .ok (.invokestatic 49, 3) := by decide +kernel
theorem dX12_status_9 : decode cX12_status 9 = .ok (.ifCond .eq 12, 3) := by decide +kernel
theorem dX12_status_12 : decode cX12_status 12 = .ok (.aload_n 0, 1) := by decide +kernel
theorem dX12_status_13 : decode cX12_status 13 = .ok (.getfield 20, 3) := by decide +kernel
theorem dX12_status_16 : decode cX12_status 16 = .ok (.iload_n 1, 1) := by decide +kernel
theorem dX12_status_17 : decode cX12_status 17 = .ok (.iaload, 1) := by decide +kernel
theorem dX12_status_18 : decode cX12_status 18 = .ok (.goto 8, 3) := by decide +kernel
theorem dX12_status_21 : decode cX12_status 21 = .ok (.aload_n 0, 1) := by decide +kernel
theorem dX12_status_22 : decode cX12_status 22 = .ok (.iconst (-1), 1) := by decide +kernel
theorem dX12_status_23 : decode cX12_status 23 = .ok (.invokevirtual 59, 3) := by decide +kernel
theorem dX12_status_26 : decode cX12_status 26 = .ok (.ireturn, 1) := by decide +kernel
def fX12_status (x1 : Int32) (I : Mem) : Option (Int32 × Mem) :=
  bnd (fX12_in (Int32.toInt64 x1) (0 : Int64) (2 : Int64) I) fun v_2 =>
  if v_2 = 0 then
  (bnd2 (fX12_bad (-1 : Int32) I) fun v_4 I_5 =>
  some (v_4, I_5))
  else
  (chk (inb x1 3) <|
  some ((I 78 (ix x1)), I))
set_option maxRecDepth 20000 in
theorem gX12_status (E : EV) (d : Nat) (x1 : Int32) (I : Mem) {v : Int32} {J : Mem} (hf : fX12_status x1 I = some (v, J)) : Gm E (d + 1) kX12_status [.ref 74, .int x1] I (some (.int v), J) := by
  refine (fun (y : (Int32 × Mem)) (hf : fX12_status x1 I = some y) => (?_ : Gm E (d + 1) kX12_status [.ref 74, .int x1] I (some (.int y.1), y.2))) (v, J) hf
  refine Gm.of (by decide) rfl (Nat.le_of_ble_eq_true rfl) ?_
  generalize hrr : ((some (.int y.1), y.2) : Option Value × Mem) = rr
  show G E (d + 1) kX12_status 0 [some (.ref 74), some (.int x1)] [] I rr
  have hK : (fun (z : Int32 × Mem) => (some (.int z.1), z.2) = rr) y := hrr
  clear hrr
  unfold fX12_status at hf
  refine G.iload_n dX12_status_0 rfl rfl ?_
  refine G.i2l dX12_status_1 ?_
  refine G.lconst (v := 0) dX12_status_2 (by decide) ?_
  refine G.ldc2 (v := 2) dX12_status_3 kcX12_253 ?_
  obtain ⟨v_2, hc_1, hf⟩ := bnd_at hf
  refine G.callSi (av := [.long (Int32.toInt64 x1), .long (0 : Int64), .long (2 : Int64)]) (rest := []) dX12_status_6 msX12_49 (gX12_in E d (Int32.toInt64 x1) (0 : Int64) (2 : Int64) I hc_1) rfl rfl (Nat.le_of_ble_eq_true rfl) ?_
  refine G.if_eq (tgt := 21) dX12_status_9 (by decide) (fun c_7 => ?_) (fun c_7 => ?_)
  · have hf := ite_t hf c_7
    refine G.aload_n dX12_status_21 rfl rfl ?_
    refine G.iconst (v := -1) dX12_status_22 (by decide) ?_
    obtain ⟨v_4, I_5, hc_3, hf⟩ := bnd2_at hf
    refine G.callVi (av := [.int (-1 : Int32)]) (rest := []) dX12_status_23 mvX12_59 (gX12_bad E d (-1 : Int32) I hc_3) (by decide) rfl rfl rfl (Nat.le_of_ble_eq_true rfl) ?_
    have hf := Option.some.inj hf
    subst hf
    exact G.iret' dX12_status_26 rfl hK
  · have hf := ite_f hf c_7
    refine G.aload_n dX12_status_12 rfl rfl ?_
    refine G.getR (q := 78) dX12_status_13 flX12_20 (by decide) rfl rfl ?_
    refine G.iload_n dX12_status_16 rfl rfl ?_
    obtain ⟨hi_6, hf⟩ := chk_at hf
    refine G.iald' dX12_status_17 (by decide) rfl rfl hi_6 ?_
    refine G.goto (tgt := 26) dX12_status_18 (by decide) ?_
    have hf := Option.some.inj hf
    subst hf
    exact G.iret' dX12_status_26 rfl hK
theorem dX12_countOf_0 : decode cX12_countOf 0 = .ok (.iconst 0, 1) := by decide +kernel
theorem dX12_countOf_1 : decode cX12_countOf 1 = .ok (.istore_n 2, 1) := by decide +kernel
theorem dX12_countOf_2 : decode cX12_countOf 2 = .ok (.iconst 0, 1) := by decide +kernel
theorem dX12_countOf_3 : decode cX12_countOf 3 = .ok (.istore_n 3, 1) := by decide +kernel
theorem dX12_countOf_4 : decode cX12_countOf 4 = .ok (.iload_n 3, 1) := by decide +kernel
theorem dX12_countOf_5 : decode cX12_countOf 5 = .ok (.iconst 5, 1) := by decide +kernel
theorem dX12_countOf_6 : decode cX12_countOf 6 = .ok (.if_icmp .ge 23, 3) := by decide +kernel
theorem dX12_countOf_9 : decode cX12_countOf 9 = .ok (.iload_n 2, 1) := by decide +kernel
theorem dX12_countOf_10 : decode cX12_countOf 10 = .ok (.aload_n 0, 1) := by decide +kernel
theorem dX12_countOf_11 : decode cX12_countOf 11 = .ok (.getfield 7, 3) := by decide +kernel
theorem dX12_countOf_14 : decode cX12_countOf 14 = .ok (.iconst 5, 1) := by decide +kernel
theorem dX12_countOf_15 : decode cX12_countOf 15 = .ok (.iload_n 3, 1) := by decide +kernel
theorem dX12_countOf_16 : decode cX12_countOf 16 = .ok (.iadd, 1) := by decide +kernel
theorem dX12_countOf_17 : decode cX12_countOf 17 = .ok (.iaload, 1) := by decide +kernel
theorem dX12_countOf_18 : decode cX12_countOf 18 = .ok (.invokestatic 250, 3) := by decide +kernel
theorem dX12_countOf_21 : decode cX12_countOf 21 = .ok (.iadd, 1) := by decide +kernel
theorem dX12_countOf_22 : decode cX12_countOf 22 = .ok (.istore_n 2, 1) := by decide +kernel
theorem dX12_countOf_23 : decode cX12_countOf 23 = .ok (.iinc 3 1, 3) := by decide +kernel
theorem dX12_countOf_26 : decode cX12_countOf 26 = .ok (.goto (-22), 3) := by decide +kernel
theorem dX12_countOf_29 : decode cX12_countOf 29 = .ok (.iload_n 1, 1) := by decide +kernel
theorem dX12_countOf_30 : decode cX12_countOf 30 = .ok (.tableswitch 93 0 6 #[42, 49, 56, 60, 70, 77, 85], 42) := by decide +kernel
theorem dX12_countOf_72 : decode cX12_countOf 72 = .ok (.aload_n 0, 1) := by decide +kernel
theorem dX12_countOf_73 : decode cX12_countOf 73 = .ok (.getfield 7, 3) := by decide +kernel
theorem dX12_countOf_76 : decode cX12_countOf 76 = .ok (.iconst 0, 1) := by decide +kernel
theorem dX12_countOf_77 : decode cX12_countOf 77 = .ok (.iaload, 1) := by decide +kernel
theorem dX12_countOf_78 : decode cX12_countOf 78 = .ok (.ireturn, 1) := by decide +kernel
theorem dX12_countOf_79 : decode cX12_countOf 79 = .ok (.aload_n 0, 1) := by decide +kernel
theorem dX12_countOf_80 : decode cX12_countOf 80 = .ok (.getfield 7, 3) := by decide +kernel
theorem dX12_countOf_83 : decode cX12_countOf 83 = .ok (.iconst 3, 1) := by decide +kernel
theorem dX12_countOf_84 : decode cX12_countOf 84 = .ok (.iaload, 1) := by decide +kernel
theorem dX12_countOf_85 : decode cX12_countOf 85 = .ok (.ireturn, 1) := by decide +kernel
theorem dX12_countOf_86 : decode cX12_countOf 86 = .ok (.iload_n 2, 1) := by decide +kernel
theorem dX12_countOf_87 : decode cX12_countOf 87 = .ok (.iconst 2, 1) := by decide +kernel
theorem dX12_countOf_88 : decode cX12_countOf 88 = .ok (.idiv, 1) := by decide +kernel
theorem dX12_countOf_89 : decode cX12_countOf 89 = .ok (.ireturn, 1) := by decide +kernel
theorem dX12_countOf_90 : decode cX12_countOf 90 = .ok (.aload_n 0, 1) := by decide +kernel
theorem dX12_countOf_91 : decode cX12_countOf 91 = .ok (.getfield 7, 3) := by decide +kernel
theorem dX12_countOf_94 : decode cX12_countOf 94 = .ok (.iconst 4, 1) := by decide +kernel
theorem dX12_countOf_95 : decode cX12_countOf 95 = .ok (.iaload, 1) := by decide +kernel
theorem dX12_countOf_96 : decode cX12_countOf 96 = .ok (.invokestatic 250, 3) := by decide +kernel
theorem dX12_countOf_99 : decode cX12_countOf 99 = .ok (.ireturn, 1) := by decide +kernel
theorem dX12_countOf_100 : decode cX12_countOf 100 = .ok (.aload_n 0, 1) := by decide +kernel
theorem dX12_countOf_101 : decode cX12_countOf 101 = .ok (.getfield 7, 3) := by decide +kernel
theorem dX12_countOf_104 : decode cX12_countOf 104 = .ok (.iconst 2, 1) := by decide +kernel
theorem dX12_countOf_105 : decode cX12_countOf 105 = .ok (.iaload, 1) := by decide +kernel
theorem dX12_countOf_106 : decode cX12_countOf 106 = .ok (.ireturn, 1) := by decide +kernel
theorem dX12_countOf_107 : decode cX12_countOf 107 = .ok (.aload_n 0, 1) := by decide +kernel
theorem dX12_countOf_108 : decode cX12_countOf 108 = .ok (.getfield 7, 3) := by decide +kernel
theorem dX12_countOf_111 : decode cX12_countOf 111 = .ok (.bipush 44, 2) := by decide +kernel
theorem dX12_countOf_113 : decode cX12_countOf 113 = .ok (.iaload, 1) := by decide +kernel
theorem dX12_countOf_114 : decode cX12_countOf 114 = .ok (.ireturn, 1) := by decide +kernel
theorem dX12_countOf_115 : decode cX12_countOf 115 = .ok (.aload_n 0, 1) := by decide +kernel
theorem dX12_countOf_116 : decode cX12_countOf 116 = .ok (.getfield 7, 3) := by decide +kernel
theorem dX12_countOf_119 : decode cX12_countOf 119 = .ok (.bipush 53, 2) := by decide +kernel
theorem dX12_countOf_121 : decode cX12_countOf 121 = .ok (.iaload, 1) := by decide +kernel
theorem dX12_countOf_122 : decode cX12_countOf 122 = .ok (.ireturn, 1) := by decide +kernel
theorem dX12_countOf_123 : decode cX12_countOf 123 = .ok (.aload_n 0, 1) := by decide +kernel
theorem dX12_countOf_124 : decode cX12_countOf 124 = .ok (.getfield 94, 3) := by decide +kernel
theorem dX12_countOf_127 : decode cX12_countOf 127 = .ok (.ireturn, 1) := by decide +kernel
def KX12_countOf_4 (E : EV) (d : Nat) (rr : Option Value × Mem) (x1 : Int32) (I : Mem) (Kp : Int32 → Prop) : ((Int32 × Int32) ⊕ Int32) → Prop
  | .inl q => G E (d + 1) kX12_countOf 4 [some (.ref 74), some (.int x1), some (.int q.1), some (.int q.2)] [] I rr
  | .inr z => Kp z
def bX12_countOf_4 (x1 : Int32) (I : Mem) (x2 : Int32) (x3 : Int32) : Option ((Int32 × Int32) ⊕ Int32) :=
  if (5 : Int32) ≤ x3 then
  (if x1 = 0 then
  (chk (inb (0 : Int32) 632) <|
  some (.inr (I 75 (ix (0 : Int32)))))
  else
  (if x1 = 1 then
  (chk (inb (3 : Int32) 632) <|
  some (.inr (I 75 (ix (3 : Int32)))))
  else
  (if x1 = 2 then
  (some (.inr (x2 / (2 : Int32))))
  else
  (if x1 = 3 then
  (chk (inb (4 : Int32) 632) <|
  bnd (fX12_bits (I 75 (ix (4 : Int32))) I) fun v_9 =>
  some (.inr v_9))
  else
  (if x1 = 4 then
  (chk (inb (2 : Int32) 632) <|
  some (.inr (I 75 (ix (2 : Int32)))))
  else
  (if x1 = 5 then
  (chk (inb (44 : Int32) 632) <|
  some (.inr (I 75 (ix (44 : Int32)))))
  else
  (if x1 = 6 then
  (chk (inb (53 : Int32) 632) <|
  some (.inr (I 75 (ix (53 : Int32)))))
  else
  (some (.inr (I 74 3))))))))))
  else
  (chk (inb ((5 : Int32) + x3) 632) <|
  bnd (fX12_bits (I 75 (ix ((5 : Int32) + x3))) I) fun v_18 =>
  letb (x2 + v_18) fun x2_19 =>
  some (.inl (x2_19, (x3 + (1 : Int32)))))
def sX12_countOf_4 (x1 : Int32) (I : Mem) (q : (Int32 × Int32)) : Option ((Int32 × Int32) ⊕ Int32) := bX12_countOf_4 x1 I q.1 q.2
set_option maxRecDepth 20000 in
theorem wX12_countOf_4 (E : EV) (d : Nat) (rr : Option Value × Mem) (x1 : Int32) (I : Mem) (x2 : Int32) (x3 : Int32) (y : ((Int32 × Int32) ⊕ Int32)) (hf : bX12_countOf_4 x1 I x2 x3 = some y) (hK : (KX12_countOf_4 E d rr x1 I (fun (z : Int32) => (some (.int z), I) = rr)) y) : G E (d + 1) kX12_countOf 4 [some (.ref 74), some (.int x1), some (.int x2), some (.int x3)] [] I rr := by
  unfold bX12_countOf_4 at hf
  refine G.iload_n dX12_countOf_4 rfl rfl ?_
  refine G.iconst (v := 5) dX12_countOf_5 (by decide) ?_
  refine G.icmp_ge (tgt := 29) dX12_countOf_6 (by decide) (fun c_20 => ?_) (fun c_20 => ?_)
  · have hf := ite_t hf c_20
    refine G.iload_n dX12_countOf_29 rfl rfl ?_
    by_cases c_1 : x1 = 0
    · have hf := ite_t hf c_1
      refine G.tsw_at (j := 0) (tgt := 72) dX12_countOf_30 c_1 (by decide) (by decide) rfl (by decide) ?_
      refine G.aload_n dX12_countOf_72 rfl rfl ?_
      refine G.getR (q := 75) dX12_countOf_73 flX12_7 (by decide) rfl rfl ?_
      refine G.iconst (v := 0) dX12_countOf_76 (by decide) ?_
      obtain ⟨hi_2, hf⟩ := chk_at hf
      refine G.iald' dX12_countOf_77 (by decide) rfl rfl hi_2 ?_
      have hf := Option.some.inj hf
      subst hf
      exact G.iret' dX12_countOf_78 rfl hK
    · have hf := ite_f hf c_1
      by_cases c_3 : x1 = 1
      · have hf := ite_t hf c_3
        refine G.tsw_at (j := 1) (tgt := 79) dX12_countOf_30 c_3 (by decide) (by decide) rfl (by decide) ?_
        refine G.aload_n dX12_countOf_79 rfl rfl ?_
        refine G.getR (q := 75) dX12_countOf_80 flX12_7 (by decide) rfl rfl ?_
        refine G.iconst (v := 3) dX12_countOf_83 (by decide) ?_
        obtain ⟨hi_4, hf⟩ := chk_at hf
        refine G.iald' dX12_countOf_84 (by decide) rfl rfl hi_4 ?_
        have hf := Option.some.inj hf
        subst hf
        exact G.iret' dX12_countOf_85 rfl hK
      · have hf := ite_f hf c_3
        by_cases c_5 : x1 = 2
        · have hf := ite_t hf c_5
          refine G.tsw_at (j := 2) (tgt := 86) dX12_countOf_30 c_5 (by decide) (by decide) rfl (by decide) ?_
          refine G.iload_n dX12_countOf_86 rfl rfl ?_
          refine G.iconst (v := 2) dX12_countOf_87 (by decide) ?_
          refine G.idiv dX12_countOf_88 (by decide) ?_
          have hf := Option.some.inj hf
          subst hf
          exact G.iret' dX12_countOf_89 rfl hK
        · have hf := ite_f hf c_5
          by_cases c_6 : x1 = 3
          · have hf := ite_t hf c_6
            refine G.tsw_at (j := 3) (tgt := 90) dX12_countOf_30 c_6 (by decide) (by decide) rfl (by decide) ?_
            refine G.aload_n dX12_countOf_90 rfl rfl ?_
            refine G.getR (q := 75) dX12_countOf_91 flX12_7 (by decide) rfl rfl ?_
            refine G.iconst (v := 4) dX12_countOf_94 (by decide) ?_
            obtain ⟨hi_7, hf⟩ := chk_at hf
            refine G.iald' dX12_countOf_95 (by decide) rfl rfl hi_7 ?_
            obtain ⟨v_9, hc_8, hf⟩ := bnd_at hf
            refine G.callSi (av := [.int (I 75 (ix (4 : Int32)))]) (rest := []) dX12_countOf_96 msX12_250 (gX12_bits E d (I 75 (ix (4 : Int32))) I hc_8) rfl rfl (Nat.le_of_ble_eq_true rfl) ?_
            have hf := Option.some.inj hf
            subst hf
            exact G.iret' dX12_countOf_99 rfl hK
          · have hf := ite_f hf c_6
            by_cases c_10 : x1 = 4
            · have hf := ite_t hf c_10
              refine G.tsw_at (j := 4) (tgt := 100) dX12_countOf_30 c_10 (by decide) (by decide) rfl (by decide) ?_
              refine G.aload_n dX12_countOf_100 rfl rfl ?_
              refine G.getR (q := 75) dX12_countOf_101 flX12_7 (by decide) rfl rfl ?_
              refine G.iconst (v := 2) dX12_countOf_104 (by decide) ?_
              obtain ⟨hi_11, hf⟩ := chk_at hf
              refine G.iald' dX12_countOf_105 (by decide) rfl rfl hi_11 ?_
              have hf := Option.some.inj hf
              subst hf
              exact G.iret' dX12_countOf_106 rfl hK
            · have hf := ite_f hf c_10
              by_cases c_12 : x1 = 5
              · have hf := ite_t hf c_12
                refine G.tsw_at (j := 5) (tgt := 107) dX12_countOf_30 c_12 (by decide) (by decide) rfl (by decide) ?_
                refine G.aload_n dX12_countOf_107 rfl rfl ?_
                refine G.getR (q := 75) dX12_countOf_108 flX12_7 (by decide) rfl rfl ?_
                refine G.bipush (v := 44) dX12_countOf_111 (by decide) ?_
                obtain ⟨hi_13, hf⟩ := chk_at hf
                refine G.iald' dX12_countOf_113 (by decide) rfl rfl hi_13 ?_
                have hf := Option.some.inj hf
                subst hf
                exact G.iret' dX12_countOf_114 rfl hK
              · have hf := ite_f hf c_12
                by_cases c_14 : x1 = 6
                · have hf := ite_t hf c_14
                  refine G.tsw_at (j := 6) (tgt := 115) dX12_countOf_30 c_14 (by decide) (by decide) rfl (by decide) ?_
                  refine G.aload_n dX12_countOf_115 rfl rfl ?_
                  refine G.getR (q := 75) dX12_countOf_116 flX12_7 (by decide) rfl rfl ?_
                  refine G.bipush (v := 53) dX12_countOf_119 (by decide) ?_
                  obtain ⟨hi_15, hf⟩ := chk_at hf
                  refine G.iald' dX12_countOf_121 (by decide) rfl rfl hi_15 ?_
                  have hf := Option.some.inj hf
                  subst hf
                  exact G.iret' dX12_countOf_122 rfl hK
                · have hf := ite_f hf c_14
                  refine G.tsw_out (tgt := 123) dX12_countOf_30 (by have q0 := lv_neT (a := 0) c_1 rfl; have q1 := lv_neT (a := 1) c_3 rfl; have q2 := lv_neT (a := 2) c_5 rfl; have q3 := lv_neT (a := 3) c_6 rfl; have q4 := lv_neT (a := 4) c_10 rfl; have q5 := lv_neT (a := 5) c_12 rfl; have q6 := lv_neT (a := 6) c_14 rfl; omega) (by decide) ?_
                  refine G.aload_n dX12_countOf_123 rfl rfl ?_
                  refine G.getI dX12_countOf_124 flX12_94 (by decide) rfl ?_
                  have hf := Option.some.inj hf
                  subst hf
                  exact G.iret' dX12_countOf_127 rfl hK
  · have hf := ite_f hf c_20
    refine G.iload_n dX12_countOf_9 rfl rfl ?_
    refine G.aload_n dX12_countOf_10 rfl rfl ?_
    refine G.getR (q := 75) dX12_countOf_11 flX12_7 (by decide) rfl rfl ?_
    refine G.iconst (v := 5) dX12_countOf_14 (by decide) ?_
    refine G.iload_n dX12_countOf_15 rfl rfl ?_
    refine G.iadd dX12_countOf_16 ?_
    obtain ⟨hi_16, hf⟩ := chk_at hf
    refine G.iald' dX12_countOf_17 (by decide) rfl rfl hi_16 ?_
    obtain ⟨v_18, hc_17, hf⟩ := bnd_at hf
    refine G.callSi (av := [.int (I 75 (ix ((5 : Int32) + x3)))]) (rest := [.int x2]) dX12_countOf_18 msX12_250 (gX12_bits E d (I 75 (ix ((5 : Int32) + x3))) I hc_17) rfl rfl (Nat.le_of_ble_eq_true rfl) ?_
    refine G.iadd dX12_countOf_21 ?_
    refine G.nmi (fun x2_19 e_x2_19 => ?_)
    have hf := letb_at hf e_x2_19
    clear e_x2_19
    refine G.istore_n (L' := [some (.ref 74), some (.int x1), some (.int x2_19), some (.int x3)]) dX12_countOf_22 rfl (Nat.le_of_ble_eq_true rfl) (Nat.le_of_ble_eq_true rfl) rfl rfl ?_
    refine G.inc (w := 1) (L' := [some (.ref 74), some (.int x1), some (.int x2_19), some (.int (x3 + (1 : Int32)))]) dX12_countOf_23 (by decide) rfl (Nat.le_of_ble_eq_true rfl) rfl rfl ?_
    refine G.goto (tgt := 4) dX12_countOf_26 (by decide) ?_
    have hf := Option.some.inj hf
    subst hf
    exact hK
theorem lX12_countOf_4 (E : EV) (d : Nat) (rr : Option Value × Mem) (x1 : Int32) (I : Mem) (z : Int32) (hK : (fun (z : Int32) => (some (.int z), I) = rr) z) : ∀ (n : Nat) (q : (Int32 × Int32)), iter (sX12_countOf_4 x1 I) n q = some z → G E (d + 1) kX12_countOf 4 [some (.ref 74), some (.int x1), some (.int q.1), some (.int q.2)] [] I rr := by
  intro n
  induction n with
  | zero => intro q h; cases h
  | succ n ih =>
    intro q h
    rcases iter_at h with ⟨q2, hs, h2⟩ | hs
    · exact wX12_countOf_4 E d rr x1 I q.1 q.2 _ hs (ih q2 h2)
    · exact wX12_countOf_4 E d rr x1 I q.1 q.2 _ hs hK
def fX12_countOf (x1 : Int32) (I : Mem) : Option Int32 :=
  iter (sX12_countOf_4 x1 I) FU ((0 : Int32), (0 : Int32))
set_option maxRecDepth 20000 in
theorem gX12_countOf (E : EV) (d : Nat) (x1 : Int32) (I : Mem) {v : Int32} (hf : fX12_countOf x1 I = some v) : Gm E (d + 1) kX12_countOf [.ref 74, .int x1] I (some (.int v), I) := by
  refine (fun (y : Int32) (hf : fX12_countOf x1 I = some y) => (?_ : Gm E (d + 1) kX12_countOf [.ref 74, .int x1] I (some (.int y), I))) v hf
  refine Gm.of (by decide) rfl (Nat.le_of_ble_eq_true rfl) ?_
  generalize hrr : ((some (.int y), I) : Option Value × Mem) = rr
  show G E (d + 1) kX12_countOf 0 [some (.ref 74), some (.int x1), none, none] [] I rr
  have hK : (fun (z : Int32) => (some (.int z), I) = rr) y := hrr
  clear hrr
  unfold fX12_countOf at hf
  refine G.iconst (v := 0) dX12_countOf_0 (by decide) ?_
  refine G.istore_n (L' := [some (.ref 74), some (.int x1), some (.int (0 : Int32)), none]) dX12_countOf_1 rfl (Nat.le_of_ble_eq_true rfl) (Nat.le_of_ble_eq_true rfl) rfl rfl ?_
  refine G.iconst (v := 0) dX12_countOf_2 (by decide) ?_
  refine G.istore_n (L' := [some (.ref 74), some (.int x1), some (.int (0 : Int32)), some (.int (0 : Int32))]) dX12_countOf_3 rfl (Nat.le_of_ble_eq_true rfl) (Nat.le_of_ble_eq_true rfl) rfl rfl ?_
  exact lX12_countOf_4 E d rr x1 I _ hK FU _ hf
theorem dX12_count_0 : decode cX12_count 0 = .ok (.iload_n 1, 1) := by decide +kernel
theorem dX12_count_1 : decode cX12_count 1 = .ok (.i2l, 1) := by decide +kernel
theorem dX12_count_2 : decode cX12_count 2 = .ok (.lconst 0, 1) := by decide +kernel
theorem dX12_count_3 : decode cX12_count 3 = .ok (.ldc2_w 255, 3) := by decide +kernel
theorem dX12_count_6 : decode cX12_count 6 = .ok (.invokestatic 49, 3) := by decide +kernel
theorem dX12_count_9 : decode cX12_count 9 = .ok (.ifCond .eq 11, 3) := by decide +kernel
theorem dX12_count_12 : decode cX12_count 12 = .ok (.aload_n 0, 1) := by decide +kernel
theorem dX12_count_13 : decode cX12_count 13 = .ok (.iload_n 1, 1) := by decide +kernel
theorem dX12_count_14 : decode cX12_count 14 = .ok (.invokevirtual 257, 3) := by decide +kernel
theorem dX12_count_17 : decode cX12_count 17 = .ok (.goto 9, 3) := by decide +kernel
theorem dX12_count_20 : decode cX12_count 20 = .ok (.aload_n 0, 1) := by decide +kernel
theorem dX12_count_21 : decode cX12_count 21 = .ok (.bipush (-2), 2) := by decide +kernel
theorem dX12_count_23 : decode cX12_count 23 = .ok (.invokevirtual 59, 3) := by decide +kernel
theorem dX12_count_26 : decode cX12_count 26 = .ok (.ireturn, 1) := by decide +kernel
def fX12_count (x1 : Int32) (I : Mem) : Option (Int32 × Mem) :=
  bnd (fX12_in (Int32.toInt64 x1) (0 : Int64) (7 : Int64) I) fun v_2 =>
  if v_2 = 0 then
  (bnd2 (fX12_bad (-2 : Int32) I) fun v_4 I_5 =>
  some (v_4, I_5))
  else
  (bnd (fX12_countOf x1 I) fun v_7 =>
  some (v_7, I))
set_option maxRecDepth 20000 in
theorem gX12_count (E : EV) (d : Nat) (x1 : Int32) (I : Mem) {v : Int32} {J : Mem} (hf : fX12_count x1 I = some (v, J)) : Gm E (d + 2) kX12_count [.ref 74, .int x1] I (some (.int v), J) := by
  refine (fun (y : (Int32 × Mem)) (hf : fX12_count x1 I = some y) => (?_ : Gm E (d + 2) kX12_count [.ref 74, .int x1] I (some (.int y.1), y.2))) (v, J) hf
  refine Gm.of (by decide) rfl (Nat.le_of_ble_eq_true rfl) ?_
  generalize hrr : ((some (.int y.1), y.2) : Option Value × Mem) = rr
  show G E (d + 2) kX12_count 0 [some (.ref 74), some (.int x1)] [] I rr
  have hK : (fun (z : Int32 × Mem) => (some (.int z.1), z.2) = rr) y := hrr
  clear hrr
  unfold fX12_count at hf
  refine G.iload_n dX12_count_0 rfl rfl ?_
  refine G.i2l dX12_count_1 ?_
  refine G.lconst (v := 0) dX12_count_2 (by decide) ?_
  refine G.ldc2 (v := 7) dX12_count_3 kcX12_255 ?_
  obtain ⟨v_2, hc_1, hf⟩ := bnd_at hf
  refine G.callSi (av := [.long (Int32.toInt64 x1), .long (0 : Int64), .long (7 : Int64)]) (rest := []) dX12_count_6 msX12_49 (gX12_in E (d + 1) (Int32.toInt64 x1) (0 : Int64) (7 : Int64) I hc_1) rfl rfl (Nat.le_of_ble_eq_true rfl) ?_
  refine G.if_eq (tgt := 20) dX12_count_9 (by decide) (fun c_8 => ?_) (fun c_8 => ?_)
  · have hf := ite_t hf c_8
    refine G.aload_n dX12_count_20 rfl rfl ?_
    refine G.bipush (v := -2) dX12_count_21 (by decide) ?_
    obtain ⟨v_4, I_5, hc_3, hf⟩ := bnd2_at hf
    refine G.callVi (av := [.int (-2 : Int32)]) (rest := []) dX12_count_23 mvX12_59 (gX12_bad E (d + 1) (-2 : Int32) I hc_3) (by decide) rfl rfl rfl (Nat.le_of_ble_eq_true rfl) ?_
    have hf := Option.some.inj hf
    subst hf
    exact G.iret' dX12_count_26 rfl hK
  · have hf := ite_f hf c_8
    refine G.aload_n dX12_count_12 rfl rfl ?_
    refine G.iload_n dX12_count_13 rfl rfl ?_
    obtain ⟨v_7, hc_6, hf⟩ := bnd_at hf
    refine G.callVi (av := [.int x1]) (rest := []) dX12_count_14 mvX12_257 (gX12_countOf E d x1 I hc_6) (by decide) rfl rfl rfl (Nat.le_of_ble_eq_true rfl) ?_
    refine G.goto (tgt := 26) dX12_count_17 (by decide) ?_
    have hf := Option.some.inj hf
    subst hf
    exact G.iret' dX12_count_26 rfl hK
theorem dX12_digest_0 : decode cX12_digest 0 = .ok (.ldc2_w 260, 3) := by decide +kernel
theorem dX12_digest_3 : decode cX12_digest 3 = .ok (.lstore_n 1, 1) := by decide +kernel
theorem dX12_digest_4 : decode cX12_digest 4 = .ok (.iconst 0, 1) := by decide +kernel
theorem dX12_digest_5 : decode cX12_digest 5 = .ok (.istore_n 3, 1) := by decide +kernel
theorem dX12_digest_6 : decode cX12_digest 6 = .ok (.iload_n 3, 1) := by decide +kernel
theorem dX12_digest_7 : decode cX12_digest 7 = .ok (.bipush 8, 2) := by decide +kernel
theorem dX12_digest_9 : decode cX12_digest 9 = .ok (.if_icmp .ge 22, 3) := by decide +kernel
theorem dX12_digest_12 : decode cX12_digest 12 = .ok (.ldc2_w 262, 3) := by decide +kernel
theorem dX12_digest_15 : decode cX12_digest 15 = .ok (.lload_n 1, 1) := by decide +kernel
theorem dX12_digest_16 : decode cX12_digest 16 = .ok (.lmul, 1) := by decide +kernel
theorem dX12_digest_17 : decode cX12_digest 17 = .ok (.aload_n 0, 1) := by decide +kernel
theorem dX12_digest_18 : decode cX12_digest 18 = .ok (.iload_n 3, 1) := by decide +kernel
theorem dX12_digest_19 : decode cX12_digest 19 = .ok (.invokevirtual 257, 3) := by decide +kernel
theorem dX12_digest_22 : decode cX12_digest 22 = .ok (.i2l, 1) := by decide +kernel
theorem dX12_digest_23 : decode cX12_digest 23 = .ok (.ladd, 1) := by decide +kernel
theorem dX12_digest_24 : decode cX12_digest 24 = .ok (.lstore_n 1, 1) := by decide +kernel
theorem dX12_digest_25 : decode cX12_digest 25 = .ok (.iinc 3 1, 3) := by decide +kernel
theorem dX12_digest_28 : decode cX12_digest 28 = .ok (.goto (-22), 3) := by decide +kernel
theorem dX12_digest_31 : decode cX12_digest 31 = .ok (.ldc2_w 262, 3) := by decide +kernel
theorem dX12_digest_34 : decode cX12_digest 34 = .ok (.lload_n 1, 1) := by decide +kernel
theorem dX12_digest_35 : decode cX12_digest 35 = .ok (.lmul, 1) := by decide +kernel
theorem dX12_digest_36 : decode cX12_digest 36 = .ok (.aload_n 0, 1) := by decide +kernel
theorem dX12_digest_37 : decode cX12_digest 37 = .ok (.getfield 7, 3) := by decide +kernel
theorem dX12_digest_40 : decode cX12_digest 40 = .ok (.iconst 1, 1) := by decide +kernel
theorem dX12_digest_41 : decode cX12_digest 41 = .ok (.iaload, 1) := by decide +kernel
theorem dX12_digest_42 : decode cX12_digest 42 = .ok (.i2l, 1) := by decide +kernel
theorem dX12_digest_43 : decode cX12_digest 43 = .ok (.ladd, 1) := by decide +kernel
theorem dX12_digest_44 : decode cX12_digest 44 = .ok (.lstore_n 1, 1) := by decide +kernel
theorem dX12_digest_45 : decode cX12_digest 45 = .ok (.ldc2_w 262, 3) := by decide +kernel
theorem dX12_digest_48 : decode cX12_digest 48 = .ok (.lload_n 1, 1) := by decide +kernel
theorem dX12_digest_49 : decode cX12_digest 49 = .ok (.lmul, 1) := by decide +kernel
theorem dX12_digest_50 : decode cX12_digest 50 = .ok (.aload_n 0, 1) := by decide +kernel
theorem dX12_digest_51 : decode cX12_digest 51 = .ok (.invokevirtual 173, 3) := by decide +kernel
theorem dX12_digest_54 : decode cX12_digest 54 = .ok (.i2l, 1) := by decide +kernel
theorem dX12_digest_55 : decode cX12_digest 55 = .ok (.ladd, 1) := by decide +kernel
theorem dX12_digest_56 : decode cX12_digest 56 = .ok (.lstore_n 1, 1) := by decide +kernel
theorem dX12_digest_57 : decode cX12_digest 57 = .ok (.iconst 0, 1) := by decide +kernel
theorem dX12_digest_58 : decode cX12_digest 58 = .ok (.istore_n 3, 1) := by decide +kernel
theorem dX12_digest_59 : decode cX12_digest 59 = .ok (.iload_n 3, 1) := by decide +kernel
theorem dX12_digest_60 : decode cX12_digest 60 = .ok (.aload_n 0, 1) := by decide +kernel
theorem dX12_digest_61 : decode cX12_digest 61 = .ok (.getfield 7, 3) := by decide +kernel
theorem dX12_digest_64 : decode cX12_digest 64 = .ok (.iconst 3, 1) := by decide +kernel
theorem dX12_digest_65 : decode cX12_digest 65 = .ok (.iaload, 1) := by decide +kernel
theorem dX12_digest_66 : decode cX12_digest 66 = .ok (.if_icmp .ge 63, 3) := by decide +kernel
theorem dX12_digest_69 : decode cX12_digest 69 = .ok (.ldc2_w 262, 3) := by decide +kernel
theorem dX12_digest_72 : decode cX12_digest 72 = .ok (.lload_n 1, 1) := by decide +kernel
theorem dX12_digest_73 : decode cX12_digest 73 = .ok (.lmul, 1) := by decide +kernel
theorem dX12_digest_74 : decode cX12_digest 74 = .ok (.aload_n 0, 1) := by decide +kernel
theorem dX12_digest_75 : decode cX12_digest 75 = .ok (.getfield 7, 3) := by decide +kernel
theorem dX12_digest_78 : decode cX12_digest 78 = .ok (.bipush 24, 2) := by decide +kernel
theorem dX12_digest_80 : decode cX12_digest 80 = .ok (.iload_n 3, 1) := by decide +kernel
theorem dX12_digest_81 : decode cX12_digest 81 = .ok (.iadd, 1) := by decide +kernel
theorem dX12_digest_82 : decode cX12_digest 82 = .ok (.iaload, 1) := by decide +kernel
theorem dX12_digest_83 : decode cX12_digest 83 = .ok (.i2l, 1) := by decide +kernel
theorem dX12_digest_84 : decode cX12_digest 84 = .ok (.ladd, 1) := by decide +kernel
theorem dX12_digest_85 : decode cX12_digest 85 = .ok (.lstore_n 1, 1) := by decide +kernel
theorem dX12_digest_86 : decode cX12_digest 86 = .ok (.iconst 0, 1) := by decide +kernel
theorem dX12_digest_87 : decode cX12_digest 87 = .ok (.istore 4, 2) := by decide +kernel
theorem dX12_digest_89 : decode cX12_digest 89 = .ok (.iload 4, 2) := by decide +kernel
theorem dX12_digest_91 : decode cX12_digest 91 = .ok (.iconst 4, 1) := by decide +kernel
theorem dX12_digest_92 : decode cX12_digest 92 = .ok (.if_icmp .ge 31, 3) := by decide +kernel
theorem dX12_digest_95 : decode cX12_digest 95 = .ok (.ldc2_w 262, 3) := by decide +kernel
theorem dX12_digest_98 : decode cX12_digest 98 = .ok (.lload_n 1, 1) := by decide +kernel
theorem dX12_digest_99 : decode cX12_digest 99 = .ok (.lmul, 1) := by decide +kernel
theorem dX12_digest_100 : decode cX12_digest 100 = .ok (.aload_n 0, 1) := by decide +kernel
theorem dX12_digest_101 : decode cX12_digest 101 = .ok (.getfield 7, 3) := by decide +kernel
theorem dX12_digest_104 : decode cX12_digest 104 = .ok (.bipush 28, 2) := by decide +kernel
theorem dX12_digest_106 : decode cX12_digest 106 = .ok (.iconst 4, 1) := by decide +kernel
theorem dX12_digest_107 : decode cX12_digest 107 = .ok (.iload_n 3, 1) := by decide +kernel
theorem dX12_digest_108 : decode cX12_digest 108 = .ok (.imul, 1) := by decide +kernel
theorem dX12_digest_109 : decode cX12_digest 109 = .ok (.iadd, 1) := by decide +kernel
theorem dX12_digest_110 : decode cX12_digest 110 = .ok (.iload 4, 2) := by decide +kernel
theorem dX12_digest_112 : decode cX12_digest 112 = .ok (.iadd, 1) := by decide +kernel
theorem dX12_digest_113 : decode cX12_digest 113 = .ok (.iaload, 1) := by decide +kernel
theorem dX12_digest_114 : decode cX12_digest 114 = .ok (.i2l, 1) := by decide +kernel
theorem dX12_digest_115 : decode cX12_digest 115 = .ok (.ladd, 1) := by decide +kernel
theorem dX12_digest_116 : decode cX12_digest 116 = .ok (.lstore_n 1, 1) := by decide +kernel
theorem dX12_digest_117 : decode cX12_digest 117 = .ok (.iinc 4 1, 3) := by decide +kernel
theorem dX12_digest_120 : decode cX12_digest 120 = .ok (.goto (-31), 3) := by decide +kernel
theorem dX12_digest_123 : decode cX12_digest 123 = .ok (.iinc 3 1, 3) := by decide +kernel
theorem dX12_digest_126 : decode cX12_digest 126 = .ok (.goto (-67), 3) := by decide +kernel
theorem dX12_digest_129 : decode cX12_digest 129 = .ok (.iconst 0, 1) := by decide +kernel
theorem dX12_digest_130 : decode cX12_digest 130 = .ok (.istore_n 3, 1) := by decide +kernel
theorem dX12_digest_131 : decode cX12_digest 131 = .ok (.iload_n 3, 1) := by decide +kernel
theorem dX12_digest_132 : decode cX12_digest 132 = .ok (.aload_n 0, 1) := by decide +kernel
theorem dX12_digest_133 : decode cX12_digest 133 = .ok (.getfield 7, 3) := by decide +kernel
theorem dX12_digest_136 : decode cX12_digest 136 = .ok (.iconst 0, 1) := by decide +kernel
theorem dX12_digest_137 : decode cX12_digest 137 = .ok (.iaload, 1) := by decide +kernel
theorem dX12_digest_138 : decode cX12_digest 138 = .ok (.if_icmp .ge 77, 3) := by decide +kernel
theorem dX12_digest_141 : decode cX12_digest 141 = .ok (.ldc2_w 262, 3) := by decide +kernel
theorem dX12_digest_144 : decode cX12_digest 144 = .ok (.lload_n 1, 1) := by decide +kernel
theorem dX12_digest_145 : decode cX12_digest 145 = .ok (.lmul, 1) := by decide +kernel
theorem dX12_digest_146 : decode cX12_digest 146 = .ok (.aload_n 0, 1) := by decide +kernel
theorem dX12_digest_147 : decode cX12_digest 147 = .ok (.getfield 7, 3) := by decide +kernel
theorem dX12_digest_150 : decode cX12_digest 150 = .ok (.bipush 10, 2) := by decide +kernel
theorem dX12_digest_152 : decode cX12_digest 152 = .ok (.iload_n 3, 1) := by decide +kernel
theorem dX12_digest_153 : decode cX12_digest 153 = .ok (.iadd, 1) := by decide +kernel
theorem dX12_digest_154 : decode cX12_digest 154 = .ok (.iaload, 1) := by decide +kernel
theorem dX12_digest_155 : decode cX12_digest 155 = .ok (.i2l, 1) := by decide +kernel
theorem dX12_digest_156 : decode cX12_digest 156 = .ok (.ladd, 1) := by decide +kernel
theorem dX12_digest_157 : decode cX12_digest 157 = .ok (.lstore_n 1, 1) := by decide +kernel
theorem dX12_digest_158 : decode cX12_digest 158 = .ok (.ldc2_w 262, 3) := by decide +kernel
theorem dX12_digest_161 : decode cX12_digest 161 = .ok (.lload_n 1, 1) := by decide +kernel
theorem dX12_digest_162 : decode cX12_digest 162 = .ok (.lmul, 1) := by decide +kernel
theorem dX12_digest_163 : decode cX12_digest 163 = .ok (.aload_n 0, 1) := by decide +kernel
theorem dX12_digest_164 : decode cX12_digest 164 = .ok (.getfield 7, 3) := by decide +kernel
theorem dX12_digest_167 : decode cX12_digest 167 = .ok (.iconst 4, 1) := by decide +kernel
theorem dX12_digest_168 : decode cX12_digest 168 = .ok (.iaload, 1) := by decide +kernel
theorem dX12_digest_169 : decode cX12_digest 169 = .ok (.iload_n 3, 1) := by decide +kernel
theorem dX12_digest_170 : decode cX12_digest 170 = .ok (.ishr, 1) := by decide +kernel
theorem dX12_digest_171 : decode cX12_digest 171 = .ok (.iconst 1, 1) := by decide +kernel
theorem dX12_digest_172 : decode cX12_digest 172 = .ok (.iand, 1) := by decide +kernel
theorem dX12_digest_173 : decode cX12_digest 173 = .ok (.i2l, 1) := by decide +kernel
theorem dX12_digest_174 : decode cX12_digest 174 = .ok (.ladd, 1) := by decide +kernel
theorem dX12_digest_175 : decode cX12_digest 175 = .ok (.lstore_n 1, 1) := by decide +kernel
theorem dX12_digest_176 : decode cX12_digest 176 = .ok (.ldc2_w 262, 3) := by decide +kernel
theorem dX12_digest_179 : decode cX12_digest 179 = .ok (.lload_n 1, 1) := by decide +kernel
theorem dX12_digest_180 : decode cX12_digest 180 = .ok (.lmul, 1) := by decide +kernel
theorem dX12_digest_181 : decode cX12_digest 181 = .ok (.aload_n 0, 1) := by decide +kernel
theorem dX12_digest_182 : decode cX12_digest 182 = .ok (.getfield 7, 3) := by decide +kernel
theorem dX12_digest_185 : decode cX12_digest 185 = .ok (.iconst 5, 1) := by decide +kernel
theorem dX12_digest_186 : decode cX12_digest 186 = .ok (.iload_n 3, 1) := by decide +kernel
theorem dX12_digest_187 : decode cX12_digest 187 = .ok (.iadd, 1) := by decide +kernel
theorem dX12_digest_188 : decode cX12_digest 188 = .ok (.iaload, 1) := by decide +kernel
theorem dX12_digest_189 : decode cX12_digest 189 = .ok (.i2l, 1) := by decide +kernel
theorem dX12_digest_190 : decode cX12_digest 190 = .ok (.ladd, 1) := by decide +kernel
theorem dX12_digest_191 : decode cX12_digest 191 = .ok (.lstore_n 1, 1) := by decide +kernel
theorem dX12_digest_192 : decode cX12_digest 192 = .ok (.ldc2_w 262, 3) := by decide +kernel
theorem dX12_digest_195 : decode cX12_digest 195 = .ok (.lload_n 1, 1) := by decide +kernel
theorem dX12_digest_196 : decode cX12_digest 196 = .ok (.lmul, 1) := by decide +kernel
theorem dX12_digest_197 : decode cX12_digest 197 = .ok (.aload_n 0, 1) := by decide +kernel
theorem dX12_digest_198 : decode cX12_digest 198 = .ok (.getfield 7, 3) := by decide +kernel
theorem dX12_digest_201 : decode cX12_digest 201 = .ok (.bipush 15, 2) := by decide +kernel
theorem dX12_digest_203 : decode cX12_digest 203 = .ok (.iload_n 3, 1) := by decide +kernel
theorem dX12_digest_204 : decode cX12_digest 204 = .ok (.iadd, 1) := by decide +kernel
theorem dX12_digest_205 : decode cX12_digest 205 = .ok (.iaload, 1) := by decide +kernel
theorem dX12_digest_206 : decode cX12_digest 206 = .ok (.i2l, 1) := by decide +kernel
theorem dX12_digest_207 : decode cX12_digest 207 = .ok (.ladd, 1) := by decide +kernel
theorem dX12_digest_208 : decode cX12_digest 208 = .ok (.lstore_n 1, 1) := by decide +kernel
theorem dX12_digest_209 : decode cX12_digest 209 = .ok (.iinc 3 1, 3) := by decide +kernel
theorem dX12_digest_212 : decode cX12_digest 212 = .ok (.goto (-81), 3) := by decide +kernel
theorem dX12_digest_215 : decode cX12_digest 215 = .ok (.iconst 0, 1) := by decide +kernel
theorem dX12_digest_216 : decode cX12_digest 216 = .ok (.istore_n 3, 1) := by decide +kernel
theorem dX12_digest_217 : decode cX12_digest 217 = .ok (.iload_n 3, 1) := by decide +kernel
theorem dX12_digest_218 : decode cX12_digest 218 = .ok (.aload_n 0, 1) := by decide +kernel
theorem dX12_digest_219 : decode cX12_digest 219 = .ok (.getfield 7, 3) := by decide +kernel
theorem dX12_digest_222 : decode cX12_digest 222 = .ok (.bipush 44, 2) := by decide +kernel
theorem dX12_digest_224 : decode cX12_digest 224 = .ok (.iaload, 1) := by decide +kernel
theorem dX12_digest_225 : decode cX12_digest 225 = .ok (.if_icmp .ge 26, 3) := by decide +kernel
theorem dX12_digest_228 : decode cX12_digest 228 = .ok (.ldc2_w 262, 3) := by decide +kernel
theorem dX12_digest_231 : decode cX12_digest 231 = .ok (.lload_n 1, 1) := by decide +kernel
theorem dX12_digest_232 : decode cX12_digest 232 = .ok (.lmul, 1) := by decide +kernel
theorem dX12_digest_233 : decode cX12_digest 233 = .ok (.aload_n 0, 1) := by decide +kernel
theorem dX12_digest_234 : decode cX12_digest 234 = .ok (.getfield 7, 3) := by decide +kernel
theorem dX12_digest_237 : decode cX12_digest 237 = .ok (.bipush 45, 2) := by decide +kernel
theorem dX12_digest_239 : decode cX12_digest 239 = .ok (.iload_n 3, 1) := by decide +kernel
theorem dX12_digest_240 : decode cX12_digest 240 = .ok (.iadd, 1) := by decide +kernel
theorem dX12_digest_241 : decode cX12_digest 241 = .ok (.iaload, 1) := by decide +kernel
theorem dX12_digest_242 : decode cX12_digest 242 = .ok (.i2l, 1) := by decide +kernel
theorem dX12_digest_243 : decode cX12_digest 243 = .ok (.ladd, 1) := by decide +kernel
theorem dX12_digest_244 : decode cX12_digest 244 = .ok (.lstore_n 1, 1) := by decide +kernel
theorem dX12_digest_245 : decode cX12_digest 245 = .ok (.iinc 3 1, 3) := by decide +kernel
theorem dX12_digest_248 : decode cX12_digest 248 = .ok (.goto (-31), 3) := by decide +kernel
theorem dX12_digest_251 : decode cX12_digest 251 = .ok (.lload_n 1, 1) := by decide +kernel
theorem dX12_digest_252 : decode cX12_digest 252 = .ok (.lreturn, 1) := by decide +kernel
def KX12_digest_6 (E : EV) (d : Nat) (rr : Option Value × Mem) (I : Mem) (Kp : Int64 → Prop) : ((Int64 × Int32) ⊕ Int64) → Prop
  | .inl q => G E (d + 2) kX12_digest 6 [some (.ref 74), some (.long q.1), none, some (.int q.2), none] [] I rr
  | .inr z => Kp z
def KX12_digest_59 (E : EV) (d : Nat) (rr : Option Value × Mem) (I : Mem) (Kp : Int64 → Prop) : ((Int64 × Int32) ⊕ Int64) → Prop
  | .inl q => G E (d + 2) kX12_digest 59 [some (.ref 74), some (.long q.1), none, some (.int q.2), none] [] I rr
  | .inr z => Kp z
def KX12_digest_131 (E : EV) (d : Nat) (rr : Option Value × Mem) (I : Mem) (Kp : Int64 → Prop) : ((Int64 × Int32) ⊕ Int64) → Prop
  | .inl q => G E (d + 2) kX12_digest 131 [some (.ref 74), some (.long q.1), none, some (.int q.2), none] [] I rr
  | .inr z => Kp z
def KX12_digest_217 (E : EV) (d : Nat) (rr : Option Value × Mem) (I : Mem) (Kp : Int64 → Prop) : ((Int64 × Int32) ⊕ Int64) → Prop
  | .inl q => G E (d + 2) kX12_digest 217 [some (.ref 74), some (.long q.1), none, some (.int q.2), none] [] I rr
  | .inr z => Kp z
def bX12_digest_217 (I : Mem) (l1 : Int64) (x3 : Int32) : Option ((Int64 × Int32) ⊕ Int64) :=
  chk (inb (44 : Int32) 632) <|
  if (I 75 (ix (44 : Int32))) ≤ x3 then
  (some (.inr l1))
  else
  (chk (inb ((45 : Int32) + x3) 632) <|
  letb (((31 : Int64) * l1) + (Int32.toInt64 (I 75 (ix ((45 : Int32) + x3))))) fun l1_10 =>
  some (.inl (l1_10, (x3 + (1 : Int32)))))
def sX12_digest_217 (I : Mem) (q : (Int64 × Int32)) : Option ((Int64 × Int32) ⊕ Int64) := bX12_digest_217 I q.1 q.2
set_option maxRecDepth 20000 in
theorem wX12_digest_217 (E : EV) (d : Nat) (rr : Option Value × Mem) (I : Mem) (l1 : Int64) (x3 : Int32) (y : ((Int64 × Int32) ⊕ Int64)) (hf : bX12_digest_217 I l1 x3 = some y) (hK : (KX12_digest_217 E d rr I (fun (z : Int64) => (some (.long z), I) = rr)) y) : G E (d + 2) kX12_digest 217 [some (.ref 74), some (.long l1), none, some (.int x3), none] [] I rr := by
  unfold bX12_digest_217 at hf
  refine G.iload_n dX12_digest_217 rfl rfl ?_
  refine G.aload_n dX12_digest_218 rfl rfl ?_
  refine G.getR (q := 75) dX12_digest_219 flX12_7 (by decide) rfl rfl ?_
  refine G.bipush (v := 44) dX12_digest_222 (by decide) ?_
  obtain ⟨hi_8, hf⟩ := chk_at hf
  refine G.iald' dX12_digest_224 (by decide) rfl rfl hi_8 ?_
  refine G.icmp_ge (tgt := 251) dX12_digest_225 (by decide) (fun c_11 => ?_) (fun c_11 => ?_)
  · have hf := ite_t hf c_11
    refine G.lload_n dX12_digest_251 rfl rfl ?_
    have hf := Option.some.inj hf
    subst hf
    exact G.lret' dX12_digest_252 rfl hK
  · have hf := ite_f hf c_11
    refine G.ldc2 (v := 31) dX12_digest_228 kcX12_262 ?_
    refine G.lload_n dX12_digest_231 rfl rfl ?_
    refine G.lmul dX12_digest_232 ?_
    refine G.aload_n dX12_digest_233 rfl rfl ?_
    refine G.getR (q := 75) dX12_digest_234 flX12_7 (by decide) rfl rfl ?_
    refine G.bipush (v := 45) dX12_digest_237 (by decide) ?_
    refine G.iload_n dX12_digest_239 rfl rfl ?_
    refine G.iadd dX12_digest_240 ?_
    obtain ⟨hi_9, hf⟩ := chk_at hf
    refine G.iald' dX12_digest_241 (by decide) rfl rfl hi_9 ?_
    refine G.i2l dX12_digest_242 ?_
    refine G.ladd dX12_digest_243 ?_
    refine G.nml (fun l1_10 e_l1_10 => ?_)
    have hf := letb_at hf e_l1_10
    clear e_l1_10
    refine G.lstore_n (L' := [some (.ref 74), some (.long l1_10), none, some (.int x3), none]) dX12_digest_244 rfl (Nat.le_of_ble_eq_true rfl) (Nat.le_of_ble_eq_true rfl) rfl rfl ?_
    refine G.inc (w := 1) (L' := [some (.ref 74), some (.long l1_10), none, some (.int (x3 + (1 : Int32))), none]) dX12_digest_245 (by decide) rfl (Nat.le_of_ble_eq_true rfl) rfl rfl ?_
    refine G.goto (tgt := 217) dX12_digest_248 (by decide) ?_
    have hf := Option.some.inj hf
    subst hf
    exact hK
theorem lX12_digest_217 (E : EV) (d : Nat) (rr : Option Value × Mem) (I : Mem) (z : Int64) (hK : (fun (z : Int64) => (some (.long z), I) = rr) z) : ∀ (n : Nat) (q : (Int64 × Int32)), iter (sX12_digest_217 I) n q = some z → G E (d + 2) kX12_digest 217 [some (.ref 74), some (.long q.1), none, some (.int q.2), none] [] I rr := by
  intro n
  induction n with
  | zero => intro q h; cases h
  | succ n ih =>
    intro q h
    rcases iter_at h with ⟨q2, hs, h2⟩ | hs
    · exact wX12_digest_217 E d rr I q.1 q.2 _ hs (ih q2 h2)
    · exact wX12_digest_217 E d rr I q.1 q.2 _ hs hK
def bX12_digest_131 (I : Mem) (l1 : Int64) (x3 : Int32) : Option ((Int64 × Int32) ⊕ Int64) :=
  chk (inb (0 : Int32) 632) <|
  if (I 75 (ix (0 : Int32))) ≤ x3 then
  (inrO (iter (sX12_digest_217 I) FU (l1, (0 : Int32))))
  else
  (chk (inb ((10 : Int32) + x3) 632) <|
  letb (((31 : Int64) * l1) + (Int32.toInt64 (I 75 (ix ((10 : Int32) + x3))))) fun l1_14 =>
  chk (inb (4 : Int32) 632) <|
  letb (((31 : Int64) * l1_14) + (Int32.toInt64 (((I 75 (ix (4 : Int32))) >>> (x3 &&& 31)) &&& (1 : Int32)))) fun l1_16 =>
  chk (inb ((5 : Int32) + x3) 632) <|
  letb (((31 : Int64) * l1_16) + (Int32.toInt64 (I 75 (ix ((5 : Int32) + x3))))) fun l1_18 =>
  chk (inb ((15 : Int32) + x3) 632) <|
  letb (((31 : Int64) * l1_18) + (Int32.toInt64 (I 75 (ix ((15 : Int32) + x3))))) fun l1_20 =>
  some (.inl (l1_20, (x3 + (1 : Int32)))))
def sX12_digest_131 (I : Mem) (q : (Int64 × Int32)) : Option ((Int64 × Int32) ⊕ Int64) := bX12_digest_131 I q.1 q.2
set_option maxRecDepth 20000 in
theorem wX12_digest_131 (E : EV) (d : Nat) (rr : Option Value × Mem) (I : Mem) (l1 : Int64) (x3 : Int32) (y : ((Int64 × Int32) ⊕ Int64)) (hf : bX12_digest_131 I l1 x3 = some y) (hK : (KX12_digest_131 E d rr I (fun (z : Int64) => (some (.long z), I) = rr)) y) : G E (d + 2) kX12_digest 131 [some (.ref 74), some (.long l1), none, some (.int x3), none] [] I rr := by
  unfold bX12_digest_131 at hf
  refine G.iload_n dX12_digest_131 rfl rfl ?_
  refine G.aload_n dX12_digest_132 rfl rfl ?_
  refine G.getR (q := 75) dX12_digest_133 flX12_7 (by decide) rfl rfl ?_
  refine G.iconst (v := 0) dX12_digest_136 (by decide) ?_
  obtain ⟨hi_7, hf⟩ := chk_at hf
  refine G.iald' dX12_digest_137 (by decide) rfl rfl hi_7 ?_
  refine G.icmp_ge (tgt := 215) dX12_digest_138 (by decide) (fun c_21 => ?_) (fun c_21 => ?_)
  · have hf := ite_t hf c_21
    refine G.iconst (v := 0) dX12_digest_215 (by decide) ?_
    refine G.istore_n (L' := [some (.ref 74), some (.long l1), none, some (.int (0 : Int32)), none]) dX12_digest_216 rfl (Nat.le_of_ble_eq_true rfl) (Nat.le_of_ble_eq_true rfl) rfl rfl ?_
    obtain ⟨z_12, hz_12, rfl⟩ := inrO_at hf
    have hf := hz_12
    exact lX12_digest_217 E d rr I _ hK FU _ hf
  · have hf := ite_f hf c_21
    refine G.ldc2 (v := 31) dX12_digest_141 kcX12_262 ?_
    refine G.lload_n dX12_digest_144 rfl rfl ?_
    refine G.lmul dX12_digest_145 ?_
    refine G.aload_n dX12_digest_146 rfl rfl ?_
    refine G.getR (q := 75) dX12_digest_147 flX12_7 (by decide) rfl rfl ?_
    refine G.bipush (v := 10) dX12_digest_150 (by decide) ?_
    refine G.iload_n dX12_digest_152 rfl rfl ?_
    refine G.iadd dX12_digest_153 ?_
    obtain ⟨hi_13, hf⟩ := chk_at hf
    refine G.iald' dX12_digest_154 (by decide) rfl rfl hi_13 ?_
    refine G.i2l dX12_digest_155 ?_
    refine G.ladd dX12_digest_156 ?_
    refine G.nml (fun l1_14 e_l1_14 => ?_)
    have hf := letb_at hf e_l1_14
    clear e_l1_14
    refine G.lstore_n (L' := [some (.ref 74), some (.long l1_14), none, some (.int x3), none]) dX12_digest_157 rfl (Nat.le_of_ble_eq_true rfl) (Nat.le_of_ble_eq_true rfl) rfl rfl ?_
    refine G.ldc2 (v := 31) dX12_digest_158 kcX12_262 ?_
    refine G.lload_n dX12_digest_161 rfl rfl ?_
    refine G.lmul dX12_digest_162 ?_
    refine G.aload_n dX12_digest_163 rfl rfl ?_
    refine G.getR (q := 75) dX12_digest_164 flX12_7 (by decide) rfl rfl ?_
    refine G.iconst (v := 4) dX12_digest_167 (by decide) ?_
    obtain ⟨hi_15, hf⟩ := chk_at hf
    refine G.iald' dX12_digest_168 (by decide) rfl rfl hi_15 ?_
    refine G.iload_n dX12_digest_169 rfl rfl ?_
    refine G.ishr dX12_digest_170 ?_
    refine G.iconst (v := 1) dX12_digest_171 (by decide) ?_
    refine G.iand dX12_digest_172 ?_
    refine G.i2l dX12_digest_173 ?_
    refine G.ladd dX12_digest_174 ?_
    refine G.nml (fun l1_16 e_l1_16 => ?_)
    have hf := letb_at hf e_l1_16
    clear e_l1_16
    refine G.lstore_n (L' := [some (.ref 74), some (.long l1_16), none, some (.int x3), none]) dX12_digest_175 rfl (Nat.le_of_ble_eq_true rfl) (Nat.le_of_ble_eq_true rfl) rfl rfl ?_
    refine G.ldc2 (v := 31) dX12_digest_176 kcX12_262 ?_
    refine G.lload_n dX12_digest_179 rfl rfl ?_
    refine G.lmul dX12_digest_180 ?_
    refine G.aload_n dX12_digest_181 rfl rfl ?_
    refine G.getR (q := 75) dX12_digest_182 flX12_7 (by decide) rfl rfl ?_
    refine G.iconst (v := 5) dX12_digest_185 (by decide) ?_
    refine G.iload_n dX12_digest_186 rfl rfl ?_
    refine G.iadd dX12_digest_187 ?_
    obtain ⟨hi_17, hf⟩ := chk_at hf
    refine G.iald' dX12_digest_188 (by decide) rfl rfl hi_17 ?_
    refine G.i2l dX12_digest_189 ?_
    refine G.ladd dX12_digest_190 ?_
    refine G.nml (fun l1_18 e_l1_18 => ?_)
    have hf := letb_at hf e_l1_18
    clear e_l1_18
    refine G.lstore_n (L' := [some (.ref 74), some (.long l1_18), none, some (.int x3), none]) dX12_digest_191 rfl (Nat.le_of_ble_eq_true rfl) (Nat.le_of_ble_eq_true rfl) rfl rfl ?_
    refine G.ldc2 (v := 31) dX12_digest_192 kcX12_262 ?_
    refine G.lload_n dX12_digest_195 rfl rfl ?_
    refine G.lmul dX12_digest_196 ?_
    refine G.aload_n dX12_digest_197 rfl rfl ?_
    refine G.getR (q := 75) dX12_digest_198 flX12_7 (by decide) rfl rfl ?_
    refine G.bipush (v := 15) dX12_digest_201 (by decide) ?_
    refine G.iload_n dX12_digest_203 rfl rfl ?_
    refine G.iadd dX12_digest_204 ?_
    obtain ⟨hi_19, hf⟩ := chk_at hf
    refine G.iald' dX12_digest_205 (by decide) rfl rfl hi_19 ?_
    refine G.i2l dX12_digest_206 ?_
    refine G.ladd dX12_digest_207 ?_
    refine G.nml (fun l1_20 e_l1_20 => ?_)
    have hf := letb_at hf e_l1_20
    clear e_l1_20
    refine G.lstore_n (L' := [some (.ref 74), some (.long l1_20), none, some (.int x3), none]) dX12_digest_208 rfl (Nat.le_of_ble_eq_true rfl) (Nat.le_of_ble_eq_true rfl) rfl rfl ?_
    refine G.inc (w := 1) (L' := [some (.ref 74), some (.long l1_20), none, some (.int (x3 + (1 : Int32))), none]) dX12_digest_209 (by decide) rfl (Nat.le_of_ble_eq_true rfl) rfl rfl ?_
    refine G.goto (tgt := 131) dX12_digest_212 (by decide) ?_
    have hf := Option.some.inj hf
    subst hf
    exact hK
theorem lX12_digest_131 (E : EV) (d : Nat) (rr : Option Value × Mem) (I : Mem) (z : Int64) (hK : (fun (z : Int64) => (some (.long z), I) = rr) z) : ∀ (n : Nat) (q : (Int64 × Int32)), iter (sX12_digest_131 I) n q = some z → G E (d + 2) kX12_digest 131 [some (.ref 74), some (.long q.1), none, some (.int q.2), none] [] I rr := by
  intro n
  induction n with
  | zero => intro q h; cases h
  | succ n ih =>
    intro q h
    rcases iter_at h with ⟨q2, hs, h2⟩ | hs
    · exact wX12_digest_131 E d rr I q.1 q.2 _ hs (ih q2 h2)
    · exact wX12_digest_131 E d rr I q.1 q.2 _ hs hK
def KX12_digest_89 (E : EV) (d : Nat) (rr : Option Value × Mem) (x3 : Int32) (I : Mem) (Kp : ((Int64 × Int32) ⊕ Int64) → Prop) : ((Int64 × Int32) ⊕ ((Int64 × Int32) ⊕ Int64)) → Prop
  | .inl q => G E (d + 2) kX12_digest 89 [some (.ref 74), some (.long q.1), none, some (.int x3), some (.int q.2)] [] I rr
  | .inr z => Kp z
def bX12_digest_89 (x3 : Int32) (I : Mem) (l1 : Int64) (x4 : Int32) : Option ((Int64 × Int32) ⊕ ((Int64 × Int32) ⊕ Int64)) :=
  if (4 : Int32) ≤ x4 then
  (some (.inr (.inl (l1, (x3 + (1 : Int32))))))
  else
  (chk (inb (((28 : Int32) + ((4 : Int32) * x3)) + x4) 632) <|
  letb (((31 : Int64) * l1) + (Int32.toInt64 (I 75 (ix (((28 : Int32) + ((4 : Int32) * x3)) + x4))))) fun l1_26 =>
  some (.inl (l1_26, (x4 + (1 : Int32)))))
def sX12_digest_89 (x3 : Int32) (I : Mem) (q : (Int64 × Int32)) : Option ((Int64 × Int32) ⊕ ((Int64 × Int32) ⊕ Int64)) := bX12_digest_89 x3 I q.1 q.2
set_option maxRecDepth 20000 in
theorem wX12_digest_89 (E : EV) (d : Nat) (rr : Option Value × Mem) (x3 : Int32) (I : Mem) (l1 : Int64) (x4 : Int32) (y : ((Int64 × Int32) ⊕ ((Int64 × Int32) ⊕ Int64))) (hf : bX12_digest_89 x3 I l1 x4 = some y) (hK : (KX12_digest_89 E d rr x3 I (KX12_digest_59 E d rr I (fun (z : Int64) => (some (.long z), I) = rr))) y) : G E (d + 2) kX12_digest 89 [some (.ref 74), some (.long l1), none, some (.int x3), some (.int x4)] [] I rr := by
  unfold bX12_digest_89 at hf
  refine G.iload dX12_digest_89 rfl ?_
  refine G.iconst (v := 4) dX12_digest_91 (by decide) ?_
  refine G.icmp_ge (tgt := 123) dX12_digest_92 (by decide) (fun c_27 => ?_) (fun c_27 => ?_)
  · have hf := ite_t hf c_27
    refine G.inc (w := 1) (L' := [some (.ref 74), some (.long l1), none, some (.int (x3 + (1 : Int32))), some (.int x4)]) dX12_digest_123 (by decide) rfl (Nat.le_of_ble_eq_true rfl) rfl rfl ?_
    refine G.goto (tgt := 59) dX12_digest_126 (by decide) ?_
    have hf := Option.some.inj hf
    subst hf
    refine G.forget (L' := [some (.ref 74), some (.long l1), none, some (.int (x3 + (1 : Int32))), none]) [4] rfl ?_
    exact hK
  · have hf := ite_f hf c_27
    refine G.ldc2 (v := 31) dX12_digest_95 kcX12_262 ?_
    refine G.lload_n dX12_digest_98 rfl rfl ?_
    refine G.lmul dX12_digest_99 ?_
    refine G.aload_n dX12_digest_100 rfl rfl ?_
    refine G.getR (q := 75) dX12_digest_101 flX12_7 (by decide) rfl rfl ?_
    refine G.bipush (v := 28) dX12_digest_104 (by decide) ?_
    refine G.iconst (v := 4) dX12_digest_106 (by decide) ?_
    refine G.iload_n dX12_digest_107 rfl rfl ?_
    refine G.imul dX12_digest_108 ?_
    refine G.iadd dX12_digest_109 ?_
    refine G.iload dX12_digest_110 rfl ?_
    refine G.iadd dX12_digest_112 ?_
    obtain ⟨hi_25, hf⟩ := chk_at hf
    refine G.iald' dX12_digest_113 (by decide) rfl rfl hi_25 ?_
    refine G.i2l dX12_digest_114 ?_
    refine G.ladd dX12_digest_115 ?_
    refine G.nml (fun l1_26 e_l1_26 => ?_)
    have hf := letb_at hf e_l1_26
    clear e_l1_26
    refine G.lstore_n (L' := [some (.ref 74), some (.long l1_26), none, some (.int x3), some (.int x4)]) dX12_digest_116 rfl (Nat.le_of_ble_eq_true rfl) (Nat.le_of_ble_eq_true rfl) rfl rfl ?_
    refine G.inc (w := 1) (L' := [some (.ref 74), some (.long l1_26), none, some (.int x3), some (.int (x4 + (1 : Int32)))]) dX12_digest_117 (by decide) rfl (Nat.le_of_ble_eq_true rfl) rfl rfl ?_
    refine G.goto (tgt := 89) dX12_digest_120 (by decide) ?_
    have hf := Option.some.inj hf
    subst hf
    exact hK
theorem lX12_digest_89 (E : EV) (d : Nat) (rr : Option Value × Mem) (x3 : Int32) (I : Mem) (z : ((Int64 × Int32) ⊕ Int64)) (hK : (KX12_digest_59 E d rr I (fun (z : Int64) => (some (.long z), I) = rr)) z) : ∀ (n : Nat) (q : (Int64 × Int32)), iter (sX12_digest_89 x3 I) n q = some z → G E (d + 2) kX12_digest 89 [some (.ref 74), some (.long q.1), none, some (.int x3), some (.int q.2)] [] I rr := by
  intro n
  induction n with
  | zero => intro q h; cases h
  | succ n ih =>
    intro q h
    rcases iter_at h with ⟨q2, hs, h2⟩ | hs
    · exact wX12_digest_89 E d rr x3 I q.1 q.2 _ hs (ih q2 h2)
    · exact wX12_digest_89 E d rr x3 I q.1 q.2 _ hs hK
def bX12_digest_59 (I : Mem) (l1 : Int64) (x3 : Int32) : Option ((Int64 × Int32) ⊕ Int64) :=
  chk (inb (3 : Int32) 632) <|
  if (I 75 (ix (3 : Int32))) ≤ x3 then
  (inrO (iter (sX12_digest_131 I) FU (l1, (0 : Int32))))
  else
  (chk (inb ((24 : Int32) + x3) 632) <|
  letb (((31 : Int64) * l1) + (Int32.toInt64 (I 75 (ix ((24 : Int32) + x3))))) fun l1_24 =>
  iter (sX12_digest_89 x3 I) FU (l1_24, (0 : Int32)))
def sX12_digest_59 (I : Mem) (q : (Int64 × Int32)) : Option ((Int64 × Int32) ⊕ Int64) := bX12_digest_59 I q.1 q.2
set_option maxRecDepth 20000 in
theorem wX12_digest_59 (E : EV) (d : Nat) (rr : Option Value × Mem) (I : Mem) (l1 : Int64) (x3 : Int32) (y : ((Int64 × Int32) ⊕ Int64)) (hf : bX12_digest_59 I l1 x3 = some y) (hK : (KX12_digest_59 E d rr I (fun (z : Int64) => (some (.long z), I) = rr)) y) : G E (d + 2) kX12_digest 59 [some (.ref 74), some (.long l1), none, some (.int x3), none] [] I rr := by
  unfold bX12_digest_59 at hf
  refine G.iload_n dX12_digest_59 rfl rfl ?_
  refine G.aload_n dX12_digest_60 rfl rfl ?_
  refine G.getR (q := 75) dX12_digest_61 flX12_7 (by decide) rfl rfl ?_
  refine G.iconst (v := 3) dX12_digest_64 (by decide) ?_
  obtain ⟨hi_6, hf⟩ := chk_at hf
  refine G.iald' dX12_digest_65 (by decide) rfl rfl hi_6 ?_
  refine G.icmp_ge (tgt := 129) dX12_digest_66 (by decide) (fun c_28 => ?_) (fun c_28 => ?_)
  · have hf := ite_t hf c_28
    refine G.iconst (v := 0) dX12_digest_129 (by decide) ?_
    refine G.istore_n (L' := [some (.ref 74), some (.long l1), none, some (.int (0 : Int32)), none]) dX12_digest_130 rfl (Nat.le_of_ble_eq_true rfl) (Nat.le_of_ble_eq_true rfl) rfl rfl ?_
    obtain ⟨z_22, hz_22, rfl⟩ := inrO_at hf
    have hf := hz_22
    exact lX12_digest_131 E d rr I _ hK FU _ hf
  · have hf := ite_f hf c_28
    refine G.ldc2 (v := 31) dX12_digest_69 kcX12_262 ?_
    refine G.lload_n dX12_digest_72 rfl rfl ?_
    refine G.lmul dX12_digest_73 ?_
    refine G.aload_n dX12_digest_74 rfl rfl ?_
    refine G.getR (q := 75) dX12_digest_75 flX12_7 (by decide) rfl rfl ?_
    refine G.bipush (v := 24) dX12_digest_78 (by decide) ?_
    refine G.iload_n dX12_digest_80 rfl rfl ?_
    refine G.iadd dX12_digest_81 ?_
    obtain ⟨hi_23, hf⟩ := chk_at hf
    refine G.iald' dX12_digest_82 (by decide) rfl rfl hi_23 ?_
    refine G.i2l dX12_digest_83 ?_
    refine G.ladd dX12_digest_84 ?_
    refine G.nml (fun l1_24 e_l1_24 => ?_)
    have hf := letb_at hf e_l1_24
    clear e_l1_24
    refine G.lstore_n (L' := [some (.ref 74), some (.long l1_24), none, some (.int x3), none]) dX12_digest_85 rfl (Nat.le_of_ble_eq_true rfl) (Nat.le_of_ble_eq_true rfl) rfl rfl ?_
    refine G.iconst (v := 0) dX12_digest_86 (by decide) ?_
    refine G.istore (L' := [some (.ref 74), some (.long l1_24), none, some (.int x3), some (.int (0 : Int32))]) dX12_digest_87 (Nat.le_of_ble_eq_true rfl) (Nat.le_of_ble_eq_true rfl) rfl rfl ?_
    exact lX12_digest_89 E d rr x3 I _ hK FU _ hf
theorem lX12_digest_59 (E : EV) (d : Nat) (rr : Option Value × Mem) (I : Mem) (z : Int64) (hK : (fun (z : Int64) => (some (.long z), I) = rr) z) : ∀ (n : Nat) (q : (Int64 × Int32)), iter (sX12_digest_59 I) n q = some z → G E (d + 2) kX12_digest 59 [some (.ref 74), some (.long q.1), none, some (.int q.2), none] [] I rr := by
  intro n
  induction n with
  | zero => intro q h; cases h
  | succ n ih =>
    intro q h
    rcases iter_at h with ⟨q2, hs, h2⟩ | hs
    · exact wX12_digest_59 E d rr I q.1 q.2 _ hs (ih q2 h2)
    · exact wX12_digest_59 E d rr I q.1 q.2 _ hs hK
def bX12_digest_6 (I : Mem) (l1 : Int64) (x3 : Int32) : Option ((Int64 × Int32) ⊕ Int64) :=
  if (8 : Int32) ≤ x3 then
  (chk (inb (1 : Int32) 632) <|
  letb (((31 : Int64) * l1) + (Int32.toInt64 (I 75 (ix (1 : Int32))))) fun l1_2 =>
  bnd (fX12_now I) fun v_4 =>
  letb (((31 : Int64) * l1_2) + (Int32.toInt64 v_4)) fun l1_5 =>
  inrO (iter (sX12_digest_59 I) FU (l1_5, (0 : Int32))))
  else
  (bnd (fX12_countOf x3 I) fun v_31 =>
  letb (((31 : Int64) * l1) + (Int32.toInt64 v_31)) fun l1_32 =>
  some (.inl (l1_32, (x3 + (1 : Int32)))))
def sX12_digest_6 (I : Mem) (q : (Int64 × Int32)) : Option ((Int64 × Int32) ⊕ Int64) := bX12_digest_6 I q.1 q.2
set_option maxRecDepth 20000 in
theorem wX12_digest_6 (E : EV) (d : Nat) (rr : Option Value × Mem) (I : Mem) (l1 : Int64) (x3 : Int32) (y : ((Int64 × Int32) ⊕ Int64)) (hf : bX12_digest_6 I l1 x3 = some y) (hK : (KX12_digest_6 E d rr I (fun (z : Int64) => (some (.long z), I) = rr)) y) : G E (d + 2) kX12_digest 6 [some (.ref 74), some (.long l1), none, some (.int x3), none] [] I rr := by
  unfold bX12_digest_6 at hf
  refine G.iload_n dX12_digest_6 rfl rfl ?_
  refine G.bipush (v := 8) dX12_digest_7 (by decide) ?_
  refine G.icmp_ge (tgt := 31) dX12_digest_9 (by decide) (fun c_33 => ?_) (fun c_33 => ?_)
  · have hf := ite_t hf c_33
    refine G.ldc2 (v := 31) dX12_digest_31 kcX12_262 ?_
    refine G.lload_n dX12_digest_34 rfl rfl ?_
    refine G.lmul dX12_digest_35 ?_
    refine G.aload_n dX12_digest_36 rfl rfl ?_
    refine G.getR (q := 75) dX12_digest_37 flX12_7 (by decide) rfl rfl ?_
    refine G.iconst (v := 1) dX12_digest_40 (by decide) ?_
    obtain ⟨hi_1, hf⟩ := chk_at hf
    refine G.iald' dX12_digest_41 (by decide) rfl rfl hi_1 ?_
    refine G.i2l dX12_digest_42 ?_
    refine G.ladd dX12_digest_43 ?_
    refine G.nml (fun l1_2 e_l1_2 => ?_)
    have hf := letb_at hf e_l1_2
    clear e_l1_2
    refine G.lstore_n (L' := [some (.ref 74), some (.long l1_2), none, some (.int x3), none]) dX12_digest_44 rfl (Nat.le_of_ble_eq_true rfl) (Nat.le_of_ble_eq_true rfl) rfl rfl ?_
    refine G.ldc2 (v := 31) dX12_digest_45 kcX12_262 ?_
    refine G.lload_n dX12_digest_48 rfl rfl ?_
    refine G.lmul dX12_digest_49 ?_
    refine G.aload_n dX12_digest_50 rfl rfl ?_
    obtain ⟨v_4, hc_3, hf⟩ := bnd_at hf
    refine G.callVi (av := []) (rest := [.long ((31 : Int64) * l1_2)]) dX12_digest_51 mvX12_173 (gX12_now E (d + 1) I hc_3) (by decide) rfl rfl rfl (Nat.le_of_ble_eq_true rfl) ?_
    refine G.i2l dX12_digest_54 ?_
    refine G.ladd dX12_digest_55 ?_
    refine G.nml (fun l1_5 e_l1_5 => ?_)
    have hf := letb_at hf e_l1_5
    clear e_l1_5
    refine G.lstore_n (L' := [some (.ref 74), some (.long l1_5), none, some (.int x3), none]) dX12_digest_56 rfl (Nat.le_of_ble_eq_true rfl) (Nat.le_of_ble_eq_true rfl) rfl rfl ?_
    refine G.iconst (v := 0) dX12_digest_57 (by decide) ?_
    refine G.istore_n (L' := [some (.ref 74), some (.long l1_5), none, some (.int (0 : Int32)), none]) dX12_digest_58 rfl (Nat.le_of_ble_eq_true rfl) (Nat.le_of_ble_eq_true rfl) rfl rfl ?_
    obtain ⟨z_29, hz_29, rfl⟩ := inrO_at hf
    have hf := hz_29
    exact lX12_digest_59 E d rr I _ hK FU _ hf
  · have hf := ite_f hf c_33
    refine G.ldc2 (v := 31) dX12_digest_12 kcX12_262 ?_
    refine G.lload_n dX12_digest_15 rfl rfl ?_
    refine G.lmul dX12_digest_16 ?_
    refine G.aload_n dX12_digest_17 rfl rfl ?_
    refine G.iload_n dX12_digest_18 rfl rfl ?_
    obtain ⟨v_31, hc_30, hf⟩ := bnd_at hf
    refine G.callVi (av := [.int x3]) (rest := [.long ((31 : Int64) * l1)]) dX12_digest_19 mvX12_257 (gX12_countOf E d x3 I hc_30) (by decide) rfl rfl rfl (Nat.le_of_ble_eq_true rfl) ?_
    refine G.i2l dX12_digest_22 ?_
    refine G.ladd dX12_digest_23 ?_
    refine G.nml (fun l1_32 e_l1_32 => ?_)
    have hf := letb_at hf e_l1_32
    clear e_l1_32
    refine G.lstore_n (L' := [some (.ref 74), some (.long l1_32), none, some (.int x3), none]) dX12_digest_24 rfl (Nat.le_of_ble_eq_true rfl) (Nat.le_of_ble_eq_true rfl) rfl rfl ?_
    refine G.inc (w := 1) (L' := [some (.ref 74), some (.long l1_32), none, some (.int (x3 + (1 : Int32))), none]) dX12_digest_25 (by decide) rfl (Nat.le_of_ble_eq_true rfl) rfl rfl ?_
    refine G.goto (tgt := 6) dX12_digest_28 (by decide) ?_
    have hf := Option.some.inj hf
    subst hf
    exact hK
theorem lX12_digest_6 (E : EV) (d : Nat) (rr : Option Value × Mem) (I : Mem) (z : Int64) (hK : (fun (z : Int64) => (some (.long z), I) = rr) z) : ∀ (n : Nat) (q : (Int64 × Int32)), iter (sX12_digest_6 I) n q = some z → G E (d + 2) kX12_digest 6 [some (.ref 74), some (.long q.1), none, some (.int q.2), none] [] I rr := by
  intro n
  induction n with
  | zero => intro q h; cases h
  | succ n ih =>
    intro q h
    rcases iter_at h with ⟨q2, hs, h2⟩ | hs
    · exact wX12_digest_6 E d rr I q.1 q.2 _ hs (ih q2 h2)
    · exact wX12_digest_6 E d rr I q.1 q.2 _ hs hK
def fX12_digest (I : Mem) : Option Int64 :=
  iter (sX12_digest_6 I) FU ((757 : Int64), (0 : Int32))
set_option maxRecDepth 20000 in
theorem gX12_digest (E : EV) (d : Nat) (I : Mem) {v : Int64} (hf : fX12_digest I = some v) : Gm E (d + 2) kX12_digest [.ref 74] I (some (.long v), I) := by
  refine (fun (y : Int64) (hf : fX12_digest I = some y) => (?_ : Gm E (d + 2) kX12_digest [.ref 74] I (some (.long y), I))) v hf
  refine Gm.of (by decide) rfl (Nat.le_of_ble_eq_true rfl) ?_
  generalize hrr : ((some (.long y), I) : Option Value × Mem) = rr
  show G E (d + 2) kX12_digest 0 [some (.ref 74), none, none, none, none] [] I rr
  have hK : (fun (z : Int64) => (some (.long z), I) = rr) y := hrr
  clear hrr
  unfold fX12_digest at hf
  refine G.ldc2 (v := 757) dX12_digest_0 kcX12_260 ?_
  refine G.lstore_n (L' := [some (.ref 74), some (.long (757 : Int64)), none, none, none]) dX12_digest_3 rfl (Nat.le_of_ble_eq_true rfl) (Nat.le_of_ble_eq_true rfl) rfl rfl ?_
  refine G.iconst (v := 0) dX12_digest_4 (by decide) ?_
  refine G.istore_n (L' := [some (.ref 74), some (.long (757 : Int64)), none, some (.int (0 : Int32)), none]) dX12_digest_5 rfl (Nat.le_of_ble_eq_true rfl) (Nat.le_of_ble_eq_true rfl) rfl rfl ?_
  exact lX12_digest_6 E d rr I _ hK FU _ hf
