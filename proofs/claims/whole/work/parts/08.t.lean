theorem dX11_roomOf_0 : decode cX11_roomOf 0 = .ok (.iload_n 0, 1) := by decide +kernel
theorem dX11_roomOf_1 : decode cX11_roomOf 1 = .ok (.iconst 3, 1) := by decide +kernel
theorem dX11_roomOf_2 : decode cX11_roomOf 2 = .ok (.iload_n 1, 1) := by decide +kernel
theorem dX11_roomOf_3 : decode cX11_roomOf 3 = .ok (.imul, 1) := by decide +kernel
theorem dX11_roomOf_4 : decode cX11_roomOf 4 = .ok (.ishr, 1) := by decide +kernel
theorem dX11_roomOf_5 : decode cX11_roomOf 5 = .ok (.bipush 7, 2) := by decide +kernel
theorem dX11_roomOf_7 : decode cX11_roomOf 7 = .ok (.iand, 1) := by decide +kernel
theorem dX11_roomOf_8 : decode cX11_roomOf 8 = .ok (.ireturn, 1) := by decide +kernel
def fX11_roomOf (x0 : Int32) (x1 : Int32) (I : Mem) : Option Int32 :=
  some ((x0 >>> (((3 : Int32) * x1) &&& 31)) &&& (7 : Int32))
set_option maxRecDepth 20000 in
theorem gX11_roomOf (E : EV) (d : Nat) (x0 : Int32) (x1 : Int32) (I : Mem) {v : Int32} (hf : fX11_roomOf x0 x1 I = some v) : Gm E (d + 0) kX11_roomOf [.int x0, .int x1] I (some (.int v), I) := by
  refine Gm.of (by decide) rfl (Nat.le_of_ble_eq_true rfl) ?_
  generalize hrr : ((some (.int v), I) : Option Value × Mem) = rr
  show G E (d + 0) kX11_roomOf 0 [some (.int x0), some (.int x1)] [] I rr
  have hK : (fun (z : Int32) => (some (.int z), I) = rr) v := hrr
  clear hrr
  unfold fX11_roomOf at hf
  refine G.iload_n dX11_roomOf_0 rfl rfl ?_
  refine G.iconst (v := 3) dX11_roomOf_1 (by decide) ?_
  refine G.iload_n dX11_roomOf_2 rfl rfl ?_
  refine G.imul dX11_roomOf_3 ?_
  refine G.ishr dX11_roomOf_4 ?_
  refine G.bipush (v := 7) dX11_roomOf_5 (by decide) ?_
  refine G.iand dX11_roomOf_7 ?_
  cases hf
  exact G.iret' dX11_roomOf_8 rfl hK
theorem dX11_has_0 : decode cX11_has 0 = .ok (.iload_n 0, 1) := by decide +kernel
theorem dX11_has_1 : decode cX11_has 1 = .ok (.iload_n 1, 1) := by decide +kernel
theorem dX11_has_2 : decode cX11_has 2 = .ok (.ishr, 1) := by decide +kernel
theorem dX11_has_3 : decode cX11_has 3 = .ok (.iconst 1, 1) := by decide +kernel
theorem dX11_has_4 : decode cX11_has 4 = .ok (.iand, 1) := by decide +kernel
theorem dX11_has_5 : decode cX11_has 5 = .ok (.ifCond .eq 7, 3) := by decide +kernel
theorem dX11_has_8 : decode cX11_has 8 = .ok (.iconst 1, 1) := by decide +kernel
theorem dX11_has_9 : decode cX11_has 9 = .ok (.goto 4, 3) := by decide +kernel
theorem dX11_has_12 : decode cX11_has 12 = .ok (.iconst 0, 1) := by decide +kernel
theorem dX11_has_13 : decode cX11_has 13 = .ok (.ireturn, 1) := by decide +kernel
def fX11_has (x0 : Int32) (x1 : Int32) (I : Mem) : Option Int32 :=
  if ((x0 >>> (x1 &&& 31)) &&& (1 : Int32)) = 0 then
  (some (0 : Int32))
  else
  (some (1 : Int32))
set_option maxRecDepth 20000 in
theorem gX11_has (E : EV) (d : Nat) (x0 : Int32) (x1 : Int32) (I : Mem) {v : Int32} (hf : fX11_has x0 x1 I = some v) : Gm E (d + 0) kX11_has [.int x0, .int x1] I (some (.int v), I) := by
  refine Gm.of (by decide) rfl (Nat.le_of_ble_eq_true rfl) ?_
  generalize hrr : ((some (.int v), I) : Option Value × Mem) = rr
  show G E (d + 0) kX11_has 0 [some (.int x0), some (.int x1)] [] I rr
  have hK : (fun (z : Int32) => (some (.int z), I) = rr) v := hrr
  clear hrr
  unfold fX11_has at hf
  refine G.iload_n dX11_has_0 rfl rfl ?_
  refine G.iload_n dX11_has_1 rfl rfl ?_
  refine G.ishr dX11_has_2 ?_
  refine G.iconst (v := 1) dX11_has_3 (by decide) ?_
  refine G.iand dX11_has_4 ?_
  refine G.if_eq (tgt := 12) dX11_has_5 (by decide) (fun c_1 => ?_) (fun c_1 => ?_)
  · have hf := ite_t hf c_1
    refine G.iconst (v := 0) dX11_has_12 (by decide) ?_
    cases hf
    exact G.zret' dX11_has_13 rfl (by decide) hK
  · have hf := ite_f hf c_1
    refine G.iconst (v := 1) dX11_has_8 (by decide) ?_
    refine G.goto (tgt := 13) dX11_has_9 (by decide) ?_
    cases hf
    exact G.zret' dX11_has_13 rfl (by decide) hK
theorem dX4_lone_0 : decode cX4_lone 0 = .ok (.iconst 0, 1) := by decide +kernel
theorem dX4_lone_1 : decode cX4_lone 1 = .ok (.istore_n 2, 1) := by decide +kernel
theorem dX4_lone_2 : decode cX4_lone 2 = .ok (.aload_n 0, 1) := by decide +kernel
theorem dX4_lone_3 : decode cX4_lone 3 = .ok (.getfield 43, 3) := by decide +kernel
theorem dX4_lone_6 : decode cX4_lone 6 = .ok (.istore_n 3, 1) := by decide +kernel
theorem dX4_lone_7 : decode cX4_lone 7 = .ok (.iconst 0, 1) := by decide +kernel
theorem dX4_lone_8 : decode cX4_lone 8 = .ok (.istore 4, 2) := by decide +kernel
theorem dX4_lone_10 : decode cX4_lone 10 = .ok (.iload 4, 2) := by decide +kernel
theorem dX4_lone_12 : decode cX4_lone 12 = .ok (.aload_n 0, 1) := by decide +kernel
theorem dX4_lone_13 : decode cX4_lone 13 = .ok (.getfield 46, 3) := by decide +kernel
theorem dX4_lone_16 : decode cX4_lone 16 = .ok (.if_icmp .ge 31, 3) := by decide +kernel
theorem dX4_lone_19 : decode cX4_lone 19 = .ok (.iconst 1, 1) := by decide +kernel
theorem dX4_lone_20 : decode cX4_lone 20 = .ok (.iload_n 1, 1) := by decide +kernel
theorem dX4_lone_21 : decode cX4_lone 21 = .ok (.iload 4, 2) := by decide +kernel
theorem dX4_lone_23 : decode cX4_lone 23 = .ok (.invokestatic 76, 3) := by decide +kernel
theorem dX4_lone_26 : decode cX4_lone 26 = .ok (.ishl, 1) := by decide +kernel
theorem dX4_lone_27 : decode cX4_lone 27 = .ok (.istore 5, 2) := by decide +kernel
theorem dX4_lone_29 : decode cX4_lone 29 = .ok (.iload_n 3, 1) := by decide +kernel
theorem dX4_lone_30 : decode cX4_lone 30 = .ok (.iload_n 2, 1) := by decide +kernel
theorem dX4_lone_31 : decode cX4_lone 31 = .ok (.iload 5, 2) := by decide +kernel
theorem dX4_lone_33 : decode cX4_lone 33 = .ok (.iand, 1) := by decide +kernel
theorem dX4_lone_34 : decode cX4_lone 34 = .ok (.ior, 1) := by decide +kernel
theorem dX4_lone_35 : decode cX4_lone 35 = .ok (.istore_n 3, 1) := by decide +kernel
theorem dX4_lone_36 : decode cX4_lone 36 = .ok (.iload_n 2, 1) := by decide +kernel
theorem dX4_lone_37 : decode cX4_lone 37 = .ok (.iload 5, 2) := by decide +kernel
theorem dX4_lone_39 : decode cX4_lone 39 = .ok (.ior, 1) := by decide +kernel
theorem dX4_lone_40 : decode cX4_lone 40 = .ok (.istore_n 2, 1) := by decide +kernel
theorem dX4_lone_41 : decode cX4_lone 41 = .ok (.iinc 4 1, 3) := by decide +kernel
theorem dX4_lone_44 : decode cX4_lone 44 = .ok (.goto (-34), 3) := by decide +kernel
theorem dX4_lone_47 : decode cX4_lone 47 = .ok (.iconst 0, 1) := by decide +kernel
theorem dX4_lone_48 : decode cX4_lone 48 = .ok (.istore 4, 2) := by decide +kernel
theorem dX4_lone_50 : decode cX4_lone 50 = .ok (.iconst 0, 1) := by decide +kernel
theorem dX4_lone_51 : decode cX4_lone 51 = .ok (.istore 5, 2) := by decide +kernel
theorem dX4_lone_53 : decode cX4_lone 53 = .ok (.iload 5, 2) := by decide +kernel
theorem dX4_lone_55 : decode cX4_lone 55 = .ok (.aload_n 0, 1) := by decide +kernel
theorem dX4_lone_56 : decode cX4_lone 56 = .ok (.getfield 46, 3) := by decide +kernel
theorem dX4_lone_59 : decode cX4_lone 59 = .ok (.if_icmp .ge 31, 3) := by decide +kernel
theorem dX4_lone_62 : decode cX4_lone 62 = .ok (.iload_n 3, 1) := by decide +kernel
theorem dX4_lone_63 : decode cX4_lone 63 = .ok (.iload_n 1, 1) := by decide +kernel
theorem dX4_lone_64 : decode cX4_lone 64 = .ok (.iload 5, 2) := by decide +kernel
theorem dX4_lone_66 : decode cX4_lone 66 = .ok (.invokestatic 76, 3) := by decide +kernel
theorem dX4_lone_69 : decode cX4_lone 69 = .ok (.invokestatic 83, 3) := by decide +kernel
theorem dX4_lone_72 : decode cX4_lone 72 = .ok (.ifCond .ne 12, 3) := by decide +kernel
theorem dX4_lone_75 : decode cX4_lone 75 = .ok (.iload 4, 2) := by decide +kernel
theorem dX4_lone_77 : decode cX4_lone 77 = .ok (.iconst 1, 1) := by decide +kernel
theorem dX4_lone_78 : decode cX4_lone 78 = .ok (.iload 5, 2) := by decide +kernel
theorem dX4_lone_80 : decode cX4_lone 80 = .ok (.ishl, 1) := by decide +kernel
theorem dX4_lone_81 : decode cX4_lone 81 = .ok (.ior, 1) := by decide +kernel
theorem dX4_lone_82 : decode cX4_lone 82 = .ok (.istore 4, 2) := by decide +kernel
theorem dX4_lone_84 : decode cX4_lone 84 = .ok (.iinc 5 1, 3) := by decide +kernel
theorem dX4_lone_87 : decode cX4_lone 87 = .ok (.goto (-34), 3) := by decide +kernel
theorem dX4_lone_90 : decode cX4_lone 90 = .ok (.iload 4, 2) := by decide +kernel
theorem dX4_lone_92 : decode cX4_lone 92 = .ok (.ireturn, 1) := by decide +kernel
def KX4_lone_10 (E : EV) (d : Nat) (rr : Option Value × Mem) (b0 : Nat) (x1 : Int32) (I : Mem) (Kp : Int32 → Prop) : ((Int32 × Int32 × Int32) ⊕ Int32) → Prop
  | .inl q => G E (d + 1) kX4_lone 10 [some (.ref b0), some (.int x1), some (.int q.1), some (.int q.2.1), some (.int q.2.2), none] [] I rr
  | .inr z => Kp z
def KX4_lone_53 (E : EV) (d : Nat) (rr : Option Value × Mem) (b0 : Nat) (x1 : Int32) (x3 : Int32) (I : Mem) (Kp : Int32 → Prop) : ((Int32 × Int32) ⊕ Int32) → Prop
  | .inl q => G E (d + 1) kX4_lone 53 [some (.ref b0), some (.int x1), none, some (.int x3), some (.int q.1), some (.int q.2)] [] I rr
  | .inr z => Kp z
def bX4_lone_53 (b0 : Nat) (x1 : Int32) (x3 : Int32) (I : Mem) (x4 : Int32) (x5 : Int32) : Option ((Int32 × Int32) ⊕ Int32) :=
  if (I b0 2) ≤ x5 then
  (some (.inr x4))
  else
  (bnd (fX11_roomOf x1 x5 I) fun v_3 =>
  bnd (fX11_has x3 v_3 I) fun v_5 =>
  if v_5 = 0 then
  (letb (x4 ||| ((1 : Int32) <<< (x5 &&& 31))) fun x4_6 =>
  some (.inl (x4_6, (x5 + (1 : Int32)))))
  else
  (some (.inl (x4, (x5 + (1 : Int32))))))
def sX4_lone_53 (b0 : Nat) (x1 : Int32) (x3 : Int32) (I : Mem) (q : (Int32 × Int32)) : Option ((Int32 × Int32) ⊕ Int32) := bX4_lone_53 b0 x1 x3 I q.1 q.2
set_option maxRecDepth 20000 in
theorem wX4_lone_53 (E : EV) (d : Nat) (rr : Option Value × Mem) (b0 : Nat) (x1 : Int32) (x3 : Int32) (I : Mem) (x4 : Int32) (x5 : Int32) (hb0 : isH b0) (y : ((Int32 × Int32) ⊕ Int32)) (hf : bX4_lone_53 b0 x1 x3 I x4 x5 = some y) (hK : (KX4_lone_53 E d rr b0 x1 x3 I (fun (z : Int32) => (some (.int z), I) = rr)) y) : G E (d + 1) kX4_lone 53 [some (.ref b0), some (.int x1), none, some (.int x3), some (.int x4), some (.int x5)] [] I rr := by
  unfold bX4_lone_53 at hf
  refine G.iload dX4_lone_53 rfl ?_
  refine G.aload_n dX4_lone_55 rfl rfl ?_
  refine G.getI dX4_lone_56 flX4_46 (isH_lt hb0) (isH_lk hb0) ?_
  refine G.icmp_ge (tgt := 90) dX4_lone_59 (by decide) (fun c_8 => ?_) (fun c_8 => ?_)
  · have hf := ite_t hf c_8
    refine G.iload dX4_lone_90 rfl ?_
    cases hf
    exact G.iret' dX4_lone_92 rfl hK
  · have hf := ite_f hf c_8
    refine G.iload_n dX4_lone_62 rfl rfl ?_
    refine G.iload_n dX4_lone_63 rfl rfl ?_
    refine G.iload dX4_lone_64 rfl ?_
    obtain ⟨v_3, hc_2, hf⟩ := bnd_at hf
    refine G.callNi (av := [.int x1, .int x5]) (rest := [.int x3]) dX4_lone_66 mnX4_76 (gX11_roomOf E d x1 x5 I hc_2) rfl rfl (Nat.le_of_ble_eq_true rfl) ?_
    obtain ⟨v_5, hc_4, hf⟩ := bnd_at hf
    refine G.callNi (av := [.int x3, .int v_3]) (rest := []) dX4_lone_69 mnX4_83 (gX11_has E d x3 v_3 I hc_4) rfl rfl (Nat.le_of_ble_eq_true rfl) ?_
    refine G.if_ne (tgt := 84) dX4_lone_72 (by decide) (fun c_7 => ?_) (fun c_7 => ?_)
    · have hf := ite_f hf c_7
      refine G.inc (w := 1) (L' := [some (.ref b0), some (.int x1), none, some (.int x3), some (.int x4), some (.int (x5 + (1 : Int32)))]) dX4_lone_84 (by decide) rfl (Nat.le_of_ble_eq_true rfl) rfl rfl ?_
      refine G.goto (tgt := 53) dX4_lone_87 (by decide) ?_
      cases hf
      exact hK
    · have hf := ite_t hf c_7
      refine G.iload dX4_lone_75 rfl ?_
      refine G.iconst (v := 1) dX4_lone_77 (by decide) ?_
      refine G.iload dX4_lone_78 rfl ?_
      refine G.ishl dX4_lone_80 ?_
      refine G.ior dX4_lone_81 ?_
      refine G.nmi (fun x4_6 e_x4_6 => ?_)
      have hf := letb_at hf e_x4_6
      clear e_x4_6
      refine G.istore (L' := [some (.ref b0), some (.int x1), none, some (.int x3), some (.int x4_6), some (.int x5)]) dX4_lone_82 (Nat.le_of_ble_eq_true rfl) (Nat.le_of_ble_eq_true rfl) rfl rfl ?_
      refine G.inc (w := 1) (L' := [some (.ref b0), some (.int x1), none, some (.int x3), some (.int x4_6), some (.int (x5 + (1 : Int32)))]) dX4_lone_84 (by decide) rfl (Nat.le_of_ble_eq_true rfl) rfl rfl ?_
      refine G.goto (tgt := 53) dX4_lone_87 (by decide) ?_
      cases hf
      exact hK
theorem lX4_lone_53 (E : EV) (d : Nat) (rr : Option Value × Mem) (b0 : Nat) (x1 : Int32) (x3 : Int32) (I : Mem) (hb0 : isH b0) (z : Int32) (hK : (fun (z : Int32) => (some (.int z), I) = rr) z) : ∀ (n : Nat) (q : (Int32 × Int32)), iter (sX4_lone_53 b0 x1 x3 I) n q = some z → G E (d + 1) kX4_lone 53 [some (.ref b0), some (.int x1), none, some (.int x3), some (.int q.1), some (.int q.2)] [] I rr := by
  intro n
  induction n with
  | zero => intro q h; cases h
  | succ n ih =>
    intro q h
    rcases iter_at h with ⟨q2, hs, h2⟩ | hs
    · exact wX4_lone_53 E d rr b0 x1 x3 I q.1 q.2 hb0 _ hs (ih q2 h2)
    · exact wX4_lone_53 E d rr b0 x1 x3 I q.1 q.2 hb0 _ hs hK
def bX4_lone_10 (b0 : Nat) (x1 : Int32) (I : Mem) (x2 : Int32) (x3 : Int32) (x4 : Int32) : Option ((Int32 × Int32 × Int32) ⊕ Int32) :=
  if (I b0 2) ≤ x4 then
  (inrO (iter (sX4_lone_53 b0 x1 x3 I) FU ((0 : Int32), (0 : Int32))))
  else
  (bnd (fX11_roomOf x1 x4 I) fun v_11 =>
  letb ((1 : Int32) <<< (v_11 &&& 31)) fun x5_12 =>
  letb (x3 ||| (x2 &&& x5_12)) fun x3_13 =>
  letb (x2 ||| x5_12) fun x2_14 =>
  some (.inl (x2_14, x3_13, (x4 + (1 : Int32)))))
def sX4_lone_10 (b0 : Nat) (x1 : Int32) (I : Mem) (q : (Int32 × Int32 × Int32)) : Option ((Int32 × Int32 × Int32) ⊕ Int32) := bX4_lone_10 b0 x1 I q.1 q.2.1 q.2.2
set_option maxRecDepth 20000 in
theorem wX4_lone_10 (E : EV) (d : Nat) (rr : Option Value × Mem) (b0 : Nat) (x1 : Int32) (I : Mem) (x2 : Int32) (x3 : Int32) (x4 : Int32) (hb0 : isH b0) (y : ((Int32 × Int32 × Int32) ⊕ Int32)) (hf : bX4_lone_10 b0 x1 I x2 x3 x4 = some y) (hK : (KX4_lone_10 E d rr b0 x1 I (fun (z : Int32) => (some (.int z), I) = rr)) y) : G E (d + 1) kX4_lone 10 [some (.ref b0), some (.int x1), some (.int x2), some (.int x3), some (.int x4), none] [] I rr := by
  unfold bX4_lone_10 at hf
  refine G.iload dX4_lone_10 rfl ?_
  refine G.aload_n dX4_lone_12 rfl rfl ?_
  refine G.getI dX4_lone_13 flX4_46 (isH_lt hb0) (isH_lk hb0) ?_
  refine G.icmp_ge (tgt := 47) dX4_lone_16 (by decide) (fun c_15 => ?_) (fun c_15 => ?_)
  · have hf := ite_t hf c_15
    refine G.iconst (v := 0) dX4_lone_47 (by decide) ?_
    refine G.istore (L' := [some (.ref b0), some (.int x1), some (.int x2), some (.int x3), some (.int (0 : Int32)), none]) dX4_lone_48 (Nat.le_of_ble_eq_true rfl) (Nat.le_of_ble_eq_true rfl) rfl rfl ?_
    refine G.iconst (v := 0) dX4_lone_50 (by decide) ?_
    refine G.istore (L' := [some (.ref b0), some (.int x1), some (.int x2), some (.int x3), some (.int (0 : Int32)), some (.int (0 : Int32))]) dX4_lone_51 (Nat.le_of_ble_eq_true rfl) (Nat.le_of_ble_eq_true rfl) rfl rfl ?_
    obtain ⟨z_9, hz_9, rfl⟩ := inrO_at hf
    have hf := hz_9
    refine G.forget (L' := [some (.ref b0), some (.int x1), none, some (.int x3), some (.int (0 : Int32)), some (.int (0 : Int32))]) [2] rfl ?_
    exact lX4_lone_53 E d rr b0 x1 x3 I hb0 _ hK FU _ hf
  · have hf := ite_f hf c_15
    refine G.iconst (v := 1) dX4_lone_19 (by decide) ?_
    refine G.iload_n dX4_lone_20 rfl rfl ?_
    refine G.iload dX4_lone_21 rfl ?_
    obtain ⟨v_11, hc_10, hf⟩ := bnd_at hf
    refine G.callNi (av := [.int x1, .int x4]) (rest := [.int (1 : Int32)]) dX4_lone_23 mnX4_76 (gX11_roomOf E d x1 x4 I hc_10) rfl rfl (Nat.le_of_ble_eq_true rfl) ?_
    refine G.ishl dX4_lone_26 ?_
    refine G.nmi (fun x5_12 e_x5_12 => ?_)
    have hf := letb_at hf e_x5_12
    clear e_x5_12
    refine G.istore (L' := [some (.ref b0), some (.int x1), some (.int x2), some (.int x3), some (.int x4), some (.int x5_12)]) dX4_lone_27 (Nat.le_of_ble_eq_true rfl) (Nat.le_of_ble_eq_true rfl) rfl rfl ?_
    refine G.iload_n dX4_lone_29 rfl rfl ?_
    refine G.iload_n dX4_lone_30 rfl rfl ?_
    refine G.iload dX4_lone_31 rfl ?_
    refine G.iand dX4_lone_33 ?_
    refine G.ior dX4_lone_34 ?_
    refine G.nmi (fun x3_13 e_x3_13 => ?_)
    have hf := letb_at hf e_x3_13
    clear e_x3_13
    refine G.istore_n (L' := [some (.ref b0), some (.int x1), some (.int x2), some (.int x3_13), some (.int x4), some (.int x5_12)]) dX4_lone_35 rfl (Nat.le_of_ble_eq_true rfl) (Nat.le_of_ble_eq_true rfl) rfl rfl ?_
    refine G.iload_n dX4_lone_36 rfl rfl ?_
    refine G.iload dX4_lone_37 rfl ?_
    refine G.ior dX4_lone_39 ?_
    refine G.nmi (fun x2_14 e_x2_14 => ?_)
    have hf := letb_at hf e_x2_14
    clear e_x2_14
    refine G.istore_n (L' := [some (.ref b0), some (.int x1), some (.int x2_14), some (.int x3_13), some (.int x4), some (.int x5_12)]) dX4_lone_40 rfl (Nat.le_of_ble_eq_true rfl) (Nat.le_of_ble_eq_true rfl) rfl rfl ?_
    refine G.inc (w := 1) (L' := [some (.ref b0), some (.int x1), some (.int x2_14), some (.int x3_13), some (.int (x4 + (1 : Int32))), some (.int x5_12)]) dX4_lone_41 (by decide) rfl (Nat.le_of_ble_eq_true rfl) rfl rfl ?_
    refine G.goto (tgt := 10) dX4_lone_44 (by decide) ?_
    cases hf
    refine G.forget (L' := [some (.ref b0), some (.int x1), some (.int x2_14), some (.int x3_13), some (.int (x4 + (1 : Int32))), none]) [5] rfl ?_
    exact hK
theorem lX4_lone_10 (E : EV) (d : Nat) (rr : Option Value × Mem) (b0 : Nat) (x1 : Int32) (I : Mem) (hb0 : isH b0) (z : Int32) (hK : (fun (z : Int32) => (some (.int z), I) = rr) z) : ∀ (n : Nat) (q : (Int32 × Int32 × Int32)), iter (sX4_lone_10 b0 x1 I) n q = some z → G E (d + 1) kX4_lone 10 [some (.ref b0), some (.int x1), some (.int q.1), some (.int q.2.1), some (.int q.2.2), none] [] I rr := by
  intro n
  induction n with
  | zero => intro q h; cases h
  | succ n ih =>
    intro q h
    rcases iter_at h with ⟨q2, hs, h2⟩ | hs
    · exact wX4_lone_10 E d rr b0 x1 I q.1 q.2.1 q.2.2 hb0 _ hs (ih q2 h2)
    · exact wX4_lone_10 E d rr b0 x1 I q.1 q.2.1 q.2.2 hb0 _ hs hK
def fX4_lone (b0 : Nat) (x1 : Int32) (I : Mem) : Option Int32 :=
  letb (I b0 1) fun x3_1 =>
  iter (sX4_lone_10 b0 x1 I) FU ((0 : Int32), x3_1, (0 : Int32))
set_option maxRecDepth 20000 in
theorem gX4_lone (E : EV) (d : Nat) (b0 : Nat) (x1 : Int32) (I : Mem) (hb0 : isH b0) {v : Int32} (hf : fX4_lone b0 x1 I = some v) : Gm E (d + 1) kX4_lone [.ref b0, .int x1] I (some (.int v), I) := by
  refine Gm.of (by decide) rfl (Nat.le_of_ble_eq_true rfl) ?_
  generalize hrr : ((some (.int v), I) : Option Value × Mem) = rr
  show G E (d + 1) kX4_lone 0 [some (.ref b0), some (.int x1), none, none, none, none] [] I rr
  have hK : (fun (z : Int32) => (some (.int z), I) = rr) v := hrr
  clear hrr
  unfold fX4_lone at hf
  refine G.iconst (v := 0) dX4_lone_0 (by decide) ?_
  refine G.istore_n (L' := [some (.ref b0), some (.int x1), some (.int (0 : Int32)), none, none, none]) dX4_lone_1 rfl (Nat.le_of_ble_eq_true rfl) (Nat.le_of_ble_eq_true rfl) rfl rfl ?_
  refine G.aload_n dX4_lone_2 rfl rfl ?_
  refine G.getI dX4_lone_3 flX4_43 (isH_lt hb0) (isH_lk hb0) ?_
  refine G.nmi (fun x3_1 e_x3_1 => ?_)
  have hf := letb_at hf e_x3_1
  clear e_x3_1
  refine G.istore_n (L' := [some (.ref b0), some (.int x1), some (.int (0 : Int32)), some (.int x3_1), none, none]) dX4_lone_6 rfl (Nat.le_of_ble_eq_true rfl) (Nat.le_of_ble_eq_true rfl) rfl rfl ?_
  refine G.iconst (v := 0) dX4_lone_7 (by decide) ?_
  refine G.istore (L' := [some (.ref b0), some (.int x1), some (.int (0 : Int32)), some (.int x3_1), some (.int (0 : Int32)), none]) dX4_lone_8 (Nat.le_of_ble_eq_true rfl) (Nat.le_of_ble_eq_true rfl) rfl rfl ?_
  exact lX4_lone_10 E d rr b0 x1 I hb0 _ hK FU _ hf
