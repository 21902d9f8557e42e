theorem dX11_roomOf_0 : decode cX11_roomOf 0 = .ok (.iload_n 0, 1) := by decide +kernel
theorem dX11_roomOf_1 : decode cX11_roomOf 1 = .ok (.iconst 3, 1) := by decide +kernel
theorem dX11_roomOf_2 : decode cX11_roomOf 2 = .ok (.iload_n 1, 1) := by decide +kernel
theorem dX11_roomOf_3 : decode cX11_roomOf 3 = .ok (.imul, 1) := by decide +kernel
theorem dX11_roomOf_4 : decode cX11_roomOf 4 = .ok (.ishr, 1) := by decide +kernel
theorem dX11_roomOf_5 : decode cX11_roomOf 5 = .ok (.bipush 7, 2) := by decide +kernel
theorem dX11_roomOf_7 : decode cX11_roomOf 7 = .ok (.iand, 1) := by decide +kernel
theorem dX11_roomOf_8 : decode cX11_roomOf 8 = .ok (.ireturn, 1) := by decide +kernel
def fX11_roomOf (x0 : Int32) (x1 : Int32) (I : Mem) : Option Int32 :=
  some ((x0 >>> (((3 : Int32) * x1) &&& 31)) &&& (7 : Int32))
set_option maxRecDepth 20000 in
theorem gX11_roomOf (E : EV) (d : Nat) (x0 : Int32) (x1 : Int32) (I : Mem) {v : Int32} (hf : fX11_roomOf x0 x1 I = some v) : Gm E (d + 0) kX11_roomOf [.int x0, .int x1] I (some (.int v), I) := by
  refine (fun (y : Int32) (hf : fX11_roomOf x0 x1 I = some y) => (?_ : Gm E (d + 0) kX11_roomOf [.int x0, .int x1] I (some (.int y), I))) v hf
  refine Gm.of (by decide) rfl (Nat.le_of_ble_eq_true rfl) ?_
  generalize hrr : ((some (.int y), I) : Option Value × Mem) = rr
  show G E (d + 0) kX11_roomOf 0 [some (.int x0), some (.int x1)] [] I rr
  have hK : (fun (z : Int32) => (some (.int z), I) = rr) y := hrr
  clear hrr
  unfold fX11_roomOf at hf
  refine G.iload_n dX11_roomOf_0 rfl rfl ?_
  refine G.iconst (v := 3) dX11_roomOf_1 (by decide) ?_
  refine G.iload_n dX11_roomOf_2 rfl rfl ?_
  refine G.imul dX11_roomOf_3 ?_
  refine G.ishr dX11_roomOf_4 ?_
  refine G.bipush (v := 7) dX11_roomOf_5 (by decide) ?_
  refine G.iand dX11_roomOf_7 ?_
  have hf := Option.some.inj hf
  subst hf
  exact G.iret' dX11_roomOf_8 rfl hK
theorem dX11_has_0 : decode cX11_has 0 = .ok (.iload_n 0, 1) := by decide +kernel
theorem dX11_has_1 : decode cX11_has 1 = .ok (.iload_n 1, 1) := by decide +kernel
theorem dX11_has_2 : decode cX11_has 2 = .ok (.ishr, 1) := by decide +kernel
theorem dX11_has_3 : decode cX11_has 3 = .ok (.iconst 1, 1) := by decide +kernel
theorem dX11_has_4 : decode cX11_has 4 = .ok (.iand, 1) := by decide +kernel
theorem dX11_has_5 : decode cX11_has 5 = .ok (.ifCond .eq 7, 3) := by decide +kernel
theorem dX11_has_8 : decode cX11_has 8 = .ok (.iconst 1, 1) := by decide +kernel
theorem dX11_has_9 : decode cX11_has 9 = .ok (.goto 4, 3) := by decide +kernel
theorem dX11_has_12 : decode cX11_has 12 = .ok (.iconst 0, 1) := by decide +kernel
theorem dX11_has_13 : decode cX11_has 13 = .ok (.ireturn, 1) := by decide +kernel
def fX11_has (x0 : Int32) (x1 : Int32) (I : Mem) : Option Int32 :=
  if ((x0 >>> (x1 &&& 31)) &&& (1 : Int32)) = 0 then
  (some (0 : Int32))
  else
  (some (1 : Int32))
set_option maxRecDepth 20000 in
theorem gX11_has (E : EV) (d : Nat) (x0 : Int32) (x1 : Int32) (I : Mem) {v : Int32} (hf : fX11_has x0 x1 I = some v) : Gm E (d + 0) kX11_has [.int x0, .int x1] I (some (.int v), I) := by
  refine (fun (y : Int32) (hf : fX11_has x0 x1 I = some y) => (?_ : Gm E (d + 0) kX11_has [.int x0, .int x1] I (some (.int y), I))) v hf
  refine Gm.of (by decide) rfl (Nat.le_of_ble_eq_true rfl) ?_
  generalize hrr : ((some (.int y), I) : Option Value × Mem) = rr
  show G E (d + 0) kX11_has 0 [some (.int x0), some (.int x1)] [] I rr
  have hK : (fun (z : Int32) => (some (.int z), I) = rr) y := hrr
  clear hrr
  unfold fX11_has at hf
  refine G.iload_n dX11_has_0 rfl rfl ?_
  refine G.iload_n dX11_has_1 rfl rfl ?_
  refine G.ishr dX11_has_2 ?_
  refine G.iconst (v := 1) dX11_has_3 (by decide) ?_
  refine G.iand dX11_has_4 ?_
  refine G.if_eq (tgt := 12) dX11_has_5 (by decide) (fun c_1 => ?_) (fun c_1 => ?_)
  · have hf := ite_t hf c_1
    refine G.iconst (v := 0) dX11_has_12 (by decide) ?_
    have hf := Option.some.inj hf
    subst hf
    exact G.zret' dX11_has_13 rfl (by decide) hK
  · have hf := ite_f hf c_1
    refine G.iconst (v := 1) dX11_has_8 (by decide) ?_
    refine G.goto (tgt := 13) dX11_has_9 (by decide) ?_
    have hf := Option.some.inj hf
    subst hf
    exact G.zret' dX11_has_13 rfl (by decide) hK
theorem dX11_wishPlace_0 : decode cX11_wishPlace 0 = .ok (.iload_n 0, 1) := by decide +kernel
theorem dX11_wishPlace_1 : decode cX11_wishPlace 1 = .ok (.iconst 4, 1) := by decide +kernel
theorem dX11_wishPlace_2 : decode cX11_wishPlace 2 = .ok (.imul, 1) := by decide +kernel
theorem dX11_wishPlace_3 : decode cX11_wishPlace 3 = .ok (.iload_n 1, 1) := by decide +kernel
theorem dX11_wishPlace_4 : decode cX11_wishPlace 4 = .ok (.iadd, 1) := by decide +kernel
theorem dX11_wishPlace_5 : decode cX11_wishPlace 5 = .ok (.iconst 1, 1) := by decide +kernel
theorem dX11_wishPlace_6 : decode cX11_wishPlace 6 = .ok (.isub, 1) := by decide +kernel
theorem dX11_wishPlace_7 : decode cX11_wishPlace 7 = .ok (.ireturn, 1) := by decide +kernel
def fX11_wishPlace (x0 : Int32) (x1 : Int32) (I : Mem) : Option Int32 :=
  some (((x0 * (4 : Int32)) + x1) - (1 : Int32))
set_option maxRecDepth 20000 in
theorem gX11_wishPlace (E : EV) (d : Nat) (x0 : Int32) (x1 : Int32) (I : Mem) {v : Int32} (hf : fX11_wishPlace x0 x1 I = some v) : Gm E (d + 0) kX11_wishPlace [.int x0, .int x1] I (some (.int v), I) := by
  refine (fun (y : Int32) (hf : fX11_wishPlace x0 x1 I = some y) => (?_ : Gm E (d + 0) kX11_wishPlace [.int x0, .int x1] I (some (.int y), I))) v hf
  refine Gm.of (by decide) rfl (Nat.le_of_ble_eq_true rfl) ?_
  generalize hrr : ((some (.int y), I) : Option Value × Mem) = rr
  show G E (d + 0) kX11_wishPlace 0 [some (.int x0), some (.int x1)] [] I rr
  have hK : (fun (z : Int32) => (some (.int z), I) = rr) y := hrr
  clear hrr
  unfold fX11_wishPlace at hf
  refine G.iload_n dX11_wishPlace_0 rfl rfl ?_
  refine G.iconst (v := 4) dX11_wishPlace_1 (by decide) ?_
  refine G.imul dX11_wishPlace_2 ?_
  refine G.iload_n dX11_wishPlace_3 rfl rfl ?_
  refine G.iadd dX11_wishPlace_4 ?_
  refine G.iconst (v := 1) dX11_wishPlace_5 (by decide) ?_
  refine G.isub dX11_wishPlace_6 ?_
  have hf := Option.some.inj hf
  subst hf
  exact G.iret' dX11_wishPlace_7 rfl hK
theorem dX11_drawRoom_0 : decode cX11_drawRoom 0 = .ok (.iload_n 0, 1) := by decide +kernel
theorem dX11_drawRoom_1 : decode cX11_drawRoom 1 = .ok (.invokestatic 258, 3) := by decide +kernel
theorem dX11_drawRoom_4 : decode cX11_drawRoom 4 = .ok (.istore_n 3, 1) := by decide +kernel
theorem dX11_drawRoom_5 : decode cX11_drawRoom 5 = .ok (.iload_n 3, 1) := by decide +kernel
theorem dX11_drawRoom_6 : decode cX11_drawRoom 6 = .ok (.ifCond .ne 5, 3) := by decide +kernel
theorem dX11_drawRoom_9 : decode cX11_drawRoom 9 = .ok (.iconst 0, 1) := by decide +kernel
theorem dX11_drawRoom_10 : decode cX11_drawRoom 10 = .ok (.ireturn, 1) := by decide +kernel
theorem dX11_drawRoom_11 : decode cX11_drawRoom 11 = .ok (.iload_n 0, 1) := by decide +kernel
theorem dX11_drawRoom_12 : decode cX11_drawRoom 12 = .ok (.istore 4, 2) := by decide +kernel
theorem dX11_drawRoom_14 : decode cX11_drawRoom 14 = .ok (.lload_n 1, 1) := by decide +kernel
theorem dX11_drawRoom_15 : decode cX11_drawRoom 15 = .ok (.iload_n 3, 1) := by decide +kernel
theorem dX11_drawRoom_16 : decode cX11_drawRoom 16 = .ok (.i2l, 1) := by decide +kernel
theorem dX11_drawRoom_17 : decode cX11_drawRoom 17 = .ok (.lrem, 1) := by decide +kernel
theorem dX11_drawRoom_18 : decode cX11_drawRoom 18 = .ok (.l2i, 1) := by decide +kernel
theorem dX11_drawRoom_19 : decode cX11_drawRoom 19 = .ok (.istore 5, 2) := by decide +kernel
theorem dX11_drawRoom_21 : decode cX11_drawRoom 21 = .ok (.iload 5, 2) := by decide +kernel
theorem dX11_drawRoom_23 : decode cX11_drawRoom 23 = .ok (.ifCond .le 18, 3) := by decide +kernel
theorem dX11_drawRoom_26 : decode cX11_drawRoom 26 = .ok (.iload 4, 2) := by decide +kernel
theorem dX11_drawRoom_28 : decode cX11_drawRoom 28 = .ok (.iload 4, 2) := by decide +kernel
theorem dX11_drawRoom_30 : decode cX11_drawRoom 30 = .ok (.iconst 1, 1) := by decide +kernel
theorem dX11_drawRoom_31 : decode cX11_drawRoom 31 = .ok (.isub, 1) := by decide +kernel
theorem dX11_drawRoom_32 : decode cX11_drawRoom 32 = .ok (.iand, 1) := by decide +kernel
theorem dX11_drawRoom_33 : decode cX11_drawRoom 33 = .ok (.istore 4, 2) := by decide +kernel
theorem dX11_drawRoom_35 : decode cX11_drawRoom 35 = .ok (.iinc 5 (-1), 3) := by decide +kernel
theorem dX11_drawRoom_38 : decode cX11_drawRoom 38 = .ok (.goto (-17), 3) := by decide +kernel
theorem dX11_drawRoom_41 : decode cX11_drawRoom 41 = .ok (.iload 4, 2) := by decide +kernel
theorem dX11_drawRoom_43 : decode cX11_drawRoom 43 = .ok (.invokestatic 293, 3) := by decide +kernel
theorem dX11_drawRoom_46 : decode cX11_drawRoom 46 = .ok (.ireturn, 1) := by decide +kernel
def KX11_drawRoom_21 (E : EV) (d : Nat) (rr : Option Value × Mem) (I : Mem) (Kp : Int32 → Prop) : ((Int32 × Int32) ⊕ Int32) → Prop
  | .inl q => G E (d + 1) kX11_drawRoom 21 [none, none, none, none, some (.int q.1), some (.int q.2)] [] I rr
  | .inr z => Kp z
def bX11_drawRoom_21 (I : Mem) (x4 : Int32) (x5 : Int32) : Option ((Int32 × Int32) ⊕ Int32) :=
  if x5 ≤ 0 then
  (bnd (fJ6_numberOfTrailingZeros_0f7a4 x4 I) fun v_6 =>
  some (.inr v_6))
  else
  (letb (x4 &&& (x4 - (1 : Int32))) fun x4_7 =>
  some (.inl (x4_7, (x5 + (-1 : Int32)))))
def sX11_drawRoom_21 (I : Mem) (q : (Int32 × Int32)) : Option ((Int32 × Int32) ⊕ Int32) := bX11_drawRoom_21 I q.1 q.2
set_option maxRecDepth 20000 in
theorem wX11_drawRoom_21 (E : EV) (d : Nat) (rr : Option Value × Mem) (I : Mem) (x4 : Int32) (x5 : Int32) (y : ((Int32 × Int32) ⊕ Int32)) (hf : bX11_drawRoom_21 I x4 x5 = some y) (hK : (KX11_drawRoom_21 E d rr I (fun (z : Int32) => (some (.int z), I) = rr)) y) : G E (d + 1) kX11_drawRoom 21 [none, none, none, none, some (.int x4), some (.int x5)] [] I rr := by
  unfold bX11_drawRoom_21 at hf
  refine G.iload dX11_drawRoom_21 rfl ?_
  refine G.if_le (tgt := 41) dX11_drawRoom_23 (by decide) (fun c_8 => ?_) (fun c_8 => ?_)
  · have hf := ite_t hf c_8
    refine G.iload dX11_drawRoom_41 rfl ?_
    obtain ⟨v_6, hc_5, hf⟩ := bnd_at hf
    refine G.callSi (av := [.int x4]) (rest := []) dX11_drawRoom_43 msX11_293 (gJ6_numberOfTrailingZeros_0f7a4 E d x4 I hc_5) rfl rfl (Nat.le_of_ble_eq_true rfl) ?_
    have hf := Option.some.inj hf
    subst hf
    exact G.iret' dX11_drawRoom_46 rfl hK
  · have hf := ite_f hf c_8
    refine G.iload dX11_drawRoom_26 rfl ?_
    refine G.iload dX11_drawRoom_28 rfl ?_
    refine G.iconst (v := 1) dX11_drawRoom_30 (by decide) ?_
    refine G.isub dX11_drawRoom_31 ?_
    refine G.iand dX11_drawRoom_32 ?_
    refine G.nmi (fun x4_7 e_x4_7 => ?_)
    have hf := letb_at hf e_x4_7
    clear e_x4_7
    refine G.istore (L' := [none, none, none, none, some (.int x4_7), some (.int x5)]) dX11_drawRoom_33 (Nat.le_of_ble_eq_true rfl) (Nat.le_of_ble_eq_true rfl) rfl rfl ?_
    refine G.inc (w := -1) (L' := [none, none, none, none, some (.int x4_7), some (.int (x5 + (-1 : Int32)))]) dX11_drawRoom_35 (by decide) rfl (Nat.le_of_ble_eq_true rfl) rfl rfl ?_
    refine G.goto (tgt := 21) dX11_drawRoom_38 (by decide) ?_
    have hf := Option.some.inj hf
    subst hf
    exact hK
theorem lX11_drawRoom_21 (E : EV) (d : Nat) (rr : Option Value × Mem) (I : Mem) (z : Int32) (hK : (fun (z : Int32) => (some (.int z), I) = rr) z) : ∀ (n : Nat) (q : (Int32 × Int32)), iter (sX11_drawRoom_21 I) n q = some z → G E (d + 1) kX11_drawRoom 21 [none, none, none, none, some (.int q.1), some (.int q.2)] [] I rr := by
  intro n
  induction n with
  | zero => intro q h; cases h
  | succ n ih =>
    intro q h
    rcases iter_at h with ⟨q2, hs, h2⟩ | hs
    · exact wX11_drawRoom_21 E d rr I q.1 q.2 _ hs (ih q2 h2)
    · exact wX11_drawRoom_21 E d rr I q.1 q.2 _ hs hK
def fX11_drawRoom (x0 : Int32) (l1 : Int64) (I : Mem) : Option Int32 :=
  bnd (fJ6_bitCount_0f7a4 x0 I) fun v_2 =>
  if v_2 = 0 then
  (some (0 : Int32))
  else
  (chk (decide (¬ (Int32.toInt64 v_2) = 0)) <|
  letb (Int64.toInt32 (l1 - l1 / (Int32.toInt64 v_2) * (Int32.toInt64 v_2))) fun x5_4 =>
  iter (sX11_drawRoom_21 I) FU (x0, x5_4))
set_option maxRecDepth 20000 in
theorem gX11_drawRoom (E : EV) (d : Nat) (x0 : Int32) (l1 : Int64) (I : Mem) {v : Int32} (hf : fX11_drawRoom x0 l1 I = some v) : Gm E (d + 1) kX11_drawRoom [.int x0, .long l1] I (some (.int v), I) := by
  refine (fun (y : Int32) (hf : fX11_drawRoom x0 l1 I = some y) => (?_ : Gm E (d + 1) kX11_drawRoom [.int x0, .long l1] I (some (.int y), I))) v hf
  refine Gm.of (by decide) rfl (Nat.le_of_ble_eq_true rfl) ?_
  generalize hrr : ((some (.int y), I) : Option Value × Mem) = rr
  show G E (d + 1) kX11_drawRoom 0 [some (.int x0), some (.long l1), none, none, none, none] [] I rr
  have hK : (fun (z : Int32) => (some (.int z), I) = rr) y := hrr
  clear hrr
  unfold fX11_drawRoom at hf
  refine G.iload_n dX11_drawRoom_0 rfl rfl ?_
  obtain ⟨v_2, hc_1, hf⟩ := bnd_at hf
  refine G.callSi (av := [.int x0]) (rest := []) dX11_drawRoom_1 msX11_258 (gJ6_bitCount_0f7a4 E d x0 I hc_1) rfl rfl (Nat.le_of_ble_eq_true rfl) ?_
  refine G.istore_n (L' := [some (.int x0), some (.long l1), none, some (.int v_2), none, none]) dX11_drawRoom_4 rfl (Nat.le_of_ble_eq_true rfl) (Nat.le_of_ble_eq_true rfl) rfl rfl ?_
  refine G.iload_n dX11_drawRoom_5 rfl rfl ?_
  refine G.if_ne (tgt := 11) dX11_drawRoom_6 (by decide) (fun c_9 => ?_) (fun c_9 => ?_)
  · have hf := ite_f hf c_9
    refine G.iload_n dX11_drawRoom_11 rfl rfl ?_
    refine G.istore (L' := [some (.int x0), some (.long l1), none, some (.int v_2), some (.int x0), none]) dX11_drawRoom_12 (Nat.le_of_ble_eq_true rfl) (Nat.le_of_ble_eq_true rfl) rfl rfl ?_
    refine G.lload_n dX11_drawRoom_14 rfl rfl ?_
    refine G.iload_n dX11_drawRoom_15 rfl rfl ?_
    refine G.i2l dX11_drawRoom_16 ?_
    obtain ⟨hz_3, hf⟩ := chk_at hf
    refine G.lrem dX11_drawRoom_17 (of_decide_eq_true hz_3) ?_
    refine G.l2i dX11_drawRoom_18 ?_
    refine G.nmi (fun x5_4 e_x5_4 => ?_)
    have hf := letb_at hf e_x5_4
    clear e_x5_4
    refine G.istore (L' := [some (.int x0), some (.long l1), none, some (.int v_2), some (.int x0), some (.int x5_4)]) dX11_drawRoom_19 (Nat.le_of_ble_eq_true rfl) (Nat.le_of_ble_eq_true rfl) rfl rfl ?_
    refine G.forget (L' := [none, none, none, none, some (.int x0), some (.int x5_4)]) [0, 1, 3] rfl ?_
    exact lX11_drawRoom_21 E d rr I _ hK FU _ hf
  · have hf := ite_t hf c_9
    refine G.iconst (v := 0) dX11_drawRoom_9 (by decide) ?_
    have hf := Option.some.inj hf
    subst hf
    exact G.iret' dX11_drawRoom_10 rfl hK
