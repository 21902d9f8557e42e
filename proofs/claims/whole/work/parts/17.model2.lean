theorem dX12_sort_0 : decode cX12_sort 0 = .ok (.iload_n 0, 1) := by decide +kernel
theorem dX12_sort_1 : decode cX12_sort 1 = .ok (.bipush 97, 2) := by decide +kernel
theorem dX12_sort_3 : decode cX12_sort 3 = .ok (.if_icmp .lt 13, 3) := by decide +kernel
theorem dX12_sort_6 : decode cX12_sort 6 = .ok (.iload_n 0, 1) := by decide +kernel
theorem dX12_sort_7 : decode cX12_sort 7 = .ok (.bipush 122, 2) := by decide +kernel
theorem dX12_sort_9 : decode cX12_sort 9 = .ok (.if_icmp .gt 7, 3) := by decide +kernel
theorem dX12_sort_12 : decode cX12_sort 12 = .ok (.iconst 1, 1) := by decide +kernel
theorem dX12_sort_13 : decode cX12_sort 13 = .ok (.goto 20, 3) := by decide +kernel
theorem dX12_sort_16 : decode cX12_sort 16 = .ok (.iload_n 0, 1) := by decide +kernel
theorem dX12_sort_17 : decode cX12_sort 17 = .ok (.bipush 48, 2) := by decide +kernel
theorem dX12_sort_19 : decode cX12_sort 19 = .ok (.if_icmp .lt 13, 3) := by decide +kernel
theorem dX12_sort_22 : decode cX12_sort 22 = .ok (.iload_n 0, 1) := by decide +kernel
theorem dX12_sort_23 : decode cX12_sort 23 = .ok (.bipush 57, 2) := by decide +kernel
theorem dX12_sort_25 : decode cX12_sort 25 = .ok (.if_icmp .gt 7, 3) := by decide +kernel
theorem dX12_sort_28 : decode cX12_sort 28 = .ok (.iconst 2, 1) := by decide +kernel
theorem dX12_sort_29 : decode cX12_sort 29 = .ok (.goto 4, 3) := by decide +kernel
theorem dX12_sort_32 : decode cX12_sort 32 = .ok (.iconst 0, 1) := by decide +kernel
theorem dX12_sort_33 : decode cX12_sort 33 = .ok (.ireturn, 1) := by decide +kernel
def jX12_sort_16 (x0 : Int32) (I : Mem) : Option Int32 :=
  if x0 < (48 : Int32) then
  (some (0 : Int32))
  else
  (if (57 : Int32) < x0 then
  (some (0 : Int32))
  else
  (some (2 : Int32)))
set_option maxRecDepth 20000 in
theorem tX12_sort_16 (E : EV) (d : Nat) (rr : Option Value × Mem) (x0 : Int32) (I : Mem) (y : Int32) (hf : jX12_sort_16 x0 I = some y) (hK : (fun (z : Int32) => (some (.int z), I) = rr) y) : G E (d + 0) kX12_sort 16 [some (.int x0)] [] I rr := by
  unfold jX12_sort_16 at hf
  refine G.iload_n dX12_sort_16 rfl rfl ?_
  refine G.bipush (v := 48) dX12_sort_17 (by decide) ?_
  refine G.icmp_lt (tgt := 32) dX12_sort_19 (by decide) (fun c_2 => ?_) (fun c_2 => ?_)
  · have hf := ite_t hf c_2
    refine G.iconst (v := 0) dX12_sort_32 (by decide) ?_
    have hf := Option.some.inj hf
    subst hf
    exact G.iret' dX12_sort_33 rfl hK
  · have hf := ite_f hf c_2
    refine G.iload_n dX12_sort_22 rfl rfl ?_
    refine G.bipush (v := 57) dX12_sort_23 (by decide) ?_
    refine G.icmp_gt (tgt := 32) dX12_sort_25 (by decide) (fun c_1 => ?_) (fun c_1 => ?_)
    · have hf := ite_t hf c_1
      refine G.iconst (v := 0) dX12_sort_32 (by decide) ?_
      have hf := Option.some.inj hf
      subst hf
      exact G.iret' dX12_sort_33 rfl hK
    · have hf := ite_f hf c_1
      refine G.iconst (v := 2) dX12_sort_28 (by decide) ?_
      refine G.goto (tgt := 33) dX12_sort_29 (by decide) ?_
      have hf := Option.some.inj hf
      subst hf
      exact G.iret' dX12_sort_33 rfl hK
def fX12_sort (x0 : Int32) (I : Mem) : Option Int32 :=
  if x0 < (97 : Int32) then
  (jX12_sort_16 x0 I)
  else
  (if (122 : Int32) < x0 then
  (jX12_sort_16 x0 I)
  else
  (some (1 : Int32)))
set_option maxRecDepth 20000 in
theorem gX12_sort (E : EV) (d : Nat) (x0 : Int32) (I : Mem) {v : Int32} (hf : fX12_sort x0 I = some v) : Gm E (d + 0) kX12_sort [.int x0] I (some (.int v), I) := by
  refine (fun (y : Int32) (hf : fX12_sort x0 I = some y) => (?_ : Gm E (d + 0) kX12_sort [.int x0] I (some (.int y), I))) v hf
  refine Gm.of (by decide) rfl (Nat.le_of_ble_eq_true rfl) ?_
  generalize hrr : ((some (.int y), I) : Option Value × Mem) = rr
  show G E (d + 0) kX12_sort 0 [some (.int x0)] [] I rr
  have hK : (fun (z : Int32) => (some (.int z), I) = rr) y := hrr
  clear hrr
  unfold fX12_sort at hf
  refine G.iload_n dX12_sort_0 rfl rfl ?_
  refine G.bipush (v := 97) dX12_sort_1 (by decide) ?_
  refine G.icmp_lt (tgt := 16) dX12_sort_3 (by decide) (fun c_4 => ?_) (fun c_4 => ?_)
  · have hf := ite_t hf c_4
    exact tX12_sort_16 E d rr x0 I _ hf hK
  · have hf := ite_f hf c_4
    refine G.iload_n dX12_sort_6 rfl rfl ?_
    refine G.bipush (v := 122) dX12_sort_7 (by decide) ?_
    refine G.icmp_gt (tgt := 16) dX12_sort_9 (by decide) (fun c_3 => ?_) (fun c_3 => ?_)
    · have hf := ite_t hf c_3
      exact tX12_sort_16 E d rr x0 I _ hf hK
    · have hf := ite_f hf c_3
      refine G.iconst (v := 1) dX12_sort_12 (by decide) ?_
      refine G.goto (tgt := 33) dX12_sort_13 (by decide) ?_
      have hf := Option.some.inj hf
      subst hf
      exact G.iret' dX12_sort_33 rfl hK
theorem dX12_token_0 : decode cX12_token 0 = .ok (.aload_n 0, 1) := by decide +kernel
theorem dX12_token_1 : decode cX12_token 1 = .ok (.getfield 99, 3) := by decide +kernel
theorem dX12_token_4 : decode cX12_token 4 = .ok (.aload_n 0, 1) := by decide +kernel
theorem dX12_token_5 : decode cX12_token 5 = .ok (.getfield 94, 3) := by decide +kernel
theorem dX12_token_8 : decode cX12_token 8 = .ok (.if_icmp .ge 30, 3) := by decide +kernel
theorem dX12_token_11 : decode cX12_token 11 = .ok (.aload_n 0, 1) := by decide +kernel
theorem dX12_token_12 : decode cX12_token 12 = .ok (.getfield 17, 3) := by decide +kernel
theorem dX12_token_15 : decode cX12_token 15 = .ok (.aload_n 0, 1) := by decide +kernel
theorem dX12_token_16 : decode cX12_token 16 = .ok (.getfield 99, 3) := by decide +kernel
theorem dX12_token_19 : decode cX12_token 19 = .ok (.iaload, 1) := by decide +kernel
theorem dX12_token_20 : decode cX12_token 20 = .ok (.bipush 32, 2) := by decide +kernel
theorem dX12_token_22 : decode cX12_token 22 = .ok (.if_icmp .ne 16, 3) := by decide +kernel
theorem dX12_token_25 : decode cX12_token 25 = .ok (.aload_n 0, 1) := by decide +kernel
theorem dX12_token_26 : decode cX12_token 26 = .ok (.dup, 1) := by decide +kernel
theorem dX12_token_27 : decode cX12_token 27 = .ok (.getfield 99, 3) := by decide +kernel
theorem dX12_token_30 : decode cX12_token 30 = .ok (.iconst 1, 1) := by decide +kernel
theorem dX12_token_31 : decode cX12_token 31 = .ok (.iadd, 1) := by decide +kernel
theorem dX12_token_32 : decode cX12_token 32 = .ok (.putfield 99, 3) := by decide +kernel
theorem dX12_token_35 : decode cX12_token 35 = .ok (.goto (-35), 3) := by decide +kernel
theorem dX12_token_38 : decode cX12_token 38 = .ok (.aload_n 0, 1) := by decide +kernel
theorem dX12_token_39 : decode cX12_token 39 = .ok (.aload_n 0, 1) := by decide +kernel
theorem dX12_token_40 : decode cX12_token 40 = .ok (.getfield 99, 3) := by decide +kernel
theorem dX12_token_43 : decode cX12_token 43 = .ok (.putfield 102, 3) := by decide +kernel
theorem dX12_token_46 : decode cX12_token 46 = .ok (.aload_n 0, 1) := by decide +kernel
theorem dX12_token_47 : decode cX12_token 47 = .ok (.dup, 1) := by decide +kernel
theorem dX12_token_48 : decode cX12_token 48 = .ok (.getfield 99, 3) := by decide +kernel
theorem dX12_token_51 : decode cX12_token 51 = .ok (.aload_n 0, 1) := by decide +kernel
theorem dX12_token_52 : decode cX12_token 52 = .ok (.getfield 99, 3) := by decide +kernel
theorem dX12_token_55 : decode cX12_token 55 = .ok (.aload_n 0, 1) := by decide +kernel
theorem dX12_token_56 : decode cX12_token 56 = .ok (.getfield 94, 3) := by decide +kernel
theorem dX12_token_59 : decode cX12_token 59 = .ok (.if_icmp .ge 7, 3) := by decide +kernel
theorem dX12_token_62 : decode cX12_token 62 = .ok (.iconst 1, 1) := by decide +kernel
theorem dX12_token_63 : decode cX12_token 63 = .ok (.goto 4, 3) := by decide +kernel
theorem dX12_token_66 : decode cX12_token 66 = .ok (.iconst 0, 1) := by decide +kernel
theorem dX12_token_67 : decode cX12_token 67 = .ok (.iadd, 1) := by decide +kernel
theorem dX12_token_68 : decode cX12_token 68 = .ok (.putfield 99, 3) := by decide +kernel
theorem dX12_token_71 : decode cX12_token 71 = .ok (.aload_n 0, 1) := by decide +kernel
theorem dX12_token_72 : decode cX12_token 72 = .ok (.getfield 99, 3) := by decide +kernel
theorem dX12_token_75 : decode cX12_token 75 = .ok (.aload_n 0, 1) := by decide +kernel
theorem dX12_token_76 : decode cX12_token 76 = .ok (.getfield 94, 3) := by decide +kernel
theorem dX12_token_79 : decode cX12_token 79 = .ok (.if_icmp .ge 58, 3) := by decide +kernel
theorem dX12_token_82 : decode cX12_token 82 = .ok (.aload_n 0, 1) := by decide +kernel
theorem dX12_token_83 : decode cX12_token 83 = .ok (.getfield 17, 3) := by decide +kernel
theorem dX12_token_86 : decode cX12_token 86 = .ok (.aload_n 0, 1) := by decide +kernel
theorem dX12_token_87 : decode cX12_token 87 = .ok (.getfield 102, 3) := by decide +kernel
theorem dX12_token_90 : decode cX12_token 90 = .ok (.iaload, 1) := by decide +kernel
theorem dX12_token_91 : decode cX12_token 91 = .ok (.invokestatic 105, 3) := by decide +kernel
theorem dX12_token_94 : decode cX12_token 94 = .ok (.ifCond .le 43, 3) := by decide +kernel
theorem dX12_token_97 : decode cX12_token 97 = .ok (.aload_n 0, 1) := by decide +kernel
theorem dX12_token_98 : decode cX12_token 98 = .ok (.getfield 17, 3) := by decide +kernel
theorem dX12_token_101 : decode cX12_token 101 = .ok (.aload_n 0, 1) := by decide +kernel
theorem dX12_token_102 : decode cX12_token 102 = .ok (.getfield 99, 3) := by decide +kernel
theorem dX12_token_105 : decode cX12_token 105 = .ok (.iaload, 1) := by decide +kernel
theorem dX12_token_106 : decode cX12_token 106 = .ok (.invokestatic 105, 3) := by decide +kernel
theorem dX12_token_109 : decode cX12_token 109 = .ok (.aload_n 0, 1) := by decide +kernel
theorem dX12_token_110 : decode cX12_token 110 = .ok (.getfield 17, 3) := by decide +kernel
theorem dX12_token_113 : decode cX12_token 113 = .ok (.aload_n 0, 1) := by decide +kernel
theorem dX12_token_114 : decode cX12_token 114 = .ok (.getfield 102, 3) := by decide +kernel
theorem dX12_token_117 : decode cX12_token 117 = .ok (.iaload, 1) := by decide +kernel
theorem dX12_token_118 : decode cX12_token 118 = .ok (.invokestatic 105, 3) := by decide +kernel
theorem dX12_token_121 : decode cX12_token 121 = .ok (.if_icmp .ne 16, 3) := by decide +kernel
theorem dX12_token_124 : decode cX12_token 124 = .ok (.aload_n 0, 1) := by decide +kernel
theorem dX12_token_125 : decode cX12_token 125 = .ok (.dup, 1) := by decide +kernel
theorem dX12_token_126 : decode cX12_token 126 = .ok (.getfield 99, 3) := by decide +kernel
theorem dX12_token_129 : decode cX12_token 129 = .ok (.iconst 1, 1) := by decide +kernel
theorem dX12_token_130 : decode cX12_token 130 = .ok (.iadd, 1) := by decide +kernel
theorem dX12_token_131 : decode cX12_token 131 = .ok (.putfield 99, 3) := by decide +kernel
theorem dX12_token_134 : decode cX12_token 134 = .ok (.goto (-63), 3) := by decide +kernel
theorem dX12_token_137 : decode cX12_token 137 = .ok (.aload_n 0, 1) := by decide +kernel
theorem dX12_token_138 : decode cX12_token 138 = .ok (.aload_n 0, 1) := by decide +kernel
theorem dX12_token_139 : decode cX12_token 139 = .ok (.getfield 99, 3) := by decide +kernel
theorem dX12_token_142 : decode cX12_token 142 = .ok (.putfield 108, 3) := by decide +kernel
theorem dX12_token_145 : decode cX12_token 145 = .ok (.return_, 1) := by decide +kernel
def KX12_token_0 (E : EV) (d : Nat) (rr : Option Value × Mem) (Kp : Mem → Prop) : (Mem ⊕ Mem) → Prop
  | .inl q => G E (d + 1) kX12_token 0 [some (.ref 74)] [] q rr
  | .inr z => Kp z
def KX12_token_71 (E : EV) (d : Nat) (rr : Option Value × Mem) (Kp : Mem → Prop) : (Mem ⊕ Mem) → Prop
  | .inl q => G E (d + 1) kX12_token 71 [some (.ref 74)] [] q rr
  | .inr z => Kp z
def bX12_token_71 (I : Mem) : Option (Mem ⊕ Mem) :=
  if (I 74 3) ≤ (I 74 5) then
  (letb (up2 I 74 7 (I 74 5)) fun I_3 =>
  some (.inr I_3))
  else
  (chk (inb (I 74 6) 200) <|
  bnd (fX12_sort (I 77 (ix (I 74 6))) I) fun v_6 =>
  if v_6 ≤ 0 then
  (letb (up2 I 74 7 (I 74 5)) fun I_7 =>
  some (.inr I_7))
  else
  (chk (inb (I 74 5) 200) <|
  bnd (fX12_sort (I 77 (ix (I 74 5))) I) fun v_10 =>
  chk (inb (I 74 6) 200) <|
  bnd (fX12_sort (I 77 (ix (I 74 6))) I) fun v_13 =>
  if v_10 = v_13 then
  (letb (up2 I 74 5 ((I 74 5) + (1 : Int32))) fun I_15 =>
  some (.inl I_15))
  else
  (letb (up2 I 74 7 (I 74 5)) fun I_14 =>
  some (.inr I_14))))
def sX12_token_71 (q : Mem) : Option (Mem ⊕ Mem) := bX12_token_71 q
set_option maxRecDepth 20000 in
theorem wX12_token_71 (E : EV) (d : Nat) (rr : Option Value × Mem) (I : Mem) (y : (Mem ⊕ Mem)) (hf : bX12_token_71 I = some y) (hK : (KX12_token_71 E d rr  (fun (z : Mem) => ((none : Option Value), z) = rr)) y) : G E (d + 1) kX12_token 71 [some (.ref 74)] [] I rr := by
  unfold bX12_token_71 at hf
  refine G.aload_n dX12_token_71 rfl rfl ?_
  refine G.getI dX12_token_72 flX12_99 (by decide) rfl ?_
  refine G.aload_n dX12_token_75 rfl rfl ?_
  refine G.getI dX12_token_76 flX12_94 (by decide) rfl ?_
  refine G.icmp_ge (tgt := 137) dX12_token_79 (by decide) (fun c_18 => ?_) (fun c_18 => ?_)
  · have hf := ite_t hf c_18
    refine G.aload_n dX12_token_137 rfl rfl ?_
    refine G.aload_n dX12_token_138 rfl rfl ?_
    refine G.getI dX12_token_139 flX12_99 (by decide) rfl ?_
    refine G.putI dX12_token_142 flX12_108 (by decide) rfl ?_
    refine G.nmI (fun I_3 e_I_3 => ?_)
    have hf := letb_at hf e_I_3
    clear e_I_3
    have hf := Option.some.inj hf
    subst hf
    exact G.vret' dX12_token_145 rfl hK
  · have hf := ite_f hf c_18
    refine G.aload_n dX12_token_82 rfl rfl ?_
    refine G.getR (q := 77) dX12_token_83 flX12_17 (by decide) rfl rfl ?_
    refine G.aload_n dX12_token_86 rfl rfl ?_
    refine G.getI dX12_token_87 flX12_102 (by decide) rfl ?_
    obtain ⟨hi_4, hf⟩ := chk_at hf
    refine G.iald' dX12_token_90 (by decide) rfl rfl hi_4 ?_
    obtain ⟨v_6, hc_5, hf⟩ := bnd_at hf
    refine G.callSi (av := [.int (I 77 (ix (I 74 6)))]) (rest := []) dX12_token_91 msX12_105 (gX12_sort E d (I 77 (ix (I 74 6))) I hc_5) rfl rfl (Nat.le_of_ble_eq_true rfl) ?_
    refine G.if_le (tgt := 137) dX12_token_94 (by decide) (fun c_17 => ?_) (fun c_17 => ?_)
    · have hf := ite_t hf c_17
      refine G.aload_n dX12_token_137 rfl rfl ?_
      refine G.aload_n dX12_token_138 rfl rfl ?_
      refine G.getI dX12_token_139 flX12_99 (by decide) rfl ?_
      refine G.putI dX12_token_142 flX12_108 (by decide) rfl ?_
      refine G.nmI (fun I_7 e_I_7 => ?_)
      have hf := letb_at hf e_I_7
      clear e_I_7
      have hf := Option.some.inj hf
      subst hf
      exact G.vret' dX12_token_145 rfl hK
    · have hf := ite_f hf c_17
      refine G.aload_n dX12_token_97 rfl rfl ?_
      refine G.getR (q := 77) dX12_token_98 flX12_17 (by decide) rfl rfl ?_
      refine G.aload_n dX12_token_101 rfl rfl ?_
      refine G.getI dX12_token_102 flX12_99 (by decide) rfl ?_
      obtain ⟨hi_8, hf⟩ := chk_at hf
      refine G.iald' dX12_token_105 (by decide) rfl rfl hi_8 ?_
      obtain ⟨v_10, hc_9, hf⟩ := bnd_at hf
      refine G.callSi (av := [.int (I 77 (ix (I 74 5)))]) (rest := []) dX12_token_106 msX12_105 (gX12_sort E d (I 77 (ix (I 74 5))) I hc_9) rfl rfl (Nat.le_of_ble_eq_true rfl) ?_
      refine G.aload_n dX12_token_109 rfl rfl ?_
      refine G.getR (q := 77) dX12_token_110 flX12_17 (by decide) rfl rfl ?_
      refine G.aload_n dX12_token_113 rfl rfl ?_
      refine G.getI dX12_token_114 flX12_102 (by decide) rfl ?_
      obtain ⟨hi_11, hf⟩ := chk_at hf
      refine G.iald' dX12_token_117 (by decide) rfl rfl hi_11 ?_
      obtain ⟨v_13, hc_12, hf⟩ := bnd_at hf
      refine G.callSi (av := [.int (I 77 (ix (I 74 6)))]) (rest := [.int v_10]) dX12_token_118 msX12_105 (gX12_sort E d (I 77 (ix (I 74 6))) I hc_12) rfl rfl (Nat.le_of_ble_eq_true rfl) ?_
      refine G.icmp_ne (tgt := 137) dX12_token_121 (by decide) (fun c_16 => ?_) (fun c_16 => ?_)
      · have hf := ite_f hf c_16
        refine G.aload_n dX12_token_137 rfl rfl ?_
        refine G.aload_n dX12_token_138 rfl rfl ?_
        refine G.getI dX12_token_139 flX12_99 (by decide) rfl ?_
        refine G.putI dX12_token_142 flX12_108 (by decide) rfl ?_
        refine G.nmI (fun I_14 e_I_14 => ?_)
        have hf := letb_at hf e_I_14
        clear e_I_14
        have hf := Option.some.inj hf
        subst hf
        exact G.vret' dX12_token_145 rfl hK
      · have hf := ite_t hf c_16
        refine G.aload_n dX12_token_124 rfl rfl ?_
        refine G.dup dX12_token_125 rfl ?_
        refine G.getI dX12_token_126 flX12_99 (by decide) rfl ?_
        refine G.iconst (v := 1) dX12_token_129 (by decide) ?_
        refine G.iadd dX12_token_130 ?_
        refine G.putI dX12_token_131 flX12_99 (by decide) rfl ?_
        refine G.nmI (fun I_15 e_I_15 => ?_)
        have hf := letb_at hf e_I_15
        clear e_I_15
        refine G.goto (tgt := 71) dX12_token_134 (by decide) ?_
        have hf := Option.some.inj hf
        subst hf
        exact hK
theorem lX12_token_71 (E : EV) (d : Nat) (rr : Option Value × Mem) (z : Mem) (hK : (fun (z : Mem) => ((none : Option Value), z) = rr) z) : ∀ (n : Nat) (q : Mem), iter (sX12_token_71) n q = some z → G E (d + 1) kX12_token 71 [some (.ref 74)] [] q rr := by
  intro n
  induction n with
  | zero => intro q h; cases h
  | succ n ih =>
    intro q h
    rcases iter_at h with ⟨q2, hs, h2⟩ | hs
    · exact wX12_token_71 E d rr q _ hs (ih q2 h2)
    · exact wX12_token_71 E d rr q _ hs hK
def jX12_token_67 (u0 : Int32) (u1 : Int32) (I : Mem) : Option Mem :=
  letb (up2 I 74 5 (u1 + u0)) fun I_2 =>
  iter (sX12_token_71) FU I_2
set_option maxRecDepth 20000 in
theorem tX12_token_67 (E : EV) (d : Nat) (rr : Option Value × Mem) (u0 : Int32) (u1 : Int32) (I : Mem) (y : Mem) (hf : jX12_token_67 u0 u1 I = some y) (hK : (fun (z : Mem) => ((none : Option Value), z) = rr) y) : G E (d + 1) kX12_token 67 [some (.ref 74)] [.int u0, .int u1, .ref 74] I rr := by
  unfold jX12_token_67 at hf
  refine G.iadd dX12_token_67 ?_
  refine G.putI dX12_token_68 flX12_99 (by decide) rfl ?_
  refine G.nmI (fun I_2 e_I_2 => ?_)
  have hf := letb_at hf e_I_2
  clear e_I_2
  exact lX12_token_71 E d rr _ hK FU _ hf
def jX12_token_38 (I : Mem) : Option Mem :=
  letb (up2 I 74 6 (I 74 5)) fun I_1 =>
  if (I_1 74 3) ≤ (I_1 74 5) then
  (jX12_token_67 (0 : Int32) (I_1 74 5) I_1)
  else
  (jX12_token_67 (1 : Int32) (I_1 74 5) I_1)
set_option maxRecDepth 20000 in
theorem tX12_token_38 (E : EV) (d : Nat) (rr : Option Value × Mem) (I : Mem) (y : Mem) (hf : jX12_token_38 I = some y) (hK : (fun (z : Mem) => ((none : Option Value), z) = rr) y) : G E (d + 1) kX12_token 38 [some (.ref 74)] [] I rr := by
  unfold jX12_token_38 at hf
  refine G.aload_n dX12_token_38 rfl rfl ?_
  refine G.aload_n dX12_token_39 rfl rfl ?_
  refine G.getI dX12_token_40 flX12_99 (by decide) rfl ?_
  refine G.putI dX12_token_43 flX12_102 (by decide) rfl ?_
  refine G.nmI (fun I_1 e_I_1 => ?_)
  have hf := letb_at hf e_I_1
  clear e_I_1
  refine G.aload_n dX12_token_46 rfl rfl ?_
  refine G.dup dX12_token_47 rfl ?_
  refine G.getI dX12_token_48 flX12_99 (by decide) rfl ?_
  refine G.aload_n dX12_token_51 rfl rfl ?_
  refine G.getI dX12_token_52 flX12_99 (by decide) rfl ?_
  refine G.aload_n dX12_token_55 rfl rfl ?_
  refine G.getI dX12_token_56 flX12_94 (by decide) rfl ?_
  refine G.icmp_ge (tgt := 66) dX12_token_59 (by decide) (fun c_19 => ?_) (fun c_19 => ?_)
  · have hf := ite_t hf c_19
    refine G.iconst (v := 0) dX12_token_66 (by decide) ?_
    exact tX12_token_67 E d rr (0 : Int32) (I_1 74 5) I_1 _ hf hK
  · have hf := ite_f hf c_19
    refine G.iconst (v := 1) dX12_token_62 (by decide) ?_
    refine G.goto (tgt := 67) dX12_token_63 (by decide) ?_
    exact tX12_token_67 E d rr (1 : Int32) (I_1 74 5) I_1 _ hf hK
def bX12_token_0 (I : Mem) : Option (Mem ⊕ Mem) :=
  if (I 74 3) ≤ (I 74 5) then
  (inrO (jX12_token_38 I))
  else
  (chk (inb (I 74 5) 200) <|
  if (I 77 (ix (I 74 5))) = (32 : Int32) then
  (letb (up2 I 74 5 ((I 74 5) + (1 : Int32))) fun I_23 =>
  some (.inl I_23))
  else
  (inrO (jX12_token_38 I)))
def sX12_token_0 (q : Mem) : Option (Mem ⊕ Mem) := bX12_token_0 q
set_option maxRecDepth 20000 in
theorem wX12_token_0 (E : EV) (d : Nat) (rr : Option Value × Mem) (I : Mem) (y : (Mem ⊕ Mem)) (hf : bX12_token_0 I = some y) (hK : (KX12_token_0 E d rr  (fun (z : Mem) => ((none : Option Value), z) = rr)) y) : G E (d + 1) kX12_token 0 [some (.ref 74)] [] I rr := by
  unfold bX12_token_0 at hf
  refine G.aload_n dX12_token_0 rfl rfl ?_
  refine G.getI dX12_token_1 flX12_99 (by decide) rfl ?_
  refine G.aload_n dX12_token_4 rfl rfl ?_
  refine G.getI dX12_token_5 flX12_94 (by decide) rfl ?_
  refine G.icmp_ge (tgt := 38) dX12_token_8 (by decide) (fun c_25 => ?_) (fun c_25 => ?_)
  · have hf := ite_t hf c_25
    obtain ⟨z_20, hz_20, rfl⟩ := inrO_at hf
    have hf := hz_20
    exact tX12_token_38 E d rr I _ hf hK
  · have hf := ite_f hf c_25
    refine G.aload_n dX12_token_11 rfl rfl ?_
    refine G.getR (q := 77) dX12_token_12 flX12_17 (by decide) rfl rfl ?_
    refine G.aload_n dX12_token_15 rfl rfl ?_
    refine G.getI dX12_token_16 flX12_99 (by decide) rfl ?_
    obtain ⟨hi_21, hf⟩ := chk_at hf
    refine G.iald' dX12_token_19 (by decide) rfl rfl hi_21 ?_
    refine G.bipush (v := 32) dX12_token_20 (by decide) ?_
    refine G.icmp_ne (tgt := 38) dX12_token_22 (by decide) (fun c_24 => ?_) (fun c_24 => ?_)
    · have hf := ite_f hf c_24
      obtain ⟨z_22, hz_22, rfl⟩ := inrO_at hf
      have hf := hz_22
      exact tX12_token_38 E d rr I _ hf hK
    · have hf := ite_t hf c_24
      refine G.aload_n dX12_token_25 rfl rfl ?_
      refine G.dup dX12_token_26 rfl ?_
      refine G.getI dX12_token_27 flX12_99 (by decide) rfl ?_
      refine G.iconst (v := 1) dX12_token_30 (by decide) ?_
      refine G.iadd dX12_token_31 ?_
      refine G.putI dX12_token_32 flX12_99 (by decide) rfl ?_
      refine G.nmI (fun I_23 e_I_23 => ?_)
      have hf := letb_at hf e_I_23
      clear e_I_23
      refine G.goto (tgt := 0) dX12_token_35 (by decide) ?_
      have hf := Option.some.inj hf
      subst hf
      exact hK
theorem lX12_token_0 (E : EV) (d : Nat) (rr : Option Value × Mem) (z : Mem) (hK : (fun (z : Mem) => ((none : Option Value), z) = rr) z) : ∀ (n : Nat) (q : Mem), iter (sX12_token_0) n q = some z → G E (d + 1) kX12_token 0 [some (.ref 74)] [] q rr := by
  intro n
  induction n with
  | zero => intro q h; cases h
  | succ n ih =>
    intro q h
    rcases iter_at h with ⟨q2, hs, h2⟩ | hs
    · exact wX12_token_0 E d rr q _ hs (ih q2 h2)
    · exact wX12_token_0 E d rr q _ hs hK
def fX12_token (I : Mem) : Option Mem :=
  iter (sX12_token_0) FU I
set_option maxRecDepth 20000 in
theorem gX12_token (E : EV) (d : Nat) (I : Mem) {J : Mem} (hf : fX12_token I = some J) : Gm E (d + 1) kX12_token [.ref 74] I (none, J) := by
  refine (fun (y : Mem) (hf : fX12_token I = some y) => (?_ : Gm E (d + 1) kX12_token [.ref 74] I (none, y))) J hf
  refine Gm.of (by decide) rfl (Nat.le_of_ble_eq_true rfl) ?_
  generalize hrr : ((none, y) : Option Value × Mem) = rr
  show G E (d + 1) kX12_token 0 [some (.ref 74)] [] I rr
  have hK : (fun (z : Mem) => ((none : Option Value), z) = rr) y := hrr
  clear hrr
  unfold fX12_token at hf
  exact lX12_token_0 E d rr _ hK FU _ hf
theorem dX12_isWord_0 : decode cX12_isWord 0 = .ok (.aload_n 0, 1) := by decide +kernel
theorem dX12_isWord_1 : decode cX12_isWord 1 = .ok (.getfield 108, 3) := by decide +kernel
theorem dX12_isWord_4 : decode cX12_isWord 4 = .ok (.aload_n 0, 1) := by decide +kernel
theorem dX12_isWord_5 : decode cX12_isWord 5 = .ok (.getfield 102, 3) := by decide +kernel
theorem dX12_isWord_8 : decode cX12_isWord 8 = .ok (.isub, 1) := by decide +kernel
theorem dX12_isWord_9 : decode cX12_isWord 9 = .ok (.iload_n 2, 1) := by decide +kernel
theorem dX12_isWord_10 : decode cX12_isWord 10 = .ok (.if_icmp .ne 7, 3) := by decide +kernel
theorem dX12_isWord_13 : decode cX12_isWord 13 = .ok (.iconst 1, 1) := by decide +kernel
theorem dX12_isWord_14 : decode cX12_isWord 14 = .ok (.goto 4, 3) := by decide +kernel
theorem dX12_isWord_17 : decode cX12_isWord 17 = .ok (.iconst 0, 1) := by decide +kernel
theorem dX12_isWord_18 : decode cX12_isWord 18 = .ok (.istore_n 3, 1) := by decide +kernel
theorem dX12_isWord_19 : decode cX12_isWord 19 = .ok (.iconst 0, 1) := by decide +kernel
theorem dX12_isWord_20 : decode cX12_isWord 20 = .ok (.istore 4, 2) := by decide +kernel
theorem dX12_isWord_22 : decode cX12_isWord 22 = .ok (.iload_n 3, 1) := by decide +kernel
theorem dX12_isWord_23 : decode cX12_isWord 23 = .ok (.ifCond .eq 48, 3) := by decide +kernel
theorem dX12_isWord_26 : decode cX12_isWord 26 = .ok (.iload 4, 2) := by decide +kernel
theorem dX12_isWord_28 : decode cX12_isWord 28 = .ok (.iload_n 2, 1) := by decide +kernel
theorem dX12_isWord_29 : decode cX12_isWord 29 = .ok (.if_icmp .ge 42, 3) := by decide +kernel
theorem dX12_isWord_32 : decode cX12_isWord 32 = .ok (.aload_n 0, 1) := by decide +kernel
theorem dX12_isWord_33 : decode cX12_isWord 33 = .ok (.getfield 17, 3) := by decide +kernel
theorem dX12_isWord_36 : decode cX12_isWord 36 = .ok (.aload_n 0, 1) := by decide +kernel
theorem dX12_isWord_37 : decode cX12_isWord 37 = .ok (.getfield 102, 3) := by decide +kernel
theorem dX12_isWord_40 : decode cX12_isWord 40 = .ok (.iload 4, 2) := by decide +kernel
theorem dX12_isWord_42 : decode cX12_isWord 42 = .ok (.iadd, 1) := by decide +kernel
theorem dX12_isWord_43 : decode cX12_isWord 43 = .ok (.iaload, 1) := by decide +kernel
theorem dX12_isWord_44 : decode cX12_isWord 44 = .ok (.bipush 96, 2) := by decide +kernel
theorem dX12_isWord_46 : decode cX12_isWord 46 = .ok (.iload_n 1, 1) := by decide +kernel
theorem dX12_isWord_47 : decode cX12_isWord 47 = .ok (.iconst 5, 1) := by decide +kernel
theorem dX12_isWord_48 : decode cX12_isWord 48 = .ok (.iload 4, 2) := by decide +kernel
theorem dX12_isWord_50 : decode cX12_isWord 50 = .ok (.imul, 1) := by decide +kernel
theorem dX12_isWord_51 : decode cX12_isWord 51 = .ok (.ishr, 1) := by decide +kernel
theorem dX12_isWord_52 : decode cX12_isWord 52 = .ok (.bipush 31, 2) := by decide +kernel
theorem dX12_isWord_54 : decode cX12_isWord 54 = .ok (.iand, 1) := by decide +kernel
theorem dX12_isWord_55 : decode cX12_isWord 55 = .ok (.iadd, 1) := by decide +kernel
theorem dX12_isWord_56 : decode cX12_isWord 56 = .ok (.if_icmp .ne 7, 3) := by decide +kernel
theorem dX12_isWord_59 : decode cX12_isWord 59 = .ok (.iconst 1, 1) := by decide +kernel
theorem dX12_isWord_60 : decode cX12_isWord 60 = .ok (.goto 4, 3) := by decide +kernel
theorem dX12_isWord_63 : decode cX12_isWord 63 = .ok (.iconst 0, 1) := by decide +kernel
theorem dX12_isWord_64 : decode cX12_isWord 64 = .ok (.istore_n 3, 1) := by decide +kernel
theorem dX12_isWord_65 : decode cX12_isWord 65 = .ok (.iinc 4 1, 3) := by decide +kernel
theorem dX12_isWord_68 : decode cX12_isWord 68 = .ok (.goto (-46), 3) := by decide +kernel
theorem dX12_isWord_71 : decode cX12_isWord 71 = .ok (.iload_n 3, 1) := by decide +kernel
theorem dX12_isWord_72 : decode cX12_isWord 72 = .ok (.ireturn, 1) := by decide +kernel
def KX12_isWord_22 (E : EV) (d : Nat) (rr : Option Value × Mem) (x1 : Int32) (x2 : Int32) (I : Mem) (Kp : Int32 → Prop) : ((Int32 × Int32) ⊕ Int32) → Prop
  | .inl q => G E (d + 0) kX12_isWord 22 [some (.ref 74), some (.int x1), some (.int x2), some (.int q.1), some (.int q.2)] [] I rr
  | .inr z => Kp z
def bX12_isWord_22 (x1 : Int32) (x2 : Int32) (I : Mem) (x3 : Int32) (x4 : Int32) : Option ((Int32 × Int32) ⊕ Int32) :=
  if x3 = 0 then
  (chk (zb x3) <|
  some (.inr x3))
  else
  (if x2 ≤ x4 then
  (chk (zb x3) <|
  some (.inr x3))
  else
  (chk (inb ((I 74 6) + x4) 200) <|
  if (I 77 (ix ((I 74 6) + x4))) = ((96 : Int32) + ((x1 >>> (((5 : Int32) * x4) &&& 31)) &&& (31 : Int32))) then
  (some (.inl ((1 : Int32), (x4 + (1 : Int32)))))
  else
  (some (.inl ((0 : Int32), (x4 + (1 : Int32)))))))
def sX12_isWord_22 (x1 : Int32) (x2 : Int32) (I : Mem) (q : (Int32 × Int32)) : Option ((Int32 × Int32) ⊕ Int32) := bX12_isWord_22 x1 x2 I q.1 q.2
set_option maxRecDepth 20000 in
theorem wX12_isWord_22 (E : EV) (d : Nat) (rr : Option Value × Mem) (x1 : Int32) (x2 : Int32) (I : Mem) (x3 : Int32) (x4 : Int32) (y : ((Int32 × Int32) ⊕ Int32)) (hf : bX12_isWord_22 x1 x2 I x3 x4 = some y) (hK : (KX12_isWord_22 E d rr x1 x2 I (fun (z : Int32) => (some (.int z), I) = rr)) y) : G E (d + 0) kX12_isWord 22 [some (.ref 74), some (.int x1), some (.int x2), some (.int x3), some (.int x4)] [] I rr := by
  unfold bX12_isWord_22 at hf
  refine G.iload_n dX12_isWord_22 rfl rfl ?_
  refine G.if_eq (tgt := 71) dX12_isWord_23 (by decide) (fun c_6 => ?_) (fun c_6 => ?_)
  · have hf := ite_t hf c_6
    refine G.iload_n dX12_isWord_71 rfl rfl ?_
    obtain ⟨hz_1, hf⟩ := chk_at hf
    have hf := Option.some.inj hf
    subst hf
    exact G.zret' dX12_isWord_72 rfl hz_1 hK
  · have hf := ite_f hf c_6
    refine G.iload dX12_isWord_26 rfl ?_
    refine G.iload_n dX12_isWord_28 rfl rfl ?_
    refine G.icmp_ge (tgt := 71) dX12_isWord_29 (by decide) (fun c_5 => ?_) (fun c_5 => ?_)
    · have hf := ite_t hf c_5
      refine G.iload_n dX12_isWord_71 rfl rfl ?_
      obtain ⟨hz_2, hf⟩ := chk_at hf
      have hf := Option.some.inj hf
      subst hf
      exact G.zret' dX12_isWord_72 rfl hz_2 hK
    · have hf := ite_f hf c_5
      refine G.aload_n dX12_isWord_32 rfl rfl ?_
      refine G.getR (q := 77) dX12_isWord_33 flX12_17 (by decide) rfl rfl ?_
      refine G.aload_n dX12_isWord_36 rfl rfl ?_
      refine G.getI dX12_isWord_37 flX12_102 (by decide) rfl ?_
      refine G.iload dX12_isWord_40 rfl ?_
      refine G.iadd dX12_isWord_42 ?_
      obtain ⟨hi_3, hf⟩ := chk_at hf
      refine G.iald' dX12_isWord_43 (by decide) rfl rfl hi_3 ?_
      refine G.bipush (v := 96) dX12_isWord_44 (by decide) ?_
      refine G.iload_n dX12_isWord_46 rfl rfl ?_
      refine G.iconst (v := 5) dX12_isWord_47 (by decide) ?_
      refine G.iload dX12_isWord_48 rfl ?_
      refine G.imul dX12_isWord_50 ?_
      refine G.ishr dX12_isWord_51 ?_
      refine G.bipush (v := 31) dX12_isWord_52 (by decide) ?_
      refine G.iand dX12_isWord_54 ?_
      refine G.iadd dX12_isWord_55 ?_
      refine G.icmp_ne (tgt := 63) dX12_isWord_56 (by decide) (fun c_4 => ?_) (fun c_4 => ?_)
      · have hf := ite_f hf c_4
        refine G.iconst (v := 0) dX12_isWord_63 (by decide) ?_
        refine G.istore_n (L' := [some (.ref 74), some (.int x1), some (.int x2), some (.int (0 : Int32)), some (.int x4)]) dX12_isWord_64 rfl (Nat.le_of_ble_eq_true rfl) (Nat.le_of_ble_eq_true rfl) rfl rfl ?_
        refine G.inc (w := 1) (L' := [some (.ref 74), some (.int x1), some (.int x2), some (.int (0 : Int32)), some (.int (x4 + (1 : Int32)))]) dX12_isWord_65 (by decide) rfl (Nat.le_of_ble_eq_true rfl) rfl rfl ?_
        refine G.goto (tgt := 22) dX12_isWord_68 (by decide) ?_
        have hf := Option.some.inj hf
        subst hf
        exact hK
      · have hf := ite_t hf c_4
        refine G.iconst (v := 1) dX12_isWord_59 (by decide) ?_
        refine G.goto (tgt := 64) dX12_isWord_60 (by decide) ?_
        refine G.istore_n (L' := [some (.ref 74), some (.int x1), some (.int x2), some (.int (1 : Int32)), some (.int x4)]) dX12_isWord_64 rfl (Nat.le_of_ble_eq_true rfl) (Nat.le_of_ble_eq_true rfl) rfl rfl ?_
        refine G.inc (w := 1) (L' := [some (.ref 74), some (.int x1), some (.int x2), some (.int (1 : Int32)), some (.int (x4 + (1 : Int32)))]) dX12_isWord_65 (by decide) rfl (Nat.le_of_ble_eq_true rfl) rfl rfl ?_
        refine G.goto (tgt := 22) dX12_isWord_68 (by decide) ?_
        have hf := Option.some.inj hf
        subst hf
        exact hK
theorem lX12_isWord_22 (E : EV) (d : Nat) (rr : Option Value × Mem) (x1 : Int32) (x2 : Int32) (I : Mem) (z : Int32) (hK : (fun (z : Int32) => (some (.int z), I) = rr) z) : ∀ (n : Nat) (q : (Int32 × Int32)), iter (sX12_isWord_22 x1 x2 I) n q = some z → G E (d + 0) kX12_isWord 22 [some (.ref 74), some (.int x1), some (.int x2), some (.int q.1), some (.int q.2)] [] I rr := by
  intro n
  induction n with
  | zero => intro q h; cases h
  | succ n ih =>
    intro q h
    rcases iter_at h with ⟨q2, hs, h2⟩ | hs
    · exact wX12_isWord_22 E d rr x1 x2 I q.1 q.2 _ hs (ih q2 h2)
    · exact wX12_isWord_22 E d rr x1 x2 I q.1 q.2 _ hs hK
def jX12_isWord_18 (x1 : Int32) (x2 : Int32) (u0 : Int32) (I : Mem) : Option Int32 :=
  iter (sX12_isWord_22 x1 x2 I) FU (u0, (0 : Int32))
set_option maxRecDepth 20000 in
theorem tX12_isWord_18 (E : EV) (d : Nat) (rr : Option Value × Mem) (x1 : Int32) (x2 : Int32) (u0 : Int32) (I : Mem) (y : Int32) (hf : jX12_isWord_18 x1 x2 u0 I = some y) (hK : (fun (z : Int32) => (some (.int z), I) = rr) y) : G E (d + 0) kX12_isWord 18 [some (.ref 74), some (.int x1), some (.int x2), none, none] [.int u0] I rr := by
  unfold jX12_isWord_18 at hf
  refine G.istore_n (L' := [some (.ref 74), some (.int x1), some (.int x2), some (.int u0), none]) dX12_isWord_18 rfl (Nat.le_of_ble_eq_true rfl) (Nat.le_of_ble_eq_true rfl) rfl rfl ?_
  refine G.iconst (v := 0) dX12_isWord_19 (by decide) ?_
  refine G.istore (L' := [some (.ref 74), some (.int x1), some (.int x2), some (.int u0), some (.int (0 : Int32))]) dX12_isWord_20 (Nat.le_of_ble_eq_true rfl) (Nat.le_of_ble_eq_true rfl) rfl rfl ?_
  exact lX12_isWord_22 E d rr x1 x2 I _ hK FU _ hf
def fX12_isWord (x1 : Int32) (x2 : Int32) (I : Mem) : Option Int32 :=
  if ((I 74 7) - (I 74 6)) = x2 then
  (jX12_isWord_18 x1 x2 (1 : Int32) I)
  else
  (jX12_isWord_18 x1 x2 (0 : Int32) I)
set_option maxRecDepth 20000 in
theorem gX12_isWord (E : EV) (d : Nat) (x1 : Int32) (x2 : Int32) (I : Mem) {v : Int32} (hf : fX12_isWord x1 x2 I = some v) : Gm E (d + 0) kX12_isWord [.ref 74, .int x1, .int x2] I (some (.int v), I) := by
  refine (fun (y : Int32) (hf : fX12_isWord x1 x2 I = some y) => (?_ : Gm E (d + 0) kX12_isWord [.ref 74, .int x1, .int x2] I (some (.int y), I))) v hf
  refine Gm.of (by decide) rfl (Nat.le_of_ble_eq_true rfl) ?_
  generalize hrr : ((some (.int y), I) : Option Value × Mem) = rr
  show G E (d + 0) kX12_isWord 0 [some (.ref 74), some (.int x1), some (.int x2), none, none] [] I rr
  have hK : (fun (z : Int32) => (some (.int z), I) = rr) y := hrr
  clear hrr
  unfold fX12_isWord at hf
  refine G.aload_n dX12_isWord_0 rfl rfl ?_
  refine G.getI dX12_isWord_1 flX12_108 (by decide) rfl ?_
  refine G.aload_n dX12_isWord_4 rfl rfl ?_
  refine G.getI dX12_isWord_5 flX12_102 (by decide) rfl ?_
  refine G.isub dX12_isWord_8 ?_
  refine G.iload_n dX12_isWord_9 rfl rfl ?_
  refine G.icmp_ne (tgt := 17) dX12_isWord_10 (by decide) (fun c_7 => ?_) (fun c_7 => ?_)
  · have hf := ite_f hf c_7
    refine G.iconst (v := 0) dX12_isWord_17 (by decide) ?_
    exact tX12_isWord_18 E d rr x1 x2 (0 : Int32) I _ hf hK
  · have hf := ite_t hf c_7
    refine G.iconst (v := 1) dX12_isWord_13 (by decide) ?_
    refine G.goto (tgt := 18) dX12_isWord_14 (by decide) ?_
    exact tX12_isWord_18 E d rr x1 x2 (1 : Int32) I _ hf hK
theorem dX12_wordOf_0 : decode cX12_wordOf 0 = .ok (.aload_n 0, 1) := by decide +kernel
theorem dX12_wordOf_1 : decode cX12_wordOf 1 = .ok (.ldc 111, 2) := by decide +kernel
theorem dX12_wordOf_3 : decode cX12_wordOf 3 = .ok (.iconst 5, 1) := by decide +kernel
theorem dX12_wordOf_4 : decode cX12_wordOf 4 = .ok (.invokevirtual 112, 3) := by decide +kernel
theorem dX12_wordOf_7 : decode cX12_wordOf 7 = .ok (.ifCond .eq 7, 3) := by decide +kernel
theorem dX12_wordOf_10 : decode cX12_wordOf 10 = .ok (.iconst 0, 1) := by decide +kernel
theorem dX12_wordOf_11 : decode cX12_wordOf 11 = .ok (.goto 92, 3) := by decide +kernel
theorem dX12_wordOf_14 : decode cX12_wordOf 14 = .ok (.aload_n 0, 1) := by decide +kernel
theorem dX12_wordOf_15 : decode cX12_wordOf 15 = .ok (.ldc 115, 2) := by decide +kernel
theorem dX12_wordOf_17 : decode cX12_wordOf 17 = .ok (.iconst 4, 1) := by decide +kernel
theorem dX12_wordOf_18 : decode cX12_wordOf 18 = .ok (.invokevirtual 112, 3) := by decide +kernel
theorem dX12_wordOf_21 : decode cX12_wordOf 21 = .ok (.ifCond .eq 7, 3) := by decide +kernel
theorem dX12_wordOf_24 : decode cX12_wordOf 24 = .ok (.iconst 1, 1) := by decide +kernel
theorem dX12_wordOf_25 : decode cX12_wordOf 25 = .ok (.goto 78, 3) := by decide +kernel
theorem dX12_wordOf_28 : decode cX12_wordOf 28 = .ok (.aload_n 0, 1) := by decide +kernel
theorem dX12_wordOf_29 : decode cX12_wordOf 29 = .ok (.sipush 20515, 3) := by decide +kernel
theorem dX12_wordOf_32 : decode cX12_wordOf 32 = .ok (.iconst 3, 1) := by decide +kernel
theorem dX12_wordOf_33 : decode cX12_wordOf 33 = .ok (.invokevirtual 112, 3) := by decide +kernel
theorem dX12_wordOf_36 : decode cX12_wordOf 36 = .ok (.ifCond .eq 7, 3) := by decide +kernel
theorem dX12_wordOf_39 : decode cX12_wordOf 39 = .ok (.iconst 2, 1) := by decide +kernel
theorem dX12_wordOf_40 : decode cX12_wordOf 40 = .ok (.goto 63, 3) := by decide +kernel
theorem dX12_wordOf_43 : decode cX12_wordOf 43 = .ok (.aload_n 0, 1) := by decide +kernel
theorem dX12_wordOf_44 : decode cX12_wordOf 44 = .ok (.ldc 116, 2) := by decide +kernel
theorem dX12_wordOf_46 : decode cX12_wordOf 46 = .ok (.iconst 4, 1) := by decide +kernel
theorem dX12_wordOf_47 : decode cX12_wordOf 47 = .ok (.invokevirtual 112, 3) := by decide +kernel
theorem dX12_wordOf_50 : decode cX12_wordOf 50 = .ok (.ifCond .eq 7, 3) := by decide +kernel
theorem dX12_wordOf_53 : decode cX12_wordOf 53 = .ok (.iconst 3, 1) := by decide +kernel
theorem dX12_wordOf_54 : decode cX12_wordOf 54 = .ok (.goto 49, 3) := by decide +kernel
theorem dX12_wordOf_57 : decode cX12_wordOf 57 = .ok (.aload_n 0, 1) := by decide +kernel
theorem dX12_wordOf_58 : decode cX12_wordOf 58 = .ok (.ldc 117, 2) := by decide +kernel
theorem dX12_wordOf_60 : decode cX12_wordOf 60 = .ok (.bipush 6, 2) := by decide +kernel
theorem dX12_wordOf_62 : decode cX12_wordOf 62 = .ok (.invokevirtual 112, 3) := by decide +kernel
theorem dX12_wordOf_65 : decode cX12_wordOf 65 = .ok (.ifCond .eq 7, 3) := by decide +kernel
theorem dX12_wordOf_68 : decode cX12_wordOf 68 = .ok (.iconst 4, 1) := by decide +kernel
theorem dX12_wordOf_69 : decode cX12_wordOf 69 = .ok (.goto 34, 3) := by decide +kernel
theorem dX12_wordOf_72 : decode cX12_wordOf 72 = .ok (.aload_n 0, 1) := by decide +kernel
theorem dX12_wordOf_73 : decode cX12_wordOf 73 = .ok (.ldc 118, 2) := by decide +kernel
theorem dX12_wordOf_75 : decode cX12_wordOf 75 = .ok (.iconst 4, 1) := by decide +kernel
theorem dX12_wordOf_76 : decode cX12_wordOf 76 = .ok (.invokevirtual 112, 3) := by decide +kernel
theorem dX12_wordOf_79 : decode cX12_wordOf 79 = .ok (.ifCond .eq 7, 3) := by decide +kernel
theorem dX12_wordOf_82 : decode cX12_wordOf 82 = .ok (.iconst 5, 1) := by decide +kernel
theorem dX12_wordOf_83 : decode cX12_wordOf 83 = .ok (.goto 20, 3) := by decide +kernel
theorem dX12_wordOf_86 : decode cX12_wordOf 86 = .ok (.aload_n 0, 1) := by decide +kernel
theorem dX12_wordOf_87 : decode cX12_wordOf 87 = .ok (.sipush 23596, 3) := by decide +kernel
theorem dX12_wordOf_90 : decode cX12_wordOf 90 = .ok (.iconst 3, 1) := by decide +kernel
theorem dX12_wordOf_91 : decode cX12_wordOf 91 = .ok (.invokevirtual 112, 3) := by decide +kernel
theorem dX12_wordOf_94 : decode cX12_wordOf 94 = .ok (.ifCond .eq 8, 3) := by decide +kernel
theorem dX12_wordOf_97 : decode cX12_wordOf 97 = .ok (.bipush 6, 2) := by decide +kernel
theorem dX12_wordOf_99 : decode cX12_wordOf 99 = .ok (.goto 4, 3) := by decide +kernel
theorem dX12_wordOf_102 : decode cX12_wordOf 102 = .ok (.iconst (-1), 1) := by decide +kernel
theorem dX12_wordOf_103 : decode cX12_wordOf 103 = .ok (.ireturn, 1) := by decide +kernel
def fX12_wordOf (I : Mem) : Option Int32 :=
  letb (20364786 : Int32) fun k9_1 =>
  bnd (fX12_isWord k9_1 (5 : Int32) I) fun v_3 =>
  if v_3 = 0 then
  (letb (605668 : Int32) fun k9_4 =>
  bnd (fX12_isWord k9_4 (4 : Int32) I) fun v_6 =>
  if v_6 = 0 then
  (bnd (fX12_isWord (20515 : Int32) (3 : Int32) I) fun v_8 =>
  if v_8 = 0 then
  (letb (405811 : Int32) fun k9_9 =>
  bnd (fX12_isWord k9_9 (4 : Int32) I) fun v_11 =>
  if v_11 = 0 then
  (letb (486131888 : Int32) fun k9_12 =>
  bnd (fX12_isWord k9_12 (6 : Int32) I) fun v_14 =>
  if v_14 = 0 then
  (letb (281911 : Int32) fun k9_15 =>
  bnd (fX12_isWord k9_15 (4 : Int32) I) fun v_17 =>
  if v_17 = 0 then
  (bnd (fX12_isWord (23596 : Int32) (3 : Int32) I) fun v_19 =>
  if v_19 = 0 then
  (some (-1 : Int32))
  else
  (some (6 : Int32)))
  else
  (some (5 : Int32)))
  else
  (some (4 : Int32)))
  else
  (some (3 : Int32)))
  else
  (some (2 : Int32)))
  else
  (some (1 : Int32)))
  else
  (some (0 : Int32))
set_option maxRecDepth 20000 in
theorem gX12_wordOf (E : EV) (d : Nat) (I : Mem) {v : Int32} (hf : fX12_wordOf I = some v) : Gm E (d + 1) kX12_wordOf [.ref 74] I (some (.int v), I) := by
  refine (fun (y : Int32) (hf : fX12_wordOf I = some y) => (?_ : Gm E (d + 1) kX12_wordOf [.ref 74] I (some (.int y), I))) v hf
  refine Gm.of (by decide) rfl (Nat.le_of_ble_eq_true rfl) ?_
  generalize hrr : ((some (.int y), I) : Option Value × Mem) = rr
  show G E (d + 1) kX12_wordOf 0 [some (.ref 74)] [] I rr
  have hK : (fun (z : Int32) => (some (.int z), I) = rr) y := hrr
  clear hrr
  unfold fX12_wordOf at hf
  refine G.aload_n dX12_wordOf_0 rfl rfl ?_
  refine G.ldc (v := 20364786) dX12_wordOf_1 kcX12_111 ?_
  refine G.nmi (fun k9_1 e_k9_1 => ?_)
  have hf := letb_at hf e_k9_1
  clear e_k9_1
  refine G.iconst (v := 5) dX12_wordOf_3 (by decide) ?_
  obtain ⟨v_3, hc_2, hf⟩ := bnd_at hf
  refine G.callVi (av := [.int k9_1, .int (5 : Int32)]) (rest := []) dX12_wordOf_4 mvX12_112 (gX12_isWord E d k9_1 (5 : Int32) I hc_2) (by decide) rfl rfl rfl (Nat.le_of_ble_eq_true rfl) ?_
  refine G.if_eq (tgt := 14) dX12_wordOf_7 (by decide) (fun c_26 => ?_) (fun c_26 => ?_)
  · have hf := ite_t hf c_26
    refine G.aload_n dX12_wordOf_14 rfl rfl ?_
    refine G.ldc (v := 605668) dX12_wordOf_15 kcX12_115 ?_
    refine G.nmi (fun k9_4 e_k9_4 => ?_)
    have hf := letb_at hf e_k9_4
    clear e_k9_4
    refine G.iconst (v := 4) dX12_wordOf_17 (by decide) ?_
    obtain ⟨v_6, hc_5, hf⟩ := bnd_at hf
    refine G.callVi (av := [.int k9_4, .int (4 : Int32)]) (rest := []) dX12_wordOf_18 mvX12_112 (gX12_isWord E d k9_4 (4 : Int32) I hc_5) (by decide) rfl rfl rfl (Nat.le_of_ble_eq_true rfl) ?_
    refine G.if_eq (tgt := 28) dX12_wordOf_21 (by decide) (fun c_25 => ?_) (fun c_25 => ?_)
    · have hf := ite_t hf c_25
      refine G.aload_n dX12_wordOf_28 rfl rfl ?_
      refine G.sipush (v := 20515) dX12_wordOf_29 (by decide) ?_
      refine G.iconst (v := 3) dX12_wordOf_32 (by decide) ?_
      obtain ⟨v_8, hc_7, hf⟩ := bnd_at hf
      refine G.callVi (av := [.int (20515 : Int32), .int (3 : Int32)]) (rest := []) dX12_wordOf_33 mvX12_112 (gX12_isWord E d (20515 : Int32) (3 : Int32) I hc_7) (by decide) rfl rfl rfl (Nat.le_of_ble_eq_true rfl) ?_
      refine G.if_eq (tgt := 43) dX12_wordOf_36 (by decide) (fun c_24 => ?_) (fun c_24 => ?_)
      · have hf := ite_t hf c_24
        refine G.aload_n dX12_wordOf_43 rfl rfl ?_
        refine G.ldc (v := 405811) dX12_wordOf_44 kcX12_116 ?_
        refine G.nmi (fun k9_9 e_k9_9 => ?_)
        have hf := letb_at hf e_k9_9
        clear e_k9_9
        refine G.iconst (v := 4) dX12_wordOf_46 (by decide) ?_
        obtain ⟨v_11, hc_10, hf⟩ := bnd_at hf
        refine G.callVi (av := [.int k9_9, .int (4 : Int32)]) (rest := []) dX12_wordOf_47 mvX12_112 (gX12_isWord E d k9_9 (4 : Int32) I hc_10) (by decide) rfl rfl rfl (Nat.le_of_ble_eq_true rfl) ?_
        refine G.if_eq (tgt := 57) dX12_wordOf_50 (by decide) (fun c_23 => ?_) (fun c_23 => ?_)
        · have hf := ite_t hf c_23
          refine G.aload_n dX12_wordOf_57 rfl rfl ?_
          refine G.ldc (v := 486131888) dX12_wordOf_58 kcX12_117 ?_
          refine G.nmi (fun k9_12 e_k9_12 => ?_)
          have hf := letb_at hf e_k9_12
          clear e_k9_12
          refine G.bipush (v := 6) dX12_wordOf_60 (by decide) ?_
          obtain ⟨v_14, hc_13, hf⟩ := bnd_at hf
          refine G.callVi (av := [.int k9_12, .int (6 : Int32)]) (rest := []) dX12_wordOf_62 mvX12_112 (gX12_isWord E d k9_12 (6 : Int32) I hc_13) (by decide) rfl rfl rfl (Nat.le_of_ble_eq_true rfl) ?_
          refine G.if_eq (tgt := 72) dX12_wordOf_65 (by decide) (fun c_22 => ?_) (fun c_22 => ?_)
          · have hf := ite_t hf c_22
            refine G.aload_n dX12_wordOf_72 rfl rfl ?_
            refine G.ldc (v := 281911) dX12_wordOf_73 kcX12_118 ?_
            refine G.nmi (fun k9_15 e_k9_15 => ?_)
            have hf := letb_at hf e_k9_15
            clear e_k9_15
            refine G.iconst (v := 4) dX12_wordOf_75 (by decide) ?_
            obtain ⟨v_17, hc_16, hf⟩ := bnd_at hf
            refine G.callVi (av := [.int k9_15, .int (4 : Int32)]) (rest := []) dX12_wordOf_76 mvX12_112 (gX12_isWord E d k9_15 (4 : Int32) I hc_16) (by decide) rfl rfl rfl (Nat.le_of_ble_eq_true rfl) ?_
            refine G.if_eq (tgt := 86) dX12_wordOf_79 (by decide) (fun c_21 => ?_) (fun c_21 => ?_)
            · have hf := ite_t hf c_21
              refine G.aload_n dX12_wordOf_86 rfl rfl ?_
              refine G.sipush (v := 23596) dX12_wordOf_87 (by decide) ?_
              refine G.iconst (v := 3) dX12_wordOf_90 (by decide) ?_
              obtain ⟨v_19, hc_18, hf⟩ := bnd_at hf
              refine G.callVi (av := [.int (23596 : Int32), .int (3 : Int32)]) (rest := []) dX12_wordOf_91 mvX12_112 (gX12_isWord E d (23596 : Int32) (3 : Int32) I hc_18) (by decide) rfl rfl rfl (Nat.le_of_ble_eq_true rfl) ?_
              refine G.if_eq (tgt := 102) dX12_wordOf_94 (by decide) (fun c_20 => ?_) (fun c_20 => ?_)
              · have hf := ite_t hf c_20
                refine G.iconst (v := -1) dX12_wordOf_102 (by decide) ?_
                have hf := Option.some.inj hf
                subst hf
                exact G.iret' dX12_wordOf_103 rfl hK
              · have hf := ite_f hf c_20
                refine G.bipush (v := 6) dX12_wordOf_97 (by decide) ?_
                refine G.goto (tgt := 103) dX12_wordOf_99 (by decide) ?_
                have hf := Option.some.inj hf
                subst hf
                exact G.iret' dX12_wordOf_103 rfl hK
            · have hf := ite_f hf c_21
              refine G.iconst (v := 5) dX12_wordOf_82 (by decide) ?_
              refine G.goto (tgt := 103) dX12_wordOf_83 (by decide) ?_
              have hf := Option.some.inj hf
              subst hf
              exact G.iret' dX12_wordOf_103 rfl hK
          · have hf := ite_f hf c_22
            refine G.iconst (v := 4) dX12_wordOf_68 (by decide) ?_
            refine G.goto (tgt := 103) dX12_wordOf_69 (by decide) ?_
            have hf := Option.some.inj hf
            subst hf
            exact G.iret' dX12_wordOf_103 rfl hK
        · have hf := ite_f hf c_23
          refine G.iconst (v := 3) dX12_wordOf_53 (by decide) ?_
          refine G.goto (tgt := 103) dX12_wordOf_54 (by decide) ?_
          have hf := Option.some.inj hf
          subst hf
          exact G.iret' dX12_wordOf_103 rfl hK
      · have hf := ite_f hf c_24
        refine G.iconst (v := 2) dX12_wordOf_39 (by decide) ?_
        refine G.goto (tgt := 103) dX12_wordOf_40 (by decide) ?_
        have hf := Option.some.inj hf
        subst hf
        exact G.iret' dX12_wordOf_103 rfl hK
    · have hf := ite_f hf c_25
      refine G.iconst (v := 1) dX12_wordOf_24 (by decide) ?_
      refine G.goto (tgt := 103) dX12_wordOf_25 (by decide) ?_
      have hf := Option.some.inj hf
      subst hf
      exact G.iret' dX12_wordOf_103 rfl hK
  · have hf := ite_f hf c_26
    refine G.iconst (v := 0) dX12_wordOf_10 (by decide) ?_
    refine G.goto (tgt := 103) dX12_wordOf_11 (by decide) ?_
    have hf := Option.some.inj hf
    subst hf
    exact G.iret' dX12_wordOf_103 rfl hK
theorem dX12_reads_0 : decode cX12_reads 0 = .ok (.aload_n 0, 1) := by decide +kernel
theorem dX12_reads_1 : decode cX12_reads 1 = .ok (.getfield 102, 3) := by decide +kernel
theorem dX12_reads_4 : decode cX12_reads 4 = .ok (.aload_n 0, 1) := by decide +kernel
theorem dX12_reads_5 : decode cX12_reads 5 = .ok (.getfield 94, 3) := by decide +kernel
theorem dX12_reads_8 : decode cX12_reads 8 = .ok (.if_icmp .eq 32, 3) := by decide +kernel
theorem dX12_reads_11 : decode cX12_reads 11 = .ok (.aload_n 0, 1) := by decide +kernel
theorem dX12_reads_12 : decode cX12_reads 12 = .ok (.getfield 17, 3) := by decide +kernel
theorem dX12_reads_15 : decode cX12_reads 15 = .ok (.aload_n 0, 1) := by decide +kernel
theorem dX12_reads_16 : decode cX12_reads 16 = .ok (.getfield 102, 3) := by decide +kernel
theorem dX12_reads_19 : decode cX12_reads 19 = .ok (.iaload, 1) := by decide +kernel
theorem dX12_reads_20 : decode cX12_reads 20 = .ok (.invokestatic 105, 3) := by decide +kernel
theorem dX12_reads_23 : decode cX12_reads 23 = .ok (.iconst 2, 1) := by decide +kernel
theorem dX12_reads_24 : decode cX12_reads 24 = .ok (.if_icmp .ne 16, 3) := by decide +kernel
theorem dX12_reads_27 : decode cX12_reads 27 = .ok (.aload_n 0, 1) := by decide +kernel
theorem dX12_reads_28 : decode cX12_reads 28 = .ok (.getfield 108, 3) := by decide +kernel
theorem dX12_reads_31 : decode cX12_reads 31 = .ok (.aload_n 0, 1) := by decide +kernel
theorem dX12_reads_32 : decode cX12_reads 32 = .ok (.getfield 102, 3) := by decide +kernel
theorem dX12_reads_35 : decode cX12_reads 35 = .ok (.isub, 1) := by decide +kernel
theorem dX12_reads_36 : decode cX12_reads 36 = .ok (.iconst 3, 1) := by decide +kernel
theorem dX12_reads_37 : decode cX12_reads 37 = .ok (.if_icmp .le 5, 3) := by decide +kernel
theorem dX12_reads_40 : decode cX12_reads 40 = .ok (.iconst 0, 1) := by decide +kernel
theorem dX12_reads_41 : decode cX12_reads 41 = .ok (.ireturn, 1) := by decide +kernel
theorem dX12_reads_42 : decode cX12_reads 42 = .ok (.iconst 0, 1) := by decide +kernel
theorem dX12_reads_43 : decode cX12_reads 43 = .ok (.istore 5, 2) := by decide +kernel
theorem dX12_reads_45 : decode cX12_reads 45 = .ok (.aload_n 0, 1) := by decide +kernel
theorem dX12_reads_46 : decode cX12_reads 46 = .ok (.getfield 102, 3) := by decide +kernel
theorem dX12_reads_49 : decode cX12_reads 49 = .ok (.istore 6, 2) := by decide +kernel
theorem dX12_reads_51 : decode cX12_reads 51 = .ok (.iload 6, 2) := by decide +kernel
theorem dX12_reads_53 : decode cX12_reads 53 = .ok (.aload_n 0, 1) := by decide +kernel
theorem dX12_reads_54 : decode cX12_reads 54 = .ok (.getfield 108, 3) := by decide +kernel
theorem dX12_reads_57 : decode cX12_reads 57 = .ok (.if_icmp .ge 27, 3) := by decide +kernel
theorem dX12_reads_60 : decode cX12_reads 60 = .ok (.bipush 10, 2) := by decide +kernel
theorem dX12_reads_62 : decode cX12_reads 62 = .ok (.iload 5, 2) := by decide +kernel
theorem dX12_reads_64 : decode cX12_reads 64 = .ok (.imul, 1) := by decide +kernel
theorem dX12_reads_65 : decode cX12_reads 65 = .ok (.aload_n 0, 1) := by decide +kernel
theorem dX12_reads_66 : decode cX12_reads 66 = .ok (.getfield 17, 3) := by decide +kernel
theorem dX12_reads_69 : decode cX12_reads 69 = .ok (.iload 6, 2) := by decide +kernel
theorem dX12_reads_71 : decode cX12_reads 71 = .ok (.iaload, 1) := by decide +kernel
theorem dX12_reads_72 : decode cX12_reads 72 = .ok (.iadd, 1) := by decide +kernel
theorem dX12_reads_73 : decode cX12_reads 73 = .ok (.bipush 48, 2) := by decide +kernel
theorem dX12_reads_75 : decode cX12_reads 75 = .ok (.isub, 1) := by decide +kernel
theorem dX12_reads_76 : decode cX12_reads 76 = .ok (.istore 5, 2) := by decide +kernel
theorem dX12_reads_78 : decode cX12_reads 78 = .ok (.iinc 6 1, 3) := by decide +kernel
theorem dX12_reads_81 : decode cX12_reads 81 = .ok (.goto (-30), 3) := by decide +kernel
theorem dX12_reads_84 : decode cX12_reads 84 = .ok (.iload 5, 2) := by decide +kernel
theorem dX12_reads_86 : decode cX12_reads 86 = .ok (.i2l, 1) := by decide +kernel
theorem dX12_reads_87 : decode cX12_reads 87 = .ok (.iload_n 2, 1) := by decide +kernel
theorem dX12_reads_88 : decode cX12_reads 88 = .ok (.i2l, 1) := by decide +kernel
theorem dX12_reads_89 : decode cX12_reads 89 = .ok (.iload_n 3, 1) := by decide +kernel
theorem dX12_reads_90 : decode cX12_reads 90 = .ok (.i2l, 1) := by decide +kernel
theorem dX12_reads_91 : decode cX12_reads 91 = .ok (.invokestatic 49, 3) := by decide +kernel
theorem dX12_reads_94 : decode cX12_reads 94 = .ok (.ifCond .eq 10, 3) := by decide +kernel
theorem dX12_reads_97 : decode cX12_reads 97 = .ok (.iload 5, 2) := by decide +kernel
theorem dX12_reads_99 : decode cX12_reads 99 = .ok (.iload 4, 2) := by decide +kernel
theorem dX12_reads_101 : decode cX12_reads 101 = .ok (.if_icmp .ne 5, 3) := by decide +kernel
theorem dX12_reads_104 : decode cX12_reads 104 = .ok (.iconst 0, 1) := by decide +kernel
theorem dX12_reads_105 : decode cX12_reads 105 = .ok (.ireturn, 1) := by decide +kernel
theorem dX12_reads_106 : decode cX12_reads 106 = .ok (.aload_n 0, 1) := by decide +kernel
theorem dX12_reads_107 : decode cX12_reads 107 = .ok (.getfield 23, 3) := by decide +kernel
theorem dX12_reads_110 : decode cX12_reads 110 = .ok (.iconst 4, 1) := by decide +kernel
theorem dX12_reads_111 : decode cX12_reads 111 = .ok (.aload_n 0, 1) := by decide +kernel
theorem dX12_reads_112 : decode cX12_reads 112 = .ok (.getfield 119, 3) := by decide +kernel
theorem dX12_reads_115 : decode cX12_reads 115 = .ok (.imul, 1) := by decide +kernel
theorem dX12_reads_116 : decode cX12_reads 116 = .ok (.iconst 1, 1) := by decide +kernel
theorem dX12_reads_117 : decode cX12_reads 117 = .ok (.iadd, 1) := by decide +kernel
theorem dX12_reads_118 : decode cX12_reads 118 = .ok (.iload_n 1, 1) := by decide +kernel
theorem dX12_reads_119 : decode cX12_reads 119 = .ok (.iadd, 1) := by decide +kernel
theorem dX12_reads_120 : decode cX12_reads 120 = .ok (.iload 5, 2) := by decide +kernel
theorem dX12_reads_122 : decode cX12_reads 122 = .ok (.iastore, 1) := by decide +kernel
theorem dX12_reads_123 : decode cX12_reads 123 = .ok (.aload_n 0, 1) := by decide +kernel
theorem dX12_reads_124 : decode cX12_reads 124 = .ok (.invokevirtual 122, 3) := by decide +kernel
theorem dX12_reads_127 : decode cX12_reads 127 = .ok (.iconst 1, 1) := by decide +kernel
theorem dX12_reads_128 : decode cX12_reads 128 = .ok (.ireturn, 1) := by decide +kernel
def KX12_reads_51 (E : EV) (d : Nat) (rr : Option Value × Mem) (x1 : Int32) (x2 : Int32) (x3 : Int32) (x4 : Int32) (I : Mem) (Kp : (Int32 × Mem) → Prop) : ((Int32 × Int32) ⊕ (Int32 × Mem)) → Prop
  | .inl q => G E (d + 2) kX12_reads 51 [some (.ref 74), some (.int x1), some (.int x2), some (.int x3), some (.int x4), some (.int q.1), some (.int q.2)] [] I rr
  | .inr z => Kp z
def bX12_reads_51 (x1 : Int32) (x2 : Int32) (x3 : Int32) (x4 : Int32) (I : Mem) (x5 : Int32) (x6 : Int32) : Option ((Int32 × Int32) ⊕ (Int32 × Mem)) :=
  if (I 74 7) ≤ x6 then
  (bnd (fX12_in (Int32.toInt64 x5) (Int32.toInt64 x2) (Int32.toInt64 x3) I) fun v_6 =>
  if v_6 = 0 then
  (some (.inr ((0 : Int32), I)))
  else
  (if x5 = x4 then
  (some (.inr ((0 : Int32), I)))
  else
  (chk (inb ((((4 : Int32) * (I 74 9)) + (1 : Int32)) + x1) 400) <|
  letb (up2 I 79 (ix ((((4 : Int32) * (I 74 9)) + (1 : Int32)) + x1)) x5) fun I_8 =>
  bnd (fX12_token I_8) fun I_10 =>
  some (.inr ((1 : Int32), I_10)))))
  else
  (chk (inb x6 200) <|
  letb ((((10 : Int32) * x5) + (I 77 (ix x6))) - (48 : Int32)) fun x5_14 =>
  some (.inl (x5_14, (x6 + (1 : Int32)))))
def sX12_reads_51 (x1 : Int32) (x2 : Int32) (x3 : Int32) (x4 : Int32) (I : Mem) (q : (Int32 × Int32)) : Option ((Int32 × Int32) ⊕ (Int32 × Mem)) := bX12_reads_51 x1 x2 x3 x4 I q.1 q.2
set_option maxRecDepth 20000 in
theorem wX12_reads_51 (E : EV) (d : Nat) (rr : Option Value × Mem) (x1 : Int32) (x2 : Int32) (x3 : Int32) (x4 : Int32) (I : Mem) (x5 : Int32) (x6 : Int32) (y : ((Int32 × Int32) ⊕ (Int32 × Mem))) (hf : bX12_reads_51 x1 x2 x3 x4 I x5 x6 = some y) (hK : (KX12_reads_51 E d rr x1 x2 x3 x4 I (fun (z : Int32 × Mem) => (some (.int z.1), z.2) = rr)) y) : G E (d + 2) kX12_reads 51 [some (.ref 74), some (.int x1), some (.int x2), some (.int x3), some (.int x4), some (.int x5), some (.int x6)] [] I rr := by
  unfold bX12_reads_51 at hf
  refine G.iload dX12_reads_51 rfl ?_
  refine G.aload_n dX12_reads_53 rfl rfl ?_
  refine G.getI dX12_reads_54 flX12_108 (by decide) rfl ?_
  refine G.icmp_ge (tgt := 84) dX12_reads_57 (by decide) (fun c_15 => ?_) (fun c_15 => ?_)
  · have hf := ite_t hf c_15
    refine G.iload dX12_reads_84 rfl ?_
    refine G.i2l dX12_reads_86 ?_
    refine G.iload_n dX12_reads_87 rfl rfl ?_
    refine G.i2l dX12_reads_88 ?_
    refine G.iload_n dX12_reads_89 rfl rfl ?_
    refine G.i2l dX12_reads_90 ?_
    obtain ⟨v_6, hc_5, hf⟩ := bnd_at hf
    refine G.callSi (av := [.long (Int32.toInt64 x5), .long (Int32.toInt64 x2), .long (Int32.toInt64 x3)]) (rest := []) dX12_reads_91 msX12_49 (gX12_in E (d + 1) (Int32.toInt64 x5) (Int32.toInt64 x2) (Int32.toInt64 x3) I hc_5) rfl rfl (Nat.le_of_ble_eq_true rfl) ?_
    refine G.if_eq (tgt := 104) dX12_reads_94 (by decide) (fun c_12 => ?_) (fun c_12 => ?_)
    · have hf := ite_t hf c_12
      refine G.iconst (v := 0) dX12_reads_104 (by decide) ?_
      have hf := Option.some.inj hf
      subst hf
      exact G.zret' dX12_reads_105 rfl (by decide) hK
    · have hf := ite_f hf c_12
      refine G.iload dX12_reads_97 rfl ?_
      refine G.iload dX12_reads_99 rfl ?_
      refine G.icmp_ne (tgt := 106) dX12_reads_101 (by decide) (fun c_11 => ?_) (fun c_11 => ?_)
      · have hf := ite_f hf c_11
        refine G.aload_n dX12_reads_106 rfl rfl ?_
        refine G.getR (q := 79) dX12_reads_107 flX12_23 (by decide) rfl rfl ?_
        refine G.iconst (v := 4) dX12_reads_110 (by decide) ?_
        refine G.aload_n dX12_reads_111 rfl rfl ?_
        refine G.getI dX12_reads_112 flX12_119 (by decide) rfl ?_
        refine G.imul dX12_reads_115 ?_
        refine G.iconst (v := 1) dX12_reads_116 (by decide) ?_
        refine G.iadd dX12_reads_117 ?_
        refine G.iload_n dX12_reads_118 rfl rfl ?_
        refine G.iadd dX12_reads_119 ?_
        refine G.iload dX12_reads_120 rfl ?_
        obtain ⟨hi_7, hf⟩ := chk_at hf
        refine G.iast' dX12_reads_122 (by decide) rfl rfl hi_7 ?_
        refine G.nmI (fun I_8 e_I_8 => ?_)
        have hf := letb_at hf e_I_8
        clear e_I_8
        refine G.aload_n dX12_reads_123 rfl rfl ?_
        obtain ⟨I_10, hc_9, hf⟩ := bnd_at hf
        refine G.callVv (av := []) (rest := []) dX12_reads_124 mvX12_122 (gX12_token E d I_8 hc_9) (by decide) rfl rfl rfl (Nat.le_of_ble_eq_true rfl) ?_
        refine G.iconst (v := 1) dX12_reads_127 (by decide) ?_
        have hf := Option.some.inj hf
        subst hf
        exact G.zret' dX12_reads_128 rfl (by decide) hK
      · have hf := ite_t hf c_11
        refine G.iconst (v := 0) dX12_reads_104 (by decide) ?_
        have hf := Option.some.inj hf
        subst hf
        exact G.zret' dX12_reads_105 rfl (by decide) hK
  · have hf := ite_f hf c_15
    refine G.bipush (v := 10) dX12_reads_60 (by decide) ?_
    refine G.iload dX12_reads_62 rfl ?_
    refine G.imul dX12_reads_64 ?_
    refine G.aload_n dX12_reads_65 rfl rfl ?_
    refine G.getR (q := 77) dX12_reads_66 flX12_17 (by decide) rfl rfl ?_
    refine G.iload dX12_reads_69 rfl ?_
    obtain ⟨hi_13, hf⟩ := chk_at hf
    refine G.iald' dX12_reads_71 (by decide) rfl rfl hi_13 ?_
    refine G.iadd dX12_reads_72 ?_
    refine G.bipush (v := 48) dX12_reads_73 (by decide) ?_
    refine G.isub dX12_reads_75 ?_
    refine G.nmi (fun x5_14 e_x5_14 => ?_)
    have hf := letb_at hf e_x5_14
    clear e_x5_14
    refine G.istore (L' := [some (.ref 74), some (.int x1), some (.int x2), some (.int x3), some (.int x4), some (.int x5_14), some (.int x6)]) dX12_reads_76 (Nat.le_of_ble_eq_true rfl) (Nat.le_of_ble_eq_true rfl) rfl rfl ?_
    refine G.inc (w := 1) (L' := [some (.ref 74), some (.int x1), some (.int x2), some (.int x3), some (.int x4), some (.int x5_14), some (.int (x6 + (1 : Int32)))]) dX12_reads_78 (by decide) rfl (Nat.le_of_ble_eq_true rfl) rfl rfl ?_
    refine G.goto (tgt := 51) dX12_reads_81 (by decide) ?_
    have hf := Option.some.inj hf
    subst hf
    exact hK
theorem lX12_reads_51 (E : EV) (d : Nat) (rr : Option Value × Mem) (x1 : Int32) (x2 : Int32) (x3 : Int32) (x4 : Int32) (I : Mem) (z : (Int32 × Mem)) (hK : (fun (z : Int32 × Mem) => (some (.int z.1), z.2) = rr) z) : ∀ (n : Nat) (q : (Int32 × Int32)), iter (sX12_reads_51 x1 x2 x3 x4 I) n q = some z → G E (d + 2) kX12_reads 51 [some (.ref 74), some (.int x1), some (.int x2), some (.int x3), some (.int x4), some (.int q.1), some (.int q.2)] [] I rr := by
  intro n
  induction n with
  | zero => intro q h; cases h
  | succ n ih =>
    intro q h
    rcases iter_at h with ⟨q2, hs, h2⟩ | hs
    · exact wX12_reads_51 E d rr x1 x2 x3 x4 I q.1 q.2 _ hs (ih q2 h2)
    · exact wX12_reads_51 E d rr x1 x2 x3 x4 I q.1 q.2 _ hs hK
def fX12_reads (x1 : Int32) (x2 : Int32) (x3 : Int32) (x4 : Int32) (I : Mem) : Option (Int32 × Mem) :=
  if (I 74 6) = (I 74 3) then
  (some ((0 : Int32), I))
  else
  (chk (inb (I 74 6) 200) <|
  bnd (fX12_sort (I 77 (ix (I 74 6))) I) fun v_3 =>
  if v_3 = (2 : Int32) then
  (if ((I 74 7) - (I 74 6)) ≤ (3 : Int32) then
  (letb (I 74 6) fun x6_4 =>
  iter (sX12_reads_51 x1 x2 x3 x4 I) FU ((0 : Int32), x6_4))
  else
  (some ((0 : Int32), I)))
  else
  (some ((0 : Int32), I)))
set_option maxRecDepth 20000 in
theorem gX12_reads (E : EV) (d : Nat) (x1 : Int32) (x2 : Int32) (x3 : Int32) (x4 : Int32) (I : Mem) {v : Int32} {J : Mem} (hf : fX12_reads x1 x2 x3 x4 I = some (v, J)) : Gm E (d + 2) kX12_reads [.ref 74, .int x1, .int x2, .int x3, .int x4] I (some (.int v), J) := by
  refine (fun (y : (Int32 × Mem)) (hf : fX12_reads x1 x2 x3 x4 I = some y) => (?_ : Gm E (d + 2) kX12_reads [.ref 74, .int x1, .int x2, .int x3, .int x4] I (some (.int y.1), y.2))) (v, J) hf
  refine Gm.of (by decide) rfl (Nat.le_of_ble_eq_true rfl) ?_
  generalize hrr : ((some (.int y.1), y.2) : Option Value × Mem) = rr
  show G E (d + 2) kX12_reads 0 [some (.ref 74), some (.int x1), some (.int x2), some (.int x3), some (.int x4), none, none] [] I rr
  have hK : (fun (z : Int32 × Mem) => (some (.int z.1), z.2) = rr) y := hrr
  clear hrr
  unfold fX12_reads at hf
  refine G.aload_n dX12_reads_0 rfl rfl ?_
  refine G.getI dX12_reads_1 flX12_102 (by decide) rfl ?_
  refine G.aload_n dX12_reads_4 rfl rfl ?_
  refine G.getI dX12_reads_5 flX12_94 (by decide) rfl ?_
  refine G.icmp_eq (tgt := 40) dX12_reads_8 (by decide) (fun c_18 => ?_) (fun c_18 => ?_)
  · have hf := ite_t hf c_18
    refine G.iconst (v := 0) dX12_reads_40 (by decide) ?_
    have hf := Option.some.inj hf
    subst hf
    exact G.zret' dX12_reads_41 rfl (by decide) hK
  · have hf := ite_f hf c_18
    refine G.aload_n dX12_reads_11 rfl rfl ?_
    refine G.getR (q := 77) dX12_reads_12 flX12_17 (by decide) rfl rfl ?_
    refine G.aload_n dX12_reads_15 rfl rfl ?_
    refine G.getI dX12_reads_16 flX12_102 (by decide) rfl ?_
    obtain ⟨hi_1, hf⟩ := chk_at hf
    refine G.iald' dX12_reads_19 (by decide) rfl rfl hi_1 ?_
    obtain ⟨v_3, hc_2, hf⟩ := bnd_at hf
    refine G.callSi (av := [.int (I 77 (ix (I 74 6)))]) (rest := []) dX12_reads_20 msX12_105 (gX12_sort E (d + 1) (I 77 (ix (I 74 6))) I hc_2) rfl rfl (Nat.le_of_ble_eq_true rfl) ?_
    refine G.iconst (v := 2) dX12_reads_23 (by decide) ?_
    refine G.icmp_ne (tgt := 40) dX12_reads_24 (by decide) (fun c_17 => ?_) (fun c_17 => ?_)
    · have hf := ite_f hf c_17
      refine G.iconst (v := 0) dX12_reads_40 (by decide) ?_
      have hf := Option.some.inj hf
      subst hf
      exact G.zret' dX12_reads_41 rfl (by decide) hK
    · have hf := ite_t hf c_17
      refine G.aload_n dX12_reads_27 rfl rfl ?_
      refine G.getI dX12_reads_28 flX12_108 (by decide) rfl ?_
      refine G.aload_n dX12_reads_31 rfl rfl ?_
      refine G.getI dX12_reads_32 flX12_102 (by decide) rfl ?_
      refine G.isub dX12_reads_35 ?_
      refine G.iconst (v := 3) dX12_reads_36 (by decide) ?_
      refine G.icmp_le (tgt := 42) dX12_reads_37 (by decide) (fun c_16 => ?_) (fun c_16 => ?_)
      · have hf := ite_t hf c_16
        refine G.iconst (v := 0) dX12_reads_42 (by decide) ?_
        refine G.istore (L' := [some (.ref 74), some (.int x1), some (.int x2), some (.int x3), some (.int x4), some (.int (0 : Int32)), none]) dX12_reads_43 (Nat.le_of_ble_eq_true rfl) (Nat.le_of_ble_eq_true rfl) rfl rfl ?_
        refine G.aload_n dX12_reads_45 rfl rfl ?_
        refine G.getI dX12_reads_46 flX12_102 (by decide) rfl ?_
        refine G.nmi (fun x6_4 e_x6_4 => ?_)
        have hf := letb_at hf e_x6_4
        clear e_x6_4
        refine G.istore (L' := [some (.ref 74), some (.int x1), some (.int x2), some (.int x3), some (.int x4), some (.int (0 : Int32)), some (.int x6_4)]) dX12_reads_49 (Nat.le_of_ble_eq_true rfl) (Nat.le_of_ble_eq_true rfl) rfl rfl ?_
        exact lX12_reads_51 E d rr x1 x2 x3 x4 I _ hK FU _ hf
      · have hf := ite_f hf c_16
        refine G.iconst (v := 0) dX12_reads_40 (by decide) ?_
        have hf := Option.some.inj hf
        subst hf
        exact G.zret' dX12_reads_41 rfl (by decide) hK
theorem dX12_readsRest_0 : decode cX12_readsRest 0 = .ok (.aload_n 0, 1) := by decide +kernel
theorem dX12_readsRest_1 : decode cX12_readsRest 1 = .ok (.getfield 125, 3) := by decide +kernel
theorem dX12_readsRest_4 : decode cX12_readsRest 4 = .ok (.iconst 1, 1) := by decide +kernel
theorem dX12_readsRest_5 : decode cX12_readsRest 5 = .ok (.isub, 1) := by decide +kernel
theorem dX12_readsRest_6 : decode cX12_readsRest 6 = .ok (.istore_n 2, 1) := by decide +kernel
theorem dX12_readsRest_7 : decode cX12_readsRest 7 = .ok (.iload_n 1, 1) := by decide +kernel
theorem dX12_readsRest_8 : decode cX12_readsRest 8 = .ok (.tableswitch 172 0 5 #[40, 49, 89, 98, 89, 128], 40) := by decide +kernel
theorem dX12_readsRest_48 : decode cX12_readsRest 48 = .ok (.aload_n 0, 1) := by decide +kernel
theorem dX12_readsRest_49 : decode cX12_readsRest 49 = .ok (.iconst 0, 1) := by decide +kernel
theorem dX12_readsRest_50 : decode cX12_readsRest 50 = .ok (.iconst 1, 1) := by decide +kernel
theorem dX12_readsRest_51 : decode cX12_readsRest 51 = .ok (.iconst 5, 1) := by decide +kernel
theorem dX12_readsRest_52 : decode cX12_readsRest 52 = .ok (.iconst (-1), 1) := by decide +kernel
theorem dX12_readsRest_53 : decode cX12_readsRest 53 = .ok (.invokevirtual 128, 3) := by decide +kernel
theorem dX12_readsRest_56 : decode cX12_readsRest 56 = .ok (.ireturn, 1) := by decide +kernel
theorem dX12_readsRest_57 : decode cX12_readsRest 57 = .ok (.aload_n 0, 1) := by decide +kernel
theorem dX12_readsRest_58 : decode cX12_readsRest 58 = .ok (.iconst 0, 1) := by decide +kernel
theorem dX12_readsRest_59 : decode cX12_readsRest 59 = .ok (.iconst 0, 1) := by decide +kernel
theorem dX12_readsRest_60 : decode cX12_readsRest 60 = .ok (.iload_n 2, 1) := by decide +kernel
theorem dX12_readsRest_61 : decode cX12_readsRest 61 = .ok (.iconst (-1), 1) := by decide +kernel
theorem dX12_readsRest_62 : decode cX12_readsRest 62 = .ok (.invokevirtual 128, 3) := by decide +kernel
theorem dX12_readsRest_65 : decode cX12_readsRest 65 = .ok (.ifCond .eq 30, 3) := by decide +kernel
theorem dX12_readsRest_68 : decode cX12_readsRest 68 = .ok (.aload_n 0, 1) := by decide +kernel
theorem dX12_readsRest_69 : decode cX12_readsRest 69 = .ok (.iconst 1, 1) := by decide +kernel
theorem dX12_readsRest_70 : decode cX12_readsRest 70 = .ok (.iconst 0, 1) := by decide +kernel
theorem dX12_readsRest_71 : decode cX12_readsRest 71 = .ok (.iload_n 2, 1) := by decide +kernel
theorem dX12_readsRest_72 : decode cX12_readsRest 72 = .ok (.aload_n 0, 1) := by decide +kernel
theorem dX12_readsRest_73 : decode cX12_readsRest 73 = .ok (.getfield 23, 3) := by decide +kernel
theorem dX12_readsRest_76 : decode cX12_readsRest 76 = .ok (.iconst 4, 1) := by decide +kernel
theorem dX12_readsRest_77 : decode cX12_readsRest 77 = .ok (.aload_n 0, 1) := by decide +kernel
theorem dX12_readsRest_78 : decode cX12_readsRest 78 = .ok (.getfield 119, 3) := by decide +kernel
theorem dX12_readsRest_81 : decode cX12_readsRest 81 = .ok (.imul, 1) := by decide +kernel
theorem dX12_readsRest_82 : decode cX12_readsRest 82 = .ok (.iconst 1, 1) := by decide +kernel
theorem dX12_readsRest_83 : decode cX12_readsRest 83 = .ok (.iadd, 1) := by decide +kernel
theorem dX12_readsRest_84 : decode cX12_readsRest 84 = .ok (.iaload, 1) := by decide +kernel
theorem dX12_readsRest_85 : decode cX12_readsRest 85 = .ok (.invokevirtual 128, 3) := by decide +kernel
theorem dX12_readsRest_88 : decode cX12_readsRest 88 = .ok (.ifCond .eq 7, 3) := by decide +kernel
theorem dX12_readsRest_91 : decode cX12_readsRest 91 = .ok (.iconst 1, 1) := by decide +kernel
theorem dX12_readsRest_92 : decode cX12_readsRest 92 = .ok (.goto 4, 3) := by decide +kernel
theorem dX12_readsRest_95 : decode cX12_readsRest 95 = .ok (.iconst 0, 1) := by decide +kernel
theorem dX12_readsRest_96 : decode cX12_readsRest 96 = .ok (.ireturn, 1) := by decide +kernel
theorem dX12_readsRest_97 : decode cX12_readsRest 97 = .ok (.aload_n 0, 1) := by decide +kernel
theorem dX12_readsRest_98 : decode cX12_readsRest 98 = .ok (.iconst 0, 1) := by decide +kernel
theorem dX12_readsRest_99 : decode cX12_readsRest 99 = .ok (.iconst 0, 1) := by decide +kernel
theorem dX12_readsRest_100 : decode cX12_readsRest 100 = .ok (.iload_n 2, 1) := by decide +kernel
theorem dX12_readsRest_101 : decode cX12_readsRest 101 = .ok (.iconst (-1), 1) := by decide +kernel
theorem dX12_readsRest_102 : decode cX12_readsRest 102 = .ok (.invokevirtual 128, 3) := by decide +kernel
theorem dX12_readsRest_105 : decode cX12_readsRest 105 = .ok (.ireturn, 1) := by decide +kernel
theorem dX12_readsRest_106 : decode cX12_readsRest 106 = .ok (.aload_n 0, 1) := by decide +kernel
theorem dX12_readsRest_107 : decode cX12_readsRest 107 = .ok (.iconst 0, 1) := by decide +kernel
theorem dX12_readsRest_108 : decode cX12_readsRest 108 = .ok (.iconst 0, 1) := by decide +kernel
theorem dX12_readsRest_109 : decode cX12_readsRest 109 = .ok (.iload_n 2, 1) := by decide +kernel
theorem dX12_readsRest_110 : decode cX12_readsRest 110 = .ok (.iconst (-1), 1) := by decide +kernel
theorem dX12_readsRest_111 : decode cX12_readsRest 111 = .ok (.invokevirtual 128, 3) := by decide +kernel
theorem dX12_readsRest_114 : decode cX12_readsRest 114 = .ok (.ifCond .eq 20, 3) := by decide +kernel
theorem dX12_readsRest_117 : decode cX12_readsRest 117 = .ok (.aload_n 0, 1) := by decide +kernel
theorem dX12_readsRest_118 : decode cX12_readsRest 118 = .ok (.iconst 1, 1) := by decide +kernel
theorem dX12_readsRest_119 : decode cX12_readsRest 119 = .ok (.iconst 0, 1) := by decide +kernel
theorem dX12_readsRest_120 : decode cX12_readsRest 120 = .ok (.sipush 999, 3) := by decide +kernel
theorem dX12_readsRest_123 : decode cX12_readsRest 123 = .ok (.iconst (-1), 1) := by decide +kernel
theorem dX12_readsRest_124 : decode cX12_readsRest 124 = .ok (.invokevirtual 128, 3) := by decide +kernel
theorem dX12_readsRest_127 : decode cX12_readsRest 127 = .ok (.ifCond .eq 7, 3) := by decide +kernel
theorem dX12_readsRest_130 : decode cX12_readsRest 130 = .ok (.iconst 1, 1) := by decide +kernel
theorem dX12_readsRest_131 : decode cX12_readsRest 131 = .ok (.goto 4, 3) := by decide +kernel
theorem dX12_readsRest_134 : decode cX12_readsRest 134 = .ok (.iconst 0, 1) := by decide +kernel
theorem dX12_readsRest_135 : decode cX12_readsRest 135 = .ok (.ireturn, 1) := by decide +kernel
theorem dX12_readsRest_136 : decode cX12_readsRest 136 = .ok (.aload_n 0, 1) := by decide +kernel
theorem dX12_readsRest_137 : decode cX12_readsRest 137 = .ok (.iconst 0, 1) := by decide +kernel
theorem dX12_readsRest_138 : decode cX12_readsRest 138 = .ok (.iconst 0, 1) := by decide +kernel
theorem dX12_readsRest_139 : decode cX12_readsRest 139 = .ok (.aload_n 0, 1) := by decide +kernel
theorem dX12_readsRest_140 : decode cX12_readsRest 140 = .ok (.getfield 132, 3) := by decide +kernel
theorem dX12_readsRest_143 : decode cX12_readsRest 143 = .ok (.iconst 1, 1) := by decide +kernel
theorem dX12_readsRest_144 : decode cX12_readsRest 144 = .ok (.isub, 1) := by decide +kernel
theorem dX12_readsRest_145 : decode cX12_readsRest 145 = .ok (.iconst (-1), 1) := by decide +kernel
theorem dX12_readsRest_146 : decode cX12_readsRest 146 = .ok (.invokevirtual 128, 3) := by decide +kernel
theorem dX12_readsRest_149 : decode cX12_readsRest 149 = .ok (.ifCond .eq 29, 3) := by decide +kernel
theorem dX12_readsRest_152 : decode cX12_readsRest 152 = .ok (.aload_n 0, 1) := by decide +kernel
theorem dX12_readsRest_153 : decode cX12_readsRest 153 = .ok (.iconst 1, 1) := by decide +kernel
theorem dX12_readsRest_154 : decode cX12_readsRest 154 = .ok (.iconst 1, 1) := by decide +kernel
theorem dX12_readsRest_155 : decode cX12_readsRest 155 = .ok (.iconst 4, 1) := by decide +kernel
theorem dX12_readsRest_156 : decode cX12_readsRest 156 = .ok (.iconst (-1), 1) := by decide +kernel
theorem dX12_readsRest_157 : decode cX12_readsRest 157 = .ok (.invokevirtual 128, 3) := by decide +kernel
theorem dX12_readsRest_160 : decode cX12_readsRest 160 = .ok (.ifCond .eq 18, 3) := by decide +kernel
theorem dX12_readsRest_163 : decode cX12_readsRest 163 = .ok (.aload_n 0, 1) := by decide +kernel
theorem dX12_readsRest_164 : decode cX12_readsRest 164 = .ok (.iconst 2, 1) := by decide +kernel
theorem dX12_readsRest_165 : decode cX12_readsRest 165 = .ok (.iconst 0, 1) := by decide +kernel
theorem dX12_readsRest_166 : decode cX12_readsRest 166 = .ok (.iload_n 2, 1) := by decide +kernel
theorem dX12_readsRest_167 : decode cX12_readsRest 167 = .ok (.iconst (-1), 1) := by decide +kernel
theorem dX12_readsRest_168 : decode cX12_readsRest 168 = .ok (.invokevirtual 128, 3) := by decide +kernel
theorem dX12_readsRest_171 : decode cX12_readsRest 171 = .ok (.ifCond .eq 7, 3) := by decide +kernel
theorem dX12_readsRest_174 : decode cX12_readsRest 174 = .ok (.iconst 1, 1) := by decide +kernel
theorem dX12_readsRest_175 : decode cX12_readsRest 175 = .ok (.goto 4, 3) := by decide +kernel
theorem dX12_readsRest_178 : decode cX12_readsRest 178 = .ok (.iconst 0, 1) := by decide +kernel
theorem dX12_readsRest_179 : decode cX12_readsRest 179 = .ok (.ireturn, 1) := by decide +kernel
theorem dX12_readsRest_180 : decode cX12_readsRest 180 = .ok (.aload_n 0, 1) := by decide +kernel
theorem dX12_readsRest_181 : decode cX12_readsRest 181 = .ok (.iconst 0, 1) := by decide +kernel
theorem dX12_readsRest_182 : decode cX12_readsRest 182 = .ok (.iconst 0, 1) := by decide +kernel
theorem dX12_readsRest_183 : decode cX12_readsRest 183 = .ok (.iconst 4, 1) := by decide +kernel
theorem dX12_readsRest_184 : decode cX12_readsRest 184 = .ok (.iconst (-1), 1) := by decide +kernel
theorem dX12_readsRest_185 : decode cX12_readsRest 185 = .ok (.invokevirtual 128, 3) := by decide +kernel
theorem dX12_readsRest_188 : decode cX12_readsRest 188 = .ok (.ireturn, 1) := by decide +kernel
def jX12_readsRest_97 (x2 : Int32) (I : Mem) : Option (Int32 × Mem) :=
  bnd2 (fX12_reads (0 : Int32) (0 : Int32) x2 (-1 : Int32) I) fun v_19 I_20 =>
  chk (zb v_19) <|
  some (v_19, I_20)
set_option maxRecDepth 20000 in
theorem tX12_readsRest_97 (E : EV) (d : Nat) (rr : Option Value × Mem) (x2 : Int32) (I : Mem) (y : (Int32 × Mem)) (hf : jX12_readsRest_97 x2 I = some y) (hK : (fun (z : Int32 × Mem) => (some (.int z.1), z.2) = rr) y) : G E (d + 3) kX12_readsRest 97 [some (.ref 74), none, some (.int x2)] [] I rr := by
  unfold jX12_readsRest_97 at hf
  refine G.aload_n dX12_readsRest_97 rfl rfl ?_
  refine G.iconst (v := 0) dX12_readsRest_98 (by decide) ?_
  refine G.iconst (v := 0) dX12_readsRest_99 (by decide) ?_
  refine G.iload_n dX12_readsRest_100 rfl rfl ?_
  refine G.iconst (v := -1) dX12_readsRest_101 (by decide) ?_
  obtain ⟨v_19, I_20, hc_18, hf⟩ := bnd2_at hf
  refine G.callVi (av := [.int (0 : Int32), .int (0 : Int32), .int x2, .int (-1 : Int32)]) (rest := []) dX12_readsRest_102 mvX12_128 (gX12_reads E d (0 : Int32) (0 : Int32) x2 (-1 : Int32) I hc_18) (by decide) rfl rfl rfl (Nat.le_of_ble_eq_true rfl) ?_
  obtain ⟨hz_21, hf⟩ := chk_at hf
  have hf := Option.some.inj hf
  subst hf
  exact G.zret' dX12_readsRest_105 rfl hz_21 hK
def fX12_readsRest (x1 : Int32) (I : Mem) : Option (Int32 × Mem) :=
  letb ((I 74 10) - (1 : Int32)) fun x2_1 =>
  if x1 = 0 then
  (bnd2 (fX12_reads (0 : Int32) (1 : Int32) (5 : Int32) (-1 : Int32) I) fun v_4 I_5 =>
  chk (zb v_4) <|
  some (v_4, I_5))
  else
  (if x1 = 1 then
  (bnd2 (fX12_reads (0 : Int32) (0 : Int32) x2_1 (-1 : Int32) I) fun v_9 I_10 =>
  if v_9 = 0 then
  (some ((0 : Int32), I_10))
  else
  (chk (inb (((4 : Int32) * (I_10 74 9)) + (1 : Int32)) 400) <|
  bnd2 (fX12_reads (1 : Int32) (0 : Int32) x2_1 (I_10 79 (ix (((4 : Int32) * (I_10 74 9)) + (1 : Int32)))) I_10) fun v_13 I_14 =>
  if v_13 = 0 then
  (some ((0 : Int32), I_14))
  else
  (some ((1 : Int32), I_14))))
  else
  (if x1 = 2 then
  (jX12_readsRest_97 x2_1 I)
  else
  (if x1 = 3 then
  (bnd2 (fX12_reads (0 : Int32) (0 : Int32) x2_1 (-1 : Int32) I) fun v_24 I_25 =>
  if v_24 = 0 then
  (some ((0 : Int32), I_25))
  else
  (bnd2 (fX12_reads (1 : Int32) (0 : Int32) (999 : Int32) (-1 : Int32) I_25) fun v_27 I_28 =>
  if v_27 = 0 then
  (some ((0 : Int32), I_28))
  else
  (some ((1 : Int32), I_28))))
  else
  (if x1 = 4 then
  (jX12_readsRest_97 x2_1 I)
  else
  (if x1 = 5 then
  (bnd2 (fX12_reads (0 : Int32) (0 : Int32) ((I 74 11) - (1 : Int32)) (-1 : Int32) I) fun v_34 I_35 =>
  if v_34 = 0 then
  (some ((0 : Int32), I_35))
  else
  (bnd2 (fX12_reads (1 : Int32) (1 : Int32) (4 : Int32) (-1 : Int32) I_35) fun v_37 I_38 =>
  if v_37 = 0 then
  (some ((0 : Int32), I_38))
  else
  (bnd2 (fX12_reads (2 : Int32) (0 : Int32) x2_1 (-1 : Int32) I_38) fun v_40 I_41 =>
  if v_40 = 0 then
  (some ((0 : Int32), I_41))
  else
  (some ((1 : Int32), I_41)))))
  else
  (bnd2 (fX12_reads (0 : Int32) (0 : Int32) (4 : Int32) (-1 : Int32) I) fun v_46 I_47 =>
  chk (zb v_46) <|
  some (v_46, I_47)))))))
set_option maxRecDepth 20000 in
theorem gX12_readsRest (E : EV) (d : Nat) (x1 : Int32) (I : Mem) {v : Int32} {J : Mem} (hf : fX12_readsRest x1 I = some (v, J)) : Gm E (d + 3) kX12_readsRest [.ref 74, .int x1] I (some (.int v), J) := by
  refine (fun (y : (Int32 × Mem)) (hf : fX12_readsRest x1 I = some y) => (?_ : Gm E (d + 3) kX12_readsRest [.ref 74, .int x1] I (some (.int y.1), y.2))) (v, J) hf
  refine Gm.of (by decide) rfl (Nat.le_of_ble_eq_true rfl) ?_
  generalize hrr : ((some (.int y.1), y.2) : Option Value × Mem) = rr
  show G E (d + 3) kX12_readsRest 0 [some (.ref 74), some (.int x1), none] [] I rr
  have hK : (fun (z : Int32 × Mem) => (some (.int z.1), z.2) = rr) y := hrr
  clear hrr
  unfold fX12_readsRest at hf
  refine G.aload_n dX12_readsRest_0 rfl rfl ?_
  refine G.getI dX12_readsRest_1 flX12_125 (by decide) rfl ?_
  refine G.iconst (v := 1) dX12_readsRest_4 (by decide) ?_
  refine G.isub dX12_readsRest_5 ?_
  refine G.nmi (fun x2_1 e_x2_1 => ?_)
  have hf := letb_at hf e_x2_1
  clear e_x2_1
  refine G.istore_n (L' := [some (.ref 74), some (.int x1), some (.int x2_1)]) dX12_readsRest_6 rfl (Nat.le_of_ble_eq_true rfl) (Nat.le_of_ble_eq_true rfl) rfl rfl ?_
  refine G.iload_n dX12_readsRest_7 rfl rfl ?_
  by_cases c_2 : x1 = 0
  · have hf := ite_t hf c_2
    refine G.tsw_at (j := 0) (tgt := 48) dX12_readsRest_8 c_2 (by decide) (by decide) rfl (by decide) ?_
    refine G.aload_n dX12_readsRest_48 rfl rfl ?_
    refine G.iconst (v := 0) dX12_readsRest_49 (by decide) ?_
    refine G.iconst (v := 1) dX12_readsRest_50 (by decide) ?_
    refine G.iconst (v := 5) dX12_readsRest_51 (by decide) ?_
    refine G.iconst (v := -1) dX12_readsRest_52 (by decide) ?_
    obtain ⟨v_4, I_5, hc_3, hf⟩ := bnd2_at hf
    refine G.callVi (av := [.int (0 : Int32), .int (1 : Int32), .int (5 : Int32), .int (-1 : Int32)]) (rest := []) dX12_readsRest_53 mvX12_128 (gX12_reads E d (0 : Int32) (1 : Int32) (5 : Int32) (-1 : Int32) I hc_3) (by decide) rfl rfl rfl (Nat.le_of_ble_eq_true rfl) ?_
    obtain ⟨hz_6, hf⟩ := chk_at hf
    have hf := Option.some.inj hf
    subst hf
    exact G.zret' dX12_readsRest_56 rfl hz_6 hK
  · have hf := ite_f hf c_2
    by_cases c_7 : x1 = 1
    · have hf := ite_t hf c_7
      refine G.tsw_at (j := 1) (tgt := 57) dX12_readsRest_8 c_7 (by decide) (by decide) rfl (by decide) ?_
      refine G.aload_n dX12_readsRest_57 rfl rfl ?_
      refine G.iconst (v := 0) dX12_readsRest_58 (by decide) ?_
      refine G.iconst (v := 0) dX12_readsRest_59 (by decide) ?_
      refine G.iload_n dX12_readsRest_60 rfl rfl ?_
      refine G.iconst (v := -1) dX12_readsRest_61 (by decide) ?_
      obtain ⟨v_9, I_10, hc_8, hf⟩ := bnd2_at hf
      refine G.callVi (av := [.int (0 : Int32), .int (0 : Int32), .int x2_1, .int (-1 : Int32)]) (rest := []) dX12_readsRest_62 mvX12_128 (gX12_reads E d (0 : Int32) (0 : Int32) x2_1 (-1 : Int32) I hc_8) (by decide) rfl rfl rfl (Nat.le_of_ble_eq_true rfl) ?_
      refine G.if_eq (tgt := 95) dX12_readsRest_65 (by decide) (fun c_16 => ?_) (fun c_16 => ?_)
      · have hf := ite_t hf c_16
        refine G.iconst (v := 0) dX12_readsRest_95 (by decide) ?_
        have hf := Option.some.inj hf
        subst hf
        exact G.zret' dX12_readsRest_96 rfl (by decide) hK
      · have hf := ite_f hf c_16
        refine G.aload_n dX12_readsRest_68 rfl rfl ?_
        refine G.iconst (v := 1) dX12_readsRest_69 (by decide) ?_
        refine G.iconst (v := 0) dX12_readsRest_70 (by decide) ?_
        refine G.iload_n dX12_readsRest_71 rfl rfl ?_
        refine G.aload_n dX12_readsRest_72 rfl rfl ?_
        refine G.getR (q := 79) dX12_readsRest_73 flX12_23 (by decide) rfl rfl ?_
        refine G.iconst (v := 4) dX12_readsRest_76 (by decide) ?_
        refine G.aload_n dX12_readsRest_77 rfl rfl ?_
        refine G.getI dX12_readsRest_78 flX12_119 (by decide) rfl ?_
        refine G.imul dX12_readsRest_81 ?_
        refine G.iconst (v := 1) dX12_readsRest_82 (by decide) ?_
        refine G.iadd dX12_readsRest_83 ?_
        obtain ⟨hi_11, hf⟩ := chk_at hf
        refine G.iald' dX12_readsRest_84 (by decide) rfl rfl hi_11 ?_
        obtain ⟨v_13, I_14, hc_12, hf⟩ := bnd2_at hf
        refine G.callVi (av := [.int (1 : Int32), .int (0 : Int32), .int x2_1, .int (I_10 79 (ix (((4 : Int32) * (I_10 74 9)) + (1 : Int32))))]) (rest := []) dX12_readsRest_85 mvX12_128 (gX12_reads E d (1 : Int32) (0 : Int32) x2_1 (I_10 79 (ix (((4 : Int32) * (I_10 74 9)) + (1 : Int32)))) I_10 hc_12) (by decide) rfl rfl rfl (Nat.le_of_ble_eq_true rfl) ?_
        refine G.if_eq (tgt := 95) dX12_readsRest_88 (by decide) (fun c_15 => ?_) (fun c_15 => ?_)
        · have hf := ite_t hf c_15
          refine G.iconst (v := 0) dX12_readsRest_95 (by decide) ?_
          have hf := Option.some.inj hf
          subst hf
          exact G.zret' dX12_readsRest_96 rfl (by decide) hK
        · have hf := ite_f hf c_15
          refine G.iconst (v := 1) dX12_readsRest_91 (by decide) ?_
          refine G.goto (tgt := 96) dX12_readsRest_92 (by decide) ?_
          have hf := Option.some.inj hf
          subst hf
          exact G.zret' dX12_readsRest_96 rfl (by decide) hK
    · have hf := ite_f hf c_7
      by_cases c_17 : x1 = 2
      · have hf := ite_t hf c_17
        refine G.tsw_at (j := 2) (tgt := 97) dX12_readsRest_8 c_17 (by decide) (by decide) rfl (by decide) ?_
        refine G.forget (L' := [some (.ref 74), none, some (.int x2_1)]) [1] rfl ?_
        exact tX12_readsRest_97 E d rr x2_1 I _ hf hK
      · have hf := ite_f hf c_17
        by_cases c_22 : x1 = 3
        · have hf := ite_t hf c_22
          refine G.tsw_at (j := 3) (tgt := 106) dX12_readsRest_8 c_22 (by decide) (by decide) rfl (by decide) ?_
          refine G.aload_n dX12_readsRest_106 rfl rfl ?_
          refine G.iconst (v := 0) dX12_readsRest_107 (by decide) ?_
          refine G.iconst (v := 0) dX12_readsRest_108 (by decide) ?_
          refine G.iload_n dX12_readsRest_109 rfl rfl ?_
          refine G.iconst (v := -1) dX12_readsRest_110 (by decide) ?_
          obtain ⟨v_24, I_25, hc_23, hf⟩ := bnd2_at hf
          refine G.callVi (av := [.int (0 : Int32), .int (0 : Int32), .int x2_1, .int (-1 : Int32)]) (rest := []) dX12_readsRest_111 mvX12_128 (gX12_reads E d (0 : Int32) (0 : Int32) x2_1 (-1 : Int32) I hc_23) (by decide) rfl rfl rfl (Nat.le_of_ble_eq_true rfl) ?_
          refine G.if_eq (tgt := 134) dX12_readsRest_114 (by decide) (fun c_30 => ?_) (fun c_30 => ?_)
          · have hf := ite_t hf c_30
            refine G.iconst (v := 0) dX12_readsRest_134 (by decide) ?_
            have hf := Option.some.inj hf
            subst hf
            exact G.zret' dX12_readsRest_135 rfl (by decide) hK
          · have hf := ite_f hf c_30
            refine G.aload_n dX12_readsRest_117 rfl rfl ?_
            refine G.iconst (v := 1) dX12_readsRest_118 (by decide) ?_
            refine G.iconst (v := 0) dX12_readsRest_119 (by decide) ?_
            refine G.sipush (v := 999) dX12_readsRest_120 (by decide) ?_
            refine G.iconst (v := -1) dX12_readsRest_123 (by decide) ?_
            obtain ⟨v_27, I_28, hc_26, hf⟩ := bnd2_at hf
            refine G.callVi (av := [.int (1 : Int32), .int (0 : Int32), .int (999 : Int32), .int (-1 : Int32)]) (rest := []) dX12_readsRest_124 mvX12_128 (gX12_reads E d (1 : Int32) (0 : Int32) (999 : Int32) (-1 : Int32) I_25 hc_26) (by decide) rfl rfl rfl (Nat.le_of_ble_eq_true rfl) ?_
            refine G.if_eq (tgt := 134) dX12_readsRest_127 (by decide) (fun c_29 => ?_) (fun c_29 => ?_)
            · have hf := ite_t hf c_29
              refine G.iconst (v := 0) dX12_readsRest_134 (by decide) ?_
              have hf := Option.some.inj hf
              subst hf
              exact G.zret' dX12_readsRest_135 rfl (by decide) hK
            · have hf := ite_f hf c_29
              refine G.iconst (v := 1) dX12_readsRest_130 (by decide) ?_
              refine G.goto (tgt := 135) dX12_readsRest_131 (by decide) ?_
              have hf := Option.some.inj hf
              subst hf
              exact G.zret' dX12_readsRest_135 rfl (by decide) hK
        · have hf := ite_f hf c_22
          by_cases c_31 : x1 = 4
          · have hf := ite_t hf c_31
            refine G.tsw_at (j := 4) (tgt := 97) dX12_readsRest_8 c_31 (by decide) (by decide) rfl (by decide) ?_
            refine G.forget (L' := [some (.ref 74), none, some (.int x2_1)]) [1] rfl ?_
            exact tX12_readsRest_97 E d rr x2_1 I _ hf hK
          · have hf := ite_f hf c_31
            by_cases c_32 : x1 = 5
            · have hf := ite_t hf c_32
              refine G.tsw_at (j := 5) (tgt := 136) dX12_readsRest_8 c_32 (by decide) (by decide) rfl (by decide) ?_
              refine G.aload_n dX12_readsRest_136 rfl rfl ?_
              refine G.iconst (v := 0) dX12_readsRest_137 (by decide) ?_
              refine G.iconst (v := 0) dX12_readsRest_138 (by decide) ?_
              refine G.aload_n dX12_readsRest_139 rfl rfl ?_
              refine G.getI dX12_readsRest_140 flX12_132 (by decide) rfl ?_
              refine G.iconst (v := 1) dX12_readsRest_143 (by decide) ?_
              refine G.isub dX12_readsRest_144 ?_
              refine G.iconst (v := -1) dX12_readsRest_145 (by decide) ?_
              obtain ⟨v_34, I_35, hc_33, hf⟩ := bnd2_at hf
              refine G.callVi (av := [.int (0 : Int32), .int (0 : Int32), .int ((I 74 11) - (1 : Int32)), .int (-1 : Int32)]) (rest := []) dX12_readsRest_146 mvX12_128 (gX12_reads E d (0 : Int32) (0 : Int32) ((I 74 11) - (1 : Int32)) (-1 : Int32) I hc_33) (by decide) rfl rfl rfl (Nat.le_of_ble_eq_true rfl) ?_
              refine G.if_eq (tgt := 178) dX12_readsRest_149 (by decide) (fun c_44 => ?_) (fun c_44 => ?_)
              · have hf := ite_t hf c_44
                refine G.iconst (v := 0) dX12_readsRest_178 (by decide) ?_
                have hf := Option.some.inj hf
                subst hf
                exact G.zret' dX12_readsRest_179 rfl (by decide) hK
              · have hf := ite_f hf c_44
                refine G.aload_n dX12_readsRest_152 rfl rfl ?_
                refine G.iconst (v := 1) dX12_readsRest_153 (by decide) ?_
                refine G.iconst (v := 1) dX12_readsRest_154 (by decide) ?_
                refine G.iconst (v := 4) dX12_readsRest_155 (by decide) ?_
                refine G.iconst (v := -1) dX12_readsRest_156 (by decide) ?_
                obtain ⟨v_37, I_38, hc_36, hf⟩ := bnd2_at hf
                refine G.callVi (av := [.int (1 : Int32), .int (1 : Int32), .int (4 : Int32), .int (-1 : Int32)]) (rest := []) dX12_readsRest_157 mvX12_128 (gX12_reads E d (1 : Int32) (1 : Int32) (4 : Int32) (-1 : Int32) I_35 hc_36) (by decide) rfl rfl rfl (Nat.le_of_ble_eq_true rfl) ?_
                refine G.if_eq (tgt := 178) dX12_readsRest_160 (by decide) (fun c_43 => ?_) (fun c_43 => ?_)
                · have hf := ite_t hf c_43
                  refine G.iconst (v := 0) dX12_readsRest_178 (by decide) ?_
                  have hf := Option.some.inj hf
                  subst hf
                  exact G.zret' dX12_readsRest_179 rfl (by decide) hK
                · have hf := ite_f hf c_43
                  refine G.aload_n dX12_readsRest_163 rfl rfl ?_
                  refine G.iconst (v := 2) dX12_readsRest_164 (by decide) ?_
                  refine G.iconst (v := 0) dX12_readsRest_165 (by decide) ?_
                  refine G.iload_n dX12_readsRest_166 rfl rfl ?_
                  refine G.iconst (v := -1) dX12_readsRest_167 (by decide) ?_
                  obtain ⟨v_40, I_41, hc_39, hf⟩ := bnd2_at hf
                  refine G.callVi (av := [.int (2 : Int32), .int (0 : Int32), .int x2_1, .int (-1 : Int32)]) (rest := []) dX12_readsRest_168 mvX12_128 (gX12_reads E d (2 : Int32) (0 : Int32) x2_1 (-1 : Int32) I_38 hc_39) (by decide) rfl rfl rfl (Nat.le_of_ble_eq_true rfl) ?_
                  refine G.if_eq (tgt := 178) dX12_readsRest_171 (by decide) (fun c_42 => ?_) (fun c_42 => ?_)
                  · have hf := ite_t hf c_42
                    refine G.iconst (v := 0) dX12_readsRest_178 (by decide) ?_
                    have hf := Option.some.inj hf
                    subst hf
                    exact G.zret' dX12_readsRest_179 rfl (by decide) hK
                  · have hf := ite_f hf c_42
                    refine G.iconst (v := 1) dX12_readsRest_174 (by decide) ?_
                    refine G.goto (tgt := 179) dX12_readsRest_175 (by decide) ?_
                    have hf := Option.some.inj hf
                    subst hf
                    exact G.zret' dX12_readsRest_179 rfl (by decide) hK
            · have hf := ite_f hf c_32
              refine G.tsw_out (tgt := 180) dX12_readsRest_8 (by have q0 := lv_neT (a := 0) c_2 rfl; have q1 := lv_neT (a := 1) c_7 rfl; have q2 := lv_neT (a := 2) c_17 rfl; have q3 := lv_neT (a := 3) c_22 rfl; have q4 := lv_neT (a := 4) c_31 rfl; have q5 := lv_neT (a := 5) c_32 rfl; omega) (by decide) ?_
              refine G.aload_n dX12_readsRest_180 rfl rfl ?_
              refine G.iconst (v := 0) dX12_readsRest_181 (by decide) ?_
              refine G.iconst (v := 0) dX12_readsRest_182 (by decide) ?_
              refine G.iconst (v := 4) dX12_readsRest_183 (by decide) ?_
              refine G.iconst (v := -1) dX12_readsRest_184 (by decide) ?_
              obtain ⟨v_46, I_47, hc_45, hf⟩ := bnd2_at hf
              refine G.callVi (av := [.int (0 : Int32), .int (0 : Int32), .int (4 : Int32), .int (-1 : Int32)]) (rest := []) dX12_readsRest_185 mvX12_128 (gX12_reads E d (0 : Int32) (0 : Int32) (4 : Int32) (-1 : Int32) I hc_45) (by decide) rfl rfl rfl (Nat.le_of_ble_eq_true rfl) ?_
              obtain ⟨hz_48, hf⟩ := chk_at hf
              have hf := Option.some.inj hf
              subst hf
              exact G.zret' dX12_readsRest_188 rfl hz_48 hK
theorem dX12_readsItem_0 : decode cX12_readsItem 0 = .ok (.aload_n 0, 1) := by decide +kernel
theorem dX12_readsItem_1 : decode cX12_readsItem 1 = .ok (.invokevirtual 135, 3) := by decide +kernel
theorem dX12_readsItem_4 : decode cX12_readsItem 4 = .ok (.istore_n 1, 1) := by decide +kernel
theorem dX12_readsItem_5 : decode cX12_readsItem 5 = .ok (.iload_n 1, 1) := by decide +kernel
theorem dX12_readsItem_6 : decode cX12_readsItem 6 = .ok (.iconst (-1), 1) := by decide +kernel
theorem dX12_readsItem_7 : decode cX12_readsItem 7 = .ok (.if_icmp .eq 40, 3) := by decide +kernel
theorem dX12_readsItem_10 : decode cX12_readsItem 10 = .ok (.iload_n 1, 1) := by decide +kernel
theorem dX12_readsItem_11 : decode cX12_readsItem 11 = .ok (.ifCond .ne 7, 3) := by decide +kernel
theorem dX12_readsItem_14 : decode cX12_readsItem 14 = .ok (.iconst 1, 1) := by decide +kernel
theorem dX12_readsItem_15 : decode cX12_readsItem 15 = .ok (.goto 4, 3) := by decide +kernel
theorem dX12_readsItem_18 : decode cX12_readsItem 18 = .ok (.iconst 0, 1) := by decide +kernel
theorem dX12_readsItem_19 : decode cX12_readsItem 19 = .ok (.aload_n 0, 1) := by decide +kernel
theorem dX12_readsItem_20 : decode cX12_readsItem 20 = .ok (.getfield 119, 3) := by decide +kernel
theorem dX12_readsItem_23 : decode cX12_readsItem 23 = .ok (.ifCond .ne 7, 3) := by decide +kernel
theorem dX12_readsItem_26 : decode cX12_readsItem 26 = .ok (.iconst 1, 1) := by decide +kernel
theorem dX12_readsItem_27 : decode cX12_readsItem 27 = .ok (.goto 4, 3) := by decide +kernel
theorem dX12_readsItem_30 : decode cX12_readsItem 30 = .ok (.iconst 0, 1) := by decide +kernel
theorem dX12_readsItem_31 : decode cX12_readsItem 31 = .ok (.if_icmp .ne 16, 3) := by decide +kernel
theorem dX12_readsItem_34 : decode cX12_readsItem 34 = .ok (.iload_n 1, 1) := by decide +kernel
theorem dX12_readsItem_35 : decode cX12_readsItem 35 = .ok (.iconst 4, 1) := by decide +kernel
theorem dX12_readsItem_36 : decode cX12_readsItem 36 = .ok (.if_icmp .ne 13, 3) := by decide +kernel
theorem dX12_readsItem_39 : decode cX12_readsItem 39 = .ok (.aload_n 0, 1) := by decide +kernel
theorem dX12_readsItem_40 : decode cX12_readsItem 40 = .ok (.getfield 132, 3) := by decide +kernel
theorem dX12_readsItem_43 : decode cX12_readsItem 43 = .ok (.iconst 4, 1) := by decide +kernel
theorem dX12_readsItem_44 : decode cX12_readsItem 44 = .ok (.if_icmp .ne 5, 3) := by decide +kernel
theorem dX12_readsItem_47 : decode cX12_readsItem 47 = .ok (.iconst 0, 1) := by decide +kernel
theorem dX12_readsItem_48 : decode cX12_readsItem 48 = .ok (.ireturn, 1) := by decide +kernel
theorem dX12_readsItem_49 : decode cX12_readsItem 49 = .ok (.aload_n 0, 1) := by decide +kernel
theorem dX12_readsItem_50 : decode cX12_readsItem 50 = .ok (.invokevirtual 122, 3) := by decide +kernel
theorem dX12_readsItem_53 : decode cX12_readsItem 53 = .ok (.aload_n 0, 1) := by decide +kernel
theorem dX12_readsItem_54 : decode cX12_readsItem 54 = .ok (.getfield 23, 3) := by decide +kernel
theorem dX12_readsItem_57 : decode cX12_readsItem 57 = .ok (.iconst 4, 1) := by decide +kernel
theorem dX12_readsItem_58 : decode cX12_readsItem 58 = .ok (.aload_n 0, 1) := by decide +kernel
theorem dX12_readsItem_59 : decode cX12_readsItem 59 = .ok (.getfield 119, 3) := by decide +kernel
theorem dX12_readsItem_62 : decode cX12_readsItem 62 = .ok (.imul, 1) := by decide +kernel
theorem dX12_readsItem_63 : decode cX12_readsItem 63 = .ok (.iload_n 1, 1) := by decide +kernel
theorem dX12_readsItem_64 : decode cX12_readsItem 64 = .ok (.iastore, 1) := by decide +kernel
theorem dX12_readsItem_65 : decode cX12_readsItem 65 = .ok (.aload_n 0, 1) := by decide +kernel
theorem dX12_readsItem_66 : decode cX12_readsItem 66 = .ok (.iload_n 1, 1) := by decide +kernel
theorem dX12_readsItem_67 : decode cX12_readsItem 67 = .ok (.invokevirtual 138, 3) := by decide +kernel
theorem dX12_readsItem_70 : decode cX12_readsItem 70 = .ok (.ifCond .eq 28, 3) := by decide +kernel
theorem dX12_readsItem_73 : decode cX12_readsItem 73 = .ok (.aload_n 0, 1) := by decide +kernel
theorem dX12_readsItem_74 : decode cX12_readsItem 74 = .ok (.getfield 102, 3) := by decide +kernel
theorem dX12_readsItem_77 : decode cX12_readsItem 77 = .ok (.aload_n 0, 1) := by decide +kernel
theorem dX12_readsItem_78 : decode cX12_readsItem 78 = .ok (.getfield 94, 3) := by decide +kernel
theorem dX12_readsItem_81 : decode cX12_readsItem 81 = .ok (.if_icmp .eq 17, 3) := by decide +kernel
theorem dX12_readsItem_84 : decode cX12_readsItem 84 = .ok (.aload_n 0, 1) := by decide +kernel
theorem dX12_readsItem_85 : decode cX12_readsItem 85 = .ok (.getfield 17, 3) := by decide +kernel
theorem dX12_readsItem_88 : decode cX12_readsItem 88 = .ok (.aload_n 0, 1) := by decide +kernel
theorem dX12_readsItem_89 : decode cX12_readsItem 89 = .ok (.getfield 102, 3) := by decide +kernel
theorem dX12_readsItem_92 : decode cX12_readsItem 92 = .ok (.iaload, 1) := by decide +kernel
theorem dX12_readsItem_93 : decode cX12_readsItem 93 = .ok (.bipush 59, 2) := by decide +kernel
theorem dX12_readsItem_95 : decode cX12_readsItem 95 = .ok (.if_icmp .eq 5, 3) := by decide +kernel
theorem dX12_readsItem_98 : decode cX12_readsItem 98 = .ok (.iconst 0, 1) := by decide +kernel
theorem dX12_readsItem_99 : decode cX12_readsItem 99 = .ok (.ireturn, 1) := by decide +kernel
theorem dX12_readsItem_100 : decode cX12_readsItem 100 = .ok (.aload_n 0, 1) := by decide +kernel
theorem dX12_readsItem_101 : decode cX12_readsItem 101 = .ok (.iload_n 1, 1) := by decide +kernel
theorem dX12_readsItem_102 : decode cX12_readsItem 102 = .ok (.ifCond .ne 19, 3) := by decide +kernel
theorem dX12_readsItem_105 : decode cX12_readsItem 105 = .ok (.aload_n 0, 1) := by decide +kernel
theorem dX12_readsItem_106 : decode cX12_readsItem 106 = .ok (.getfield 23, 3) := by decide +kernel
theorem dX12_readsItem_109 : decode cX12_readsItem 109 = .ok (.iconst 4, 1) := by decide +kernel
theorem dX12_readsItem_110 : decode cX12_readsItem 110 = .ok (.aload_n 0, 1) := by decide +kernel
theorem dX12_readsItem_111 : decode cX12_readsItem 111 = .ok (.getfield 119, 3) := by decide +kernel
theorem dX12_readsItem_114 : decode cX12_readsItem 114 = .ok (.imul, 1) := by decide +kernel
theorem dX12_readsItem_115 : decode cX12_readsItem 115 = .ok (.iconst 1, 1) := by decide +kernel
theorem dX12_readsItem_116 : decode cX12_readsItem 116 = .ok (.iadd, 1) := by decide +kernel
theorem dX12_readsItem_117 : decode cX12_readsItem 117 = .ok (.iaload, 1) := by decide +kernel
theorem dX12_readsItem_118 : decode cX12_readsItem 118 = .ok (.goto 7, 3) := by decide +kernel
theorem dX12_readsItem_121 : decode cX12_readsItem 121 = .ok (.aload_n 0, 1) := by decide +kernel
theorem dX12_readsItem_122 : decode cX12_readsItem 122 = .ok (.getfield 125, 3) := by decide +kernel
theorem dX12_readsItem_125 : decode cX12_readsItem 125 = .ok (.putfield 125, 3) := by decide +kernel
theorem dX12_readsItem_128 : decode cX12_readsItem 128 = .ok (.aload_n 0, 1) := by decide +kernel
theorem dX12_readsItem_129 : decode cX12_readsItem 129 = .ok (.dup, 1) := by decide +kernel
theorem dX12_readsItem_130 : decode cX12_readsItem 130 = .ok (.getfield 132, 3) := by decide +kernel
theorem dX12_readsItem_133 : decode cX12_readsItem 133 = .ok (.iload_n 1, 1) := by decide +kernel
theorem dX12_readsItem_134 : decode cX12_readsItem 134 = .ok (.iconst 4, 1) := by decide +kernel
theorem dX12_readsItem_135 : decode cX12_readsItem 135 = .ok (.if_icmp .ne 7, 3) := by decide +kernel
theorem dX12_readsItem_138 : decode cX12_readsItem 138 = .ok (.iconst 1, 1) := by decide +kernel
theorem dX12_readsItem_139 : decode cX12_readsItem 139 = .ok (.goto 4, 3) := by decide +kernel
theorem dX12_readsItem_142 : decode cX12_readsItem 142 = .ok (.iconst 0, 1) := by decide +kernel
theorem dX12_readsItem_143 : decode cX12_readsItem 143 = .ok (.iadd, 1) := by decide +kernel
theorem dX12_readsItem_144 : decode cX12_readsItem 144 = .ok (.putfield 132, 3) := by decide +kernel
theorem dX12_readsItem_147 : decode cX12_readsItem 147 = .ok (.aload_n 0, 1) := by decide +kernel
theorem dX12_readsItem_148 : decode cX12_readsItem 148 = .ok (.dup, 1) := by decide +kernel
theorem dX12_readsItem_149 : decode cX12_readsItem 149 = .ok (.getfield 119, 3) := by decide +kernel
theorem dX12_readsItem_152 : decode cX12_readsItem 152 = .ok (.iconst 1, 1) := by decide +kernel
theorem dX12_readsItem_153 : decode cX12_readsItem 153 = .ok (.iadd, 1) := by decide +kernel
theorem dX12_readsItem_154 : decode cX12_readsItem 154 = .ok (.putfield 119, 3) := by decide +kernel
theorem dX12_readsItem_157 : decode cX12_readsItem 157 = .ok (.aload_n 0, 1) := by decide +kernel
theorem dX12_readsItem_158 : decode cX12_readsItem 158 = .ok (.invokevirtual 122, 3) := by decide +kernel
theorem dX12_readsItem_161 : decode cX12_readsItem 161 = .ok (.iconst 1, 1) := by decide +kernel
theorem dX12_readsItem_162 : decode cX12_readsItem 162 = .ok (.ireturn, 1) := by decide +kernel
def jX12_readsItem_143 (u0 : Int32) (u1 : Int32) (I : Mem) : Option (Int32 × Mem) :=
  letb (up2 I 74 11 (u1 + u0)) fun I_12 =>
  letb (up2 I_12 74 9 ((I_12 74 9) + (1 : Int32))) fun I_13 =>
  bnd (fX12_token I_13) fun I_15 =>
  some ((1 : Int32), I_15)
set_option maxRecDepth 20000 in
theorem tX12_readsItem_143 (E : EV) (d : Nat) (rr : Option Value × Mem) (u0 : Int32) (u1 : Int32) (I : Mem) (y : (Int32 × Mem)) (hf : jX12_readsItem_143 u0 u1 I = some y) (hK : (fun (z : Int32 × Mem) => (some (.int z.1), z.2) = rr) y) : G E (d + 4) kX12_readsItem 143 [some (.ref 74), none] [.int u0, .int u1, .ref 74] I rr := by
  unfold jX12_readsItem_143 at hf
  refine G.iadd dX12_readsItem_143 ?_
  refine G.putI dX12_readsItem_144 flX12_132 (by decide) rfl ?_
  refine G.nmI (fun I_12 e_I_12 => ?_)
  have hf := letb_at hf e_I_12
  clear e_I_12
  refine G.aload_n dX12_readsItem_147 rfl rfl ?_
  refine G.dup dX12_readsItem_148 rfl ?_
  refine G.getI dX12_readsItem_149 flX12_119 (by decide) rfl ?_
  refine G.iconst (v := 1) dX12_readsItem_152 (by decide) ?_
  refine G.iadd dX12_readsItem_153 ?_
  refine G.putI dX12_readsItem_154 flX12_119 (by decide) rfl ?_
  refine G.nmI (fun I_13 e_I_13 => ?_)
  have hf := letb_at hf e_I_13
  clear e_I_13
  refine G.aload_n dX12_readsItem_157 rfl rfl ?_
  obtain ⟨I_15, hc_14, hf⟩ := bnd_at hf
  refine G.callVv (av := []) (rest := []) dX12_readsItem_158 mvX12_122 (gX12_token E (d + 2) I_13 hc_14) (by decide) rfl rfl rfl (Nat.le_of_ble_eq_true rfl) ?_
  refine G.iconst (v := 1) dX12_readsItem_161 (by decide) ?_
  have hf := Option.some.inj hf
  subst hf
  exact G.zret' dX12_readsItem_162 rfl (by decide) hK
def jX12_readsItem_125 (x1 : Int32) (u0 : Int32) (I : Mem) : Option (Int32 × Mem) :=
  letb (up2 I 74 10 u0) fun I_11 =>
  if x1 = (4 : Int32) then
  (jX12_readsItem_143 (1 : Int32) (I_11 74 11) I_11)
  else
  (jX12_readsItem_143 (0 : Int32) (I_11 74 11) I_11)
set_option maxRecDepth 20000 in
theorem tX12_readsItem_125 (E : EV) (d : Nat) (rr : Option Value × Mem) (x1 : Int32) (u0 : Int32) (I : Mem) (y : (Int32 × Mem)) (hf : jX12_readsItem_125 x1 u0 I = some y) (hK : (fun (z : Int32 × Mem) => (some (.int z.1), z.2) = rr) y) : G E (d + 4) kX12_readsItem 125 [some (.ref 74), some (.int x1)] [.int u0, .ref 74] I rr := by
  unfold jX12_readsItem_125 at hf
  refine G.putI dX12_readsItem_125 flX12_125 (by decide) rfl ?_
  refine G.nmI (fun I_11 e_I_11 => ?_)
  have hf := letb_at hf e_I_11
  clear e_I_11
  refine G.aload_n dX12_readsItem_128 rfl rfl ?_
  refine G.dup dX12_readsItem_129 rfl ?_
  refine G.getI dX12_readsItem_130 flX12_132 (by decide) rfl ?_
  refine G.iload_n dX12_readsItem_133 rfl rfl ?_
  refine G.iconst (v := 4) dX12_readsItem_134 (by decide) ?_
  refine G.icmp_ne (tgt := 142) dX12_readsItem_135 (by decide) (fun c_16 => ?_) (fun c_16 => ?_)
  · have hf := ite_f hf c_16
    refine G.iconst (v := 0) dX12_readsItem_142 (by decide) ?_
    refine G.forget (L' := [some (.ref 74), none]) [1] rfl ?_
    exact tX12_readsItem_143 E d rr (0 : Int32) (I_11 74 11) I_11 _ hf hK
  · have hf := ite_t hf c_16
    refine G.iconst (v := 1) dX12_readsItem_138 (by decide) ?_
    refine G.goto (tgt := 143) dX12_readsItem_139 (by decide) ?_
    refine G.forget (L' := [some (.ref 74), none]) [1] rfl ?_
    exact tX12_readsItem_143 E d rr (1 : Int32) (I_11 74 11) I_11 _ hf hK
def jX12_readsItem_49 (x1 : Int32) (I : Mem) : Option (Int32 × Mem) :=
  bnd (fX12_token I) fun I_4 =>
  chk (inb ((4 : Int32) * (I_4 74 9)) 400) <|
  letb (up2 I_4 79 (ix ((4 : Int32) * (I_4 74 9))) x1) fun I_6 =>
  bnd2 (fX12_readsRest x1 I_6) fun v_8 I_9 =>
  if v_8 = 0 then
  (some ((0 : Int32), I_9))
  else
  (if (I_9 74 6) = (I_9 74 3) then
  (some ((0 : Int32), I_9))
  else
  (chk (inb (I_9 74 6) 200) <|
  if (I_9 77 (ix (I_9 74 6))) = (59 : Int32) then
  (if x1 = 0 then
  (chk (inb (((4 : Int32) * (I_9 74 9)) + (1 : Int32)) 400) <|
  jX12_readsItem_125 x1 (I_9 79 (ix (((4 : Int32) * (I_9 74 9)) + (1 : Int32)))) I_9)
  else
  (jX12_readsItem_125 x1 (I_9 74 10) I_9))
  else
  (some ((0 : Int32), I_9))))
set_option maxRecDepth 20000 in
theorem tX12_readsItem_49 (E : EV) (d : Nat) (rr : Option Value × Mem) (x1 : Int32) (I : Mem) (y : (Int32 × Mem)) (hf : jX12_readsItem_49 x1 I = some y) (hK : (fun (z : Int32 × Mem) => (some (.int z.1), z.2) = rr) y) : G E (d + 4) kX12_readsItem 49 [some (.ref 74), some (.int x1)] [] I rr := by
  unfold jX12_readsItem_49 at hf
  refine G.aload_n dX12_readsItem_49 rfl rfl ?_
  obtain ⟨I_4, hc_3, hf⟩ := bnd_at hf
  refine G.callVv (av := []) (rest := []) dX12_readsItem_50 mvX12_122 (gX12_token E (d + 2) I hc_3) (by decide) rfl rfl rfl (Nat.le_of_ble_eq_true rfl) ?_
  refine G.aload_n dX12_readsItem_53 rfl rfl ?_
  refine G.getR (q := 79) dX12_readsItem_54 flX12_23 (by decide) rfl rfl ?_
  refine G.iconst (v := 4) dX12_readsItem_57 (by decide) ?_
  refine G.aload_n dX12_readsItem_58 rfl rfl ?_
  refine G.getI dX12_readsItem_59 flX12_119 (by decide) rfl ?_
  refine G.imul dX12_readsItem_62 ?_
  refine G.iload_n dX12_readsItem_63 rfl rfl ?_
  obtain ⟨hi_5, hf⟩ := chk_at hf
  refine G.iast' dX12_readsItem_64 (by decide) rfl rfl hi_5 ?_
  refine G.nmI (fun I_6 e_I_6 => ?_)
  have hf := letb_at hf e_I_6
  clear e_I_6
  refine G.aload_n dX12_readsItem_65 rfl rfl ?_
  refine G.iload_n dX12_readsItem_66 rfl rfl ?_
  obtain ⟨v_8, I_9, hc_7, hf⟩ := bnd2_at hf
  refine G.callVi (av := [.int x1]) (rest := []) dX12_readsItem_67 mvX12_138 (gX12_readsRest E d x1 I_6 hc_7) (by decide) rfl rfl rfl (Nat.le_of_ble_eq_true rfl) ?_
  refine G.if_eq (tgt := 98) dX12_readsItem_70 (by decide) (fun c_21 => ?_) (fun c_21 => ?_)
  · have hf := ite_t hf c_21
    refine G.iconst (v := 0) dX12_readsItem_98 (by decide) ?_
    have hf := Option.some.inj hf
    subst hf
    exact G.zret' dX12_readsItem_99 rfl (by decide) hK
  · have hf := ite_f hf c_21
    refine G.aload_n dX12_readsItem_73 rfl rfl ?_
    refine G.getI dX12_readsItem_74 flX12_102 (by decide) rfl ?_
    refine G.aload_n dX12_readsItem_77 rfl rfl ?_
    refine G.getI dX12_readsItem_78 flX12_94 (by decide) rfl ?_
    refine G.icmp_eq (tgt := 98) dX12_readsItem_81 (by decide) (fun c_20 => ?_) (fun c_20 => ?_)
    · have hf := ite_t hf c_20
      refine G.iconst (v := 0) dX12_readsItem_98 (by decide) ?_
      have hf := Option.some.inj hf
      subst hf
      exact G.zret' dX12_readsItem_99 rfl (by decide) hK
    · have hf := ite_f hf c_20
      refine G.aload_n dX12_readsItem_84 rfl rfl ?_
      refine G.getR (q := 77) dX12_readsItem_85 flX12_17 (by decide) rfl rfl ?_
      refine G.aload_n dX12_readsItem_88 rfl rfl ?_
      refine G.getI dX12_readsItem_89 flX12_102 (by decide) rfl ?_
      obtain ⟨hi_10, hf⟩ := chk_at hf
      refine G.iald' dX12_readsItem_92 (by decide) rfl rfl hi_10 ?_
      refine G.bipush (v := 59) dX12_readsItem_93 (by decide) ?_
      refine G.icmp_eq (tgt := 100) dX12_readsItem_95 (by decide) (fun c_19 => ?_) (fun c_19 => ?_)
      · have hf := ite_t hf c_19
        refine G.aload_n dX12_readsItem_100 rfl rfl ?_
        refine G.iload_n dX12_readsItem_101 rfl rfl ?_
        refine G.if_ne (tgt := 121) dX12_readsItem_102 (by decide) (fun c_18 => ?_) (fun c_18 => ?_)
        · have hf := ite_f hf c_18
          refine G.aload_n dX12_readsItem_121 rfl rfl ?_
          refine G.getI dX12_readsItem_122 flX12_125 (by decide) rfl ?_
          exact tX12_readsItem_125 E d rr x1 (I_9 74 10) I_9 _ hf hK
        · have hf := ite_t hf c_18
          refine G.aload_n dX12_readsItem_105 rfl rfl ?_
          refine G.getR (q := 79) dX12_readsItem_106 flX12_23 (by decide) rfl rfl ?_
          refine G.iconst (v := 4) dX12_readsItem_109 (by decide) ?_
          refine G.aload_n dX12_readsItem_110 rfl rfl ?_
          refine G.getI dX12_readsItem_111 flX12_119 (by decide) rfl ?_
          refine G.imul dX12_readsItem_114 ?_
          refine G.iconst (v := 1) dX12_readsItem_115 (by decide) ?_
          refine G.iadd dX12_readsItem_116 ?_
          obtain ⟨hi_17, hf⟩ := chk_at hf
          refine G.iald' dX12_readsItem_117 (by decide) rfl rfl hi_17 ?_
          refine G.goto (tgt := 125) dX12_readsItem_118 (by decide) ?_
          exact tX12_readsItem_125 E d rr x1 (I_9 79 (ix (((4 : Int32) * (I_9 74 9)) + (1 : Int32)))) I_9 _ hf hK
      · have hf := ite_f hf c_19
        refine G.iconst (v := 0) dX12_readsItem_98 (by decide) ?_
        have hf := Option.some.inj hf
        subst hf
        exact G.zret' dX12_readsItem_99 rfl (by decide) hK
def jX12_readsItem_31 (x1 : Int32) (u0 : Int32) (u1 : Int32) (I : Mem) : Option (Int32 × Mem) :=
  if u1 = u0 then
  (if x1 = (4 : Int32) then
  (if (I 74 11) = (4 : Int32) then
  (some ((0 : Int32), I))
  else
  (jX12_readsItem_49 x1 I))
  else
  (jX12_readsItem_49 x1 I))
  else
  (some ((0 : Int32), I))
set_option maxRecDepth 20000 in
theorem tX12_readsItem_31 (E : EV) (d : Nat) (rr : Option Value × Mem) (x1 : Int32) (u0 : Int32) (u1 : Int32) (I : Mem) (y : (Int32 × Mem)) (hf : jX12_readsItem_31 x1 u0 u1 I = some y) (hK : (fun (z : Int32 × Mem) => (some (.int z.1), z.2) = rr) y) : G E (d + 4) kX12_readsItem 31 [some (.ref 74), some (.int x1)] [.int u0, .int u1] I rr := by
  unfold jX12_readsItem_31 at hf
  refine G.icmp_ne (tgt := 47) dX12_readsItem_31 (by decide) (fun c_24 => ?_) (fun c_24 => ?_)
  · have hf := ite_f hf c_24
    refine G.iconst (v := 0) dX12_readsItem_47 (by decide) ?_
    have hf := Option.some.inj hf
    subst hf
    exact G.zret' dX12_readsItem_48 rfl (by decide) hK
  · have hf := ite_t hf c_24
    refine G.iload_n dX12_readsItem_34 rfl rfl ?_
    refine G.iconst (v := 4) dX12_readsItem_35 (by decide) ?_
    refine G.icmp_ne (tgt := 49) dX12_readsItem_36 (by decide) (fun c_23 => ?_) (fun c_23 => ?_)
    · have hf := ite_f hf c_23
      exact tX12_readsItem_49 E d rr x1 I _ hf hK
    · have hf := ite_t hf c_23
      refine G.aload_n dX12_readsItem_39 rfl rfl ?_
      refine G.getI dX12_readsItem_40 flX12_132 (by decide) rfl ?_
      refine G.iconst (v := 4) dX12_readsItem_43 (by decide) ?_
      refine G.icmp_ne (tgt := 49) dX12_readsItem_44 (by decide) (fun c_22 => ?_) (fun c_22 => ?_)
      · have hf := ite_f hf c_22
        exact tX12_readsItem_49 E d rr x1 I _ hf hK
      · have hf := ite_t hf c_22
        refine G.iconst (v := 0) dX12_readsItem_47 (by decide) ?_
        have hf := Option.some.inj hf
        subst hf
        exact G.zret' dX12_readsItem_48 rfl (by decide) hK
def jX12_readsItem_19 (x1 : Int32) (u0 : Int32) (I : Mem) : Option (Int32 × Mem) :=
  if (I 74 9) = 0 then
  (jX12_readsItem_31 x1 (1 : Int32) u0 I)
  else
  (jX12_readsItem_31 x1 (0 : Int32) u0 I)
set_option maxRecDepth 20000 in
theorem tX12_readsItem_19 (E : EV) (d : Nat) (rr : Option Value × Mem) (x1 : Int32) (u0 : Int32) (I : Mem) (y : (Int32 × Mem)) (hf : jX12_readsItem_19 x1 u0 I = some y) (hK : (fun (z : Int32 × Mem) => (some (.int z.1), z.2) = rr) y) : G E (d + 4) kX12_readsItem 19 [some (.ref 74), some (.int x1)] [.int u0] I rr := by
  unfold jX12_readsItem_19 at hf
  refine G.aload_n dX12_readsItem_19 rfl rfl ?_
  refine G.getI dX12_readsItem_20 flX12_119 (by decide) rfl ?_
  refine G.if_ne (tgt := 30) dX12_readsItem_23 (by decide) (fun c_25 => ?_) (fun c_25 => ?_)
  · have hf := ite_f hf c_25
    refine G.iconst (v := 0) dX12_readsItem_30 (by decide) ?_
    exact tX12_readsItem_31 E d rr x1 (0 : Int32) u0 I _ hf hK
  · have hf := ite_t hf c_25
    refine G.iconst (v := 1) dX12_readsItem_26 (by decide) ?_
    refine G.goto (tgt := 31) dX12_readsItem_27 (by decide) ?_
    exact tX12_readsItem_31 E d rr x1 (1 : Int32) u0 I _ hf hK
def fX12_readsItem (I : Mem) : Option (Int32 × Mem) :=
  bnd (fX12_wordOf I) fun v_2 =>
  if v_2 = (-1 : Int32) then
  (some ((0 : Int32), I))
  else
  (if v_2 = 0 then
  (jX12_readsItem_19 v_2 (1 : Int32) I)
  else
  (jX12_readsItem_19 v_2 (0 : Int32) I))
set_option maxRecDepth 20000 in
theorem gX12_readsItem (E : EV) (d : Nat) (I : Mem) {v : Int32} {J : Mem} (hf : fX12_readsItem I = some (v, J)) : Gm E (d + 4) kX12_readsItem [.ref 74] I (some (.int v), J) := by
  refine (fun (y : (Int32 × Mem)) (hf : fX12_readsItem I = some y) => (?_ : Gm E (d + 4) kX12_readsItem [.ref 74] I (some (.int y.1), y.2))) (v, J) hf
  refine Gm.of (by decide) rfl (Nat.le_of_ble_eq_true rfl) ?_
  generalize hrr : ((some (.int y.1), y.2) : Option Value × Mem) = rr
  show G E (d + 4) kX12_readsItem 0 [some (.ref 74), none] [] I rr
  have hK : (fun (z : Int32 × Mem) => (some (.int z.1), z.2) = rr) y := hrr
  clear hrr
  unfold fX12_readsItem at hf
  refine G.aload_n dX12_readsItem_0 rfl rfl ?_
  obtain ⟨v_2, hc_1, hf⟩ := bnd_at hf
  refine G.callVi (av := []) (rest := []) dX12_readsItem_1 mvX12_135 (gX12_wordOf E (d + 2) I hc_1) (by decide) rfl rfl rfl (Nat.le_of_ble_eq_true rfl) ?_
  refine G.istore_n (L' := [some (.ref 74), some (.int v_2)]) dX12_readsItem_4 rfl (Nat.le_of_ble_eq_true rfl) (Nat.le_of_ble_eq_true rfl) rfl rfl ?_
  refine G.iload_n dX12_readsItem_5 rfl rfl ?_
  refine G.iconst (v := -1) dX12_readsItem_6 (by decide) ?_
  refine G.icmp_eq (tgt := 47) dX12_readsItem_7 (by decide) (fun c_27 => ?_) (fun c_27 => ?_)
  · have hf := ite_t hf c_27
    refine G.iconst (v := 0) dX12_readsItem_47 (by decide) ?_
    have hf := Option.some.inj hf
    subst hf
    exact G.zret' dX12_readsItem_48 rfl (by decide) hK
  · have hf := ite_f hf c_27
    refine G.iload_n dX12_readsItem_10 rfl rfl ?_
    refine G.if_ne (tgt := 18) dX12_readsItem_11 (by decide) (fun c_26 => ?_) (fun c_26 => ?_)
    · have hf := ite_f hf c_26
      refine G.iconst (v := 0) dX12_readsItem_18 (by decide) ?_
      exact tX12_readsItem_19 E d rr v_2 (0 : Int32) I _ hf hK
    · have hf := ite_t hf c_26
      refine G.iconst (v := 1) dX12_readsItem_14 (by decide) ?_
      refine G.goto (tgt := 19) dX12_readsItem_15 (by decide) ?_
      exact tX12_readsItem_19 E d rr v_2 (1 : Int32) I _ hf hK
theorem dX12_fault_0 : decode cX12_fault 0 = .ok (.aload_n 0, 1) := by decide +kernel
theorem dX12_fault_1 : decode cX12_fault 1 = .ok (.iconst 0, 1) := by decide +kernel
theorem dX12_fault_2 : decode cX12_fault 2 = .ok (.putfield 99, 3) := by decide +kernel
theorem dX12_fault_5 : decode cX12_fault 5 = .ok (.aload_n 0, 1) := by decide +kernel
theorem dX12_fault_6 : decode cX12_fault 6 = .ok (.iconst 0, 1) := by decide +kernel
theorem dX12_fault_7 : decode cX12_fault 7 = .ok (.putfield 119, 3) := by decide +kernel
theorem dX12_fault_10 : decode cX12_fault 10 = .ok (.aload_n 0, 1) := by decide +kernel
theorem dX12_fault_11 : decode cX12_fault 11 = .ok (.iconst 0, 1) := by decide +kernel
theorem dX12_fault_12 : decode cX12_fault 12 = .ok (.putfield 125, 3) := by decide +kernel
theorem dX12_fault_15 : decode cX12_fault 15 = .ok (.aload_n 0, 1) := by decide +kernel
theorem dX12_fault_16 : decode cX12_fault 16 = .ok (.iconst 0, 1) := by decide +kernel
theorem dX12_fault_17 : decode cX12_fault 17 = .ok (.putfield 132, 3) := by decide +kernel
theorem dX12_fault_20 : decode cX12_fault 20 = .ok (.aload_n 0, 1) := by decide +kernel
theorem dX12_fault_21 : decode cX12_fault 21 = .ok (.invokevirtual 122, 3) := by decide +kernel
theorem dX12_fault_24 : decode cX12_fault 24 = .ok (.iconst 1, 1) := by decide +kernel
theorem dX12_fault_25 : decode cX12_fault 25 = .ok (.istore_n 1, 1) := by decide +kernel
theorem dX12_fault_26 : decode cX12_fault 26 = .ok (.iload_n 1, 1) := by decide +kernel
theorem dX12_fault_27 : decode cX12_fault 27 = .ok (.ifCond .eq 35, 3) := by decide +kernel
theorem dX12_fault_30 : decode cX12_fault 30 = .ok (.aload_n 0, 1) := by decide +kernel
theorem dX12_fault_31 : decode cX12_fault 31 = .ok (.invokevirtual 141, 3) := by decide +kernel
theorem dX12_fault_34 : decode cX12_fault 34 = .ok (.ifCond .ne 8, 3) := by decide +kernel
theorem dX12_fault_37 : decode cX12_fault 37 = .ok (.aload_n 0, 1) := by decide +kernel
theorem dX12_fault_38 : decode cX12_fault 38 = .ok (.getfield 102, 3) := by decide +kernel
theorem dX12_fault_41 : decode cX12_fault 41 = .ok (.ireturn, 1) := by decide +kernel
theorem dX12_fault_42 : decode cX12_fault 42 = .ok (.aload_n 0, 1) := by decide +kernel
theorem dX12_fault_43 : decode cX12_fault 43 = .ok (.getfield 102, 3) := by decide +kernel
theorem dX12_fault_46 : decode cX12_fault 46 = .ok (.aload_n 0, 1) := by decide +kernel
theorem dX12_fault_47 : decode cX12_fault 47 = .ok (.getfield 94, 3) := by decide +kernel
theorem dX12_fault_50 : decode cX12_fault 50 = .ok (.if_icmp .ge 7, 3) := by decide +kernel
theorem dX12_fault_53 : decode cX12_fault 53 = .ok (.iconst 1, 1) := by decide +kernel
theorem dX12_fault_54 : decode cX12_fault 54 = .ok (.goto 4, 3) := by decide +kernel
theorem dX12_fault_57 : decode cX12_fault 57 = .ok (.iconst 0, 1) := by decide +kernel
theorem dX12_fault_58 : decode cX12_fault 58 = .ok (.istore_n 1, 1) := by decide +kernel
theorem dX12_fault_59 : decode cX12_fault 59 = .ok (.goto (-33), 3) := by decide +kernel
theorem dX12_fault_62 : decode cX12_fault 62 = .ok (.iconst (-1), 1) := by decide +kernel
theorem dX12_fault_63 : decode cX12_fault 63 = .ok (.ireturn, 1) := by decide +kernel
def KX12_fault_26 (E : EV) (d : Nat) (rr : Option Value × Mem) (Kp : (Int32 × Mem) → Prop) : ((Int32 × Mem) ⊕ (Int32 × Mem)) → Prop
  | .inl q => G E (d + 5) kX12_fault 26 [some (.ref 74), some (.int q.1)] [] q.2 rr
  | .inr z => Kp z
def bX12_fault_26 (x1 : Int32) (I : Mem) : Option ((Int32 × Mem) ⊕ (Int32 × Mem)) :=
  if x1 = 0 then
  (some (.inr ((-1 : Int32), I)))
  else
  (bnd2 (fX12_readsItem I) fun v_8 I_9 =>
  if v_8 = 0 then
  (some (.inr ((I_9 74 6), I_9)))
  else
  (if (I_9 74 3) ≤ (I_9 74 6) then
  (some (.inl ((0 : Int32), I_9)))
  else
  (some (.inl ((1 : Int32), I_9)))))
def sX12_fault_26 (q : (Int32 × Mem)) : Option ((Int32 × Mem) ⊕ (Int32 × Mem)) := bX12_fault_26 q.1 q.2
set_option maxRecDepth 20000 in
theorem wX12_fault_26 (E : EV) (d : Nat) (rr : Option Value × Mem) (x1 : Int32) (I : Mem) (y : ((Int32 × Mem) ⊕ (Int32 × Mem))) (hf : bX12_fault_26 x1 I = some y) (hK : (KX12_fault_26 E d rr  (fun (z : Int32 × Mem) => (some (.int z.1), z.2) = rr)) y) : G E (d + 5) kX12_fault 26 [some (.ref 74), some (.int x1)] [] I rr := by
  unfold bX12_fault_26 at hf
  refine G.iload_n dX12_fault_26 rfl rfl ?_
  refine G.if_eq (tgt := 62) dX12_fault_27 (by decide) (fun c_12 => ?_) (fun c_12 => ?_)
  · have hf := ite_t hf c_12
    refine G.iconst (v := -1) dX12_fault_62 (by decide) ?_
    have hf := Option.some.inj hf
    subst hf
    exact G.iret' dX12_fault_63 rfl hK
  · have hf := ite_f hf c_12
    refine G.aload_n dX12_fault_30 rfl rfl ?_
    obtain ⟨v_8, I_9, hc_7, hf⟩ := bnd2_at hf
    refine G.callVi (av := []) (rest := []) dX12_fault_31 mvX12_141 (gX12_readsItem E d I hc_7) (by decide) rfl rfl rfl (Nat.le_of_ble_eq_true rfl) ?_
    refine G.if_ne (tgt := 42) dX12_fault_34 (by decide) (fun c_11 => ?_) (fun c_11 => ?_)
    · have hf := ite_f hf c_11
      refine G.aload_n dX12_fault_42 rfl rfl ?_
      refine G.getI dX12_fault_43 flX12_102 (by decide) rfl ?_
      refine G.aload_n dX12_fault_46 rfl rfl ?_
      refine G.getI dX12_fault_47 flX12_94 (by decide) rfl ?_
      refine G.icmp_ge (tgt := 57) dX12_fault_50 (by decide) (fun c_10 => ?_) (fun c_10 => ?_)
      · have hf := ite_t hf c_10
        refine G.iconst (v := 0) dX12_fault_57 (by decide) ?_
        refine G.istore_n (L' := [some (.ref 74), some (.int (0 : Int32))]) dX12_fault_58 rfl (Nat.le_of_ble_eq_true rfl) (Nat.le_of_ble_eq_true rfl) rfl rfl ?_
        refine G.goto (tgt := 26) dX12_fault_59 (by decide) ?_
        have hf := Option.some.inj hf
        subst hf
        exact hK
      · have hf := ite_f hf c_10
        refine G.iconst (v := 1) dX12_fault_53 (by decide) ?_
        refine G.goto (tgt := 58) dX12_fault_54 (by decide) ?_
        refine G.istore_n (L' := [some (.ref 74), some (.int (1 : Int32))]) dX12_fault_58 rfl (Nat.le_of_ble_eq_true rfl) (Nat.le_of_ble_eq_true rfl) rfl rfl ?_
        refine G.goto (tgt := 26) dX12_fault_59 (by decide) ?_
        have hf := Option.some.inj hf
        subst hf
        exact hK
    · have hf := ite_t hf c_11
      refine G.aload_n dX12_fault_37 rfl rfl ?_
      refine G.getI dX12_fault_38 flX12_102 (by decide) rfl ?_
      have hf := Option.some.inj hf
      subst hf
      exact G.iret' dX12_fault_41 rfl hK
theorem lX12_fault_26 (E : EV) (d : Nat) (rr : Option Value × Mem) (z : (Int32 × Mem)) (hK : (fun (z : Int32 × Mem) => (some (.int z.1), z.2) = rr) z) : ∀ (n : Nat) (q : (Int32 × Mem)), iter (sX12_fault_26) n q = some z → G E (d + 5) kX12_fault 26 [some (.ref 74), some (.int q.1)] [] q.2 rr := by
  intro n
  induction n with
  | zero => intro q h; cases h
  | succ n ih =>
    intro q h
    rcases iter_at h with ⟨q2, hs, h2⟩ | hs
    · exact wX12_fault_26 E d rr q.1 q.2 _ hs (ih q2 h2)
    · exact wX12_fault_26 E d rr q.1 q.2 _ hs hK
def fX12_fault (I : Mem) : Option (Int32 × Mem) :=
  letb (up2 I 74 5 (0 : Int32)) fun I_1 =>
  letb (up2 I_1 74 9 (0 : Int32)) fun I_2 =>
  letb (up2 I_2 74 10 (0 : Int32)) fun I_3 =>
  letb (up2 I_3 74 11 (0 : Int32)) fun I_4 =>
  bnd (fX12_token I_4) fun I_6 =>
  iter (sX12_fault_26) FU ((1 : Int32), I_6)
set_option maxRecDepth 20000 in
theorem gX12_fault (E : EV) (d : Nat) (I : Mem) {v : Int32} {J : Mem} (hf : fX12_fault I = some (v, J)) : Gm E (d + 5) kX12_fault [.ref 74] I (some (.int v), J) := by
  refine (fun (y : (Int32 × Mem)) (hf : fX12_fault I = some y) => (?_ : Gm E (d + 5) kX12_fault [.ref 74] I (some (.int y.1), y.2))) (v, J) hf
  refine Gm.of (by decide) rfl (Nat.le_of_ble_eq_true rfl) ?_
  generalize hrr : ((some (.int y.1), y.2) : Option Value × Mem) = rr
  show G E (d + 5) kX12_fault 0 [some (.ref 74), none] [] I rr
  have hK : (fun (z : Int32 × Mem) => (some (.int z.1), z.2) = rr) y := hrr
  clear hrr
  unfold fX12_fault at hf
  refine G.aload_n dX12_fault_0 rfl rfl ?_
  refine G.iconst (v := 0) dX12_fault_1 (by decide) ?_
  refine G.putI dX12_fault_2 flX12_99 (by decide) rfl ?_
  refine G.nmI (fun I_1 e_I_1 => ?_)
  have hf := letb_at hf e_I_1
  clear e_I_1
  refine G.aload_n dX12_fault_5 rfl rfl ?_
  refine G.iconst (v := 0) dX12_fault_6 (by decide) ?_
  refine G.putI dX12_fault_7 flX12_119 (by decide) rfl ?_
  refine G.nmI (fun I_2 e_I_2 => ?_)
  have hf := letb_at hf e_I_2
  clear e_I_2
  refine G.aload_n dX12_fault_10 rfl rfl ?_
  refine G.iconst (v := 0) dX12_fault_11 (by decide) ?_
  refine G.putI dX12_fault_12 flX12_125 (by decide) rfl ?_
  refine G.nmI (fun I_3 e_I_3 => ?_)
  have hf := letb_at hf e_I_3
  clear e_I_3
  refine G.aload_n dX12_fault_15 rfl rfl ?_
  refine G.iconst (v := 0) dX12_fault_16 (by decide) ?_
  refine G.putI dX12_fault_17 flX12_132 (by decide) rfl ?_
  refine G.nmI (fun I_4 e_I_4 => ?_)
  have hf := letb_at hf e_I_4
  clear e_I_4
  refine G.aload_n dX12_fault_20 rfl rfl ?_
  obtain ⟨I_6, hc_5, hf⟩ := bnd_at hf
  refine G.callVv (av := []) (rest := []) dX12_fault_21 mvX12_122 (gX12_token E (d + 3) I_4 hc_5) (by decide) rfl rfl rfl (Nat.le_of_ble_eq_true rfl) ?_
  refine G.iconst (v := 1) dX12_fault_24 (by decide) ?_
  refine G.istore_n (L' := [some (.ref 74), some (.int (1 : Int32))]) dX12_fault_25 rfl (Nat.le_of_ble_eq_true rfl) (Nat.le_of_ble_eq_true rfl) rfl rfl ?_
  exact lX12_fault_26 E d rr _ hK FU _ hf
theorem dX12_tell_0 : decode cX12_tell 0 = .ok (.aload_n 0, 1) := by decide +kernel
theorem dX12_tell_1 : decode cX12_tell 1 = .ok (.getfield 23, 3) := by decide +kernel
theorem dX12_tell_4 : decode cX12_tell 4 = .ok (.iload_n 1, 1) := by decide +kernel
theorem dX12_tell_5 : decode cX12_tell 5 = .ok (.iconst 1, 1) := by decide +kernel
theorem dX12_tell_6 : decode cX12_tell 6 = .ok (.iadd, 1) := by decide +kernel
theorem dX12_tell_7 : decode cX12_tell 7 = .ok (.iaload, 1) := by decide +kernel
theorem dX12_tell_8 : decode cX12_tell 8 = .ok (.istore_n 2, 1) := by decide +kernel
theorem dX12_tell_9 : decode cX12_tell 9 = .ok (.aload_n 0, 1) := by decide +kernel
theorem dX12_tell_10 : decode cX12_tell 10 = .ok (.getfield 23, 3) := by decide +kernel
theorem dX12_tell_13 : decode cX12_tell 13 = .ok (.iload_n 1, 1) := by decide +kernel
theorem dX12_tell_14 : decode cX12_tell 14 = .ok (.iconst 2, 1) := by decide +kernel
theorem dX12_tell_15 : decode cX12_tell 15 = .ok (.iadd, 1) := by decide +kernel
theorem dX12_tell_16 : decode cX12_tell 16 = .ok (.iaload, 1) := by decide +kernel
theorem dX12_tell_17 : decode cX12_tell 17 = .ok (.istore_n 3, 1) := by decide +kernel
theorem dX12_tell_18 : decode cX12_tell 18 = .ok (.aload_n 0, 1) := by decide +kernel
theorem dX12_tell_19 : decode cX12_tell 19 = .ok (.getfield 23, 3) := by decide +kernel
theorem dX12_tell_22 : decode cX12_tell 22 = .ok (.iload_n 1, 1) := by decide +kernel
theorem dX12_tell_23 : decode cX12_tell 23 = .ok (.iaload, 1) := by decide +kernel
theorem dX12_tell_24 : decode cX12_tell 24 = .ok (.tableswitch 109 0 5 #[40, 46, 54, 67, 78, 85], 40) := by decide +kernel
theorem dX12_tell_64 : decode cX12_tell 64 = .ok (.aload_n 0, 1) := by decide +kernel
theorem dX12_tell_65 : decode cX12_tell 65 = .ok (.iload_n 2, 1) := by decide +kernel
theorem dX12_tell_66 : decode cX12_tell 66 = .ok (.invokevirtual 45, 3) := by decide +kernel
theorem dX12_tell_69 : decode cX12_tell 69 = .ok (.return_, 1) := by decide +kernel
theorem dX12_tell_70 : decode cX12_tell 70 = .ok (.aload_n 0, 1) := by decide +kernel
theorem dX12_tell_71 : decode cX12_tell 71 = .ok (.iload_n 2, 1) := by decide +kernel
theorem dX12_tell_72 : decode cX12_tell 72 = .ok (.iload_n 3, 1) := by decide +kernel
theorem dX12_tell_73 : decode cX12_tell 73 = .ok (.iconst 1, 1) := by decide +kernel
theorem dX12_tell_74 : decode cX12_tell 74 = .ok (.invokevirtual 75, 3) := by decide +kernel
theorem dX12_tell_77 : decode cX12_tell 77 = .ok (.return_, 1) := by decide +kernel
theorem dX12_tell_78 : decode cX12_tell 78 = .ok (.aload_n 0, 1) := by decide +kernel
theorem dX12_tell_79 : decode cX12_tell 79 = .ok (.getfield 7, 3) := by decide +kernel
theorem dX12_tell_82 : decode cX12_tell 82 = .ok (.iconst 4, 1) := by decide +kernel
theorem dX12_tell_83 : decode cX12_tell 83 = .ok (.dup2, 1) := by decide +kernel
theorem dX12_tell_84 : decode cX12_tell 84 = .ok (.iaload, 1) := by decide +kernel
theorem dX12_tell_85 : decode cX12_tell 85 = .ok (.iconst 1, 1) := by decide +kernel
theorem dX12_tell_86 : decode cX12_tell 86 = .ok (.iload_n 2, 1) := by decide +kernel
theorem dX12_tell_87 : decode cX12_tell 87 = .ok (.ishl, 1) := by decide +kernel
theorem dX12_tell_88 : decode cX12_tell 88 = .ok (.ior, 1) := by decide +kernel
theorem dX12_tell_89 : decode cX12_tell 89 = .ok (.iastore, 1) := by decide +kernel
theorem dX12_tell_90 : decode cX12_tell 90 = .ok (.return_, 1) := by decide +kernel
theorem dX12_tell_91 : decode cX12_tell 91 = .ok (.aload_n 0, 1) := by decide +kernel
theorem dX12_tell_92 : decode cX12_tell 92 = .ok (.getfield 7, 3) := by decide +kernel
theorem dX12_tell_95 : decode cX12_tell 95 = .ok (.bipush 10, 2) := by decide +kernel
theorem dX12_tell_97 : decode cX12_tell 97 = .ok (.iload_n 2, 1) := by decide +kernel
theorem dX12_tell_98 : decode cX12_tell 98 = .ok (.iadd, 1) := by decide +kernel
theorem dX12_tell_99 : decode cX12_tell 99 = .ok (.iload_n 3, 1) := by decide +kernel
theorem dX12_tell_100 : decode cX12_tell 100 = .ok (.iastore, 1) := by decide +kernel
theorem dX12_tell_101 : decode cX12_tell 101 = .ok (.return_, 1) := by decide +kernel
theorem dX12_tell_102 : decode cX12_tell 102 = .ok (.aload_n 0, 1) := by decide +kernel
theorem dX12_tell_103 : decode cX12_tell 103 = .ok (.iload_n 2, 1) := by decide +kernel
theorem dX12_tell_104 : decode cX12_tell 104 = .ok (.invokevirtual 84, 3) := by decide +kernel
theorem dX12_tell_107 : decode cX12_tell 107 = .ok (.pop, 1) := by decide +kernel
theorem dX12_tell_108 : decode cX12_tell 108 = .ok (.return_, 1) := by decide +kernel
theorem dX12_tell_109 : decode cX12_tell 109 = .ok (.aload_n 0, 1) := by decide +kernel
theorem dX12_tell_110 : decode cX12_tell 110 = .ok (.getfield 7, 3) := by decide +kernel
theorem dX12_tell_113 : decode cX12_tell 113 = .ok (.bipush 28, 2) := by decide +kernel
theorem dX12_tell_115 : decode cX12_tell 115 = .ok (.iconst 4, 1) := by decide +kernel
theorem dX12_tell_116 : decode cX12_tell 116 = .ok (.iload_n 2, 1) := by decide +kernel
theorem dX12_tell_117 : decode cX12_tell 117 = .ok (.imul, 1) := by decide +kernel
theorem dX12_tell_118 : decode cX12_tell 118 = .ok (.iadd, 1) := by decide +kernel
theorem dX12_tell_119 : decode cX12_tell 119 = .ok (.iload_n 3, 1) := by decide +kernel
theorem dX12_tell_120 : decode cX12_tell 120 = .ok (.iadd, 1) := by decide +kernel
theorem dX12_tell_121 : decode cX12_tell 121 = .ok (.iconst 1, 1) := by decide +kernel
theorem dX12_tell_122 : decode cX12_tell 122 = .ok (.isub, 1) := by decide +kernel
theorem dX12_tell_123 : decode cX12_tell 123 = .ok (.aload_n 0, 1) := by decide +kernel
theorem dX12_tell_124 : decode cX12_tell 124 = .ok (.getfield 23, 3) := by decide +kernel
theorem dX12_tell_127 : decode cX12_tell 127 = .ok (.iload_n 1, 1) := by decide +kernel
theorem dX12_tell_128 : decode cX12_tell 128 = .ok (.iconst 3, 1) := by decide +kernel
theorem dX12_tell_129 : decode cX12_tell 129 = .ok (.iadd, 1) := by decide +kernel
theorem dX12_tell_130 : decode cX12_tell 130 = .ok (.iaload, 1) := by decide +kernel
theorem dX12_tell_131 : decode cX12_tell 131 = .ok (.iastore, 1) := by decide +kernel
theorem dX12_tell_132 : decode cX12_tell 132 = .ok (.return_, 1) := by decide +kernel
theorem dX12_tell_133 : decode cX12_tell 133 = .ok (.aload_n 0, 1) := by decide +kernel
theorem dX12_tell_134 : decode cX12_tell 134 = .ok (.getfield 7, 3) := by decide +kernel
theorem dX12_tell_137 : decode cX12_tell 137 = .ok (.iconst 1, 1) := by decide +kernel
theorem dX12_tell_138 : decode cX12_tell 138 = .ok (.iload_n 2, 1) := by decide +kernel
theorem dX12_tell_139 : decode cX12_tell 139 = .ok (.iastore, 1) := by decide +kernel
theorem dX12_tell_140 : decode cX12_tell 140 = .ok (.return_, 1) := by decide +kernel
def fX12_tell (x1 : Int32) (I : Mem) : Option Mem :=
  chk (inb (x1 + (1 : Int32)) 400) <|
  letb (I 79 (ix (x1 + (1 : Int32)))) fun x2_2 =>
  chk (inb (x1 + (2 : Int32)) 400) <|
  letb (I 79 (ix (x1 + (2 : Int32)))) fun x3_4 =>
  chk (inb x1 400) <|
  if (I 79 (ix x1)) = 0 then
  (bnd (fX12_clearAll x2_2 I) fun I_8 =>
  some I_8)
  else
  (if (I 79 (ix x1)) = 1 then
  (bnd (fX12_layDoor x2_2 x3_4 (1 : Int32) I) fun I_11 =>
  some I_11)
  else
  (if (I 79 (ix x1)) = 2 then
  (chk (inb (4 : Int32) 632) <|
  chk (inb (4 : Int32) 632) <|
  letb (up2 I 75 (ix (4 : Int32)) ((I 75 (ix (4 : Int32))) ||| ((1 : Int32) <<< (x2_2 &&& 31)))) fun I_15 =>
  some I_15)
  else
  (if (I 79 (ix x1)) = 3 then
  (chk (inb ((10 : Int32) + x2_2) 632) <|
  letb (up2 I 75 (ix ((10 : Int32) + x2_2)) x3_4) fun I_18 =>
  some I_18)
  else
  (if (I 79 (ix x1)) = 4 then
  (bnd2 (fX12_addPerson x2_2 I) fun v_21 I_22 =>
  some I_22)
  else
  (if (I 79 (ix x1)) = 5 then
  (chk (inb (x1 + (3 : Int32)) 400) <|
  chk (inb ((((28 : Int32) + ((4 : Int32) * x2_2)) + x3_4) - (1 : Int32)) 632) <|
  letb (up2 I 75 (ix ((((28 : Int32) + ((4 : Int32) * x2_2)) + x3_4) - (1 : Int32))) (I 79 (ix (x1 + (3 : Int32))))) fun I_26 =>
  some I_26)
  else
  (chk (inb (1 : Int32) 632) <|
  letb (up2 I 75 (ix (1 : Int32)) x2_2) fun I_28 =>
  some I_28))))))
set_option maxRecDepth 20000 in
theorem gX12_tell (E : EV) (d : Nat) (x1 : Int32) (I : Mem) {J : Mem} (hf : fX12_tell x1 I = some J) : Gm E (d + 2) kX12_tell [.ref 74, .int x1] I (none, J) := by
  refine (fun (y : Mem) (hf : fX12_tell x1 I = some y) => (?_ : Gm E (d + 2) kX12_tell [.ref 74, .int x1] I (none, y))) J hf
  refine Gm.of (by decide) rfl (Nat.le_of_ble_eq_true rfl) ?_
  generalize hrr : ((none, y) : Option Value × Mem) = rr
  show G E (d + 2) kX12_tell 0 [some (.ref 74), some (.int x1), none, none] [] I rr
  have hK : (fun (z : Mem) => ((none : Option Value), z) = rr) y := hrr
  clear hrr
  unfold fX12_tell at hf
  refine G.aload_n dX12_tell_0 rfl rfl ?_
  refine G.getR (q := 79) dX12_tell_1 flX12_23 (by decide) rfl rfl ?_
  refine G.iload_n dX12_tell_4 rfl rfl ?_
  refine G.iconst (v := 1) dX12_tell_5 (by decide) ?_
  refine G.iadd dX12_tell_6 ?_
  obtain ⟨hi_1, hf⟩ := chk_at hf
  refine G.iald' dX12_tell_7 (by decide) rfl rfl hi_1 ?_
  refine G.nmi (fun x2_2 e_x2_2 => ?_)
  have hf := letb_at hf e_x2_2
  clear e_x2_2
  refine G.istore_n (L' := [some (.ref 74), some (.int x1), some (.int x2_2), none]) dX12_tell_8 rfl (Nat.le_of_ble_eq_true rfl) (Nat.le_of_ble_eq_true rfl) rfl rfl ?_
  refine G.aload_n dX12_tell_9 rfl rfl ?_
  refine G.getR (q := 79) dX12_tell_10 flX12_23 (by decide) rfl rfl ?_
  refine G.iload_n dX12_tell_13 rfl rfl ?_
  refine G.iconst (v := 2) dX12_tell_14 (by decide) ?_
  refine G.iadd dX12_tell_15 ?_
  obtain ⟨hi_3, hf⟩ := chk_at hf
  refine G.iald' dX12_tell_16 (by decide) rfl rfl hi_3 ?_
  refine G.nmi (fun x3_4 e_x3_4 => ?_)
  have hf := letb_at hf e_x3_4
  clear e_x3_4
  refine G.istore_n (L' := [some (.ref 74), some (.int x1), some (.int x2_2), some (.int x3_4)]) dX12_tell_17 rfl (Nat.le_of_ble_eq_true rfl) (Nat.le_of_ble_eq_true rfl) rfl rfl ?_
  refine G.aload_n dX12_tell_18 rfl rfl ?_
  refine G.getR (q := 79) dX12_tell_19 flX12_23 (by decide) rfl rfl ?_
  refine G.iload_n dX12_tell_22 rfl rfl ?_
  obtain ⟨hi_5, hf⟩ := chk_at hf
  refine G.iald' dX12_tell_23 (by decide) rfl rfl hi_5 ?_
  by_cases c_6 : (I 79 (ix x1)) = 0
  · have hf := ite_t hf c_6
    refine G.tsw_at (j := 0) (tgt := 64) dX12_tell_24 c_6 (by decide) (by decide) rfl (by decide) ?_
    refine G.aload_n dX12_tell_64 rfl rfl ?_
    refine G.iload_n dX12_tell_65 rfl rfl ?_
    obtain ⟨I_8, hc_7, hf⟩ := bnd_at hf
    refine G.callVv (av := [.int x2_2]) (rest := []) dX12_tell_66 mvX12_45 (gX12_clearAll E d x2_2 I hc_7) (by decide) rfl rfl rfl (Nat.le_of_ble_eq_true rfl) ?_
    have hf := Option.some.inj hf
    subst hf
    exact G.vret' dX12_tell_69 rfl hK
  · have hf := ite_f hf c_6
    by_cases c_9 : (I 79 (ix x1)) = 1
    · have hf := ite_t hf c_9
      refine G.tsw_at (j := 1) (tgt := 70) dX12_tell_24 c_9 (by decide) (by decide) rfl (by decide) ?_
      refine G.aload_n dX12_tell_70 rfl rfl ?_
      refine G.iload_n dX12_tell_71 rfl rfl ?_
      refine G.iload_n dX12_tell_72 rfl rfl ?_
      refine G.iconst (v := 1) dX12_tell_73 (by decide) ?_
      obtain ⟨I_11, hc_10, hf⟩ := bnd_at hf
      refine G.callVv (av := [.int x2_2, .int x3_4, .int (1 : Int32)]) (rest := []) dX12_tell_74 mvX12_75 (gX12_layDoor E (d + 1) x2_2 x3_4 (1 : Int32) I hc_10) (by decide) rfl rfl rfl (Nat.le_of_ble_eq_true rfl) ?_
      have hf := Option.some.inj hf
      subst hf
      exact G.vret' dX12_tell_77 rfl hK
    · have hf := ite_f hf c_9
      by_cases c_12 : (I 79 (ix x1)) = 2
      · have hf := ite_t hf c_12
        refine G.tsw_at (j := 2) (tgt := 78) dX12_tell_24 c_12 (by decide) (by decide) rfl (by decide) ?_
        refine G.aload_n dX12_tell_78 rfl rfl ?_
        refine G.getR (q := 75) dX12_tell_79 flX12_7 (by decide) rfl rfl ?_
        refine G.iconst (v := 4) dX12_tell_82 (by decide) ?_
        refine G.dup2 dX12_tell_83 rfl rfl ?_
        obtain ⟨hi_13, hf⟩ := chk_at hf
        refine G.iald' dX12_tell_84 (by decide) rfl rfl hi_13 ?_
        refine G.iconst (v := 1) dX12_tell_85 (by decide) ?_
        refine G.iload_n dX12_tell_86 rfl rfl ?_
        refine G.ishl dX12_tell_87 ?_
        refine G.ior dX12_tell_88 ?_
        obtain ⟨hi_14, hf⟩ := chk_at hf
        refine G.iast' dX12_tell_89 (by decide) rfl rfl hi_14 ?_
        refine G.nmI (fun I_15 e_I_15 => ?_)
        have hf := letb_at hf e_I_15
        clear e_I_15
        have hf := Option.some.inj hf
        subst hf
        exact G.vret' dX12_tell_90 rfl hK
      · have hf := ite_f hf c_12
        by_cases c_16 : (I 79 (ix x1)) = 3
        · have hf := ite_t hf c_16
          refine G.tsw_at (j := 3) (tgt := 91) dX12_tell_24 c_16 (by decide) (by decide) rfl (by decide) ?_
          refine G.aload_n dX12_tell_91 rfl rfl ?_
          refine G.getR (q := 75) dX12_tell_92 flX12_7 (by decide) rfl rfl ?_
          refine G.bipush (v := 10) dX12_tell_95 (by decide) ?_
          refine G.iload_n dX12_tell_97 rfl rfl ?_
          refine G.iadd dX12_tell_98 ?_
          refine G.iload_n dX12_tell_99 rfl rfl ?_
          obtain ⟨hi_17, hf⟩ := chk_at hf
          refine G.iast' dX12_tell_100 (by decide) rfl rfl hi_17 ?_
          refine G.nmI (fun I_18 e_I_18 => ?_)
          have hf := letb_at hf e_I_18
          clear e_I_18
          have hf := Option.some.inj hf
          subst hf
          exact G.vret' dX12_tell_101 rfl hK
        · have hf := ite_f hf c_16
          by_cases c_19 : (I 79 (ix x1)) = 4
          · have hf := ite_t hf c_19
            refine G.tsw_at (j := 4) (tgt := 102) dX12_tell_24 c_19 (by decide) (by decide) rfl (by decide) ?_
            refine G.aload_n dX12_tell_102 rfl rfl ?_
            refine G.iload_n dX12_tell_103 rfl rfl ?_
            obtain ⟨v_21, I_22, hc_20, hf⟩ := bnd2_at hf
            refine G.callVi (av := [.int x2_2]) (rest := []) dX12_tell_104 mvX12_84 (gX12_addPerson E (d + 1) x2_2 I hc_20) (by decide) rfl rfl rfl (Nat.le_of_ble_eq_true rfl) ?_
            refine G.pop dX12_tell_107 rfl ?_
            have hf := Option.some.inj hf
            subst hf
            exact G.vret' dX12_tell_108 rfl hK
          · have hf := ite_f hf c_19
            by_cases c_23 : (I 79 (ix x1)) = 5
            · have hf := ite_t hf c_23
              refine G.tsw_at (j := 5) (tgt := 109) dX12_tell_24 c_23 (by decide) (by decide) rfl (by decide) ?_
              refine G.aload_n dX12_tell_109 rfl rfl ?_
              refine G.getR (q := 75) dX12_tell_110 flX12_7 (by decide) rfl rfl ?_
              refine G.bipush (v := 28) dX12_tell_113 (by decide) ?_
              refine G.iconst (v := 4) dX12_tell_115 (by decide) ?_
              refine G.iload_n dX12_tell_116 rfl rfl ?_
              refine G.imul dX12_tell_117 ?_
              refine G.iadd dX12_tell_118 ?_
              refine G.iload_n dX12_tell_119 rfl rfl ?_
              refine G.iadd dX12_tell_120 ?_
              refine G.iconst (v := 1) dX12_tell_121 (by decide) ?_
              refine G.isub dX12_tell_122 ?_
              refine G.aload_n dX12_tell_123 rfl rfl ?_
              refine G.getR (q := 79) dX12_tell_124 flX12_23 (by decide) rfl rfl ?_
              refine G.iload_n dX12_tell_127 rfl rfl ?_
              refine G.iconst (v := 3) dX12_tell_128 (by decide) ?_
              refine G.iadd dX12_tell_129 ?_
              obtain ⟨hi_24, hf⟩ := chk_at hf
              refine G.iald' dX12_tell_130 (by decide) rfl rfl hi_24 ?_
              obtain ⟨hi_25, hf⟩ := chk_at hf
              refine G.iast' dX12_tell_131 (by decide) rfl rfl hi_25 ?_
              refine G.nmI (fun I_26 e_I_26 => ?_)
              have hf := letb_at hf e_I_26
              clear e_I_26
              have hf := Option.some.inj hf
              subst hf
              exact G.vret' dX12_tell_132 rfl hK
            · have hf := ite_f hf c_23
              refine G.tsw_out (tgt := 133) dX12_tell_24 (by have q0 := lv_neT (a := 0) c_6 rfl; have q1 := lv_neT (a := 1) c_9 rfl; have q2 := lv_neT (a := 2) c_12 rfl; have q3 := lv_neT (a := 3) c_16 rfl; have q4 := lv_neT (a := 4) c_19 rfl; have q5 := lv_neT (a := 5) c_23 rfl; omega) (by decide) ?_
              refine G.aload_n dX12_tell_133 rfl rfl ?_
              refine G.getR (q := 75) dX12_tell_134 flX12_7 (by decide) rfl rfl ?_
              refine G.iconst (v := 1) dX12_tell_137 (by decide) ?_
              refine G.iload_n dX12_tell_138 rfl rfl ?_
              obtain ⟨hi_27, hf⟩ := chk_at hf
              refine G.iast' dX12_tell_139 (by decide) rfl rfl hi_27 ?_
              refine G.nmI (fun I_28 e_I_28 => ?_)
              have hf := letb_at hf e_I_28
              clear e_I_28
              have hf := Option.some.inj hf
              subst hf
              exact G.vret' dX12_tell_140 rfl hK
theorem dX12_read_0 : decode cX12_read 0 = .ok (.aload_n 0, 1) := by decide +kernel
theorem dX12_read_1 : decode cX12_read 1 = .ok (.invokevirtual 145, 3) := by decide +kernel
theorem dX12_read_4 : decode cX12_read 4 = .ok (.istore_n 1, 1) := by decide +kernel
theorem dX12_read_5 : decode cX12_read 5 = .ok (.iload_n 1, 1) := by decide +kernel
theorem dX12_read_6 : decode cX12_read 6 = .ok (.iconst (-1), 1) := by decide +kernel
theorem dX12_read_7 : decode cX12_read 7 = .ok (.if_icmp .eq 8, 3) := by decide +kernel
theorem dX12_read_10 : decode cX12_read 10 = .ok (.bipush (-10), 2) := by decide +kernel
theorem dX12_read_12 : decode cX12_read 12 = .ok (.iload_n 1, 1) := by decide +kernel
theorem dX12_read_13 : decode cX12_read 13 = .ok (.isub, 1) := by decide +kernel
theorem dX12_read_14 : decode cX12_read 14 = .ok (.ireturn, 1) := by decide +kernel
theorem dX12_read_15 : decode cX12_read 15 = .ok (.iconst 0, 1) := by decide +kernel
theorem dX12_read_16 : decode cX12_read 16 = .ok (.istore_n 2, 1) := by decide +kernel
theorem dX12_read_17 : decode cX12_read 17 = .ok (.iload_n 2, 1) := by decide +kernel
theorem dX12_read_18 : decode cX12_read 18 = .ok (.aload_n 0, 1) := by decide +kernel
theorem dX12_read_19 : decode cX12_read 19 = .ok (.getfield 119, 3) := by decide +kernel
theorem dX12_read_22 : decode cX12_read 22 = .ok (.if_icmp .ge 16, 3) := by decide +kernel
theorem dX12_read_25 : decode cX12_read 25 = .ok (.aload_n 0, 1) := by decide +kernel
theorem dX12_read_26 : decode cX12_read 26 = .ok (.iconst 4, 1) := by decide +kernel
theorem dX12_read_27 : decode cX12_read 27 = .ok (.iload_n 2, 1) := by decide +kernel
theorem dX12_read_28 : decode cX12_read 28 = .ok (.imul, 1) := by decide +kernel
theorem dX12_read_29 : decode cX12_read 29 = .ok (.invokevirtual 148, 3) := by decide +kernel
theorem dX12_read_32 : decode cX12_read 32 = .ok (.iinc 2 1, 3) := by decide +kernel
theorem dX12_read_35 : decode cX12_read 35 = .ok (.goto (-18), 3) := by decide +kernel
theorem dX12_read_38 : decode cX12_read 38 = .ok (.aload_n 0, 1) := by decide +kernel
theorem dX12_read_39 : decode cX12_read 39 = .ok (.getfield 7, 3) := by decide +kernel
theorem dX12_read_42 : decode cX12_read 42 = .ok (.iconst 3, 1) := by decide +kernel
theorem dX12_read_43 : decode cX12_read 43 = .ok (.iaload, 1) := by decide +kernel
theorem dX12_read_44 : decode cX12_read 44 = .ok (.ireturn, 1) := by decide +kernel
def KX12_read_17 (E : EV) (d : Nat) (rr : Option Value × Mem) (Kp : (Int32 × Mem) → Prop) : ((Int32 × Mem) ⊕ (Int32 × Mem)) → Prop
  | .inl q => G E (d + 6) kX12_read 17 [some (.ref 74), none, some (.int q.1)] [] q.2 rr
  | .inr z => Kp z
def bX12_read_17 (x2 : Int32) (I : Mem) : Option ((Int32 × Mem) ⊕ (Int32 × Mem)) :=
  if (I 74 9) ≤ x2 then
  (chk (inb (3 : Int32) 632) <|
  some (.inr ((I 75 (ix (3 : Int32))), I)))
  else
  (bnd (fX12_tell ((4 : Int32) * x2) I) fun I_6 =>
  some (.inl ((x2 + (1 : Int32)), I_6)))
def sX12_read_17 (q : (Int32 × Mem)) : Option ((Int32 × Mem) ⊕ (Int32 × Mem)) := bX12_read_17 q.1 q.2
set_option maxRecDepth 20000 in
theorem wX12_read_17 (E : EV) (d : Nat) (rr : Option Value × Mem) (x2 : Int32) (I : Mem) (y : ((Int32 × Mem) ⊕ (Int32 × Mem))) (hf : bX12_read_17 x2 I = some y) (hK : (KX12_read_17 E d rr  (fun (z : Int32 × Mem) => (some (.int z.1), z.2) = rr)) y) : G E (d + 6) kX12_read 17 [some (.ref 74), none, some (.int x2)] [] I rr := by
  unfold bX12_read_17 at hf
  refine G.iload_n dX12_read_17 rfl rfl ?_
  refine G.aload_n dX12_read_18 rfl rfl ?_
  refine G.getI dX12_read_19 flX12_119 (by decide) rfl ?_
  refine G.icmp_ge (tgt := 38) dX12_read_22 (by decide) (fun c_7 => ?_) (fun c_7 => ?_)
  · have hf := ite_t hf c_7
    refine G.aload_n dX12_read_38 rfl rfl ?_
    refine G.getR (q := 75) dX12_read_39 flX12_7 (by decide) rfl rfl ?_
    refine G.iconst (v := 3) dX12_read_42 (by decide) ?_
    obtain ⟨hi_4, hf⟩ := chk_at hf
    refine G.iald' dX12_read_43 (by decide) rfl rfl hi_4 ?_
    have hf := Option.some.inj hf
    subst hf
    exact G.iret' dX12_read_44 rfl hK
  · have hf := ite_f hf c_7
    refine G.aload_n dX12_read_25 rfl rfl ?_
    refine G.iconst (v := 4) dX12_read_26 (by decide) ?_
    refine G.iload_n dX12_read_27 rfl rfl ?_
    refine G.imul dX12_read_28 ?_
    obtain ⟨I_6, hc_5, hf⟩ := bnd_at hf
    refine G.callVv (av := [.int ((4 : Int32) * x2)]) (rest := []) dX12_read_29 mvX12_148 (gX12_tell E (d + 3) ((4 : Int32) * x2) I hc_5) (by decide) rfl rfl rfl (Nat.le_of_ble_eq_true rfl) ?_
    refine G.inc (w := 1) (L' := [some (.ref 74), none, some (.int (x2 + (1 : Int32)))]) dX12_read_32 (by decide) rfl (Nat.le_of_ble_eq_true rfl) rfl rfl ?_
    refine G.goto (tgt := 17) dX12_read_35 (by decide) ?_
    have hf := Option.some.inj hf
    subst hf
    exact hK
theorem lX12_read_17 (E : EV) (d : Nat) (rr : Option Value × Mem) (z : (Int32 × Mem)) (hK : (fun (z : Int32 × Mem) => (some (.int z.1), z.2) = rr) z) : ∀ (n : Nat) (q : (Int32 × Mem)), iter (sX12_read_17) n q = some z → G E (d + 6) kX12_read 17 [some (.ref 74), none, some (.int q.1)] [] q.2 rr := by
  intro n
  induction n with
  | zero => intro q h; cases h
  | succ n ih =>
    intro q h
    rcases iter_at h with ⟨q2, hs, h2⟩ | hs
    · exact wX12_read_17 E d rr q.1 q.2 _ hs (ih q2 h2)
    · exact wX12_read_17 E d rr q.1 q.2 _ hs hK
def fX12_read (I : Mem) : Option (Int32 × Mem) :=
  bnd2 (fX12_fault I) fun v_2 I_3 =>
  if v_2 = (-1 : Int32) then
  (iter (sX12_read_17) FU ((0 : Int32), I_3))
  else
  (some (((-10 : Int32) - v_2), I_3))
set_option maxRecDepth 20000 in
theorem gX12_read (E : EV) (d : Nat) (I : Mem) {v : Int32} {J : Mem} (hf : fX12_read I = some (v, J)) : Gm E (d + 6) kX12_read [.ref 74] I (some (.int v), J) := by
  refine (fun (y : (Int32 × Mem)) (hf : fX12_read I = some y) => (?_ : Gm E (d + 6) kX12_read [.ref 74] I (some (.int y.1), y.2))) (v, J) hf
  refine Gm.of (by decide) rfl (Nat.le_of_ble_eq_true rfl) ?_
  generalize hrr : ((some (.int y.1), y.2) : Option Value × Mem) = rr
  show G E (d + 6) kX12_read 0 [some (.ref 74), none, none] [] I rr
  have hK : (fun (z : Int32 × Mem) => (some (.int z.1), z.2) = rr) y := hrr
  clear hrr
  unfold fX12_read at hf
  refine G.aload_n dX12_read_0 rfl rfl ?_
  obtain ⟨v_2, I_3, hc_1, hf⟩ := bnd2_at hf
  refine G.callVi (av := []) (rest := []) dX12_read_1 mvX12_145 (gX12_fault E d I hc_1) (by decide) rfl rfl rfl (Nat.le_of_ble_eq_true rfl) ?_
  refine G.istore_n (L' := [some (.ref 74), some (.int v_2), none]) dX12_read_4 rfl (Nat.le_of_ble_eq_true rfl) (Nat.le_of_ble_eq_true rfl) rfl rfl ?_
  refine G.iload_n dX12_read_5 rfl rfl ?_
  refine G.iconst (v := -1) dX12_read_6 (by decide) ?_
  refine G.icmp_eq (tgt := 15) dX12_read_7 (by decide) (fun c_8 => ?_) (fun c_8 => ?_)
  · have hf := ite_t hf c_8
    refine G.iconst (v := 0) dX12_read_15 (by decide) ?_
    refine G.istore_n (L' := [some (.ref 74), some (.int v_2), some (.int (0 : Int32))]) dX12_read_16 rfl (Nat.le_of_ble_eq_true rfl) (Nat.le_of_ble_eq_true rfl) rfl rfl ?_
    refine G.forget (L' := [some (.ref 74), none, some (.int (0 : Int32))]) [1] rfl ?_
    exact lX12_read_17 E d rr _ hK FU _ hf
  · have hf := ite_f hf c_8
    refine G.bipush (v := -10) dX12_read_10 (by decide) ?_
    refine G.iload_n dX12_read_12 rfl rfl ?_
    refine G.isub dX12_read_13 ?_
    have hf := Option.some.inj hf
    subst hf
    exact G.iret' dX12_read_14 rfl hK
theorem dX12_roomIn_0 : decode cX12_roomIn 0 = .ok (.iload_n 0, 1) := by decide +kernel
theorem dX12_roomIn_1 : decode cX12_roomIn 1 = .ok (.iconst 3, 1) := by decide +kernel
theorem dX12_roomIn_2 : decode cX12_roomIn 2 = .ok (.iload_n 1, 1) := by decide +kernel
theorem dX12_roomIn_3 : decode cX12_roomIn 3 = .ok (.imul, 1) := by decide +kernel
theorem dX12_roomIn_4 : decode cX12_roomIn 4 = .ok (.ishr, 1) := by decide +kernel
theorem dX12_roomIn_5 : decode cX12_roomIn 5 = .ok (.bipush 7, 2) := by decide +kernel
theorem dX12_roomIn_7 : decode cX12_roomIn 7 = .ok (.iand, 1) := by decide +kernel
theorem dX12_roomIn_8 : decode cX12_roomIn 8 = .ok (.ireturn, 1) := by decide +kernel
def fX12_roomIn (x0 : Int32) (x1 : Int32) (I : Mem) : Option Int32 :=
  some ((x0 >>> (((3 : Int32) * x1) &&& 31)) &&& (7 : Int32))
set_option maxRecDepth 20000 in
theorem gX12_roomIn (E : EV) (d : Nat) (x0 : Int32) (x1 : Int32) (I : Mem) {v : Int32} (hf : fX12_roomIn x0 x1 I = some v) : Gm E (d + 0) kX12_roomIn [.int x0, .int x1] I (some (.int v), I) := by
  refine (fun (y : Int32) (hf : fX12_roomIn x0 x1 I = some y) => (?_ : Gm E (d + 0) kX12_roomIn [.int x0, .int x1] I (some (.int y), I))) v hf
  refine Gm.of (by decide) rfl (Nat.le_of_ble_eq_true rfl) ?_
  generalize hrr : ((some (.int y), I) : Option Value × Mem) = rr
  show G E (d + 0) kX12_roomIn 0 [some (.int x0), some (.int x1)] [] I rr
  have hK : (fun (z : Int32) => (some (.int z), I) = rr) y := hrr
  clear hrr
  unfold fX12_roomIn at hf
  refine G.iload_n dX12_roomIn_0 rfl rfl ?_
  refine G.iconst (v := 3) dX12_roomIn_1 (by decide) ?_
  refine G.iload_n dX12_roomIn_2 rfl rfl ?_
  refine G.imul dX12_roomIn_3 ?_
  refine G.ishr dX12_roomIn_4 ?_
  refine G.bipush (v := 7) dX12_roomIn_5 (by decide) ?_
  refine G.iand dX12_roomIn_7 ?_
  have hf := Option.some.inj hf
  subst hf
  exact G.iret' dX12_roomIn_8 rfl hK
theorem dX12_isStanding_0 : decode cX12_isStanding 0 = .ok (.iload_n 1, 1) := by decide +kernel
theorem dX12_isStanding_1 : decode cX12_isStanding 1 = .ok (.i2l, 1) := by decide +kernel
theorem dX12_isStanding_2 : decode cX12_isStanding 2 = .ok (.lconst 0, 1) := by decide +kernel
theorem dX12_isStanding_3 : decode cX12_isStanding 3 = .ok (.iconst 1, 1) := by decide +kernel
theorem dX12_isStanding_4 : decode cX12_isStanding 4 = .ok (.iconst 3, 1) := by decide +kernel
theorem dX12_isStanding_5 : decode cX12_isStanding 5 = .ok (.aload_n 0, 1) := by decide +kernel
theorem dX12_isStanding_6 : decode cX12_isStanding 6 = .ok (.getfield 7, 3) := by decide +kernel
theorem dX12_isStanding_9 : decode cX12_isStanding 9 = .ok (.iconst 3, 1) := by decide +kernel
theorem dX12_isStanding_10 : decode cX12_isStanding 10 = .ok (.iaload, 1) := by decide +kernel
theorem dX12_isStanding_11 : decode cX12_isStanding 11 = .ok (.imul, 1) := by decide +kernel
theorem dX12_isStanding_12 : decode cX12_isStanding 12 = .ok (.ishl, 1) := by decide +kernel
theorem dX12_isStanding_13 : decode cX12_isStanding 13 = .ok (.iconst 1, 1) := by decide +kernel
theorem dX12_isStanding_14 : decode cX12_isStanding 14 = .ok (.isub, 1) := by decide +kernel
theorem dX12_isStanding_15 : decode cX12_isStanding 15 = .ok (.i2l, 1) := by decide +kernel
theorem dX12_isStanding_16 : decode cX12_isStanding 16 = .ok (.invokestatic 49, 3) := by decide +kernel
theorem dX12_isStanding_19 : decode cX12_isStanding 19 = .ok (.istore_n 2, 1) := by decide +kernel
theorem dX12_isStanding_20 : decode cX12_isStanding 20 = .ok (.iconst 0, 1) := by decide +kernel
theorem dX12_isStanding_21 : decode cX12_isStanding 21 = .ok (.istore_n 3, 1) := by decide +kernel
theorem dX12_isStanding_22 : decode cX12_isStanding 22 = .ok (.iload_n 3, 1) := by decide +kernel
theorem dX12_isStanding_23 : decode cX12_isStanding 23 = .ok (.aload_n 0, 1) := by decide +kernel
theorem dX12_isStanding_24 : decode cX12_isStanding 24 = .ok (.getfield 7, 3) := by decide +kernel
theorem dX12_isStanding_27 : decode cX12_isStanding 27 = .ok (.iconst 3, 1) := by decide +kernel
theorem dX12_isStanding_28 : decode cX12_isStanding 28 = .ok (.iaload, 1) := by decide +kernel
theorem dX12_isStanding_29 : decode cX12_isStanding 29 = .ok (.if_icmp .ge 31, 3) := by decide +kernel
theorem dX12_isStanding_32 : decode cX12_isStanding 32 = .ok (.iload_n 2, 1) := by decide +kernel
theorem dX12_isStanding_33 : decode cX12_isStanding 33 = .ok (.ifCond .eq 19, 3) := by decide +kernel
theorem dX12_isStanding_36 : decode cX12_isStanding 36 = .ok (.aload_n 0, 1) := by decide +kernel
theorem dX12_isStanding_37 : decode cX12_isStanding 37 = .ok (.iload_n 1, 1) := by decide +kernel
theorem dX12_isStanding_38 : decode cX12_isStanding 38 = .ok (.iload_n 3, 1) := by decide +kernel
theorem dX12_isStanding_39 : decode cX12_isStanding 39 = .ok (.invokestatic 151, 3) := by decide +kernel
theorem dX12_isStanding_42 : decode cX12_isStanding 42 = .ok (.invokevirtual 63, 3) := by decide +kernel
theorem dX12_isStanding_45 : decode cX12_isStanding 45 = .ok (.ifCond .eq 7, 3) := by decide +kernel
theorem dX12_isStanding_48 : decode cX12_isStanding 48 = .ok (.iconst 1, 1) := by decide +kernel
theorem dX12_isStanding_49 : decode cX12_isStanding 49 = .ok (.goto 4, 3) := by decide +kernel
theorem dX12_isStanding_52 : decode cX12_isStanding 52 = .ok (.iconst 0, 1) := by decide +kernel
theorem dX12_isStanding_53 : decode cX12_isStanding 53 = .ok (.istore_n 2, 1) := by decide +kernel
theorem dX12_isStanding_54 : decode cX12_isStanding 54 = .ok (.iinc 3 1, 3) := by decide +kernel
theorem dX12_isStanding_57 : decode cX12_isStanding 57 = .ok (.goto (-35), 3) := by decide +kernel
theorem dX12_isStanding_60 : decode cX12_isStanding 60 = .ok (.iload_n 2, 1) := by decide +kernel
theorem dX12_isStanding_61 : decode cX12_isStanding 61 = .ok (.ireturn, 1) := by decide +kernel
def KX12_isStanding_22 (E : EV) (d : Nat) (rr : Option Value × Mem) (x1 : Int32) (I : Mem) (Kp : Int32 → Prop) : ((Int32 × Int32) ⊕ Int32) → Prop
  | .inl q => G E (d + 2) kX12_isStanding 22 [some (.ref 74), some (.int x1), some (.int q.1), some (.int q.2)] [] I rr
  | .inr z => Kp z
def bX12_isStanding_22 (x1 : Int32) (I : Mem) (x2 : Int32) (x3 : Int32) : Option ((Int32 × Int32) ⊕ Int32) :=
  chk (inb (3 : Int32) 632) <|
  if (I 75 (ix (3 : Int32))) ≤ x3 then
  (chk (zb x2) <|
  some (.inr x2))
  else
  (if x2 = 0 then
  (some (.inl ((0 : Int32), (x3 + (1 : Int32)))))
  else
  (bnd (fX12_roomIn x1 x3 I) fun v_7 =>
  bnd (fX12_isRoom v_7 I) fun v_9 =>
  if v_9 = 0 then
  (some (.inl ((0 : Int32), (x3 + (1 : Int32)))))
  else
  (some (.inl ((1 : Int32), (x3 + (1 : Int32)))))))
def sX12_isStanding_22 (x1 : Int32) (I : Mem) (q : (Int32 × Int32)) : Option ((Int32 × Int32) ⊕ Int32) := bX12_isStanding_22 x1 I q.1 q.2
set_option maxRecDepth 20000 in
theorem wX12_isStanding_22 (E : EV) (d : Nat) (rr : Option Value × Mem) (x1 : Int32) (I : Mem) (x2 : Int32) (x3 : Int32) (y : ((Int32 × Int32) ⊕ Int32)) (hf : bX12_isStanding_22 x1 I x2 x3 = some y) (hK : (KX12_isStanding_22 E d rr x1 I (fun (z : Int32) => (some (.int z), I) = rr)) y) : G E (d + 2) kX12_isStanding 22 [some (.ref 74), some (.int x1), some (.int x2), some (.int x3)] [] I rr := by
  unfold bX12_isStanding_22 at hf
  refine G.iload_n dX12_isStanding_22 rfl rfl ?_
  refine G.aload_n dX12_isStanding_23 rfl rfl ?_
  refine G.getR (q := 75) dX12_isStanding_24 flX12_7 (by decide) rfl rfl ?_
  refine G.iconst (v := 3) dX12_isStanding_27 (by decide) ?_
  obtain ⟨hi_4, hf⟩ := chk_at hf
  refine G.iald' dX12_isStanding_28 (by decide) rfl rfl hi_4 ?_
  refine G.icmp_ge (tgt := 60) dX12_isStanding_29 (by decide) (fun c_12 => ?_) (fun c_12 => ?_)
  · have hf := ite_t hf c_12
    refine G.iload_n dX12_isStanding_60 rfl rfl ?_
    obtain ⟨hz_5, hf⟩ := chk_at hf
    have hf := Option.some.inj hf
    subst hf
    exact G.zret' dX12_isStanding_61 rfl hz_5 hK
  · have hf := ite_f hf c_12
    refine G.iload_n dX12_isStanding_32 rfl rfl ?_
    refine G.if_eq (tgt := 52) dX12_isStanding_33 (by decide) (fun c_11 => ?_) (fun c_11 => ?_)
    · have hf := ite_t hf c_11
      refine G.iconst (v := 0) dX12_isStanding_52 (by decide) ?_
      refine G.istore_n (L' := [some (.ref 74), some (.int x1), some (.int (0 : Int32)), some (.int x3)]) dX12_isStanding_53 rfl (Nat.le_of_ble_eq_true rfl) (Nat.le_of_ble_eq_true rfl) rfl rfl ?_
      refine G.inc (w := 1) (L' := [some (.ref 74), some (.int x1), some (.int (0 : Int32)), some (.int (x3 + (1 : Int32)))]) dX12_isStanding_54 (by decide) rfl (Nat.le_of_ble_eq_true rfl) rfl rfl ?_
      refine G.goto (tgt := 22) dX12_isStanding_57 (by decide) ?_
      have hf := Option.some.inj hf
      subst hf
      exact hK
    · have hf := ite_f hf c_11
      refine G.aload_n dX12_isStanding_36 rfl rfl ?_
      refine G.iload_n dX12_isStanding_37 rfl rfl ?_
      refine G.iload_n dX12_isStanding_38 rfl rfl ?_
      obtain ⟨v_7, hc_6, hf⟩ := bnd_at hf
      refine G.callSi (av := [.int x1, .int x3]) (rest := [.ref 74]) dX12_isStanding_39 msX12_151 (gX12_roomIn E (d + 1) x1 x3 I hc_6) rfl rfl (Nat.le_of_ble_eq_true rfl) ?_
      obtain ⟨v_9, hc_8, hf⟩ := bnd_at hf
      refine G.callVi (av := [.int v_7]) (rest := []) dX12_isStanding_42 mvX12_63 (gX12_isRoom E d v_7 I hc_8) (by decide) rfl rfl rfl (Nat.le_of_ble_eq_true rfl) ?_
      refine G.if_eq (tgt := 52) dX12_isStanding_45 (by decide) (fun c_10 => ?_) (fun c_10 => ?_)
      · have hf := ite_t hf c_10
        refine G.iconst (v := 0) dX12_isStanding_52 (by decide) ?_
        refine G.istore_n (L' := [some (.ref 74), some (.int x1), some (.int (0 : Int32)), some (.int x3)]) dX12_isStanding_53 rfl (Nat.le_of_ble_eq_true rfl) (Nat.le_of_ble_eq_true rfl) rfl rfl ?_
        refine G.inc (w := 1) (L' := [some (.ref 74), some (.int x1), some (.int (0 : Int32)), some (.int (x3 + (1 : Int32)))]) dX12_isStanding_54 (by decide) rfl (Nat.le_of_ble_eq_true rfl) rfl rfl ?_
        refine G.goto (tgt := 22) dX12_isStanding_57 (by decide) ?_
        have hf := Option.some.inj hf
        subst hf
        exact hK
      · have hf := ite_f hf c_10
        refine G.iconst (v := 1) dX12_isStanding_48 (by decide) ?_
        refine G.goto (tgt := 53) dX12_isStanding_49 (by decide) ?_
        refine G.istore_n (L' := [some (.ref 74), some (.int x1), some (.int (1 : Int32)), some (.int x3)]) dX12_isStanding_53 rfl (Nat.le_of_ble_eq_true rfl) (Nat.le_of_ble_eq_true rfl) rfl rfl ?_
        refine G.inc (w := 1) (L' := [some (.ref 74), some (.int x1), some (.int (1 : Int32)), some (.int (x3 + (1 : Int32)))]) dX12_isStanding_54 (by decide) rfl (Nat.le_of_ble_eq_true rfl) rfl rfl ?_
        refine G.goto (tgt := 22) dX12_isStanding_57 (by decide) ?_
        have hf := Option.some.inj hf
        subst hf
        exact hK
theorem lX12_isStanding_22 (E : EV) (d : Nat) (rr : Option Value × Mem) (x1 : Int32) (I : Mem) (z : Int32) (hK : (fun (z : Int32) => (some (.int z), I) = rr) z) : ∀ (n : Nat) (q : (Int32 × Int32)), iter (sX12_isStanding_22 x1 I) n q = some z → G E (d + 2) kX12_isStanding 22 [some (.ref 74), some (.int x1), some (.int q.1), some (.int q.2)] [] I rr := by
  intro n
  induction n with
  | zero => intro q h; cases h
  | succ n ih =>
    intro q h
    rcases iter_at h with ⟨q2, hs, h2⟩ | hs
    · exact wX12_isStanding_22 E d rr x1 I q.1 q.2 _ hs (ih q2 h2)
    · exact wX12_isStanding_22 E d rr x1 I q.1 q.2 _ hs hK
def fX12_isStanding (x1 : Int32) (I : Mem) : Option Int32 :=
  chk (inb (3 : Int32) 632) <|
  bnd (fX12_in (Int32.toInt64 x1) (0 : Int64) (Int32.toInt64 (((1 : Int32) <<< (((3 : Int32) * (I 75 (ix (3 : Int32)))) &&& 31)) - (1 : Int32))) I) fun v_3 =>
  iter (sX12_isStanding_22 x1 I) FU (v_3, (0 : Int32))
set_option maxRecDepth 20000 in
theorem gX12_isStanding (E : EV) (d : Nat) (x1 : Int32) (I : Mem) {v : Int32} (hf : fX12_isStanding x1 I = some v) : Gm E (d + 2) kX12_isStanding [.ref 74, .int x1] I (some (.int v), I) := by
  refine (fun (y : Int32) (hf : fX12_isStanding x1 I = some y) => (?_ : Gm E (d + 2) kX12_isStanding [.ref 74, .int x1] I (some (.int y), I))) v hf
  refine Gm.of (by decide) rfl (Nat.le_of_ble_eq_true rfl) ?_
  generalize hrr : ((some (.int y), I) : Option Value × Mem) = rr
  show G E (d + 2) kX12_isStanding 0 [some (.ref 74), some (.int x1), none, none] [] I rr
  have hK : (fun (z : Int32) => (some (.int z), I) = rr) y := hrr
  clear hrr
  unfold fX12_isStanding at hf
  refine G.iload_n dX12_isStanding_0 rfl rfl ?_
  refine G.i2l dX12_isStanding_1 ?_
  refine G.lconst (v := 0) dX12_isStanding_2 (by decide) ?_
  refine G.iconst (v := 1) dX12_isStanding_3 (by decide) ?_
  refine G.iconst (v := 3) dX12_isStanding_4 (by decide) ?_
  refine G.aload_n dX12_isStanding_5 rfl rfl ?_
  refine G.getR (q := 75) dX12_isStanding_6 flX12_7 (by decide) rfl rfl ?_
  refine G.iconst (v := 3) dX12_isStanding_9 (by decide) ?_
  obtain ⟨hi_1, hf⟩ := chk_at hf
  refine G.iald' dX12_isStanding_10 (by decide) rfl rfl hi_1 ?_
  refine G.imul dX12_isStanding_11 ?_
  refine G.ishl dX12_isStanding_12 ?_
  refine G.iconst (v := 1) dX12_isStanding_13 (by decide) ?_
  refine G.isub dX12_isStanding_14 ?_
  refine G.i2l dX12_isStanding_15 ?_
  obtain ⟨v_3, hc_2, hf⟩ := bnd_at hf
  refine G.callSi (av := [.long (Int32.toInt64 x1), .long (0 : Int64), .long (Int32.toInt64 (((1 : Int32) <<< (((3 : Int32) * (I 75 (ix (3 : Int32)))) &&& 31)) - (1 : Int32)))]) (rest := []) dX12_isStanding_16 msX12_49 (gX12_in E (d + 1) (Int32.toInt64 x1) (0 : Int64) (Int32.toInt64 (((1 : Int32) <<< (((3 : Int32) * (I 75 (ix (3 : Int32)))) &&& 31)) - (1 : Int32))) I hc_2) rfl rfl (Nat.le_of_ble_eq_true rfl) ?_
  refine G.istore_n (L' := [some (.ref 74), some (.int x1), some (.int v_3), none]) dX12_isStanding_19 rfl (Nat.le_of_ble_eq_true rfl) (Nat.le_of_ble_eq_true rfl) rfl rfl ?_
  refine G.iconst (v := 0) dX12_isStanding_20 (by decide) ?_
  refine G.istore_n (L' := [some (.ref 74), some (.int x1), some (.int v_3), some (.int (0 : Int32))]) dX12_isStanding_21 rfl (Nat.le_of_ble_eq_true rfl) (Nat.le_of_ble_eq_true rfl) rfl rfl ?_
  exact lX12_isStanding_22 E d rr x1 I _ hK FU _ hf
theorem dX12_now_0 : decode cX12_now 0 = .ok (.iconst 0, 1) := by decide +kernel
theorem dX12_now_1 : decode cX12_now 1 = .ok (.istore_n 1, 1) := by decide +kernel
theorem dX12_now_2 : decode cX12_now 2 = .ok (.iconst 0, 1) := by decide +kernel
theorem dX12_now_3 : decode cX12_now 3 = .ok (.istore_n 2, 1) := by decide +kernel
theorem dX12_now_4 : decode cX12_now 4 = .ok (.iload_n 2, 1) := by decide +kernel
theorem dX12_now_5 : decode cX12_now 5 = .ok (.aload_n 0, 1) := by decide +kernel
theorem dX12_now_6 : decode cX12_now 6 = .ok (.getfield 7, 3) := by decide +kernel
theorem dX12_now_9 : decode cX12_now 9 = .ok (.iconst 3, 1) := by decide +kernel
theorem dX12_now_10 : decode cX12_now 10 = .ok (.iaload, 1) := by decide +kernel
theorem dX12_now_11 : decode cX12_now 11 = .ok (.if_icmp .ge 25, 3) := by decide +kernel
theorem dX12_now_14 : decode cX12_now 14 = .ok (.iload_n 1, 1) := by decide +kernel
theorem dX12_now_15 : decode cX12_now 15 = .ok (.aload_n 0, 1) := by decide +kernel
theorem dX12_now_16 : decode cX12_now 16 = .ok (.getfield 7, 3) := by decide +kernel
theorem dX12_now_19 : decode cX12_now 19 = .ok (.bipush 20, 2) := by decide +kernel
theorem dX12_now_21 : decode cX12_now 21 = .ok (.iload_n 2, 1) := by decide +kernel
theorem dX12_now_22 : decode cX12_now 22 = .ok (.iadd, 1) := by decide +kernel
theorem dX12_now_23 : decode cX12_now 23 = .ok (.iaload, 1) := by decide +kernel
theorem dX12_now_24 : decode cX12_now 24 = .ok (.iconst 3, 1) := by decide +kernel
theorem dX12_now_25 : decode cX12_now 25 = .ok (.iload_n 2, 1) := by decide +kernel
theorem dX12_now_26 : decode cX12_now 26 = .ok (.imul, 1) := by decide +kernel
theorem dX12_now_27 : decode cX12_now 27 = .ok (.ishl, 1) := by decide +kernel
theorem dX12_now_28 : decode cX12_now 28 = .ok (.ior, 1) := by decide +kernel
theorem dX12_now_29 : decode cX12_now 29 = .ok (.istore_n 1, 1) := by decide +kernel
theorem dX12_now_30 : decode cX12_now 30 = .ok (.iinc 2 1, 3) := by decide +kernel
theorem dX12_now_33 : decode cX12_now 33 = .ok (.goto (-29), 3) := by decide +kernel
theorem dX12_now_36 : decode cX12_now 36 = .ok (.iload_n 1, 1) := by decide +kernel
theorem dX12_now_37 : decode cX12_now 37 = .ok (.ireturn, 1) := by decide +kernel
def KX12_now_4 (E : EV) (d : Nat) (rr : Option Value × Mem) (I : Mem) (Kp : Int32 → Prop) : ((Int32 × Int32) ⊕ Int32) → Prop
  | .inl q => G E (d + 0) kX12_now 4 [some (.ref 74), some (.int q.1), some (.int q.2)] [] I rr
  | .inr z => Kp z
def bX12_now_4 (I : Mem) (x1 : Int32) (x2 : Int32) : Option ((Int32 × Int32) ⊕ Int32) :=
  chk (inb (3 : Int32) 632) <|
  if (I 75 (ix (3 : Int32))) ≤ x2 then
  (some (.inr x1))
  else
  (chk (inb ((20 : Int32) + x2) 632) <|
  letb (x1 ||| ((I 75 (ix ((20 : Int32) + x2))) <<< (((3 : Int32) * x2) &&& 31))) fun x1_3 =>
  some (.inl (x1_3, (x2 + (1 : Int32)))))
def sX12_now_4 (I : Mem) (q : (Int32 × Int32)) : Option ((Int32 × Int32) ⊕ Int32) := bX12_now_4 I q.1 q.2
set_option maxRecDepth 20000 in
theorem wX12_now_4 (E : EV) (d : Nat) (rr : Option Value × Mem) (I : Mem) (x1 : Int32) (x2 : Int32) (y : ((Int32 × Int32) ⊕ Int32)) (hf : bX12_now_4 I x1 x2 = some y) (hK : (KX12_now_4 E d rr I (fun (z : Int32) => (some (.int z), I) = rr)) y) : G E (d + 0) kX12_now 4 [some (.ref 74), some (.int x1), some (.int x2)] [] I rr := by
  unfold bX12_now_4 at hf
  refine G.iload_n dX12_now_4 rfl rfl ?_
  refine G.aload_n dX12_now_5 rfl rfl ?_
  refine G.getR (q := 75) dX12_now_6 flX12_7 (by decide) rfl rfl ?_
  refine G.iconst (v := 3) dX12_now_9 (by decide) ?_
  obtain ⟨hi_1, hf⟩ := chk_at hf
  refine G.iald' dX12_now_10 (by decide) rfl rfl hi_1 ?_
  refine G.icmp_ge (tgt := 36) dX12_now_11 (by decide) (fun c_4 => ?_) (fun c_4 => ?_)
  · have hf := ite_t hf c_4
    refine G.iload_n dX12_now_36 rfl rfl ?_
    have hf := Option.some.inj hf
    subst hf
    exact G.iret' dX12_now_37 rfl hK
  · have hf := ite_f hf c_4
    refine G.iload_n dX12_now_14 rfl rfl ?_
    refine G.aload_n dX12_now_15 rfl rfl ?_
    refine G.getR (q := 75) dX12_now_16 flX12_7 (by decide) rfl rfl ?_
    refine G.bipush (v := 20) dX12_now_19 (by decide) ?_
    refine G.iload_n dX12_now_21 rfl rfl ?_
    refine G.iadd dX12_now_22 ?_
    obtain ⟨hi_2, hf⟩ := chk_at hf
    refine G.iald' dX12_now_23 (by decide) rfl rfl hi_2 ?_
    refine G.iconst (v := 3) dX12_now_24 (by decide) ?_
    refine G.iload_n dX12_now_25 rfl rfl ?_
    refine G.imul dX12_now_26 ?_
    refine G.ishl dX12_now_27 ?_
    refine G.ior dX12_now_28 ?_
    refine G.nmi (fun x1_3 e_x1_3 => ?_)
    have hf := letb_at hf e_x1_3
    clear e_x1_3
    refine G.istore_n (L' := [some (.ref 74), some (.int x1_3), some (.int x2)]) dX12_now_29 rfl (Nat.le_of_ble_eq_true rfl) (Nat.le_of_ble_eq_true rfl) rfl rfl ?_
    refine G.inc (w := 1) (L' := [some (.ref 74), some (.int x1_3), some (.int (x2 + (1 : Int32)))]) dX12_now_30 (by decide) rfl (Nat.le_of_ble_eq_true rfl) rfl rfl ?_
    refine G.goto (tgt := 4) dX12_now_33 (by decide) ?_
    have hf := Option.some.inj hf
    subst hf
    exact hK
theorem lX12_now_4 (E : EV) (d : Nat) (rr : Option Value × Mem) (I : Mem) (z : Int32) (hK : (fun (z : Int32) => (some (.int z), I) = rr) z) : ∀ (n : Nat) (q : (Int32 × Int32)), iter (sX12_now_4 I) n q = some z → G E (d + 0) kX12_now 4 [some (.ref 74), some (.int q.1), some (.int q.2)] [] I rr := by
  intro n
  induction n with
  | zero => intro q h; cases h
  | succ n ih =>
    intro q h
    rcases iter_at h with ⟨q2, hs, h2⟩ | hs
    · exact wX12_now_4 E d rr I q.1 q.2 _ hs (ih q2 h2)
    · exact wX12_now_4 E d rr I q.1 q.2 _ hs hK
def fX12_now (I : Mem) : Option Int32 :=
  iter (sX12_now_4 I) FU ((0 : Int32), (0 : Int32))
set_option maxRecDepth 20000 in
theorem gX12_now (E : EV) (d : Nat) (I : Mem) {v : Int32} (hf : fX12_now I = some v) : Gm E (d + 0) kX12_now [.ref 74] I (some (.int v), I) := by
  refine (fun (y : Int32) (hf : fX12_now I = some y) => (?_ : Gm E (d + 0) kX12_now [.ref 74] I (some (.int y), I))) v hf
  refine Gm.of (by decide) rfl (Nat.le_of_ble_eq_true rfl) ?_
  generalize hrr : ((some (.int y), I) : Option Value × Mem) = rr
  show G E (d + 0) kX12_now 0 [some (.ref 74), none, none] [] I rr
  have hK : (fun (z : Int32) => (some (.int z), I) = rr) y := hrr
  clear hrr
  unfold fX12_now at hf
  refine G.iconst (v := 0) dX12_now_0 (by decide) ?_
  refine G.istore_n (L' := [some (.ref 74), some (.int (0 : Int32)), none]) dX12_now_1 rfl (Nat.le_of_ble_eq_true rfl) (Nat.le_of_ble_eq_true rfl) rfl rfl ?_
  refine G.iconst (v := 0) dX12_now_2 (by decide) ?_
  refine G.istore_n (L' := [some (.ref 74), some (.int (0 : Int32)), some (.int (0 : Int32))]) dX12_now_3 rfl (Nat.le_of_ble_eq_true rfl) (Nat.le_of_ble_eq_true rfl) rfl rfl ?_
  exact lX12_now_4 E d rr I _ hK FU _ hf
theorem dX12_isAlone_0 : decode cX12_isAlone 0 = .ok (.iload_n 1, 1) := by decide +kernel
theorem dX12_isAlone_1 : decode cX12_isAlone 1 = .ok (.iload_n 2, 1) := by decide +kernel
theorem dX12_isAlone_2 : decode cX12_isAlone 2 = .ok (.invokestatic 151, 3) := by decide +kernel
theorem dX12_isAlone_5 : decode cX12_isAlone 5 = .ok (.istore_n 3, 1) := by decide +kernel
theorem dX12_isAlone_6 : decode cX12_isAlone 6 = .ok (.aload_n 0, 1) := by decide +kernel
theorem dX12_isAlone_7 : decode cX12_isAlone 7 = .ok (.getfield 7, 3) := by decide +kernel
theorem dX12_isAlone_10 : decode cX12_isAlone 10 = .ok (.iconst 4, 1) := by decide +kernel
theorem dX12_isAlone_11 : decode cX12_isAlone 11 = .ok (.iaload, 1) := by decide +kernel
theorem dX12_isAlone_12 : decode cX12_isAlone 12 = .ok (.iload_n 3, 1) := by decide +kernel
theorem dX12_isAlone_13 : decode cX12_isAlone 13 = .ok (.invokestatic 67, 3) := by decide +kernel
theorem dX12_isAlone_16 : decode cX12_isAlone 16 = .ok (.ifCond .ne 7, 3) := by decide +kernel
theorem dX12_isAlone_19 : decode cX12_isAlone 19 = .ok (.iconst 1, 1) := by decide +kernel
theorem dX12_isAlone_20 : decode cX12_isAlone 20 = .ok (.goto 4, 3) := by decide +kernel
theorem dX12_isAlone_23 : decode cX12_isAlone 23 = .ok (.iconst 0, 1) := by decide +kernel
theorem dX12_isAlone_24 : decode cX12_isAlone 24 = .ok (.istore 4, 2) := by decide +kernel
theorem dX12_isAlone_26 : decode cX12_isAlone 26 = .ok (.iconst 0, 1) := by decide +kernel
theorem dX12_isAlone_27 : decode cX12_isAlone 27 = .ok (.istore 5, 2) := by decide +kernel
theorem dX12_isAlone_29 : decode cX12_isAlone 29 = .ok (.iload 5, 2) := by decide +kernel
theorem dX12_isAlone_31 : decode cX12_isAlone 31 = .ok (.aload_n 0, 1) := by decide +kernel
theorem dX12_isAlone_32 : decode cX12_isAlone 32 = .ok (.getfield 7, 3) := by decide +kernel
theorem dX12_isAlone_35 : decode cX12_isAlone 35 = .ok (.iconst 3, 1) := by decide +kernel
theorem dX12_isAlone_36 : decode cX12_isAlone 36 = .ok (.iaload, 1) := by decide +kernel
theorem dX12_isAlone_37 : decode cX12_isAlone 37 = .ok (.if_icmp .ge 37, 3) := by decide +kernel
theorem dX12_isAlone_40 : decode cX12_isAlone 40 = .ok (.iload 4, 2) := by decide +kernel
theorem dX12_isAlone_42 : decode cX12_isAlone 42 = .ok (.ifCond .eq 23, 3) := by decide +kernel
theorem dX12_isAlone_45 : decode cX12_isAlone 45 = .ok (.iload 5, 2) := by decide +kernel
theorem dX12_isAlone_47 : decode cX12_isAlone 47 = .ok (.iload_n 2, 1) := by decide +kernel
theorem dX12_isAlone_48 : decode cX12_isAlone 48 = .ok (.if_icmp .eq 13, 3) := by decide +kernel
theorem dX12_isAlone_51 : decode cX12_isAlone 51 = .ok (.iload_n 1, 1) := by decide +kernel
theorem dX12_isAlone_52 : decode cX12_isAlone 52 = .ok (.iload 5, 2) := by decide +kernel
theorem dX12_isAlone_54 : decode cX12_isAlone 54 = .ok (.invokestatic 151, 3) := by decide +kernel
theorem dX12_isAlone_57 : decode cX12_isAlone 57 = .ok (.iload_n 3, 1) := by decide +kernel
theorem dX12_isAlone_58 : decode cX12_isAlone 58 = .ok (.if_icmp .eq 7, 3) := by decide +kernel
theorem dX12_isAlone_61 : decode cX12_isAlone 61 = .ok (.iconst 1, 1) := by decide +kernel
theorem dX12_isAlone_62 : decode cX12_isAlone 62 = .ok (.goto 4, 3) := by decide +kernel
theorem dX12_isAlone_65 : decode cX12_isAlone 65 = .ok (.iconst 0, 1) := by decide +kernel
theorem dX12_isAlone_66 : decode cX12_isAlone 66 = .ok (.istore 4, 2) := by decide +kernel
theorem dX12_isAlone_68 : decode cX12_isAlone 68 = .ok (.iinc 5 1, 3) := by decide +kernel
theorem dX12_isAlone_71 : decode cX12_isAlone 71 = .ok (.goto (-42), 3) := by decide +kernel
theorem dX12_isAlone_74 : decode cX12_isAlone 74 = .ok (.iload 4, 2) := by decide +kernel
theorem dX12_isAlone_76 : decode cX12_isAlone 76 = .ok (.ireturn, 1) := by decide +kernel
def KX12_isAlone_29 (E : EV) (d : Nat) (rr : Option Value × Mem) (x1 : Int32) (x2 : Int32) (x3 : Int32) (I : Mem) (Kp : Int32 → Prop) : ((Int32 × Int32) ⊕ Int32) → Prop
  | .inl q => G E (d + 1) kX12_isAlone 29 [some (.ref 74), some (.int x1), some (.int x2), some (.int x3), some (.int q.1), some (.int q.2)] [] I rr
  | .inr z => Kp z
def bX12_isAlone_29 (x1 : Int32) (x2 : Int32) (x3 : Int32) (I : Mem) (x4 : Int32) (x5 : Int32) : Option ((Int32 × Int32) ⊕ Int32) :=
  chk (inb (3 : Int32) 632) <|
  if (I 75 (ix (3 : Int32))) ≤ x5 then
  (chk (zb x4) <|
  some (.inr x4))
  else
  (if x4 = 0 then
  (some (.inl ((0 : Int32), (x5 + (1 : Int32)))))
  else
  (if x5 = x2 then
  (some (.inl ((1 : Int32), (x5 + (1 : Int32)))))
  else
  (bnd (fX12_roomIn x1 x5 I) fun v_9 =>
  if v_9 = x3 then
  (some (.inl ((0 : Int32), (x5 + (1 : Int32)))))
  else
  (some (.inl ((1 : Int32), (x5 + (1 : Int32))))))))
def sX12_isAlone_29 (x1 : Int32) (x2 : Int32) (x3 : Int32) (I : Mem) (q : (Int32 × Int32)) : Option ((Int32 × Int32) ⊕ Int32) := bX12_isAlone_29 x1 x2 x3 I q.1 q.2
set_option maxRecDepth 20000 in
theorem wX12_isAlone_29 (E : EV) (d : Nat) (rr : Option Value × Mem) (x1 : Int32) (x2 : Int32) (x3 : Int32) (I : Mem) (x4 : Int32) (x5 : Int32) (y : ((Int32 × Int32) ⊕ Int32)) (hf : bX12_isAlone_29 x1 x2 x3 I x4 x5 = some y) (hK : (KX12_isAlone_29 E d rr x1 x2 x3 I (fun (z : Int32) => (some (.int z), I) = rr)) y) : G E (d + 1) kX12_isAlone 29 [some (.ref 74), some (.int x1), some (.int x2), some (.int x3), some (.int x4), some (.int x5)] [] I rr := by
  unfold bX12_isAlone_29 at hf
  refine G.iload dX12_isAlone_29 rfl ?_
  refine G.aload_n dX12_isAlone_31 rfl rfl ?_
  refine G.getR (q := 75) dX12_isAlone_32 flX12_7 (by decide) rfl rfl ?_
  refine G.iconst (v := 3) dX12_isAlone_35 (by decide) ?_
  obtain ⟨hi_6, hf⟩ := chk_at hf
  refine G.iald' dX12_isAlone_36 (by decide) rfl rfl hi_6 ?_
  refine G.icmp_ge (tgt := 74) dX12_isAlone_37 (by decide) (fun c_13 => ?_) (fun c_13 => ?_)
  · have hf := ite_t hf c_13
    refine G.iload dX12_isAlone_74 rfl ?_
    obtain ⟨hz_7, hf⟩ := chk_at hf
    have hf := Option.some.inj hf
    subst hf
    exact G.zret' dX12_isAlone_76 rfl hz_7 hK
  · have hf := ite_f hf c_13
    refine G.iload dX12_isAlone_40 rfl ?_
    refine G.if_eq (tgt := 65) dX12_isAlone_42 (by decide) (fun c_12 => ?_) (fun c_12 => ?_)
    · have hf := ite_t hf c_12
      refine G.iconst (v := 0) dX12_isAlone_65 (by decide) ?_
      refine G.istore (L' := [some (.ref 74), some (.int x1), some (.int x2), some (.int x3), some (.int (0 : Int32)), some (.int x5)]) dX12_isAlone_66 (Nat.le_of_ble_eq_true rfl) (Nat.le_of_ble_eq_true rfl) rfl rfl ?_
      refine G.inc (w := 1) (L' := [some (.ref 74), some (.int x1), some (.int x2), some (.int x3), some (.int (0 : Int32)), some (.int (x5 + (1 : Int32)))]) dX12_isAlone_68 (by decide) rfl (Nat.le_of_ble_eq_true rfl) rfl rfl ?_
      refine G.goto (tgt := 29) dX12_isAlone_71 (by decide) ?_
      have hf := Option.some.inj hf
      subst hf
      exact hK
    · have hf := ite_f hf c_12
      refine G.iload dX12_isAlone_45 rfl ?_
      refine G.iload_n dX12_isAlone_47 rfl rfl ?_
      refine G.icmp_eq (tgt := 61) dX12_isAlone_48 (by decide) (fun c_11 => ?_) (fun c_11 => ?_)
      · have hf := ite_t hf c_11
        refine G.iconst (v := 1) dX12_isAlone_61 (by decide) ?_
        refine G.goto (tgt := 66) dX12_isAlone_62 (by decide) ?_
        refine G.istore (L' := [some (.ref 74), some (.int x1), some (.int x2), some (.int x3), some (.int (1 : Int32)), some (.int x5)]) dX12_isAlone_66 (Nat.le_of_ble_eq_true rfl) (Nat.le_of_ble_eq_true rfl) rfl rfl ?_
        refine G.inc (w := 1) (L' := [some (.ref 74), some (.int x1), some (.int x2), some (.int x3), some (.int (1 : Int32)), some (.int (x5 + (1 : Int32)))]) dX12_isAlone_68 (by decide) rfl (Nat.le_of_ble_eq_true rfl) rfl rfl ?_
        refine G.goto (tgt := 29) dX12_isAlone_71 (by decide) ?_
        have hf := Option.some.inj hf
        subst hf
        exact hK
      · have hf := ite_f hf c_11
        refine G.iload_n dX12_isAlone_51 rfl rfl ?_
        refine G.iload dX12_isAlone_52 rfl ?_
        obtain ⟨v_9, hc_8, hf⟩ := bnd_at hf
        refine G.callSi (av := [.int x1, .int x5]) (rest := []) dX12_isAlone_54 msX12_151 (gX12_roomIn E d x1 x5 I hc_8) rfl rfl (Nat.le_of_ble_eq_true rfl) ?_
        refine G.iload_n dX12_isAlone_57 rfl rfl ?_
        refine G.icmp_eq (tgt := 65) dX12_isAlone_58 (by decide) (fun c_10 => ?_) (fun c_10 => ?_)
        · have hf := ite_t hf c_10
          refine G.iconst (v := 0) dX12_isAlone_65 (by decide) ?_
          refine G.istore (L' := [some (.ref 74), some (.int x1), some (.int x2), some (.int x3), some (.int (0 : Int32)), some (.int x5)]) dX12_isAlone_66 (Nat.le_of_ble_eq_true rfl) (Nat.le_of_ble_eq_true rfl) rfl rfl ?_
          refine G.inc (w := 1) (L' := [some (.ref 74), some (.int x1), some (.int x2), some (.int x3), some (.int (0 : Int32)), some (.int (x5 + (1 : Int32)))]) dX12_isAlone_68 (by decide) rfl (Nat.le_of_ble_eq_true rfl) rfl rfl ?_
          refine G.goto (tgt := 29) dX12_isAlone_71 (by decide) ?_
          have hf := Option.some.inj hf
          subst hf
          exact hK
        · have hf := ite_f hf c_10
          refine G.iconst (v := 1) dX12_isAlone_61 (by decide) ?_
          refine G.goto (tgt := 66) dX12_isAlone_62 (by decide) ?_
          refine G.istore (L' := [some (.ref 74), some (.int x1), some (.int x2), some (.int x3), some (.int (1 : Int32)), some (.int x5)]) dX12_isAlone_66 (Nat.le_of_ble_eq_true rfl) (Nat.le_of_ble_eq_true rfl) rfl rfl ?_
          refine G.inc (w := 1) (L' := [some (.ref 74), some (.int x1), some (.int x2), some (.int x3), some (.int (1 : Int32)), some (.int (x5 + (1 : Int32)))]) dX12_isAlone_68 (by decide) rfl (Nat.le_of_ble_eq_true rfl) rfl rfl ?_
          refine G.goto (tgt := 29) dX12_isAlone_71 (by decide) ?_
          have hf := Option.some.inj hf
          subst hf
          exact hK
theorem lX12_isAlone_29 (E : EV) (d : Nat) (rr : Option Value × Mem) (x1 : Int32) (x2 : Int32) (x3 : Int32) (I : Mem) (z : Int32) (hK : (fun (z : Int32) => (some (.int z), I) = rr) z) : ∀ (n : Nat) (q : (Int32 × Int32)), iter (sX12_isAlone_29 x1 x2 x3 I) n q = some z → G E (d + 1) kX12_isAlone 29 [some (.ref 74), some (.int x1), some (.int x2), some (.int x3), some (.int q.1), some (.int q.2)] [] I rr := by
  intro n
  induction n with
  | zero => intro q h; cases h
  | succ n ih =>
    intro q h
    rcases iter_at h with ⟨q2, hs, h2⟩ | hs
    · exact wX12_isAlone_29 E d rr x1 x2 x3 I q.1 q.2 _ hs (ih q2 h2)
    · exact wX12_isAlone_29 E d rr x1 x2 x3 I q.1 q.2 _ hs hK
def jX12_isAlone_24 (x1 : Int32) (x2 : Int32) (x3 : Int32) (u0 : Int32) (I : Mem) : Option Int32 :=
  iter (sX12_isAlone_29 x1 x2 x3 I) FU (u0, (0 : Int32))
set_option maxRecDepth 20000 in
theorem tX12_isAlone_24 (E : EV) (d : Nat) (rr : Option Value × Mem) (x1 : Int32) (x2 : Int32) (x3 : Int32) (u0 : Int32) (I : Mem) (y : Int32) (hf : jX12_isAlone_24 x1 x2 x3 u0 I = some y) (hK : (fun (z : Int32) => (some (.int z), I) = rr) y) : G E (d + 1) kX12_isAlone 24 [some (.ref 74), some (.int x1), some (.int x2), some (.int x3), none, none] [.int u0] I rr := by
  unfold jX12_isAlone_24 at hf
  refine G.istore (L' := [some (.ref 74), some (.int x1), some (.int x2), some (.int x3), some (.int u0), none]) dX12_isAlone_24 (Nat.le_of_ble_eq_true rfl) (Nat.le_of_ble_eq_true rfl) rfl rfl ?_
  refine G.iconst (v := 0) dX12_isAlone_26 (by decide) ?_
  refine G.istore (L' := [some (.ref 74), some (.int x1), some (.int x2), some (.int x3), some (.int u0), some (.int (0 : Int32))]) dX12_isAlone_27 (Nat.le_of_ble_eq_true rfl) (Nat.le_of_ble_eq_true rfl) rfl rfl ?_
  exact lX12_isAlone_29 E d rr x1 x2 x3 I _ hK FU _ hf
def fX12_isAlone (x1 : Int32) (x2 : Int32) (I : Mem) : Option Int32 :=
  bnd (fX12_roomIn x1 x2 I) fun v_2 =>
  chk (inb (4 : Int32) 632) <|
  bnd (fX12_has (I 75 (ix (4 : Int32))) v_2 I) fun v_5 =>
  if v_5 = 0 then
  (jX12_isAlone_24 x1 x2 v_2 (1 : Int32) I)
  else
  (jX12_isAlone_24 x1 x2 v_2 (0 : Int32) I)
set_option maxRecDepth 20000 in
theorem gX12_isAlone (E : EV) (d : Nat) (x1 : Int32) (x2 : Int32) (I : Mem) {v : Int32} (hf : fX12_isAlone x1 x2 I = some v) : Gm E (d + 1) kX12_isAlone [.ref 74, .int x1, .int x2] I (some (.int v), I) := by
  refine (fun (y : Int32) (hf : fX12_isAlone x1 x2 I = some y) => (?_ : Gm E (d + 1) kX12_isAlone [.ref 74, .int x1, .int x2] I (some (.int y), I))) v hf
  refine Gm.of (by decide) rfl (Nat.le_of_ble_eq_true rfl) ?_
  generalize hrr : ((some (.int y), I) : Option Value × Mem) = rr
  show G E (d + 1) kX12_isAlone 0 [some (.ref 74), some (.int x1), some (.int x2), none, none, none] [] I rr
  have hK : (fun (z : Int32) => (some (.int z), I) = rr) y := hrr
  clear hrr
  unfold fX12_isAlone at hf
  refine G.iload_n dX12_isAlone_0 rfl rfl ?_
  refine G.iload_n dX12_isAlone_1 rfl rfl ?_
  obtain ⟨v_2, hc_1, hf⟩ := bnd_at hf
  refine G.callSi (av := [.int x1, .int x2]) (rest := []) dX12_isAlone_2 msX12_151 (gX12_roomIn E d x1 x2 I hc_1) rfl rfl (Nat.le_of_ble_eq_true rfl) ?_
  refine G.istore_n (L' := [some (.ref 74), some (.int x1), some (.int x2), some (.int v_2), none, none]) dX12_isAlone_5 rfl (Nat.le_of_ble_eq_true rfl) (Nat.le_of_ble_eq_true rfl) rfl rfl ?_
  refine G.aload_n dX12_isAlone_6 rfl rfl ?_
  refine G.getR (q := 75) dX12_isAlone_7 flX12_7 (by decide) rfl rfl ?_
  refine G.iconst (v := 4) dX12_isAlone_10 (by decide) ?_
  obtain ⟨hi_3, hf⟩ := chk_at hf
  refine G.iald' dX12_isAlone_11 (by decide) rfl rfl hi_3 ?_
  refine G.iload_n dX12_isAlone_12 rfl rfl ?_
  obtain ⟨v_5, hc_4, hf⟩ := bnd_at hf
  refine G.callSi (av := [.int (I 75 (ix (4 : Int32))), .int v_2]) (rest := []) dX12_isAlone_13 msX12_67 (gX12_has E d (I 75 (ix (4 : Int32))) v_2 I hc_4) rfl rfl (Nat.le_of_ble_eq_true rfl) ?_
  refine G.if_ne (tgt := 23) dX12_isAlone_16 (by decide) (fun c_14 => ?_) (fun c_14 => ?_)
  · have hf := ite_f hf c_14
    refine G.iconst (v := 0) dX12_isAlone_23 (by decide) ?_
    exact tX12_isAlone_24 E d rr x1 x2 v_2 (0 : Int32) I _ hf hK
  · have hf := ite_t hf c_14
    refine G.iconst (v := 1) dX12_isAlone_19 (by decide) ?_
    refine G.goto (tgt := 24) dX12_isAlone_20 (by decide) ?_
    exact tX12_isAlone_24 E d rr x1 x2 v_2 (1 : Int32) I _ hf hK
theorem dX12_mayGo_0 : decode cX12_mayGo 0 = .ok (.iconst 1, 1) := by decide +kernel
theorem dX12_mayGo_1 : decode cX12_mayGo 1 = .ok (.istore_n 3, 1) := by decide +kernel
theorem dX12_mayGo_2 : decode cX12_mayGo 2 = .ok (.iconst 0, 1) := by decide +kernel
theorem dX12_mayGo_3 : decode cX12_mayGo 3 = .ok (.istore 4, 2) := by decide +kernel
theorem dX12_mayGo_5 : decode cX12_mayGo 5 = .ok (.iload 4, 2) := by decide +kernel
theorem dX12_mayGo_7 : decode cX12_mayGo 7 = .ok (.aload_n 0, 1) := by decide +kernel
theorem dX12_mayGo_8 : decode cX12_mayGo 8 = .ok (.getfield 7, 3) := by decide +kernel
theorem dX12_mayGo_11 : decode cX12_mayGo 11 = .ok (.iconst 3, 1) := by decide +kernel
theorem dX12_mayGo_12 : decode cX12_mayGo 12 = .ok (.iaload, 1) := by decide +kernel
theorem dX12_mayGo_13 : decode cX12_mayGo 13 = .ok (.if_icmp .ge 59, 3) := by decide +kernel
theorem dX12_mayGo_16 : decode cX12_mayGo 16 = .ok (.iload_n 1, 1) := by decide +kernel
theorem dX12_mayGo_17 : decode cX12_mayGo 17 = .ok (.iload 4, 2) := by decide +kernel
theorem dX12_mayGo_19 : decode cX12_mayGo 19 = .ok (.invokestatic 151, 3) := by decide +kernel
theorem dX12_mayGo_22 : decode cX12_mayGo 22 = .ok (.istore 5, 2) := by decide +kernel
theorem dX12_mayGo_24 : decode cX12_mayGo 24 = .ok (.iload_n 2, 1) := by decide +kernel
theorem dX12_mayGo_25 : decode cX12_mayGo 25 = .ok (.iload 4, 2) := by decide +kernel
theorem dX12_mayGo_27 : decode cX12_mayGo 27 = .ok (.invokestatic 151, 3) := by decide +kernel
theorem dX12_mayGo_30 : decode cX12_mayGo 30 = .ok (.istore 6, 2) := by decide +kernel
theorem dX12_mayGo_32 : decode cX12_mayGo 32 = .ok (.iload_n 3, 1) := by decide +kernel
theorem dX12_mayGo_33 : decode cX12_mayGo 33 = .ok (.ifCond .eq 31, 3) := by decide +kernel
theorem dX12_mayGo_36 : decode cX12_mayGo 36 = .ok (.iload 5, 2) := by decide +kernel
theorem dX12_mayGo_38 : decode cX12_mayGo 38 = .ok (.iload 6, 2) := by decide +kernel
theorem dX12_mayGo_40 : decode cX12_mayGo 40 = .ok (.if_icmp .eq 20, 3) := by decide +kernel
theorem dX12_mayGo_43 : decode cX12_mayGo 43 = .ok (.aload_n 0, 1) := by decide +kernel
theorem dX12_mayGo_44 : decode cX12_mayGo 44 = .ok (.getfield 7, 3) := by decide +kernel
theorem dX12_mayGo_47 : decode cX12_mayGo 47 = .ok (.iconst 5, 1) := by decide +kernel
theorem dX12_mayGo_48 : decode cX12_mayGo 48 = .ok (.iload 5, 2) := by decide +kernel
theorem dX12_mayGo_50 : decode cX12_mayGo 50 = .ok (.iadd, 1) := by decide +kernel
theorem dX12_mayGo_51 : decode cX12_mayGo 51 = .ok (.iaload, 1) := by decide +kernel
theorem dX12_mayGo_52 : decode cX12_mayGo 52 = .ok (.iload 6, 2) := by decide +kernel
theorem dX12_mayGo_54 : decode cX12_mayGo 54 = .ok (.invokestatic 67, 3) := by decide +kernel
theorem dX12_mayGo_57 : decode cX12_mayGo 57 = .ok (.ifCond .eq 7, 3) := by decide +kernel
theorem dX12_mayGo_60 : decode cX12_mayGo 60 = .ok (.iconst 1, 1) := by decide +kernel
theorem dX12_mayGo_61 : decode cX12_mayGo 61 = .ok (.goto 4, 3) := by decide +kernel
theorem dX12_mayGo_64 : decode cX12_mayGo 64 = .ok (.iconst 0, 1) := by decide +kernel
theorem dX12_mayGo_65 : decode cX12_mayGo 65 = .ok (.istore_n 3, 1) := by decide +kernel
theorem dX12_mayGo_66 : decode cX12_mayGo 66 = .ok (.iinc 4 1, 3) := by decide +kernel
theorem dX12_mayGo_69 : decode cX12_mayGo 69 = .ok (.goto (-64), 3) := by decide +kernel
theorem dX12_mayGo_72 : decode cX12_mayGo 72 = .ok (.iload_n 3, 1) := by decide +kernel
theorem dX12_mayGo_73 : decode cX12_mayGo 73 = .ok (.ireturn, 1) := by decide +kernel
def KX12_mayGo_5 (E : EV) (d : Nat) (rr : Option Value × Mem) (x1 : Int32) (x2 : Int32) (I : Mem) (Kp : Int32 → Prop) : ((Int32 × Int32) ⊕ Int32) → Prop
  | .inl q => G E (d + 1) kX12_mayGo 5 [some (.ref 74), some (.int x1), some (.int x2), some (.int q.1), some (.int q.2), none, none] [] I rr
  | .inr z => Kp z
def bX12_mayGo_5 (x1 : Int32) (x2 : Int32) (I : Mem) (x3 : Int32) (x4 : Int32) : Option ((Int32 × Int32) ⊕ Int32) :=
  chk (inb (3 : Int32) 632) <|
  if (I 75 (ix (3 : Int32))) ≤ x4 then
  (chk (zb x3) <|
  some (.inr x3))
  else
  (bnd (fX12_roomIn x1 x4 I) fun v_4 =>
  bnd (fX12_roomIn x2 x4 I) fun v_6 =>
  if x3 = 0 then
  (some (.inl ((0 : Int32), (x4 + (1 : Int32)))))
  else
  (if v_4 = v_6 then
  (some (.inl ((1 : Int32), (x4 + (1 : Int32)))))
  else
  (chk (inb ((5 : Int32) + v_4) 632) <|
  bnd (fX12_has (I 75 (ix ((5 : Int32) + v_4))) v_6 I) fun v_9 =>
  if v_9 = 0 then
  (some (.inl ((0 : Int32), (x4 + (1 : Int32)))))
  else
  (some (.inl ((1 : Int32), (x4 + (1 : Int32))))))))
def sX12_mayGo_5 (x1 : Int32) (x2 : Int32) (I : Mem) (q : (Int32 × Int32)) : Option ((Int32 × Int32) ⊕ Int32) := bX12_mayGo_5 x1 x2 I q.1 q.2
set_option maxRecDepth 20000 in
theorem wX12_mayGo_5 (E : EV) (d : Nat) (rr : Option Value × Mem) (x1 : Int32) (x2 : Int32) (I : Mem) (x3 : Int32) (x4 : Int32) (y : ((Int32 × Int32) ⊕ Int32)) (hf : bX12_mayGo_5 x1 x2 I x3 x4 = some y) (hK : (KX12_mayGo_5 E d rr x1 x2 I (fun (z : Int32) => (some (.int z), I) = rr)) y) : G E (d + 1) kX12_mayGo 5 [some (.ref 74), some (.int x1), some (.int x2), some (.int x3), some (.int x4), none, none] [] I rr := by
  unfold bX12_mayGo_5 at hf
  refine G.iload dX12_mayGo_5 rfl ?_
  refine G.aload_n dX12_mayGo_7 rfl rfl ?_
  refine G.getR (q := 75) dX12_mayGo_8 flX12_7 (by decide) rfl rfl ?_
  refine G.iconst (v := 3) dX12_mayGo_11 (by decide) ?_
  obtain ⟨hi_1, hf⟩ := chk_at hf
  refine G.iald' dX12_mayGo_12 (by decide) rfl rfl hi_1 ?_
  refine G.icmp_ge (tgt := 72) dX12_mayGo_13 (by decide) (fun c_13 => ?_) (fun c_13 => ?_)
  · have hf := ite_t hf c_13
    refine G.iload_n dX12_mayGo_72 rfl rfl ?_
    obtain ⟨hz_2, hf⟩ := chk_at hf
    have hf := Option.some.inj hf
    subst hf
    exact G.zret' dX12_mayGo_73 rfl hz_2 hK
  · have hf := ite_f hf c_13
    refine G.iload_n dX12_mayGo_16 rfl rfl ?_
    refine G.iload dX12_mayGo_17 rfl ?_
    obtain ⟨v_4, hc_3, hf⟩ := bnd_at hf
    refine G.callSi (av := [.int x1, .int x4]) (rest := []) dX12_mayGo_19 msX12_151 (gX12_roomIn E d x1 x4 I hc_3) rfl rfl (Nat.le_of_ble_eq_true rfl) ?_
    refine G.istore (L' := [some (.ref 74), some (.int x1), some (.int x2), some (.int x3), some (.int x4), some (.int v_4), none]) dX12_mayGo_22 (Nat.le_of_ble_eq_true rfl) (Nat.le_of_ble_eq_true rfl) rfl rfl ?_
    refine G.iload_n dX12_mayGo_24 rfl rfl ?_
    refine G.iload dX12_mayGo_25 rfl ?_
    obtain ⟨v_6, hc_5, hf⟩ := bnd_at hf
    refine G.callSi (av := [.int x2, .int x4]) (rest := []) dX12_mayGo_27 msX12_151 (gX12_roomIn E d x2 x4 I hc_5) rfl rfl (Nat.le_of_ble_eq_true rfl) ?_
    refine G.istore (L' := [some (.ref 74), some (.int x1), some (.int x2), some (.int x3), some (.int x4), some (.int v_4), some (.int v_6)]) dX12_mayGo_30 (Nat.le_of_ble_eq_true rfl) (Nat.le_of_ble_eq_true rfl) rfl rfl ?_
    refine G.iload_n dX12_mayGo_32 rfl rfl ?_
    refine G.if_eq (tgt := 64) dX12_mayGo_33 (by decide) (fun c_12 => ?_) (fun c_12 => ?_)
    · have hf := ite_t hf c_12
      refine G.iconst (v := 0) dX12_mayGo_64 (by decide) ?_
      refine G.istore_n (L' := [some (.ref 74), some (.int x1), some (.int x2), some (.int (0 : Int32)), some (.int x4), some (.int v_4), some (.int v_6)]) dX12_mayGo_65 rfl (Nat.le_of_ble_eq_true rfl) (Nat.le_of_ble_eq_true rfl) rfl rfl ?_
      refine G.inc (w := 1) (L' := [some (.ref 74), some (.int x1), some (.int x2), some (.int (0 : Int32)), some (.int (x4 + (1 : Int32))), some (.int v_4), some (.int v_6)]) dX12_mayGo_66 (by decide) rfl (Nat.le_of_ble_eq_true rfl) rfl rfl ?_
      refine G.goto (tgt := 5) dX12_mayGo_69 (by decide) ?_
      have hf := Option.some.inj hf
      subst hf
      refine G.forget (L' := [some (.ref 74), some (.int x1), some (.int x2), some (.int (0 : Int32)), some (.int (x4 + (1 : Int32))), none, none]) [5, 6] rfl ?_
      exact hK
    · have hf := ite_f hf c_12
      refine G.iload dX12_mayGo_36 rfl ?_
      refine G.iload dX12_mayGo_38 rfl ?_
      refine G.icmp_eq (tgt := 60) dX12_mayGo_40 (by decide) (fun c_11 => ?_) (fun c_11 => ?_)
      · have hf := ite_t hf c_11
        refine G.iconst (v := 1) dX12_mayGo_60 (by decide) ?_
        refine G.goto (tgt := 65) dX12_mayGo_61 (by decide) ?_
        refine G.istore_n (L' := [some (.ref 74), some (.int x1), some (.int x2), some (.int (1 : Int32)), some (.int x4), some (.int v_4), some (.int v_6)]) dX12_mayGo_65 rfl (Nat.le_of_ble_eq_true rfl) (Nat.le_of_ble_eq_true rfl) rfl rfl ?_
        refine G.inc (w := 1) (L' := [some (.ref 74), some (.int x1), some (.int x2), some (.int (1 : Int32)), some (.int (x4 + (1 : Int32))), some (.int v_4), some (.int v_6)]) dX12_mayGo_66 (by decide) rfl (Nat.le_of_ble_eq_true rfl) rfl rfl ?_
        refine G.goto (tgt := 5) dX12_mayGo_69 (by decide) ?_
        have hf := Option.some.inj hf
        subst hf
        refine G.forget (L' := [some (.ref 74), some (.int x1), some (.int x2), some (.int (1 : Int32)), some (.int (x4 + (1 : Int32))), none, none]) [5, 6] rfl ?_
        exact hK
      · have hf := ite_f hf c_11
        refine G.aload_n dX12_mayGo_43 rfl rfl ?_
        refine G.getR (q := 75) dX12_mayGo_44 flX12_7 (by decide) rfl rfl ?_
        refine G.iconst (v := 5) dX12_mayGo_47 (by decide) ?_
        refine G.iload dX12_mayGo_48 rfl ?_
        refine G.iadd dX12_mayGo_50 ?_
        obtain ⟨hi_7, hf⟩ := chk_at hf
        refine G.iald' dX12_mayGo_51 (by decide) rfl rfl hi_7 ?_
        refine G.iload dX12_mayGo_52 rfl ?_
        obtain ⟨v_9, hc_8, hf⟩ := bnd_at hf
        refine G.callSi (av := [.int (I 75 (ix ((5 : Int32) + v_4))), .int v_6]) (rest := []) dX12_mayGo_54 msX12_67 (gX12_has E d (I 75 (ix ((5 : Int32) + v_4))) v_6 I hc_8) rfl rfl (Nat.le_of_ble_eq_true rfl) ?_
        refine G.if_eq (tgt := 64) dX12_mayGo_57 (by decide) (fun c_10 => ?_) (fun c_10 => ?_)
        · have hf := ite_t hf c_10
          refine G.iconst (v := 0) dX12_mayGo_64 (by decide) ?_
          refine G.istore_n (L' := [some (.ref 74), some (.int x1), some (.int x2), some (.int (0 : Int32)), some (.int x4), some (.int v_4), some (.int v_6)]) dX12_mayGo_65 rfl (Nat.le_of_ble_eq_true rfl) (Nat.le_of_ble_eq_true rfl) rfl rfl ?_
          refine G.inc (w := 1) (L' := [some (.ref 74), some (.int x1), some (.int x2), some (.int (0 : Int32)), some (.int (x4 + (1 : Int32))), some (.int v_4), some (.int v_6)]) dX12_mayGo_66 (by decide) rfl (Nat.le_of_ble_eq_true rfl) rfl rfl ?_
          refine G.goto (tgt := 5) dX12_mayGo_69 (by decide) ?_
          have hf := Option.some.inj hf
          subst hf
          refine G.forget (L' := [some (.ref 74), some (.int x1), some (.int x2), some (.int (0 : Int32)), some (.int (x4 + (1 : Int32))), none, none]) [5, 6] rfl ?_
          exact hK
        · have hf := ite_f hf c_10
          refine G.iconst (v := 1) dX12_mayGo_60 (by decide) ?_
          refine G.goto (tgt := 65) dX12_mayGo_61 (by decide) ?_
          refine G.istore_n (L' := [some (.ref 74), some (.int x1), some (.int x2), some (.int (1 : Int32)), some (.int x4), some (.int v_4), some (.int v_6)]) dX12_mayGo_65 rfl (Nat.le_of_ble_eq_true rfl) (Nat.le_of_ble_eq_true rfl) rfl rfl ?_
          refine G.inc (w := 1) (L' := [some (.ref 74), some (.int x1), some (.int x2), some (.int (1 : Int32)), some (.int (x4 + (1 : Int32))), some (.int v_4), some (.int v_6)]) dX12_mayGo_66 (by decide) rfl (Nat.le_of_ble_eq_true rfl) rfl rfl ?_
          refine G.goto (tgt := 5) dX12_mayGo_69 (by decide) ?_
          have hf := Option.some.inj hf
          subst hf
          refine G.forget (L' := [some (.ref 74), some (.int x1), some (.int x2), some (.int (1 : Int32)), some (.int (x4 + (1 : Int32))), none, none]) [5, 6] rfl ?_
          exact hK
theorem lX12_mayGo_5 (E : EV) (d : Nat) (rr : Option Value × Mem) (x1 : Int32) (x2 : Int32) (I : Mem) (z : Int32) (hK : (fun (z : Int32) => (some (.int z), I) = rr) z) : ∀ (n : Nat) (q : (Int32 × Int32)), iter (sX12_mayGo_5 x1 x2 I) n q = some z → G E (d + 1) kX12_mayGo 5 [some (.ref 74), some (.int x1), some (.int x2), some (.int q.1), some (.int q.2), none, none] [] I rr := by
  intro n
  induction n with
  | zero => intro q h; cases h
  | succ n ih =>
    intro q h
    rcases iter_at h with ⟨q2, hs, h2⟩ | hs
    · exact wX12_mayGo_5 E d rr x1 x2 I q.1 q.2 _ hs (ih q2 h2)
    · exact wX12_mayGo_5 E d rr x1 x2 I q.1 q.2 _ hs hK
def fX12_mayGo (x1 : Int32) (x2 : Int32) (I : Mem) : Option Int32 :=
  iter (sX12_mayGo_5 x1 x2 I) FU ((1 : Int32), (0 : Int32))
set_option maxRecDepth 20000 in
theorem gX12_mayGo (E : EV) (d : Nat) (x1 : Int32) (x2 : Int32) (I : Mem) {v : Int32} (hf : fX12_mayGo x1 x2 I = some v) : Gm E (d + 1) kX12_mayGo [.ref 74, .int x1, .int x2] I (some (.int v), I) := by
  refine (fun (y : Int32) (hf : fX12_mayGo x1 x2 I = some y) => (?_ : Gm E (d + 1) kX12_mayGo [.ref 74, .int x1, .int x2] I (some (.int y), I))) v hf
  refine Gm.of (by decide) rfl (Nat.le_of_ble_eq_true rfl) ?_
  generalize hrr : ((some (.int y), I) : Option Value × Mem) = rr
  show G E (d + 1) kX12_mayGo 0 [some (.ref 74), some (.int x1), some (.int x2), none, none, none, none] [] I rr
  have hK : (fun (z : Int32) => (some (.int z), I) = rr) y := hrr
  clear hrr
  unfold fX12_mayGo at hf
  refine G.iconst (v := 1) dX12_mayGo_0 (by decide) ?_
  refine G.istore_n (L' := [some (.ref 74), some (.int x1), some (.int x2), some (.int (1 : Int32)), none, none, none]) dX12_mayGo_1 rfl (Nat.le_of_ble_eq_true rfl) (Nat.le_of_ble_eq_true rfl) rfl rfl ?_
  refine G.iconst (v := 0) dX12_mayGo_2 (by decide) ?_
  refine G.istore (L' := [some (.ref 74), some (.int x1), some (.int x2), some (.int (1 : Int32)), some (.int (0 : Int32)), none, none]) dX12_mayGo_3 (Nat.le_of_ble_eq_true rfl) (Nat.le_of_ble_eq_true rfl) rfl rfl ?_
  exact lX12_mayGo_5 E d rr x1 x2 I _ hK FU _ hf
theorem dX12_lays_0 : decode cX12_lays 0 = .ok (.iload_n 3, 1) := by decide +kernel
theorem dX12_lays_1 : decode cX12_lays 1 = .ok (.iload 5, 2) := by decide +kernel
theorem dX12_lays_3 : decode cX12_lays 3 = .ok (.invokestatic 151, 3) := by decide +kernel
theorem dX12_lays_6 : decode cX12_lays 6 = .ok (.iload 4, 2) := by decide +kernel
theorem dX12_lays_8 : decode cX12_lays 8 = .ok (.iload 5, 2) := by decide +kernel
theorem dX12_lays_10 : decode cX12_lays 10 = .ok (.invokestatic 151, 3) := by decide +kernel
theorem dX12_lays_13 : decode cX12_lays 13 = .ok (.if_icmp .ne 7, 3) := by decide +kernel
theorem dX12_lays_16 : decode cX12_lays 16 = .ok (.iconst 1, 1) := by decide +kernel
theorem dX12_lays_17 : decode cX12_lays 17 = .ok (.goto 4, 3) := by decide +kernel
theorem dX12_lays_20 : decode cX12_lays 20 = .ok (.iconst 0, 1) := by decide +kernel
theorem dX12_lays_21 : decode cX12_lays 21 = .ok (.istore 6, 2) := by decide +kernel
theorem dX12_lays_23 : decode cX12_lays 23 = .ok (.aload_n 0, 1) := by decide +kernel
theorem dX12_lays_24 : decode cX12_lays 24 = .ok (.iload 4, 2) := by decide +kernel
theorem dX12_lays_26 : decode cX12_lays 26 = .ok (.iload 5, 2) := by decide +kernel
theorem dX12_lays_28 : decode cX12_lays 28 = .ok (.invokevirtual 155, 3) := by decide +kernel
theorem dX12_lays_31 : decode cX12_lays 31 = .ok (.ifCond .eq 24, 3) := by decide +kernel
theorem dX12_lays_34 : decode cX12_lays 34 = .ok (.iload_n 1, 1) := by decide +kernel
theorem dX12_lays_35 : decode cX12_lays 35 = .ok (.iconst 3, 1) := by decide +kernel
theorem dX12_lays_36 : decode cX12_lays 36 = .ok (.if_icmp .ne 9, 3) := by decide +kernel
theorem dX12_lays_39 : decode cX12_lays 39 = .ok (.iload_n 2, 1) := by decide +kernel
theorem dX12_lays_40 : decode cX12_lays 40 = .ok (.iconst 2, 1) := by decide +kernel
theorem dX12_lays_41 : decode cX12_lays 41 = .ok (.irem, 1) := by decide +kernel
theorem dX12_lays_42 : decode cX12_lays 42 = .ok (.ifCond .eq 13, 3) := by decide +kernel
theorem dX12_lays_45 : decode cX12_lays 45 = .ok (.iload_n 1, 1) := by decide +kernel
theorem dX12_lays_46 : decode cX12_lays 46 = .ok (.iconst 4, 1) := by decide +kernel
theorem dX12_lays_47 : decode cX12_lays 47 = .ok (.if_icmp .ne 10, 3) := by decide +kernel
theorem dX12_lays_50 : decode cX12_lays 50 = .ok (.iload 6, 2) := by decide +kernel
theorem dX12_lays_52 : decode cX12_lays 52 = .ok (.ifCond .eq 5, 3) := by decide +kernel
theorem dX12_lays_55 : decode cX12_lays 55 = .ok (.iconst 0, 1) := by decide +kernel
theorem dX12_lays_56 : decode cX12_lays 56 = .ok (.ireturn, 1) := by decide +kernel
theorem dX12_lays_57 : decode cX12_lays 57 = .ok (.iload_n 1, 1) := by decide +kernel
theorem dX12_lays_58 : decode cX12_lays 58 = .ok (.iconst 1, 1) := by decide +kernel
theorem dX12_lays_59 : decode cX12_lays 59 = .ok (.if_icmp .eq 23, 3) := by decide +kernel
theorem dX12_lays_62 : decode cX12_lays 62 = .ok (.iload_n 1, 1) := by decide +kernel
theorem dX12_lays_63 : decode cX12_lays 63 = .ok (.iconst 3, 1) := by decide +kernel
theorem dX12_lays_64 : decode cX12_lays 64 = .ok (.if_icmp .eq 18, 3) := by decide +kernel
theorem dX12_lays_67 : decode cX12_lays 67 = .ok (.iload 6, 2) := by decide +kernel
theorem dX12_lays_69 : decode cX12_lays 69 = .ok (.ifCond .eq 13, 3) := by decide +kernel
theorem dX12_lays_72 : decode cX12_lays 72 = .ok (.aload_n 0, 1) := by decide +kernel
theorem dX12_lays_73 : decode cX12_lays 73 = .ok (.iload_n 3, 1) := by decide +kernel
theorem dX12_lays_74 : decode cX12_lays 74 = .ok (.iload 5, 2) := by decide +kernel
theorem dX12_lays_76 : decode cX12_lays 76 = .ok (.invokevirtual 155, 3) := by decide +kernel
theorem dX12_lays_79 : decode cX12_lays 79 = .ok (.ifCond .ne 7, 3) := by decide +kernel
theorem dX12_lays_82 : decode cX12_lays 82 = .ok (.iconst 1, 1) := by decide +kernel
theorem dX12_lays_83 : decode cX12_lays 83 = .ok (.goto 4, 3) := by decide +kernel
theorem dX12_lays_86 : decode cX12_lays 86 = .ok (.iconst 0, 1) := by decide +kernel
theorem dX12_lays_87 : decode cX12_lays 87 = .ok (.ireturn, 1) := by decide +kernel
def jX12_lays_57 (x1 : Int32) (x3 : Int32) (x5 : Int32) (x6 : Int32) (I : Mem) : Option Int32 :=
  if x1 = (1 : Int32) then
  (some (1 : Int32))
  else
  (if x1 = (3 : Int32) then
  (some (1 : Int32))
  else
  (if x6 = 0 then
  (some (1 : Int32))
  else
  (bnd (fX12_isAlone x3 x5 I) fun v_8 =>
  if v_8 = 0 then
  (some (1 : Int32))
  else
  (some (0 : Int32)))))
set_option maxRecDepth 20000 in
theorem tX12_lays_57 (E : EV) (d : Nat) (rr : Option Value × Mem) (x1 : Int32) (x3 : Int32) (x5 : Int32) (x6 : Int32) (I : Mem) (y : Int32) (hf : jX12_lays_57 x1 x3 x5 x6 I = some y) (hK : (fun (z : Int32) => (some (.int z), I) = rr) y) : G E (d + 2) kX12_lays 57 [some (.ref 74), some (.int x1), none, some (.int x3), none, some (.int x5), some (.int x6)] [] I rr := by
  unfold jX12_lays_57 at hf
  refine G.iload_n dX12_lays_57 rfl rfl ?_
  refine G.iconst (v := 1) dX12_lays_58 (by decide) ?_
  refine G.icmp_eq (tgt := 82) dX12_lays_59 (by decide) (fun c_12 => ?_) (fun c_12 => ?_)
  · have hf := ite_t hf c_12
    refine G.iconst (v := 1) dX12_lays_82 (by decide) ?_
    refine G.goto (tgt := 87) dX12_lays_83 (by decide) ?_
    have hf := Option.some.inj hf
    subst hf
    exact G.zret' dX12_lays_87 rfl (by decide) hK
  · have hf := ite_f hf c_12
    refine G.iload_n dX12_lays_62 rfl rfl ?_
    refine G.iconst (v := 3) dX12_lays_63 (by decide) ?_
    refine G.icmp_eq (tgt := 82) dX12_lays_64 (by decide) (fun c_11 => ?_) (fun c_11 => ?_)
    · have hf := ite_t hf c_11
      refine G.iconst (v := 1) dX12_lays_82 (by decide) ?_
      refine G.goto (tgt := 87) dX12_lays_83 (by decide) ?_
      have hf := Option.some.inj hf
      subst hf
      exact G.zret' dX12_lays_87 rfl (by decide) hK
    · have hf := ite_f hf c_11
      refine G.iload dX12_lays_67 rfl ?_
      refine G.if_eq (tgt := 82) dX12_lays_69 (by decide) (fun c_10 => ?_) (fun c_10 => ?_)
      · have hf := ite_t hf c_10
        refine G.iconst (v := 1) dX12_lays_82 (by decide) ?_
        refine G.goto (tgt := 87) dX12_lays_83 (by decide) ?_
        have hf := Option.some.inj hf
        subst hf
        exact G.zret' dX12_lays_87 rfl (by decide) hK
      · have hf := ite_f hf c_10
        refine G.aload_n dX12_lays_72 rfl rfl ?_
        refine G.iload_n dX12_lays_73 rfl rfl ?_
        refine G.iload dX12_lays_74 rfl ?_
        obtain ⟨v_8, hc_7, hf⟩ := bnd_at hf
        refine G.callVi (av := [.int x3, .int x5]) (rest := []) dX12_lays_76 mvX12_155 (gX12_isAlone E d x3 x5 I hc_7) (by decide) rfl rfl rfl (Nat.le_of_ble_eq_true rfl) ?_
        refine G.if_ne (tgt := 86) dX12_lays_79 (by decide) (fun c_9 => ?_) (fun c_9 => ?_)
        · have hf := ite_f hf c_9
          refine G.iconst (v := 0) dX12_lays_86 (by decide) ?_
          have hf := Option.some.inj hf
          subst hf
          exact G.zret' dX12_lays_87 rfl (by decide) hK
        · have hf := ite_t hf c_9
          refine G.iconst (v := 1) dX12_lays_82 (by decide) ?_
          refine G.goto (tgt := 87) dX12_lays_83 (by decide) ?_
          have hf := Option.some.inj hf
          subst hf
          exact G.zret' dX12_lays_87 rfl (by decide) hK
def jX12_lays_45 (x1 : Int32) (x3 : Int32) (x5 : Int32) (x6 : Int32) (I : Mem) : Option Int32 :=
  if x1 = (4 : Int32) then
  (if x6 = 0 then
  (jX12_lays_57 x1 x3 x5 x6 I)
  else
  (some (0 : Int32)))
  else
  (jX12_lays_57 x1 x3 x5 x6 I)
set_option maxRecDepth 20000 in
theorem tX12_lays_45 (E : EV) (d : Nat) (rr : Option Value × Mem) (x1 : Int32) (x3 : Int32) (x5 : Int32) (x6 : Int32) (I : Mem) (y : Int32) (hf : jX12_lays_45 x1 x3 x5 x6 I = some y) (hK : (fun (z : Int32) => (some (.int z), I) = rr) y) : G E (d + 2) kX12_lays 45 [some (.ref 74), some (.int x1), none, some (.int x3), none, some (.int x5), some (.int x6)] [] I rr := by
  unfold jX12_lays_45 at hf
  refine G.iload_n dX12_lays_45 rfl rfl ?_
  refine G.iconst (v := 4) dX12_lays_46 (by decide) ?_
  refine G.icmp_ne (tgt := 57) dX12_lays_47 (by decide) (fun c_14 => ?_) (fun c_14 => ?_)
  · have hf := ite_f hf c_14
    exact tX12_lays_57 E d rr x1 x3 x5 x6 I _ hf hK
  · have hf := ite_t hf c_14
    refine G.iload dX12_lays_50 rfl ?_
    refine G.if_eq (tgt := 57) dX12_lays_52 (by decide) (fun c_13 => ?_) (fun c_13 => ?_)
    · have hf := ite_t hf c_13
      exact tX12_lays_57 E d rr x1 x3 x5 x6 I _ hf hK
    · have hf := ite_f hf c_13
      refine G.iconst (v := 0) dX12_lays_55 (by decide) ?_
      have hf := Option.some.inj hf
      subst hf
      exact G.zret' dX12_lays_56 rfl (by decide) hK
def jX12_lays_21 (x1 : Int32) (x2 : Int32) (x3 : Int32) (x4 : Int32) (x5 : Int32) (u0 : Int32) (I : Mem) : Option Int32 :=
  bnd (fX12_isAlone x4 x5 I) fun v_6 =>
  if v_6 = 0 then
  (some (0 : Int32))
  else
  (if x1 = (3 : Int32) then
  (if (x2 - x2 / (2 : Int32) * (2 : Int32)) = 0 then
  (some (0 : Int32))
  else
  (jX12_lays_45 x1 x3 x5 u0 I))
  else
  (jX12_lays_45 x1 x3 x5 u0 I))
set_option maxRecDepth 20000 in
theorem tX12_lays_21 (E : EV) (d : Nat) (rr : Option Value × Mem) (x1 : Int32) (x2 : Int32) (x3 : Int32) (x4 : Int32) (x5 : Int32) (u0 : Int32) (I : Mem) (y : Int32) (hf : jX12_lays_21 x1 x2 x3 x4 x5 u0 I = some y) (hK : (fun (z : Int32) => (some (.int z), I) = rr) y) : G E (d + 2) kX12_lays 21 [some (.ref 74), some (.int x1), some (.int x2), some (.int x3), some (.int x4), some (.int x5), none] [.int u0] I rr := by
  unfold jX12_lays_21 at hf
  refine G.istore (L' := [some (.ref 74), some (.int x1), some (.int x2), some (.int x3), some (.int x4), some (.int x5), some (.int u0)]) dX12_lays_21 (Nat.le_of_ble_eq_true rfl) (Nat.le_of_ble_eq_true rfl) rfl rfl ?_
  refine G.aload_n dX12_lays_23 rfl rfl ?_
  refine G.iload dX12_lays_24 rfl ?_
  refine G.iload dX12_lays_26 rfl ?_
  obtain ⟨v_6, hc_5, hf⟩ := bnd_at hf
  refine G.callVi (av := [.int x4, .int x5]) (rest := []) dX12_lays_28 mvX12_155 (gX12_isAlone E d x4 x5 I hc_5) (by decide) rfl rfl rfl (Nat.le_of_ble_eq_true rfl) ?_
  refine G.if_eq (tgt := 55) dX12_lays_31 (by decide) (fun c_17 => ?_) (fun c_17 => ?_)
  · have hf := ite_t hf c_17
    refine G.iconst (v := 0) dX12_lays_55 (by decide) ?_
    have hf := Option.some.inj hf
    subst hf
    exact G.zret' dX12_lays_56 rfl (by decide) hK
  · have hf := ite_f hf c_17
    refine G.iload_n dX12_lays_34 rfl rfl ?_
    refine G.iconst (v := 3) dX12_lays_35 (by decide) ?_
    refine G.icmp_ne (tgt := 45) dX12_lays_36 (by decide) (fun c_16 => ?_) (fun c_16 => ?_)
    · have hf := ite_f hf c_16
      refine G.forget (L' := [some (.ref 74), some (.int x1), none, some (.int x3), none, some (.int x5), some (.int u0)]) [2, 4] rfl ?_
      exact tX12_lays_45 E d rr x1 x3 x5 u0 I _ hf hK
    · have hf := ite_t hf c_16
      refine G.iload_n dX12_lays_39 rfl rfl ?_
      refine G.iconst (v := 2) dX12_lays_40 (by decide) ?_
      refine G.irem dX12_lays_41 (by decide) ?_
      refine G.if_eq (tgt := 55) dX12_lays_42 (by decide) (fun c_15 => ?_) (fun c_15 => ?_)
      · have hf := ite_t hf c_15
        refine G.iconst (v := 0) dX12_lays_55 (by decide) ?_
        have hf := Option.some.inj hf
        subst hf
        exact G.zret' dX12_lays_56 rfl (by decide) hK
      · have hf := ite_f hf c_15
        refine G.forget (L' := [some (.ref 74), some (.int x1), none, some (.int x3), none, some (.int x5), some (.int u0)]) [2, 4] rfl ?_
        exact tX12_lays_45 E d rr x1 x3 x5 u0 I _ hf hK
def fX12_lays (x1 : Int32) (x2 : Int32) (x3 : Int32) (x4 : Int32) (x5 : Int32) (I : Mem) : Option Int32 :=
  bnd (fX12_roomIn x3 x5 I) fun v_2 =>
  bnd (fX12_roomIn x4 x5 I) fun v_4 =>
  if v_2 = v_4 then
  (jX12_lays_21 x1 x2 x3 x4 x5 (1 : Int32) I)
  else
  (jX12_lays_21 x1 x2 x3 x4 x5 (0 : Int32) I)
set_option maxRecDepth 20000 in
theorem gX12_lays (E : EV) (d : Nat) (x1 : Int32) (x2 : Int32) (x3 : Int32) (x4 : Int32) (x5 : Int32) (I : Mem) {v : Int32} (hf : fX12_lays x1 x2 x3 x4 x5 I = some v) : Gm E (d + 2) kX12_lays [.ref 74, .int x1, .int x2, .int x3, .int x4, .int x5] I (some (.int v), I) := by
  refine (fun (y : Int32) (hf : fX12_lays x1 x2 x3 x4 x5 I = some y) => (?_ : Gm E (d + 2) kX12_lays [.ref 74, .int x1, .int x2, .int x3, .int x4, .int x5] I (some (.int y), I))) v hf
  refine Gm.of (by decide) rfl (Nat.le_of_ble_eq_true rfl) ?_
  generalize hrr : ((some (.int y), I) : Option Value × Mem) = rr
  show G E (d + 2) kX12_lays 0 [some (.ref 74), some (.int x1), some (.int x2), some (.int x3), some (.int x4), some (.int x5), none] [] I rr
  have hK : (fun (z : Int32) => (some (.int z), I) = rr) y := hrr
  clear hrr
  unfold fX12_lays at hf
  refine G.iload_n dX12_lays_0 rfl rfl ?_
  refine G.iload dX12_lays_1 rfl ?_
  obtain ⟨v_2, hc_1, hf⟩ := bnd_at hf
  refine G.callSi (av := [.int x3, .int x5]) (rest := []) dX12_lays_3 msX12_151 (gX12_roomIn E (d + 1) x3 x5 I hc_1) rfl rfl (Nat.le_of_ble_eq_true rfl) ?_
  refine G.iload dX12_lays_6 rfl ?_
  refine G.iload dX12_lays_8 rfl ?_
  obtain ⟨v_4, hc_3, hf⟩ := bnd_at hf
  refine G.callSi (av := [.int x4, .int x5]) (rest := [.int v_2]) dX12_lays_10 msX12_151 (gX12_roomIn E (d + 1) x4 x5 I hc_3) rfl rfl (Nat.le_of_ble_eq_true rfl) ?_
  refine G.icmp_ne (tgt := 20) dX12_lays_13 (by decide) (fun c_18 => ?_) (fun c_18 => ?_)
  · have hf := ite_f hf c_18
    refine G.iconst (v := 0) dX12_lays_20 (by decide) ?_
    exact tX12_lays_21 E d rr x1 x2 x3 x4 x5 (0 : Int32) I _ hf hK
  · have hf := ite_t hf c_18
    refine G.iconst (v := 1) dX12_lays_16 (by decide) ?_
    refine G.goto (tgt := 21) dX12_lays_17 (by decide) ?_
    exact tX12_lays_21 E d rr x1 x2 x3 x4 x5 (1 : Int32) I _ hf hK
theorem dX12_laid_0 : decode cX12_laid 0 = .ok (.iconst 0, 1) := by decide +kernel
theorem dX12_laid_1 : decode cX12_laid 1 = .ok (.istore 5, 2) := by decide +kernel
theorem dX12_laid_3 : decode cX12_laid 3 = .ok (.iconst 0, 1) := by decide +kernel
theorem dX12_laid_4 : decode cX12_laid 4 = .ok (.istore 6, 2) := by decide +kernel
theorem dX12_laid_6 : decode cX12_laid 6 = .ok (.iload 6, 2) := by decide +kernel
theorem dX12_laid_8 : decode cX12_laid 8 = .ok (.aload_n 0, 1) := by decide +kernel
theorem dX12_laid_9 : decode cX12_laid 9 = .ok (.getfield 7, 3) := by decide +kernel
theorem dX12_laid_12 : decode cX12_laid 12 = .ok (.iconst 3, 1) := by decide +kernel
theorem dX12_laid_13 : decode cX12_laid 13 = .ok (.iaload, 1) := by decide +kernel
theorem dX12_laid_14 : decode cX12_laid 14 = .ok (.if_icmp .ge 33, 3) := by decide +kernel
theorem dX12_laid_17 : decode cX12_laid 17 = .ok (.iload 5, 2) := by decide +kernel
theorem dX12_laid_19 : decode cX12_laid 19 = .ok (.aload_n 0, 1) := by decide +kernel
theorem dX12_laid_20 : decode cX12_laid 20 = .ok (.iload_n 1, 1) := by decide +kernel
theorem dX12_laid_21 : decode cX12_laid 21 = .ok (.iload_n 2, 1) := by decide +kernel
theorem dX12_laid_22 : decode cX12_laid 22 = .ok (.iload_n 3, 1) := by decide +kernel
theorem dX12_laid_23 : decode cX12_laid 23 = .ok (.iload 4, 2) := by decide +kernel
theorem dX12_laid_25 : decode cX12_laid 25 = .ok (.iload 6, 2) := by decide +kernel
theorem dX12_laid_27 : decode cX12_laid 27 = .ok (.invokevirtual 158, 3) := by decide +kernel
theorem dX12_laid_30 : decode cX12_laid 30 = .ok (.ifCond .eq 7, 3) := by decide +kernel
theorem dX12_laid_33 : decode cX12_laid 33 = .ok (.iconst 1, 1) := by decide +kernel
theorem dX12_laid_34 : decode cX12_laid 34 = .ok (.goto 4, 3) := by decide +kernel
theorem dX12_laid_37 : decode cX12_laid 37 = .ok (.iconst 0, 1) := by decide +kernel
theorem dX12_laid_38 : decode cX12_laid 38 = .ok (.iadd, 1) := by decide +kernel
theorem dX12_laid_39 : decode cX12_laid 39 = .ok (.istore 5, 2) := by decide +kernel
theorem dX12_laid_41 : decode cX12_laid 41 = .ok (.iinc 6 1, 3) := by decide +kernel
theorem dX12_laid_44 : decode cX12_laid 44 = .ok (.goto (-38), 3) := by decide +kernel
theorem dX12_laid_47 : decode cX12_laid 47 = .ok (.iload 5, 2) := by decide +kernel
theorem dX12_laid_49 : decode cX12_laid 49 = .ok (.ireturn, 1) := by decide +kernel
def KX12_laid_6 (E : EV) (d : Nat) (rr : Option Value × Mem) (x1 : Int32) (x2 : Int32) (x3 : Int32) (x4 : Int32) (I : Mem) (Kp : Int32 → Prop) : ((Int32 × Int32) ⊕ Int32) → Prop
  | .inl q => G E (d + 3) kX12_laid 6 [some (.ref 74), some (.int x1), some (.int x2), some (.int x3), some (.int x4), some (.int q.1), some (.int q.2)] [] I rr
  | .inr z => Kp z
def bX12_laid_6 (x1 : Int32) (x2 : Int32) (x3 : Int32) (x4 : Int32) (I : Mem) (x5 : Int32) (x6 : Int32) : Option ((Int32 × Int32) ⊕ Int32) :=
  chk (inb (3 : Int32) 632) <|
  if (I 75 (ix (3 : Int32))) ≤ x6 then
  (some (.inr x5))
  else
  (bnd (fX12_lays x1 x2 x3 x4 x6 I) fun v_3 =>
  if v_3 = 0 then
  (letb (x5 + (0 : Int32)) fun x5_4 =>
  some (.inl (x5_4, (x6 + (1 : Int32)))))
  else
  (letb (x5 + (1 : Int32)) fun x5_5 =>
  some (.inl (x5_5, (x6 + (1 : Int32))))))
def sX12_laid_6 (x1 : Int32) (x2 : Int32) (x3 : Int32) (x4 : Int32) (I : Mem) (q : (Int32 × Int32)) : Option ((Int32 × Int32) ⊕ Int32) := bX12_laid_6 x1 x2 x3 x4 I q.1 q.2
set_option maxRecDepth 20000 in
theorem wX12_laid_6 (E : EV) (d : Nat) (rr : Option Value × Mem) (x1 : Int32) (x2 : Int32) (x3 : Int32) (x4 : Int32) (I : Mem) (x5 : Int32) (x6 : Int32) (y : ((Int32 × Int32) ⊕ Int32)) (hf : bX12_laid_6 x1 x2 x3 x4 I x5 x6 = some y) (hK : (KX12_laid_6 E d rr x1 x2 x3 x4 I (fun (z : Int32) => (some (.int z), I) = rr)) y) : G E (d + 3) kX12_laid 6 [some (.ref 74), some (.int x1), some (.int x2), some (.int x3), some (.int x4), some (.int x5), some (.int x6)] [] I rr := by
  unfold bX12_laid_6 at hf
  refine G.iload dX12_laid_6 rfl ?_
  refine G.aload_n dX12_laid_8 rfl rfl ?_
  refine G.getR (q := 75) dX12_laid_9 flX12_7 (by decide) rfl rfl ?_
  refine G.iconst (v := 3) dX12_laid_12 (by decide) ?_
  obtain ⟨hi_1, hf⟩ := chk_at hf
  refine G.iald' dX12_laid_13 (by decide) rfl rfl hi_1 ?_
  refine G.icmp_ge (tgt := 47) dX12_laid_14 (by decide) (fun c_7 => ?_) (fun c_7 => ?_)
  · have hf := ite_t hf c_7
    refine G.iload dX12_laid_47 rfl ?_
    have hf := Option.some.inj hf
    subst hf
    exact G.iret' dX12_laid_49 rfl hK
  · have hf := ite_f hf c_7
    refine G.iload dX12_laid_17 rfl ?_
    refine G.aload_n dX12_laid_19 rfl rfl ?_
    refine G.iload_n dX12_laid_20 rfl rfl ?_
    refine G.iload_n dX12_laid_21 rfl rfl ?_
    refine G.iload_n dX12_laid_22 rfl rfl ?_
    refine G.iload dX12_laid_23 rfl ?_
    refine G.iload dX12_laid_25 rfl ?_
    obtain ⟨v_3, hc_2, hf⟩ := bnd_at hf
    refine G.callVi (av := [.int x1, .int x2, .int x3, .int x4, .int x6]) (rest := [.int x5]) dX12_laid_27 mvX12_158 (gX12_lays E d x1 x2 x3 x4 x6 I hc_2) (by decide) rfl rfl rfl (Nat.le_of_ble_eq_true rfl) ?_
    refine G.if_eq (tgt := 37) dX12_laid_30 (by decide) (fun c_6 => ?_) (fun c_6 => ?_)
    · have hf := ite_t hf c_6
      refine G.iconst (v := 0) dX12_laid_37 (by decide) ?_
      refine G.iadd dX12_laid_38 ?_
      refine G.nmi (fun x5_4 e_x5_4 => ?_)
      have hf := letb_at hf e_x5_4
      clear e_x5_4
      refine G.istore (L' := [some (.ref 74), some (.int x1), some (.int x2), some (.int x3), some (.int x4), some (.int x5_4), some (.int x6)]) dX12_laid_39 (Nat.le_of_ble_eq_true rfl) (Nat.le_of_ble_eq_true rfl) rfl rfl ?_
      refine G.inc (w := 1) (L' := [some (.ref 74), some (.int x1), some (.int x2), some (.int x3), some (.int x4), some (.int x5_4), some (.int (x6 + (1 : Int32)))]) dX12_laid_41 (by decide) rfl (Nat.le_of_ble_eq_true rfl) rfl rfl ?_
      refine G.goto (tgt := 6) dX12_laid_44 (by decide) ?_
      have hf := Option.some.inj hf
      subst hf
      exact hK
    · have hf := ite_f hf c_6
      refine G.iconst (v := 1) dX12_laid_33 (by decide) ?_
      refine G.goto (tgt := 38) dX12_laid_34 (by decide) ?_
      refine G.iadd dX12_laid_38 ?_
      refine G.nmi (fun x5_5 e_x5_5 => ?_)
      have hf := letb_at hf e_x5_5
      clear e_x5_5
      refine G.istore (L' := [some (.ref 74), some (.int x1), some (.int x2), some (.int x3), some (.int x4), some (.int x5_5), some (.int x6)]) dX12_laid_39 (Nat.le_of_ble_eq_true rfl) (Nat.le_of_ble_eq_true rfl) rfl rfl ?_
      refine G.inc (w := 1) (L' := [some (.ref 74), some (.int x1), some (.int x2), some (.int x3), some (.int x4), some (.int x5_5), some (.int (x6 + (1 : Int32)))]) dX12_laid_41 (by decide) rfl (Nat.le_of_ble_eq_true rfl) rfl rfl ?_
      refine G.goto (tgt := 6) dX12_laid_44 (by decide) ?_
      have hf := Option.some.inj hf
      subst hf
      exact hK
theorem lX12_laid_6 (E : EV) (d : Nat) (rr : Option Value × Mem) (x1 : Int32) (x2 : Int32) (x3 : Int32) (x4 : Int32) (I : Mem) (z : Int32) (hK : (fun (z : Int32) => (some (.int z), I) = rr) z) : ∀ (n : Nat) (q : (Int32 × Int32)), iter (sX12_laid_6 x1 x2 x3 x4 I) n q = some z → G E (d + 3) kX12_laid 6 [some (.ref 74), some (.int x1), some (.int x2), some (.int x3), some (.int x4), some (.int q.1), some (.int q.2)] [] I rr := by
  intro n
  induction n with
  | zero => intro q h; cases h
  | succ n ih =>
    intro q h
    rcases iter_at h with ⟨q2, hs, h2⟩ | hs
    · exact wX12_laid_6 E d rr x1 x2 x3 x4 I q.1 q.2 _ hs (ih q2 h2)
    · exact wX12_laid_6 E d rr x1 x2 x3 x4 I q.1 q.2 _ hs hK
def fX12_laid (x1 : Int32) (x2 : Int32) (x3 : Int32) (x4 : Int32) (I : Mem) : Option Int32 :=
  iter (sX12_laid_6 x1 x2 x3 x4 I) FU ((0 : Int32), (0 : Int32))
set_option maxRecDepth 20000 in
theorem gX12_laid (E : EV) (d : Nat) (x1 : Int32) (x2 : Int32) (x3 : Int32) (x4 : Int32) (I : Mem) {v : Int32} (hf : fX12_laid x1 x2 x3 x4 I = some v) : Gm E (d + 3) kX12_laid [.ref 74, .int x1, .int x2, .int x3, .int x4] I (some (.int v), I) := by
  refine (fun (y : Int32) (hf : fX12_laid x1 x2 x3 x4 I = some y) => (?_ : Gm E (d + 3) kX12_laid [.ref 74, .int x1, .int x2, .int x3, .int x4] I (some (.int y), I))) v hf
  refine Gm.of (by decide) rfl (Nat.le_of_ble_eq_true rfl) ?_
  generalize hrr : ((some (.int y), I) : Option Value × Mem) = rr
  show G E (d + 3) kX12_laid 0 [some (.ref 74), some (.int x1), some (.int x2), some (.int x3), some (.int x4), none, none] [] I rr
  have hK : (fun (z : Int32) => (some (.int z), I) = rr) y := hrr
  clear hrr
  unfold fX12_laid at hf
  refine G.iconst (v := 0) dX12_laid_0 (by decide) ?_
  refine G.istore (L' := [some (.ref 74), some (.int x1), some (.int x2), some (.int x3), some (.int x4), some (.int (0 : Int32)), none]) dX12_laid_1 (Nat.le_of_ble_eq_true rfl) (Nat.le_of_ble_eq_true rfl) rfl rfl ?_
  refine G.iconst (v := 0) dX12_laid_3 (by decide) ?_
  refine G.istore (L' := [some (.ref 74), some (.int x1), some (.int x2), some (.int x3), some (.int x4), some (.int (0 : Int32)), some (.int (0 : Int32))]) dX12_laid_4 (Nat.le_of_ble_eq_true rfl) (Nat.le_of_ble_eq_true rfl) rfl rfl ?_
  exact lX12_laid_6 E d rr x1 x2 x3 x4 I _ hK FU _ hf
theorem dX12_eldest_0 : decode cX12_eldest 0 = .ok (.iconst 0, 1) := by decide +kernel
theorem dX12_eldest_1 : decode cX12_eldest 1 = .ok (.istore 6, 2) := by decide +kernel
theorem dX12_eldest_3 : decode cX12_eldest 3 = .ok (.iload 6, 2) := by decide +kernel
theorem dX12_eldest_5 : decode cX12_eldest 5 = .ok (.aload_n 0, 1) := by decide +kernel
theorem dX12_eldest_6 : decode cX12_eldest 6 = .ok (.getfield 7, 3) := by decide +kernel
theorem dX12_eldest_9 : decode cX12_eldest 9 = .ok (.iconst 3, 1) := by decide +kernel
theorem dX12_eldest_10 : decode cX12_eldest 10 = .ok (.iaload, 1) := by decide +kernel
theorem dX12_eldest_11 : decode cX12_eldest 11 = .ok (.if_icmp .ge 44, 3) := by decide +kernel
theorem dX12_eldest_14 : decode cX12_eldest 14 = .ok (.iload 6, 2) := by decide +kernel
theorem dX12_eldest_16 : decode cX12_eldest 16 = .ok (.iload 4, 2) := by decide +kernel
theorem dX12_eldest_18 : decode cX12_eldest 18 = .ok (.if_icmp .eq 31, 3) := by decide +kernel
theorem dX12_eldest_21 : decode cX12_eldest 21 = .ok (.iload_n 2, 1) := by decide +kernel
theorem dX12_eldest_22 : decode cX12_eldest 22 = .ok (.iload 6, 2) := by decide +kernel
theorem dX12_eldest_24 : decode cX12_eldest 24 = .ok (.invokestatic 151, 3) := by decide +kernel
theorem dX12_eldest_27 : decode cX12_eldest 27 = .ok (.iload_n 3, 1) := by decide +kernel
theorem dX12_eldest_28 : decode cX12_eldest 28 = .ok (.if_icmp .ne 21, 3) := by decide +kernel
theorem dX12_eldest_31 : decode cX12_eldest 31 = .ok (.iload 5, 2) := by decide +kernel
theorem dX12_eldest_33 : decode cX12_eldest 33 = .ok (.ifCond .eq 13, 3) := by decide +kernel
theorem dX12_eldest_36 : decode cX12_eldest 36 = .ok (.iload_n 1, 1) := by decide +kernel
theorem dX12_eldest_37 : decode cX12_eldest 37 = .ok (.iload 6, 2) := by decide +kernel
theorem dX12_eldest_39 : decode cX12_eldest 39 = .ok (.invokestatic 151, 3) := by decide +kernel
theorem dX12_eldest_42 : decode cX12_eldest 42 = .ok (.iload_n 3, 1) := by decide +kernel
theorem dX12_eldest_43 : decode cX12_eldest 43 = .ok (.if_icmp .eq 6, 3) := by decide +kernel
theorem dX12_eldest_46 : decode cX12_eldest 46 = .ok (.iload 6, 2) := by decide +kernel
theorem dX12_eldest_48 : decode cX12_eldest 48 = .ok (.ireturn, 1) := by decide +kernel
theorem dX12_eldest_49 : decode cX12_eldest 49 = .ok (.iinc 6 1, 3) := by decide +kernel
theorem dX12_eldest_52 : decode cX12_eldest 52 = .ok (.goto (-49), 3) := by decide +kernel
theorem dX12_eldest_55 : decode cX12_eldest 55 = .ok (.iconst (-1), 1) := by decide +kernel
theorem dX12_eldest_56 : decode cX12_eldest 56 = .ok (.ireturn, 1) := by decide +kernel
def KX12_eldest_3 (E : EV) (d : Nat) (rr : Option Value × Mem) (x1 : Int32) (x2 : Int32) (x3 : Int32) (x4 : Int32) (x5 : Int32) (I : Mem) (Kp : Int32 → Prop) : (Int32 ⊕ Int32) → Prop
  | .inl q => G E (d + 1) kX12_eldest 3 [some (.ref 74), some (.int x1), some (.int x2), some (.int x3), some (.int x4), some (.int x5), some (.int q)] [] I rr
  | .inr z => Kp z
def bX12_eldest_3 (x1 : Int32) (x2 : Int32) (x3 : Int32) (x4 : Int32) (x5 : Int32) (I : Mem) (x6 : Int32) : Option (Int32 ⊕ Int32) :=
  chk (inb (3 : Int32) 632) <|
  if (I 75 (ix (3 : Int32))) ≤ x6 then
  (some (.inr (-1 : Int32)))
  else
  (if x6 = x4 then
  (some (.inl (x6 + (1 : Int32))))
  else
  (bnd (fX12_roomIn x2 x6 I) fun v_3 =>
  if v_3 = x3 then
  (if x5 = 0 then
  (some (.inr x6))
  else
  (bnd (fX12_roomIn x1 x6 I) fun v_5 =>
  if v_5 = x3 then
  (some (.inl (x6 + (1 : Int32))))
  else
  (some (.inr x6))))
  else
  (some (.inl (x6 + (1 : Int32))))))
def sX12_eldest_3 (x1 : Int32) (x2 : Int32) (x3 : Int32) (x4 : Int32) (x5 : Int32) (I : Mem) (q : Int32) : Option (Int32 ⊕ Int32) := bX12_eldest_3 x1 x2 x3 x4 x5 I q
set_option maxRecDepth 20000 in
theorem wX12_eldest_3 (E : EV) (d : Nat) (rr : Option Value × Mem) (x1 : Int32) (x2 : Int32) (x3 : Int32) (x4 : Int32) (x5 : Int32) (I : Mem) (x6 : Int32) (y : (Int32 ⊕ Int32)) (hf : bX12_eldest_3 x1 x2 x3 x4 x5 I x6 = some y) (hK : (KX12_eldest_3 E d rr x1 x2 x3 x4 x5 I (fun (z : Int32) => (some (.int z), I) = rr)) y) : G E (d + 1) kX12_eldest 3 [some (.ref 74), some (.int x1), some (.int x2), some (.int x3), some (.int x4), some (.int x5), some (.int x6)] [] I rr := by
  unfold bX12_eldest_3 at hf
  refine G.iload dX12_eldest_3 rfl ?_
  refine G.aload_n dX12_eldest_5 rfl rfl ?_
  refine G.getR (q := 75) dX12_eldest_6 flX12_7 (by decide) rfl rfl ?_
  refine G.iconst (v := 3) dX12_eldest_9 (by decide) ?_
  obtain ⟨hi_1, hf⟩ := chk_at hf
  refine G.iald' dX12_eldest_10 (by decide) rfl rfl hi_1 ?_
  refine G.icmp_ge (tgt := 55) dX12_eldest_11 (by decide) (fun c_10 => ?_) (fun c_10 => ?_)
  · have hf := ite_t hf c_10
    refine G.iconst (v := -1) dX12_eldest_55 (by decide) ?_
    have hf := Option.some.inj hf
    subst hf
    exact G.iret' dX12_eldest_56 rfl hK
  · have hf := ite_f hf c_10
    refine G.iload dX12_eldest_14 rfl ?_
    refine G.iload dX12_eldest_16 rfl ?_
    refine G.icmp_eq (tgt := 49) dX12_eldest_18 (by decide) (fun c_9 => ?_) (fun c_9 => ?_)
    · have hf := ite_t hf c_9
      refine G.inc (w := 1) (L' := [some (.ref 74), some (.int x1), some (.int x2), some (.int x3), some (.int x4), some (.int x5), some (.int (x6 + (1 : Int32)))]) dX12_eldest_49 (by decide) rfl (Nat.le_of_ble_eq_true rfl) rfl rfl ?_
      refine G.goto (tgt := 3) dX12_eldest_52 (by decide) ?_
      have hf := Option.some.inj hf
      subst hf
      exact hK
    · have hf := ite_f hf c_9
      refine G.iload_n dX12_eldest_21 rfl rfl ?_
      refine G.iload dX12_eldest_22 rfl ?_
      obtain ⟨v_3, hc_2, hf⟩ := bnd_at hf
      refine G.callSi (av := [.int x2, .int x6]) (rest := []) dX12_eldest_24 msX12_151 (gX12_roomIn E d x2 x6 I hc_2) rfl rfl (Nat.le_of_ble_eq_true rfl) ?_
      refine G.iload_n dX12_eldest_27 rfl rfl ?_
      refine G.icmp_ne (tgt := 49) dX12_eldest_28 (by decide) (fun c_8 => ?_) (fun c_8 => ?_)
      · have hf := ite_f hf c_8
        refine G.inc (w := 1) (L' := [some (.ref 74), some (.int x1), some (.int x2), some (.int x3), some (.int x4), some (.int x5), some (.int (x6 + (1 : Int32)))]) dX12_eldest_49 (by decide) rfl (Nat.le_of_ble_eq_true rfl) rfl rfl ?_
        refine G.goto (tgt := 3) dX12_eldest_52 (by decide) ?_
        have hf := Option.some.inj hf
        subst hf
        exact hK
      · have hf := ite_t hf c_8
        refine G.iload dX12_eldest_31 rfl ?_
        refine G.if_eq (tgt := 46) dX12_eldest_33 (by decide) (fun c_7 => ?_) (fun c_7 => ?_)
        · have hf := ite_t hf c_7
          refine G.iload dX12_eldest_46 rfl ?_
          have hf := Option.some.inj hf
          subst hf
          exact G.iret' dX12_eldest_48 rfl hK
        · have hf := ite_f hf c_7
          refine G.iload_n dX12_eldest_36 rfl rfl ?_
          refine G.iload dX12_eldest_37 rfl ?_
          obtain ⟨v_5, hc_4, hf⟩ := bnd_at hf
          refine G.callSi (av := [.int x1, .int x6]) (rest := []) dX12_eldest_39 msX12_151 (gX12_roomIn E d x1 x6 I hc_4) rfl rfl (Nat.le_of_ble_eq_true rfl) ?_
          refine G.iload_n dX12_eldest_42 rfl rfl ?_
          refine G.icmp_eq (tgt := 49) dX12_eldest_43 (by decide) (fun c_6 => ?_) (fun c_6 => ?_)
          · have hf := ite_t hf c_6
            refine G.inc (w := 1) (L' := [some (.ref 74), some (.int x1), some (.int x2), some (.int x3), some (.int x4), some (.int x5), some (.int (x6 + (1 : Int32)))]) dX12_eldest_49 (by decide) rfl (Nat.le_of_ble_eq_true rfl) rfl rfl ?_
            refine G.goto (tgt := 3) dX12_eldest_52 (by decide) ?_
            have hf := Option.some.inj hf
            subst hf
            exact hK
          · have hf := ite_f hf c_6
            refine G.iload dX12_eldest_46 rfl ?_
            have hf := Option.some.inj hf
            subst hf
            exact G.iret' dX12_eldest_48 rfl hK
theorem lX12_eldest_3 (E : EV) (d : Nat) (rr : Option Value × Mem) (x1 : Int32) (x2 : Int32) (x3 : Int32) (x4 : Int32) (x5 : Int32) (I : Mem) (z : Int32) (hK : (fun (z : Int32) => (some (.int z), I) = rr) z) : ∀ (n : Nat) (q : Int32), iter (sX12_eldest_3 x1 x2 x3 x4 x5 I) n q = some z → G E (d + 1) kX12_eldest 3 [some (.ref 74), some (.int x1), some (.int x2), some (.int x3), some (.int x4), some (.int x5), some (.int q)] [] I rr := by
  intro n
  induction n with
  | zero => intro q h; cases h
  | succ n ih =>
    intro q h
    rcases iter_at h with ⟨q2, hs, h2⟩ | hs
    · exact wX12_eldest_3 E d rr x1 x2 x3 x4 x5 I q _ hs (ih q2 h2)
    · exact wX12_eldest_3 E d rr x1 x2 x3 x4 x5 I q _ hs hK
def fX12_eldest (x1 : Int32) (x2 : Int32) (x3 : Int32) (x4 : Int32) (x5 : Int32) (I : Mem) : Option Int32 :=
  iter (sX12_eldest_3 x1 x2 x3 x4 x5 I) FU (0 : Int32)
set_option maxRecDepth 20000 in
theorem gX12_eldest (E : EV) (d : Nat) (x1 : Int32) (x2 : Int32) (x3 : Int32) (x4 : Int32) (x5 : Int32) (I : Mem) {v : Int32} (hf : fX12_eldest x1 x2 x3 x4 x5 I = some v) : Gm E (d + 1) kX12_eldest [.ref 74, .int x1, .int x2, .int x3, .int x4, .int x5] I (some (.int v), I) := by
  refine (fun (y : Int32) (hf : fX12_eldest x1 x2 x3 x4 x5 I = some y) => (?_ : Gm E (d + 1) kX12_eldest [.ref 74, .int x1, .int x2, .int x3, .int x4, .int x5] I (some (.int y), I))) v hf
  refine Gm.of (by decide) rfl (Nat.le_of_ble_eq_true rfl) ?_
  generalize hrr : ((some (.int y), I) : Option Value × Mem) = rr
  show G E (d + 1) kX12_eldest 0 [some (.ref 74), some (.int x1), some (.int x2), some (.int x3), some (.int x4), some (.int x5), none] [] I rr
  have hK : (fun (z : Int32) => (some (.int z), I) = rr) y := hrr
  clear hrr
  unfold fX12_eldest at hf
  refine G.iconst (v := 0) dX12_eldest_0 (by decide) ?_
  refine G.istore (L' := [some (.ref 74), some (.int x1), some (.int x2), some (.int x3), some (.int x4), some (.int x5), some (.int (0 : Int32))]) dX12_eldest_1 (Nat.le_of_ble_eq_true rfl) (Nat.le_of_ble_eq_true rfl) rfl rfl ?_
  exact lX12_eldest_3 E d rr x1 x2 x3 x4 x5 I _ hK FU _ hf
theorem dX12_gather_0 : decode cX12_gather 0 = .ok (.aload_n 0, 1) := by decide +kernel
theorem dX12_gather_1 : decode cX12_gather 1 = .ok (.iload_n 1, 1) := by decide +kernel
theorem dX12_gather_2 : decode cX12_gather 2 = .ok (.iload_n 2, 1) := by decide +kernel
theorem dX12_gather_3 : decode cX12_gather 3 = .ok (.iload_n 3, 1) := by decide +kernel
theorem dX12_gather_4 : decode cX12_gather 4 = .ok (.iconst (-1), 1) := by decide +kernel
theorem dX12_gather_5 : decode cX12_gather 5 = .ok (.iconst 1, 1) := by decide +kernel
theorem dX12_gather_6 : decode cX12_gather 6 = .ok (.invokevirtual 162, 3) := by decide +kernel
theorem dX12_gather_9 : decode cX12_gather 9 = .ok (.istore 4, 2) := by decide +kernel
theorem dX12_gather_11 : decode cX12_gather 11 = .ok (.iload 4, 2) := by decide +kernel
theorem dX12_gather_13 : decode cX12_gather 13 = .ok (.iconst (-1), 1) := by decide +kernel
theorem dX12_gather_14 : decode cX12_gather 14 = .ok (.if_icmp .ne 7, 3) := by decide +kernel
theorem dX12_gather_17 : decode cX12_gather 17 = .ok (.iconst (-1), 1) := by decide +kernel
theorem dX12_gather_18 : decode cX12_gather 18 = .ok (.goto 13, 3) := by decide +kernel
theorem dX12_gather_21 : decode cX12_gather 21 = .ok (.aload_n 0, 1) := by decide +kernel
theorem dX12_gather_22 : decode cX12_gather 22 = .ok (.iload_n 1, 1) := by decide +kernel
theorem dX12_gather_23 : decode cX12_gather 23 = .ok (.iload_n 2, 1) := by decide +kernel
theorem dX12_gather_24 : decode cX12_gather 24 = .ok (.iload_n 3, 1) := by decide +kernel
theorem dX12_gather_25 : decode cX12_gather 25 = .ok (.iload 4, 2) := by decide +kernel
theorem dX12_gather_27 : decode cX12_gather 27 = .ok (.iconst 0, 1) := by decide +kernel
theorem dX12_gather_28 : decode cX12_gather 28 = .ok (.invokevirtual 162, 3) := by decide +kernel
theorem dX12_gather_31 : decode cX12_gather 31 = .ok (.istore 5, 2) := by decide +kernel
theorem dX12_gather_33 : decode cX12_gather 33 = .ok (.iload 5, 2) := by decide +kernel
theorem dX12_gather_35 : decode cX12_gather 35 = .ok (.iconst (-1), 1) := by decide +kernel
theorem dX12_gather_36 : decode cX12_gather 36 = .ok (.if_icmp .eq 75, 3) := by decide +kernel
theorem dX12_gather_39 : decode cX12_gather 39 = .ok (.aload_n 0, 1) := by decide +kernel
theorem dX12_gather_40 : decode cX12_gather 40 = .ok (.getfield 7, 3) := by decide +kernel
theorem dX12_gather_43 : decode cX12_gather 43 = .ok (.iconst 1, 1) := by decide +kernel
theorem dX12_gather_44 : decode cX12_gather 44 = .ok (.iaload, 1) := by decide +kernel
theorem dX12_gather_45 : decode cX12_gather 45 = .ok (.iconst 2, 1) := by decide +kernel
theorem dX12_gather_46 : decode cX12_gather 46 = .ok (.if_icmp .eq 13, 3) := by decide +kernel
theorem dX12_gather_49 : decode cX12_gather 49 = .ok (.aload_n 0, 1) := by decide +kernel
theorem dX12_gather_50 : decode cX12_gather 50 = .ok (.getfield 7, 3) := by decide +kernel
theorem dX12_gather_53 : decode cX12_gather 53 = .ok (.iconst 1, 1) := by decide +kernel
theorem dX12_gather_54 : decode cX12_gather 54 = .ok (.iaload, 1) := by decide +kernel
theorem dX12_gather_55 : decode cX12_gather 55 = .ok (.iconst 4, 1) := by decide +kernel
theorem dX12_gather_56 : decode cX12_gather 56 = .ok (.if_icmp .ne 14, 3) := by decide +kernel
theorem dX12_gather_59 : decode cX12_gather 59 = .ok (.aload_n 0, 1) := by decide +kernel
theorem dX12_gather_60 : decode cX12_gather 60 = .ok (.getfield 26, 3) := by decide +kernel
theorem dX12_gather_63 : decode cX12_gather 63 = .ok (.iload_n 3, 1) := by decide +kernel
theorem dX12_gather_64 : decode cX12_gather 64 = .ok (.iaload, 1) := by decide +kernel
theorem dX12_gather_65 : decode cX12_gather 65 = .ok (.iconst 2, 1) := by decide +kernel
theorem dX12_gather_66 : decode cX12_gather 66 = .ok (.idiv, 1) := by decide +kernel
theorem dX12_gather_67 : decode cX12_gather 67 = .ok (.goto 4, 3) := by decide +kernel
theorem dX12_gather_70 : decode cX12_gather 70 = .ok (.iconst 0, 1) := by decide +kernel
theorem dX12_gather_71 : decode cX12_gather 71 = .ok (.istore 6, 2) := by decide +kernel
theorem dX12_gather_73 : decode cX12_gather 73 = .ok (.aload_n 0, 1) := by decide +kernel
theorem dX12_gather_74 : decode cX12_gather 74 = .ok (.getfield 29, 3) := by decide +kernel
theorem dX12_gather_77 : decode cX12_gather 77 = .ok (.iload 4, 2) := by decide +kernel
theorem dX12_gather_79 : decode cX12_gather 79 = .ok (.dup2, 1) := by decide +kernel
theorem dX12_gather_80 : decode cX12_gather 80 = .ok (.iaload, 1) := by decide +kernel
theorem dX12_gather_81 : decode cX12_gather 81 = .ok (.aload_n 0, 1) := by decide +kernel
theorem dX12_gather_82 : decode cX12_gather 82 = .ok (.getfield 26, 3) := by decide +kernel
theorem dX12_gather_85 : decode cX12_gather 85 = .ok (.iload_n 3, 1) := by decide +kernel
theorem dX12_gather_86 : decode cX12_gather 86 = .ok (.iaload, 1) := by decide +kernel
theorem dX12_gather_87 : decode cX12_gather 87 = .ok (.iload 6, 2) := by decide +kernel
theorem dX12_gather_89 : decode cX12_gather 89 = .ok (.isub, 1) := by decide +kernel
theorem dX12_gather_90 : decode cX12_gather 90 = .ok (.iadd, 1) := by decide +kernel
theorem dX12_gather_91 : decode cX12_gather 91 = .ok (.iastore, 1) := by decide +kernel
theorem dX12_gather_92 : decode cX12_gather 92 = .ok (.aload_n 0, 1) := by decide +kernel
theorem dX12_gather_93 : decode cX12_gather 93 = .ok (.getfield 29, 3) := by decide +kernel
theorem dX12_gather_96 : decode cX12_gather 96 = .ok (.iload 5, 2) := by decide +kernel
theorem dX12_gather_98 : decode cX12_gather 98 = .ok (.dup2, 1) := by decide +kernel
theorem dX12_gather_99 : decode cX12_gather 99 = .ok (.iaload, 1) := by decide +kernel
theorem dX12_gather_100 : decode cX12_gather 100 = .ok (.iload 6, 2) := by decide +kernel
theorem dX12_gather_102 : decode cX12_gather 102 = .ok (.iadd, 1) := by decide +kernel
theorem dX12_gather_103 : decode cX12_gather 103 = .ok (.iastore, 1) := by decide +kernel
theorem dX12_gather_104 : decode cX12_gather 104 = .ok (.aload_n 0, 1) := by decide +kernel
theorem dX12_gather_105 : decode cX12_gather 105 = .ok (.getfield 26, 3) := by decide +kernel
theorem dX12_gather_108 : decode cX12_gather 108 = .ok (.iload_n 3, 1) := by decide +kernel
theorem dX12_gather_109 : decode cX12_gather 109 = .ok (.iconst 0, 1) := by decide +kernel
theorem dX12_gather_110 : decode cX12_gather 110 = .ok (.iastore, 1) := by decide +kernel
theorem dX12_gather_111 : decode cX12_gather 111 = .ok (.return_, 1) := by decide +kernel
def jX12_gather_71 (x3 : Int32) (x4 : Int32) (x5 : Int32) (u0 : Int32) (I : Mem) : Option Mem :=
  chk (inb x4 4) <|
  chk (inb x3 5) <|
  chk (inb x4 4) <|
  letb (up2 I 81 (ix x4) ((I 81 (ix x4)) + ((I 80 (ix x3)) - u0))) fun I_10 =>
  chk (inb x5 4) <|
  chk (inb x5 4) <|
  letb (up2 I_10 81 (ix x5) ((I_10 81 (ix x5)) + u0)) fun I_13 =>
  chk (inb x3 5) <|
  letb (up2 I_13 80 (ix x3) (0 : Int32)) fun I_15 =>
  some I_15
set_option maxRecDepth 20000 in
theorem tX12_gather_71 (E : EV) (d : Nat) (rr : Option Value × Mem) (x3 : Int32) (x4 : Int32) (x5 : Int32) (u0 : Int32) (I : Mem) (y : Mem) (hf : jX12_gather_71 x3 x4 x5 u0 I = some y) (hK : (fun (z : Mem) => ((none : Option Value), z) = rr) y) : G E (d + 2) kX12_gather 71 [some (.ref 74), none, none, some (.int x3), some (.int x4), some (.int x5), none] [.int u0] I rr := by
  unfold jX12_gather_71 at hf
  refine G.istore (L' := [some (.ref 74), none, none, some (.int x3), some (.int x4), some (.int x5), some (.int u0)]) dX12_gather_71 (Nat.le_of_ble_eq_true rfl) (Nat.le_of_ble_eq_true rfl) rfl rfl ?_
  refine G.aload_n dX12_gather_73 rfl rfl ?_
  refine G.getR (q := 81) dX12_gather_74 flX12_29 (by decide) rfl rfl ?_
  refine G.iload dX12_gather_77 rfl ?_
  refine G.dup2 dX12_gather_79 rfl rfl ?_
  obtain ⟨hi_7, hf⟩ := chk_at hf
  refine G.iald' dX12_gather_80 (by decide) rfl rfl hi_7 ?_
  refine G.aload_n dX12_gather_81 rfl rfl ?_
  refine G.getR (q := 80) dX12_gather_82 flX12_26 (by decide) rfl rfl ?_
  refine G.iload_n dX12_gather_85 rfl rfl ?_
  obtain ⟨hi_8, hf⟩ := chk_at hf
  refine G.iald' dX12_gather_86 (by decide) rfl rfl hi_8 ?_
  refine G.iload dX12_gather_87 rfl ?_
  refine G.isub dX12_gather_89 ?_
  refine G.iadd dX12_gather_90 ?_
  obtain ⟨hi_9, hf⟩ := chk_at hf
  refine G.iast' dX12_gather_91 (by decide) rfl rfl hi_9 ?_
  refine G.nmI (fun I_10 e_I_10 => ?_)
  have hf := letb_at hf e_I_10
  clear e_I_10
  refine G.aload_n dX12_gather_92 rfl rfl ?_
  refine G.getR (q := 81) dX12_gather_93 flX12_29 (by decide) rfl rfl ?_
  refine G.iload dX12_gather_96 rfl ?_
  refine G.dup2 dX12_gather_98 rfl rfl ?_
  obtain ⟨hi_11, hf⟩ := chk_at hf
  refine G.iald' dX12_gather_99 (by decide) rfl rfl hi_11 ?_
  refine G.iload dX12_gather_100 rfl ?_
  refine G.iadd dX12_gather_102 ?_
  obtain ⟨hi_12, hf⟩ := chk_at hf
  refine G.iast' dX12_gather_103 (by decide) rfl rfl hi_12 ?_
  refine G.nmI (fun I_13 e_I_13 => ?_)
  have hf := letb_at hf e_I_13
  clear e_I_13
  refine G.aload_n dX12_gather_104 rfl rfl ?_
  refine G.getR (q := 80) dX12_gather_105 flX12_26 (by decide) rfl rfl ?_
  refine G.iload_n dX12_gather_108 rfl rfl ?_
  refine G.iconst (v := 0) dX12_gather_109 (by decide) ?_
  obtain ⟨hi_14, hf⟩ := chk_at hf
  refine G.iast' dX12_gather_110 (by decide) rfl rfl hi_14 ?_
  refine G.nmI (fun I_15 e_I_15 => ?_)
  have hf := letb_at hf e_I_15
  clear e_I_15
  have hf := Option.some.inj hf
  subst hf
  exact G.vret' dX12_gather_111 rfl hK
def jX12_gather_59 (x3 : Int32) (x4 : Int32) (x5 : Int32) (I : Mem) : Option Mem :=
  chk (inb x3 5) <|
  jX12_gather_71 x3 x4 x5 ((I 80 (ix x3)) / (2 : Int32)) I
set_option maxRecDepth 20000 in
theorem tX12_gather_59 (E : EV) (d : Nat) (rr : Option Value × Mem) (x3 : Int32) (x4 : Int32) (x5 : Int32) (I : Mem) (y : Mem) (hf : jX12_gather_59 x3 x4 x5 I = some y) (hK : (fun (z : Mem) => ((none : Option Value), z) = rr) y) : G E (d + 2) kX12_gather 59 [some (.ref 74), none, none, some (.int x3), some (.int x4), some (.int x5), none] [] I rr := by
  unfold jX12_gather_59 at hf
  refine G.aload_n dX12_gather_59 rfl rfl ?_
  refine G.getR (q := 80) dX12_gather_60 flX12_26 (by decide) rfl rfl ?_
  refine G.iload_n dX12_gather_63 rfl rfl ?_
  obtain ⟨hi_6, hf⟩ := chk_at hf
  refine G.iald' dX12_gather_64 (by decide) rfl rfl hi_6 ?_
  refine G.iconst (v := 2) dX12_gather_65 (by decide) ?_
  refine G.idiv dX12_gather_66 (by decide) ?_
  refine G.goto (tgt := 71) dX12_gather_67 (by decide) ?_
  exact tX12_gather_71 E d rr x3 x4 x5 ((I 80 (ix x3)) / (2 : Int32)) I _ hf hK
def jX12_gather_31 (x3 : Int32) (x4 : Int32) (u0 : Int32) (I : Mem) : Option Mem :=
  if u0 = (-1 : Int32) then
  (some I)
  else
  (chk (inb (1 : Int32) 632) <|
  if (I 75 (ix (1 : Int32))) = (2 : Int32) then
  (jX12_gather_59 x3 x4 u0 I)
  else
  (chk (inb (1 : Int32) 632) <|
  if (I 75 (ix (1 : Int32))) = (4 : Int32) then
  (jX12_gather_59 x3 x4 u0 I)
  else
  (jX12_gather_71 x3 x4 u0 (0 : Int32) I)))
set_option maxRecDepth 20000 in
theorem tX12_gather_31 (E : EV) (d : Nat) (rr : Option Value × Mem) (x3 : Int32) (x4 : Int32) (u0 : Int32) (I : Mem) (y : Mem) (hf : jX12_gather_31 x3 x4 u0 I = some y) (hK : (fun (z : Mem) => ((none : Option Value), z) = rr) y) : G E (d + 2) kX12_gather 31 [some (.ref 74), none, none, some (.int x3), some (.int x4), none, none] [.int u0] I rr := by
  unfold jX12_gather_31 at hf
  refine G.istore (L' := [some (.ref 74), none, none, some (.int x3), some (.int x4), some (.int u0), none]) dX12_gather_31 (Nat.le_of_ble_eq_true rfl) (Nat.le_of_ble_eq_true rfl) rfl rfl ?_
  refine G.iload dX12_gather_33 rfl ?_
  refine G.iconst (v := -1) dX12_gather_35 (by decide) ?_
  refine G.icmp_eq (tgt := 111) dX12_gather_36 (by decide) (fun c_19 => ?_) (fun c_19 => ?_)
  · have hf := ite_t hf c_19
    have hf := Option.some.inj hf
    subst hf
    exact G.vret' dX12_gather_111 rfl hK
  · have hf := ite_f hf c_19
    refine G.aload_n dX12_gather_39 rfl rfl ?_
    refine G.getR (q := 75) dX12_gather_40 flX12_7 (by decide) rfl rfl ?_
    refine G.iconst (v := 1) dX12_gather_43 (by decide) ?_
    obtain ⟨hi_5, hf⟩ := chk_at hf
    refine G.iald' dX12_gather_44 (by decide) rfl rfl hi_5 ?_
    refine G.iconst (v := 2) dX12_gather_45 (by decide) ?_
    refine G.icmp_eq (tgt := 59) dX12_gather_46 (by decide) (fun c_18 => ?_) (fun c_18 => ?_)
    · have hf := ite_t hf c_18
      exact tX12_gather_59 E d rr x3 x4 u0 I _ hf hK
    · have hf := ite_f hf c_18
      refine G.aload_n dX12_gather_49 rfl rfl ?_
      refine G.getR (q := 75) dX12_gather_50 flX12_7 (by decide) rfl rfl ?_
      refine G.iconst (v := 1) dX12_gather_53 (by decide) ?_
      obtain ⟨hi_16, hf⟩ := chk_at hf
      refine G.iald' dX12_gather_54 (by decide) rfl rfl hi_16 ?_
      refine G.iconst (v := 4) dX12_gather_55 (by decide) ?_
      refine G.icmp_ne (tgt := 70) dX12_gather_56 (by decide) (fun c_17 => ?_) (fun c_17 => ?_)
      · have hf := ite_f hf c_17
        refine G.iconst (v := 0) dX12_gather_70 (by decide) ?_
        exact tX12_gather_71 E d rr x3 x4 u0 (0 : Int32) I _ hf hK
      · have hf := ite_t hf c_17
        exact tX12_gather_59 E d rr x3 x4 u0 I _ hf hK
def fX12_gather (x1 : Int32) (x2 : Int32) (x3 : Int32) (I : Mem) : Option Mem :=
  bnd (fX12_eldest x1 x2 x3 (-1 : Int32) (1 : Int32) I) fun v_2 =>
  if v_2 = (-1 : Int32) then
  (jX12_gather_31 x3 v_2 (-1 : Int32) I)
  else
  (bnd (fX12_eldest x1 x2 x3 v_2 (0 : Int32) I) fun v_4 =>
  jX12_gather_31 x3 v_2 v_4 I)
set_option maxRecDepth 20000 in
theorem gX12_gather (E : EV) (d : Nat) (x1 : Int32) (x2 : Int32) (x3 : Int32) (I : Mem) {J : Mem} (hf : fX12_gather x1 x2 x3 I = some J) : Gm E (d + 2) kX12_gather [.ref 74, .int x1, .int x2, .int x3] I (none, J) := by
  refine (fun (y : Mem) (hf : fX12_gather x1 x2 x3 I = some y) => (?_ : Gm E (d + 2) kX12_gather [.ref 74, .int x1, .int x2, .int x3] I (none, y))) J hf
  refine Gm.of (by decide) rfl (Nat.le_of_ble_eq_true rfl) ?_
  generalize hrr : ((none, y) : Option Value × Mem) = rr
  show G E (d + 2) kX12_gather 0 [some (.ref 74), some (.int x1), some (.int x2), some (.int x3), none, none, none] [] I rr
  have hK : (fun (z : Mem) => ((none : Option Value), z) = rr) y := hrr
  clear hrr
  unfold fX12_gather at hf
  refine G.aload_n dX12_gather_0 rfl rfl ?_
  refine G.iload_n dX12_gather_1 rfl rfl ?_
  refine G.iload_n dX12_gather_2 rfl rfl ?_
  refine G.iload_n dX12_gather_3 rfl rfl ?_
  refine G.iconst (v := -1) dX12_gather_4 (by decide) ?_
  refine G.iconst (v := 1) dX12_gather_5 (by decide) ?_
  obtain ⟨v_2, hc_1, hf⟩ := bnd_at hf
  refine G.callVi (av := [.int x1, .int x2, .int x3, .int (-1 : Int32), .int (1 : Int32)]) (rest := []) dX12_gather_6 mvX12_162 (gX12_eldest E d x1 x2 x3 (-1 : Int32) (1 : Int32) I hc_1) (by decide) rfl rfl rfl (Nat.le_of_ble_eq_true rfl) ?_
  refine G.istore (L' := [some (.ref 74), some (.int x1), some (.int x2), some (.int x3), some (.int v_2), none, none]) dX12_gather_9 (Nat.le_of_ble_eq_true rfl) (Nat.le_of_ble_eq_true rfl) rfl rfl ?_
  refine G.iload dX12_gather_11 rfl ?_
  refine G.iconst (v := -1) dX12_gather_13 (by decide) ?_
  refine G.icmp_ne (tgt := 21) dX12_gather_14 (by decide) (fun c_20 => ?_) (fun c_20 => ?_)
  · have hf := ite_f hf c_20
    refine G.aload_n dX12_gather_21 rfl rfl ?_
    refine G.iload_n dX12_gather_22 rfl rfl ?_
    refine G.iload_n dX12_gather_23 rfl rfl ?_
    refine G.iload_n dX12_gather_24 rfl rfl ?_
    refine G.iload dX12_gather_25 rfl ?_
    refine G.iconst (v := 0) dX12_gather_27 (by decide) ?_
    obtain ⟨v_4, hc_3, hf⟩ := bnd_at hf
    refine G.callVi (av := [.int x1, .int x2, .int x3, .int v_2, .int (0 : Int32)]) (rest := []) dX12_gather_28 mvX12_162 (gX12_eldest E d x1 x2 x3 v_2 (0 : Int32) I hc_3) (by decide) rfl rfl rfl (Nat.le_of_ble_eq_true rfl) ?_
    refine G.forget (L' := [some (.ref 74), none, none, some (.int x3), some (.int v_2), none, none]) [1, 2] rfl ?_
    exact tX12_gather_31 E d rr x3 v_2 v_4 I _ hf hK
  · have hf := ite_t hf c_20
    refine G.iconst (v := -1) dX12_gather_17 (by decide) ?_
    refine G.goto (tgt := 31) dX12_gather_18 (by decide) ?_
    refine G.forget (L' := [some (.ref 74), none, none, some (.int x3), some (.int v_2), none, none]) [1, 2] rfl ?_
    exact tX12_gather_31 E d rr x3 v_2 (-1 : Int32) I _ hf hK
theorem dX12_tryBeat_0 : decode cX12_tryBeat 0 = .ok (.iconst 0, 1) := by decide +kernel
theorem dX12_tryBeat_1 : decode cX12_tryBeat 1 = .ok (.istore_n 3, 1) := by decide +kernel
theorem dX12_tryBeat_2 : decode cX12_tryBeat 2 = .ok (.iconst 0, 1) := by decide +kernel
theorem dX12_tryBeat_3 : decode cX12_tryBeat 3 = .ok (.istore 4, 2) := by decide +kernel
theorem dX12_tryBeat_5 : decode cX12_tryBeat 5 = .ok (.iload 4, 2) := by decide +kernel
theorem dX12_tryBeat_7 : decode cX12_tryBeat 7 = .ok (.iconst 5, 1) := by decide +kernel
theorem dX12_tryBeat_8 : decode cX12_tryBeat 8 = .ok (.if_icmp .ge 26, 3) := by decide +kernel
theorem dX12_tryBeat_11 : decode cX12_tryBeat 11 = .ok (.aload_n 0, 1) := by decide +kernel
theorem dX12_tryBeat_12 : decode cX12_tryBeat 12 = .ok (.getfield 26, 3) := by decide +kernel
theorem dX12_tryBeat_15 : decode cX12_tryBeat 15 = .ok (.iload 4, 2) := by decide +kernel
theorem dX12_tryBeat_17 : decode cX12_tryBeat 17 = .ok (.aload_n 0, 1) := by decide +kernel
theorem dX12_tryBeat_18 : decode cX12_tryBeat 18 = .ok (.getfield 7, 3) := by decide +kernel
theorem dX12_tryBeat_21 : decode cX12_tryBeat 21 = .ok (.bipush 10, 2) := by decide +kernel
theorem dX12_tryBeat_23 : decode cX12_tryBeat 23 = .ok (.iload 4, 2) := by decide +kernel
theorem dX12_tryBeat_25 : decode cX12_tryBeat 25 = .ok (.iadd, 1) := by decide +kernel
theorem dX12_tryBeat_26 : decode cX12_tryBeat 26 = .ok (.iaload, 1) := by decide +kernel
theorem dX12_tryBeat_27 : decode cX12_tryBeat 27 = .ok (.iastore, 1) := by decide +kernel
theorem dX12_tryBeat_28 : decode cX12_tryBeat 28 = .ok (.iinc 4 1, 3) := by decide +kernel
theorem dX12_tryBeat_31 : decode cX12_tryBeat 31 = .ok (.goto (-26), 3) := by decide +kernel
theorem dX12_tryBeat_34 : decode cX12_tryBeat 34 = .ok (.iconst 0, 1) := by decide +kernel
theorem dX12_tryBeat_35 : decode cX12_tryBeat 35 = .ok (.istore 4, 2) := by decide +kernel
theorem dX12_tryBeat_37 : decode cX12_tryBeat 37 = .ok (.iload 4, 2) := by decide +kernel
theorem dX12_tryBeat_39 : decode cX12_tryBeat 39 = .ok (.aload_n 0, 1) := by decide +kernel
theorem dX12_tryBeat_40 : decode cX12_tryBeat 40 = .ok (.getfield 7, 3) := by decide +kernel
theorem dX12_tryBeat_43 : decode cX12_tryBeat 43 = .ok (.iconst 3, 1) := by decide +kernel
theorem dX12_tryBeat_44 : decode cX12_tryBeat 44 = .ok (.iaload, 1) := by decide +kernel
theorem dX12_tryBeat_45 : decode cX12_tryBeat 45 = .ok (.if_icmp .ge 98, 3) := by decide +kernel
theorem dX12_tryBeat_48 : decode cX12_tryBeat 48 = .ok (.aload_n 0, 1) := by decide +kernel
theorem dX12_tryBeat_49 : decode cX12_tryBeat 49 = .ok (.aload_n 0, 1) := by decide +kernel
theorem dX12_tryBeat_50 : decode cX12_tryBeat 50 = .ok (.getfield 7, 3) := by decide +kernel
theorem dX12_tryBeat_53 : decode cX12_tryBeat 53 = .ok (.iconst 1, 1) := by decide +kernel
theorem dX12_tryBeat_54 : decode cX12_tryBeat 54 = .ok (.iaload, 1) := by decide +kernel
theorem dX12_tryBeat_55 : decode cX12_tryBeat 55 = .ok (.aload_n 0, 1) := by decide +kernel
theorem dX12_tryBeat_56 : decode cX12_tryBeat 56 = .ok (.getfield 7, 3) := by decide +kernel
theorem dX12_tryBeat_59 : decode cX12_tryBeat 59 = .ok (.iconst 2, 1) := by decide +kernel
theorem dX12_tryBeat_60 : decode cX12_tryBeat 60 = .ok (.iaload, 1) := by decide +kernel
theorem dX12_tryBeat_61 : decode cX12_tryBeat 61 = .ok (.iconst 1, 1) := by decide +kernel
theorem dX12_tryBeat_62 : decode cX12_tryBeat 62 = .ok (.iadd, 1) := by decide +kernel
theorem dX12_tryBeat_63 : decode cX12_tryBeat 63 = .ok (.iload_n 1, 1) := by decide +kernel
theorem dX12_tryBeat_64 : decode cX12_tryBeat 64 = .ok (.iload_n 2, 1) := by decide +kernel
theorem dX12_tryBeat_65 : decode cX12_tryBeat 65 = .ok (.iload 4, 2) := by decide +kernel
theorem dX12_tryBeat_67 : decode cX12_tryBeat 67 = .ok (.invokevirtual 158, 3) := by decide +kernel
theorem dX12_tryBeat_70 : decode cX12_tryBeat 70 = .ok (.istore 5, 2) := by decide +kernel
theorem dX12_tryBeat_72 : decode cX12_tryBeat 72 = .ok (.aload_n 0, 1) := by decide +kernel
theorem dX12_tryBeat_73 : decode cX12_tryBeat 73 = .ok (.getfield 29, 3) := by decide +kernel
theorem dX12_tryBeat_76 : decode cX12_tryBeat 76 = .ok (.iload 4, 2) := by decide +kernel
theorem dX12_tryBeat_78 : decode cX12_tryBeat 78 = .ok (.aload_n 0, 1) := by decide +kernel
theorem dX12_tryBeat_79 : decode cX12_tryBeat 79 = .ok (.getfield 7, 3) := by decide +kernel
theorem dX12_tryBeat_82 : decode cX12_tryBeat 82 = .ok (.bipush 24, 2) := by decide +kernel
theorem dX12_tryBeat_84 : decode cX12_tryBeat 84 = .ok (.iload 4, 2) := by decide +kernel
theorem dX12_tryBeat_86 : decode cX12_tryBeat 86 = .ok (.iadd, 1) := by decide +kernel
theorem dX12_tryBeat_87 : decode cX12_tryBeat 87 = .ok (.iaload, 1) := by decide +kernel
theorem dX12_tryBeat_88 : decode cX12_tryBeat 88 = .ok (.iload 5, 2) := by decide +kernel
theorem dX12_tryBeat_90 : decode cX12_tryBeat 90 = .ok (.ifCond .eq 7, 3) := by decide +kernel
theorem dX12_tryBeat_93 : decode cX12_tryBeat 93 = .ok (.iconst 1, 1) := by decide +kernel
theorem dX12_tryBeat_94 : decode cX12_tryBeat 94 = .ok (.goto 4, 3) := by decide +kernel
theorem dX12_tryBeat_97 : decode cX12_tryBeat 97 = .ok (.iconst 0, 1) := by decide +kernel
theorem dX12_tryBeat_98 : decode cX12_tryBeat 98 = .ok (.isub, 1) := by decide +kernel
theorem dX12_tryBeat_99 : decode cX12_tryBeat 99 = .ok (.iastore, 1) := by decide +kernel
theorem dX12_tryBeat_100 : decode cX12_tryBeat 100 = .ok (.aload_n 0, 1) := by decide +kernel
theorem dX12_tryBeat_101 : decode cX12_tryBeat 101 = .ok (.getfield 26, 3) := by decide +kernel
theorem dX12_tryBeat_104 : decode cX12_tryBeat 104 = .ok (.iload_n 2, 1) := by decide +kernel
theorem dX12_tryBeat_105 : decode cX12_tryBeat 105 = .ok (.iload 4, 2) := by decide +kernel
theorem dX12_tryBeat_107 : decode cX12_tryBeat 107 = .ok (.invokestatic 151, 3) := by decide +kernel
theorem dX12_tryBeat_110 : decode cX12_tryBeat 110 = .ok (.dup2, 1) := by decide +kernel
theorem dX12_tryBeat_111 : decode cX12_tryBeat 111 = .ok (.iaload, 1) := by decide +kernel
theorem dX12_tryBeat_112 : decode cX12_tryBeat 112 = .ok (.iload 5, 2) := by decide +kernel
theorem dX12_tryBeat_114 : decode cX12_tryBeat 114 = .ok (.ifCond .eq 7, 3) := by decide +kernel
theorem dX12_tryBeat_117 : decode cX12_tryBeat 117 = .ok (.iconst 1, 1) := by decide +kernel
theorem dX12_tryBeat_118 : decode cX12_tryBeat 118 = .ok (.goto 4, 3) := by decide +kernel
theorem dX12_tryBeat_121 : decode cX12_tryBeat 121 = .ok (.iconst 0, 1) := by decide +kernel
theorem dX12_tryBeat_122 : decode cX12_tryBeat 122 = .ok (.iadd, 1) := by decide +kernel
theorem dX12_tryBeat_123 : decode cX12_tryBeat 123 = .ok (.iastore, 1) := by decide +kernel
theorem dX12_tryBeat_124 : decode cX12_tryBeat 124 = .ok (.iload_n 3, 1) := by decide +kernel
theorem dX12_tryBeat_125 : decode cX12_tryBeat 125 = .ok (.iload 5, 2) := by decide +kernel
theorem dX12_tryBeat_127 : decode cX12_tryBeat 127 = .ok (.ifCond .eq 7, 3) := by decide +kernel
theorem dX12_tryBeat_130 : decode cX12_tryBeat 130 = .ok (.iconst 1, 1) := by decide +kernel
theorem dX12_tryBeat_131 : decode cX12_tryBeat 131 = .ok (.goto 4, 3) := by decide +kernel
theorem dX12_tryBeat_134 : decode cX12_tryBeat 134 = .ok (.iconst 0, 1) := by decide +kernel
theorem dX12_tryBeat_135 : decode cX12_tryBeat 135 = .ok (.iadd, 1) := by decide +kernel
theorem dX12_tryBeat_136 : decode cX12_tryBeat 136 = .ok (.istore_n 3, 1) := by decide +kernel
theorem dX12_tryBeat_137 : decode cX12_tryBeat 137 = .ok (.iinc 4 1, 3) := by decide +kernel
theorem dX12_tryBeat_140 : decode cX12_tryBeat 140 = .ok (.goto (-103), 3) := by decide +kernel
theorem dX12_tryBeat_143 : decode cX12_tryBeat 143 = .ok (.iconst 0, 1) := by decide +kernel
theorem dX12_tryBeat_144 : decode cX12_tryBeat 144 = .ok (.istore 4, 2) := by decide +kernel
theorem dX12_tryBeat_146 : decode cX12_tryBeat 146 = .ok (.iload 4, 2) := by decide +kernel
theorem dX12_tryBeat_148 : decode cX12_tryBeat 148 = .ok (.aload_n 0, 1) := by decide +kernel
theorem dX12_tryBeat_149 : decode cX12_tryBeat 149 = .ok (.getfield 7, 3) := by decide +kernel
theorem dX12_tryBeat_152 : decode cX12_tryBeat 152 = .ok (.iconst 0, 1) := by decide +kernel
theorem dX12_tryBeat_153 : decode cX12_tryBeat 153 = .ok (.iaload, 1) := by decide +kernel
theorem dX12_tryBeat_154 : decode cX12_tryBeat 154 = .ok (.if_icmp .ge 17, 3) := by decide +kernel
theorem dX12_tryBeat_157 : decode cX12_tryBeat 157 = .ok (.aload_n 0, 1) := by decide +kernel
theorem dX12_tryBeat_158 : decode cX12_tryBeat 158 = .ok (.iload_n 1, 1) := by decide +kernel
theorem dX12_tryBeat_159 : decode cX12_tryBeat 159 = .ok (.iload_n 2, 1) := by decide +kernel
theorem dX12_tryBeat_160 : decode cX12_tryBeat 160 = .ok (.iload 4, 2) := by decide +kernel
theorem dX12_tryBeat_162 : decode cX12_tryBeat 162 = .ok (.invokevirtual 166, 3) := by decide +kernel
theorem dX12_tryBeat_165 : decode cX12_tryBeat 165 = .ok (.iinc 4 1, 3) := by decide +kernel
theorem dX12_tryBeat_168 : decode cX12_tryBeat 168 = .ok (.goto (-22), 3) := by decide +kernel
theorem dX12_tryBeat_171 : decode cX12_tryBeat 171 = .ok (.iload_n 3, 1) := by decide +kernel
theorem dX12_tryBeat_172 : decode cX12_tryBeat 172 = .ok (.ireturn, 1) := by decide +kernel
def KX12_tryBeat_5 (E : EV) (d : Nat) (rr : Option Value × Mem) (x1 : Int32) (x2 : Int32) (x3 : Int32) (Kp : (Int32 × Mem) → Prop) : ((Int32 × Mem) ⊕ (Int32 × Mem)) → Prop
  | .inl q => G E (d + 3) kX12_tryBeat 5 [some (.ref 74), some (.int x1), some (.int x2), some (.int x3), some (.int q.1), none] [] q.2 rr
  | .inr z => Kp z
def KX12_tryBeat_37 (E : EV) (d : Nat) (rr : Option Value × Mem) (x1 : Int32) (x2 : Int32) (Kp : (Int32 × Mem) → Prop) : ((Int32 × Int32 × Mem) ⊕ (Int32 × Mem)) → Prop
  | .inl q => G E (d + 3) kX12_tryBeat 37 [some (.ref 74), some (.int x1), some (.int x2), some (.int q.1), some (.int q.2.1), none] [] q.2.2 rr
  | .inr z => Kp z
def KX12_tryBeat_146 (E : EV) (d : Nat) (rr : Option Value × Mem) (x1 : Int32) (x2 : Int32) (x3 : Int32) (Kp : (Int32 × Mem) → Prop) : ((Int32 × Mem) ⊕ (Int32 × Mem)) → Prop
  | .inl q => G E (d + 3) kX12_tryBeat 146 [some (.ref 74), some (.int x1), some (.int x2), some (.int x3), some (.int q.1), none] [] q.2 rr
  | .inr z => Kp z
def bX12_tryBeat_146 (x1 : Int32) (x2 : Int32) (x3 : Int32) (x4 : Int32) (I : Mem) : Option ((Int32 × Mem) ⊕ (Int32 × Mem)) :=
  chk (inb (0 : Int32) 632) <|
  if (I 75 (ix (0 : Int32))) ≤ x4 then
  (some (.inr (x3, I)))
  else
  (bnd (fX12_gather x1 x2 x4 I) fun I_4 =>
  some (.inl ((x4 + (1 : Int32)), I_4)))
def sX12_tryBeat_146 (x1 : Int32) (x2 : Int32) (x3 : Int32) (q : (Int32 × Mem)) : Option ((Int32 × Mem) ⊕ (Int32 × Mem)) := bX12_tryBeat_146 x1 x2 x3 q.1 q.2
set_option maxRecDepth 20000 in
theorem wX12_tryBeat_146 (E : EV) (d : Nat) (rr : Option Value × Mem) (x1 : Int32) (x2 : Int32) (x3 : Int32) (x4 : Int32) (I : Mem) (y : ((Int32 × Mem) ⊕ (Int32 × Mem))) (hf : bX12_tryBeat_146 x1 x2 x3 x4 I = some y) (hK : (KX12_tryBeat_146 E d rr x1 x2 x3 (fun (z : Int32 × Mem) => (some (.int z.1), z.2) = rr)) y) : G E (d + 3) kX12_tryBeat 146 [some (.ref 74), some (.int x1), some (.int x2), some (.int x3), some (.int x4), none] [] I rr := by
  unfold bX12_tryBeat_146 at hf
  refine G.iload dX12_tryBeat_146 rfl ?_
  refine G.aload_n dX12_tryBeat_148 rfl rfl ?_
  refine G.getR (q := 75) dX12_tryBeat_149 flX12_7 (by decide) rfl rfl ?_
  refine G.iconst (v := 0) dX12_tryBeat_152 (by decide) ?_
  obtain ⟨hi_2, hf⟩ := chk_at hf
  refine G.iald' dX12_tryBeat_153 (by decide) rfl rfl hi_2 ?_
  refine G.icmp_ge (tgt := 171) dX12_tryBeat_154 (by decide) (fun c_5 => ?_) (fun c_5 => ?_)
  · have hf := ite_t hf c_5
    refine G.iload_n dX12_tryBeat_171 rfl rfl ?_
    have hf := Option.some.inj hf
    subst hf
    exact G.iret' dX12_tryBeat_172 rfl hK
  · have hf := ite_f hf c_5
    refine G.aload_n dX12_tryBeat_157 rfl rfl ?_
    refine G.iload_n dX12_tryBeat_158 rfl rfl ?_
    refine G.iload_n dX12_tryBeat_159 rfl rfl ?_
    refine G.iload dX12_tryBeat_160 rfl ?_
    obtain ⟨I_4, hc_3, hf⟩ := bnd_at hf
    refine G.callVv (av := [.int x1, .int x2, .int x4]) (rest := []) dX12_tryBeat_162 mvX12_166 (gX12_gather E d x1 x2 x4 I hc_3) (by decide) rfl rfl rfl (Nat.le_of_ble_eq_true rfl) ?_
    refine G.inc (w := 1) (L' := [some (.ref 74), some (.int x1), some (.int x2), some (.int x3), some (.int (x4 + (1 : Int32))), none]) dX12_tryBeat_165 (by decide) rfl (Nat.le_of_ble_eq_true rfl) rfl rfl ?_
    refine G.goto (tgt := 146) dX12_tryBeat_168 (by decide) ?_
    have hf := Option.some.inj hf
    subst hf
    exact hK
theorem lX12_tryBeat_146 (E : EV) (d : Nat) (rr : Option Value × Mem) (x1 : Int32) (x2 : Int32) (x3 : Int32) (z : (Int32 × Mem)) (hK : (fun (z : Int32 × Mem) => (some (.int z.1), z.2) = rr) z) : ∀ (n : Nat) (q : (Int32 × Mem)), iter (sX12_tryBeat_146 x1 x2 x3) n q = some z → G E (d + 3) kX12_tryBeat 146 [some (.ref 74), some (.int x1), some (.int x2), some (.int x3), some (.int q.1), none] [] q.2 rr := by
  intro n
  induction n with
  | zero => intro q h; cases h
  | succ n ih =>
    intro q h
    rcases iter_at h with ⟨q2, hs, h2⟩ | hs
    · exact wX12_tryBeat_146 E d rr x1 x2 x3 q.1 q.2 _ hs (ih q2 h2)
    · exact wX12_tryBeat_146 E d rr x1 x2 x3 q.1 q.2 _ hs hK
def jX12_tryBeat_122 (x1 : Int32) (x2 : Int32) (x3 : Int32) (x4 : Int32) (x5 : Int32) (u0 : Int32) (u1 : Int32) (u2 : Int32) (I : Mem) : Option ((Int32 × Int32 × Mem) ⊕ (Int32 × Mem)) :=
  chk (inb u2 5) <|
  letb (up2 I 80 (ix u2) (u1 + u0)) fun I_18 =>
  if x5 = 0 then
  (letb (x3 + (0 : Int32)) fun x3_19 =>
  some (.inl (x3_19, (x4 + (1 : Int32)), I_18)))
  else
  (letb (x3 + (1 : Int32)) fun x3_20 =>
  some (.inl (x3_20, (x4 + (1 : Int32)), I_18)))
set_option maxRecDepth 20000 in
theorem tX12_tryBeat_122 (E : EV) (d : Nat) (rr : Option Value × Mem) (x1 : Int32) (x2 : Int32) (x3 : Int32) (x4 : Int32) (x5 : Int32) (u0 : Int32) (u1 : Int32) (u2 : Int32) (I : Mem) (y : ((Int32 × Int32 × Mem) ⊕ (Int32 × Mem))) (hf : jX12_tryBeat_122 x1 x2 x3 x4 x5 u0 u1 u2 I = some y) (hK : (KX12_tryBeat_37 E d rr x1 x2 (fun (z : Int32 × Mem) => (some (.int z.1), z.2) = rr)) y) : G E (d + 3) kX12_tryBeat 122 [some (.ref 74), some (.int x1), some (.int x2), some (.int x3), some (.int x4), some (.int x5)] [.int u0, .int u1, .int u2, .ref 80] I rr := by
  unfold jX12_tryBeat_122 at hf
  refine G.iadd dX12_tryBeat_122 ?_
  obtain ⟨hi_17, hf⟩ := chk_at hf
  refine G.iast' dX12_tryBeat_123 (by decide) rfl rfl hi_17 ?_
  refine G.nmI (fun I_18 e_I_18 => ?_)
  have hf := letb_at hf e_I_18
  clear e_I_18
  refine G.iload_n dX12_tryBeat_124 rfl rfl ?_
  refine G.iload dX12_tryBeat_125 rfl ?_
  refine G.if_eq (tgt := 134) dX12_tryBeat_127 (by decide) (fun c_21 => ?_) (fun c_21 => ?_)
  · have hf := ite_t hf c_21
    refine G.iconst (v := 0) dX12_tryBeat_134 (by decide) ?_
    refine G.iadd dX12_tryBeat_135 ?_
    refine G.nmi (fun x3_19 e_x3_19 => ?_)
    have hf := letb_at hf e_x3_19
    clear e_x3_19
    refine G.istore_n (L' := [some (.ref 74), some (.int x1), some (.int x2), some (.int x3_19), some (.int x4), some (.int x5)]) dX12_tryBeat_136 rfl (Nat.le_of_ble_eq_true rfl) (Nat.le_of_ble_eq_true rfl) rfl rfl ?_
    refine G.inc (w := 1) (L' := [some (.ref 74), some (.int x1), some (.int x2), some (.int x3_19), some (.int (x4 + (1 : Int32))), some (.int x5)]) dX12_tryBeat_137 (by decide) rfl (Nat.le_of_ble_eq_true rfl) rfl rfl ?_
    refine G.goto (tgt := 37) dX12_tryBeat_140 (by decide) ?_
    have hf := Option.some.inj hf
    subst hf
    refine G.forget (L' := [some (.ref 74), some (.int x1), some (.int x2), some (.int x3_19), some (.int (x4 + (1 : Int32))), none]) [5] rfl ?_
    exact hK
  · have hf := ite_f hf c_21
    refine G.iconst (v := 1) dX12_tryBeat_130 (by decide) ?_
    refine G.goto (tgt := 135) dX12_tryBeat_131 (by decide) ?_
    refine G.iadd dX12_tryBeat_135 ?_
    refine G.nmi (fun x3_20 e_x3_20 => ?_)
    have hf := letb_at hf e_x3_20
    clear e_x3_20
    refine G.istore_n (L' := [some (.ref 74), some (.int x1), some (.int x2), some (.int x3_20), some (.int x4), some (.int x5)]) dX12_tryBeat_136 rfl (Nat.le_of_ble_eq_true rfl) (Nat.le_of_ble_eq_true rfl) rfl rfl ?_
    refine G.inc (w := 1) (L' := [some (.ref 74), some (.int x1), some (.int x2), some (.int x3_20), some (.int (x4 + (1 : Int32))), some (.int x5)]) dX12_tryBeat_137 (by decide) rfl (Nat.le_of_ble_eq_true rfl) rfl rfl ?_
    refine G.goto (tgt := 37) dX12_tryBeat_140 (by decide) ?_
    have hf := Option.some.inj hf
    subst hf
    refine G.forget (L' := [some (.ref 74), some (.int x1), some (.int x2), some (.int x3_20), some (.int (x4 + (1 : Int32))), none]) [5] rfl ?_
    exact hK
def jX12_tryBeat_98 (x1 : Int32) (x2 : Int32) (x3 : Int32) (x4 : Int32) (x5 : Int32) (u0 : Int32) (u1 : Int32) (u2 : Int32) (I : Mem) : Option ((Int32 × Int32 × Mem) ⊕ (Int32 × Mem)) :=
  chk (inb u2 4) <|
  letb (up2 I 81 (ix u2) (u1 - u0)) fun I_13 =>
  bnd (fX12_roomIn x2 x4 I_13) fun v_15 =>
  chk (inb v_15 5) <|
  if x5 = 0 then
  (jX12_tryBeat_122 x1 x2 x3 x4 x5 (0 : Int32) (I_13 80 (ix v_15)) v_15 I_13)
  else
  (jX12_tryBeat_122 x1 x2 x3 x4 x5 (1 : Int32) (I_13 80 (ix v_15)) v_15 I_13)
set_option maxRecDepth 20000 in
theorem tX12_tryBeat_98 (E : EV) (d : Nat) (rr : Option Value × Mem) (x1 : Int32) (x2 : Int32) (x3 : Int32) (x4 : Int32) (x5 : Int32) (u0 : Int32) (u1 : Int32) (u2 : Int32) (I : Mem) (y : ((Int32 × Int32 × Mem) ⊕ (Int32 × Mem))) (hf : jX12_tryBeat_98 x1 x2 x3 x4 x5 u0 u1 u2 I = some y) (hK : (KX12_tryBeat_37 E d rr x1 x2 (fun (z : Int32 × Mem) => (some (.int z.1), z.2) = rr)) y) : G E (d + 3) kX12_tryBeat 98 [some (.ref 74), some (.int x1), some (.int x2), some (.int x3), some (.int x4), some (.int x5)] [.int u0, .int u1, .int u2, .ref 81] I rr := by
  unfold jX12_tryBeat_98 at hf
  refine G.isub dX12_tryBeat_98 ?_
  obtain ⟨hi_12, hf⟩ := chk_at hf
  refine G.iast' dX12_tryBeat_99 (by decide) rfl rfl hi_12 ?_
  refine G.nmI (fun I_13 e_I_13 => ?_)
  have hf := letb_at hf e_I_13
  clear e_I_13
  refine G.aload_n dX12_tryBeat_100 rfl rfl ?_
  refine G.getR (q := 80) dX12_tryBeat_101 flX12_26 (by decide) rfl rfl ?_
  refine G.iload_n dX12_tryBeat_104 rfl rfl ?_
  refine G.iload dX12_tryBeat_105 rfl ?_
  obtain ⟨v_15, hc_14, hf⟩ := bnd_at hf
  refine G.callSi (av := [.int x2, .int x4]) (rest := [.ref 80]) dX12_tryBeat_107 msX12_151 (gX12_roomIn E (d + 2) x2 x4 I_13 hc_14) rfl rfl (Nat.le_of_ble_eq_true rfl) ?_
  refine G.dup2 dX12_tryBeat_110 rfl rfl ?_
  obtain ⟨hi_16, hf⟩ := chk_at hf
  refine G.iald' dX12_tryBeat_111 (by decide) rfl rfl hi_16 ?_
  refine G.iload dX12_tryBeat_112 rfl ?_
  refine G.if_eq (tgt := 121) dX12_tryBeat_114 (by decide) (fun c_22 => ?_) (fun c_22 => ?_)
  · have hf := ite_t hf c_22
    refine G.iconst (v := 0) dX12_tryBeat_121 (by decide) ?_
    exact tX12_tryBeat_122 E d rr x1 x2 x3 x4 x5 (0 : Int32) (I_13 80 (ix v_15)) v_15 I_13 _ hf hK
  · have hf := ite_f hf c_22
    refine G.iconst (v := 1) dX12_tryBeat_117 (by decide) ?_
    refine G.goto (tgt := 122) dX12_tryBeat_118 (by decide) ?_
    exact tX12_tryBeat_122 E d rr x1 x2 x3 x4 x5 (1 : Int32) (I_13 80 (ix v_15)) v_15 I_13 _ hf hK
def bX12_tryBeat_37 (x1 : Int32) (x2 : Int32) (x3 : Int32) (x4 : Int32) (I : Mem) : Option ((Int32 × Int32 × Mem) ⊕ (Int32 × Mem)) :=
  chk (inb (3 : Int32) 632) <|
  if (I 75 (ix (3 : Int32))) ≤ x4 then
  (inrO (iter (sX12_tryBeat_146 x1 x2 x3) FU ((0 : Int32), I)))
  else
  (chk (inb (1 : Int32) 632) <|
  chk (inb (2 : Int32) 632) <|
  bnd (fX12_lays (I 75 (ix (1 : Int32))) ((I 75 (ix (2 : Int32))) + (1 : Int32)) x1 x2 x4 I) fun v_10 =>
  chk (inb ((24 : Int32) + x4) 632) <|
  if v_10 = 0 then
  (jX12_tryBeat_98 x1 x2 x3 x4 v_10 (0 : Int32) (I 75 (ix ((24 : Int32) + x4))) x4 I)
  else
  (jX12_tryBeat_98 x1 x2 x3 x4 v_10 (1 : Int32) (I 75 (ix ((24 : Int32) + x4))) x4 I))
def sX12_tryBeat_37 (x1 : Int32) (x2 : Int32) (q : (Int32 × Int32 × Mem)) : Option ((Int32 × Int32 × Mem) ⊕ (Int32 × Mem)) := bX12_tryBeat_37 x1 x2 q.1 q.2.1 q.2.2
set_option maxRecDepth 20000 in
theorem wX12_tryBeat_37 (E : EV) (d : Nat) (rr : Option Value × Mem) (x1 : Int32) (x2 : Int32) (x3 : Int32) (x4 : Int32) (I : Mem) (y : ((Int32 × Int32 × Mem) ⊕ (Int32 × Mem))) (hf : bX12_tryBeat_37 x1 x2 x3 x4 I = some y) (hK : (KX12_tryBeat_37 E d rr x1 x2 (fun (z : Int32 × Mem) => (some (.int z.1), z.2) = rr)) y) : G E (d + 3) kX12_tryBeat 37 [some (.ref 74), some (.int x1), some (.int x2), some (.int x3), some (.int x4), none] [] I rr := by
  unfold bX12_tryBeat_37 at hf
  refine G.iload dX12_tryBeat_37 rfl ?_
  refine G.aload_n dX12_tryBeat_39 rfl rfl ?_
  refine G.getR (q := 75) dX12_tryBeat_40 flX12_7 (by decide) rfl rfl ?_
  refine G.iconst (v := 3) dX12_tryBeat_43 (by decide) ?_
  obtain ⟨hi_1, hf⟩ := chk_at hf
  refine G.iald' dX12_tryBeat_44 (by decide) rfl rfl hi_1 ?_
  refine G.icmp_ge (tgt := 143) dX12_tryBeat_45 (by decide) (fun c_24 => ?_) (fun c_24 => ?_)
  · have hf := ite_t hf c_24
    refine G.iconst (v := 0) dX12_tryBeat_143 (by decide) ?_
    refine G.istore (L' := [some (.ref 74), some (.int x1), some (.int x2), some (.int x3), some (.int (0 : Int32)), none]) dX12_tryBeat_144 (Nat.le_of_ble_eq_true rfl) (Nat.le_of_ble_eq_true rfl) rfl rfl ?_
    obtain ⟨z_6, hz_6, rfl⟩ := inrO_at hf
    have hf := hz_6
    exact lX12_tryBeat_146 E d rr x1 x2 x3 _ hK FU _ hf
  · have hf := ite_f hf c_24
    refine G.aload_n dX12_tryBeat_48 rfl rfl ?_
    refine G.aload_n dX12_tryBeat_49 rfl rfl ?_
    refine G.getR (q := 75) dX12_tryBeat_50 flX12_7 (by decide) rfl rfl ?_
    refine G.iconst (v := 1) dX12_tryBeat_53 (by decide) ?_
    obtain ⟨hi_7, hf⟩ := chk_at hf
    refine G.iald' dX12_tryBeat_54 (by decide) rfl rfl hi_7 ?_
    refine G.aload_n dX12_tryBeat_55 rfl rfl ?_
    refine G.getR (q := 75) dX12_tryBeat_56 flX12_7 (by decide) rfl rfl ?_
    refine G.iconst (v := 2) dX12_tryBeat_59 (by decide) ?_
    obtain ⟨hi_8, hf⟩ := chk_at hf
    refine G.iald' dX12_tryBeat_60 (by decide) rfl rfl hi_8 ?_
    refine G.iconst (v := 1) dX12_tryBeat_61 (by decide) ?_
    refine G.iadd dX12_tryBeat_62 ?_
    refine G.iload_n dX12_tryBeat_63 rfl rfl ?_
    refine G.iload_n dX12_tryBeat_64 rfl rfl ?_
    refine G.iload dX12_tryBeat_65 rfl ?_
    obtain ⟨v_10, hc_9, hf⟩ := bnd_at hf
    refine G.callVi (av := [.int (I 75 (ix (1 : Int32))), .int ((I 75 (ix (2 : Int32))) + (1 : Int32)), .int x1, .int x2, .int x4]) (rest := []) dX12_tryBeat_67 mvX12_158 (gX12_lays E d (I 75 (ix (1 : Int32))) ((I 75 (ix (2 : Int32))) + (1 : Int32)) x1 x2 x4 I hc_9) (by decide) rfl rfl rfl (Nat.le_of_ble_eq_true rfl) ?_
    refine G.istore (L' := [some (.ref 74), some (.int x1), some (.int x2), some (.int x3), some (.int x4), some (.int v_10)]) dX12_tryBeat_70 (Nat.le_of_ble_eq_true rfl) (Nat.le_of_ble_eq_true rfl) rfl rfl ?_
    refine G.aload_n dX12_tryBeat_72 rfl rfl ?_
    refine G.getR (q := 81) dX12_tryBeat_73 flX12_29 (by decide) rfl rfl ?_
    refine G.iload dX12_tryBeat_76 rfl ?_
    refine G.aload_n dX12_tryBeat_78 rfl rfl ?_
    refine G.getR (q := 75) dX12_tryBeat_79 flX12_7 (by decide) rfl rfl ?_
    refine G.bipush (v := 24) dX12_tryBeat_82 (by decide) ?_
    refine G.iload dX12_tryBeat_84 rfl ?_
    refine G.iadd dX12_tryBeat_86 ?_
    obtain ⟨hi_11, hf⟩ := chk_at hf
    refine G.iald' dX12_tryBeat_87 (by decide) rfl rfl hi_11 ?_
    refine G.iload dX12_tryBeat_88 rfl ?_
    refine G.if_eq (tgt := 97) dX12_tryBeat_90 (by decide) (fun c_23 => ?_) (fun c_23 => ?_)
    · have hf := ite_t hf c_23
      refine G.iconst (v := 0) dX12_tryBeat_97 (by decide) ?_
      exact tX12_tryBeat_98 E d rr x1 x2 x3 x4 v_10 (0 : Int32) (I 75 (ix ((24 : Int32) + x4))) x4 I _ hf hK
    · have hf := ite_f hf c_23
      refine G.iconst (v := 1) dX12_tryBeat_93 (by decide) ?_
      refine G.goto (tgt := 98) dX12_tryBeat_94 (by decide) ?_
      exact tX12_tryBeat_98 E d rr x1 x2 x3 x4 v_10 (1 : Int32) (I 75 (ix ((24 : Int32) + x4))) x4 I _ hf hK
theorem lX12_tryBeat_37 (E : EV) (d : Nat) (rr : Option Value × Mem) (x1 : Int32) (x2 : Int32) (z : (Int32 × Mem)) (hK : (fun (z : Int32 × Mem) => (some (.int z.1), z.2) = rr) z) : ∀ (n : Nat) (q : (Int32 × Int32 × Mem)), iter (sX12_tryBeat_37 x1 x2) n q = some z → G E (d + 3) kX12_tryBeat 37 [some (.ref 74), some (.int x1), some (.int x2), some (.int q.1), some (.int q.2.1), none] [] q.2.2 rr := by
  intro n
  induction n with
  | zero => intro q h; cases h
  | succ n ih =>
    intro q h
    rcases iter_at h with ⟨q2, hs, h2⟩ | hs
    · exact wX12_tryBeat_37 E d rr x1 x2 q.1 q.2.1 q.2.2 _ hs (ih q2 h2)
    · exact wX12_tryBeat_37 E d rr x1 x2 q.1 q.2.1 q.2.2 _ hs hK
def bX12_tryBeat_5 (x1 : Int32) (x2 : Int32) (x3 : Int32) (x4 : Int32) (I : Mem) : Option ((Int32 × Mem) ⊕ (Int32 × Mem)) :=
  if (5 : Int32) ≤ x4 then
  (inrO (iter (sX12_tryBeat_37 x1 x2) FU (x3, (0 : Int32), I)))
  else
  (chk (inb ((10 : Int32) + x4) 632) <|
  chk (inb x4 5) <|
  letb (up2 I 80 (ix x4) (I 75 (ix ((10 : Int32) + x4)))) fun I_28 =>
  some (.inl ((x4 + (1 : Int32)), I_28)))
def sX12_tryBeat_5 (x1 : Int32) (x2 : Int32) (x3 : Int32) (q : (Int32 × Mem)) : Option ((Int32 × Mem) ⊕ (Int32 × Mem)) := bX12_tryBeat_5 x1 x2 x3 q.1 q.2
set_option maxRecDepth 20000 in
theorem wX12_tryBeat_5 (E : EV) (d : Nat) (rr : Option Value × Mem) (x1 : Int32) (x2 : Int32) (x3 : Int32) (x4 : Int32) (I : Mem) (y : ((Int32 × Mem) ⊕ (Int32 × Mem))) (hf : bX12_tryBeat_5 x1 x2 x3 x4 I = some y) (hK : (KX12_tryBeat_5 E d rr x1 x2 x3 (fun (z : Int32 × Mem) => (some (.int z.1), z.2) = rr)) y) : G E (d + 3) kX12_tryBeat 5 [some (.ref 74), some (.int x1), some (.int x2), some (.int x3), some (.int x4), none] [] I rr := by
  unfold bX12_tryBeat_5 at hf
  refine G.iload dX12_tryBeat_5 rfl ?_
  refine G.iconst (v := 5) dX12_tryBeat_7 (by decide) ?_
  refine G.icmp_ge (tgt := 34) dX12_tryBeat_8 (by decide) (fun c_29 => ?_) (fun c_29 => ?_)
  · have hf := ite_t hf c_29
    refine G.iconst (v := 0) dX12_tryBeat_34 (by decide) ?_
    refine G.istore (L' := [some (.ref 74), some (.int x1), some (.int x2), some (.int x3), some (.int (0 : Int32)), none]) dX12_tryBeat_35 (Nat.le_of_ble_eq_true rfl) (Nat.le_of_ble_eq_true rfl) rfl rfl ?_
    obtain ⟨z_25, hz_25, rfl⟩ := inrO_at hf
    have hf := hz_25
    exact lX12_tryBeat_37 E d rr x1 x2 _ hK FU _ hf
  · have hf := ite_f hf c_29
    refine G.aload_n dX12_tryBeat_11 rfl rfl ?_
    refine G.getR (q := 80) dX12_tryBeat_12 flX12_26 (by decide) rfl rfl ?_
    refine G.iload dX12_tryBeat_15 rfl ?_
    refine G.aload_n dX12_tryBeat_17 rfl rfl ?_
    refine G.getR (q := 75) dX12_tryBeat_18 flX12_7 (by decide) rfl rfl ?_
    refine G.bipush (v := 10) dX12_tryBeat_21 (by decide) ?_
    refine G.iload dX12_tryBeat_23 rfl ?_
    refine G.iadd dX12_tryBeat_25 ?_
    obtain ⟨hi_26, hf⟩ := chk_at hf
    refine G.iald' dX12_tryBeat_26 (by decide) rfl rfl hi_26 ?_
    obtain ⟨hi_27, hf⟩ := chk_at hf
    refine G.iast' dX12_tryBeat_27 (by decide) rfl rfl hi_27 ?_
    refine G.nmI (fun I_28 e_I_28 => ?_)
    have hf := letb_at hf e_I_28
    clear e_I_28
    refine G.inc (w := 1) (L' := [some (.ref 74), some (.int x1), some (.int x2), some (.int x3), some (.int (x4 + (1 : Int32))), none]) dX12_tryBeat_28 (by decide) rfl (Nat.le_of_ble_eq_true rfl) rfl rfl ?_
    refine G.goto (tgt := 5) dX12_tryBeat_31 (by decide) ?_
    have hf := Option.some.inj hf
    subst hf
    exact hK
theorem lX12_tryBeat_5 (E : EV) (d : Nat) (rr : Option Value × Mem) (x1 : Int32) (x2 : Int32) (x3 : Int32) (z : (Int32 × Mem)) (hK : (fun (z : Int32 × Mem) => (some (.int z.1), z.2) = rr) z) : ∀ (n : Nat) (q : (Int32 × Mem)), iter (sX12_tryBeat_5 x1 x2 x3) n q = some z → G E (d + 3) kX12_tryBeat 5 [some (.ref 74), some (.int x1), some (.int x2), some (.int x3), some (.int q.1), none] [] q.2 rr := by
  intro n
  induction n with
  | zero => intro q h; cases h
  | succ n ih =>
    intro q h
    rcases iter_at h with ⟨q2, hs, h2⟩ | hs
    · exact wX12_tryBeat_5 E d rr x1 x2 x3 q.1 q.2 _ hs (ih q2 h2)
    · exact wX12_tryBeat_5 E d rr x1 x2 x3 q.1 q.2 _ hs hK
def fX12_tryBeat (x1 : Int32) (x2 : Int32) (I : Mem) : Option (Int32 × Mem) :=
  iter (sX12_tryBeat_5 x1 x2 (0 : Int32)) FU ((0 : Int32), I)
set_option maxRecDepth 20000 in
theorem gX12_tryBeat (E : EV) (d : Nat) (x1 : Int32) (x2 : Int32) (I : Mem) {v : Int32} {J : Mem} (hf : fX12_tryBeat x1 x2 I = some (v, J)) : Gm E (d + 3) kX12_tryBeat [.ref 74, .int x1, .int x2] I (some (.int v), J) := by
  refine (fun (y : (Int32 × Mem)) (hf : fX12_tryBeat x1 x2 I = some y) => (?_ : Gm E (d + 3) kX12_tryBeat [.ref 74, .int x1, .int x2] I (some (.int y.1), y.2))) (v, J) hf
  refine Gm.of (by decide) rfl (Nat.le_of_ble_eq_true rfl) ?_
  generalize hrr : ((some (.int y.1), y.2) : Option Value × Mem) = rr
  show G E (d + 3) kX12_tryBeat 0 [some (.ref 74), some (.int x1), some (.int x2), none, none, none] [] I rr
  have hK : (fun (z : Int32 × Mem) => (some (.int z.1), z.2) = rr) y := hrr
  clear hrr
  unfold fX12_tryBeat at hf
  refine G.iconst (v := 0) dX12_tryBeat_0 (by decide) ?_
  refine G.istore_n (L' := [some (.ref 74), some (.int x1), some (.int x2), some (.int (0 : Int32)), none, none]) dX12_tryBeat_1 rfl (Nat.le_of_ble_eq_true rfl) (Nat.le_of_ble_eq_true rfl) rfl rfl ?_
  refine G.iconst (v := 0) dX12_tryBeat_2 (by decide) ?_
  refine G.istore (L' := [some (.ref 74), some (.int x1), some (.int x2), some (.int (0 : Int32)), some (.int (0 : Int32)), none]) dX12_tryBeat_3 (Nat.le_of_ble_eq_true rfl) (Nat.le_of_ble_eq_true rfl) rfl rfl ?_
  exact lX12_tryBeat_5 E d rr x1 x2 (0 : Int32) _ hK FU _ hf
