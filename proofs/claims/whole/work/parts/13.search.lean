theorem dX2_markKeeping_0 : decode cX2_markKeeping 0 = .ok (.iconst 0, 1) := by decide +kernel
theorem dX2_markKeeping_1 : decode cX2_markKeeping 1 = .ok (.istore_n 2, 1) := by decide +kernel
theorem dX2_markKeeping_2 : decode cX2_markKeeping 2 = .ok (.iload_n 2, 1) := by decide +kernel
theorem dX2_markKeeping_3 : decode cX2_markKeeping 3 = .ok (.aload_n 0, 1) := by decide +kernel
theorem dX2_markKeeping_4 : decode cX2_markKeeping 4 = .ok (.getfield 39, 3) := by decide +kernel
theorem dX2_markKeeping_7 : decode cX2_markKeeping 7 = .ok (.getfield 74, 3) := by decide +kernel
theorem dX2_markKeeping_10 : decode cX2_markKeeping 10 = .ok (.if_icmp .ge 139, 3) := by decide +kernel
theorem dX2_markKeeping_13 : decode cX2_markKeeping 13 = .ok (.aload_n 0, 1) := by decide +kernel
theorem dX2_markKeeping_14 : decode cX2_markKeeping 14 = .ok (.getfield 39, 3) := by decide +kernel
theorem dX2_markKeeping_17 : decode cX2_markKeeping 17 = .ok (.getfield 77, 3) := by decide +kernel
theorem dX2_markKeeping_20 : decode cX2_markKeeping 20 = .ok (.iload_n 2, 1) := by decide +kernel
theorem dX2_markKeeping_21 : decode cX2_markKeeping 21 = .ok (.iload_n 1, 1) := by decide +kernel
theorem dX2_markKeeping_22 : decode cX2_markKeeping 22 = .ok (.invokestatic 80, 3) := by decide +kernel
theorem dX2_markKeeping_25 : decode cX2_markKeeping 25 = .ok (.iaload, 1) := by decide +kernel
theorem dX2_markKeeping_26 : decode cX2_markKeeping 26 = .ok (.istore_n 3, 1) := by decide +kernel
theorem dX2_markKeeping_27 : decode cX2_markKeeping 27 = .ok (.iload_n 3, 1) := by decide +kernel
theorem dX2_markKeeping_28 : decode cX2_markKeeping 28 = .ok (.iconst (-1), 1) := by decide +kernel
theorem dX2_markKeeping_29 : decode cX2_markKeeping 29 = .ok (.if_icmp .ne 13, 3) := by decide +kernel
theorem dX2_markKeeping_32 : decode cX2_markKeeping 32 = .ok (.aload_n 0, 1) := by decide +kernel
theorem dX2_markKeeping_33 : decode cX2_markKeeping 33 = .ok (.getfield 39, 3) := by decide +kernel
theorem dX2_markKeeping_36 : decode cX2_markKeeping 36 = .ok (.invokevirtual 83, 3) := by decide +kernel
theorem dX2_markKeeping_39 : decode cX2_markKeeping 39 = .ok (.goto 6, 3) := by decide +kernel
theorem dX2_markKeeping_42 : decode cX2_markKeeping 42 = .ok (.iconst 1, 1) := by decide +kernel
theorem dX2_markKeeping_43 : decode cX2_markKeeping 43 = .ok (.iload_n 3, 1) := by decide +kernel
theorem dX2_markKeeping_44 : decode cX2_markKeeping 44 = .ok (.ishl, 1) := by decide +kernel
theorem dX2_markKeeping_45 : decode cX2_markKeeping 45 = .ok (.istore 4, 2) := by decide +kernel
theorem dX2_markKeeping_47 : decode cX2_markKeeping 47 = .ok (.iconst 0, 1) := by decide +kernel
theorem dX2_markKeeping_48 : decode cX2_markKeeping 48 = .ok (.istore 5, 2) := by decide +kernel
theorem dX2_markKeeping_50 : decode cX2_markKeeping 50 = .ok (.iconst 0, 1) := by decide +kernel
theorem dX2_markKeeping_51 : decode cX2_markKeeping 51 = .ok (.istore 6, 2) := by decide +kernel
theorem dX2_markKeeping_53 : decode cX2_markKeeping 53 = .ok (.iload 6, 2) := by decide +kernel
theorem dX2_markKeeping_55 : decode cX2_markKeeping 55 = .ok (.aload_n 0, 1) := by decide +kernel
theorem dX2_markKeeping_56 : decode cX2_markKeeping 56 = .ok (.getfield 39, 3) := by decide +kernel
theorem dX2_markKeeping_59 : decode cX2_markKeeping 59 = .ok (.getfield 87, 3) := by decide +kernel
theorem dX2_markKeeping_62 : decode cX2_markKeeping 62 = .ok (.if_icmp .ge 71, 3) := by decide +kernel
theorem dX2_markKeeping_65 : decode cX2_markKeeping 65 = .ok (.iload_n 1, 1) := by decide +kernel
theorem dX2_markKeeping_66 : decode cX2_markKeeping 66 = .ok (.aload_n 0, 1) := by decide +kernel
theorem dX2_markKeeping_67 : decode cX2_markKeeping 67 = .ok (.getfield 47, 3) := by decide +kernel
theorem dX2_markKeeping_70 : decode cX2_markKeeping 70 = .ok (.if_icmp .eq 26, 3) := by decide +kernel
theorem dX2_markKeeping_73 : decode cX2_markKeeping 73 = .ok (.aload_n 0, 1) := by decide +kernel
theorem dX2_markKeeping_74 : decode cX2_markKeeping 74 = .ok (.getfield 39, 3) := by decide +kernel
theorem dX2_markKeeping_77 : decode cX2_markKeeping 77 = .ok (.iload 6, 2) := by decide +kernel
theorem dX2_markKeeping_79 : decode cX2_markKeeping 79 = .ok (.invokevirtual 90, 3) := by decide +kernel
theorem dX2_markKeeping_82 : decode cX2_markKeeping 82 = .ok (.aload_n 0, 1) := by decide +kernel
theorem dX2_markKeeping_83 : decode cX2_markKeeping 83 = .ok (.getfield 17, 3) := by decide +kernel
theorem dX2_markKeeping_86 : decode cX2_markKeeping 86 = .ok (.iload_n 1, 1) := by decide +kernel
theorem dX2_markKeeping_87 : decode cX2_markKeeping 87 = .ok (.iconst 1, 1) := by decide +kernel
theorem dX2_markKeeping_88 : decode cX2_markKeeping 88 = .ok (.iadd, 1) := by decide +kernel
theorem dX2_markKeeping_89 : decode cX2_markKeeping 89 = .ok (.aaload, 1) := by decide +kernel
theorem dX2_markKeeping_90 : decode cX2_markKeeping 90 = .ok (.iload_n 2, 1) := by decide +kernel
theorem dX2_markKeeping_91 : decode cX2_markKeeping 91 = .ok (.iaload, 1) := by decide +kernel
theorem dX2_markKeeping_92 : decode cX2_markKeeping 92 = .ok (.iand, 1) := by decide +kernel
theorem dX2_markKeeping_93 : decode cX2_markKeeping 93 = .ok (.ifCond .eq 7, 3) := by decide +kernel
theorem dX2_markKeeping_96 : decode cX2_markKeeping 96 = .ok (.iconst 1, 1) := by decide +kernel
theorem dX2_markKeeping_97 : decode cX2_markKeeping 97 = .ok (.goto 4, 3) := by decide +kernel
theorem dX2_markKeeping_100 : decode cX2_markKeeping 100 = .ok (.iconst 0, 1) := by decide +kernel
theorem dX2_markKeeping_101 : decode cX2_markKeeping 101 = .ok (.istore 7, 2) := by decide +kernel
theorem dX2_markKeeping_103 : decode cX2_markKeeping 103 = .ok (.iload 7, 2) := by decide +kernel
theorem dX2_markKeeping_105 : decode cX2_markKeeping 105 = .ok (.ifCond .eq 22, 3) := by decide +kernel
theorem dX2_markKeeping_108 : decode cX2_markKeeping 108 = .ok (.iload 4, 2) := by decide +kernel
theorem dX2_markKeeping_110 : decode cX2_markKeeping 110 = .ok (.iload 6, 2) := by decide +kernel
theorem dX2_markKeeping_112 : decode cX2_markKeeping 112 = .ok (.invokestatic 94, 3) := by decide +kernel
theorem dX2_markKeeping_115 : decode cX2_markKeeping 115 = .ok (.ifCond .eq 12, 3) := by decide +kernel
theorem dX2_markKeeping_118 : decode cX2_markKeeping 118 = .ok (.iload 5, 2) := by decide +kernel
theorem dX2_markKeeping_120 : decode cX2_markKeeping 120 = .ok (.iconst 1, 1) := by decide +kernel
theorem dX2_markKeeping_121 : decode cX2_markKeeping 121 = .ok (.iload 6, 2) := by decide +kernel
theorem dX2_markKeeping_123 : decode cX2_markKeeping 123 = .ok (.ishl, 1) := by decide +kernel
theorem dX2_markKeeping_124 : decode cX2_markKeeping 124 = .ok (.ior, 1) := by decide +kernel
theorem dX2_markKeeping_125 : decode cX2_markKeeping 125 = .ok (.istore 5, 2) := by decide +kernel
theorem dX2_markKeeping_127 : decode cX2_markKeeping 127 = .ok (.iinc 6 1, 3) := by decide +kernel
theorem dX2_markKeeping_130 : decode cX2_markKeeping 130 = .ok (.goto (-77), 3) := by decide +kernel
theorem dX2_markKeeping_133 : decode cX2_markKeeping 133 = .ok (.aload_n 0, 1) := by decide +kernel
theorem dX2_markKeeping_134 : decode cX2_markKeeping 134 = .ok (.getfield 17, 3) := by decide +kernel
theorem dX2_markKeeping_137 : decode cX2_markKeeping 137 = .ok (.iload_n 1, 1) := by decide +kernel
theorem dX2_markKeeping_138 : decode cX2_markKeeping 138 = .ok (.aaload, 1) := by decide +kernel
theorem dX2_markKeeping_139 : decode cX2_markKeeping 139 = .ok (.iload_n 2, 1) := by decide +kernel
theorem dX2_markKeeping_140 : decode cX2_markKeeping 140 = .ok (.iload 5, 2) := by decide +kernel
theorem dX2_markKeeping_142 : decode cX2_markKeeping 142 = .ok (.iastore, 1) := by decide +kernel
theorem dX2_markKeeping_143 : decode cX2_markKeeping 143 = .ok (.iinc 2 1, 3) := by decide +kernel
theorem dX2_markKeeping_146 : decode cX2_markKeeping 146 = .ok (.goto (-144), 3) := by decide +kernel
theorem dX2_markKeeping_149 : decode cX2_markKeeping 149 = .ok (.return_, 1) := by decide +kernel
def KX2_markKeeping_2 (E : EV) (d : Nat) (rr : Option Value × Mem) (x1 : Int32) (Kp : Mem → Prop) : ((Int32 × Mem) ⊕ Mem) → Prop
  | .inl q => G E (d + 1) kX2_markKeeping 2 [some (.ref 45), some (.int x1), some (.int q.1), none, none, none, none, none] [] q.2 rr
  | .inr z => Kp z
def KX2_markKeeping_53 (E : EV) (d : Nat) (rr : Option Value × Mem) (x1 : Int32) (x2 : Int32) (x4 : Int32) (I : Mem) (Kp : ((Int32 × Mem) ⊕ Mem) → Prop) : ((Int32 × Int32) ⊕ ((Int32 × Mem) ⊕ Mem)) → Prop
  | .inl q => G E (d + 1) kX2_markKeeping 53 [some (.ref 45), some (.int x1), some (.int x2), none, some (.int x4), some (.int q.1), some (.int q.2), none] [] I rr
  | .inr z => Kp z
def jX2_markKeeping_101 (x1 : Int32) (x2 : Int32) (x4 : Int32) (x5 : Int32) (x6 : Int32) (u0 : Int32) (I : Mem) : Option ((Int32 × Int32) ⊕ ((Int32 × Mem) ⊕ Mem)) :=
  if u0 = 0 then
  (some (.inl (x5, (x6 + (1 : Int32)))))
  else
  (bnd (fX11_has x4 x6 I) fun v_13 =>
  if v_13 = 0 then
  (some (.inl (x5, (x6 + (1 : Int32)))))
  else
  (letb (x5 ||| ((1 : Int32) <<< (x6 &&& 31))) fun x5_14 =>
  some (.inl (x5_14, (x6 + (1 : Int32))))))
set_option maxRecDepth 20000 in
theorem tX2_markKeeping_101 (E : EV) (d : Nat) (rr : Option Value × Mem) (x1 : Int32) (x2 : Int32) (x4 : Int32) (x5 : Int32) (x6 : Int32) (u0 : Int32) (I : Mem) (y : ((Int32 × Int32) ⊕ ((Int32 × Mem) ⊕ Mem))) (hf : jX2_markKeeping_101 x1 x2 x4 x5 x6 u0 I = some y) (hK : (KX2_markKeeping_53 E d rr x1 x2 x4 I (KX2_markKeeping_2 E d rr x1 (fun (z : Mem) => ((none : Option Value), z) = rr))) y) : G E (d + 1) kX2_markKeeping 101 [some (.ref 45), some (.int x1), some (.int x2), none, some (.int x4), some (.int x5), some (.int x6), none] [.int u0] I rr := by
  unfold jX2_markKeeping_101 at hf
  refine G.istore (L' := [some (.ref 45), some (.int x1), some (.int x2), none, some (.int x4), some (.int x5), some (.int x6), some (.int u0)]) dX2_markKeeping_101 (Nat.le_of_ble_eq_true rfl) (Nat.le_of_ble_eq_true rfl) rfl rfl ?_
  refine G.iload dX2_markKeeping_103 rfl ?_
  refine G.if_eq (tgt := 127) dX2_markKeeping_105 (by decide) (fun c_16 => ?_) (fun c_16 => ?_)
  · have hf := ite_t hf c_16
    refine G.inc (w := 1) (L' := [some (.ref 45), some (.int x1), some (.int x2), none, some (.int x4), some (.int x5), some (.int (x6 + (1 : Int32))), some (.int u0)]) dX2_markKeeping_127 (by decide) rfl (Nat.le_of_ble_eq_true rfl) rfl rfl ?_
    refine G.goto (tgt := 53) dX2_markKeeping_130 (by decide) ?_
    have hf := Option.some.inj hf
    subst hf
    refine G.forget (L' := [some (.ref 45), some (.int x1), some (.int x2), none, some (.int x4), some (.int x5), some (.int (x6 + (1 : Int32))), none]) [7] rfl ?_
    exact hK
  · have hf := ite_f hf c_16
    refine G.iload dX2_markKeeping_108 rfl ?_
    refine G.iload dX2_markKeeping_110 rfl ?_
    obtain ⟨v_13, hc_12, hf⟩ := bnd_at hf
    refine G.callNi (av := [.int x4, .int x6]) (rest := []) dX2_markKeeping_112 mnX2_94 (gX11_has E d x4 x6 I hc_12) rfl rfl (Nat.le_of_ble_eq_true rfl) ?_
    refine G.if_eq (tgt := 127) dX2_markKeeping_115 (by decide) (fun c_15 => ?_) (fun c_15 => ?_)
    · have hf := ite_t hf c_15
      refine G.inc (w := 1) (L' := [some (.ref 45), some (.int x1), some (.int x2), none, some (.int x4), some (.int x5), some (.int (x6 + (1 : Int32))), some (.int u0)]) dX2_markKeeping_127 (by decide) rfl (Nat.le_of_ble_eq_true rfl) rfl rfl ?_
      refine G.goto (tgt := 53) dX2_markKeeping_130 (by decide) ?_
      have hf := Option.some.inj hf
      subst hf
      refine G.forget (L' := [some (.ref 45), some (.int x1), some (.int x2), none, some (.int x4), some (.int x5), some (.int (x6 + (1 : Int32))), none]) [7] rfl ?_
      exact hK
    · have hf := ite_f hf c_15
      refine G.iload dX2_markKeeping_118 rfl ?_
      refine G.iconst (v := 1) dX2_markKeeping_120 (by decide) ?_
      refine G.iload dX2_markKeeping_121 rfl ?_
      refine G.ishl dX2_markKeeping_123 ?_
      refine G.ior dX2_markKeeping_124 ?_
      refine G.nmi (fun x5_14 e_x5_14 => ?_)
      have hf := letb_at hf e_x5_14
      clear e_x5_14
      refine G.istore (L' := [some (.ref 45), some (.int x1), some (.int x2), none, some (.int x4), some (.int x5_14), some (.int x6), some (.int u0)]) dX2_markKeeping_125 (Nat.le_of_ble_eq_true rfl) (Nat.le_of_ble_eq_true rfl) rfl rfl ?_
      refine G.inc (w := 1) (L' := [some (.ref 45), some (.int x1), some (.int x2), none, some (.int x4), some (.int x5_14), some (.int (x6 + (1 : Int32))), some (.int u0)]) dX2_markKeeping_127 (by decide) rfl (Nat.le_of_ble_eq_true rfl) rfl rfl ?_
      refine G.goto (tgt := 53) dX2_markKeeping_130 (by decide) ?_
      have hf := Option.some.inj hf
      subst hf
      refine G.forget (L' := [some (.ref 45), some (.int x1), some (.int x2), none, some (.int x4), some (.int x5_14), some (.int (x6 + (1 : Int32))), none]) [7] rfl ?_
      exact hK
def jX2_markKeeping_96 (x1 : Int32) (x2 : Int32) (x4 : Int32) (x5 : Int32) (x6 : Int32) (I : Mem) : Option ((Int32 × Int32) ⊕ ((Int32 × Mem) ⊕ Mem)) :=
  jX2_markKeeping_101 x1 x2 x4 x5 x6 (1 : Int32) I
set_option maxRecDepth 20000 in
theorem tX2_markKeeping_96 (E : EV) (d : Nat) (rr : Option Value × Mem) (x1 : Int32) (x2 : Int32) (x4 : Int32) (x5 : Int32) (x6 : Int32) (I : Mem) (y : ((Int32 × Int32) ⊕ ((Int32 × Mem) ⊕ Mem))) (hf : jX2_markKeeping_96 x1 x2 x4 x5 x6 I = some y) (hK : (KX2_markKeeping_53 E d rr x1 x2 x4 I (KX2_markKeeping_2 E d rr x1 (fun (z : Mem) => ((none : Option Value), z) = rr))) y) : G E (d + 1) kX2_markKeeping 96 [some (.ref 45), some (.int x1), some (.int x2), none, some (.int x4), some (.int x5), some (.int x6), none] [] I rr := by
  unfold jX2_markKeeping_96 at hf
  refine G.iconst (v := 1) dX2_markKeeping_96 (by decide) ?_
  refine G.goto (tgt := 101) dX2_markKeeping_97 (by decide) ?_
  exact tX2_markKeeping_101 E d rr x1 x2 x4 x5 x6 (1 : Int32) I _ hf hK
def bX2_markKeeping_53 (x1 : Int32) (x2 : Int32) (x4 : Int32) (I : Mem) (x5 : Int32) (x6 : Int32) : Option ((Int32 × Int32) ⊕ ((Int32 × Mem) ⊕ Mem)) :=
  bnd (asH (dec (I 45 1))) fun b9_7 =>
  if (I b9_7 0) ≤ x6 then
  (chk (inb x1 5) <|
  bnd (asA (fin 47 (ix x1))) fun a9_9 =>
  chk (inb x2 (ln a9_9)) <|
  letb (up2 I a9_9 (ix x2) x5) fun I_11 =>
  some (.inr (.inl ((x2 + (1 : Int32)), I_11))))
  else
  (if x1 = (I 45 3) then
  (jX2_markKeeping_96 x1 x2 x4 x5 x6 I)
  else
  (bnd (asH (dec (I 45 1))) fun b9_17 =>
  bnd (fX4_reach b9_17 x6 I) fun v_19 =>
  chk (inb (x1 + (1 : Int32)) 5) <|
  bnd (asA (fin 47 (ix (x1 + (1 : Int32))))) fun a9_21 =>
  chk (inb x2 (ln a9_21)) <|
  if (v_19 &&& (I a9_21 (ix x2))) = 0 then
  (jX2_markKeeping_101 x1 x2 x4 x5 x6 (0 : Int32) I)
  else
  (jX2_markKeeping_96 x1 x2 x4 x5 x6 I)))
def sX2_markKeeping_53 (x1 : Int32) (x2 : Int32) (x4 : Int32) (I : Mem) (q : (Int32 × Int32)) : Option ((Int32 × Int32) ⊕ ((Int32 × Mem) ⊕ Mem)) := bX2_markKeeping_53 x1 x2 x4 I q.1 q.2
set_option maxRecDepth 20000 in
theorem wX2_markKeeping_53 (E : EV) (d : Nat) (rr : Option Value × Mem) (x1 : Int32) (x2 : Int32) (x4 : Int32) (I : Mem) (x5 : Int32) (x6 : Int32) (y : ((Int32 × Int32) ⊕ ((Int32 × Mem) ⊕ Mem))) (hf : bX2_markKeeping_53 x1 x2 x4 I x5 x6 = some y) (hK : (KX2_markKeeping_53 E d rr x1 x2 x4 I (KX2_markKeeping_2 E d rr x1 (fun (z : Mem) => ((none : Option Value), z) = rr))) y) : G E (d + 1) kX2_markKeeping 53 [some (.ref 45), some (.int x1), some (.int x2), none, some (.int x4), some (.int x5), some (.int x6), none] [] I rr := by
  unfold bX2_markKeeping_53 at hf
  refine G.iload dX2_markKeeping_53 rfl ?_
  refine G.aload_n dX2_markKeeping_55 rfl rfl ?_
  obtain ⟨b9_7, hb9_7a, hf⟩ := bnd_at hf
  obtain ⟨hb9_7d, hb9_7⟩ := asH_at hb9_7a
  refine G.getM (q := b9_7) dX2_markKeeping_56 flX2_39 (by decide) rfl hb9_7d ?_
  refine G.getI dX2_markKeeping_59 flX2_87 (isH_lt hb9_7) (isH_lk hb9_7) ?_
  refine G.icmp_ge (tgt := 133) dX2_markKeeping_62 (by decide) (fun c_25 => ?_) (fun c_25 => ?_)
  · have hf := ite_t hf c_25
    refine G.aload_n dX2_markKeeping_133 rfl rfl ?_
    refine G.getR (q := 47) dX2_markKeeping_134 flX2_17 (by decide) rfl rfl ?_
    refine G.iload_n dX2_markKeeping_137 rfl rfl ?_
    obtain ⟨hi_8, hf⟩ := chk_at hf
    obtain ⟨a9_9, ha9_9a, hf⟩ := bnd_at hf
    obtain ⟨ha9_9d, ha9_9⟩ := asA_at ha9_9a
    refine G.aaldA (q := a9_9) dX2_markKeeping_138 (by decide) rfl hi_8 ha9_9d ?_
    refine G.iload_n dX2_markKeeping_139 rfl rfl ?_
    refine G.iload dX2_markKeeping_140 rfl ?_
    obtain ⟨hi_10, hf⟩ := chk_at hf
    refine G.iast' dX2_markKeeping_142 ha9_9.1 ha9_9.2 rfl hi_10 ?_
    refine G.nmI (fun I_11 e_I_11 => ?_)
    have hf := letb_at hf e_I_11
    clear e_I_11
    refine G.inc (w := 1) (L' := [some (.ref 45), some (.int x1), some (.int (x2 + (1 : Int32))), none, some (.int x4), some (.int x5), some (.int x6), none]) dX2_markKeeping_143 (by decide) rfl (Nat.le_of_ble_eq_true rfl) rfl rfl ?_
    refine G.goto (tgt := 2) dX2_markKeeping_146 (by decide) ?_
    have hf := Option.some.inj hf
    subst hf
    refine G.forget (L' := [some (.ref 45), some (.int x1), some (.int (x2 + (1 : Int32))), none, none, none, none, none]) [4, 5, 6] rfl ?_
    exact hK
  · have hf := ite_f hf c_25
    refine G.iload_n dX2_markKeeping_65 rfl rfl ?_
    refine G.aload_n dX2_markKeeping_66 rfl rfl ?_
    refine G.getI dX2_markKeeping_67 flX2_47 (by decide) rfl ?_
    refine G.icmp_eq (tgt := 96) dX2_markKeeping_70 (by decide) (fun c_24 => ?_) (fun c_24 => ?_)
    · have hf := ite_t hf c_24
      exact tX2_markKeeping_96 E d rr x1 x2 x4 x5 x6 I _ hf hK
    · have hf := ite_f hf c_24
      refine G.aload_n dX2_markKeeping_73 rfl rfl ?_
      obtain ⟨b9_17, hb9_17a, hf⟩ := bnd_at hf
      obtain ⟨hb9_17d, hb9_17⟩ := asH_at hb9_17a
      refine G.getM (q := b9_17) dX2_markKeeping_74 flX2_39 (by decide) rfl hb9_17d ?_
      refine G.iload dX2_markKeeping_77 rfl ?_
      obtain ⟨v_19, hc_18, hf⟩ := bnd_at hf
      refine G.callVi (av := [.int x6]) (rest := []) dX2_markKeeping_79 mvX2_90 (gX4_reach E d b9_17 x6 I hb9_17 hc_18) (isH_lt hb9_17) (isH_lk hb9_17) rfl rfl (Nat.le_of_ble_eq_true rfl) ?_
      refine G.aload_n dX2_markKeeping_82 rfl rfl ?_
      refine G.getR (q := 47) dX2_markKeeping_83 flX2_17 (by decide) rfl rfl ?_
      refine G.iload_n dX2_markKeeping_86 rfl rfl ?_
      refine G.iconst (v := 1) dX2_markKeeping_87 (by decide) ?_
      refine G.iadd dX2_markKeeping_88 ?_
      obtain ⟨hi_20, hf⟩ := chk_at hf
      obtain ⟨a9_21, ha9_21a, hf⟩ := bnd_at hf
      obtain ⟨ha9_21d, ha9_21⟩ := asA_at ha9_21a
      refine G.aaldA (q := a9_21) dX2_markKeeping_89 (by decide) rfl hi_20 ha9_21d ?_
      refine G.iload_n dX2_markKeeping_90 rfl rfl ?_
      obtain ⟨hi_22, hf⟩ := chk_at hf
      refine G.iald' dX2_markKeeping_91 ha9_21.1 ha9_21.2 rfl hi_22 ?_
      refine G.iand dX2_markKeeping_92 ?_
      refine G.if_eq (tgt := 100) dX2_markKeeping_93 (by decide) (fun c_23 => ?_) (fun c_23 => ?_)
      · have hf := ite_t hf c_23
        refine G.iconst (v := 0) dX2_markKeeping_100 (by decide) ?_
        exact tX2_markKeeping_101 E d rr x1 x2 x4 x5 x6 (0 : Int32) I _ hf hK
      · have hf := ite_f hf c_23
        exact tX2_markKeeping_96 E d rr x1 x2 x4 x5 x6 I _ hf hK
theorem lX2_markKeeping_53 (E : EV) (d : Nat) (rr : Option Value × Mem) (x1 : Int32) (x2 : Int32) (x4 : Int32) (I : Mem) (z : ((Int32 × Mem) ⊕ Mem)) (hK : (KX2_markKeeping_2 E d rr x1 (fun (z : Mem) => ((none : Option Value), z) = rr)) z) : ∀ (n : Nat) (q : (Int32 × Int32)), iter (sX2_markKeeping_53 x1 x2 x4 I) n q = some z → G E (d + 1) kX2_markKeeping 53 [some (.ref 45), some (.int x1), some (.int x2), none, some (.int x4), some (.int q.1), some (.int q.2), none] [] I rr := by
  intro n
  induction n with
  | zero => intro q h; cases h
  | succ n ih =>
    intro q h
    rcases iter_at h with ⟨q2, hs, h2⟩ | hs
    · exact wX2_markKeeping_53 E d rr x1 x2 x4 I q.1 q.2 _ hs (ih q2 h2)
    · exact wX2_markKeeping_53 E d rr x1 x2 x4 I q.1 q.2 _ hs hK
def jX2_markKeeping_45 (x1 : Int32) (x2 : Int32) (u0 : Int32) (I : Mem) : Option ((Int32 × Mem) ⊕ Mem) :=
  iter (sX2_markKeeping_53 x1 x2 u0 I) FU ((0 : Int32), (0 : Int32))
set_option maxRecDepth 20000 in
theorem tX2_markKeeping_45 (E : EV) (d : Nat) (rr : Option Value × Mem) (x1 : Int32) (x2 : Int32) (u0 : Int32) (I : Mem) (y : ((Int32 × Mem) ⊕ Mem)) (hf : jX2_markKeeping_45 x1 x2 u0 I = some y) (hK : (KX2_markKeeping_2 E d rr x1 (fun (z : Mem) => ((none : Option Value), z) = rr)) y) : G E (d + 1) kX2_markKeeping 45 [some (.ref 45), some (.int x1), some (.int x2), none, none, none, none, none] [.int u0] I rr := by
  unfold jX2_markKeeping_45 at hf
  refine G.istore (L' := [some (.ref 45), some (.int x1), some (.int x2), none, some (.int u0), none, none, none]) dX2_markKeeping_45 (Nat.le_of_ble_eq_true rfl) (Nat.le_of_ble_eq_true rfl) rfl rfl ?_
  refine G.iconst (v := 0) dX2_markKeeping_47 (by decide) ?_
  refine G.istore (L' := [some (.ref 45), some (.int x1), some (.int x2), none, some (.int u0), some (.int (0 : Int32)), none, none]) dX2_markKeeping_48 (Nat.le_of_ble_eq_true rfl) (Nat.le_of_ble_eq_true rfl) rfl rfl ?_
  refine G.iconst (v := 0) dX2_markKeeping_50 (by decide) ?_
  refine G.istore (L' := [some (.ref 45), some (.int x1), some (.int x2), none, some (.int u0), some (.int (0 : Int32)), some (.int (0 : Int32)), none]) dX2_markKeeping_51 (Nat.le_of_ble_eq_true rfl) (Nat.le_of_ble_eq_true rfl) rfl rfl ?_
  exact lX2_markKeeping_53 E d rr x1 x2 u0 I _ hK FU _ hf
def bX2_markKeeping_2 (x1 : Int32) (x2 : Int32) (I : Mem) : Option ((Int32 × Mem) ⊕ Mem) :=
  bnd (asH (dec (I 45 1))) fun b9_1 =>
  if (I b9_1 2) ≤ x2 then
  (some (.inr I))
  else
  (bnd (asH (dec (I 45 1))) fun b9_2 =>
  bnd (fX11_wishPlace x2 x1 I) fun v_4 =>
  chk (inb v_4 16) <|
  letb (I (b9_2 + 5) (ix v_4)) fun x3_6 =>
  if x3_6 = (-1 : Int32) then
  (bnd (asH (dec (I 45 1))) fun b9_26 =>
  bnd (fX4_everywhere b9_26 I) fun v_28 =>
  jX2_markKeeping_45 x1 x2 v_28 I)
  else
  (jX2_markKeeping_45 x1 x2 ((1 : Int32) <<< (x3_6 &&& 31)) I))
def sX2_markKeeping_2 (x1 : Int32) (q : (Int32 × Mem)) : Option ((Int32 × Mem) ⊕ Mem) := bX2_markKeeping_2 x1 q.1 q.2
set_option maxRecDepth 20000 in
theorem wX2_markKeeping_2 (E : EV) (d : Nat) (rr : Option Value × Mem) (x1 : Int32) (x2 : Int32) (I : Mem) (y : ((Int32 × Mem) ⊕ Mem)) (hf : bX2_markKeeping_2 x1 x2 I = some y) (hK : (KX2_markKeeping_2 E d rr x1 (fun (z : Mem) => ((none : Option Value), z) = rr)) y) : G E (d + 1) kX2_markKeeping 2 [some (.ref 45), some (.int x1), some (.int x2), none, none, none, none, none] [] I rr := by
  unfold bX2_markKeeping_2 at hf
  refine G.iload_n dX2_markKeeping_2 rfl rfl ?_
  refine G.aload_n dX2_markKeeping_3 rfl rfl ?_
  obtain ⟨b9_1, hb9_1a, hf⟩ := bnd_at hf
  obtain ⟨hb9_1d, hb9_1⟩ := asH_at hb9_1a
  refine G.getM (q := b9_1) dX2_markKeeping_4 flX2_39 (by decide) rfl hb9_1d ?_
  refine G.getI dX2_markKeeping_7 flX2_74 (isH_lt hb9_1) (isH_lk hb9_1) ?_
  refine G.icmp_ge (tgt := 149) dX2_markKeeping_10 (by decide) (fun c_30 => ?_) (fun c_30 => ?_)
  · have hf := ite_t hf c_30
    have hf := Option.some.inj hf
    subst hf
    exact G.vret' dX2_markKeeping_149 rfl hK
  · have hf := ite_f hf c_30
    refine G.aload_n dX2_markKeeping_13 rfl rfl ?_
    obtain ⟨b9_2, hb9_2a, hf⟩ := bnd_at hf
    obtain ⟨hb9_2d, hb9_2⟩ := asH_at hb9_2a
    refine G.getM (q := b9_2) dX2_markKeeping_14 flX2_39 (by decide) rfl hb9_2d ?_
    refine G.getR (q := (b9_2 + 5)) dX2_markKeeping_17 flX2_77 (isH_lt hb9_2) (isH_lk hb9_2) (isH_r5 hb9_2) ?_
    refine G.iload_n dX2_markKeeping_20 rfl rfl ?_
    refine G.iload_n dX2_markKeeping_21 rfl rfl ?_
    obtain ⟨v_4, hc_3, hf⟩ := bnd_at hf
    refine G.callNi (av := [.int x2, .int x1]) (rest := [.ref (b9_2 + 5)]) dX2_markKeeping_22 mnX2_80 (gX11_wishPlace E d x2 x1 I hc_3) rfl rfl (Nat.le_of_ble_eq_true rfl) ?_
    obtain ⟨hi_5, hf⟩ := chk_at hf
    refine G.iald' dX2_markKeeping_25 (isH_l5 hb9_2) (isH_k5 hb9_2) (isH_n5 hb9_2) hi_5 ?_
    refine G.nmi (fun x3_6 e_x3_6 => ?_)
    have hf := letb_at hf e_x3_6
    clear e_x3_6
    refine G.istore_n (L' := [some (.ref 45), some (.int x1), some (.int x2), some (.int x3_6), none, none, none, none]) dX2_markKeeping_26 rfl (Nat.le_of_ble_eq_true rfl) (Nat.le_of_ble_eq_true rfl) rfl rfl ?_
    refine G.iload_n dX2_markKeeping_27 rfl rfl ?_
    refine G.iconst (v := -1) dX2_markKeeping_28 (by decide) ?_
    refine G.icmp_ne (tgt := 42) dX2_markKeeping_29 (by decide) (fun c_29 => ?_) (fun c_29 => ?_)
    · have hf := ite_f hf c_29
      refine G.iconst (v := 1) dX2_markKeeping_42 (by decide) ?_
      refine G.iload_n dX2_markKeeping_43 rfl rfl ?_
      refine G.ishl dX2_markKeeping_44 ?_
      refine G.forget (L' := [some (.ref 45), some (.int x1), some (.int x2), none, none, none, none, none]) [3] rfl ?_
      exact tX2_markKeeping_45 E d rr x1 x2 ((1 : Int32) <<< (x3_6 &&& 31)) I _ hf hK
    · have hf := ite_t hf c_29
      refine G.aload_n dX2_markKeeping_32 rfl rfl ?_
      obtain ⟨b9_26, hb9_26a, hf⟩ := bnd_at hf
      obtain ⟨hb9_26d, hb9_26⟩ := asH_at hb9_26a
      refine G.getM (q := b9_26) dX2_markKeeping_33 flX2_39 (by decide) rfl hb9_26d ?_
      obtain ⟨v_28, hc_27, hf⟩ := bnd_at hf
      refine G.callVi (av := []) (rest := []) dX2_markKeeping_36 mvX2_83 (gX4_everywhere E d b9_26 I hb9_26 hc_27) (isH_lt hb9_26) (isH_lk hb9_26) rfl rfl (Nat.le_of_ble_eq_true rfl) ?_
      refine G.goto (tgt := 45) dX2_markKeeping_39 (by decide) ?_
      refine G.forget (L' := [some (.ref 45), some (.int x1), some (.int x2), none, none, none, none, none]) [3] rfl ?_
      exact tX2_markKeeping_45 E d rr x1 x2 v_28 I _ hf hK
theorem lX2_markKeeping_2 (E : EV) (d : Nat) (rr : Option Value × Mem) (x1 : Int32) (z : Mem) (hK : (fun (z : Mem) => ((none : Option Value), z) = rr) z) : ∀ (n : Nat) (q : (Int32 × Mem)), iter (sX2_markKeeping_2 x1) n q = some z → G E (d + 1) kX2_markKeeping 2 [some (.ref 45), some (.int x1), some (.int q.1), none, none, none, none, none] [] q.2 rr := by
  intro n
  induction n with
  | zero => intro q h; cases h
  | succ n ih =>
    intro q h
    rcases iter_at h with ⟨q2, hs, h2⟩ | hs
    · exact wX2_markKeeping_2 E d rr x1 q.1 q.2 _ hs (ih q2 h2)
    · exact wX2_markKeeping_2 E d rr x1 q.1 q.2 _ hs hK
def fX2_markKeeping (x1 : Int32) (I : Mem) : Option Mem :=
  iter (sX2_markKeeping_2 x1) FU ((0 : Int32), I)
set_option maxRecDepth 20000 in
theorem gX2_markKeeping (E : EV) (d : Nat) (x1 : Int32) (I : Mem) {J : Mem} (hf : fX2_markKeeping x1 I = some J) : Gm E (d + 1) kX2_markKeeping [.ref 45, .int x1] I (none, J) := by
  refine (fun (y : Mem) (hf : fX2_markKeeping x1 I = some y) => (?_ : Gm E (d + 1) kX2_markKeeping [.ref 45, .int x1] I (none, y))) J hf
  refine Gm.of (by decide) rfl (Nat.le_of_ble_eq_true rfl) ?_
  generalize hrr : ((none, y) : Option Value × Mem) = rr
  show G E (d + 1) kX2_markKeeping 0 [some (.ref 45), some (.int x1), none, none, none, none, none, none] [] I rr
  have hK : (fun (z : Mem) => ((none : Option Value), z) = rr) y := hrr
  clear hrr
  unfold fX2_markKeeping at hf
  refine G.iconst (v := 0) dX2_markKeeping_0 (by decide) ?_
  refine G.istore_n (L' := [some (.ref 45), some (.int x1), some (.int (0 : Int32)), none, none, none, none, none]) dX2_markKeeping_1 rfl (Nat.le_of_ble_eq_true rfl) (Nat.le_of_ble_eq_true rfl) rfl rfl ?_
  exact lX2_markKeeping_2 E d rr x1 _ hK FU _ hf
theorem dX2_leastFrom_0 : decode cX2_leastFrom 0 = .ok (.aload_n 0, 1) := by decide +kernel
theorem dX2_leastFrom_1 : decode cX2_leastFrom 1 = .ok (.getfield 36, 3) := by decide +kernel
theorem dX2_leastFrom_4 : decode cX2_leastFrom 4 = .ok (.aload_n 0, 1) := by decide +kernel
theorem dX2_leastFrom_5 : decode cX2_leastFrom 5 = .ok (.getfield 39, 3) := by decide +kernel
theorem dX2_leastFrom_8 : decode cX2_leastFrom 8 = .ok (.iload_n 1, 1) := by decide +kernel
theorem dX2_leastFrom_9 : decode cX2_leastFrom 9 = .ok (.aload_n 0, 1) := by decide +kernel
theorem dX2_leastFrom_10 : decode cX2_leastFrom 10 = .ok (.getfield 17, 3) := by decide +kernel
theorem dX2_leastFrom_13 : decode cX2_leastFrom 13 = .ok (.iload_n 2, 1) := by decide +kernel
theorem dX2_leastFrom_14 : decode cX2_leastFrom 14 = .ok (.aaload, 1) := by decide +kernel
theorem dX2_leastFrom_15 : decode cX2_leastFrom 15 = .ok (.invokevirtual 113, 3) := by decide +kernel
theorem dX2_leastFrom_18 : decode cX2_leastFrom 18 = .ok (.istore_n 3, 1) := by decide +kernel
theorem dX2_leastFrom_19 : decode cX2_leastFrom 19 = .ok (.iconst (-1), 1) := by decide +kernel
theorem dX2_leastFrom_20 : decode cX2_leastFrom 20 = .ok (.istore 4, 2) := by decide +kernel
theorem dX2_leastFrom_22 : decode cX2_leastFrom 22 = .ok (.iconst 0, 1) := by decide +kernel
theorem dX2_leastFrom_23 : decode cX2_leastFrom 23 = .ok (.istore 5, 2) := by decide +kernel
theorem dX2_leastFrom_25 : decode cX2_leastFrom 25 = .ok (.iload 5, 2) := by decide +kernel
theorem dX2_leastFrom_27 : decode cX2_leastFrom 27 = .ok (.iload_n 3, 1) := by decide +kernel
theorem dX2_leastFrom_28 : decode cX2_leastFrom 28 = .ok (.if_icmp .ge 134, 3) := by decide +kernel
theorem dX2_leastFrom_31 : decode cX2_leastFrom 31 = .ok (.iload 4, 2) := by decide +kernel
theorem dX2_leastFrom_33 : decode cX2_leastFrom 33 = .ok (.iconst (-1), 1) := by decide +kernel
theorem dX2_leastFrom_34 : decode cX2_leastFrom 34 = .ok (.if_icmp .eq 14, 3) := by decide +kernel
theorem dX2_leastFrom_37 : decode cX2_leastFrom 37 = .ok (.iload 4, 2) := by decide +kernel
theorem dX2_leastFrom_39 : decode cX2_leastFrom 39 = .ok (.aload_n 0, 1) := by decide +kernel
theorem dX2_leastFrom_40 : decode cX2_leastFrom 40 = .ok (.getfield 23, 3) := by decide +kernel
theorem dX2_leastFrom_43 : decode cX2_leastFrom 43 = .ok (.iload_n 2, 1) := by decide +kernel
theorem dX2_leastFrom_44 : decode cX2_leastFrom 44 = .ok (.iaload, 1) := by decide +kernel
theorem dX2_leastFrom_45 : decode cX2_leastFrom 45 = .ok (.if_icmp .le 117, 3) := by decide +kernel
theorem dX2_leastFrom_48 : decode cX2_leastFrom 48 = .ok (.aload_n 0, 1) := by decide +kernel
theorem dX2_leastFrom_49 : decode cX2_leastFrom 49 = .ok (.getfield 36, 3) := by decide +kernel
theorem dX2_leastFrom_52 : decode cX2_leastFrom 52 = .ok (.getfield 102, 3) := by decide +kernel
theorem dX2_leastFrom_55 : decode cX2_leastFrom 55 = .ok (.istore 6, 2) := by decide +kernel
theorem dX2_leastFrom_57 : decode cX2_leastFrom 57 = .ok (.aload_n 0, 1) := by decide +kernel
theorem dX2_leastFrom_58 : decode cX2_leastFrom 58 = .ok (.getfield 39, 3) := by decide +kernel
theorem dX2_leastFrom_61 : decode cX2_leastFrom 61 = .ok (.iload_n 1, 1) := by decide +kernel
theorem dX2_leastFrom_62 : decode cX2_leastFrom 62 = .ok (.iload 6, 2) := by decide +kernel
theorem dX2_leastFrom_64 : decode cX2_leastFrom 64 = .ok (.aload_n 0, 1) := by decide +kernel
theorem dX2_leastFrom_65 : decode cX2_leastFrom 65 = .ok (.getfield 26, 3) := by decide +kernel
theorem dX2_leastFrom_68 : decode cX2_leastFrom 68 = .ok (.iload_n 1, 1) := by decide +kernel
theorem dX2_leastFrom_69 : decode cX2_leastFrom 69 = .ok (.iaload, 1) := by decide +kernel
theorem dX2_leastFrom_70 : decode cX2_leastFrom 70 = .ok (.aload_n 0, 1) := by decide +kernel
theorem dX2_leastFrom_71 : decode cX2_leastFrom 71 = .ok (.getfield 26, 3) := by decide +kernel
theorem dX2_leastFrom_74 : decode cX2_leastFrom 74 = .ok (.iload 6, 2) := by decide +kernel
theorem dX2_leastFrom_76 : decode cX2_leastFrom 76 = .ok (.iaload, 1) := by decide +kernel
theorem dX2_leastFrom_77 : decode cX2_leastFrom 77 = .ok (.aload_n 0, 1) := by decide +kernel
theorem dX2_leastFrom_78 : decode cX2_leastFrom 78 = .ok (.getfield 39, 3) := by decide +kernel
theorem dX2_leastFrom_81 : decode cX2_leastFrom 81 = .ok (.getfield 117, 3) := by decide +kernel
theorem dX2_leastFrom_84 : decode cX2_leastFrom 84 = .ok (.iload_n 2, 1) := by decide +kernel
theorem dX2_leastFrom_85 : decode cX2_leastFrom 85 = .ok (.iadd, 1) := by decide +kernel
theorem dX2_leastFrom_86 : decode cX2_leastFrom 86 = .ok (.aload_n 0, 1) := by decide +kernel
theorem dX2_leastFrom_87 : decode cX2_leastFrom 87 = .ok (.getfield 43, 3) := by decide +kernel
theorem dX2_leastFrom_90 : decode cX2_leastFrom 90 = .ok (.invokevirtual 120, 3) := by decide +kernel
theorem dX2_leastFrom_93 : decode cX2_leastFrom 93 = .ok (.istore 7, 2) := by decide +kernel
theorem dX2_leastFrom_95 : decode cX2_leastFrom 95 = .ok (.iload 7, 2) := by decide +kernel
theorem dX2_leastFrom_97 : decode cX2_leastFrom 97 = .ok (.invokestatic 124, 3) := by decide +kernel
theorem dX2_leastFrom_100 : decode cX2_leastFrom 100 = .ok (.iload_n 2, 1) := by decide +kernel
theorem dX2_leastFrom_101 : decode cX2_leastFrom 101 = .ok (.aload_n 0, 1) := by decide +kernel
theorem dX2_leastFrom_102 : decode cX2_leastFrom 102 = .ok (.getfield 47, 3) := by decide +kernel
theorem dX2_leastFrom_105 : decode cX2_leastFrom 105 = .ok (.if_icmp .ne 7, 3) := by decide +kernel
theorem dX2_leastFrom_108 : decode cX2_leastFrom 108 = .ok (.iconst 0, 1) := by decide +kernel
theorem dX2_leastFrom_109 : decode cX2_leastFrom 109 = .ok (.goto 14, 3) := by decide +kernel
theorem dX2_leastFrom_112 : decode cX2_leastFrom 112 = .ok (.aload_n 0, 1) := by decide +kernel
theorem dX2_leastFrom_113 : decode cX2_leastFrom 113 = .ok (.getfield 20, 3) := by decide +kernel
theorem dX2_leastFrom_116 : decode cX2_leastFrom 116 = .ok (.iload_n 2, 1) := by decide +kernel
theorem dX2_leastFrom_117 : decode cX2_leastFrom 117 = .ok (.iconst 1, 1) := by decide +kernel
theorem dX2_leastFrom_118 : decode cX2_leastFrom 118 = .ok (.isub, 1) := by decide +kernel
theorem dX2_leastFrom_119 : decode cX2_leastFrom 119 = .ok (.aaload, 1) := by decide +kernel
theorem dX2_leastFrom_120 : decode cX2_leastFrom 120 = .ok (.iload 6, 2) := by decide +kernel
theorem dX2_leastFrom_122 : decode cX2_leastFrom 122 = .ok (.iaload, 1) := by decide +kernel
theorem dX2_leastFrom_123 : decode cX2_leastFrom 123 = .ok (.iadd, 1) := by decide +kernel
theorem dX2_leastFrom_124 : decode cX2_leastFrom 124 = .ok (.istore 8, 2) := by decide +kernel
theorem dX2_leastFrom_126 : decode cX2_leastFrom 126 = .ok (.iload 4, 2) := by decide +kernel
theorem dX2_leastFrom_128 : decode cX2_leastFrom 128 = .ok (.iconst (-1), 1) := by decide +kernel
theorem dX2_leastFrom_129 : decode cX2_leastFrom 129 = .ok (.if_icmp .eq 10, 3) := by decide +kernel
theorem dX2_leastFrom_132 : decode cX2_leastFrom 132 = .ok (.iload 8, 2) := by decide +kernel
theorem dX2_leastFrom_134 : decode cX2_leastFrom 134 = .ok (.iload 4, 2) := by decide +kernel
theorem dX2_leastFrom_136 : decode cX2_leastFrom 136 = .ok (.if_icmp .ge 13, 3) := by decide +kernel
theorem dX2_leastFrom_139 : decode cX2_leastFrom 139 = .ok (.iload 8, 2) := by decide +kernel
theorem dX2_leastFrom_141 : decode cX2_leastFrom 141 = .ok (.istore 4, 2) := by decide +kernel
theorem dX2_leastFrom_143 : decode cX2_leastFrom 143 = .ok (.aload_n 0, 1) := by decide +kernel
theorem dX2_leastFrom_144 : decode cX2_leastFrom 144 = .ok (.iload 6, 2) := by decide +kernel
theorem dX2_leastFrom_146 : decode cX2_leastFrom 146 = .ok (.putfield 71, 3) := by decide +kernel
theorem dX2_leastFrom_149 : decode cX2_leastFrom 149 = .ok (.aload_n 0, 1) := by decide +kernel
theorem dX2_leastFrom_150 : decode cX2_leastFrom 150 = .ok (.getfield 36, 3) := by decide +kernel
theorem dX2_leastFrom_153 : decode cX2_leastFrom 153 = .ok (.invokevirtual 110, 3) := by decide +kernel
theorem dX2_leastFrom_156 : decode cX2_leastFrom 156 = .ok (.iinc 5 1, 3) := by decide +kernel
theorem dX2_leastFrom_159 : decode cX2_leastFrom 159 = .ok (.goto (-134), 3) := by decide +kernel
theorem dX2_leastFrom_162 : decode cX2_leastFrom 162 = .ok (.iload 4, 2) := by decide +kernel
theorem dX2_leastFrom_164 : decode cX2_leastFrom 164 = .ok (.ireturn, 1) := by decide +kernel
def KX2_leastFrom_25 (E : EV) (d : Nat) (rr : Option Value × Mem) (x1 : Int32) (x2 : Int32) (x3 : Int32) (Kp : (Int32 × Mem) → Prop) : ((Int32 × Int32 × Mem) ⊕ (Int32 × Mem)) → Prop
  | .inl q => G E (d + 3) kX2_leastFrom 25 [some (.ref 45), some (.int x1), some (.int x2), some (.int x3), some (.int q.1), some (.int q.2.1), none, none, none] [] q.2.2 rr
  | .inr z => Kp z
def jX2_leastFrom_149 (x1 : Int32) (x2 : Int32) (x3 : Int32) (x4 : Int32) (x5 : Int32) (I : Mem) : Option ((Int32 × Int32 × Mem) ⊕ (Int32 × Mem)) :=
  bnd (fX10_step 61 I) fun I_23 =>
  some (.inl (x4, (x5 + (1 : Int32)), I_23))
set_option maxRecDepth 20000 in
theorem tX2_leastFrom_149 (E : EV) (d : Nat) (rr : Option Value × Mem) (x1 : Int32) (x2 : Int32) (x3 : Int32) (x4 : Int32) (x5 : Int32) (I : Mem) (y : ((Int32 × Int32 × Mem) ⊕ (Int32 × Mem))) (hf : jX2_leastFrom_149 x1 x2 x3 x4 x5 I = some y) (hK : (KX2_leastFrom_25 E d rr x1 x2 x3 (fun (z : Int32 × Mem) => (some (.int z.1), z.2) = rr)) y) : G E (d + 3) kX2_leastFrom 149 [some (.ref 45), some (.int x1), some (.int x2), some (.int x3), some (.int x4), some (.int x5), none, none, none] [] I rr := by
  unfold jX2_leastFrom_149 at hf
  refine G.aload_n dX2_leastFrom_149 rfl rfl ?_
  refine G.getR (q := 61) dX2_leastFrom_150 flX2_36 (by decide) rfl rfl ?_
  obtain ⟨I_23, hc_22, hf⟩ := bnd_at hf
  refine G.callVv (av := []) (rest := []) dX2_leastFrom_153 mvX2_110 (gX10_step E (d + 1) 61 I (by unfold isW; decide) hc_22) (by decide) rfl rfl rfl (Nat.le_of_ble_eq_true rfl) ?_
  refine G.inc (w := 1) (L' := [some (.ref 45), some (.int x1), some (.int x2), some (.int x3), some (.int x4), some (.int (x5 + (1 : Int32))), none, none, none]) dX2_leastFrom_156 (by decide) rfl (Nat.le_of_ble_eq_true rfl) rfl rfl ?_
  refine G.goto (tgt := 25) dX2_leastFrom_159 (by decide) ?_
  have hf := Option.some.inj hf
  subst hf
  exact hK
def jX2_leastFrom_139 (x1 : Int32) (x2 : Int32) (x3 : Int32) (x5 : Int32) (x6 : Int32) (x8 : Int32) (I : Mem) : Option ((Int32 × Int32 × Mem) ⊕ (Int32 × Mem)) :=
  letb (up2 I 45 4 x6) fun I_21 =>
  jX2_leastFrom_149 x1 x2 x3 x8 x5 I_21
set_option maxRecDepth 20000 in
theorem tX2_leastFrom_139 (E : EV) (d : Nat) (rr : Option Value × Mem) (x1 : Int32) (x2 : Int32) (x3 : Int32) (x5 : Int32) (x6 : Int32) (x8 : Int32) (I : Mem) (y : ((Int32 × Int32 × Mem) ⊕ (Int32 × Mem))) (hf : jX2_leastFrom_139 x1 x2 x3 x5 x6 x8 I = some y) (hK : (KX2_leastFrom_25 E d rr x1 x2 x3 (fun (z : Int32 × Mem) => (some (.int z.1), z.2) = rr)) y) : G E (d + 3) kX2_leastFrom 139 [some (.ref 45), some (.int x1), some (.int x2), some (.int x3), none, some (.int x5), some (.int x6), none, some (.int x8)] [] I rr := by
  unfold jX2_leastFrom_139 at hf
  refine G.iload dX2_leastFrom_139 rfl ?_
  refine G.istore (L' := [some (.ref 45), some (.int x1), some (.int x2), some (.int x3), some (.int x8), some (.int x5), some (.int x6), none, some (.int x8)]) dX2_leastFrom_141 (Nat.le_of_ble_eq_true rfl) (Nat.le_of_ble_eq_true rfl) rfl rfl ?_
  refine G.aload_n dX2_leastFrom_143 rfl rfl ?_
  refine G.iload dX2_leastFrom_144 rfl ?_
  refine G.putI dX2_leastFrom_146 flX2_71 (by decide) rfl ?_
  refine G.nmI (fun I_21 e_I_21 => ?_)
  have hf := letb_at hf e_I_21
  clear e_I_21
  refine G.forget (L' := [some (.ref 45), some (.int x1), some (.int x2), some (.int x3), some (.int x8), some (.int x5), none, none, none]) [6, 8] rfl ?_
  exact tX2_leastFrom_149 E d rr x1 x2 x3 x8 x5 I_21 _ hf hK
def jX2_leastFrom_123 (x1 : Int32) (x2 : Int32) (x3 : Int32) (x4 : Int32) (x5 : Int32) (x6 : Int32) (u0 : Int32) (u1 : Int32) (I : Mem) : Option ((Int32 × Int32 × Mem) ⊕ (Int32 × Mem)) :=
  letb (u1 + u0) fun x8_20 =>
  if x4 = (-1 : Int32) then
  (jX2_leastFrom_139 x1 x2 x3 x5 x6 x8_20 I)
  else
  (if x4 ≤ x8_20 then
  (jX2_leastFrom_149 x1 x2 x3 x4 x5 I)
  else
  (jX2_leastFrom_139 x1 x2 x3 x5 x6 x8_20 I))
set_option maxRecDepth 20000 in
theorem tX2_leastFrom_123 (E : EV) (d : Nat) (rr : Option Value × Mem) (x1 : Int32) (x2 : Int32) (x3 : Int32) (x4 : Int32) (x5 : Int32) (x6 : Int32) (u0 : Int32) (u1 : Int32) (I : Mem) (y : ((Int32 × Int32 × Mem) ⊕ (Int32 × Mem))) (hf : jX2_leastFrom_123 x1 x2 x3 x4 x5 x6 u0 u1 I = some y) (hK : (KX2_leastFrom_25 E d rr x1 x2 x3 (fun (z : Int32 × Mem) => (some (.int z.1), z.2) = rr)) y) : G E (d + 3) kX2_leastFrom 123 [some (.ref 45), some (.int x1), some (.int x2), some (.int x3), some (.int x4), some (.int x5), some (.int x6), none, none] [.int u0, .int u1] I rr := by
  unfold jX2_leastFrom_123 at hf
  refine G.iadd dX2_leastFrom_123 ?_
  refine G.nmi (fun x8_20 e_x8_20 => ?_)
  have hf := letb_at hf e_x8_20
  clear e_x8_20
  refine G.istore (L' := [some (.ref 45), some (.int x1), some (.int x2), some (.int x3), some (.int x4), some (.int x5), some (.int x6), none, some (.int x8_20)]) dX2_leastFrom_124 (Nat.le_of_ble_eq_true rfl) (Nat.le_of_ble_eq_true rfl) rfl rfl ?_
  refine G.iload dX2_leastFrom_126 rfl ?_
  refine G.iconst (v := -1) dX2_leastFrom_128 (by decide) ?_
  refine G.icmp_eq (tgt := 139) dX2_leastFrom_129 (by decide) (fun c_25 => ?_) (fun c_25 => ?_)
  · have hf := ite_t hf c_25
    refine G.forget (L' := [some (.ref 45), some (.int x1), some (.int x2), some (.int x3), none, some (.int x5), some (.int x6), none, some (.int x8_20)]) [4] rfl ?_
    exact tX2_leastFrom_139 E d rr x1 x2 x3 x5 x6 x8_20 I _ hf hK
  · have hf := ite_f hf c_25
    refine G.iload dX2_leastFrom_132 rfl ?_
    refine G.iload dX2_leastFrom_134 rfl ?_
    refine G.icmp_ge (tgt := 149) dX2_leastFrom_136 (by decide) (fun c_24 => ?_) (fun c_24 => ?_)
    · have hf := ite_t hf c_24
      refine G.forget (L' := [some (.ref 45), some (.int x1), some (.int x2), some (.int x3), some (.int x4), some (.int x5), none, none, none]) [6, 8] rfl ?_
      exact tX2_leastFrom_149 E d rr x1 x2 x3 x4 x5 I _ hf hK
    · have hf := ite_f hf c_24
      refine G.forget (L' := [some (.ref 45), some (.int x1), some (.int x2), some (.int x3), none, some (.int x5), some (.int x6), none, some (.int x8_20)]) [4] rfl ?_
      exact tX2_leastFrom_139 E d rr x1 x2 x3 x5 x6 x8_20 I _ hf hK
def jX2_leastFrom_48 (x1 : Int32) (x2 : Int32) (x3 : Int32) (x4 : Int32) (x5 : Int32) (I : Mem) : Option ((Int32 × Int32 × Mem) ⊕ (Int32 × Mem)) :=
  letb (I 61 0) fun x6_7 =>
  bnd (asH (dec (I 45 1))) fun b9_8 =>
  chk (inb x1 2341) <|
  chk (inb x6_7 2341) <|
  bnd (asH (dec (I 45 1))) fun b9_11 =>
  bnd (asL (dec (I 45 2))) fun o9_12 =>
  bnd (fX4_payers b9_8 x1 x6_7 (I 58 (ix x1)) (I 58 (ix x6_7)) ((I b9_11 5) + x2) o9_12 I) fun v_14 =>
  bnd (fJ6_bitCount_0f7a4 v_14 I) fun v_16 =>
  if x2 = (I 45 3) then
  (jX2_leastFrom_123 x1 x2 x3 x4 x5 x6_7 (0 : Int32) v_16 I)
  else
  (chk (inb (x2 - (1 : Int32)) 3) <|
  bnd (asA (fin 53 (ix (x2 - (1 : Int32))))) fun a9_18 =>
  chk (inb x6_7 (ln a9_18)) <|
  jX2_leastFrom_123 x1 x2 x3 x4 x5 x6_7 (I a9_18 (ix x6_7)) v_16 I)
set_option maxRecDepth 20000 in
theorem tX2_leastFrom_48 (E : EV) (d : Nat) (rr : Option Value × Mem) (x1 : Int32) (x2 : Int32) (x3 : Int32) (x4 : Int32) (x5 : Int32) (I : Mem) (y : ((Int32 × Int32 × Mem) ⊕ (Int32 × Mem))) (hf : jX2_leastFrom_48 x1 x2 x3 x4 x5 I = some y) (hK : (KX2_leastFrom_25 E d rr x1 x2 x3 (fun (z : Int32 × Mem) => (some (.int z.1), z.2) = rr)) y) : G E (d + 3) kX2_leastFrom 48 [some (.ref 45), some (.int x1), some (.int x2), some (.int x3), some (.int x4), some (.int x5), none, none, none] [] I rr := by
  unfold jX2_leastFrom_48 at hf
  refine G.aload_n dX2_leastFrom_48 rfl rfl ?_
  refine G.getR (q := 61) dX2_leastFrom_49 flX2_36 (by decide) rfl rfl ?_
  refine G.getI dX2_leastFrom_52 flX2_102 (by decide) rfl ?_
  refine G.nmi (fun x6_7 e_x6_7 => ?_)
  have hf := letb_at hf e_x6_7
  clear e_x6_7
  refine G.istore (L' := [some (.ref 45), some (.int x1), some (.int x2), some (.int x3), some (.int x4), some (.int x5), some (.int x6_7), none, none]) dX2_leastFrom_55 (Nat.le_of_ble_eq_true rfl) (Nat.le_of_ble_eq_true rfl) rfl rfl ?_
  refine G.aload_n dX2_leastFrom_57 rfl rfl ?_
  obtain ⟨b9_8, hb9_8a, hf⟩ := bnd_at hf
  obtain ⟨hb9_8d, hb9_8⟩ := asH_at hb9_8a
  refine G.getM (q := b9_8) dX2_leastFrom_58 flX2_39 (by decide) rfl hb9_8d ?_
  refine G.iload_n dX2_leastFrom_61 rfl rfl ?_
  refine G.iload dX2_leastFrom_62 rfl ?_
  refine G.aload_n dX2_leastFrom_64 rfl rfl ?_
  refine G.getR (q := 58) dX2_leastFrom_65 flX2_26 (by decide) rfl rfl ?_
  refine G.iload_n dX2_leastFrom_68 rfl rfl ?_
  obtain ⟨hi_9, hf⟩ := chk_at hf
  refine G.iald' dX2_leastFrom_69 (by decide) rfl rfl hi_9 ?_
  refine G.aload_n dX2_leastFrom_70 rfl rfl ?_
  refine G.getR (q := 58) dX2_leastFrom_71 flX2_26 (by decide) rfl rfl ?_
  refine G.iload dX2_leastFrom_74 rfl ?_
  obtain ⟨hi_10, hf⟩ := chk_at hf
  refine G.iald' dX2_leastFrom_76 (by decide) rfl rfl hi_10 ?_
  refine G.aload_n dX2_leastFrom_77 rfl rfl ?_
  obtain ⟨b9_11, hb9_11a, hf⟩ := bnd_at hf
  obtain ⟨hb9_11d, hb9_11⟩ := asH_at hb9_11a
  refine G.getM (q := b9_11) dX2_leastFrom_78 flX2_39 (by decide) rfl hb9_11d ?_
  refine G.getI dX2_leastFrom_81 flX2_117 (isH_lt hb9_11) (isH_lk hb9_11) ?_
  refine G.iload_n dX2_leastFrom_84 rfl rfl ?_
  refine G.iadd dX2_leastFrom_85 ?_
  refine G.aload_n dX2_leastFrom_86 rfl rfl ?_
  obtain ⟨o9_12, ho9_12a, hf⟩ := bnd_at hf
  obtain ⟨ho9_12d, ho9_12⟩ := asL_at ho9_12a
  refine G.getM (q := o9_12) dX2_leastFrom_87 flX2_43 (by decide) rfl ho9_12d ?_
  obtain ⟨v_14, hc_13, hf⟩ := bnd_at hf
  refine G.callVi (av := [.int x1, .int x6_7, .int (I 58 (ix x1)), .int (I 58 (ix x6_7)), .int ((I b9_11 5) + x2), .ref o9_12]) (rest := []) dX2_leastFrom_90 mvX2_120 (gX4_payers E d b9_8 x1 x6_7 (I 58 (ix x1)) (I 58 (ix x6_7)) ((I b9_11 5) + x2) o9_12 I hb9_8 ho9_12 hc_13) (isH_lt hb9_8) (isH_lk hb9_8) rfl rfl (Nat.le_of_ble_eq_true rfl) ?_
  refine G.istore (L' := [some (.ref 45), some (.int x1), some (.int x2), some (.int x3), some (.int x4), some (.int x5), some (.int x6_7), some (.int v_14), none]) dX2_leastFrom_93 (Nat.le_of_ble_eq_true rfl) (Nat.le_of_ble_eq_true rfl) rfl rfl ?_
  refine G.iload dX2_leastFrom_95 rfl ?_
  obtain ⟨v_16, hc_15, hf⟩ := bnd_at hf
  refine G.callSi (av := [.int v_14]) (rest := []) dX2_leastFrom_97 msX2_124 (gJ6_bitCount_0f7a4 E (d + 2) v_14 I hc_15) rfl rfl (Nat.le_of_ble_eq_true rfl) ?_
  refine G.iload_n dX2_leastFrom_100 rfl rfl ?_
  refine G.aload_n dX2_leastFrom_101 rfl rfl ?_
  refine G.getI dX2_leastFrom_102 flX2_47 (by decide) rfl ?_
  refine G.icmp_ne (tgt := 112) dX2_leastFrom_105 (by decide) (fun c_26 => ?_) (fun c_26 => ?_)
  · have hf := ite_f hf c_26
    refine G.aload_n dX2_leastFrom_112 rfl rfl ?_
    refine G.getR (q := 53) dX2_leastFrom_113 flX2_20 (by decide) rfl rfl ?_
    refine G.iload_n dX2_leastFrom_116 rfl rfl ?_
    refine G.iconst (v := 1) dX2_leastFrom_117 (by decide) ?_
    refine G.isub dX2_leastFrom_118 ?_
    obtain ⟨hi_17, hf⟩ := chk_at hf
    obtain ⟨a9_18, ha9_18a, hf⟩ := bnd_at hf
    obtain ⟨ha9_18d, ha9_18⟩ := asA_at ha9_18a
    refine G.aaldA (q := a9_18) dX2_leastFrom_119 (by decide) rfl hi_17 ha9_18d ?_
    refine G.iload dX2_leastFrom_120 rfl ?_
    obtain ⟨hi_19, hf⟩ := chk_at hf
    refine G.iald' dX2_leastFrom_122 ha9_18.1 ha9_18.2 rfl hi_19 ?_
    refine G.forget (L' := [some (.ref 45), some (.int x1), some (.int x2), some (.int x3), some (.int x4), some (.int x5), some (.int x6_7), none, none]) [7] rfl ?_
    exact tX2_leastFrom_123 E d rr x1 x2 x3 x4 x5 x6_7 (I a9_18 (ix x6_7)) v_16 I _ hf hK
  · have hf := ite_t hf c_26
    refine G.iconst (v := 0) dX2_leastFrom_108 (by decide) ?_
    refine G.goto (tgt := 123) dX2_leastFrom_109 (by decide) ?_
    refine G.forget (L' := [some (.ref 45), some (.int x1), some (.int x2), some (.int x3), some (.int x4), some (.int x5), some (.int x6_7), none, none]) [7] rfl ?_
    exact tX2_leastFrom_123 E d rr x1 x2 x3 x4 x5 x6_7 (0 : Int32) v_16 I _ hf hK
def bX2_leastFrom_25 (x1 : Int32) (x2 : Int32) (x3 : Int32) (x4 : Int32) (x5 : Int32) (I : Mem) : Option ((Int32 × Int32 × Mem) ⊕ (Int32 × Mem)) :=
  if x3 ≤ x5 then
  (some (.inr (x4, I)))
  else
  (if x4 = (-1 : Int32) then
  (jX2_leastFrom_48 x1 x2 x3 x4 x5 I)
  else
  (chk (inb x2 5) <|
  if x4 ≤ (I 57 (ix x2)) then
  (some (.inr (x4, I)))
  else
  (jX2_leastFrom_48 x1 x2 x3 x4 x5 I)))
def sX2_leastFrom_25 (x1 : Int32) (x2 : Int32) (x3 : Int32) (q : (Int32 × Int32 × Mem)) : Option ((Int32 × Int32 × Mem) ⊕ (Int32 × Mem)) := bX2_leastFrom_25 x1 x2 x3 q.1 q.2.1 q.2.2
set_option maxRecDepth 20000 in
theorem wX2_leastFrom_25 (E : EV) (d : Nat) (rr : Option Value × Mem) (x1 : Int32) (x2 : Int32) (x3 : Int32) (x4 : Int32) (x5 : Int32) (I : Mem) (y : ((Int32 × Int32 × Mem) ⊕ (Int32 × Mem))) (hf : bX2_leastFrom_25 x1 x2 x3 x4 x5 I = some y) (hK : (KX2_leastFrom_25 E d rr x1 x2 x3 (fun (z : Int32 × Mem) => (some (.int z.1), z.2) = rr)) y) : G E (d + 3) kX2_leastFrom 25 [some (.ref 45), some (.int x1), some (.int x2), some (.int x3), some (.int x4), some (.int x5), none, none, none] [] I rr := by
  unfold bX2_leastFrom_25 at hf
  refine G.iload dX2_leastFrom_25 rfl ?_
  refine G.iload_n dX2_leastFrom_27 rfl rfl ?_
  refine G.icmp_ge (tgt := 162) dX2_leastFrom_28 (by decide) (fun c_30 => ?_) (fun c_30 => ?_)
  · have hf := ite_t hf c_30
    refine G.iload dX2_leastFrom_162 rfl ?_
    have hf := Option.some.inj hf
    subst hf
    exact G.iret' dX2_leastFrom_164 rfl hK
  · have hf := ite_f hf c_30
    refine G.iload dX2_leastFrom_31 rfl ?_
    refine G.iconst (v := -1) dX2_leastFrom_33 (by decide) ?_
    refine G.icmp_eq (tgt := 48) dX2_leastFrom_34 (by decide) (fun c_29 => ?_) (fun c_29 => ?_)
    · have hf := ite_t hf c_29
      exact tX2_leastFrom_48 E d rr x1 x2 x3 x4 x5 I _ hf hK
    · have hf := ite_f hf c_29
      refine G.iload dX2_leastFrom_37 rfl ?_
      refine G.aload_n dX2_leastFrom_39 rfl rfl ?_
      refine G.getR (q := 57) dX2_leastFrom_40 flX2_23 (by decide) rfl rfl ?_
      refine G.iload_n dX2_leastFrom_43 rfl rfl ?_
      obtain ⟨hi_27, hf⟩ := chk_at hf
      refine G.iald' dX2_leastFrom_44 (by decide) rfl rfl hi_27 ?_
      refine G.icmp_le (tgt := 162) dX2_leastFrom_45 (by decide) (fun c_28 => ?_) (fun c_28 => ?_)
      · have hf := ite_t hf c_28
        refine G.iload dX2_leastFrom_162 rfl ?_
        have hf := Option.some.inj hf
        subst hf
        exact G.iret' dX2_leastFrom_164 rfl hK
      · have hf := ite_f hf c_28
        exact tX2_leastFrom_48 E d rr x1 x2 x3 x4 x5 I _ hf hK
theorem lX2_leastFrom_25 (E : EV) (d : Nat) (rr : Option Value × Mem) (x1 : Int32) (x2 : Int32) (x3 : Int32) (z : (Int32 × Mem)) (hK : (fun (z : Int32 × Mem) => (some (.int z.1), z.2) = rr) z) : ∀ (n : Nat) (q : (Int32 × Int32 × Mem)), iter (sX2_leastFrom_25 x1 x2 x3) n q = some z → G E (d + 3) kX2_leastFrom 25 [some (.ref 45), some (.int x1), some (.int x2), some (.int x3), some (.int q.1), some (.int q.2.1), none, none, none] [] q.2.2 rr := by
  intro n
  induction n with
  | zero => intro q h; cases h
  | succ n ih =>
    intro q h
    rcases iter_at h with ⟨q2, hs, h2⟩ | hs
    · exact wX2_leastFrom_25 E d rr x1 x2 x3 q.1 q.2.1 q.2.2 _ hs (ih q2 h2)
    · exact wX2_leastFrom_25 E d rr x1 x2 x3 q.1 q.2.1 q.2.2 _ hs hK
def fX2_leastFrom (x1 : Int32) (x2 : Int32) (I : Mem) : Option (Int32 × Mem) :=
  bnd (asH (dec (I 45 1))) fun b9_1 =>
  chk (inb x2 5) <|
  bnd (asA (fin 47 (ix x2))) fun a9_3 =>
  bnd2 (fX10_onwardAmong 61 b9_1 x1 a9_3 I) fun v_5 I_6 =>
  iter (sX2_leastFrom_25 x1 x2 v_5) FU ((-1 : Int32), (0 : Int32), I_6)
set_option maxRecDepth 20000 in
theorem gX2_leastFrom (E : EV) (d : Nat) (x1 : Int32) (x2 : Int32) (I : Mem) {v : Int32} {J : Mem} (hf : fX2_leastFrom x1 x2 I = some (v, J)) : Gm E (d + 3) kX2_leastFrom [.ref 45, .int x1, .int x2] I (some (.int v), J) := by
  refine (fun (y : (Int32 × Mem)) (hf : fX2_leastFrom x1 x2 I = some y) => (?_ : Gm E (d + 3) kX2_leastFrom [.ref 45, .int x1, .int x2] I (some (.int y.1), y.2))) (v, J) hf
  refine Gm.of (by decide) rfl (Nat.le_of_ble_eq_true rfl) ?_
  generalize hrr : ((some (.int y.1), y.2) : Option Value × Mem) = rr
  show G E (d + 3) kX2_leastFrom 0 [some (.ref 45), some (.int x1), some (.int x2), none, none, none, none, none, none] [] I rr
  have hK : (fun (z : Int32 × Mem) => (some (.int z.1), z.2) = rr) y := hrr
  clear hrr
  unfold fX2_leastFrom at hf
  refine G.aload_n dX2_leastFrom_0 rfl rfl ?_
  refine G.getR (q := 61) dX2_leastFrom_1 flX2_36 (by decide) rfl rfl ?_
  refine G.aload_n dX2_leastFrom_4 rfl rfl ?_
  obtain ⟨b9_1, hb9_1a, hf⟩ := bnd_at hf
  obtain ⟨hb9_1d, hb9_1⟩ := asH_at hb9_1a
  refine G.getM (q := b9_1) dX2_leastFrom_5 flX2_39 (by decide) rfl hb9_1d ?_
  refine G.iload_n dX2_leastFrom_8 rfl rfl ?_
  refine G.aload_n dX2_leastFrom_9 rfl rfl ?_
  refine G.getR (q := 47) dX2_leastFrom_10 flX2_17 (by decide) rfl rfl ?_
  refine G.iload_n dX2_leastFrom_13 rfl rfl ?_
  obtain ⟨hi_2, hf⟩ := chk_at hf
  obtain ⟨a9_3, ha9_3a, hf⟩ := bnd_at hf
  obtain ⟨ha9_3d, ha9_3⟩ := asA_at ha9_3a
  refine G.aaldA (q := a9_3) dX2_leastFrom_14 (by decide) rfl hi_2 ha9_3d ?_
  obtain ⟨v_5, I_6, hc_4, hf⟩ := bnd2_at hf
  refine G.callVi (av := [.ref b9_1, .int x1, .ref a9_3]) (rest := []) dX2_leastFrom_15 mvX2_113 (gX10_onwardAmong E d 61 b9_1 x1 a9_3 I (by unfold isW; decide) hb9_1 ha9_3 hc_4) (by decide) rfl rfl rfl (Nat.le_of_ble_eq_true rfl) ?_
  refine G.istore_n (L' := [some (.ref 45), some (.int x1), some (.int x2), some (.int v_5), none, none, none, none, none]) dX2_leastFrom_18 rfl (Nat.le_of_ble_eq_true rfl) (Nat.le_of_ble_eq_true rfl) rfl rfl ?_
  refine G.iconst (v := -1) dX2_leastFrom_19 (by decide) ?_
  refine G.istore (L' := [some (.ref 45), some (.int x1), some (.int x2), some (.int v_5), some (.int (-1 : Int32)), none, none, none, none]) dX2_leastFrom_20 (Nat.le_of_ble_eq_true rfl) (Nat.le_of_ble_eq_true rfl) rfl rfl ?_
  refine G.iconst (v := 0) dX2_leastFrom_22 (by decide) ?_
  refine G.istore (L' := [some (.ref 45), some (.int x1), some (.int x2), some (.int v_5), some (.int (-1 : Int32)), some (.int (0 : Int32)), none, none, none]) dX2_leastFrom_23 (Nat.le_of_ble_eq_true rfl) (Nat.le_of_ble_eq_true rfl) rfl rfl ?_
  exact lX2_leastFrom_25 E d rr x1 x2 v_5 _ hK FU _ hf
theorem dX2_fillRest_0 : decode cX2_fillRest 0 = .ok (.aload_n 0, 1) := by decide +kernel
theorem dX2_fillRest_1 : decode cX2_fillRest 1 = .ok (.getfield 32, 3) := by decide +kernel
theorem dX2_fillRest_4 : decode cX2_fillRest 4 = .ok (.aload_n 0, 1) := by decide +kernel
theorem dX2_fillRest_5 : decode cX2_fillRest 5 = .ok (.getfield 39, 3) := by decide +kernel
theorem dX2_fillRest_8 : decode cX2_fillRest 8 = .ok (.aload_n 0, 1) := by decide +kernel
theorem dX2_fillRest_9 : decode cX2_fillRest 9 = .ok (.getfield 17, 3) := by decide +kernel
theorem dX2_fillRest_12 : decode cX2_fillRest 12 = .ok (.iload_n 1, 1) := by decide +kernel
theorem dX2_fillRest_13 : decode cX2_fillRest 13 = .ok (.aaload, 1) := by decide +kernel
theorem dX2_fillRest_14 : decode cX2_fillRest 14 = .ok (.invokevirtual 98, 3) := by decide +kernel
theorem dX2_fillRest_17 : decode cX2_fillRest 17 = .ok (.istore_n 2, 1) := by decide +kernel
theorem dX2_fillRest_18 : decode cX2_fillRest 18 = .ok (.iconst (-1), 1) := by decide +kernel
theorem dX2_fillRest_19 : decode cX2_fillRest 19 = .ok (.istore_n 3, 1) := by decide +kernel
theorem dX2_fillRest_20 : decode cX2_fillRest 20 = .ok (.iconst 0, 1) := by decide +kernel
theorem dX2_fillRest_21 : decode cX2_fillRest 21 = .ok (.istore 4, 2) := by decide +kernel
theorem dX2_fillRest_23 : decode cX2_fillRest 23 = .ok (.iload 4, 2) := by decide +kernel
theorem dX2_fillRest_25 : decode cX2_fillRest 25 = .ok (.iload_n 2, 1) := by decide +kernel
theorem dX2_fillRest_26 : decode cX2_fillRest 26 = .ok (.if_icmp .ge 67, 3) := by decide +kernel
theorem dX2_fillRest_29 : decode cX2_fillRest 29 = .ok (.aload_n 0, 1) := by decide +kernel
theorem dX2_fillRest_30 : decode cX2_fillRest 30 = .ok (.aload_n 0, 1) := by decide +kernel
theorem dX2_fillRest_31 : decode cX2_fillRest 31 = .ok (.getfield 32, 3) := by decide +kernel
theorem dX2_fillRest_34 : decode cX2_fillRest 34 = .ok (.getfield 102, 3) := by decide +kernel
theorem dX2_fillRest_37 : decode cX2_fillRest 37 = .ok (.iload_n 1, 1) := by decide +kernel
theorem dX2_fillRest_38 : decode cX2_fillRest 38 = .ok (.iconst 1, 1) := by decide +kernel
theorem dX2_fillRest_39 : decode cX2_fillRest 39 = .ok (.iadd, 1) := by decide +kernel
theorem dX2_fillRest_40 : decode cX2_fillRest 40 = .ok (.invokevirtual 67, 3) := by decide +kernel
theorem dX2_fillRest_43 : decode cX2_fillRest 43 = .ok (.istore 5, 2) := by decide +kernel
theorem dX2_fillRest_45 : decode cX2_fillRest 45 = .ok (.aload_n 0, 1) := by decide +kernel
theorem dX2_fillRest_46 : decode cX2_fillRest 46 = .ok (.getfield 20, 3) := by decide +kernel
theorem dX2_fillRest_49 : decode cX2_fillRest 49 = .ok (.iload_n 1, 1) := by decide +kernel
theorem dX2_fillRest_50 : decode cX2_fillRest 50 = .ok (.iconst 1, 1) := by decide +kernel
theorem dX2_fillRest_51 : decode cX2_fillRest 51 = .ok (.isub, 1) := by decide +kernel
theorem dX2_fillRest_52 : decode cX2_fillRest 52 = .ok (.aaload, 1) := by decide +kernel
theorem dX2_fillRest_53 : decode cX2_fillRest 53 = .ok (.aload_n 0, 1) := by decide +kernel
theorem dX2_fillRest_54 : decode cX2_fillRest 54 = .ok (.getfield 32, 3) := by decide +kernel
theorem dX2_fillRest_57 : decode cX2_fillRest 57 = .ok (.getfield 102, 3) := by decide +kernel
theorem dX2_fillRest_60 : decode cX2_fillRest 60 = .ok (.iload 5, 2) := by decide +kernel
theorem dX2_fillRest_62 : decode cX2_fillRest 62 = .ok (.iastore, 1) := by decide +kernel
theorem dX2_fillRest_63 : decode cX2_fillRest 63 = .ok (.iload_n 3, 1) := by decide +kernel
theorem dX2_fillRest_64 : decode cX2_fillRest 64 = .ok (.iconst (-1), 1) := by decide +kernel
theorem dX2_fillRest_65 : decode cX2_fillRest 65 = .ok (.if_icmp .ne 8, 3) := by decide +kernel
theorem dX2_fillRest_68 : decode cX2_fillRest 68 = .ok (.iload 5, 2) := by decide +kernel
theorem dX2_fillRest_70 : decode cX2_fillRest 70 = .ok (.goto 9, 3) := by decide +kernel
theorem dX2_fillRest_73 : decode cX2_fillRest 73 = .ok (.iload_n 3, 1) := by decide +kernel
theorem dX2_fillRest_74 : decode cX2_fillRest 74 = .ok (.iload 5, 2) := by decide +kernel
theorem dX2_fillRest_76 : decode cX2_fillRest 76 = .ok (.invokestatic 105, 3) := by decide +kernel
theorem dX2_fillRest_79 : decode cX2_fillRest 79 = .ok (.istore_n 3, 1) := by decide +kernel
theorem dX2_fillRest_80 : decode cX2_fillRest 80 = .ok (.aload_n 0, 1) := by decide +kernel
theorem dX2_fillRest_81 : decode cX2_fillRest 81 = .ok (.getfield 32, 3) := by decide +kernel
theorem dX2_fillRest_84 : decode cX2_fillRest 84 = .ok (.invokevirtual 110, 3) := by decide +kernel
theorem dX2_fillRest_87 : decode cX2_fillRest 87 = .ok (.iinc 4 1, 3) := by decide +kernel
theorem dX2_fillRest_90 : decode cX2_fillRest 90 = .ok (.goto (-67), 3) := by decide +kernel
theorem dX2_fillRest_93 : decode cX2_fillRest 93 = .ok (.aload_n 0, 1) := by decide +kernel
theorem dX2_fillRest_94 : decode cX2_fillRest 94 = .ok (.getfield 23, 3) := by decide +kernel
theorem dX2_fillRest_97 : decode cX2_fillRest 97 = .ok (.iload_n 1, 1) := by decide +kernel
theorem dX2_fillRest_98 : decode cX2_fillRest 98 = .ok (.iload_n 3, 1) := by decide +kernel
theorem dX2_fillRest_99 : decode cX2_fillRest 99 = .ok (.iastore, 1) := by decide +kernel
theorem dX2_fillRest_100 : decode cX2_fillRest 100 = .ok (.return_, 1) := by decide +kernel
def KX2_fillRest_23 (E : EV) (d : Nat) (rr : Option Value × Mem) (x1 : Int32) (x2 : Int32) (Kp : Mem → Prop) : ((Int32 × Int32 × Mem) ⊕ Mem) → Prop
  | .inl q => G E (d + 4) kX2_fillRest 23 [some (.ref 45), some (.int x1), some (.int x2), some (.int q.1), some (.int q.2.1), none] [] q.2.2 rr
  | .inr z => Kp z
def jX2_fillRest_79 (x1 : Int32) (x2 : Int32) (x4 : Int32) (u0 : Int32) (I : Mem) : Option ((Int32 × Int32 × Mem) ⊕ Mem) :=
  bnd (fX10_step 59 I) fun I_17 =>
  some (.inl (u0, (x4 + (1 : Int32)), I_17))
set_option maxRecDepth 20000 in
theorem tX2_fillRest_79 (E : EV) (d : Nat) (rr : Option Value × Mem) (x1 : Int32) (x2 : Int32) (x4 : Int32) (u0 : Int32) (I : Mem) (y : ((Int32 × Int32 × Mem) ⊕ Mem)) (hf : jX2_fillRest_79 x1 x2 x4 u0 I = some y) (hK : (KX2_fillRest_23 E d rr x1 x2 (fun (z : Mem) => ((none : Option Value), z) = rr)) y) : G E (d + 4) kX2_fillRest 79 [some (.ref 45), some (.int x1), some (.int x2), none, some (.int x4), none] [.int u0] I rr := by
  unfold jX2_fillRest_79 at hf
  refine G.istore_n (L' := [some (.ref 45), some (.int x1), some (.int x2), some (.int u0), some (.int x4), none]) dX2_fillRest_79 rfl (Nat.le_of_ble_eq_true rfl) (Nat.le_of_ble_eq_true rfl) rfl rfl ?_
  refine G.aload_n dX2_fillRest_80 rfl rfl ?_
  refine G.getR (q := 59) dX2_fillRest_81 flX2_32 (by decide) rfl rfl ?_
  obtain ⟨I_17, hc_16, hf⟩ := bnd_at hf
  refine G.callVv (av := []) (rest := []) dX2_fillRest_84 mvX2_110 (gX10_step E (d + 2) 59 I (by unfold isW; decide) hc_16) (by decide) rfl rfl rfl (Nat.le_of_ble_eq_true rfl) ?_
  refine G.inc (w := 1) (L' := [some (.ref 45), some (.int x1), some (.int x2), some (.int u0), some (.int (x4 + (1 : Int32))), none]) dX2_fillRest_87 (by decide) rfl (Nat.le_of_ble_eq_true rfl) rfl rfl ?_
  refine G.goto (tgt := 23) dX2_fillRest_90 (by decide) ?_
  have hf := Option.some.inj hf
  subst hf
  exact hK
def bX2_fillRest_23 (x1 : Int32) (x2 : Int32) (x3 : Int32) (x4 : Int32) (I : Mem) : Option ((Int32 × Int32 × Mem) ⊕ Mem) :=
  if x2 ≤ x4 then
  (chk (inb x1 5) <|
  letb (up2 I 57 (ix x1) x3) fun I_8 =>
  some (.inr I_8))
  else
  (bnd2 (fX2_leastFrom (I 59 0) (x1 + (1 : Int32)) I) fun v_10 I_11 =>
  chk (inb (x1 - (1 : Int32)) 3) <|
  bnd (asA (fin 53 (ix (x1 - (1 : Int32))))) fun a9_13 =>
  chk (inb (I_11 59 0) (ln a9_13)) <|
  letb (up2 I_11 a9_13 (ix (I_11 59 0)) v_10) fun I_15 =>
  if x3 = (-1 : Int32) then
  (jX2_fillRest_79 x1 x2 x4 v_10 I_15)
  else
  (jX2_fillRest_79 x1 x2 x4 (if v_10 < x3 then v_10 else x3) I_15))
def sX2_fillRest_23 (x1 : Int32) (x2 : Int32) (q : (Int32 × Int32 × Mem)) : Option ((Int32 × Int32 × Mem) ⊕ Mem) := bX2_fillRest_23 x1 x2 q.1 q.2.1 q.2.2
set_option maxRecDepth 20000 in
theorem wX2_fillRest_23 (E : EV) (d : Nat) (rr : Option Value × Mem) (x1 : Int32) (x2 : Int32) (x3 : Int32) (x4 : Int32) (I : Mem) (y : ((Int32 × Int32 × Mem) ⊕ Mem)) (hf : bX2_fillRest_23 x1 x2 x3 x4 I = some y) (hK : (KX2_fillRest_23 E d rr x1 x2 (fun (z : Mem) => ((none : Option Value), z) = rr)) y) : G E (d + 4) kX2_fillRest 23 [some (.ref 45), some (.int x1), some (.int x2), some (.int x3), some (.int x4), none] [] I rr := by
  unfold bX2_fillRest_23 at hf
  refine G.iload dX2_fillRest_23 rfl ?_
  refine G.iload_n dX2_fillRest_25 rfl rfl ?_
  refine G.icmp_ge (tgt := 93) dX2_fillRest_26 (by decide) (fun c_19 => ?_) (fun c_19 => ?_)
  · have hf := ite_t hf c_19
    refine G.aload_n dX2_fillRest_93 rfl rfl ?_
    refine G.getR (q := 57) dX2_fillRest_94 flX2_23 (by decide) rfl rfl ?_
    refine G.iload_n dX2_fillRest_97 rfl rfl ?_
    refine G.iload_n dX2_fillRest_98 rfl rfl ?_
    obtain ⟨hi_7, hf⟩ := chk_at hf
    refine G.iast' dX2_fillRest_99 (by decide) rfl rfl hi_7 ?_
    refine G.nmI (fun I_8 e_I_8 => ?_)
    have hf := letb_at hf e_I_8
    clear e_I_8
    have hf := Option.some.inj hf
    subst hf
    exact G.vret' dX2_fillRest_100 rfl hK
  · have hf := ite_f hf c_19
    refine G.aload_n dX2_fillRest_29 rfl rfl ?_
    refine G.aload_n dX2_fillRest_30 rfl rfl ?_
    refine G.getR (q := 59) dX2_fillRest_31 flX2_32 (by decide) rfl rfl ?_
    refine G.getI dX2_fillRest_34 flX2_102 (by decide) rfl ?_
    refine G.iload_n dX2_fillRest_37 rfl rfl ?_
    refine G.iconst (v := 1) dX2_fillRest_38 (by decide) ?_
    refine G.iadd dX2_fillRest_39 ?_
    obtain ⟨v_10, I_11, hc_9, hf⟩ := bnd2_at hf
    refine G.callVi (av := [.int (I 59 0), .int (x1 + (1 : Int32))]) (rest := []) dX2_fillRest_40 mvX2_67 (gX2_leastFrom E d (I 59 0) (x1 + (1 : Int32)) I hc_9) (by decide) rfl rfl rfl (Nat.le_of_ble_eq_true rfl) ?_
    refine G.istore (L' := [some (.ref 45), some (.int x1), some (.int x2), some (.int x3), some (.int x4), some (.int v_10)]) dX2_fillRest_43 (Nat.le_of_ble_eq_true rfl) (Nat.le_of_ble_eq_true rfl) rfl rfl ?_
    refine G.aload_n dX2_fillRest_45 rfl rfl ?_
    refine G.getR (q := 53) dX2_fillRest_46 flX2_20 (by decide) rfl rfl ?_
    refine G.iload_n dX2_fillRest_49 rfl rfl ?_
    refine G.iconst (v := 1) dX2_fillRest_50 (by decide) ?_
    refine G.isub dX2_fillRest_51 ?_
    obtain ⟨hi_12, hf⟩ := chk_at hf
    obtain ⟨a9_13, ha9_13a, hf⟩ := bnd_at hf
    obtain ⟨ha9_13d, ha9_13⟩ := asA_at ha9_13a
    refine G.aaldA (q := a9_13) dX2_fillRest_52 (by decide) rfl hi_12 ha9_13d ?_
    refine G.aload_n dX2_fillRest_53 rfl rfl ?_
    refine G.getR (q := 59) dX2_fillRest_54 flX2_32 (by decide) rfl rfl ?_
    refine G.getI dX2_fillRest_57 flX2_102 (by decide) rfl ?_
    refine G.iload dX2_fillRest_60 rfl ?_
    obtain ⟨hi_14, hf⟩ := chk_at hf
    refine G.iast' dX2_fillRest_62 ha9_13.1 ha9_13.2 rfl hi_14 ?_
    refine G.nmI (fun I_15 e_I_15 => ?_)
    have hf := letb_at hf e_I_15
    clear e_I_15
    refine G.iload_n dX2_fillRest_63 rfl rfl ?_
    refine G.iconst (v := -1) dX2_fillRest_64 (by decide) ?_
    refine G.icmp_ne (tgt := 73) dX2_fillRest_65 (by decide) (fun c_18 => ?_) (fun c_18 => ?_)
    · have hf := ite_f hf c_18
      refine G.iload_n dX2_fillRest_73 rfl rfl ?_
      refine G.iload dX2_fillRest_74 rfl ?_
      refine G.mmin (rest := []) dX2_fillRest_76 mmX2_105 (Nat.le_of_ble_eq_true rfl) ?_
      refine G.forget (L' := [some (.ref 45), some (.int x1), some (.int x2), none, some (.int x4), none]) [3, 5] rfl ?_
      exact tX2_fillRest_79 E d rr x1 x2 x4 (if v_10 < x3 then v_10 else x3) I_15 _ hf hK
    · have hf := ite_t hf c_18
      refine G.iload dX2_fillRest_68 rfl ?_
      refine G.goto (tgt := 79) dX2_fillRest_70 (by decide) ?_
      refine G.forget (L' := [some (.ref 45), some (.int x1), some (.int x2), none, some (.int x4), none]) [3, 5] rfl ?_
      exact tX2_fillRest_79 E d rr x1 x2 x4 v_10 I_15 _ hf hK
theorem lX2_fillRest_23 (E : EV) (d : Nat) (rr : Option Value × Mem) (x1 : Int32) (x2 : Int32) (z : Mem) (hK : (fun (z : Mem) => ((none : Option Value), z) = rr) z) : ∀ (n : Nat) (q : (Int32 × Int32 × Mem)), iter (sX2_fillRest_23 x1 x2) n q = some z → G E (d + 4) kX2_fillRest 23 [some (.ref 45), some (.int x1), some (.int x2), some (.int q.1), some (.int q.2.1), none] [] q.2.2 rr := by
  intro n
  induction n with
  | zero => intro q h; cases h
  | succ n ih =>
    intro q h
    rcases iter_at h with ⟨q2, hs, h2⟩ | hs
    · exact wX2_fillRest_23 E d rr x1 x2 q.1 q.2.1 q.2.2 _ hs (ih q2 h2)
    · exact wX2_fillRest_23 E d rr x1 x2 q.1 q.2.1 q.2.2 _ hs hK
def fX2_fillRest (x1 : Int32) (I : Mem) : Option Mem :=
  bnd (asH (dec (I 45 1))) fun b9_1 =>
  chk (inb x1 5) <|
  bnd (asA (fin 47 (ix x1))) fun a9_3 =>
  bnd2 (fX10_among 59 b9_1 a9_3 I) fun v_5 I_6 =>
  iter (sX2_fillRest_23 x1 v_5) FU ((-1 : Int32), (0 : Int32), I_6)
set_option maxRecDepth 20000 in
theorem gX2_fillRest (E : EV) (d : Nat) (x1 : Int32) (I : Mem) {J : Mem} (hf : fX2_fillRest x1 I = some J) : Gm E (d + 4) kX2_fillRest [.ref 45, .int x1] I (none, J) := by
  refine (fun (y : Mem) (hf : fX2_fillRest x1 I = some y) => (?_ : Gm E (d + 4) kX2_fillRest [.ref 45, .int x1] I (none, y))) J hf
  refine Gm.of (by decide) rfl (Nat.le_of_ble_eq_true rfl) ?_
  generalize hrr : ((none, y) : Option Value × Mem) = rr
  show G E (d + 4) kX2_fillRest 0 [some (.ref 45), some (.int x1), none, none, none, none] [] I rr
  have hK : (fun (z : Mem) => ((none : Option Value), z) = rr) y := hrr
  clear hrr
  unfold fX2_fillRest at hf
  refine G.aload_n dX2_fillRest_0 rfl rfl ?_
  refine G.getR (q := 59) dX2_fillRest_1 flX2_32 (by decide) rfl rfl ?_
  refine G.aload_n dX2_fillRest_4 rfl rfl ?_
  obtain ⟨b9_1, hb9_1a, hf⟩ := bnd_at hf
  obtain ⟨hb9_1d, hb9_1⟩ := asH_at hb9_1a
  refine G.getM (q := b9_1) dX2_fillRest_5 flX2_39 (by decide) rfl hb9_1d ?_
  refine G.aload_n dX2_fillRest_8 rfl rfl ?_
  refine G.getR (q := 47) dX2_fillRest_9 flX2_17 (by decide) rfl rfl ?_
  refine G.iload_n dX2_fillRest_12 rfl rfl ?_
  obtain ⟨hi_2, hf⟩ := chk_at hf
  obtain ⟨a9_3, ha9_3a, hf⟩ := bnd_at hf
  obtain ⟨ha9_3d, ha9_3⟩ := asA_at ha9_3a
  refine G.aaldA (q := a9_3) dX2_fillRest_13 (by decide) rfl hi_2 ha9_3d ?_
  obtain ⟨v_5, I_6, hc_4, hf⟩ := bnd2_at hf
  refine G.callVi (av := [.ref b9_1, .ref a9_3]) (rest := []) dX2_fillRest_14 mvX2_98 (gX10_among E (d + 1) 59 b9_1 a9_3 I (by unfold isW; decide) hb9_1 ha9_3 hc_4) (by decide) rfl rfl rfl (Nat.le_of_ble_eq_true rfl) ?_
  refine G.istore_n (L' := [some (.ref 45), some (.int x1), some (.int v_5), none, none, none]) dX2_fillRest_17 rfl (Nat.le_of_ble_eq_true rfl) (Nat.le_of_ble_eq_true rfl) rfl rfl ?_
  refine G.iconst (v := -1) dX2_fillRest_18 (by decide) ?_
  refine G.istore_n (L' := [some (.ref 45), some (.int x1), some (.int v_5), some (.int (-1 : Int32)), none, none]) dX2_fillRest_19 rfl (Nat.le_of_ble_eq_true rfl) (Nat.le_of_ble_eq_true rfl) rfl rfl ?_
  refine G.iconst (v := 0) dX2_fillRest_20 (by decide) ?_
  refine G.istore (L' := [some (.ref 45), some (.int x1), some (.int v_5), some (.int (-1 : Int32)), some (.int (0 : Int32)), none]) dX2_fillRest_21 (Nat.le_of_ble_eq_true rfl) (Nat.le_of_ble_eq_true rfl) rfl rfl ?_
  exact lX2_fillRest_23 E d rr x1 v_5 _ hK FU _ hf
theorem dX2_weigh_0 : decode cX2_weigh 0 = .ok (.aload_n 0, 1) := by decide +kernel
theorem dX2_weigh_1 : decode cX2_weigh 1 = .ok (.aload_n 1, 1) := by decide +kernel
theorem dX2_weigh_2 : decode cX2_weigh 2 = .ok (.putfield 39, 3) := by decide +kernel
theorem dX2_weigh_5 : decode cX2_weigh 5 = .ok (.aload_n 0, 1) := by decide +kernel
theorem dX2_weigh_6 : decode cX2_weigh 6 = .ok (.aload_n 2, 1) := by decide +kernel
theorem dX2_weigh_7 : decode cX2_weigh 7 = .ok (.putfield 43, 3) := by decide +kernel
theorem dX2_weigh_10 : decode cX2_weigh 10 = .ok (.aload_n 0, 1) := by decide +kernel
theorem dX2_weigh_11 : decode cX2_weigh 11 = .ok (.iload_n 3, 1) := by decide +kernel
theorem dX2_weigh_12 : decode cX2_weigh 12 = .ok (.putfield 47, 3) := by decide +kernel
theorem dX2_weigh_15 : decode cX2_weigh 15 = .ok (.aload_n 1, 1) := by decide +kernel
theorem dX2_weigh_16 : decode cX2_weigh 16 = .ok (.aload_n 0, 1) := by decide +kernel
theorem dX2_weigh_17 : decode cX2_weigh 17 = .ok (.getfield 26, 3) := by decide +kernel
theorem dX2_weigh_20 : decode cX2_weigh 20 = .ok (.aload_n 0, 1) := by decide +kernel
theorem dX2_weigh_21 : decode cX2_weigh 21 = .ok (.getfield 36, 3) := by decide +kernel
theorem dX2_weigh_24 : decode cX2_weigh 24 = .ok (.invokevirtual 51, 3) := by decide +kernel
theorem dX2_weigh_27 : decode cX2_weigh 27 = .ok (.iload_n 3, 1) := by decide +kernel
theorem dX2_weigh_28 : decode cX2_weigh 28 = .ok (.istore 4, 2) := by decide +kernel
theorem dX2_weigh_30 : decode cX2_weigh 30 = .ok (.iload 4, 2) := by decide +kernel
theorem dX2_weigh_32 : decode cX2_weigh 32 = .ok (.iconst 1, 1) := by decide +kernel
theorem dX2_weigh_33 : decode cX2_weigh 33 = .ok (.if_icmp .lt 15, 3) := by decide +kernel
theorem dX2_weigh_36 : decode cX2_weigh 36 = .ok (.aload_n 0, 1) := by decide +kernel
theorem dX2_weigh_37 : decode cX2_weigh 37 = .ok (.iload 4, 2) := by decide +kernel
theorem dX2_weigh_39 : decode cX2_weigh 39 = .ok (.invokevirtual 57, 3) := by decide +kernel
theorem dX2_weigh_42 : decode cX2_weigh 42 = .ok (.iinc 4 (-1), 3) := by decide +kernel
theorem dX2_weigh_45 : decode cX2_weigh 45 = .ok (.goto (-15), 3) := by decide +kernel
theorem dX2_weigh_48 : decode cX2_weigh 48 = .ok (.aload_n 0, 1) := by decide +kernel
theorem dX2_weigh_49 : decode cX2_weigh 49 = .ok (.getfield 23, 3) := by decide +kernel
theorem dX2_weigh_52 : decode cX2_weigh 52 = .ok (.iload_n 3, 1) := by decide +kernel
theorem dX2_weigh_53 : decode cX2_weigh 53 = .ok (.iconst 0, 1) := by decide +kernel
theorem dX2_weigh_54 : decode cX2_weigh 54 = .ok (.iastore, 1) := by decide +kernel
theorem dX2_weigh_55 : decode cX2_weigh 55 = .ok (.iload_n 3, 1) := by decide +kernel
theorem dX2_weigh_56 : decode cX2_weigh 56 = .ok (.iconst 1, 1) := by decide +kernel
theorem dX2_weigh_57 : decode cX2_weigh 57 = .ok (.isub, 1) := by decide +kernel
theorem dX2_weigh_58 : decode cX2_weigh 58 = .ok (.istore 4, 2) := by decide +kernel
theorem dX2_weigh_60 : decode cX2_weigh 60 = .ok (.iload 4, 2) := by decide +kernel
theorem dX2_weigh_62 : decode cX2_weigh 62 = .ok (.iconst 1, 1) := by decide +kernel
theorem dX2_weigh_63 : decode cX2_weigh 63 = .ok (.if_icmp .lt 15, 3) := by decide +kernel
theorem dX2_weigh_66 : decode cX2_weigh 66 = .ok (.aload_n 0, 1) := by decide +kernel
theorem dX2_weigh_67 : decode cX2_weigh 67 = .ok (.iload 4, 2) := by decide +kernel
theorem dX2_weigh_69 : decode cX2_weigh 69 = .ok (.invokevirtual 61, 3) := by decide +kernel
theorem dX2_weigh_72 : decode cX2_weigh 72 = .ok (.iinc 4 (-1), 3) := by decide +kernel
theorem dX2_weigh_75 : decode cX2_weigh 75 = .ok (.goto (-15), 3) := by decide +kernel
theorem dX2_weigh_78 : decode cX2_weigh 78 = .ok (.aload_n 0, 1) := by decide +kernel
theorem dX2_weigh_79 : decode cX2_weigh 79 = .ok (.aload_n 1, 1) := by decide +kernel
theorem dX2_weigh_80 : decode cX2_weigh 80 = .ok (.getfield 64, 3) := by decide +kernel
theorem dX2_weigh_83 : decode cX2_weigh 83 = .ok (.iconst 1, 1) := by decide +kernel
theorem dX2_weigh_84 : decode cX2_weigh 84 = .ok (.invokevirtual 67, 3) := by decide +kernel
theorem dX2_weigh_87 : decode cX2_weigh 87 = .ok (.istore 4, 2) := by decide +kernel
theorem dX2_weigh_89 : decode cX2_weigh 89 = .ok (.aload_n 0, 1) := by decide +kernel
theorem dX2_weigh_90 : decode cX2_weigh 90 = .ok (.getfield 9, 3) := by decide +kernel
theorem dX2_weigh_93 : decode cX2_weigh 93 = .ok (.iconst 0, 1) := by decide +kernel
theorem dX2_weigh_94 : decode cX2_weigh 94 = .ok (.aload_n 1, 1) := by decide +kernel
theorem dX2_weigh_95 : decode cX2_weigh 95 = .ok (.getfield 64, 3) := by decide +kernel
theorem dX2_weigh_98 : decode cX2_weigh 98 = .ok (.iastore, 1) := by decide +kernel
theorem dX2_weigh_99 : decode cX2_weigh 99 = .ok (.iconst 1, 1) := by decide +kernel
theorem dX2_weigh_100 : decode cX2_weigh 100 = .ok (.istore 5, 2) := by decide +kernel
theorem dX2_weigh_102 : decode cX2_weigh 102 = .ok (.iload 5, 2) := by decide +kernel
theorem dX2_weigh_104 : decode cX2_weigh 104 = .ok (.iload_n 3, 1) := by decide +kernel
theorem dX2_weigh_105 : decode cX2_weigh 105 = .ok (.if_icmp .gt 42, 3) := by decide +kernel
theorem dX2_weigh_108 : decode cX2_weigh 108 = .ok (.iload 4, 2) := by decide +kernel
theorem dX2_weigh_110 : decode cX2_weigh 110 = .ok (.iconst (-1), 1) := by decide +kernel
theorem dX2_weigh_111 : decode cX2_weigh 111 = .ok (.if_icmp .eq 36, 3) := by decide +kernel
theorem dX2_weigh_114 : decode cX2_weigh 114 = .ok (.aload_n 0, 1) := by decide +kernel
theorem dX2_weigh_115 : decode cX2_weigh 115 = .ok (.aload_n 0, 1) := by decide +kernel
theorem dX2_weigh_116 : decode cX2_weigh 116 = .ok (.getfield 9, 3) := by decide +kernel
theorem dX2_weigh_119 : decode cX2_weigh 119 = .ok (.iload 5, 2) := by decide +kernel
theorem dX2_weigh_121 : decode cX2_weigh 121 = .ok (.iconst 1, 1) := by decide +kernel
theorem dX2_weigh_122 : decode cX2_weigh 122 = .ok (.isub, 1) := by decide +kernel
theorem dX2_weigh_123 : decode cX2_weigh 123 = .ok (.iaload, 1) := by decide +kernel
theorem dX2_weigh_124 : decode cX2_weigh 124 = .ok (.iload 5, 2) := by decide +kernel
theorem dX2_weigh_126 : decode cX2_weigh 126 = .ok (.invokevirtual 67, 3) := by decide +kernel
theorem dX2_weigh_129 : decode cX2_weigh 129 = .ok (.pop, 1) := by decide +kernel
theorem dX2_weigh_130 : decode cX2_weigh 130 = .ok (.aload_n 0, 1) := by decide +kernel
theorem dX2_weigh_131 : decode cX2_weigh 131 = .ok (.getfield 9, 3) := by decide +kernel
theorem dX2_weigh_134 : decode cX2_weigh 134 = .ok (.iload 5, 2) := by decide +kernel
theorem dX2_weigh_136 : decode cX2_weigh 136 = .ok (.aload_n 0, 1) := by decide +kernel
theorem dX2_weigh_137 : decode cX2_weigh 137 = .ok (.getfield 71, 3) := by decide +kernel
theorem dX2_weigh_140 : decode cX2_weigh 140 = .ok (.iastore, 1) := by decide +kernel
theorem dX2_weigh_141 : decode cX2_weigh 141 = .ok (.iinc 5 1, 3) := by decide +kernel
theorem dX2_weigh_144 : decode cX2_weigh 144 = .ok (.goto (-42), 3) := by decide +kernel
theorem dX2_weigh_147 : decode cX2_weigh 147 = .ok (.iload 4, 2) := by decide +kernel
theorem dX2_weigh_149 : decode cX2_weigh 149 = .ok (.ireturn, 1) := by decide +kernel
def KX2_weigh_30 (E : EV) (d : Nat) (rr : Option Value × Mem) (b1 : Nat) (x3 : Int32) (Kp : (Int32 × Mem) → Prop) : ((Int32 × Mem) ⊕ (Int32 × Mem)) → Prop
  | .inl q => G E (d + 5) kX2_weigh 30 [some (.ref 45), some (.ref b1), none, some (.int x3), some (.int q.1), none] [] q.2 rr
  | .inr z => Kp z
def KX2_weigh_60 (E : EV) (d : Nat) (rr : Option Value × Mem) (b1 : Nat) (x3 : Int32) (Kp : (Int32 × Mem) → Prop) : ((Int32 × Mem) ⊕ (Int32 × Mem)) → Prop
  | .inl q => G E (d + 5) kX2_weigh 60 [some (.ref 45), some (.ref b1), none, some (.int x3), some (.int q.1), none] [] q.2 rr
  | .inr z => Kp z
def KX2_weigh_102 (E : EV) (d : Nat) (rr : Option Value × Mem) (x3 : Int32) (x4 : Int32) (Kp : (Int32 × Mem) → Prop) : ((Int32 × Mem) ⊕ (Int32 × Mem)) → Prop
  | .inl q => G E (d + 5) kX2_weigh 102 [some (.ref 45), none, none, some (.int x3), some (.int x4), some (.int q.1)] [] q.2 rr
  | .inr z => Kp z
def bX2_weigh_102 (x3 : Int32) (x4 : Int32) (x5 : Int32) (I : Mem) : Option ((Int32 × Mem) ⊕ (Int32 × Mem)) :=
  if x3 < x5 then
  (some (.inr (x4, I)))
  else
  (if x4 = (-1 : Int32) then
  (some (.inr (x4, I)))
  else
  (chk (inb (x5 - (1 : Int32)) 5) <|
  bnd2 (fX2_leastFrom (I 46 (ix (x5 - (1 : Int32)))) x5 I) fun v_16 I_17 =>
  chk (inb x5 5) <|
  letb (up2 I_17 46 (ix x5) (I_17 45 4)) fun I_19 =>
  some (.inl ((x5 + (1 : Int32)), I_19))))
def sX2_weigh_102 (x3 : Int32) (x4 : Int32) (q : (Int32 × Mem)) : Option ((Int32 × Mem) ⊕ (Int32 × Mem)) := bX2_weigh_102 x3 x4 q.1 q.2
set_option maxRecDepth 20000 in
theorem wX2_weigh_102 (E : EV) (d : Nat) (rr : Option Value × Mem) (x3 : Int32) (x4 : Int32) (x5 : Int32) (I : Mem) (y : ((Int32 × Mem) ⊕ (Int32 × Mem))) (hf : bX2_weigh_102 x3 x4 x5 I = some y) (hK : (KX2_weigh_102 E d rr x3 x4 (fun (z : Int32 × Mem) => (some (.int z.1), z.2) = rr)) y) : G E (d + 5) kX2_weigh 102 [some (.ref 45), none, none, some (.int x3), some (.int x4), some (.int x5)] [] I rr := by
  unfold bX2_weigh_102 at hf
  refine G.iload dX2_weigh_102 rfl ?_
  refine G.iload_n dX2_weigh_104 rfl rfl ?_
  refine G.icmp_gt (tgt := 147) dX2_weigh_105 (by decide) (fun c_21 => ?_) (fun c_21 => ?_)
  · have hf := ite_t hf c_21
    refine G.iload dX2_weigh_147 rfl ?_
    have hf := Option.some.inj hf
    subst hf
    exact G.iret' dX2_weigh_149 rfl hK
  · have hf := ite_f hf c_21
    refine G.iload dX2_weigh_108 rfl ?_
    refine G.iconst (v := -1) dX2_weigh_110 (by decide) ?_
    refine G.icmp_eq (tgt := 147) dX2_weigh_111 (by decide) (fun c_20 => ?_) (fun c_20 => ?_)
    · have hf := ite_t hf c_20
      refine G.iload dX2_weigh_147 rfl ?_
      have hf := Option.some.inj hf
      subst hf
      exact G.iret' dX2_weigh_149 rfl hK
    · have hf := ite_f hf c_20
      refine G.aload_n dX2_weigh_114 rfl rfl ?_
      refine G.aload_n dX2_weigh_115 rfl rfl ?_
      refine G.getR (q := 46) dX2_weigh_116 flX2_9 (by decide) rfl rfl ?_
      refine G.iload dX2_weigh_119 rfl ?_
      refine G.iconst (v := 1) dX2_weigh_121 (by decide) ?_
      refine G.isub dX2_weigh_122 ?_
      obtain ⟨hi_14, hf⟩ := chk_at hf
      refine G.iald' dX2_weigh_123 (by decide) rfl rfl hi_14 ?_
      refine G.iload dX2_weigh_124 rfl ?_
      obtain ⟨v_16, I_17, hc_15, hf⟩ := bnd2_at hf
      refine G.callVi (av := [.int (I 46 (ix (x5 - (1 : Int32)))), .int x5]) (rest := []) dX2_weigh_126 mvX2_67 (gX2_leastFrom E (d + 1) (I 46 (ix (x5 - (1 : Int32)))) x5 I hc_15) (by decide) rfl rfl rfl (Nat.le_of_ble_eq_true rfl) ?_
      refine G.pop dX2_weigh_129 rfl ?_
      refine G.aload_n dX2_weigh_130 rfl rfl ?_
      refine G.getR (q := 46) dX2_weigh_131 flX2_9 (by decide) rfl rfl ?_
      refine G.iload dX2_weigh_134 rfl ?_
      refine G.aload_n dX2_weigh_136 rfl rfl ?_
      refine G.getI dX2_weigh_137 flX2_71 (by decide) rfl ?_
      obtain ⟨hi_18, hf⟩ := chk_at hf
      refine G.iast' dX2_weigh_140 (by decide) rfl rfl hi_18 ?_
      refine G.nmI (fun I_19 e_I_19 => ?_)
      have hf := letb_at hf e_I_19
      clear e_I_19
      refine G.inc (w := 1) (L' := [some (.ref 45), none, none, some (.int x3), some (.int x4), some (.int (x5 + (1 : Int32)))]) dX2_weigh_141 (by decide) rfl (Nat.le_of_ble_eq_true rfl) rfl rfl ?_
      refine G.goto (tgt := 102) dX2_weigh_144 (by decide) ?_
      have hf := Option.some.inj hf
      subst hf
      exact hK
theorem lX2_weigh_102 (E : EV) (d : Nat) (rr : Option Value × Mem) (x3 : Int32) (x4 : Int32) (z : (Int32 × Mem)) (hK : (fun (z : Int32 × Mem) => (some (.int z.1), z.2) = rr) z) : ∀ (n : Nat) (q : (Int32 × Mem)), iter (sX2_weigh_102 x3 x4) n q = some z → G E (d + 5) kX2_weigh 102 [some (.ref 45), none, none, some (.int x3), some (.int x4), some (.int q.1)] [] q.2 rr := by
  intro n
  induction n with
  | zero => intro q h; cases h
  | succ n ih =>
    intro q h
    rcases iter_at h with ⟨q2, hs, h2⟩ | hs
    · exact wX2_weigh_102 E d rr x3 x4 q.1 q.2 _ hs (ih q2 h2)
    · exact wX2_weigh_102 E d rr x3 x4 q.1 q.2 _ hs hK
def bX2_weigh_60 (b1 : Nat) (x3 : Int32) (x4 : Int32) (I : Mem) : Option ((Int32 × Mem) ⊕ (Int32 × Mem)) :=
  if x4 < (1 : Int32) then
  (bnd2 (fX2_leastFrom (I b1 3) (1 : Int32) I) fun v_10 I_11 =>
  chk (inb (0 : Int32) 5) <|
  letb (up2 I_11 46 (ix (0 : Int32)) (I_11 b1 3)) fun I_13 =>
  inrO (iter (sX2_weigh_102 x3 v_10) FU ((1 : Int32), I_13)))
  else
  (bnd (fX2_fillRest x4 I) fun I_24 =>
  some (.inl ((x4 + (-1 : Int32)), I_24)))
def sX2_weigh_60 (b1 : Nat) (x3 : Int32) (q : (Int32 × Mem)) : Option ((Int32 × Mem) ⊕ (Int32 × Mem)) := bX2_weigh_60 b1 x3 q.1 q.2
set_option maxRecDepth 20000 in
theorem wX2_weigh_60 (E : EV) (d : Nat) (rr : Option Value × Mem) (b1 : Nat) (x3 : Int32) (x4 : Int32) (I : Mem) (hb1 : isH b1) (y : ((Int32 × Mem) ⊕ (Int32 × Mem))) (hf : bX2_weigh_60 b1 x3 x4 I = some y) (hK : (KX2_weigh_60 E d rr b1 x3 (fun (z : Int32 × Mem) => (some (.int z.1), z.2) = rr)) y) : G E (d + 5) kX2_weigh 60 [some (.ref 45), some (.ref b1), none, some (.int x3), some (.int x4), none] [] I rr := by
  unfold bX2_weigh_60 at hf
  refine G.iload dX2_weigh_60 rfl ?_
  refine G.iconst (v := 1) dX2_weigh_62 (by decide) ?_
  refine G.icmp_lt (tgt := 78) dX2_weigh_63 (by decide) (fun c_25 => ?_) (fun c_25 => ?_)
  · have hf := ite_t hf c_25
    refine G.aload_n dX2_weigh_78 rfl rfl ?_
    refine G.aload_n dX2_weigh_79 rfl rfl ?_
    refine G.getI dX2_weigh_80 flX2_64 (isH_lt hb1) (isH_lk hb1) ?_
    refine G.iconst (v := 1) dX2_weigh_83 (by decide) ?_
    obtain ⟨v_10, I_11, hc_9, hf⟩ := bnd2_at hf
    refine G.callVi (av := [.int (I b1 3), .int (1 : Int32)]) (rest := []) dX2_weigh_84 mvX2_67 (gX2_leastFrom E (d + 1) (I b1 3) (1 : Int32) I hc_9) (by decide) rfl rfl rfl (Nat.le_of_ble_eq_true rfl) ?_
    refine G.istore (L' := [some (.ref 45), some (.ref b1), none, some (.int x3), some (.int v_10), none]) dX2_weigh_87 (Nat.le_of_ble_eq_true rfl) (Nat.le_of_ble_eq_true rfl) rfl rfl ?_
    refine G.aload_n dX2_weigh_89 rfl rfl ?_
    refine G.getR (q := 46) dX2_weigh_90 flX2_9 (by decide) rfl rfl ?_
    refine G.iconst (v := 0) dX2_weigh_93 (by decide) ?_
    refine G.aload_n dX2_weigh_94 rfl rfl ?_
    refine G.getI dX2_weigh_95 flX2_64 (isH_lt hb1) (isH_lk hb1) ?_
    obtain ⟨hi_12, hf⟩ := chk_at hf
    refine G.iast' dX2_weigh_98 (by decide) rfl rfl hi_12 ?_
    refine G.nmI (fun I_13 e_I_13 => ?_)
    have hf := letb_at hf e_I_13
    clear e_I_13
    refine G.iconst (v := 1) dX2_weigh_99 (by decide) ?_
    refine G.istore (L' := [some (.ref 45), some (.ref b1), none, some (.int x3), some (.int v_10), some (.int (1 : Int32))]) dX2_weigh_100 (Nat.le_of_ble_eq_true rfl) (Nat.le_of_ble_eq_true rfl) rfl rfl ?_
    obtain ⟨z_22, hz_22, rfl⟩ := inrO_at hf
    have hf := hz_22
    refine G.forget (L' := [some (.ref 45), none, none, some (.int x3), some (.int v_10), some (.int (1 : Int32))]) [1] rfl ?_
    exact lX2_weigh_102 E d rr x3 v_10 _ hK FU _ hf
  · have hf := ite_f hf c_25
    refine G.aload_n dX2_weigh_66 rfl rfl ?_
    refine G.iload dX2_weigh_67 rfl ?_
    obtain ⟨I_24, hc_23, hf⟩ := bnd_at hf
    refine G.callVv (av := [.int x4]) (rest := []) dX2_weigh_69 mvX2_61 (gX2_fillRest E d x4 I hc_23) (by decide) rfl rfl rfl (Nat.le_of_ble_eq_true rfl) ?_
    refine G.inc (w := -1) (L' := [some (.ref 45), some (.ref b1), none, some (.int x3), some (.int (x4 + (-1 : Int32))), none]) dX2_weigh_72 (by decide) rfl (Nat.le_of_ble_eq_true rfl) rfl rfl ?_
    refine G.goto (tgt := 60) dX2_weigh_75 (by decide) ?_
    have hf := Option.some.inj hf
    subst hf
    exact hK
theorem lX2_weigh_60 (E : EV) (d : Nat) (rr : Option Value × Mem) (b1 : Nat) (x3 : Int32) (hb1 : isH b1) (z : (Int32 × Mem)) (hK : (fun (z : Int32 × Mem) => (some (.int z.1), z.2) = rr) z) : ∀ (n : Nat) (q : (Int32 × Mem)), iter (sX2_weigh_60 b1 x3) n q = some z → G E (d + 5) kX2_weigh 60 [some (.ref 45), some (.ref b1), none, some (.int x3), some (.int q.1), none] [] q.2 rr := by
  intro n
  induction n with
  | zero => intro q h; cases h
  | succ n ih =>
    intro q h
    rcases iter_at h with ⟨q2, hs, h2⟩ | hs
    · exact wX2_weigh_60 E d rr b1 x3 q.1 q.2 hb1 _ hs (ih q2 h2)
    · exact wX2_weigh_60 E d rr b1 x3 q.1 q.2 hb1 _ hs hK
def bX2_weigh_30 (b1 : Nat) (x3 : Int32) (x4 : Int32) (I : Mem) : Option ((Int32 × Mem) ⊕ (Int32 × Mem)) :=
  if x4 < (1 : Int32) then
  (chk (inb x3 5) <|
  letb (up2 I 57 (ix x3) (0 : Int32)) fun I_7 =>
  letb (x3 - (1 : Int32)) fun x4_8 =>
  inrO (iter (sX2_weigh_60 b1 x3) FU (x4_8, I_7)))
  else
  (bnd (fX2_markKeeping x4 I) fun I_28 =>
  some (.inl ((x4 + (-1 : Int32)), I_28)))
def sX2_weigh_30 (b1 : Nat) (x3 : Int32) (q : (Int32 × Mem)) : Option ((Int32 × Mem) ⊕ (Int32 × Mem)) := bX2_weigh_30 b1 x3 q.1 q.2
set_option maxRecDepth 20000 in
theorem wX2_weigh_30 (E : EV) (d : Nat) (rr : Option Value × Mem) (b1 : Nat) (x3 : Int32) (x4 : Int32) (I : Mem) (hb1 : isH b1) (y : ((Int32 × Mem) ⊕ (Int32 × Mem))) (hf : bX2_weigh_30 b1 x3 x4 I = some y) (hK : (KX2_weigh_30 E d rr b1 x3 (fun (z : Int32 × Mem) => (some (.int z.1), z.2) = rr)) y) : G E (d + 5) kX2_weigh 30 [some (.ref 45), some (.ref b1), none, some (.int x3), some (.int x4), none] [] I rr := by
  unfold bX2_weigh_30 at hf
  refine G.iload dX2_weigh_30 rfl ?_
  refine G.iconst (v := 1) dX2_weigh_32 (by decide) ?_
  refine G.icmp_lt (tgt := 48) dX2_weigh_33 (by decide) (fun c_29 => ?_) (fun c_29 => ?_)
  · have hf := ite_t hf c_29
    refine G.aload_n dX2_weigh_48 rfl rfl ?_
    refine G.getR (q := 57) dX2_weigh_49 flX2_23 (by decide) rfl rfl ?_
    refine G.iload_n dX2_weigh_52 rfl rfl ?_
    refine G.iconst (v := 0) dX2_weigh_53 (by decide) ?_
    obtain ⟨hi_6, hf⟩ := chk_at hf
    refine G.iast' dX2_weigh_54 (by decide) rfl rfl hi_6 ?_
    refine G.nmI (fun I_7 e_I_7 => ?_)
    have hf := letb_at hf e_I_7
    clear e_I_7
    refine G.iload_n dX2_weigh_55 rfl rfl ?_
    refine G.iconst (v := 1) dX2_weigh_56 (by decide) ?_
    refine G.isub dX2_weigh_57 ?_
    refine G.nmi (fun x4_8 e_x4_8 => ?_)
    have hf := letb_at hf e_x4_8
    clear e_x4_8
    refine G.istore (L' := [some (.ref 45), some (.ref b1), none, some (.int x3), some (.int x4_8), none]) dX2_weigh_58 (Nat.le_of_ble_eq_true rfl) (Nat.le_of_ble_eq_true rfl) rfl rfl ?_
    obtain ⟨z_26, hz_26, rfl⟩ := inrO_at hf
    have hf := hz_26
    exact lX2_weigh_60 E d rr b1 x3 hb1 _ hK FU _ hf
  · have hf := ite_f hf c_29
    refine G.aload_n dX2_weigh_36 rfl rfl ?_
    refine G.iload dX2_weigh_37 rfl ?_
    obtain ⟨I_28, hc_27, hf⟩ := bnd_at hf
    refine G.callVv (av := [.int x4]) (rest := []) dX2_weigh_39 mvX2_57 (gX2_markKeeping E (d + 3) x4 I hc_27) (by decide) rfl rfl rfl (Nat.le_of_ble_eq_true rfl) ?_
    refine G.inc (w := -1) (L' := [some (.ref 45), some (.ref b1), none, some (.int x3), some (.int (x4 + (-1 : Int32))), none]) dX2_weigh_42 (by decide) rfl (Nat.le_of_ble_eq_true rfl) rfl rfl ?_
    refine G.goto (tgt := 30) dX2_weigh_45 (by decide) ?_
    have hf := Option.some.inj hf
    subst hf
    exact hK
theorem lX2_weigh_30 (E : EV) (d : Nat) (rr : Option Value × Mem) (b1 : Nat) (x3 : Int32) (hb1 : isH b1) (z : (Int32 × Mem)) (hK : (fun (z : Int32 × Mem) => (some (.int z.1), z.2) = rr) z) : ∀ (n : Nat) (q : (Int32 × Mem)), iter (sX2_weigh_30 b1 x3) n q = some z → G E (d + 5) kX2_weigh 30 [some (.ref 45), some (.ref b1), none, some (.int x3), some (.int q.1), none] [] q.2 rr := by
  intro n
  induction n with
  | zero => intro q h; cases h
  | succ n ih =>
    intro q h
    rcases iter_at h with ⟨q2, hs, h2⟩ | hs
    · exact wX2_weigh_30 E d rr b1 x3 q.1 q.2 hb1 _ hs (ih q2 h2)
    · exact wX2_weigh_30 E d rr b1 x3 q.1 q.2 hb1 _ hs hK
def fX2_weigh (b1 : Nat) (o2 : Nat) (x3 : Int32) (I : Mem) : Option (Int32 × Mem) :=
  letb (up2 I 45 1 (enc b1)) fun I_1 =>
  letb (up2 I_1 45 2 (enc o2)) fun I_2 =>
  letb (up2 I_2 45 3 x3) fun I_3 =>
  bnd (fX4_markLone b1 58 61 I_3) fun I_5 =>
  iter (sX2_weigh_30 b1 x3) FU (x3, I_5)
set_option maxRecDepth 20000 in
theorem gX2_weigh (E : EV) (d : Nat) (b1 : Nat) (o2 : Nat) (x3 : Int32) (I : Mem) (hb1 : isH b1) (ho2 : isL o2) {v : Int32} {J : Mem} (hf : fX2_weigh b1 o2 x3 I = some (v, J)) : Gm E (d + 5) kX2_weigh [.ref 45, .ref b1, .ref o2, .int x3] I (some (.int v), J) := by
  refine (fun (y : (Int32 × Mem)) (hf : fX2_weigh b1 o2 x3 I = some y) => (?_ : Gm E (d + 5) kX2_weigh [.ref 45, .ref b1, .ref o2, .int x3] I (some (.int y.1), y.2))) (v, J) hf
  refine Gm.of (by decide) rfl (Nat.le_of_ble_eq_true rfl) ?_
  generalize hrr : ((some (.int y.1), y.2) : Option Value × Mem) = rr
  show G E (d + 5) kX2_weigh 0 [some (.ref 45), some (.ref b1), some (.ref o2), some (.int x3), none, none] [] I rr
  have hK : (fun (z : Int32 × Mem) => (some (.int z.1), z.2) = rr) y := hrr
  clear hrr
  unfold fX2_weigh at hf
  refine G.aload_n dX2_weigh_0 rfl rfl ?_
  refine G.aload_n dX2_weigh_1 rfl rfl ?_
  refine G.putM dX2_weigh_2 flX2_39 (by decide) rfl (isH_lt hb1) ?_
  refine G.nmI (fun I_1 e_I_1 => ?_)
  have hf := letb_at hf e_I_1
  clear e_I_1
  refine G.aload_n dX2_weigh_5 rfl rfl ?_
  refine G.aload_n dX2_weigh_6 rfl rfl ?_
  refine G.putM dX2_weigh_7 flX2_43 (by decide) rfl (isL_lt ho2) ?_
  refine G.nmI (fun I_2 e_I_2 => ?_)
  have hf := letb_at hf e_I_2
  clear e_I_2
  refine G.aload_n dX2_weigh_10 rfl rfl ?_
  refine G.iload_n dX2_weigh_11 rfl rfl ?_
  refine G.putI dX2_weigh_12 flX2_47 (by decide) rfl ?_
  refine G.nmI (fun I_3 e_I_3 => ?_)
  have hf := letb_at hf e_I_3
  clear e_I_3
  refine G.aload_n dX2_weigh_15 rfl rfl ?_
  refine G.aload_n dX2_weigh_16 rfl rfl ?_
  refine G.getR (q := 58) dX2_weigh_17 flX2_26 (by decide) rfl rfl ?_
  refine G.aload_n dX2_weigh_20 rfl rfl ?_
  refine G.getR (q := 61) dX2_weigh_21 flX2_36 (by decide) rfl rfl ?_
  obtain ⟨I_5, hc_4, hf⟩ := bnd_at hf
  refine G.callVv (av := [.ref 58, .ref 61]) (rest := []) dX2_weigh_24 mvX2_51 (gX4_markLone E (d + 1) b1 58 61 I_3 hb1 ⟨by decide, rfl⟩ (by unfold isW; decide) hc_4) (isH_lt hb1) (isH_lk hb1) rfl rfl (Nat.le_of_ble_eq_true rfl) ?_
  refine G.iload_n dX2_weigh_27 rfl rfl ?_
  refine G.istore (L' := [some (.ref 45), some (.ref b1), some (.ref o2), some (.int x3), some (.int x3), none]) dX2_weigh_28 (Nat.le_of_ble_eq_true rfl) (Nat.le_of_ble_eq_true rfl) rfl rfl ?_
  refine G.forget (L' := [some (.ref 45), some (.ref b1), none, some (.int x3), some (.int x3), none]) [2] rfl ?_
  exact lX2_weigh_30 E d rr b1 x3 hb1 _ hK FU _ hf
theorem dX6_sideOf_0 : decode cX6_sideOf 0 = .ok (.aload_n 0, 1) := by decide +kernel
theorem dX6_sideOf_1 : decode cX6_sideOf 1 = .ok (.getfield 34, 3) := by decide +kernel
theorem dX6_sideOf_4 : decode cX6_sideOf 4 = .ok (.invokevirtual 91, 3) := by decide +kernel
theorem dX6_sideOf_7 : decode cX6_sideOf 7 = .ok (.ifCond .eq 17, 3) := by decide +kernel
theorem dX6_sideOf_10 : decode cX6_sideOf 10 = .ok (.aload_n 0, 1) := by decide +kernel
theorem dX6_sideOf_11 : decode cX6_sideOf 11 = .ok (.getfield 30, 3) := by decide +kernel
theorem dX6_sideOf_14 : decode cX6_sideOf 14 = .ok (.getfield 81, 3) := by decide +kernel
theorem dX6_sideOf_17 : decode cX6_sideOf 17 = .ok (.iload_n 1, 1) := by decide +kernel
theorem dX6_sideOf_18 : decode cX6_sideOf 18 = .ok (.iadd, 1) := by decide +kernel
theorem dX6_sideOf_19 : decode cX6_sideOf 19 = .ok (.iconst 1, 1) := by decide +kernel
theorem dX6_sideOf_20 : decode cX6_sideOf 20 = .ok (.iand, 1) := by decide +kernel
theorem dX6_sideOf_21 : decode cX6_sideOf 21 = .ok (.goto 4, 3) := by decide +kernel
theorem dX6_sideOf_24 : decode cX6_sideOf 24 = .ok (.iconst 0, 1) := by decide +kernel
theorem dX6_sideOf_25 : decode cX6_sideOf 25 = .ok (.ireturn, 1) := by decide +kernel
def fX6_sideOf (x1 : Int32) (I : Mem) : Option Int32 :=
  bnd (asL (dec (I 63 1))) fun o9_1 =>
  bnd (fD_mindsBeats o9_1 I) fun v_2 =>
  if v_2 = 0 then
  (some (0 : Int32))
  else
  (bnd (asH (dec (I 63 0))) fun b9_4 =>
  some (((I b9_4 5) + x1) &&& (1 : Int32)))
set_option maxRecDepth 20000 in
theorem gX6_sideOf (E : EV) (d : Nat) (x1 : Int32) (I : Mem) {v : Int32} (hf : fX6_sideOf x1 I = some v) : Gm E (d + 1) kX6_sideOf [.ref 63, .int x1] I (some (.int v), I) := by
  refine (fun (y : Int32) (hf : fX6_sideOf x1 I = some y) => (?_ : Gm E (d + 1) kX6_sideOf [.ref 63, .int x1] I (some (.int y), I))) v hf
  refine Gm.of (by decide) rfl (Nat.le_of_ble_eq_true rfl) ?_
  generalize hrr : ((some (.int y), I) : Option Value × Mem) = rr
  show G E (d + 1) kX6_sideOf 0 [some (.ref 63), some (.int x1)] [] I rr
  have hK : (fun (z : Int32) => (some (.int z), I) = rr) y := hrr
  clear hrr
  unfold fX6_sideOf at hf
  refine G.aload_n dX6_sideOf_0 rfl rfl ?_
  obtain ⟨o9_1, ho9_1a, hf⟩ := bnd_at hf
  obtain ⟨ho9_1d, ho9_1⟩ := asL_at ho9_1a
  refine G.getM (q := o9_1) dX6_sideOf_1 flX6_34 (by decide) rfl ho9_1d ?_
  obtain ⟨v_2, hc_3, hf⟩ := bnd_at hf
  refine vLX6_91 (rest := []) dX6_sideOf_4 ho9_1 hc_3 (Nat.le_of_ble_eq_true rfl) rfl ?_
  refine G.if_eq (tgt := 24) dX6_sideOf_7 (by decide) (fun c_5 => ?_) (fun c_5 => ?_)
  · have hf := ite_t hf c_5
    refine G.iconst (v := 0) dX6_sideOf_24 (by decide) ?_
    have hf := Option.some.inj hf
    subst hf
    exact G.iret' dX6_sideOf_25 rfl hK
  · have hf := ite_f hf c_5
    refine G.aload_n dX6_sideOf_10 rfl rfl ?_
    obtain ⟨b9_4, hb9_4a, hf⟩ := bnd_at hf
    obtain ⟨hb9_4d, hb9_4⟩ := asH_at hb9_4a
    refine G.getM (q := b9_4) dX6_sideOf_11 flX6_30 (by decide) rfl hb9_4d ?_
    refine G.getI dX6_sideOf_14 flX6_81 (isH_lt hb9_4) (isH_lk hb9_4) ?_
    refine G.iload_n dX6_sideOf_17 rfl rfl ?_
    refine G.iadd dX6_sideOf_18 ?_
    refine G.iconst (v := 1) dX6_sideOf_19 (by decide) ?_
    refine G.iand dX6_sideOf_20 ?_
    refine G.goto (tgt := 25) dX6_sideOf_21 (by decide) ?_
    have hf := Option.some.inj hf
    subst hf
    exact G.iret' dX6_sideOf_25 rfl hK
theorem dX6_reach_0 : decode cX6_reach 0 = .ok (.aload_n 0, 1) := by decide +kernel
theorem dX6_reach_1 : decode cX6_reach 1 = .ok (.getfield 50, 3) := by decide +kernel
theorem dX6_reach_4 : decode cX6_reach 4 = .ok (.aload_n 0, 1) := by decide +kernel
theorem dX6_reach_5 : decode cX6_reach 5 = .ok (.getfield 16, 3) := by decide +kernel
theorem dX6_reach_8 : decode cX6_reach 8 = .ok (.arraylength, 1) := by decide +kernel
theorem dX6_reach_9 : decode cX6_reach 9 = .ok (.if_icmp .ge 44, 3) := by decide +kernel
theorem dX6_reach_12 : decode cX6_reach 12 = .ok (.aload_n 0, 1) := by decide +kernel
theorem dX6_reach_13 : decode cX6_reach 13 = .ok (.getfield 11, 3) := by decide +kernel
theorem dX6_reach_16 : decode cX6_reach 16 = .ok (.aload_n 0, 1) := by decide +kernel
theorem dX6_reach_17 : decode cX6_reach 17 = .ok (.iload_n 2, 1) := by decide +kernel
theorem dX6_reach_18 : decode cX6_reach 18 = .ok (.invokevirtual 70, 3) := by decide +kernel
theorem dX6_reach_21 : decode cX6_reach 21 = .ok (.aaload, 1) := by decide +kernel
theorem dX6_reach_22 : decode cX6_reach 22 = .ok (.iload_n 1, 1) := by decide +kernel
theorem dX6_reach_23 : decode cX6_reach 23 = .ok (.iload_n 2, 1) := by decide +kernel
theorem dX6_reach_24 : decode cX6_reach 24 = .ok (.iastore, 1) := by decide +kernel
theorem dX6_reach_25 : decode cX6_reach 25 = .ok (.aload_n 0, 1) := by decide +kernel
theorem dX6_reach_26 : decode cX6_reach 26 = .ok (.getfield 16, 3) := by decide +kernel
theorem dX6_reach_29 : decode cX6_reach 29 = .ok (.aload_n 0, 1) := by decide +kernel
theorem dX6_reach_30 : decode cX6_reach 30 = .ok (.getfield 50, 3) := by decide +kernel
theorem dX6_reach_33 : decode cX6_reach 33 = .ok (.iconst 2, 1) := by decide +kernel
theorem dX6_reach_34 : decode cX6_reach 34 = .ok (.iload_n 1, 1) := by decide +kernel
theorem dX6_reach_35 : decode cX6_reach 35 = .ok (.imul, 1) := by decide +kernel
theorem dX6_reach_36 : decode cX6_reach 36 = .ok (.aload_n 0, 1) := by decide +kernel
theorem dX6_reach_37 : decode cX6_reach 37 = .ok (.iload_n 2, 1) := by decide +kernel
theorem dX6_reach_38 : decode cX6_reach 38 = .ok (.invokevirtual 70, 3) := by decide +kernel
theorem dX6_reach_41 : decode cX6_reach 41 = .ok (.iadd, 1) := by decide +kernel
theorem dX6_reach_42 : decode cX6_reach 42 = .ok (.iastore, 1) := by decide +kernel
theorem dX6_reach_43 : decode cX6_reach 43 = .ok (.aload_n 0, 1) := by decide +kernel
theorem dX6_reach_44 : decode cX6_reach 44 = .ok (.dup, 1) := by decide +kernel
theorem dX6_reach_45 : decode cX6_reach 45 = .ok (.getfield 50, 3) := by decide +kernel
theorem dX6_reach_48 : decode cX6_reach 48 = .ok (.iconst 1, 1) := by decide +kernel
theorem dX6_reach_49 : decode cX6_reach 49 = .ok (.iadd, 1) := by decide +kernel
theorem dX6_reach_50 : decode cX6_reach 50 = .ok (.putfield 50, 3) := by decide +kernel
theorem dX6_reach_53 : decode cX6_reach 53 = .ok (.return_, 1) := by decide +kernel
def fX6_reach (x1 : Int32) (x2 : Int32) (I : Mem) : Option Mem :=
  if (nI 1250) ≤ (I 63 4) then
  (some I)
  else
  (bnd (fX6_sideOf x2 I) fun v_2 =>
  chk (inb v_2 2) <|
  bnd (asA (fin 64 (ix v_2))) fun a9_4 =>
  chk (inb x1 (ln a9_4)) <|
  letb (up2 I a9_4 (ix x1) x2) fun I_6 =>
  bnd (fX6_sideOf x2 I_6) fun v_8 =>
  chk (inb (I_6 63 4) 1250) <|
  letb (up2 I_6 67 (ix (I_6 63 4)) (((2 : Int32) * x1) + v_8)) fun I_10 =>
  letb (up2 I_10 63 4 ((I_10 63 4) + (1 : Int32))) fun I_11 =>
  some I_11)
set_option maxRecDepth 20000 in
theorem gX6_reach (E : EV) (d : Nat) (x1 : Int32) (x2 : Int32) (I : Mem) {J : Mem} (hf : fX6_reach x1 x2 I = some J) : Gm E (d + 2) kX6_reach [.ref 63, .int x1, .int x2] I (none, J) := by
  refine (fun (y : Mem) (hf : fX6_reach x1 x2 I = some y) => (?_ : Gm E (d + 2) kX6_reach [.ref 63, .int x1, .int x2] I (none, y))) J hf
  refine Gm.of (by decide) rfl (Nat.le_of_ble_eq_true rfl) ?_
  generalize hrr : ((none, y) : Option Value × Mem) = rr
  show G E (d + 2) kX6_reach 0 [some (.ref 63), some (.int x1), some (.int x2)] [] I rr
  have hK : (fun (z : Mem) => ((none : Option Value), z) = rr) y := hrr
  clear hrr
  unfold fX6_reach at hf
  refine G.aload_n dX6_reach_0 rfl rfl ?_
  refine G.getI dX6_reach_1 flX6_50 (by decide) rfl ?_
  refine G.aload_n dX6_reach_4 rfl rfl ?_
  refine G.getR (q := 67) dX6_reach_5 flX6_16 (by decide) rfl rfl ?_
  refine G.alen (v := nI 1250) dX6_reach_8 (by decide) rfl (congrArg nI rfl) ?_
  refine G.icmp_ge (tgt := 53) dX6_reach_9 (by decide) (fun c_12 => ?_) (fun c_12 => ?_)
  · have hf := ite_t hf c_12
    have hf := Option.some.inj hf
    subst hf
    exact G.vret' dX6_reach_53 rfl hK
  · have hf := ite_f hf c_12
    refine G.aload_n dX6_reach_12 rfl rfl ?_
    refine G.getR (q := 64) dX6_reach_13 flX6_11 (by decide) rfl rfl ?_
    refine G.aload_n dX6_reach_16 rfl rfl ?_
    refine G.iload_n dX6_reach_17 rfl rfl ?_
    obtain ⟨v_2, hc_1, hf⟩ := bnd_at hf
    refine G.callVi (av := [.int x2]) (rest := [.ref 64]) dX6_reach_18 mvX6_70 (gX6_sideOf E d x2 I hc_1) (by decide) rfl rfl rfl (Nat.le_of_ble_eq_true rfl) ?_
    obtain ⟨hi_3, hf⟩ := chk_at hf
    obtain ⟨a9_4, ha9_4a, hf⟩ := bnd_at hf
    obtain ⟨ha9_4d, ha9_4⟩ := asA_at ha9_4a
    refine G.aaldA (q := a9_4) dX6_reach_21 (by decide) rfl hi_3 ha9_4d ?_
    refine G.iload_n dX6_reach_22 rfl rfl ?_
    refine G.iload_n dX6_reach_23 rfl rfl ?_
    obtain ⟨hi_5, hf⟩ := chk_at hf
    refine G.iast' dX6_reach_24 ha9_4.1 ha9_4.2 rfl hi_5 ?_
    refine G.nmI (fun I_6 e_I_6 => ?_)
    have hf := letb_at hf e_I_6
    clear e_I_6
    refine G.aload_n dX6_reach_25 rfl rfl ?_
    refine G.getR (q := 67) dX6_reach_26 flX6_16 (by decide) rfl rfl ?_
    refine G.aload_n dX6_reach_29 rfl rfl ?_
    refine G.getI dX6_reach_30 flX6_50 (by decide) rfl ?_
    refine G.iconst (v := 2) dX6_reach_33 (by decide) ?_
    refine G.iload_n dX6_reach_34 rfl rfl ?_
    refine G.imul dX6_reach_35 ?_
    refine G.aload_n dX6_reach_36 rfl rfl ?_
    refine G.iload_n dX6_reach_37 rfl rfl ?_
    obtain ⟨v_8, hc_7, hf⟩ := bnd_at hf
    refine G.callVi (av := [.int x2]) (rest := [.int ((2 : Int32) * x1), .int (I_6 63 4), .ref 67]) dX6_reach_38 mvX6_70 (gX6_sideOf E d x2 I_6 hc_7) (by decide) rfl rfl rfl (Nat.le_of_ble_eq_true rfl) ?_
    refine G.iadd dX6_reach_41 ?_
    obtain ⟨hi_9, hf⟩ := chk_at hf
    refine G.iast' dX6_reach_42 (by decide) rfl rfl hi_9 ?_
    refine G.nmI (fun I_10 e_I_10 => ?_)
    have hf := letb_at hf e_I_10
    clear e_I_10
    refine G.aload_n dX6_reach_43 rfl rfl ?_
    refine G.dup dX6_reach_44 rfl ?_
    refine G.getI dX6_reach_45 flX6_50 (by decide) rfl ?_
    refine G.iconst (v := 1) dX6_reach_48 (by decide) ?_
    refine G.iadd dX6_reach_49 ?_
    refine G.putI dX6_reach_50 flX6_50 (by decide) rfl ?_
    refine G.nmI (fun I_11 e_I_11 => ?_)
    have hf := letb_at hf e_I_11
    clear e_I_11
    have hf := Option.some.inj hf
    subst hf
    exact G.vret' dX6_reach_53 rfl hK
theorem dX6_spread_0 : decode cX6_spread 0 = .ok (.aload_n 0, 1) := by decide +kernel
theorem dX6_spread_1 : decode cX6_spread 1 = .ok (.getfield 11, 3) := by decide +kernel
theorem dX6_spread_4 : decode cX6_spread 4 = .ok (.aload_n 0, 1) := by decide +kernel
theorem dX6_spread_5 : decode cX6_spread 5 = .ok (.iload_n 2, 1) := by decide +kernel
theorem dX6_spread_6 : decode cX6_spread 6 = .ok (.invokevirtual 70, 3) := by decide +kernel
theorem dX6_spread_9 : decode cX6_spread 9 = .ok (.aaload, 1) := by decide +kernel
theorem dX6_spread_10 : decode cX6_spread 10 = .ok (.astore_n 3, 1) := by decide +kernel
theorem dX6_spread_11 : decode cX6_spread 11 = .ok (.iload_n 2, 1) := by decide +kernel
theorem dX6_spread_12 : decode cX6_spread 12 = .ok (.sipush 999, 3) := by decide +kernel
theorem dX6_spread_15 : decode cX6_spread 15 = .ok (.if_icmp .le 7, 3) := by decide +kernel
theorem dX6_spread_18 : decode cX6_spread 18 = .ok (.iconst 0, 1) := by decide +kernel
theorem dX6_spread_19 : decode cX6_spread 19 = .ok (.goto 15, 3) := by decide +kernel
theorem dX6_spread_22 : decode cX6_spread 22 = .ok (.aload_n 0, 1) := by decide +kernel
theorem dX6_spread_23 : decode cX6_spread 23 = .ok (.getfield 26, 3) := by decide +kernel
theorem dX6_spread_26 : decode cX6_spread 26 = .ok (.aload_n 0, 1) := by decide +kernel
theorem dX6_spread_27 : decode cX6_spread 27 = .ok (.getfield 30, 3) := by decide +kernel
theorem dX6_spread_30 : decode cX6_spread 30 = .ok (.iload_n 1, 1) := by decide +kernel
theorem dX6_spread_31 : decode cX6_spread 31 = .ok (.invokevirtual 74, 3) := by decide +kernel
theorem dX6_spread_34 : decode cX6_spread 34 = .ok (.istore 4, 2) := by decide +kernel
theorem dX6_spread_36 : decode cX6_spread 36 = .ok (.iconst 0, 1) := by decide +kernel
theorem dX6_spread_37 : decode cX6_spread 37 = .ok (.istore 5, 2) := by decide +kernel
theorem dX6_spread_39 : decode cX6_spread 39 = .ok (.iload 5, 2) := by decide +kernel
theorem dX6_spread_41 : decode cX6_spread 41 = .ok (.iload 4, 2) := by decide +kernel
theorem dX6_spread_43 : decode cX6_spread 43 = .ok (.if_icmp .ge 79, 3) := by decide +kernel
theorem dX6_spread_46 : decode cX6_spread 46 = .ok (.aload_n 0, 1) := by decide +kernel
theorem dX6_spread_47 : decode cX6_spread 47 = .ok (.getfield 26, 3) := by decide +kernel
theorem dX6_spread_50 : decode cX6_spread 50 = .ok (.getfield 78, 3) := by decide +kernel
theorem dX6_spread_53 : decode cX6_spread 53 = .ok (.istore 6, 2) := by decide +kernel
theorem dX6_spread_55 : decode cX6_spread 55 = .ok (.aload_n 3, 1) := by decide +kernel
theorem dX6_spread_56 : decode cX6_spread 56 = .ok (.iload 6, 2) := by decide +kernel
theorem dX6_spread_58 : decode cX6_spread 58 = .ok (.iaload, 1) := by decide +kernel
theorem dX6_spread_59 : decode cX6_spread 59 = .ok (.iconst (-1), 1) := by decide +kernel
theorem dX6_spread_60 : decode cX6_spread 60 = .ok (.if_icmp .ne 49, 3) := by decide +kernel
theorem dX6_spread_63 : decode cX6_spread 63 = .ok (.aload_n 0, 1) := by decide +kernel
theorem dX6_spread_64 : decode cX6_spread 64 = .ok (.getfield 30, 3) := by decide +kernel
theorem dX6_spread_67 : decode cX6_spread 67 = .ok (.iload_n 1, 1) := by decide +kernel
theorem dX6_spread_68 : decode cX6_spread 68 = .ok (.iload 6, 2) := by decide +kernel
theorem dX6_spread_70 : decode cX6_spread 70 = .ok (.aload_n 0, 1) := by decide +kernel
theorem dX6_spread_71 : decode cX6_spread 71 = .ok (.getfield 20, 3) := by decide +kernel
theorem dX6_spread_74 : decode cX6_spread 74 = .ok (.iload_n 1, 1) := by decide +kernel
theorem dX6_spread_75 : decode cX6_spread 75 = .ok (.iaload, 1) := by decide +kernel
theorem dX6_spread_76 : decode cX6_spread 76 = .ok (.aload_n 0, 1) := by decide +kernel
theorem dX6_spread_77 : decode cX6_spread 77 = .ok (.getfield 20, 3) := by decide +kernel
theorem dX6_spread_80 : decode cX6_spread 80 = .ok (.iload 6, 2) := by decide +kernel
theorem dX6_spread_82 : decode cX6_spread 82 = .ok (.iaload, 1) := by decide +kernel
theorem dX6_spread_83 : decode cX6_spread 83 = .ok (.aload_n 0, 1) := by decide +kernel
theorem dX6_spread_84 : decode cX6_spread 84 = .ok (.getfield 30, 3) := by decide +kernel
theorem dX6_spread_87 : decode cX6_spread 87 = .ok (.getfield 81, 3) := by decide +kernel
theorem dX6_spread_90 : decode cX6_spread 90 = .ok (.iload_n 2, 1) := by decide +kernel
theorem dX6_spread_91 : decode cX6_spread 91 = .ok (.iadd, 1) := by decide +kernel
theorem dX6_spread_92 : decode cX6_spread 92 = .ok (.aload_n 0, 1) := by decide +kernel
theorem dX6_spread_93 : decode cX6_spread 93 = .ok (.getfield 34, 3) := by decide +kernel
theorem dX6_spread_96 : decode cX6_spread 96 = .ok (.invokevirtual 84, 3) := by decide +kernel
theorem dX6_spread_99 : decode cX6_spread 99 = .ok (.ifCond .ne 10, 3) := by decide +kernel
theorem dX6_spread_102 : decode cX6_spread 102 = .ok (.aload_n 0, 1) := by decide +kernel
theorem dX6_spread_103 : decode cX6_spread 103 = .ok (.iload 6, 2) := by decide +kernel
theorem dX6_spread_105 : decode cX6_spread 105 = .ok (.iload_n 2, 1) := by decide +kernel
theorem dX6_spread_106 : decode cX6_spread 106 = .ok (.invokevirtual 57, 3) := by decide +kernel
theorem dX6_spread_109 : decode cX6_spread 109 = .ok (.aload_n 0, 1) := by decide +kernel
theorem dX6_spread_110 : decode cX6_spread 110 = .ok (.getfield 26, 3) := by decide +kernel
theorem dX6_spread_113 : decode cX6_spread 113 = .ok (.invokevirtual 88, 3) := by decide +kernel
theorem dX6_spread_116 : decode cX6_spread 116 = .ok (.iinc 5 1, 3) := by decide +kernel
theorem dX6_spread_119 : decode cX6_spread 119 = .ok (.goto (-80), 3) := by decide +kernel
theorem dX6_spread_122 : decode cX6_spread 122 = .ok (.return_, 1) := by decide +kernel
def KX6_spread_39 (E : EV) (d : Nat) (rr : Option Value × Mem) (a9_4 : Nat) (x1 : Int32) (x2 : Int32) (x4 : Int32) (Kp : Mem → Prop) : ((Int32 × Mem) ⊕ Mem) → Prop
  | .inl q => G E (d + 3) kX6_spread 39 [some (.ref 63), some (.int x1), some (.int x2), some (.ref a9_4), some (.int x4), some (.int q.1), none] [] q.2 rr
  | .inr z => Kp z
def jX6_spread_109 (a9_4 : Nat) (x1 : Int32) (x2 : Int32) (x4 : Int32) (x5 : Int32) (I : Mem) : Option ((Int32 × Mem) ⊕ Mem) :=
  bnd (fX10_step 69 I) fun I_12 =>
  some (.inl ((x5 + (1 : Int32)), I_12))
set_option maxRecDepth 20000 in
theorem tX6_spread_109 (E : EV) (d : Nat) (rr : Option Value × Mem) (a9_4 : Nat) (x1 : Int32) (x2 : Int32) (x4 : Int32) (x5 : Int32) (I : Mem) (ha9_4 : isA a9_4) (y : ((Int32 × Mem) ⊕ Mem)) (hf : jX6_spread_109 a9_4 x1 x2 x4 x5 I = some y) (hK : (KX6_spread_39 E d rr a9_4 x1 x2 x4 (fun (z : Mem) => ((none : Option Value), z) = rr)) y) : G E (d + 3) kX6_spread 109 [some (.ref 63), some (.int x1), some (.int x2), some (.ref a9_4), some (.int x4), some (.int x5), none] [] I rr := by
  unfold jX6_spread_109 at hf
  refine G.aload_n dX6_spread_109 rfl rfl ?_
  refine G.getR (q := 69) dX6_spread_110 flX6_26 (by decide) rfl rfl ?_
  obtain ⟨I_12, hc_11, hf⟩ := bnd_at hf
  refine G.callVv (av := []) (rest := []) dX6_spread_113 mvX6_88 (gX10_step E (d + 1) 69 I (by unfold isW; decide) hc_11) (by decide) rfl rfl rfl (Nat.le_of_ble_eq_true rfl) ?_
  refine G.inc (w := 1) (L' := [some (.ref 63), some (.int x1), some (.int x2), some (.ref a9_4), some (.int x4), some (.int (x5 + (1 : Int32))), none]) dX6_spread_116 (by decide) rfl (Nat.le_of_ble_eq_true rfl) rfl rfl ?_
  refine G.goto (tgt := 39) dX6_spread_119 (by decide) ?_
  have hf := Option.some.inj hf
  subst hf
  exact hK
def bX6_spread_39 (a9_4 : Nat) (x1 : Int32) (x2 : Int32) (x4 : Int32) (x5 : Int32) (I : Mem) : Option ((Int32 × Mem) ⊕ Mem) :=
  if x4 ≤ x5 then
  (some (.inr I))
  else
  (letb (I 69 0) fun x6_9 =>
  chk (inb x6_9 (ln a9_4)) <|
  if (I a9_4 (ix x6_9)) = (-1 : Int32) then
  (bnd (asH (dec (I 63 0))) fun b9_13 =>
  chk (inb x1 2341) <|
  chk (inb x6_9 2341) <|
  bnd (asH (dec (I 63 0))) fun b9_16 =>
  bnd (asL (dec (I 63 1))) fun o9_17 =>
  bnd (fX4_payers b9_13 x1 x6_9 (I 68 (ix x1)) (I 68 (ix x6_9)) ((I b9_16 5) + x2) o9_17 I) fun v_19 =>
  if v_19 = 0 then
  (bnd (fX6_reach x6_9 x2 I) fun I_21 =>
  jX6_spread_109 a9_4 x1 x2 x4 x5 I_21)
  else
  (jX6_spread_109 a9_4 x1 x2 x4 x5 I))
  else
  (jX6_spread_109 a9_4 x1 x2 x4 x5 I))
def sX6_spread_39 (a9_4 : Nat) (x1 : Int32) (x2 : Int32) (x4 : Int32) (q : (Int32 × Mem)) : Option ((Int32 × Mem) ⊕ Mem) := bX6_spread_39 a9_4 x1 x2 x4 q.1 q.2
set_option maxRecDepth 20000 in
theorem wX6_spread_39 (E : EV) (d : Nat) (rr : Option Value × Mem) (a9_4 : Nat) (x1 : Int32) (x2 : Int32) (x4 : Int32) (x5 : Int32) (I : Mem) (ha9_4 : isA a9_4) (y : ((Int32 × Mem) ⊕ Mem)) (hf : bX6_spread_39 a9_4 x1 x2 x4 x5 I = some y) (hK : (KX6_spread_39 E d rr a9_4 x1 x2 x4 (fun (z : Mem) => ((none : Option Value), z) = rr)) y) : G E (d + 3) kX6_spread 39 [some (.ref 63), some (.int x1), some (.int x2), some (.ref a9_4), some (.int x4), some (.int x5), none] [] I rr := by
  unfold bX6_spread_39 at hf
  refine G.iload dX6_spread_39 rfl ?_
  refine G.iload dX6_spread_41 rfl ?_
  refine G.icmp_ge (tgt := 122) dX6_spread_43 (by decide) (fun c_24 => ?_) (fun c_24 => ?_)
  · have hf := ite_t hf c_24
    have hf := Option.some.inj hf
    subst hf
    exact G.vret' dX6_spread_122 rfl hK
  · have hf := ite_f hf c_24
    refine G.aload_n dX6_spread_46 rfl rfl ?_
    refine G.getR (q := 69) dX6_spread_47 flX6_26 (by decide) rfl rfl ?_
    refine G.getI dX6_spread_50 flX6_78 (by decide) rfl ?_
    refine G.nmi (fun x6_9 e_x6_9 => ?_)
    have hf := letb_at hf e_x6_9
    clear e_x6_9
    refine G.istore (L' := [some (.ref 63), some (.int x1), some (.int x2), some (.ref a9_4), some (.int x4), some (.int x5), some (.int x6_9)]) dX6_spread_53 (Nat.le_of_ble_eq_true rfl) (Nat.le_of_ble_eq_true rfl) rfl rfl ?_
    refine G.aload_n dX6_spread_55 rfl rfl ?_
    refine G.iload dX6_spread_56 rfl ?_
    obtain ⟨hi_10, hf⟩ := chk_at hf
    refine G.iald' dX6_spread_58 ha9_4.1 ha9_4.2 rfl hi_10 ?_
    refine G.iconst (v := -1) dX6_spread_59 (by decide) ?_
    refine G.icmp_ne (tgt := 109) dX6_spread_60 (by decide) (fun c_23 => ?_) (fun c_23 => ?_)
    · have hf := ite_f hf c_23
      refine G.forget (L' := [some (.ref 63), some (.int x1), some (.int x2), some (.ref a9_4), some (.int x4), some (.int x5), none]) [6] rfl ?_
      exact tX6_spread_109 E d rr a9_4 x1 x2 x4 x5 I ha9_4 _ hf hK
    · have hf := ite_t hf c_23
      refine G.aload_n dX6_spread_63 rfl rfl ?_
      obtain ⟨b9_13, hb9_13a, hf⟩ := bnd_at hf
      obtain ⟨hb9_13d, hb9_13⟩ := asH_at hb9_13a
      refine G.getM (q := b9_13) dX6_spread_64 flX6_30 (by decide) rfl hb9_13d ?_
      refine G.iload_n dX6_spread_67 rfl rfl ?_
      refine G.iload dX6_spread_68 rfl ?_
      refine G.aload_n dX6_spread_70 rfl rfl ?_
      refine G.getR (q := 68) dX6_spread_71 flX6_20 (by decide) rfl rfl ?_
      refine G.iload_n dX6_spread_74 rfl rfl ?_
      obtain ⟨hi_14, hf⟩ := chk_at hf
      refine G.iald' dX6_spread_75 (by decide) rfl rfl hi_14 ?_
      refine G.aload_n dX6_spread_76 rfl rfl ?_
      refine G.getR (q := 68) dX6_spread_77 flX6_20 (by decide) rfl rfl ?_
      refine G.iload dX6_spread_80 rfl ?_
      obtain ⟨hi_15, hf⟩ := chk_at hf
      refine G.iald' dX6_spread_82 (by decide) rfl rfl hi_15 ?_
      refine G.aload_n dX6_spread_83 rfl rfl ?_
      obtain ⟨b9_16, hb9_16a, hf⟩ := bnd_at hf
      obtain ⟨hb9_16d, hb9_16⟩ := asH_at hb9_16a
      refine G.getM (q := b9_16) dX6_spread_84 flX6_30 (by decide) rfl hb9_16d ?_
      refine G.getI dX6_spread_87 flX6_81 (isH_lt hb9_16) (isH_lk hb9_16) ?_
      refine G.iload_n dX6_spread_90 rfl rfl ?_
      refine G.iadd dX6_spread_91 ?_
      refine G.aload_n dX6_spread_92 rfl rfl ?_
      obtain ⟨o9_17, ho9_17a, hf⟩ := bnd_at hf
      obtain ⟨ho9_17d, ho9_17⟩ := asL_at ho9_17a
      refine G.getM (q := o9_17) dX6_spread_93 flX6_34 (by decide) rfl ho9_17d ?_
      obtain ⟨v_19, hc_18, hf⟩ := bnd_at hf
      refine G.callVi (av := [.int x1, .int x6_9, .int (I 68 (ix x1)), .int (I 68 (ix x6_9)), .int ((I b9_16 5) + x2), .ref o9_17]) (rest := []) dX6_spread_96 mvX6_84 (gX4_payers E d b9_13 x1 x6_9 (I 68 (ix x1)) (I 68 (ix x6_9)) ((I b9_16 5) + x2) o9_17 I hb9_13 ho9_17 hc_18) (isH_lt hb9_13) (isH_lk hb9_13) rfl rfl (Nat.le_of_ble_eq_true rfl) ?_
      refine G.if_ne (tgt := 109) dX6_spread_99 (by decide) (fun c_22 => ?_) (fun c_22 => ?_)
      · have hf := ite_f hf c_22
        refine G.forget (L' := [some (.ref 63), some (.int x1), some (.int x2), some (.ref a9_4), some (.int x4), some (.int x5), none]) [6] rfl ?_
        exact tX6_spread_109 E d rr a9_4 x1 x2 x4 x5 I ha9_4 _ hf hK
      · have hf := ite_t hf c_22
        refine G.aload_n dX6_spread_102 rfl rfl ?_
        refine G.iload dX6_spread_103 rfl ?_
        refine G.iload_n dX6_spread_105 rfl rfl ?_
        obtain ⟨I_21, hc_20, hf⟩ := bnd_at hf
        refine G.callVv (av := [.int x6_9, .int x2]) (rest := []) dX6_spread_106 mvX6_57 (gX6_reach E d x6_9 x2 I hc_20) (by decide) rfl rfl rfl (Nat.le_of_ble_eq_true rfl) ?_
        refine G.forget (L' := [some (.ref 63), some (.int x1), some (.int x2), some (.ref a9_4), some (.int x4), some (.int x5), none]) [6] rfl ?_
        exact tX6_spread_109 E d rr a9_4 x1 x2 x4 x5 I_21 ha9_4 _ hf hK
theorem lX6_spread_39 (E : EV) (d : Nat) (rr : Option Value × Mem) (a9_4 : Nat) (x1 : Int32) (x2 : Int32) (x4 : Int32) (ha9_4 : isA a9_4) (z : Mem) (hK : (fun (z : Mem) => ((none : Option Value), z) = rr) z) : ∀ (n : Nat) (q : (Int32 × Mem)), iter (sX6_spread_39 a9_4 x1 x2 x4) n q = some z → G E (d + 3) kX6_spread 39 [some (.ref 63), some (.int x1), some (.int x2), some (.ref a9_4), some (.int x4), some (.int q.1), none] [] q.2 rr := by
  intro n
  induction n with
  | zero => intro q h; cases h
  | succ n ih =>
    intro q h
    rcases iter_at h with ⟨q2, hs, h2⟩ | hs
    · exact wX6_spread_39 E d rr a9_4 x1 x2 x4 q.1 q.2 ha9_4 _ hs (ih q2 h2)
    · exact wX6_spread_39 E d rr a9_4 x1 x2 x4 q.1 q.2 ha9_4 _ hs hK
def jX6_spread_34 (a9_4 : Nat) (x1 : Int32) (x2 : Int32) (u0 : Int32) (I : Mem) : Option Mem :=
  iter (sX6_spread_39 a9_4 x1 x2 u0) FU ((0 : Int32), I)
set_option maxRecDepth 20000 in
theorem tX6_spread_34 (E : EV) (d : Nat) (rr : Option Value × Mem) (a9_4 : Nat) (x1 : Int32) (x2 : Int32) (u0 : Int32) (I : Mem) (ha9_4 : isA a9_4) (y : Mem) (hf : jX6_spread_34 a9_4 x1 x2 u0 I = some y) (hK : (fun (z : Mem) => ((none : Option Value), z) = rr) y) : G E (d + 3) kX6_spread 34 [some (.ref 63), some (.int x1), some (.int x2), some (.ref a9_4), none, none, none] [.int u0] I rr := by
  unfold jX6_spread_34 at hf
  refine G.istore (L' := [some (.ref 63), some (.int x1), some (.int x2), some (.ref a9_4), some (.int u0), none, none]) dX6_spread_34 (Nat.le_of_ble_eq_true rfl) (Nat.le_of_ble_eq_true rfl) rfl rfl ?_
  refine G.iconst (v := 0) dX6_spread_36 (by decide) ?_
  refine G.istore (L' := [some (.ref 63), some (.int x1), some (.int x2), some (.ref a9_4), some (.int u0), some (.int (0 : Int32)), none]) dX6_spread_37 (Nat.le_of_ble_eq_true rfl) (Nat.le_of_ble_eq_true rfl) rfl rfl ?_
  exact lX6_spread_39 E d rr a9_4 x1 x2 u0 ha9_4 _ hK FU _ hf
def fX6_spread (x1 : Int32) (x2 : Int32) (I : Mem) : Option Mem :=
  bnd (fX6_sideOf x2 I) fun v_2 =>
  chk (inb v_2 2) <|
  bnd (asA (fin 64 (ix v_2))) fun a9_4 =>
  if x2 ≤ (999 : Int32) then
  (bnd (asH (dec (I 63 0))) fun b9_5 =>
  bnd2 (fX10_onward 69 b9_5 x1 I) fun v_7 I_8 =>
  jX6_spread_34 a9_4 x1 x2 v_7 I_8)
  else
  (jX6_spread_34 a9_4 x1 x2 (0 : Int32) I)
set_option maxRecDepth 20000 in
theorem gX6_spread (E : EV) (d : Nat) (x1 : Int32) (x2 : Int32) (I : Mem) {J : Mem} (hf : fX6_spread x1 x2 I = some J) : Gm E (d + 3) kX6_spread [.ref 63, .int x1, .int x2] I (none, J) := by
  refine (fun (y : Mem) (hf : fX6_spread x1 x2 I = some y) => (?_ : Gm E (d + 3) kX6_spread [.ref 63, .int x1, .int x2] I (none, y))) J hf
  refine Gm.of (by decide) rfl (Nat.le_of_ble_eq_true rfl) ?_
  generalize hrr : ((none, y) : Option Value × Mem) = rr
  show G E (d + 3) kX6_spread 0 [some (.ref 63), some (.int x1), some (.int x2), none, none, none, none] [] I rr
  have hK : (fun (z : Mem) => ((none : Option Value), z) = rr) y := hrr
  clear hrr
  unfold fX6_spread at hf
  refine G.aload_n dX6_spread_0 rfl rfl ?_
  refine G.getR (q := 64) dX6_spread_1 flX6_11 (by decide) rfl rfl ?_
  refine G.aload_n dX6_spread_4 rfl rfl ?_
  refine G.iload_n dX6_spread_5 rfl rfl ?_
  obtain ⟨v_2, hc_1, hf⟩ := bnd_at hf
  refine G.callVi (av := [.int x2]) (rest := [.ref 64]) dX6_spread_6 mvX6_70 (gX6_sideOf E (d + 1) x2 I hc_1) (by decide) rfl rfl rfl (Nat.le_of_ble_eq_true rfl) ?_
  obtain ⟨hi_3, hf⟩ := chk_at hf
  obtain ⟨a9_4, ha9_4a, hf⟩ := bnd_at hf
  obtain ⟨ha9_4d, ha9_4⟩ := asA_at ha9_4a
  refine G.aaldA (q := a9_4) dX6_spread_9 (by decide) rfl hi_3 ha9_4d ?_
  refine G.astore_n (L' := [some (.ref 63), some (.int x1), some (.int x2), some (.ref a9_4), none, none, none]) dX6_spread_10 rfl (Nat.le_of_ble_eq_true rfl) (Nat.le_of_ble_eq_true rfl) rfl rfl ?_
  refine G.iload_n dX6_spread_11 rfl rfl ?_
  refine G.sipush (v := 999) dX6_spread_12 (by decide) ?_
  refine G.icmp_le (tgt := 22) dX6_spread_15 (by decide) (fun c_25 => ?_) (fun c_25 => ?_)
  · have hf := ite_t hf c_25
    refine G.aload_n dX6_spread_22 rfl rfl ?_
    refine G.getR (q := 69) dX6_spread_23 flX6_26 (by decide) rfl rfl ?_
    refine G.aload_n dX6_spread_26 rfl rfl ?_
    obtain ⟨b9_5, hb9_5a, hf⟩ := bnd_at hf
    obtain ⟨hb9_5d, hb9_5⟩ := asH_at hb9_5a
    refine G.getM (q := b9_5) dX6_spread_27 flX6_30 (by decide) rfl hb9_5d ?_
    refine G.iload_n dX6_spread_30 rfl rfl ?_
    obtain ⟨v_7, I_8, hc_6, hf⟩ := bnd2_at hf
    refine G.callVi (av := [.ref b9_5, .int x1]) (rest := []) dX6_spread_31 mvX6_74 (gX10_onward E d 69 b9_5 x1 I (by unfold isW; decide) hb9_5 hc_6) (by decide) rfl rfl rfl (Nat.le_of_ble_eq_true rfl) ?_
    exact tX6_spread_34 E d rr a9_4 x1 x2 v_7 I_8 ha9_4 _ hf hK
  · have hf := ite_f hf c_25
    refine G.iconst (v := 0) dX6_spread_18 (by decide) ?_
    refine G.goto (tgt := 34) dX6_spread_19 (by decide) ?_
    exact tX6_spread_34 E d rr a9_4 x1 x2 (0 : Int32) I ha9_4 _ hf hK
theorem dX6_beatsTo_0 : decode cX6_beatsTo 0 = .ok (.aload_n 0, 1) := by decide +kernel
theorem dX6_beatsTo_1 : decode cX6_beatsTo 1 = .ok (.aload_n 1, 1) := by decide +kernel
theorem dX6_beatsTo_2 : decode cX6_beatsTo 2 = .ok (.putfield 30, 3) := by decide +kernel
theorem dX6_beatsTo_5 : decode cX6_beatsTo 5 = .ok (.aload_n 0, 1) := by decide +kernel
theorem dX6_beatsTo_6 : decode cX6_beatsTo 6 = .ok (.aload_n 2, 1) := by decide +kernel
theorem dX6_beatsTo_7 : decode cX6_beatsTo 7 = .ok (.putfield 34, 3) := by decide +kernel
theorem dX6_beatsTo_10 : decode cX6_beatsTo 10 = .ok (.aload_n 1, 1) := by decide +kernel
theorem dX6_beatsTo_11 : decode cX6_beatsTo 11 = .ok (.aload_n 0, 1) := by decide +kernel
theorem dX6_beatsTo_12 : decode cX6_beatsTo 12 = .ok (.getfield 20, 3) := by decide +kernel
theorem dX6_beatsTo_15 : decode cX6_beatsTo 15 = .ok (.aload_n 0, 1) := by decide +kernel
theorem dX6_beatsTo_16 : decode cX6_beatsTo 16 = .ok (.getfield 26, 3) := by decide +kernel
theorem dX6_beatsTo_19 : decode cX6_beatsTo 19 = .ok (.invokevirtual 38, 3) := by decide +kernel
theorem dX6_beatsTo_22 : decode cX6_beatsTo 22 = .ok (.aload_n 0, 1) := by decide +kernel
theorem dX6_beatsTo_23 : decode cX6_beatsTo 23 = .ok (.getfield 11, 3) := by decide +kernel
theorem dX6_beatsTo_26 : decode cX6_beatsTo 26 = .ok (.iconst 0, 1) := by decide +kernel
theorem dX6_beatsTo_27 : decode cX6_beatsTo 27 = .ok (.aaload, 1) := by decide +kernel
theorem dX6_beatsTo_28 : decode cX6_beatsTo 28 = .ok (.iconst (-1), 1) := by decide +kernel
theorem dX6_beatsTo_29 : decode cX6_beatsTo 29 = .ok (.invokestatic 44, 3) := by decide +kernel
theorem dX6_beatsTo_32 : decode cX6_beatsTo 32 = .ok (.aload_n 0, 1) := by decide +kernel
theorem dX6_beatsTo_33 : decode cX6_beatsTo 33 = .ok (.getfield 11, 3) := by decide +kernel
theorem dX6_beatsTo_36 : decode cX6_beatsTo 36 = .ok (.iconst 1, 1) := by decide +kernel
theorem dX6_beatsTo_37 : decode cX6_beatsTo 37 = .ok (.aaload, 1) := by decide +kernel
theorem dX6_beatsTo_38 : decode cX6_beatsTo 38 = .ok (.iconst (-1), 1) := by decide +kernel
theorem dX6_beatsTo_39 : decode cX6_beatsTo 39 = .ok (.invokestatic 44, 3) := by decide +kernel
theorem dX6_beatsTo_42 : decode cX6_beatsTo 42 = .ok (.aload_n 0, 1) := by decide +kernel
theorem dX6_beatsTo_43 : decode cX6_beatsTo 43 = .ok (.iconst 0, 1) := by decide +kernel
theorem dX6_beatsTo_44 : decode cX6_beatsTo 44 = .ok (.putfield 50, 3) := by decide +kernel
theorem dX6_beatsTo_47 : decode cX6_beatsTo 47 = .ok (.aload_n 0, 1) := by decide +kernel
theorem dX6_beatsTo_48 : decode cX6_beatsTo 48 = .ok (.aload_n 1, 1) := by decide +kernel
theorem dX6_beatsTo_49 : decode cX6_beatsTo 49 = .ok (.getfield 54, 3) := by decide +kernel
theorem dX6_beatsTo_52 : decode cX6_beatsTo 52 = .ok (.iconst 0, 1) := by decide +kernel
theorem dX6_beatsTo_53 : decode cX6_beatsTo 53 = .ok (.invokevirtual 57, 3) := by decide +kernel
theorem dX6_beatsTo_56 : decode cX6_beatsTo 56 = .ok (.iconst 0, 1) := by decide +kernel
theorem dX6_beatsTo_57 : decode cX6_beatsTo 57 = .ok (.istore 4, 2) := by decide +kernel
theorem dX6_beatsTo_59 : decode cX6_beatsTo 59 = .ok (.iload 4, 2) := by decide +kernel
theorem dX6_beatsTo_61 : decode cX6_beatsTo 61 = .ok (.aload_n 0, 1) := by decide +kernel
theorem dX6_beatsTo_62 : decode cX6_beatsTo 62 = .ok (.getfield 50, 3) := by decide +kernel
theorem dX6_beatsTo_65 : decode cX6_beatsTo 65 = .ok (.if_icmp .ge 88, 3) := by decide +kernel
theorem dX6_beatsTo_68 : decode cX6_beatsTo 68 = .ok (.iload 4, 2) := by decide +kernel
theorem dX6_beatsTo_70 : decode cX6_beatsTo 70 = .ok (.aload_n 0, 1) := by decide +kernel
theorem dX6_beatsTo_71 : decode cX6_beatsTo 71 = .ok (.getfield 16, 3) := by decide +kernel
theorem dX6_beatsTo_74 : decode cX6_beatsTo 74 = .ok (.arraylength, 1) := by decide +kernel
theorem dX6_beatsTo_75 : decode cX6_beatsTo 75 = .ok (.if_icmp .ge 78, 3) := by decide +kernel
theorem dX6_beatsTo_78 : decode cX6_beatsTo 78 = .ok (.aload_n 0, 1) := by decide +kernel
theorem dX6_beatsTo_79 : decode cX6_beatsTo 79 = .ok (.getfield 11, 3) := by decide +kernel
theorem dX6_beatsTo_82 : decode cX6_beatsTo 82 = .ok (.iconst 0, 1) := by decide +kernel
theorem dX6_beatsTo_83 : decode cX6_beatsTo 83 = .ok (.aaload, 1) := by decide +kernel
theorem dX6_beatsTo_84 : decode cX6_beatsTo 84 = .ok (.iload_n 3, 1) := by decide +kernel
theorem dX6_beatsTo_85 : decode cX6_beatsTo 85 = .ok (.iaload, 1) := by decide +kernel
theorem dX6_beatsTo_86 : decode cX6_beatsTo 86 = .ok (.aload_n 0, 1) := by decide +kernel
theorem dX6_beatsTo_87 : decode cX6_beatsTo 87 = .ok (.getfield 11, 3) := by decide +kernel
theorem dX6_beatsTo_90 : decode cX6_beatsTo 90 = .ok (.iconst 1, 1) := by decide +kernel
theorem dX6_beatsTo_91 : decode cX6_beatsTo 91 = .ok (.aaload, 1) := by decide +kernel
theorem dX6_beatsTo_92 : decode cX6_beatsTo 92 = .ok (.iload_n 3, 1) := by decide +kernel
theorem dX6_beatsTo_93 : decode cX6_beatsTo 93 = .ok (.iaload, 1) := by decide +kernel
theorem dX6_beatsTo_94 : decode cX6_beatsTo 94 = .ok (.invokestatic 61, 3) := by decide +kernel
theorem dX6_beatsTo_97 : decode cX6_beatsTo 97 = .ok (.istore 5, 2) := by decide +kernel
theorem dX6_beatsTo_99 : decode cX6_beatsTo 99 = .ok (.iload 5, 2) := by decide +kernel
theorem dX6_beatsTo_101 : decode cX6_beatsTo 101 = .ok (.iconst (-1), 1) := by decide +kernel
theorem dX6_beatsTo_102 : decode cX6_beatsTo 102 = .ok (.if_icmp .eq 6, 3) := by decide +kernel
theorem dX6_beatsTo_105 : decode cX6_beatsTo 105 = .ok (.iload 5, 2) := by decide +kernel
theorem dX6_beatsTo_107 : decode cX6_beatsTo 107 = .ok (.ireturn, 1) := by decide +kernel
theorem dX6_beatsTo_108 : decode cX6_beatsTo 108 = .ok (.aload_n 0, 1) := by decide +kernel
theorem dX6_beatsTo_109 : decode cX6_beatsTo 109 = .ok (.aload_n 0, 1) := by decide +kernel
theorem dX6_beatsTo_110 : decode cX6_beatsTo 110 = .ok (.getfield 16, 3) := by decide +kernel
theorem dX6_beatsTo_113 : decode cX6_beatsTo 113 = .ok (.iload 4, 2) := by decide +kernel
theorem dX6_beatsTo_115 : decode cX6_beatsTo 115 = .ok (.iaload, 1) := by decide +kernel
theorem dX6_beatsTo_116 : decode cX6_beatsTo 116 = .ok (.iconst 1, 1) := by decide +kernel
theorem dX6_beatsTo_117 : decode cX6_beatsTo 117 = .ok (.ishr, 1) := by decide +kernel
theorem dX6_beatsTo_118 : decode cX6_beatsTo 118 = .ok (.aload_n 0, 1) := by decide +kernel
theorem dX6_beatsTo_119 : decode cX6_beatsTo 119 = .ok (.getfield 11, 3) := by decide +kernel
theorem dX6_beatsTo_122 : decode cX6_beatsTo 122 = .ok (.aload_n 0, 1) := by decide +kernel
theorem dX6_beatsTo_123 : decode cX6_beatsTo 123 = .ok (.getfield 16, 3) := by decide +kernel
theorem dX6_beatsTo_126 : decode cX6_beatsTo 126 = .ok (.iload 4, 2) := by decide +kernel
theorem dX6_beatsTo_128 : decode cX6_beatsTo 128 = .ok (.iaload, 1) := by decide +kernel
theorem dX6_beatsTo_129 : decode cX6_beatsTo 129 = .ok (.iconst 1, 1) := by decide +kernel
theorem dX6_beatsTo_130 : decode cX6_beatsTo 130 = .ok (.iand, 1) := by decide +kernel
theorem dX6_beatsTo_131 : decode cX6_beatsTo 131 = .ok (.aaload, 1) := by decide +kernel
theorem dX6_beatsTo_132 : decode cX6_beatsTo 132 = .ok (.aload_n 0, 1) := by decide +kernel
theorem dX6_beatsTo_133 : decode cX6_beatsTo 133 = .ok (.getfield 16, 3) := by decide +kernel
theorem dX6_beatsTo_136 : decode cX6_beatsTo 136 = .ok (.iload 4, 2) := by decide +kernel
theorem dX6_beatsTo_138 : decode cX6_beatsTo 138 = .ok (.iaload, 1) := by decide +kernel
theorem dX6_beatsTo_139 : decode cX6_beatsTo 139 = .ok (.iconst 1, 1) := by decide +kernel
theorem dX6_beatsTo_140 : decode cX6_beatsTo 140 = .ok (.ishr, 1) := by decide +kernel
theorem dX6_beatsTo_141 : decode cX6_beatsTo 141 = .ok (.iaload, 1) := by decide +kernel
theorem dX6_beatsTo_142 : decode cX6_beatsTo 142 = .ok (.iconst 1, 1) := by decide +kernel
theorem dX6_beatsTo_143 : decode cX6_beatsTo 143 = .ok (.iadd, 1) := by decide +kernel
theorem dX6_beatsTo_144 : decode cX6_beatsTo 144 = .ok (.invokevirtual 67, 3) := by decide +kernel
theorem dX6_beatsTo_147 : decode cX6_beatsTo 147 = .ok (.iinc 4 1, 3) := by decide +kernel
theorem dX6_beatsTo_150 : decode cX6_beatsTo 150 = .ok (.goto (-91), 3) := by decide +kernel
theorem dX6_beatsTo_153 : decode cX6_beatsTo 153 = .ok (.iconst (-1), 1) := by decide +kernel
theorem dX6_beatsTo_154 : decode cX6_beatsTo 154 = .ok (.ireturn, 1) := by decide +kernel
def KX6_beatsTo_59 (E : EV) (d : Nat) (rr : Option Value × Mem) (x3 : Int32) (Kp : (Int32 × Mem) → Prop) : ((Int32 × Mem) ⊕ (Int32 × Mem)) → Prop
  | .inl q => G E (d + 4) kX6_beatsTo 59 [some (.ref 63), none, none, some (.int x3), some (.int q.1), none] [] q.2 rr
  | .inr z => Kp z
def bX6_beatsTo_59 (x3 : Int32) (x4 : Int32) (I : Mem) : Option ((Int32 × Mem) ⊕ (Int32 × Mem)) :=
  if (I 63 4) ≤ x4 then
  (some (.inr ((-1 : Int32), I)))
  else
  (if (nI 1250) ≤ x4 then
  (some (.inr ((-1 : Int32), I)))
  else
  (chk (inb (0 : Int32) 2) <|
  bnd (asA (fin 64 (ix (0 : Int32)))) fun a9_17 =>
  chk (inb x3 (ln a9_17)) <|
  chk (inb (1 : Int32) 2) <|
  bnd (asA (fin 64 (ix (1 : Int32)))) fun a9_20 =>
  chk (inb x3 (ln a9_20)) <|
  letb (if (I a9_17 (ix x3)) < (I a9_20 (ix x3)) then (I a9_20 (ix x3)) else (I a9_17 (ix x3))) fun x5_22 =>
  if x5_22 = (-1 : Int32) then
  (chk (inb x4 1250) <|
  chk (inb x4 1250) <|
  chk (inb ((I 67 (ix x4)) &&& (1 : Int32)) 2) <|
  bnd (asA (fin 64 (ix ((I 67 (ix x4)) &&& (1 : Int32))))) fun a9_26 =>
  chk (inb x4 1250) <|
  chk (inb ((I 67 (ix x4)) >>> ((1 : Int32) &&& 31)) (ln a9_26)) <|
  bnd (fX6_spread ((I 67 (ix x4)) >>> ((1 : Int32) &&& 31)) ((I a9_26 (ix ((I 67 (ix x4)) >>> ((1 : Int32) &&& 31)))) + (1 : Int32)) I) fun I_30 =>
  some (.inl ((x4 + (1 : Int32)), I_30)))
  else
  (some (.inr (x5_22, I)))))
def sX6_beatsTo_59 (x3 : Int32) (q : (Int32 × Mem)) : Option ((Int32 × Mem) ⊕ (Int32 × Mem)) := bX6_beatsTo_59 x3 q.1 q.2
set_option maxRecDepth 20000 in
theorem wX6_beatsTo_59 (E : EV) (d : Nat) (rr : Option Value × Mem) (x3 : Int32) (x4 : Int32) (I : Mem) (y : ((Int32 × Mem) ⊕ (Int32 × Mem))) (hf : bX6_beatsTo_59 x3 x4 I = some y) (hK : (KX6_beatsTo_59 E d rr x3 (fun (z : Int32 × Mem) => (some (.int z.1), z.2) = rr)) y) : G E (d + 4) kX6_beatsTo 59 [some (.ref 63), none, none, some (.int x3), some (.int x4), none] [] I rr := by
  unfold bX6_beatsTo_59 at hf
  refine G.iload dX6_beatsTo_59 rfl ?_
  refine G.aload_n dX6_beatsTo_61 rfl rfl ?_
  refine G.getI dX6_beatsTo_62 flX6_50 (by decide) rfl ?_
  refine G.icmp_ge (tgt := 153) dX6_beatsTo_65 (by decide) (fun c_33 => ?_) (fun c_33 => ?_)
  · have hf := ite_t hf c_33
    refine G.iconst (v := -1) dX6_beatsTo_153 (by decide) ?_
    have hf := Option.some.inj hf
    subst hf
    exact G.iret' dX6_beatsTo_154 rfl hK
  · have hf := ite_f hf c_33
    refine G.iload dX6_beatsTo_68 rfl ?_
    refine G.aload_n dX6_beatsTo_70 rfl rfl ?_
    refine G.getR (q := 67) dX6_beatsTo_71 flX6_16 (by decide) rfl rfl ?_
    refine G.alen (v := nI 1250) dX6_beatsTo_74 (by decide) rfl (congrArg nI rfl) ?_
    refine G.icmp_ge (tgt := 153) dX6_beatsTo_75 (by decide) (fun c_32 => ?_) (fun c_32 => ?_)
    · have hf := ite_t hf c_32
      refine G.iconst (v := -1) dX6_beatsTo_153 (by decide) ?_
      have hf := Option.some.inj hf
      subst hf
      exact G.iret' dX6_beatsTo_154 rfl hK
    · have hf := ite_f hf c_32
      refine G.aload_n dX6_beatsTo_78 rfl rfl ?_
      refine G.getR (q := 64) dX6_beatsTo_79 flX6_11 (by decide) rfl rfl ?_
      refine G.iconst (v := 0) dX6_beatsTo_82 (by decide) ?_
      obtain ⟨hi_16, hf⟩ := chk_at hf
      obtain ⟨a9_17, ha9_17a, hf⟩ := bnd_at hf
      obtain ⟨ha9_17d, ha9_17⟩ := asA_at ha9_17a
      refine G.aaldA (q := a9_17) dX6_beatsTo_83 (by decide) rfl hi_16 ha9_17d ?_
      refine G.iload_n dX6_beatsTo_84 rfl rfl ?_
      obtain ⟨hi_18, hf⟩ := chk_at hf
      refine G.iald' dX6_beatsTo_85 ha9_17.1 ha9_17.2 rfl hi_18 ?_
      refine G.aload_n dX6_beatsTo_86 rfl rfl ?_
      refine G.getR (q := 64) dX6_beatsTo_87 flX6_11 (by decide) rfl rfl ?_
      refine G.iconst (v := 1) dX6_beatsTo_90 (by decide) ?_
      obtain ⟨hi_19, hf⟩ := chk_at hf
      obtain ⟨a9_20, ha9_20a, hf⟩ := bnd_at hf
      obtain ⟨ha9_20d, ha9_20⟩ := asA_at ha9_20a
      refine G.aaldA (q := a9_20) dX6_beatsTo_91 (by decide) rfl hi_19 ha9_20d ?_
      refine G.iload_n dX6_beatsTo_92 rfl rfl ?_
      obtain ⟨hi_21, hf⟩ := chk_at hf
      refine G.iald' dX6_beatsTo_93 ha9_20.1 ha9_20.2 rfl hi_21 ?_
      refine G.mmax (rest := []) dX6_beatsTo_94 mmX6_61 (Nat.le_of_ble_eq_true rfl) ?_
      refine G.nmi (fun x5_22 e_x5_22 => ?_)
      have hf := letb_at hf e_x5_22
      clear e_x5_22
      refine G.istore (L' := [some (.ref 63), none, none, some (.int x3), some (.int x4), some (.int x5_22)]) dX6_beatsTo_97 (Nat.le_of_ble_eq_true rfl) (Nat.le_of_ble_eq_true rfl) rfl rfl ?_
      refine G.iload dX6_beatsTo_99 rfl ?_
      refine G.iconst (v := -1) dX6_beatsTo_101 (by decide) ?_
      refine G.icmp_eq (tgt := 108) dX6_beatsTo_102 (by decide) (fun c_31 => ?_) (fun c_31 => ?_)
      · have hf := ite_t hf c_31
        refine G.aload_n dX6_beatsTo_108 rfl rfl ?_
        refine G.aload_n dX6_beatsTo_109 rfl rfl ?_
        refine G.getR (q := 67) dX6_beatsTo_110 flX6_16 (by decide) rfl rfl ?_
        refine G.iload dX6_beatsTo_113 rfl ?_
        obtain ⟨hi_23, hf⟩ := chk_at hf
        refine G.iald' dX6_beatsTo_115 (by decide) rfl rfl hi_23 ?_
        refine G.iconst (v := 1) dX6_beatsTo_116 (by decide) ?_
        refine G.ishr dX6_beatsTo_117 ?_
        refine G.aload_n dX6_beatsTo_118 rfl rfl ?_
        refine G.getR (q := 64) dX6_beatsTo_119 flX6_11 (by decide) rfl rfl ?_
        refine G.aload_n dX6_beatsTo_122 rfl rfl ?_
        refine G.getR (q := 67) dX6_beatsTo_123 flX6_16 (by decide) rfl rfl ?_
        refine G.iload dX6_beatsTo_126 rfl ?_
        obtain ⟨hi_24, hf⟩ := chk_at hf
        refine G.iald' dX6_beatsTo_128 (by decide) rfl rfl hi_24 ?_
        refine G.iconst (v := 1) dX6_beatsTo_129 (by decide) ?_
        refine G.iand dX6_beatsTo_130 ?_
        obtain ⟨hi_25, hf⟩ := chk_at hf
        obtain ⟨a9_26, ha9_26a, hf⟩ := bnd_at hf
        obtain ⟨ha9_26d, ha9_26⟩ := asA_at ha9_26a
        refine G.aaldA (q := a9_26) dX6_beatsTo_131 (by decide) rfl hi_25 ha9_26d ?_
        refine G.aload_n dX6_beatsTo_132 rfl rfl ?_
        refine G.getR (q := 67) dX6_beatsTo_133 flX6_16 (by decide) rfl rfl ?_
        refine G.iload dX6_beatsTo_136 rfl ?_
        obtain ⟨hi_27, hf⟩ := chk_at hf
        refine G.iald' dX6_beatsTo_138 (by decide) rfl rfl hi_27 ?_
        refine G.iconst (v := 1) dX6_beatsTo_139 (by decide) ?_
        refine G.ishr dX6_beatsTo_140 ?_
        obtain ⟨hi_28, hf⟩ := chk_at hf
        refine G.iald' dX6_beatsTo_141 ha9_26.1 ha9_26.2 rfl hi_28 ?_
        refine G.iconst (v := 1) dX6_beatsTo_142 (by decide) ?_
        refine G.iadd dX6_beatsTo_143 ?_
        obtain ⟨I_30, hc_29, hf⟩ := bnd_at hf
        refine G.callVv (av := [.int ((I 67 (ix x4)) >>> ((1 : Int32) &&& 31)), .int ((I a9_26 (ix ((I 67 (ix x4)) >>> ((1 : Int32) &&& 31)))) + (1 : Int32))]) (rest := []) dX6_beatsTo_144 mvX6_67 (gX6_spread E d ((I 67 (ix x4)) >>> ((1 : Int32) &&& 31)) ((I a9_26 (ix ((I 67 (ix x4)) >>> ((1 : Int32) &&& 31)))) + (1 : Int32)) I hc_29) (by decide) rfl rfl rfl (Nat.le_of_ble_eq_true rfl) ?_
        refine G.inc (w := 1) (L' := [some (.ref 63), none, none, some (.int x3), some (.int (x4 + (1 : Int32))), some (.int x5_22)]) dX6_beatsTo_147 (by decide) rfl (Nat.le_of_ble_eq_true rfl) rfl rfl ?_
        refine G.goto (tgt := 59) dX6_beatsTo_150 (by decide) ?_
        have hf := Option.some.inj hf
        subst hf
        refine G.forget (L' := [some (.ref 63), none, none, some (.int x3), some (.int (x4 + (1 : Int32))), none]) [5] rfl ?_
        exact hK
      · have hf := ite_f hf c_31
        refine G.iload dX6_beatsTo_105 rfl ?_
        have hf := Option.some.inj hf
        subst hf
        exact G.iret' dX6_beatsTo_107 rfl hK
theorem lX6_beatsTo_59 (E : EV) (d : Nat) (rr : Option Value × Mem) (x3 : Int32) (z : (Int32 × Mem)) (hK : (fun (z : Int32 × Mem) => (some (.int z.1), z.2) = rr) z) : ∀ (n : Nat) (q : (Int32 × Mem)), iter (sX6_beatsTo_59 x3) n q = some z → G E (d + 4) kX6_beatsTo 59 [some (.ref 63), none, none, some (.int x3), some (.int q.1), none] [] q.2 rr := by
  intro n
  induction n with
  | zero => intro q h; cases h
  | succ n ih =>
    intro q h
    rcases iter_at h with ⟨q2, hs, h2⟩ | hs
    · exact wX6_beatsTo_59 E d rr x3 q.1 q.2 _ hs (ih q2 h2)
    · exact wX6_beatsTo_59 E d rr x3 q.1 q.2 _ hs hK
def fX6_beatsTo (b1 : Nat) (o2 : Nat) (x3 : Int32) (I : Mem) : Option (Int32 × Mem) :=
  letb (up2 I 63 0 (enc b1)) fun I_1 =>
  letb (up2 I_1 63 1 (enc o2)) fun I_2 =>
  bnd (fX4_markLone b1 68 69 I_2) fun I_4 =>
  chk (inb (0 : Int32) 2) <|
  bnd (asA (fin 64 (ix (0 : Int32)))) fun a9_6 =>
  bnd (fJ7_fill_53178 a9_6 (-1 : Int32) I_4) fun I_8 =>
  chk (inb (1 : Int32) 2) <|
  bnd (asA (fin 64 (ix (1 : Int32)))) fun a9_10 =>
  bnd (fJ7_fill_53178 a9_10 (-1 : Int32) I_8) fun I_12 =>
  letb (up2 I_12 63 4 (0 : Int32)) fun I_13 =>
  bnd (fX6_reach (I_13 b1 3) (0 : Int32) I_13) fun I_15 =>
  iter (sX6_beatsTo_59 x3) FU ((0 : Int32), I_15)
set_option maxRecDepth 20000 in
theorem gX6_beatsTo (E : EV) (d : Nat) (b1 : Nat) (o2 : Nat) (x3 : Int32) (I : Mem) (hb1 : isH b1) (ho2 : isL o2) {v : Int32} {J : Mem} (hf : fX6_beatsTo b1 o2 x3 I = some (v, J)) : Gm E (d + 4) kX6_beatsTo [.ref 63, .ref b1, .ref o2, .int x3] I (some (.int v), J) := by
  refine (fun (y : (Int32 × Mem)) (hf : fX6_beatsTo b1 o2 x3 I = some y) => (?_ : Gm E (d + 4) kX6_beatsTo [.ref 63, .ref b1, .ref o2, .int x3] I (some (.int y.1), y.2))) (v, J) hf
  refine Gm.of (by decide) rfl (Nat.le_of_ble_eq_true rfl) ?_
  generalize hrr : ((some (.int y.1), y.2) : Option Value × Mem) = rr
  show G E (d + 4) kX6_beatsTo 0 [some (.ref 63), some (.ref b1), some (.ref o2), some (.int x3), none, none] [] I rr
  have hK : (fun (z : Int32 × Mem) => (some (.int z.1), z.2) = rr) y := hrr
  clear hrr
  unfold fX6_beatsTo at hf
  refine G.aload_n dX6_beatsTo_0 rfl rfl ?_
  refine G.aload_n dX6_beatsTo_1 rfl rfl ?_
  refine G.putM dX6_beatsTo_2 flX6_30 (by decide) rfl (isH_lt hb1) ?_
  refine G.nmI (fun I_1 e_I_1 => ?_)
  have hf := letb_at hf e_I_1
  clear e_I_1
  refine G.aload_n dX6_beatsTo_5 rfl rfl ?_
  refine G.aload_n dX6_beatsTo_6 rfl rfl ?_
  refine G.putM dX6_beatsTo_7 flX6_34 (by decide) rfl (isL_lt ho2) ?_
  refine G.nmI (fun I_2 e_I_2 => ?_)
  have hf := letb_at hf e_I_2
  clear e_I_2
  refine G.aload_n dX6_beatsTo_10 rfl rfl ?_
  refine G.aload_n dX6_beatsTo_11 rfl rfl ?_
  refine G.getR (q := 68) dX6_beatsTo_12 flX6_20 (by decide) rfl rfl ?_
  refine G.aload_n dX6_beatsTo_15 rfl rfl ?_
  refine G.getR (q := 69) dX6_beatsTo_16 flX6_26 (by decide) rfl rfl ?_
  obtain ⟨I_4, hc_3, hf⟩ := bnd_at hf
  refine G.callVv (av := [.ref 68, .ref 69]) (rest := []) dX6_beatsTo_19 mvX6_38 (gX4_markLone E d b1 68 69 I_2 hb1 ⟨by decide, rfl⟩ (by unfold isW; decide) hc_3) (isH_lt hb1) (isH_lk hb1) rfl rfl (Nat.le_of_ble_eq_true rfl) ?_
  refine G.aload_n dX6_beatsTo_22 rfl rfl ?_
  refine G.getR (q := 64) dX6_beatsTo_23 flX6_11 (by decide) rfl rfl ?_
  refine G.iconst (v := 0) dX6_beatsTo_26 (by decide) ?_
  obtain ⟨hi_5, hf⟩ := chk_at hf
  obtain ⟨a9_6, ha9_6a, hf⟩ := bnd_at hf
  obtain ⟨ha9_6d, ha9_6⟩ := asA_at ha9_6a
  refine G.aaldA (q := a9_6) dX6_beatsTo_27 (by decide) rfl hi_5 ha9_6d ?_
  refine G.iconst (v := -1) dX6_beatsTo_28 (by decide) ?_
  obtain ⟨I_8, hc_7, hf⟩ := bnd_at hf
  refine G.callSv (av := [.ref a9_6, .int (-1 : Int32)]) (rest := []) dX6_beatsTo_29 msX6_44 (gJ7_fill_53178 E (d + 3) a9_6 (-1 : Int32) I_4 ha9_6 hc_7) rfl rfl (Nat.le_of_ble_eq_true rfl) ?_
  refine G.aload_n dX6_beatsTo_32 rfl rfl ?_
  refine G.getR (q := 64) dX6_beatsTo_33 flX6_11 (by decide) rfl rfl ?_
  refine G.iconst (v := 1) dX6_beatsTo_36 (by decide) ?_
  obtain ⟨hi_9, hf⟩ := chk_at hf
  obtain ⟨a9_10, ha9_10a, hf⟩ := bnd_at hf
  obtain ⟨ha9_10d, ha9_10⟩ := asA_at ha9_10a
  refine G.aaldA (q := a9_10) dX6_beatsTo_37 (by decide) rfl hi_9 ha9_10d ?_
  refine G.iconst (v := -1) dX6_beatsTo_38 (by decide) ?_
  obtain ⟨I_12, hc_11, hf⟩ := bnd_at hf
  refine G.callSv (av := [.ref a9_10, .int (-1 : Int32)]) (rest := []) dX6_beatsTo_39 msX6_44 (gJ7_fill_53178 E (d + 3) a9_10 (-1 : Int32) I_8 ha9_10 hc_11) rfl rfl (Nat.le_of_ble_eq_true rfl) ?_
  refine G.aload_n dX6_beatsTo_42 rfl rfl ?_
  refine G.iconst (v := 0) dX6_beatsTo_43 (by decide) ?_
  refine G.putI dX6_beatsTo_44 flX6_50 (by decide) rfl ?_
  refine G.nmI (fun I_13 e_I_13 => ?_)
  have hf := letb_at hf e_I_13
  clear e_I_13
  refine G.aload_n dX6_beatsTo_47 rfl rfl ?_
  refine G.aload_n dX6_beatsTo_48 rfl rfl ?_
  refine G.getI dX6_beatsTo_49 flX6_54 (isH_lt hb1) (isH_lk hb1) ?_
  refine G.iconst (v := 0) dX6_beatsTo_52 (by decide) ?_
  obtain ⟨I_15, hc_14, hf⟩ := bnd_at hf
  refine G.callVv (av := [.int (I_13 b1 3), .int (0 : Int32)]) (rest := []) dX6_beatsTo_53 mvX6_57 (gX6_reach E (d + 1) (I_13 b1 3) (0 : Int32) I_13 hc_14) (by decide) rfl rfl rfl (Nat.le_of_ble_eq_true rfl) ?_
  refine G.iconst (v := 0) dX6_beatsTo_56 (by decide) ?_
  refine G.istore (L' := [some (.ref 63), some (.ref b1), some (.ref o2), some (.int x3), some (.int (0 : Int32)), none]) dX6_beatsTo_57 (Nat.le_of_ble_eq_true rfl) (Nat.le_of_ble_eq_true rfl) rfl rfl ?_
  refine G.forget (L' := [some (.ref 63), none, none, some (.int x3), some (.int (0 : Int32)), none]) [1, 2] rfl ?_
  exact lX6_beatsTo_59 E d rr x3 _ hK FU _ hf
theorem dX9_go_0 : decode cX9_go 0 = .ok (.iload_n 2, 1) := by decide +kernel
theorem dX9_go_1 : decode cX9_go 1 = .ok (.aload_n 0, 1) := by decide +kernel
theorem dX9_go_2 : decode cX9_go 2 = .ok (.getfield 28, 3) := by decide +kernel
theorem dX9_go_5 : decode cX9_go 5 = .ok (.if_icmp .le 4, 3) := by decide +kernel
theorem dX9_go_8 : decode cX9_go 8 = .ok (.return_, 1) := by decide +kernel
theorem dX9_go_9 : decode cX9_go 9 = .ok (.iload_n 3, 1) := by decide +kernel
theorem dX9_go_10 : decode cX9_go 10 = .ok (.iload_n 1, 1) := by decide +kernel
theorem dX9_go_11 : decode cX9_go 11 = .ok (.invokestatic 39, 3) := by decide +kernel
theorem dX9_go_14 : decode cX9_go 14 = .ok (.ifCond .eq 8, 3) := by decide +kernel
theorem dX9_go_17 : decode cX9_go 17 = .ok (.iload 4, 2) := by decide +kernel
theorem dX9_go_19 : decode cX9_go 19 = .ok (.goto 15, 3) := by decide +kernel
theorem dX9_go_22 : decode cX9_go 22 = .ok (.iload 4, 2) := by decide +kernel
theorem dX9_go_24 : decode cX9_go 24 = .ok (.aload_n 0, 1) := by decide +kernel
theorem dX9_go_25 : decode cX9_go 25 = .ok (.getfield 18, 3) := by decide +kernel
theorem dX9_go_28 : decode cX9_go 28 = .ok (.getfield 43, 3) := by decide +kernel
theorem dX9_go_31 : decode cX9_go 31 = .ok (.iload_n 1, 1) := by decide +kernel
theorem dX9_go_32 : decode cX9_go 32 = .ok (.iaload, 1) := by decide +kernel
theorem dX9_go_33 : decode cX9_go 33 = .ok (.iadd, 1) := by decide +kernel
theorem dX9_go_34 : decode cX9_go 34 = .ok (.istore 5, 2) := by decide +kernel
theorem dX9_go_36 : decode cX9_go 36 = .ok (.aload_n 0, 1) := by decide +kernel
theorem dX9_go_37 : decode cX9_go 37 = .ok (.getfield 15, 3) := by decide +kernel
theorem dX9_go_40 : decode cX9_go 40 = .ok (.iload_n 2, 1) := by decide +kernel
theorem dX9_go_41 : decode cX9_go 41 = .ok (.iload_n 1, 1) := by decide +kernel
theorem dX9_go_42 : decode cX9_go 42 = .ok (.iastore, 1) := by decide +kernel
theorem dX9_go_43 : decode cX9_go 43 = .ok (.iload 5, 2) := by decide +kernel
theorem dX9_go_45 : decode cX9_go 45 = .ok (.aload_n 0, 1) := by decide +kernel
theorem dX9_go_46 : decode cX9_go 46 = .ok (.getfield 32, 3) := by decide +kernel
theorem dX9_go_49 : decode cX9_go 49 = .ok (.if_icmp .gt 20, 3) := by decide +kernel
theorem dX9_go_52 : decode cX9_go 52 = .ok (.iload 5, 2) := by decide +kernel
theorem dX9_go_54 : decode cX9_go 54 = .ok (.aload_n 0, 1) := by decide +kernel
theorem dX9_go_55 : decode cX9_go 55 = .ok (.getfield 32, 3) := by decide +kernel
theorem dX9_go_58 : decode cX9_go 58 = .ok (.if_icmp .ne 38, 3) := by decide +kernel
theorem dX9_go_61 : decode cX9_go 61 = .ok (.iload_n 2, 1) := by decide +kernel
theorem dX9_go_62 : decode cX9_go 62 = .ok (.aload_n 0, 1) := by decide +kernel
theorem dX9_go_63 : decode cX9_go 63 = .ok (.getfield 48, 3) := by decide +kernel
theorem dX9_go_66 : decode cX9_go 66 = .ok (.if_icmp .ge 30, 3) := by decide +kernel
theorem dX9_go_69 : decode cX9_go 69 = .ok (.aload_n 0, 1) := by decide +kernel
theorem dX9_go_70 : decode cX9_go 70 = .ok (.iload 5, 2) := by decide +kernel
theorem dX9_go_72 : decode cX9_go 72 = .ok (.putfield 32, 3) := by decide +kernel
theorem dX9_go_75 : decode cX9_go 75 = .ok (.aload_n 0, 1) := by decide +kernel
theorem dX9_go_76 : decode cX9_go 76 = .ok (.iload_n 2, 1) := by decide +kernel
theorem dX9_go_77 : decode cX9_go 77 = .ok (.putfield 48, 3) := by decide +kernel
theorem dX9_go_80 : decode cX9_go 80 = .ok (.aload_n 0, 1) := by decide +kernel
theorem dX9_go_81 : decode cX9_go 81 = .ok (.getfield 15, 3) := by decide +kernel
theorem dX9_go_84 : decode cX9_go 84 = .ok (.iconst 0, 1) := by decide +kernel
theorem dX9_go_85 : decode cX9_go 85 = .ok (.aload_n 0, 1) := by decide +kernel
theorem dX9_go_86 : decode cX9_go 86 = .ok (.getfield 9, 3) := by decide +kernel
theorem dX9_go_89 : decode cX9_go 89 = .ok (.iconst 0, 1) := by decide +kernel
theorem dX9_go_90 : decode cX9_go 90 = .ok (.iload_n 2, 1) := by decide +kernel
theorem dX9_go_91 : decode cX9_go 91 = .ok (.iconst 1, 1) := by decide +kernel
theorem dX9_go_92 : decode cX9_go 92 = .ok (.iadd, 1) := by decide +kernel
theorem dX9_go_93 : decode cX9_go 93 = .ok (.invokestatic 51, 3) := by decide +kernel
theorem dX9_go_96 : decode cX9_go 96 = .ok (.iconst 0, 1) := by decide +kernel
theorem dX9_go_97 : decode cX9_go 97 = .ok (.istore 6, 2) := by decide +kernel
theorem dX9_go_99 : decode cX9_go 99 = .ok (.iload 6, 2) := by decide +kernel
theorem dX9_go_101 : decode cX9_go 101 = .ok (.aload_n 0, 1) := by decide +kernel
theorem dX9_go_102 : decode cX9_go 102 = .ok (.getfield 18, 3) := by decide +kernel
theorem dX9_go_105 : decode cX9_go 105 = .ok (.getfield 57, 3) := by decide +kernel
theorem dX9_go_108 : decode cX9_go 108 = .ok (.if_icmp .ge 42, 3) := by decide +kernel
theorem dX9_go_111 : decode cX9_go 111 = .ok (.aload_n 0, 1) := by decide +kernel
theorem dX9_go_112 : decode cX9_go 112 = .ok (.getfield 18, 3) := by decide +kernel
theorem dX9_go_115 : decode cX9_go 115 = .ok (.getfield 60, 3) := by decide +kernel
theorem dX9_go_118 : decode cX9_go 118 = .ok (.iload_n 1, 1) := by decide +kernel
theorem dX9_go_119 : decode cX9_go 119 = .ok (.iaload, 1) := by decide +kernel
theorem dX9_go_120 : decode cX9_go 120 = .ok (.iload 6, 2) := by decide +kernel
theorem dX9_go_122 : decode cX9_go 122 = .ok (.invokestatic 39, 3) := by decide +kernel
theorem dX9_go_125 : decode cX9_go 125 = .ok (.ifCond .eq 19, 3) := by decide +kernel
theorem dX9_go_128 : decode cX9_go 128 = .ok (.aload_n 0, 1) := by decide +kernel
theorem dX9_go_129 : decode cX9_go 129 = .ok (.iload 6, 2) := by decide +kernel
theorem dX9_go_131 : decode cX9_go 131 = .ok (.iload_n 2, 1) := by decide +kernel
theorem dX9_go_132 : decode cX9_go 132 = .ok (.iconst 1, 1) := by decide +kernel
theorem dX9_go_133 : decode cX9_go 133 = .ok (.iadd, 1) := by decide +kernel
theorem dX9_go_134 : decode cX9_go 134 = .ok (.iload_n 3, 1) := by decide +kernel
theorem dX9_go_135 : decode cX9_go 135 = .ok (.iconst 1, 1) := by decide +kernel
theorem dX9_go_136 : decode cX9_go 136 = .ok (.iload_n 1, 1) := by decide +kernel
theorem dX9_go_137 : decode cX9_go 137 = .ok (.ishl, 1) := by decide +kernel
theorem dX9_go_138 : decode cX9_go 138 = .ok (.ior, 1) := by decide +kernel
theorem dX9_go_139 : decode cX9_go 139 = .ok (.iload 5, 2) := by decide +kernel
theorem dX9_go_141 : decode cX9_go 141 = .ok (.invokestatic 35, 3) := by decide +kernel
theorem dX9_go_144 : decode cX9_go 144 = .ok (.iinc 6 1, 3) := by decide +kernel
theorem dX9_go_147 : decode cX9_go 147 = .ok (.goto (-48), 3) := by decide +kernel
theorem dX9_go_150 : decode cX9_go 150 = .ok (.return_, 1) := by decide +kernel
def KX9_go_99 (E : EV) (d : Nat) (rr : Option Value × Mem) (rec : Int32 → Int32 → Int32 → Int32 → Mem → Option Mem) (x1 : Int32) (x2 : Int32) (x3 : Int32) (x5 : Int32) (Kp : Mem → Prop) : ((Int32 × Mem) ⊕ Mem) → Prop
  | .inl q => G E (d + 1) kX9_go 99 [some (.ref 71), some (.int x1), some (.int x2), some (.int x3), none, some (.int x5), some (.int q.1)] [] q.2 rr
  | .inr z => Kp z
def bX9_go_99 (rec : Int32 → Int32 → Int32 → Int32 → Mem → Option Mem) (x1 : Int32) (x2 : Int32) (x3 : Int32) (x5 : Int32) (x6 : Int32) (I : Mem) : Option ((Int32 × Mem) ⊕ Mem) :=
  bnd (asH (dec (I 71 3))) fun b9_11 =>
  if (I b9_11 0) ≤ x6 then
  (some (.inr I))
  else
  (bnd (asH (dec (I 71 3))) fun b9_12 =>
  chk (inb x1 5) <|
  bnd (fX11_has (I (b9_12 + 1) (ix x1)) x6 I) fun v_15 =>
  if v_15 = 0 then
  (some (.inl ((x6 + (1 : Int32)), I)))
  else
  (bnd (rec x6 (x2 + (1 : Int32)) (x3 ||| ((1 : Int32) <<< (x1 &&& 31))) x5 I) fun I_16 =>
  some (.inl ((x6 + (1 : Int32)), I_16))))
def sX9_go_99 (rec : Int32 → Int32 → Int32 → Int32 → Mem → Option Mem) (x1 : Int32) (x2 : Int32) (x3 : Int32) (x5 : Int32) (q : (Int32 × Mem)) : Option ((Int32 × Mem) ⊕ Mem) := bX9_go_99 rec x1 x2 x3 x5 q.1 q.2
set_option maxRecDepth 20000 in
theorem wX9_go_99 (E : EV) (d : Nat) (rr : Option Value × Mem) (rec : Int32 → Int32 → Int32 → Int32 → Mem → Option Mem) (x1 : Int32) (x2 : Int32) (x3 : Int32) (x5 : Int32) (x6 : Int32) (I : Mem) (hrec : ∀ (x1 x2 x3 x4 : Int32) (I J : Mem), rec x1 x2 x3 x4 I = some J → Gm E d kX9_go [.ref 71, .int x1, .int x2, .int x3, .int x4] I (none, J)) (y : ((Int32 × Mem) ⊕ Mem)) (hf : bX9_go_99 rec x1 x2 x3 x5 x6 I = some y) (hK : (KX9_go_99 E d rr rec x1 x2 x3 x5 (fun (z : Mem) => ((none : Option Value), z) = rr)) y) : G E (d + 1) kX9_go 99 [some (.ref 71), some (.int x1), some (.int x2), some (.int x3), none, some (.int x5), some (.int x6)] [] I rr := by
  unfold bX9_go_99 at hf
  refine G.iload dX9_go_99 rfl ?_
  refine G.aload_n dX9_go_101 rfl rfl ?_
  obtain ⟨b9_11, hb9_11a, hf⟩ := bnd_at hf
  obtain ⟨hb9_11d, hb9_11⟩ := asH_at hb9_11a
  refine G.getM (q := b9_11) dX9_go_102 flX9_18 (by decide) rfl hb9_11d ?_
  refine G.getI dX9_go_105 flX9_57 (isH_lt hb9_11) (isH_lk hb9_11) ?_
  refine G.icmp_ge (tgt := 150) dX9_go_108 (by decide) (fun c_19 => ?_) (fun c_19 => ?_)
  · have hf := ite_t hf c_19
    have hf := Option.some.inj hf
    subst hf
    exact G.vret' dX9_go_150 rfl hK
  · have hf := ite_f hf c_19
    refine G.aload_n dX9_go_111 rfl rfl ?_
    obtain ⟨b9_12, hb9_12a, hf⟩ := bnd_at hf
    obtain ⟨hb9_12d, hb9_12⟩ := asH_at hb9_12a
    refine G.getM (q := b9_12) dX9_go_112 flX9_18 (by decide) rfl hb9_12d ?_
    refine G.getR (q := (b9_12 + 1)) dX9_go_115 flX9_60 (isH_lt hb9_12) (isH_lk hb9_12) (isH_r1 hb9_12) ?_
    refine G.iload_n dX9_go_118 rfl rfl ?_
    obtain ⟨hi_13, hf⟩ := chk_at hf
    refine G.iald' dX9_go_119 (isH_l1 hb9_12) (isH_k1 hb9_12) (isH_n1 hb9_12) hi_13 ?_
    refine G.iload dX9_go_120 rfl ?_
    obtain ⟨v_15, hc_14, hf⟩ := bnd_at hf
    refine G.callNi (av := [.int (I (b9_12 + 1) (ix x1)), .int x6]) (rest := []) dX9_go_122 mnX9_39 (gX11_has E d (I (b9_12 + 1) (ix x1)) x6 I hc_14) rfl rfl (Nat.le_of_ble_eq_true rfl) ?_
    refine G.if_eq (tgt := 144) dX9_go_125 (by decide) (fun c_18 => ?_) (fun c_18 => ?_)
    · have hf := ite_t hf c_18
      refine G.inc (w := 1) (L' := [some (.ref 71), some (.int x1), some (.int x2), some (.int x3), none, some (.int x5), some (.int (x6 + (1 : Int32)))]) dX9_go_144 (by decide) rfl (Nat.le_of_ble_eq_true rfl) rfl rfl ?_
      refine G.goto (tgt := 99) dX9_go_147 (by decide) ?_
      have hf := Option.some.inj hf
      subst hf
      exact hK
    · have hf := ite_f hf c_18
      refine G.aload_n dX9_go_128 rfl rfl ?_
      refine G.iload dX9_go_129 rfl ?_
      refine G.iload_n dX9_go_131 rfl rfl ?_
      refine G.iconst (v := 1) dX9_go_132 (by decide) ?_
      refine G.iadd dX9_go_133 ?_
      refine G.iload_n dX9_go_134 rfl rfl ?_
      refine G.iconst (v := 1) dX9_go_135 (by decide) ?_
      refine G.iload_n dX9_go_136 rfl rfl ?_
      refine G.ishl dX9_go_137 ?_
      refine G.ior dX9_go_138 ?_
      refine G.iload dX9_go_139 rfl ?_
      obtain ⟨I_16, hc_17, hf⟩ := bnd_at hf
      refine G.callSv (av := [.ref 71, .int x6, .int (x2 + (1 : Int32)), .int (x3 ||| ((1 : Int32) <<< (x1 &&& 31))), .int x5]) (rest := []) dX9_go_141 msX9_35 (hrec x6 (x2 + (1 : Int32)) (x3 ||| ((1 : Int32) <<< (x1 &&& 31))) x5 I I_16 hc_17) rfl rfl (Nat.le_of_ble_eq_true rfl) ?_
      refine G.inc (w := 1) (L' := [some (.ref 71), some (.int x1), some (.int x2), some (.int x3), none, some (.int x5), some (.int (x6 + (1 : Int32)))]) dX9_go_144 (by decide) rfl (Nat.le_of_ble_eq_true rfl) rfl rfl ?_
      refine G.goto (tgt := 99) dX9_go_147 (by decide) ?_
      have hf := Option.some.inj hf
      subst hf
      exact hK
theorem lX9_go_99 (E : EV) (d : Nat) (rr : Option Value × Mem) (rec : Int32 → Int32 → Int32 → Int32 → Mem → Option Mem) (x1 : Int32) (x2 : Int32) (x3 : Int32) (x5 : Int32) (hrec : ∀ (x1 x2 x3 x4 : Int32) (I J : Mem), rec x1 x2 x3 x4 I = some J → Gm E d kX9_go [.ref 71, .int x1, .int x2, .int x3, .int x4] I (none, J)) (z : Mem) (hK : (fun (z : Mem) => ((none : Option Value), z) = rr) z) : ∀ (n : Nat) (q : (Int32 × Mem)), iter (sX9_go_99 rec x1 x2 x3 x5) n q = some z → G E (d + 1) kX9_go 99 [some (.ref 71), some (.int x1), some (.int x2), some (.int x3), none, some (.int x5), some (.int q.1)] [] q.2 rr := by
  intro n
  induction n with
  | zero => intro q h; cases h
  | succ n ih =>
    intro q h
    rcases iter_at h with ⟨q2, hs, h2⟩ | hs
    · exact wX9_go_99 E d rr rec x1 x2 x3 x5 q.1 q.2 hrec _ hs (ih q2 h2)
    · exact wX9_go_99 E d rr rec x1 x2 x3 x5 q.1 q.2 hrec _ hs hK
def jX9_go_96 (rec : Int32 → Int32 → Int32 → Int32 → Mem → Option Mem) (x1 : Int32) (x2 : Int32) (x3 : Int32) (x5 : Int32) (I : Mem) : Option Mem :=
  iter (sX9_go_99 rec x1 x2 x3 x5) FU ((0 : Int32), I)
set_option maxRecDepth 20000 in
theorem tX9_go_96 (E : EV) (d : Nat) (rr : Option Value × Mem) (rec : Int32 → Int32 → Int32 → Int32 → Mem → Option Mem) (x1 : Int32) (x2 : Int32) (x3 : Int32) (x5 : Int32) (I : Mem) (hrec : ∀ (x1 x2 x3 x4 : Int32) (I J : Mem), rec x1 x2 x3 x4 I = some J → Gm E d kX9_go [.ref 71, .int x1, .int x2, .int x3, .int x4] I (none, J)) (y : Mem) (hf : jX9_go_96 rec x1 x2 x3 x5 I = some y) (hK : (fun (z : Mem) => ((none : Option Value), z) = rr) y) : G E (d + 1) kX9_go 96 [some (.ref 71), some (.int x1), some (.int x2), some (.int x3), none, some (.int x5), none] [] I rr := by
  unfold jX9_go_96 at hf
  refine G.iconst (v := 0) dX9_go_96 (by decide) ?_
  refine G.istore (L' := [some (.ref 71), some (.int x1), some (.int x2), some (.int x3), none, some (.int x5), some (.int (0 : Int32))]) dX9_go_97 (Nat.le_of_ble_eq_true rfl) (Nat.le_of_ble_eq_true rfl) rfl rfl ?_
  exact lX9_go_99 E d rr rec x1 x2 x3 x5 hrec _ hK FU _ hf
def jX9_go_69 (rec : Int32 → Int32 → Int32 → Int32 → Mem → Option Mem) (x1 : Int32) (x2 : Int32) (x3 : Int32) (x5 : Int32) (I : Mem) : Option Mem :=
  letb (up2 I 71 0 x5) fun I_7 =>
  letb (up2 I_7 71 1 x2) fun I_8 =>
  chk (cpok (0 : Int32) (0 : Int32) (x2 + (1 : Int32)) 7 7) <|
  letb (upA I_8 72 (cpA (I_8 73) (I_8 72) (ix (0 : Int32)) (ix (0 : Int32)) (ix (x2 + (1 : Int32))))) fun I_10 =>
  jX9_go_96 rec x1 x2 x3 x5 I_10
set_option maxRecDepth 20000 in
theorem tX9_go_69 (E : EV) (d : Nat) (rr : Option Value × Mem) (rec : Int32 → Int32 → Int32 → Int32 → Mem → Option Mem) (x1 : Int32) (x2 : Int32) (x3 : Int32) (x5 : Int32) (I : Mem) (hrec : ∀ (x1 x2 x3 x4 : Int32) (I J : Mem), rec x1 x2 x3 x4 I = some J → Gm E d kX9_go [.ref 71, .int x1, .int x2, .int x3, .int x4] I (none, J)) (y : Mem) (hf : jX9_go_69 rec x1 x2 x3 x5 I = some y) (hK : (fun (z : Mem) => ((none : Option Value), z) = rr) y) : G E (d + 1) kX9_go 69 [some (.ref 71), some (.int x1), some (.int x2), some (.int x3), none, some (.int x5), none] [] I rr := by
  unfold jX9_go_69 at hf
  refine G.aload_n dX9_go_69 rfl rfl ?_
  refine G.iload dX9_go_70 rfl ?_
  refine G.putI dX9_go_72 flX9_32 (by decide) rfl ?_
  refine G.nmI (fun I_7 e_I_7 => ?_)
  have hf := letb_at hf e_I_7
  clear e_I_7
  refine G.aload_n dX9_go_75 rfl rfl ?_
  refine G.iload_n dX9_go_76 rfl rfl ?_
  refine G.putI dX9_go_77 flX9_48 (by decide) rfl ?_
  refine G.nmI (fun I_8 e_I_8 => ?_)
  have hf := letb_at hf e_I_8
  clear e_I_8
  refine G.aload_n dX9_go_80 rfl rfl ?_
  refine G.getR (q := 73) dX9_go_81 flX9_15 (by decide) rfl rfl ?_
  refine G.iconst (v := 0) dX9_go_84 (by decide) ?_
  refine G.aload_n dX9_go_85 rfl rfl ?_
  refine G.getR (q := 72) dX9_go_86 flX9_9 (by decide) rfl rfl ?_
  refine G.iconst (v := 0) dX9_go_89 (by decide) ?_
  refine G.iload_n dX9_go_90 rfl rfl ?_
  refine G.iconst (v := 1) dX9_go_91 (by decide) ?_
  refine G.iadd dX9_go_92 ?_
  obtain ⟨hi_9, hf⟩ := chk_at hf
  refine G.acopy' (rest := []) dX9_go_93 maX9_51 (by decide) rfl rfl (by decide) rfl rfl hi_9 (Nat.le_of_ble_eq_true rfl) ?_
  refine G.nmI (fun I_10 e_I_10 => ?_)
  have hf := letb_at hf e_I_10
  clear e_I_10
  exact tX9_go_96 E d rr rec x1 x2 x3 x5 I_10 hrec _ hf hK
def jX9_go_34 (rec : Int32 → Int32 → Int32 → Int32 → Mem → Option Mem) (x1 : Int32) (x2 : Int32) (x3 : Int32) (u0 : Int32) (I : Mem) : Option Mem :=
  chk (inb x2 7) <|
  letb (up2 I 73 (ix x2) x1) fun I_6 =>
  if (I_6 71 0) < u0 then
  (jX9_go_69 rec x1 x2 x3 u0 I_6)
  else
  (if u0 = (I_6 71 0) then
  (if (I_6 71 1) ≤ x2 then
  (jX9_go_96 rec x1 x2 x3 u0 I_6)
  else
  (jX9_go_69 rec x1 x2 x3 u0 I_6))
  else
  (jX9_go_96 rec x1 x2 x3 u0 I_6))
set_option maxRecDepth 20000 in
theorem tX9_go_34 (E : EV) (d : Nat) (rr : Option Value × Mem) (rec : Int32 → Int32 → Int32 → Int32 → Mem → Option Mem) (x1 : Int32) (x2 : Int32) (x3 : Int32) (u0 : Int32) (I : Mem) (hrec : ∀ (x1 x2 x3 x4 : Int32) (I J : Mem), rec x1 x2 x3 x4 I = some J → Gm E d kX9_go [.ref 71, .int x1, .int x2, .int x3, .int x4] I (none, J)) (y : Mem) (hf : jX9_go_34 rec x1 x2 x3 u0 I = some y) (hK : (fun (z : Mem) => ((none : Option Value), z) = rr) y) : G E (d + 1) kX9_go 34 [some (.ref 71), some (.int x1), some (.int x2), some (.int x3), none, none, none] [.int u0] I rr := by
  unfold jX9_go_34 at hf
  refine G.istore (L' := [some (.ref 71), some (.int x1), some (.int x2), some (.int x3), none, some (.int u0), none]) dX9_go_34 (Nat.le_of_ble_eq_true rfl) (Nat.le_of_ble_eq_true rfl) rfl rfl ?_
  refine G.aload_n dX9_go_36 rfl rfl ?_
  refine G.getR (q := 73) dX9_go_37 flX9_15 (by decide) rfl rfl ?_
  refine G.iload_n dX9_go_40 rfl rfl ?_
  refine G.iload_n dX9_go_41 rfl rfl ?_
  obtain ⟨hi_5, hf⟩ := chk_at hf
  refine G.iast' dX9_go_42 (by decide) rfl rfl hi_5 ?_
  refine G.nmI (fun I_6 e_I_6 => ?_)
  have hf := letb_at hf e_I_6
  clear e_I_6
  refine G.iload dX9_go_43 rfl ?_
  refine G.aload_n dX9_go_45 rfl rfl ?_
  refine G.getI dX9_go_46 flX9_32 (by decide) rfl ?_
  refine G.icmp_gt (tgt := 69) dX9_go_49 (by decide) (fun c_22 => ?_) (fun c_22 => ?_)
  · have hf := ite_t hf c_22
    exact tX9_go_69 E d rr rec x1 x2 x3 u0 I_6 hrec _ hf hK
  · have hf := ite_f hf c_22
    refine G.iload dX9_go_52 rfl ?_
    refine G.aload_n dX9_go_54 rfl rfl ?_
    refine G.getI dX9_go_55 flX9_32 (by decide) rfl ?_
    refine G.icmp_ne (tgt := 96) dX9_go_58 (by decide) (fun c_21 => ?_) (fun c_21 => ?_)
    · have hf := ite_f hf c_21
      exact tX9_go_96 E d rr rec x1 x2 x3 u0 I_6 hrec _ hf hK
    · have hf := ite_t hf c_21
      refine G.iload_n dX9_go_61 rfl rfl ?_
      refine G.aload_n dX9_go_62 rfl rfl ?_
      refine G.getI dX9_go_63 flX9_48 (by decide) rfl ?_
      refine G.icmp_ge (tgt := 96) dX9_go_66 (by decide) (fun c_20 => ?_) (fun c_20 => ?_)
      · have hf := ite_t hf c_20
        exact tX9_go_96 E d rr rec x1 x2 x3 u0 I_6 hrec _ hf hK
      · have hf := ite_f hf c_20
        exact tX9_go_69 E d rr rec x1 x2 x3 u0 I_6 hrec _ hf hK
def hX9_go (rec : Int32 → Int32 → Int32 → Int32 → Mem → Option Mem) (x1 : Int32) (x2 : Int32) (x3 : Int32) (x4 : Int32) (I : Mem) : Option Mem :=
  if x2 ≤ (I 71 4) then
  (bnd (fX11_has x3 x1 I) fun v_2 =>
  if v_2 = 0 then
  (bnd (asH (dec (I 71 3))) fun b9_3 =>
  chk (inb x1 5) <|
  jX9_go_34 rec x1 x2 x3 (x4 + (I (b9_3 + 2) (ix x1))) I)
  else
  (jX9_go_34 rec x1 x2 x3 x4 I))
  else
  (some I)
set_option maxRecDepth 20000 in
theorem ghX9_go (E : EV) (d : Nat) (rec : Int32 → Int32 → Int32 → Int32 → Mem → Option Mem) (x1 : Int32) (x2 : Int32) (x3 : Int32) (x4 : Int32) (I : Mem) (hrec : ∀ (x1 x2 x3 x4 : Int32) (I J : Mem), rec x1 x2 x3 x4 I = some J → Gm E d kX9_go [.ref 71, .int x1, .int x2, .int x3, .int x4] I (none, J)) {J : Mem} (hf : hX9_go rec x1 x2 x3 x4 I = some J) : Gm E (d + 1) kX9_go [.ref 71, .int x1, .int x2, .int x3, .int x4] I (none, J) := by
  refine (fun (y : Mem) (hf : hX9_go rec x1 x2 x3 x4 I = some y) => (?_ : Gm E (d + 1) kX9_go [.ref 71, .int x1, .int x2, .int x3, .int x4] I (none, y))) J hf
  refine Gm.of (by decide) rfl (Nat.le_of_ble_eq_true rfl) ?_
  generalize hrr : ((none, y) : Option Value × Mem) = rr
  show G E (d + 1) kX9_go 0 [some (.ref 71), some (.int x1), some (.int x2), some (.int x3), some (.int x4), none, none] [] I rr
  have hK : (fun (z : Mem) => ((none : Option Value), z) = rr) y := hrr
  clear hrr
  unfold hX9_go at hf
  refine G.iload_n dX9_go_0 rfl rfl ?_
  refine G.aload_n dX9_go_1 rfl rfl ?_
  refine G.getI dX9_go_2 flX9_28 (by decide) rfl ?_
  refine G.icmp_le (tgt := 9) dX9_go_5 (by decide) (fun c_24 => ?_) (fun c_24 => ?_)
  · have hf := ite_t hf c_24
    refine G.iload_n dX9_go_9 rfl rfl ?_
    refine G.iload_n dX9_go_10 rfl rfl ?_
    obtain ⟨v_2, hc_1, hf⟩ := bnd_at hf
    refine G.callNi (av := [.int x3, .int x1]) (rest := []) dX9_go_11 mnX9_39 (gX11_has E d x3 x1 I hc_1) rfl rfl (Nat.le_of_ble_eq_true rfl) ?_
    refine G.if_eq (tgt := 22) dX9_go_14 (by decide) (fun c_23 => ?_) (fun c_23 => ?_)
    · have hf := ite_t hf c_23
      refine G.iload dX9_go_22 rfl ?_
      refine G.aload_n dX9_go_24 rfl rfl ?_
      obtain ⟨b9_3, hb9_3a, hf⟩ := bnd_at hf
      obtain ⟨hb9_3d, hb9_3⟩ := asH_at hb9_3a
      refine G.getM (q := b9_3) dX9_go_25 flX9_18 (by decide) rfl hb9_3d ?_
      refine G.getR (q := (b9_3 + 2)) dX9_go_28 flX9_43 (isH_lt hb9_3) (isH_lk hb9_3) (isH_r2 hb9_3) ?_
      refine G.iload_n dX9_go_31 rfl rfl ?_
      obtain ⟨hi_4, hf⟩ := chk_at hf
      refine G.iald' dX9_go_32 (isH_l2 hb9_3) (isH_k2 hb9_3) (isH_n2 hb9_3) hi_4 ?_
      refine G.iadd dX9_go_33 ?_
      refine G.forget (L' := [some (.ref 71), some (.int x1), some (.int x2), some (.int x3), none, none, none]) [4] rfl ?_
      exact tX9_go_34 E d rr rec x1 x2 x3 (x4 + (I (b9_3 + 2) (ix x1))) I hrec _ hf hK
    · have hf := ite_f hf c_23
      refine G.iload dX9_go_17 rfl ?_
      refine G.goto (tgt := 34) dX9_go_19 (by decide) ?_
      refine G.forget (L' := [some (.ref 71), some (.int x1), some (.int x2), some (.int x3), none, none, none]) [4] rfl ?_
      exact tX9_go_34 E d rr rec x1 x2 x3 x4 I hrec _ hf hK
  · have hf := ite_f hf c_24
    have hf := Option.some.inj hf
    subst hf
    exact G.vret' dX9_go_8 rfl hK
def fX9_go : Nat → Int32 → Int32 → Int32 → Int32 → Mem → Option Mem
  | 0 => fun _ _ _ _ _ => none
  | n + 1 => hX9_go (fX9_go n)
theorem gX9_go' (E : EV) : ∀ (n d : Nat) (x1 x2 x3 x4 : Int32) (I J : Mem), fX9_go n x1 x2 x3 x4 I = some J → Gm E (d + n) kX9_go [.ref 71, .int x1, .int x2, .int x3, .int x4] I (none, J)
  | 0, d, x1, x2, x3, x4, I, J, h => by cases h
  | n + 1, d, x1, x2, x3, x4, I, J, h => ghX9_go E (d + n) (fX9_go n) x1 x2 x3 x4 I (gX9_go' E n d) h
theorem gX9_go (E : EV) (d n : Nat) (x1 x2 x3 x4 : Int32) (I : Mem) {J : Mem} (h : fX9_go n x1 x2 x3 x4 I = some J) : Gm E (d + n) kX9_go [.ref 71, .int x1, .int x2, .int x3, .int x4] I (none, J) := gX9_go' E n d x1 x2 x3 x4 I J h
theorem dX9_look_0 : decode cX9_look 0 = .ok (.aload_n 0, 1) := by decide +kernel
theorem dX9_look_1 : decode cX9_look 1 = .ok (.aload_n 1, 1) := by decide +kernel
theorem dX9_look_2 : decode cX9_look 2 = .ok (.putfield 18, 3) := by decide +kernel
theorem dX9_look_5 : decode cX9_look 5 = .ok (.aload_n 0, 1) := by decide +kernel
theorem dX9_look_6 : decode cX9_look 6 = .ok (.iload_n 3, 1) := by decide +kernel
theorem dX9_look_7 : decode cX9_look 7 = .ok (.bipush 6, 2) := by decide +kernel
theorem dX9_look_9 : decode cX9_look 9 = .ok (.invokestatic 22, 3) := by decide +kernel
theorem dX9_look_12 : decode cX9_look 12 = .ok (.putfield 28, 3) := by decide +kernel
theorem dX9_look_15 : decode cX9_look 15 = .ok (.aload_n 0, 1) := by decide +kernel
theorem dX9_look_16 : decode cX9_look 16 = .ok (.iconst (-1), 1) := by decide +kernel
theorem dX9_look_17 : decode cX9_look 17 = .ok (.putfield 32, 3) := by decide +kernel
theorem dX9_look_20 : decode cX9_look 20 = .ok (.aload_n 0, 1) := by decide +kernel
theorem dX9_look_21 : decode cX9_look 21 = .ok (.iload_n 2, 1) := by decide +kernel
theorem dX9_look_22 : decode cX9_look 22 = .ok (.iconst 0, 1) := by decide +kernel
theorem dX9_look_23 : decode cX9_look 23 = .ok (.iconst 0, 1) := by decide +kernel
theorem dX9_look_24 : decode cX9_look 24 = .ok (.iconst 0, 1) := by decide +kernel
theorem dX9_look_25 : decode cX9_look 25 = .ok (.invokestatic 35, 3) := by decide +kernel
theorem dX9_look_28 : decode cX9_look 28 = .ok (.return_, 1) := by decide +kernel
def fX9_look (b1 : Nat) (x2 : Int32) (x3 : Int32) (I : Mem) : Option Mem :=
  letb (up2 I 71 3 (enc b1)) fun I_1 =>
  letb (up2 I_1 71 4 (if (6 : Int32) < x3 then (6 : Int32) else x3)) fun I_2 =>
  letb (up2 I_2 71 0 (-1 : Int32)) fun I_3 =>
  bnd (fX9_go 9 x2 (0 : Int32) (0 : Int32) (0 : Int32) I_3) fun I_5 =>
  some I_5
set_option maxRecDepth 20000 in
theorem gX9_look (E : EV) (d : Nat) (b1 : Nat) (x2 : Int32) (x3 : Int32) (I : Mem) (hb1 : isH b1) {J : Mem} (hf : fX9_look b1 x2 x3 I = some J) : Gm E (d + 10) kX9_look [.ref 71, .ref b1, .int x2, .int x3] I (none, J) := by
  refine (fun (y : Mem) (hf : fX9_look b1 x2 x3 I = some y) => (?_ : Gm E (d + 10) kX9_look [.ref 71, .ref b1, .int x2, .int x3] I (none, y))) J hf
  refine Gm.of (by decide) rfl (Nat.le_of_ble_eq_true rfl) ?_
  generalize hrr : ((none, y) : Option Value × Mem) = rr
  show G E (d + 10) kX9_look 0 [some (.ref 71), some (.ref b1), some (.int x2), some (.int x3)] [] I rr
  have hK : (fun (z : Mem) => ((none : Option Value), z) = rr) y := hrr
  clear hrr
  unfold fX9_look at hf
  refine G.aload_n dX9_look_0 rfl rfl ?_
  refine G.aload_n dX9_look_1 rfl rfl ?_
  refine G.putM dX9_look_2 flX9_18 (by decide) rfl (isH_lt hb1) ?_
  refine G.nmI (fun I_1 e_I_1 => ?_)
  have hf := letb_at hf e_I_1
  clear e_I_1
  refine G.aload_n dX9_look_5 rfl rfl ?_
  refine G.iload_n dX9_look_6 rfl rfl ?_
  refine G.bipush (v := 6) dX9_look_7 (by decide) ?_
  refine G.mmin (rest := [.ref 71]) dX9_look_9 mmX9_22 (Nat.le_of_ble_eq_true rfl) ?_
  refine G.putI dX9_look_12 flX9_28 (by decide) rfl ?_
  refine G.nmI (fun I_2 e_I_2 => ?_)
  have hf := letb_at hf e_I_2
  clear e_I_2
  refine G.aload_n dX9_look_15 rfl rfl ?_
  refine G.iconst (v := -1) dX9_look_16 (by decide) ?_
  refine G.putI dX9_look_17 flX9_32 (by decide) rfl ?_
  refine G.nmI (fun I_3 e_I_3 => ?_)
  have hf := letb_at hf e_I_3
  clear e_I_3
  refine G.aload_n dX9_look_20 rfl rfl ?_
  refine G.iload_n dX9_look_21 rfl rfl ?_
  refine G.iconst (v := 0) dX9_look_22 (by decide) ?_
  refine G.iconst (v := 0) dX9_look_23 (by decide) ?_
  refine G.iconst (v := 0) dX9_look_24 (by decide) ?_
  obtain ⟨I_5, hc_4, hf⟩ := bnd_at hf
  refine G.callSv (av := [.ref 71, .int x2, .int (0 : Int32), .int (0 : Int32), .int (0 : Int32)]) (rest := []) dX9_look_25 msX9_35 (gX9_go E d 9 x2 (0 : Int32) (0 : Int32) (0 : Int32) I_3 hc_4) rfl rfl (Nat.le_of_ble_eq_true rfl) ?_
  have hf := Option.some.inj hf
  subst hf
  exact G.vret' dX9_look_28 rfl hK
