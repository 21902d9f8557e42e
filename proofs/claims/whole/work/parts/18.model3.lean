theorem dX12_keepPast_0 : decode cX12_keepPast 0 = .ok (.iconst 0, 1) := by decide +kernel
theorem dX12_keepPast_1 : decode cX12_keepPast 1 = .ok (.istore_n 1, 1) := by decide +kernel
theorem dX12_keepPast_2 : decode cX12_keepPast 2 = .ok (.iload_n 1, 1) := by decide +kernel
theorem dX12_keepPast_3 : decode cX12_keepPast 3 = .ok (.bipush 91, 2) := by decide +kernel
theorem dX12_keepPast_5 : decode cX12_keepPast 5 = .ok (.if_icmp .ge 39, 3) := by decide +kernel
theorem dX12_keepPast_8 : decode cX12_keepPast 8 = .ok (.aload_n 0, 1) := by decide +kernel
theorem dX12_keepPast_9 : decode cX12_keepPast 9 = .ok (.getfield 7, 3) := by decide +kernel
theorem dX12_keepPast_12 : decode cX12_keepPast 12 = .ok (.bipush 53, 2) := by decide +kernel
theorem dX12_keepPast_14 : decode cX12_keepPast 14 = .ok (.iaload, 1) := by decide +kernel
theorem dX12_keepPast_15 : decode cX12_keepPast 15 = .ok (.bipush 8, 2) := by decide +kernel
theorem dX12_keepPast_17 : decode cX12_keepPast 17 = .ok (.if_icmp .ne 27, 3) := by decide +kernel
theorem dX12_keepPast_20 : decode cX12_keepPast 20 = .ok (.aload_n 0, 1) := by decide +kernel
theorem dX12_keepPast_21 : decode cX12_keepPast 21 = .ok (.getfield 7, 3) := by decide +kernel
theorem dX12_keepPast_24 : decode cX12_keepPast 24 = .ok (.bipush 54, 2) := by decide +kernel
theorem dX12_keepPast_26 : decode cX12_keepPast 26 = .ok (.iload_n 1, 1) := by decide +kernel
theorem dX12_keepPast_27 : decode cX12_keepPast 27 = .ok (.iadd, 1) := by decide +kernel
theorem dX12_keepPast_28 : decode cX12_keepPast 28 = .ok (.aload_n 0, 1) := by decide +kernel
theorem dX12_keepPast_29 : decode cX12_keepPast 29 = .ok (.getfield 7, 3) := by decide +kernel
theorem dX12_keepPast_32 : decode cX12_keepPast 32 = .ok (.bipush 67, 2) := by decide +kernel
theorem dX12_keepPast_34 : decode cX12_keepPast 34 = .ok (.iload_n 1, 1) := by decide +kernel
theorem dX12_keepPast_35 : decode cX12_keepPast 35 = .ok (.iadd, 1) := by decide +kernel
theorem dX12_keepPast_36 : decode cX12_keepPast 36 = .ok (.iaload, 1) := by decide +kernel
theorem dX12_keepPast_37 : decode cX12_keepPast 37 = .ok (.iastore, 1) := by decide +kernel
theorem dX12_keepPast_38 : decode cX12_keepPast 38 = .ok (.iinc 1 1, 3) := by decide +kernel
theorem dX12_keepPast_41 : decode cX12_keepPast 41 = .ok (.goto (-39), 3) := by decide +kernel
theorem dX12_keepPast_44 : decode cX12_keepPast 44 = .ok (.aload_n 0, 1) := by decide +kernel
theorem dX12_keepPast_45 : decode cX12_keepPast 45 = .ok (.getfield 7, 3) := by decide +kernel
theorem dX12_keepPast_48 : decode cX12_keepPast 48 = .ok (.bipush 53, 2) := by decide +kernel
theorem dX12_keepPast_50 : decode cX12_keepPast 50 = .ok (.dup2, 1) := by decide +kernel
theorem dX12_keepPast_51 : decode cX12_keepPast 51 = .ok (.iaload, 1) := by decide +kernel
theorem dX12_keepPast_52 : decode cX12_keepPast 52 = .ok (.aload_n 0, 1) := by decide +kernel
theorem dX12_keepPast_53 : decode cX12_keepPast 53 = .ok (.getfield 7, 3) := by decide +kernel
theorem dX12_keepPast_56 : decode cX12_keepPast 56 = .ok (.bipush 53, 2) := by decide +kernel
theorem dX12_keepPast_58 : decode cX12_keepPast 58 = .ok (.iaload, 1) := by decide +kernel
theorem dX12_keepPast_59 : decode cX12_keepPast 59 = .ok (.bipush 8, 2) := by decide +kernel
theorem dX12_keepPast_61 : decode cX12_keepPast 61 = .ok (.if_icmp .ne 7, 3) := by decide +kernel
theorem dX12_keepPast_64 : decode cX12_keepPast 64 = .ok (.iconst 1, 1) := by decide +kernel
theorem dX12_keepPast_65 : decode cX12_keepPast 65 = .ok (.goto 4, 3) := by decide +kernel
theorem dX12_keepPast_68 : decode cX12_keepPast 68 = .ok (.iconst 0, 1) := by decide +kernel
theorem dX12_keepPast_69 : decode cX12_keepPast 69 = .ok (.isub, 1) := by decide +kernel
theorem dX12_keepPast_70 : decode cX12_keepPast 70 = .ok (.iastore, 1) := by decide +kernel
theorem dX12_keepPast_71 : decode cX12_keepPast 71 = .ok (.bipush 54, 2) := by decide +kernel
theorem dX12_keepPast_73 : decode cX12_keepPast 73 = .ok (.bipush 13, 2) := by decide +kernel
theorem dX12_keepPast_75 : decode cX12_keepPast 75 = .ok (.aload_n 0, 1) := by decide +kernel
theorem dX12_keepPast_76 : decode cX12_keepPast 76 = .ok (.getfield 7, 3) := by decide +kernel
theorem dX12_keepPast_79 : decode cX12_keepPast 79 = .ok (.bipush 53, 2) := by decide +kernel
theorem dX12_keepPast_81 : decode cX12_keepPast 81 = .ok (.iaload, 1) := by decide +kernel
theorem dX12_keepPast_82 : decode cX12_keepPast 82 = .ok (.imul, 1) := by decide +kernel
theorem dX12_keepPast_83 : decode cX12_keepPast 83 = .ok (.iadd, 1) := by decide +kernel
theorem dX12_keepPast_84 : decode cX12_keepPast 84 = .ok (.istore_n 1, 1) := by decide +kernel
theorem dX12_keepPast_85 : decode cX12_keepPast 85 = .ok (.iconst 0, 1) := by decide +kernel
theorem dX12_keepPast_86 : decode cX12_keepPast 86 = .ok (.istore_n 2, 1) := by decide +kernel
theorem dX12_keepPast_87 : decode cX12_keepPast 87 = .ok (.iload_n 2, 1) := by decide +kernel
theorem dX12_keepPast_88 : decode cX12_keepPast 88 = .ok (.iconst 5, 1) := by decide +kernel
theorem dX12_keepPast_89 : decode cX12_keepPast 89 = .ok (.if_icmp .ge 26, 3) := by decide +kernel
theorem dX12_keepPast_92 : decode cX12_keepPast 92 = .ok (.aload_n 0, 1) := by decide +kernel
theorem dX12_keepPast_93 : decode cX12_keepPast 93 = .ok (.getfield 7, 3) := by decide +kernel
theorem dX12_keepPast_96 : decode cX12_keepPast 96 = .ok (.iload_n 1, 1) := by decide +kernel
theorem dX12_keepPast_97 : decode cX12_keepPast 97 = .ok (.iload_n 2, 1) := by decide +kernel
theorem dX12_keepPast_98 : decode cX12_keepPast 98 = .ok (.iadd, 1) := by decide +kernel
theorem dX12_keepPast_99 : decode cX12_keepPast 99 = .ok (.aload_n 0, 1) := by decide +kernel
theorem dX12_keepPast_100 : decode cX12_keepPast 100 = .ok (.getfield 7, 3) := by decide +kernel
theorem dX12_keepPast_103 : decode cX12_keepPast 103 = .ok (.bipush 10, 2) := by decide +kernel
theorem dX12_keepPast_105 : decode cX12_keepPast 105 = .ok (.iload_n 2, 1) := by decide +kernel
theorem dX12_keepPast_106 : decode cX12_keepPast 106 = .ok (.iadd, 1) := by decide +kernel
theorem dX12_keepPast_107 : decode cX12_keepPast 107 = .ok (.iaload, 1) := by decide +kernel
theorem dX12_keepPast_108 : decode cX12_keepPast 108 = .ok (.iastore, 1) := by decide +kernel
theorem dX12_keepPast_109 : decode cX12_keepPast 109 = .ok (.iinc 2 1, 3) := by decide +kernel
theorem dX12_keepPast_112 : decode cX12_keepPast 112 = .ok (.goto (-25), 3) := by decide +kernel
theorem dX12_keepPast_115 : decode cX12_keepPast 115 = .ok (.iconst 0, 1) := by decide +kernel
theorem dX12_keepPast_116 : decode cX12_keepPast 116 = .ok (.istore_n 2, 1) := by decide +kernel
theorem dX12_keepPast_117 : decode cX12_keepPast 117 = .ok (.iload_n 2, 1) := by decide +kernel
theorem dX12_keepPast_118 : decode cX12_keepPast 118 = .ok (.iconst 4, 1) := by decide +kernel
theorem dX12_keepPast_119 : decode cX12_keepPast 119 = .ok (.if_icmp .ge 48, 3) := by decide +kernel
theorem dX12_keepPast_122 : decode cX12_keepPast 122 = .ok (.aload_n 0, 1) := by decide +kernel
theorem dX12_keepPast_123 : decode cX12_keepPast 123 = .ok (.getfield 7, 3) := by decide +kernel
theorem dX12_keepPast_126 : decode cX12_keepPast 126 = .ok (.iload_n 1, 1) := by decide +kernel
theorem dX12_keepPast_127 : decode cX12_keepPast 127 = .ok (.iconst 5, 1) := by decide +kernel
theorem dX12_keepPast_128 : decode cX12_keepPast 128 = .ok (.iadd, 1) := by decide +kernel
theorem dX12_keepPast_129 : decode cX12_keepPast 129 = .ok (.iload_n 2, 1) := by decide +kernel
theorem dX12_keepPast_130 : decode cX12_keepPast 130 = .ok (.iadd, 1) := by decide +kernel
theorem dX12_keepPast_131 : decode cX12_keepPast 131 = .ok (.aload_n 0, 1) := by decide +kernel
theorem dX12_keepPast_132 : decode cX12_keepPast 132 = .ok (.getfield 7, 3) := by decide +kernel
theorem dX12_keepPast_135 : decode cX12_keepPast 135 = .ok (.bipush 24, 2) := by decide +kernel
theorem dX12_keepPast_137 : decode cX12_keepPast 137 = .ok (.iload_n 2, 1) := by decide +kernel
theorem dX12_keepPast_138 : decode cX12_keepPast 138 = .ok (.iadd, 1) := by decide +kernel
theorem dX12_keepPast_139 : decode cX12_keepPast 139 = .ok (.iaload, 1) := by decide +kernel
theorem dX12_keepPast_140 : decode cX12_keepPast 140 = .ok (.iastore, 1) := by decide +kernel
theorem dX12_keepPast_141 : decode cX12_keepPast 141 = .ok (.aload_n 0, 1) := by decide +kernel
theorem dX12_keepPast_142 : decode cX12_keepPast 142 = .ok (.getfield 7, 3) := by decide +kernel
theorem dX12_keepPast_145 : decode cX12_keepPast 145 = .ok (.iload_n 1, 1) := by decide +kernel
theorem dX12_keepPast_146 : decode cX12_keepPast 146 = .ok (.bipush 9, 2) := by decide +kernel
theorem dX12_keepPast_148 : decode cX12_keepPast 148 = .ok (.iadd, 1) := by decide +kernel
theorem dX12_keepPast_149 : decode cX12_keepPast 149 = .ok (.iload_n 2, 1) := by decide +kernel
theorem dX12_keepPast_150 : decode cX12_keepPast 150 = .ok (.iadd, 1) := by decide +kernel
theorem dX12_keepPast_151 : decode cX12_keepPast 151 = .ok (.aload_n 0, 1) := by decide +kernel
theorem dX12_keepPast_152 : decode cX12_keepPast 152 = .ok (.getfield 7, 3) := by decide +kernel
theorem dX12_keepPast_155 : decode cX12_keepPast 155 = .ok (.bipush 20, 2) := by decide +kernel
theorem dX12_keepPast_157 : decode cX12_keepPast 157 = .ok (.iload_n 2, 1) := by decide +kernel
theorem dX12_keepPast_158 : decode cX12_keepPast 158 = .ok (.iadd, 1) := by decide +kernel
theorem dX12_keepPast_159 : decode cX12_keepPast 159 = .ok (.iaload, 1) := by decide +kernel
theorem dX12_keepPast_160 : decode cX12_keepPast 160 = .ok (.iastore, 1) := by decide +kernel
theorem dX12_keepPast_161 : decode cX12_keepPast 161 = .ok (.iinc 2 1, 3) := by decide +kernel
theorem dX12_keepPast_164 : decode cX12_keepPast 164 = .ok (.goto (-47), 3) := by decide +kernel
theorem dX12_keepPast_167 : decode cX12_keepPast 167 = .ok (.aload_n 0, 1) := by decide +kernel
theorem dX12_keepPast_168 : decode cX12_keepPast 168 = .ok (.getfield 7, 3) := by decide +kernel
theorem dX12_keepPast_171 : decode cX12_keepPast 171 = .ok (.bipush 53, 2) := by decide +kernel
theorem dX12_keepPast_173 : decode cX12_keepPast 173 = .ok (.dup2, 1) := by decide +kernel
theorem dX12_keepPast_174 : decode cX12_keepPast 174 = .ok (.iaload, 1) := by decide +kernel
theorem dX12_keepPast_175 : decode cX12_keepPast 175 = .ok (.iconst 1, 1) := by decide +kernel
theorem dX12_keepPast_176 : decode cX12_keepPast 176 = .ok (.iadd, 1) := by decide +kernel
theorem dX12_keepPast_177 : decode cX12_keepPast 177 = .ok (.iastore, 1) := by decide +kernel
theorem dX12_keepPast_178 : decode cX12_keepPast 178 = .ok (.return_, 1) := by decide +kernel
def KX12_keepPast_2 (E : EV) (d : Nat) (rr : Option Value × Mem) (Kp : Mem → Prop) : ((Int32 × Mem) ⊕ Mem) → Prop
  | .inl q => G E (d + 0) kX12_keepPast 2 [some (.ref 74), some (.int q.1), none] [] q.2 rr
  | .inr z => Kp z
def KX12_keepPast_87 (E : EV) (d : Nat) (rr : Option Value × Mem) (x1 : Int32) (Kp : Mem → Prop) : ((Int32 × Mem) ⊕ Mem) → Prop
  | .inl q => G E (d + 0) kX12_keepPast 87 [some (.ref 74), some (.int x1), some (.int q.1)] [] q.2 rr
  | .inr z => Kp z
def KX12_keepPast_117 (E : EV) (d : Nat) (rr : Option Value × Mem) (x1 : Int32) (Kp : Mem → Prop) : ((Int32 × Mem) ⊕ Mem) → Prop
  | .inl q => G E (d + 0) kX12_keepPast 117 [some (.ref 74), some (.int x1), some (.int q.1)] [] q.2 rr
  | .inr z => Kp z
def bX12_keepPast_117 (x1 : Int32) (x2 : Int32) (I : Mem) : Option ((Int32 × Mem) ⊕ Mem) :=
  if (4 : Int32) ≤ x2 then
  (chk (inb (53 : Int32) 632) <|
  chk (inb (53 : Int32) 632) <|
  letb (up2 I 75 (ix (53 : Int32)) ((I 75 (ix (53 : Int32))) + (1 : Int32))) fun I_9 =>
  some (.inr I_9))
  else
  (chk (inb ((24 : Int32) + x2) 632) <|
  chk (inb ((x1 + (5 : Int32)) + x2) 632) <|
  letb (up2 I 75 (ix ((x1 + (5 : Int32)) + x2)) (I 75 (ix ((24 : Int32) + x2)))) fun I_12 =>
  chk (inb ((20 : Int32) + x2) 632) <|
  chk (inb ((x1 + (9 : Int32)) + x2) 632) <|
  letb (up2 I_12 75 (ix ((x1 + (9 : Int32)) + x2)) (I_12 75 (ix ((20 : Int32) + x2)))) fun I_15 =>
  some (.inl ((x2 + (1 : Int32)), I_15)))
def sX12_keepPast_117 (x1 : Int32) (q : (Int32 × Mem)) : Option ((Int32 × Mem) ⊕ Mem) := bX12_keepPast_117 x1 q.1 q.2
set_option maxRecDepth 20000 in
theorem wX12_keepPast_117 (E : EV) (d : Nat) (rr : Option Value × Mem) (x1 : Int32) (x2 : Int32) (I : Mem) (y : ((Int32 × Mem) ⊕ Mem)) (hf : bX12_keepPast_117 x1 x2 I = some y) (hK : (KX12_keepPast_117 E d rr x1 (fun (z : Mem) => ((none : Option Value), z) = rr)) y) : G E (d + 0) kX12_keepPast 117 [some (.ref 74), some (.int x1), some (.int x2)] [] I rr := by
  unfold bX12_keepPast_117 at hf
  refine G.iload_n dX12_keepPast_117 rfl rfl ?_
  refine G.iconst (v := 4) dX12_keepPast_118 (by decide) ?_
  refine G.icmp_ge (tgt := 167) dX12_keepPast_119 (by decide) (fun c_16 => ?_) (fun c_16 => ?_)
  · have hf := ite_t hf c_16
    refine G.aload_n dX12_keepPast_167 rfl rfl ?_
    refine G.getR (q := 75) dX12_keepPast_168 flX12_7 (by decide) rfl rfl ?_
    refine G.bipush (v := 53) dX12_keepPast_171 (by decide) ?_
    refine G.dup2 dX12_keepPast_173 rfl rfl ?_
    obtain ⟨hi_7, hf⟩ := chk_at hf
    refine G.iald' dX12_keepPast_174 (by decide) rfl rfl hi_7 ?_
    refine G.iconst (v := 1) dX12_keepPast_175 (by decide) ?_
    refine G.iadd dX12_keepPast_176 ?_
    obtain ⟨hi_8, hf⟩ := chk_at hf
    refine G.iast' dX12_keepPast_177 (by decide) rfl rfl hi_8 ?_
    refine G.nmI (fun I_9 e_I_9 => ?_)
    have hf := letb_at hf e_I_9
    clear e_I_9
    have hf := Option.some.inj hf
    subst hf
    exact G.vret' dX12_keepPast_178 rfl hK
  · have hf := ite_f hf c_16
    refine G.aload_n dX12_keepPast_122 rfl rfl ?_
    refine G.getR (q := 75) dX12_keepPast_123 flX12_7 (by decide) rfl rfl ?_
    refine G.iload_n dX12_keepPast_126 rfl rfl ?_
    refine G.iconst (v := 5) dX12_keepPast_127 (by decide) ?_
    refine G.iadd dX12_keepPast_128 ?_
    refine G.iload_n dX12_keepPast_129 rfl rfl ?_
    refine G.iadd dX12_keepPast_130 ?_
    refine G.aload_n dX12_keepPast_131 rfl rfl ?_
    refine G.getR (q := 75) dX12_keepPast_132 flX12_7 (by decide) rfl rfl ?_
    refine G.bipush (v := 24) dX12_keepPast_135 (by decide) ?_
    refine G.iload_n dX12_keepPast_137 rfl rfl ?_
    refine G.iadd dX12_keepPast_138 ?_
    obtain ⟨hi_10, hf⟩ := chk_at hf
    refine G.iald' dX12_keepPast_139 (by decide) rfl rfl hi_10 ?_
    obtain ⟨hi_11, hf⟩ := chk_at hf
    refine G.iast' dX12_keepPast_140 (by decide) rfl rfl hi_11 ?_
    refine G.nmI (fun I_12 e_I_12 => ?_)
    have hf := letb_at hf e_I_12
    clear e_I_12
    refine G.aload_n dX12_keepPast_141 rfl rfl ?_
    refine G.getR (q := 75) dX12_keepPast_142 flX12_7 (by decide) rfl rfl ?_
    refine G.iload_n dX12_keepPast_145 rfl rfl ?_
    refine G.bipush (v := 9) dX12_keepPast_146 (by decide) ?_
    refine G.iadd dX12_keepPast_148 ?_
    refine G.iload_n dX12_keepPast_149 rfl rfl ?_
    refine G.iadd dX12_keepPast_150 ?_
    refine G.aload_n dX12_keepPast_151 rfl rfl ?_
    refine G.getR (q := 75) dX12_keepPast_152 flX12_7 (by decide) rfl rfl ?_
    refine G.bipush (v := 20) dX12_keepPast_155 (by decide) ?_
    refine G.iload_n dX12_keepPast_157 rfl rfl ?_
    refine G.iadd dX12_keepPast_158 ?_
    obtain ⟨hi_13, hf⟩ := chk_at hf
    refine G.iald' dX12_keepPast_159 (by decide) rfl rfl hi_13 ?_
    obtain ⟨hi_14, hf⟩ := chk_at hf
    refine G.iast' dX12_keepPast_160 (by decide) rfl rfl hi_14 ?_
    refine G.nmI (fun I_15 e_I_15 => ?_)
    have hf := letb_at hf e_I_15
    clear e_I_15
    refine G.inc (w := 1) (L' := [some (.ref 74), some (.int x1), some (.int (x2 + (1 : Int32)))]) dX12_keepPast_161 (by decide) rfl (Nat.le_of_ble_eq_true rfl) rfl rfl ?_
    refine G.goto (tgt := 117) dX12_keepPast_164 (by decide) ?_
    have hf := Option.some.inj hf
    subst hf
    exact hK
theorem lX12_keepPast_117 (E : EV) (d : Nat) (rr : Option Value × Mem) (x1 : Int32) (z : Mem) (hK : (fun (z : Mem) => ((none : Option Value), z) = rr) z) : ∀ (n : Nat) (q : (Int32 × Mem)), iter (sX12_keepPast_117 x1) n q = some z → G E (d + 0) kX12_keepPast 117 [some (.ref 74), some (.int x1), some (.int q.1)] [] q.2 rr := by
  intro n
  induction n with
  | zero => intro q h; cases h
  | succ n ih =>
    intro q h
    rcases iter_at h with ⟨q2, hs, h2⟩ | hs
    · exact wX12_keepPast_117 E d rr x1 q.1 q.2 _ hs (ih q2 h2)
    · exact wX12_keepPast_117 E d rr x1 q.1 q.2 _ hs hK
def bX12_keepPast_87 (x1 : Int32) (x2 : Int32) (I : Mem) : Option ((Int32 × Mem) ⊕ Mem) :=
  if (5 : Int32) ≤ x2 then
  (inrO (iter (sX12_keepPast_117 x1) FU ((0 : Int32), I)))
  else
  (chk (inb ((10 : Int32) + x2) 632) <|
  chk (inb (x1 + x2) 632) <|
  letb (up2 I 75 (ix (x1 + x2)) (I 75 (ix ((10 : Int32) + x2)))) fun I_20 =>
  some (.inl ((x2 + (1 : Int32)), I_20)))
def sX12_keepPast_87 (x1 : Int32) (q : (Int32 × Mem)) : Option ((Int32 × Mem) ⊕ Mem) := bX12_keepPast_87 x1 q.1 q.2
set_option maxRecDepth 20000 in
theorem wX12_keepPast_87 (E : EV) (d : Nat) (rr : Option Value × Mem) (x1 : Int32) (x2 : Int32) (I : Mem) (y : ((Int32 × Mem) ⊕ Mem)) (hf : bX12_keepPast_87 x1 x2 I = some y) (hK : (KX12_keepPast_87 E d rr x1 (fun (z : Mem) => ((none : Option Value), z) = rr)) y) : G E (d + 0) kX12_keepPast 87 [some (.ref 74), some (.int x1), some (.int x2)] [] I rr := by
  unfold bX12_keepPast_87 at hf
  refine G.iload_n dX12_keepPast_87 rfl rfl ?_
  refine G.iconst (v := 5) dX12_keepPast_88 (by decide) ?_
  refine G.icmp_ge (tgt := 115) dX12_keepPast_89 (by decide) (fun c_21 => ?_) (fun c_21 => ?_)
  · have hf := ite_t hf c_21
    refine G.iconst (v := 0) dX12_keepPast_115 (by decide) ?_
    refine G.istore_n (L' := [some (.ref 74), some (.int x1), some (.int (0 : Int32))]) dX12_keepPast_116 rfl (Nat.le_of_ble_eq_true rfl) (Nat.le_of_ble_eq_true rfl) rfl rfl ?_
    obtain ⟨z_17, hz_17, rfl⟩ := inrO_at hf
    have hf := hz_17
    exact lX12_keepPast_117 E d rr x1 _ hK FU _ hf
  · have hf := ite_f hf c_21
    refine G.aload_n dX12_keepPast_92 rfl rfl ?_
    refine G.getR (q := 75) dX12_keepPast_93 flX12_7 (by decide) rfl rfl ?_
    refine G.iload_n dX12_keepPast_96 rfl rfl ?_
    refine G.iload_n dX12_keepPast_97 rfl rfl ?_
    refine G.iadd dX12_keepPast_98 ?_
    refine G.aload_n dX12_keepPast_99 rfl rfl ?_
    refine G.getR (q := 75) dX12_keepPast_100 flX12_7 (by decide) rfl rfl ?_
    refine G.bipush (v := 10) dX12_keepPast_103 (by decide) ?_
    refine G.iload_n dX12_keepPast_105 rfl rfl ?_
    refine G.iadd dX12_keepPast_106 ?_
    obtain ⟨hi_18, hf⟩ := chk_at hf
    refine G.iald' dX12_keepPast_107 (by decide) rfl rfl hi_18 ?_
    obtain ⟨hi_19, hf⟩ := chk_at hf
    refine G.iast' dX12_keepPast_108 (by decide) rfl rfl hi_19 ?_
    refine G.nmI (fun I_20 e_I_20 => ?_)
    have hf := letb_at hf e_I_20
    clear e_I_20
    refine G.inc (w := 1) (L' := [some (.ref 74), some (.int x1), some (.int (x2 + (1 : Int32)))]) dX12_keepPast_109 (by decide) rfl (Nat.le_of_ble_eq_true rfl) rfl rfl ?_
    refine G.goto (tgt := 87) dX12_keepPast_112 (by decide) ?_
    have hf := Option.some.inj hf
    subst hf
    exact hK
theorem lX12_keepPast_87 (E : EV) (d : Nat) (rr : Option Value × Mem) (x1 : Int32) (z : Mem) (hK : (fun (z : Mem) => ((none : Option Value), z) = rr) z) : ∀ (n : Nat) (q : (Int32 × Mem)), iter (sX12_keepPast_87 x1) n q = some z → G E (d + 0) kX12_keepPast 87 [some (.ref 74), some (.int x1), some (.int q.1)] [] q.2 rr := by
  intro n
  induction n with
  | zero => intro q h; cases h
  | succ n ih =>
    intro q h
    rcases iter_at h with ⟨q2, hs, h2⟩ | hs
    · exact wX12_keepPast_87 E d rr x1 q.1 q.2 _ hs (ih q2 h2)
    · exact wX12_keepPast_87 E d rr x1 q.1 q.2 _ hs hK
def jX12_keepPast_69 (u0 : Int32) (u1 : Int32) (u2 : Int32) (I : Mem) : Option Mem :=
  chk (inb u2 632) <|
  letb (up2 I 75 (ix u2) (u1 - u0)) fun I_4 =>
  chk (inb (53 : Int32) 632) <|
  letb ((54 : Int32) + ((13 : Int32) * (I_4 75 (ix (53 : Int32))))) fun x1_6 =>
  iter (sX12_keepPast_87 x1_6) FU ((0 : Int32), I_4)
set_option maxRecDepth 20000 in
theorem tX12_keepPast_69 (E : EV) (d : Nat) (rr : Option Value × Mem) (u0 : Int32) (u1 : Int32) (u2 : Int32) (I : Mem) (y : Mem) (hf : jX12_keepPast_69 u0 u1 u2 I = some y) (hK : (fun (z : Mem) => ((none : Option Value), z) = rr) y) : G E (d + 0) kX12_keepPast 69 [some (.ref 74), none, none] [.int u0, .int u1, .int u2, .ref 75] I rr := by
  unfold jX12_keepPast_69 at hf
  refine G.isub dX12_keepPast_69 ?_
  obtain ⟨hi_3, hf⟩ := chk_at hf
  refine G.iast' dX12_keepPast_70 (by decide) rfl rfl hi_3 ?_
  refine G.nmI (fun I_4 e_I_4 => ?_)
  have hf := letb_at hf e_I_4
  clear e_I_4
  refine G.bipush (v := 54) dX12_keepPast_71 (by decide) ?_
  refine G.bipush (v := 13) dX12_keepPast_73 (by decide) ?_
  refine G.aload_n dX12_keepPast_75 rfl rfl ?_
  refine G.getR (q := 75) dX12_keepPast_76 flX12_7 (by decide) rfl rfl ?_
  refine G.bipush (v := 53) dX12_keepPast_79 (by decide) ?_
  obtain ⟨hi_5, hf⟩ := chk_at hf
  refine G.iald' dX12_keepPast_81 (by decide) rfl rfl hi_5 ?_
  refine G.imul dX12_keepPast_82 ?_
  refine G.iadd dX12_keepPast_83 ?_
  refine G.nmi (fun x1_6 e_x1_6 => ?_)
  have hf := letb_at hf e_x1_6
  clear e_x1_6
  refine G.istore_n (L' := [some (.ref 74), some (.int x1_6), none]) dX12_keepPast_84 rfl (Nat.le_of_ble_eq_true rfl) (Nat.le_of_ble_eq_true rfl) rfl rfl ?_
  refine G.iconst (v := 0) dX12_keepPast_85 (by decide) ?_
  refine G.istore_n (L' := [some (.ref 74), some (.int x1_6), some (.int (0 : Int32))]) dX12_keepPast_86 rfl (Nat.le_of_ble_eq_true rfl) (Nat.le_of_ble_eq_true rfl) rfl rfl ?_
  exact lX12_keepPast_87 E d rr x1_6 _ hK FU _ hf
def jX12_keepPast_44 (I : Mem) : Option Mem :=
  chk (inb (53 : Int32) 632) <|
  chk (inb (53 : Int32) 632) <|
  if (I 75 (ix (53 : Int32))) = (8 : Int32) then
  (jX12_keepPast_69 (1 : Int32) (I 75 (ix (53 : Int32))) (53 : Int32) I)
  else
  (jX12_keepPast_69 (0 : Int32) (I 75 (ix (53 : Int32))) (53 : Int32) I)
set_option maxRecDepth 20000 in
theorem tX12_keepPast_44 (E : EV) (d : Nat) (rr : Option Value × Mem) (I : Mem) (y : Mem) (hf : jX12_keepPast_44 I = some y) (hK : (fun (z : Mem) => ((none : Option Value), z) = rr) y) : G E (d + 0) kX12_keepPast 44 [some (.ref 74), none, none] [] I rr := by
  unfold jX12_keepPast_44 at hf
  refine G.aload_n dX12_keepPast_44 rfl rfl ?_
  refine G.getR (q := 75) dX12_keepPast_45 flX12_7 (by decide) rfl rfl ?_
  refine G.bipush (v := 53) dX12_keepPast_48 (by decide) ?_
  refine G.dup2 dX12_keepPast_50 rfl rfl ?_
  obtain ⟨hi_1, hf⟩ := chk_at hf
  refine G.iald' dX12_keepPast_51 (by decide) rfl rfl hi_1 ?_
  refine G.aload_n dX12_keepPast_52 rfl rfl ?_
  refine G.getR (q := 75) dX12_keepPast_53 flX12_7 (by decide) rfl rfl ?_
  refine G.bipush (v := 53) dX12_keepPast_56 (by decide) ?_
  obtain ⟨hi_2, hf⟩ := chk_at hf
  refine G.iald' dX12_keepPast_58 (by decide) rfl rfl hi_2 ?_
  refine G.bipush (v := 8) dX12_keepPast_59 (by decide) ?_
  refine G.icmp_ne (tgt := 68) dX12_keepPast_61 (by decide) (fun c_22 => ?_) (fun c_22 => ?_)
  · have hf := ite_f hf c_22
    refine G.iconst (v := 0) dX12_keepPast_68 (by decide) ?_
    exact tX12_keepPast_69 E d rr (0 : Int32) (I 75 (ix (53 : Int32))) (53 : Int32) I _ hf hK
  · have hf := ite_t hf c_22
    refine G.iconst (v := 1) dX12_keepPast_64 (by decide) ?_
    refine G.goto (tgt := 69) dX12_keepPast_65 (by decide) ?_
    exact tX12_keepPast_69 E d rr (1 : Int32) (I 75 (ix (53 : Int32))) (53 : Int32) I _ hf hK
def bX12_keepPast_2 (x1 : Int32) (I : Mem) : Option ((Int32 × Mem) ⊕ Mem) :=
  if (91 : Int32) ≤ x1 then
  (inrO (jX12_keepPast_44 I))
  else
  (chk (inb (53 : Int32) 632) <|
  if (I 75 (ix (53 : Int32))) = (8 : Int32) then
  (chk (inb ((67 : Int32) + x1) 632) <|
  chk (inb ((54 : Int32) + x1) 632) <|
  letb (up2 I 75 (ix ((54 : Int32) + x1)) (I 75 (ix ((67 : Int32) + x1)))) fun I_28 =>
  some (.inl ((x1 + (1 : Int32)), I_28)))
  else
  (inrO (jX12_keepPast_44 I)))
def sX12_keepPast_2 (q : (Int32 × Mem)) : Option ((Int32 × Mem) ⊕ Mem) := bX12_keepPast_2 q.1 q.2
set_option maxRecDepth 20000 in
theorem wX12_keepPast_2 (E : EV) (d : Nat) (rr : Option Value × Mem) (x1 : Int32) (I : Mem) (y : ((Int32 × Mem) ⊕ Mem)) (hf : bX12_keepPast_2 x1 I = some y) (hK : (KX12_keepPast_2 E d rr  (fun (z : Mem) => ((none : Option Value), z) = rr)) y) : G E (d + 0) kX12_keepPast 2 [some (.ref 74), some (.int x1), none] [] I rr := by
  unfold bX12_keepPast_2 at hf
  refine G.iload_n dX12_keepPast_2 rfl rfl ?_
  refine G.bipush (v := 91) dX12_keepPast_3 (by decide) ?_
  refine G.icmp_ge (tgt := 44) dX12_keepPast_5 (by decide) (fun c_30 => ?_) (fun c_30 => ?_)
  · have hf := ite_t hf c_30
    obtain ⟨z_23, hz_23, rfl⟩ := inrO_at hf
    have hf := hz_23
    refine G.forget (L' := [some (.ref 74), none, none]) [1] rfl ?_
    exact tX12_keepPast_44 E d rr I _ hf hK
  · have hf := ite_f hf c_30
    refine G.aload_n dX12_keepPast_8 rfl rfl ?_
    refine G.getR (q := 75) dX12_keepPast_9 flX12_7 (by decide) rfl rfl ?_
    refine G.bipush (v := 53) dX12_keepPast_12 (by decide) ?_
    obtain ⟨hi_24, hf⟩ := chk_at hf
    refine G.iald' dX12_keepPast_14 (by decide) rfl rfl hi_24 ?_
    refine G.bipush (v := 8) dX12_keepPast_15 (by decide) ?_
    refine G.icmp_ne (tgt := 44) dX12_keepPast_17 (by decide) (fun c_29 => ?_) (fun c_29 => ?_)
    · have hf := ite_f hf c_29
      obtain ⟨z_25, hz_25, rfl⟩ := inrO_at hf
      have hf := hz_25
      refine G.forget (L' := [some (.ref 74), none, none]) [1] rfl ?_
      exact tX12_keepPast_44 E d rr I _ hf hK
    · have hf := ite_t hf c_29
      refine G.aload_n dX12_keepPast_20 rfl rfl ?_
      refine G.getR (q := 75) dX12_keepPast_21 flX12_7 (by decide) rfl rfl ?_
      refine G.bipush (v := 54) dX12_keepPast_24 (by decide) ?_
      refine G.iload_n dX12_keepPast_26 rfl rfl ?_
      refine G.iadd dX12_keepPast_27 ?_
      refine G.aload_n dX12_keepPast_28 rfl rfl ?_
      refine G.getR (q := 75) dX12_keepPast_29 flX12_7 (by decide) rfl rfl ?_
      refine G.bipush (v := 67) dX12_keepPast_32 (by decide) ?_
      refine G.iload_n dX12_keepPast_34 rfl rfl ?_
      refine G.iadd dX12_keepPast_35 ?_
      obtain ⟨hi_26, hf⟩ := chk_at hf
      refine G.iald' dX12_keepPast_36 (by decide) rfl rfl hi_26 ?_
      obtain ⟨hi_27, hf⟩ := chk_at hf
      refine G.iast' dX12_keepPast_37 (by decide) rfl rfl hi_27 ?_
      refine G.nmI (fun I_28 e_I_28 => ?_)
      have hf := letb_at hf e_I_28
      clear e_I_28
      refine G.inc (w := 1) (L' := [some (.ref 74), some (.int (x1 + (1 : Int32))), none]) dX12_keepPast_38 (by decide) rfl (Nat.le_of_ble_eq_true rfl) rfl rfl ?_
      refine G.goto (tgt := 2) dX12_keepPast_41 (by decide) ?_
      have hf := Option.some.inj hf
      subst hf
      exact hK
theorem lX12_keepPast_2 (E : EV) (d : Nat) (rr : Option Value × Mem) (z : Mem) (hK : (fun (z : Mem) => ((none : Option Value), z) = rr) z) : ∀ (n : Nat) (q : (Int32 × Mem)), iter (sX12_keepPast_2) n q = some z → G E (d + 0) kX12_keepPast 2 [some (.ref 74), some (.int q.1), none] [] q.2 rr := by
  intro n
  induction n with
  | zero => intro q h; cases h
  | succ n ih =>
    intro q h
    rcases iter_at h with ⟨q2, hs, h2⟩ | hs
    · exact wX12_keepPast_2 E d rr q.1 q.2 _ hs (ih q2 h2)
    · exact wX12_keepPast_2 E d rr q.1 q.2 _ hs hK
def fX12_keepPast (I : Mem) : Option Mem :=
  iter (sX12_keepPast_2) FU ((0 : Int32), I)
set_option maxRecDepth 20000 in
theorem gX12_keepPast (E : EV) (d : Nat) (I : Mem) {J : Mem} (hf : fX12_keepPast I = some J) : Gm E (d + 0) kX12_keepPast [.ref 74] I (none, J) := by
  refine (fun (y : Mem) (hf : fX12_keepPast I = some y) => (?_ : Gm E (d + 0) kX12_keepPast [.ref 74] I (none, y))) J hf
  refine Gm.of (by decide) rfl (Nat.le_of_ble_eq_true rfl) ?_
  generalize hrr : ((none, y) : Option Value × Mem) = rr
  show G E (d + 0) kX12_keepPast 0 [some (.ref 74), none, none] [] I rr
  have hK : (fun (z : Mem) => ((none : Option Value), z) = rr) y := hrr
  clear hrr
  unfold fX12_keepPast at hf
  refine G.iconst (v := 0) dX12_keepPast_0 (by decide) ?_
  refine G.istore_n (L' := [some (.ref 74), some (.int (0 : Int32)), none]) dX12_keepPast_1 rfl (Nat.le_of_ble_eq_true rfl) (Nat.le_of_ble_eq_true rfl) rfl rfl ?_
  exact lX12_keepPast_2 E d rr _ hK FU _ hf
theorem dX12_beat_0 : decode cX12_beat 0 = .ok (.aload_n 0, 1) := by decide +kernel
theorem dX12_beat_1 : decode cX12_beat 1 = .ok (.iload_n 1, 1) := by decide +kernel
theorem dX12_beat_2 : decode cX12_beat 2 = .ok (.invokevirtual 170, 3) := by decide +kernel
theorem dX12_beat_5 : decode cX12_beat 5 = .ok (.ifCond .ne 10, 3) := by decide +kernel
theorem dX12_beat_8 : decode cX12_beat 8 = .ok (.aload_n 0, 1) := by decide +kernel
theorem dX12_beat_9 : decode cX12_beat 9 = .ok (.bipush (-2), 2) := by decide +kernel
theorem dX12_beat_11 : decode cX12_beat 11 = .ok (.invokevirtual 59, 3) := by decide +kernel
theorem dX12_beat_14 : decode cX12_beat 14 = .ok (.ireturn, 1) := by decide +kernel
theorem dX12_beat_15 : decode cX12_beat 15 = .ok (.aload_n 0, 1) := by decide +kernel
theorem dX12_beat_16 : decode cX12_beat 16 = .ok (.invokevirtual 173, 3) := by decide +kernel
theorem dX12_beat_19 : decode cX12_beat 19 = .ok (.istore_n 2, 1) := by decide +kernel
theorem dX12_beat_20 : decode cX12_beat 20 = .ok (.aload_n 0, 1) := by decide +kernel
theorem dX12_beat_21 : decode cX12_beat 21 = .ok (.iload_n 2, 1) := by decide +kernel
theorem dX12_beat_22 : decode cX12_beat 22 = .ok (.iload_n 1, 1) := by decide +kernel
theorem dX12_beat_23 : decode cX12_beat 23 = .ok (.invokevirtual 176, 3) := by decide +kernel
theorem dX12_beat_26 : decode cX12_beat 26 = .ok (.ifCond .ne 8, 3) := by decide +kernel
theorem dX12_beat_29 : decode cX12_beat 29 = .ok (.aload_n 0, 1) := by decide +kernel
theorem dX12_beat_30 : decode cX12_beat 30 = .ok (.invokevirtual 71, 3) := by decide +kernel
theorem dX12_beat_33 : decode cX12_beat 33 = .ok (.ireturn, 1) := by decide +kernel
theorem dX12_beat_34 : decode cX12_beat 34 = .ok (.aload_n 0, 1) := by decide +kernel
theorem dX12_beat_35 : decode cX12_beat 35 = .ok (.iload_n 2, 1) := by decide +kernel
theorem dX12_beat_36 : decode cX12_beat 36 = .ok (.iload_n 1, 1) := by decide +kernel
theorem dX12_beat_37 : decode cX12_beat 37 = .ok (.invokevirtual 179, 3) := by decide +kernel
theorem dX12_beat_40 : decode cX12_beat 40 = .ok (.istore_n 3, 1) := by decide +kernel
theorem dX12_beat_41 : decode cX12_beat 41 = .ok (.aload_n 0, 1) := by decide +kernel
theorem dX12_beat_42 : decode cX12_beat 42 = .ok (.invokevirtual 182, 3) := by decide +kernel
theorem dX12_beat_45 : decode cX12_beat 45 = .ok (.iconst 0, 1) := by decide +kernel
theorem dX12_beat_46 : decode cX12_beat 46 = .ok (.istore 4, 2) := by decide +kernel
theorem dX12_beat_48 : decode cX12_beat 48 = .ok (.iload 4, 2) := by decide +kernel
theorem dX12_beat_50 : decode cX12_beat 50 = .ok (.iconst 5, 1) := by decide +kernel
theorem dX12_beat_51 : decode cX12_beat 51 = .ok (.if_icmp .ge 26, 3) := by decide +kernel
theorem dX12_beat_54 : decode cX12_beat 54 = .ok (.aload_n 0, 1) := by decide +kernel
theorem dX12_beat_55 : decode cX12_beat 55 = .ok (.getfield 7, 3) := by decide +kernel
theorem dX12_beat_58 : decode cX12_beat 58 = .ok (.bipush 10, 2) := by decide +kernel
theorem dX12_beat_60 : decode cX12_beat 60 = .ok (.iload 4, 2) := by decide +kernel
theorem dX12_beat_62 : decode cX12_beat 62 = .ok (.iadd, 1) := by decide +kernel
theorem dX12_beat_63 : decode cX12_beat 63 = .ok (.aload_n 0, 1) := by decide +kernel
theorem dX12_beat_64 : decode cX12_beat 64 = .ok (.getfield 26, 3) := by decide +kernel
theorem dX12_beat_67 : decode cX12_beat 67 = .ok (.iload 4, 2) := by decide +kernel
theorem dX12_beat_69 : decode cX12_beat 69 = .ok (.iaload, 1) := by decide +kernel
theorem dX12_beat_70 : decode cX12_beat 70 = .ok (.iastore, 1) := by decide +kernel
theorem dX12_beat_71 : decode cX12_beat 71 = .ok (.iinc 4 1, 3) := by decide +kernel
theorem dX12_beat_74 : decode cX12_beat 74 = .ok (.goto (-26), 3) := by decide +kernel
theorem dX12_beat_77 : decode cX12_beat 77 = .ok (.iconst 0, 1) := by decide +kernel
theorem dX12_beat_78 : decode cX12_beat 78 = .ok (.istore 4, 2) := by decide +kernel
theorem dX12_beat_80 : decode cX12_beat 80 = .ok (.iload 4, 2) := by decide +kernel
theorem dX12_beat_82 : decode cX12_beat 82 = .ok (.aload_n 0, 1) := by decide +kernel
theorem dX12_beat_83 : decode cX12_beat 83 = .ok (.getfield 7, 3) := by decide +kernel
theorem dX12_beat_86 : decode cX12_beat 86 = .ok (.iconst 3, 1) := by decide +kernel
theorem dX12_beat_87 : decode cX12_beat 87 = .ok (.iaload, 1) := by decide +kernel
theorem dX12_beat_88 : decode cX12_beat 88 = .ok (.if_icmp .ge 42, 3) := by decide +kernel
theorem dX12_beat_91 : decode cX12_beat 91 = .ok (.aload_n 0, 1) := by decide +kernel
theorem dX12_beat_92 : decode cX12_beat 92 = .ok (.getfield 7, 3) := by decide +kernel
theorem dX12_beat_95 : decode cX12_beat 95 = .ok (.bipush 24, 2) := by decide +kernel
theorem dX12_beat_97 : decode cX12_beat 97 = .ok (.iload 4, 2) := by decide +kernel
theorem dX12_beat_99 : decode cX12_beat 99 = .ok (.iadd, 1) := by decide +kernel
theorem dX12_beat_100 : decode cX12_beat 100 = .ok (.aload_n 0, 1) := by decide +kernel
theorem dX12_beat_101 : decode cX12_beat 101 = .ok (.getfield 29, 3) := by decide +kernel
theorem dX12_beat_104 : decode cX12_beat 104 = .ok (.iload 4, 2) := by decide +kernel
theorem dX12_beat_106 : decode cX12_beat 106 = .ok (.iaload, 1) := by decide +kernel
theorem dX12_beat_107 : decode cX12_beat 107 = .ok (.iastore, 1) := by decide +kernel
theorem dX12_beat_108 : decode cX12_beat 108 = .ok (.aload_n 0, 1) := by decide +kernel
theorem dX12_beat_109 : decode cX12_beat 109 = .ok (.getfield 7, 3) := by decide +kernel
theorem dX12_beat_112 : decode cX12_beat 112 = .ok (.bipush 20, 2) := by decide +kernel
theorem dX12_beat_114 : decode cX12_beat 114 = .ok (.iload 4, 2) := by decide +kernel
theorem dX12_beat_116 : decode cX12_beat 116 = .ok (.iadd, 1) := by decide +kernel
theorem dX12_beat_117 : decode cX12_beat 117 = .ok (.iload_n 1, 1) := by decide +kernel
theorem dX12_beat_118 : decode cX12_beat 118 = .ok (.iload 4, 2) := by decide +kernel
theorem dX12_beat_120 : decode cX12_beat 120 = .ok (.invokestatic 151, 3) := by decide +kernel
theorem dX12_beat_123 : decode cX12_beat 123 = .ok (.iastore, 1) := by decide +kernel
theorem dX12_beat_124 : decode cX12_beat 124 = .ok (.iinc 4 1, 3) := by decide +kernel
theorem dX12_beat_127 : decode cX12_beat 127 = .ok (.goto (-47), 3) := by decide +kernel
theorem dX12_beat_130 : decode cX12_beat 130 = .ok (.aload_n 0, 1) := by decide +kernel
theorem dX12_beat_131 : decode cX12_beat 131 = .ok (.getfield 7, 3) := by decide +kernel
theorem dX12_beat_134 : decode cX12_beat 134 = .ok (.iconst 2, 1) := by decide +kernel
theorem dX12_beat_135 : decode cX12_beat 135 = .ok (.dup2, 1) := by decide +kernel
theorem dX12_beat_136 : decode cX12_beat 136 = .ok (.iaload, 1) := by decide +kernel
theorem dX12_beat_137 : decode cX12_beat 137 = .ok (.iconst 1, 1) := by decide +kernel
theorem dX12_beat_138 : decode cX12_beat 138 = .ok (.iadd, 1) := by decide +kernel
theorem dX12_beat_139 : decode cX12_beat 139 = .ok (.iastore, 1) := by decide +kernel
theorem dX12_beat_140 : decode cX12_beat 140 = .ok (.iload_n 3, 1) := by decide +kernel
theorem dX12_beat_141 : decode cX12_beat 141 = .ok (.ireturn, 1) := by decide +kernel
def KX12_beat_48 (E : EV) (d : Nat) (rr : Option Value × Mem) (x1 : Int32) (x3 : Int32) (Kp : (Int32 × Mem) → Prop) : ((Int32 × Mem) ⊕ (Int32 × Mem)) → Prop
  | .inl q => G E (d + 4) kX12_beat 48 [some (.ref 74), some (.int x1), none, some (.int x3), some (.int q.1)] [] q.2 rr
  | .inr z => Kp z
def KX12_beat_80 (E : EV) (d : Nat) (rr : Option Value × Mem) (x1 : Int32) (x3 : Int32) (Kp : (Int32 × Mem) → Prop) : ((Int32 × Mem) ⊕ (Int32 × Mem)) → Prop
  | .inl q => G E (d + 4) kX12_beat 80 [some (.ref 74), some (.int x1), none, some (.int x3), some (.int q.1)] [] q.2 rr
  | .inr z => Kp z
def bX12_beat_80 (x1 : Int32) (x3 : Int32) (x4 : Int32) (I : Mem) : Option ((Int32 × Mem) ⊕ (Int32 × Mem)) :=
  chk (inb (3 : Int32) 632) <|
  if (I 75 (ix (3 : Int32))) ≤ x4 then
  (chk (inb (2 : Int32) 632) <|
  chk (inb (2 : Int32) 632) <|
  letb (up2 I 75 (ix (2 : Int32)) ((I 75 (ix (2 : Int32))) + (1 : Int32))) fun I_15 =>
  some (.inr (x3, I_15)))
  else
  (chk (inb x4 4) <|
  chk (inb ((24 : Int32) + x4) 632) <|
  letb (up2 I 75 (ix ((24 : Int32) + x4)) (I 81 (ix x4))) fun I_18 =>
  bnd (fX12_roomIn x1 x4 I_18) fun v_20 =>
  chk (inb ((20 : Int32) + x4) 632) <|
  letb (up2 I_18 75 (ix ((20 : Int32) + x4)) v_20) fun I_22 =>
  some (.inl ((x4 + (1 : Int32)), I_22)))
def sX12_beat_80 (x1 : Int32) (x3 : Int32) (q : (Int32 × Mem)) : Option ((Int32 × Mem) ⊕ (Int32 × Mem)) := bX12_beat_80 x1 x3 q.1 q.2
set_option maxRecDepth 20000 in
theorem wX12_beat_80 (E : EV) (d : Nat) (rr : Option Value × Mem) (x1 : Int32) (x3 : Int32) (x4 : Int32) (I : Mem) (y : ((Int32 × Mem) ⊕ (Int32 × Mem))) (hf : bX12_beat_80 x1 x3 x4 I = some y) (hK : (KX12_beat_80 E d rr x1 x3 (fun (z : Int32 × Mem) => (some (.int z.1), z.2) = rr)) y) : G E (d + 4) kX12_beat 80 [some (.ref 74), some (.int x1), none, some (.int x3), some (.int x4)] [] I rr := by
  unfold bX12_beat_80 at hf
  refine G.iload dX12_beat_80 rfl ?_
  refine G.aload_n dX12_beat_82 rfl rfl ?_
  refine G.getR (q := 75) dX12_beat_83 flX12_7 (by decide) rfl rfl ?_
  refine G.iconst (v := 3) dX12_beat_86 (by decide) ?_
  obtain ⟨hi_12, hf⟩ := chk_at hf
  refine G.iald' dX12_beat_87 (by decide) rfl rfl hi_12 ?_
  refine G.icmp_ge (tgt := 130) dX12_beat_88 (by decide) (fun c_23 => ?_) (fun c_23 => ?_)
  · have hf := ite_t hf c_23
    refine G.aload_n dX12_beat_130 rfl rfl ?_
    refine G.getR (q := 75) dX12_beat_131 flX12_7 (by decide) rfl rfl ?_
    refine G.iconst (v := 2) dX12_beat_134 (by decide) ?_
    refine G.dup2 dX12_beat_135 rfl rfl ?_
    obtain ⟨hi_13, hf⟩ := chk_at hf
    refine G.iald' dX12_beat_136 (by decide) rfl rfl hi_13 ?_
    refine G.iconst (v := 1) dX12_beat_137 (by decide) ?_
    refine G.iadd dX12_beat_138 ?_
    obtain ⟨hi_14, hf⟩ := chk_at hf
    refine G.iast' dX12_beat_139 (by decide) rfl rfl hi_14 ?_
    refine G.nmI (fun I_15 e_I_15 => ?_)
    have hf := letb_at hf e_I_15
    clear e_I_15
    refine G.iload_n dX12_beat_140 rfl rfl ?_
    have hf := Option.some.inj hf
    subst hf
    exact G.iret' dX12_beat_141 rfl hK
  · have hf := ite_f hf c_23
    refine G.aload_n dX12_beat_91 rfl rfl ?_
    refine G.getR (q := 75) dX12_beat_92 flX12_7 (by decide) rfl rfl ?_
    refine G.bipush (v := 24) dX12_beat_95 (by decide) ?_
    refine G.iload dX12_beat_97 rfl ?_
    refine G.iadd dX12_beat_99 ?_
    refine G.aload_n dX12_beat_100 rfl rfl ?_
    refine G.getR (q := 81) dX12_beat_101 flX12_29 (by decide) rfl rfl ?_
    refine G.iload dX12_beat_104 rfl ?_
    obtain ⟨hi_16, hf⟩ := chk_at hf
    refine G.iald' dX12_beat_106 (by decide) rfl rfl hi_16 ?_
    obtain ⟨hi_17, hf⟩ := chk_at hf
    refine G.iast' dX12_beat_107 (by decide) rfl rfl hi_17 ?_
    refine G.nmI (fun I_18 e_I_18 => ?_)
    have hf := letb_at hf e_I_18
    clear e_I_18
    refine G.aload_n dX12_beat_108 rfl rfl ?_
    refine G.getR (q := 75) dX12_beat_109 flX12_7 (by decide) rfl rfl ?_
    refine G.bipush (v := 20) dX12_beat_112 (by decide) ?_
    refine G.iload dX12_beat_114 rfl ?_
    refine G.iadd dX12_beat_116 ?_
    refine G.iload_n dX12_beat_117 rfl rfl ?_
    refine G.iload dX12_beat_118 rfl ?_
    obtain ⟨v_20, hc_19, hf⟩ := bnd_at hf
    refine G.callSi (av := [.int x1, .int x4]) (rest := [.int ((20 : Int32) + x4), .ref 75]) dX12_beat_120 msX12_151 (gX12_roomIn E (d + 3) x1 x4 I_18 hc_19) rfl rfl (Nat.le_of_ble_eq_true rfl) ?_
    obtain ⟨hi_21, hf⟩ := chk_at hf
    refine G.iast' dX12_beat_123 (by decide) rfl rfl hi_21 ?_
    refine G.nmI (fun I_22 e_I_22 => ?_)
    have hf := letb_at hf e_I_22
    clear e_I_22
    refine G.inc (w := 1) (L' := [some (.ref 74), some (.int x1), none, some (.int x3), some (.int (x4 + (1 : Int32)))]) dX12_beat_124 (by decide) rfl (Nat.le_of_ble_eq_true rfl) rfl rfl ?_
    refine G.goto (tgt := 80) dX12_beat_127 (by decide) ?_
    have hf := Option.some.inj hf
    subst hf
    exact hK
theorem lX12_beat_80 (E : EV) (d : Nat) (rr : Option Value × Mem) (x1 : Int32) (x3 : Int32) (z : (Int32 × Mem)) (hK : (fun (z : Int32 × Mem) => (some (.int z.1), z.2) = rr) z) : ∀ (n : Nat) (q : (Int32 × Mem)), iter (sX12_beat_80 x1 x3) n q = some z → G E (d + 4) kX12_beat 80 [some (.ref 74), some (.int x1), none, some (.int x3), some (.int q.1)] [] q.2 rr := by
  intro n
  induction n with
  | zero => intro q h; cases h
  | succ n ih =>
    intro q h
    rcases iter_at h with ⟨q2, hs, h2⟩ | hs
    · exact wX12_beat_80 E d rr x1 x3 q.1 q.2 _ hs (ih q2 h2)
    · exact wX12_beat_80 E d rr x1 x3 q.1 q.2 _ hs hK
def bX12_beat_48 (x1 : Int32) (x3 : Int32) (x4 : Int32) (I : Mem) : Option ((Int32 × Mem) ⊕ (Int32 × Mem)) :=
  if (5 : Int32) ≤ x4 then
  (inrO (iter (sX12_beat_80 x1 x3) FU ((0 : Int32), I)))
  else
  (chk (inb x4 5) <|
  chk (inb ((10 : Int32) + x4) 632) <|
  letb (up2 I 75 (ix ((10 : Int32) + x4)) (I 80 (ix x4))) fun I_27 =>
  some (.inl ((x4 + (1 : Int32)), I_27)))
def sX12_beat_48 (x1 : Int32) (x3 : Int32) (q : (Int32 × Mem)) : Option ((Int32 × Mem) ⊕ (Int32 × Mem)) := bX12_beat_48 x1 x3 q.1 q.2
set_option maxRecDepth 20000 in
theorem wX12_beat_48 (E : EV) (d : Nat) (rr : Option Value × Mem) (x1 : Int32) (x3 : Int32) (x4 : Int32) (I : Mem) (y : ((Int32 × Mem) ⊕ (Int32 × Mem))) (hf : bX12_beat_48 x1 x3 x4 I = some y) (hK : (KX12_beat_48 E d rr x1 x3 (fun (z : Int32 × Mem) => (some (.int z.1), z.2) = rr)) y) : G E (d + 4) kX12_beat 48 [some (.ref 74), some (.int x1), none, some (.int x3), some (.int x4)] [] I rr := by
  unfold bX12_beat_48 at hf
  refine G.iload dX12_beat_48 rfl ?_
  refine G.iconst (v := 5) dX12_beat_50 (by decide) ?_
  refine G.icmp_ge (tgt := 77) dX12_beat_51 (by decide) (fun c_28 => ?_) (fun c_28 => ?_)
  · have hf := ite_t hf c_28
    refine G.iconst (v := 0) dX12_beat_77 (by decide) ?_
    refine G.istore (L' := [some (.ref 74), some (.int x1), none, some (.int x3), some (.int (0 : Int32))]) dX12_beat_78 (Nat.le_of_ble_eq_true rfl) (Nat.le_of_ble_eq_true rfl) rfl rfl ?_
    obtain ⟨z_24, hz_24, rfl⟩ := inrO_at hf
    have hf := hz_24
    exact lX12_beat_80 E d rr x1 x3 _ hK FU _ hf
  · have hf := ite_f hf c_28
    refine G.aload_n dX12_beat_54 rfl rfl ?_
    refine G.getR (q := 75) dX12_beat_55 flX12_7 (by decide) rfl rfl ?_
    refine G.bipush (v := 10) dX12_beat_58 (by decide) ?_
    refine G.iload dX12_beat_60 rfl ?_
    refine G.iadd dX12_beat_62 ?_
    refine G.aload_n dX12_beat_63 rfl rfl ?_
    refine G.getR (q := 80) dX12_beat_64 flX12_26 (by decide) rfl rfl ?_
    refine G.iload dX12_beat_67 rfl ?_
    obtain ⟨hi_25, hf⟩ := chk_at hf
    refine G.iald' dX12_beat_69 (by decide) rfl rfl hi_25 ?_
    obtain ⟨hi_26, hf⟩ := chk_at hf
    refine G.iast' dX12_beat_70 (by decide) rfl rfl hi_26 ?_
    refine G.nmI (fun I_27 e_I_27 => ?_)
    have hf := letb_at hf e_I_27
    clear e_I_27
    refine G.inc (w := 1) (L' := [some (.ref 74), some (.int x1), none, some (.int x3), some (.int (x4 + (1 : Int32)))]) dX12_beat_71 (by decide) rfl (Nat.le_of_ble_eq_true rfl) rfl rfl ?_
    refine G.goto (tgt := 48) dX12_beat_74 (by decide) ?_
    have hf := Option.some.inj hf
    subst hf
    exact hK
theorem lX12_beat_48 (E : EV) (d : Nat) (rr : Option Value × Mem) (x1 : Int32) (x3 : Int32) (z : (Int32 × Mem)) (hK : (fun (z : Int32 × Mem) => (some (.int z.1), z.2) = rr) z) : ∀ (n : Nat) (q : (Int32 × Mem)), iter (sX12_beat_48 x1 x3) n q = some z → G E (d + 4) kX12_beat 48 [some (.ref 74), some (.int x1), none, some (.int x3), some (.int q.1)] [] q.2 rr := by
  intro n
  induction n with
  | zero => intro q h; cases h
  | succ n ih =>
    intro q h
    rcases iter_at h with ⟨q2, hs, h2⟩ | hs
    · exact wX12_beat_48 E d rr x1 x3 q.1 q.2 _ hs (ih q2 h2)
    · exact wX12_beat_48 E d rr x1 x3 q.1 q.2 _ hs hK
def fX12_beat (x1 : Int32) (I : Mem) : Option (Int32 × Mem) :=
  bnd (fX12_isStanding x1 I) fun v_2 =>
  if v_2 = 0 then
  (bnd2 (fX12_bad (-2 : Int32) I) fun v_34 I_35 =>
  some (v_34, I_35))
  else
  (bnd (fX12_now I) fun v_4 =>
  bnd (fX12_mayGo v_4 x1 I) fun v_6 =>
  if v_6 = 0 then
  (bnd2 (fX12_no I) fun v_30 I_31 =>
  some (v_30, I_31))
  else
  (bnd2 (fX12_tryBeat v_4 x1 I) fun v_8 I_9 =>
  bnd (fX12_keepPast I_9) fun I_11 =>
  iter (sX12_beat_48 x1 v_8) FU ((0 : Int32), I_11)))
set_option maxRecDepth 20000 in
theorem gX12_beat (E : EV) (d : Nat) (x1 : Int32) (I : Mem) {v : Int32} {J : Mem} (hf : fX12_beat x1 I = some (v, J)) : Gm E (d + 4) kX12_beat [.ref 74, .int x1] I (some (.int v), J) := by
  refine (fun (y : (Int32 × Mem)) (hf : fX12_beat x1 I = some y) => (?_ : Gm E (d + 4) kX12_beat [.ref 74, .int x1] I (some (.int y.1), y.2))) (v, J) hf
  refine Gm.of (by decide) rfl (Nat.le_of_ble_eq_true rfl) ?_
  generalize hrr : ((some (.int y.1), y.2) : Option Value × Mem) = rr
  show G E (d + 4) kX12_beat 0 [some (.ref 74), some (.int x1), none, none, none] [] I rr
  have hK : (fun (z : Int32 × Mem) => (some (.int z.1), z.2) = rr) y := hrr
  clear hrr
  unfold fX12_beat at hf
  refine G.aload_n dX12_beat_0 rfl rfl ?_
  refine G.iload_n dX12_beat_1 rfl rfl ?_
  obtain ⟨v_2, hc_1, hf⟩ := bnd_at hf
  refine G.callVi (av := [.int x1]) (rest := []) dX12_beat_2 mvX12_170 (gX12_isStanding E (d + 1) x1 I hc_1) (by decide) rfl rfl rfl (Nat.le_of_ble_eq_true rfl) ?_
  refine G.if_ne (tgt := 15) dX12_beat_5 (by decide) (fun c_36 => ?_) (fun c_36 => ?_)
  · have hf := ite_f hf c_36
    refine G.aload_n dX12_beat_15 rfl rfl ?_
    obtain ⟨v_4, hc_3, hf⟩ := bnd_at hf
    refine G.callVi (av := []) (rest := []) dX12_beat_16 mvX12_173 (gX12_now E (d + 3) I hc_3) (by decide) rfl rfl rfl (Nat.le_of_ble_eq_true rfl) ?_
    refine G.istore_n (L' := [some (.ref 74), some (.int x1), some (.int v_4), none, none]) dX12_beat_19 rfl (Nat.le_of_ble_eq_true rfl) (Nat.le_of_ble_eq_true rfl) rfl rfl ?_
    refine G.aload_n dX12_beat_20 rfl rfl ?_
    refine G.iload_n dX12_beat_21 rfl rfl ?_
    refine G.iload_n dX12_beat_22 rfl rfl ?_
    obtain ⟨v_6, hc_5, hf⟩ := bnd_at hf
    refine G.callVi (av := [.int v_4, .int x1]) (rest := []) dX12_beat_23 mvX12_176 (gX12_mayGo E (d + 2) v_4 x1 I hc_5) (by decide) rfl rfl rfl (Nat.le_of_ble_eq_true rfl) ?_
    refine G.if_ne (tgt := 34) dX12_beat_26 (by decide) (fun c_32 => ?_) (fun c_32 => ?_)
    · have hf := ite_f hf c_32
      refine G.aload_n dX12_beat_34 rfl rfl ?_
      refine G.iload_n dX12_beat_35 rfl rfl ?_
      refine G.iload_n dX12_beat_36 rfl rfl ?_
      obtain ⟨v_8, I_9, hc_7, hf⟩ := bnd2_at hf
      refine G.callVi (av := [.int v_4, .int x1]) (rest := []) dX12_beat_37 mvX12_179 (gX12_tryBeat E d v_4 x1 I hc_7) (by decide) rfl rfl rfl (Nat.le_of_ble_eq_true rfl) ?_
      refine G.istore_n (L' := [some (.ref 74), some (.int x1), some (.int v_4), some (.int v_8), none]) dX12_beat_40 rfl (Nat.le_of_ble_eq_true rfl) (Nat.le_of_ble_eq_true rfl) rfl rfl ?_
      refine G.aload_n dX12_beat_41 rfl rfl ?_
      obtain ⟨I_11, hc_10, hf⟩ := bnd_at hf
      refine G.callVv (av := []) (rest := []) dX12_beat_42 mvX12_182 (gX12_keepPast E (d + 3) I_9 hc_10) (by decide) rfl rfl rfl (Nat.le_of_ble_eq_true rfl) ?_
      refine G.iconst (v := 0) dX12_beat_45 (by decide) ?_
      refine G.istore (L' := [some (.ref 74), some (.int x1), some (.int v_4), some (.int v_8), some (.int (0 : Int32))]) dX12_beat_46 (Nat.le_of_ble_eq_true rfl) (Nat.le_of_ble_eq_true rfl) rfl rfl ?_
      refine G.forget (L' := [some (.ref 74), some (.int x1), none, some (.int v_8), some (.int (0 : Int32))]) [2] rfl ?_
      exact lX12_beat_48 E d rr x1 v_8 _ hK FU _ hf
    · have hf := ite_t hf c_32
      refine G.aload_n dX12_beat_29 rfl rfl ?_
      obtain ⟨v_30, I_31, hc_29, hf⟩ := bnd2_at hf
      refine G.callVi (av := []) (rest := []) dX12_beat_30 mvX12_71 (gX12_no E (d + 3) I hc_29) (by decide) rfl rfl rfl (Nat.le_of_ble_eq_true rfl) ?_
      have hf := Option.some.inj hf
      subst hf
      exact G.iret' dX12_beat_33 rfl hK
  · have hf := ite_t hf c_36
    refine G.aload_n dX12_beat_8 rfl rfl ?_
    refine G.bipush (v := -2) dX12_beat_9 (by decide) ?_
    obtain ⟨v_34, I_35, hc_33, hf⟩ := bnd2_at hf
    refine G.callVi (av := [.int (-2 : Int32)]) (rest := []) dX12_beat_11 mvX12_59 (gX12_bad E (d + 3) (-2 : Int32) I hc_33) (by decide) rfl rfl rfl (Nat.le_of_ble_eq_true rfl) ?_
    have hf := Option.some.inj hf
    subst hf
    exact G.iret' dX12_beat_14 rfl hK
theorem dX12_undo_0 : decode cX12_undo 0 = .ok (.aload_n 0, 1) := by decide +kernel
theorem dX12_undo_1 : decode cX12_undo 1 = .ok (.getfield 7, 3) := by decide +kernel
theorem dX12_undo_4 : decode cX12_undo 4 = .ok (.bipush 53, 2) := by decide +kernel
theorem dX12_undo_6 : decode cX12_undo 6 = .ok (.iaload, 1) := by decide +kernel
theorem dX12_undo_7 : decode cX12_undo 7 = .ok (.ifCond .ne 8, 3) := by decide +kernel
theorem dX12_undo_10 : decode cX12_undo 10 = .ok (.aload_n 0, 1) := by decide +kernel
theorem dX12_undo_11 : decode cX12_undo 11 = .ok (.invokevirtual 71, 3) := by decide +kernel
theorem dX12_undo_14 : decode cX12_undo 14 = .ok (.ireturn, 1) := by decide +kernel
theorem dX12_undo_15 : decode cX12_undo 15 = .ok (.aload_n 0, 1) := by decide +kernel
theorem dX12_undo_16 : decode cX12_undo 16 = .ok (.getfield 7, 3) := by decide +kernel
theorem dX12_undo_19 : decode cX12_undo 19 = .ok (.bipush 53, 2) := by decide +kernel
theorem dX12_undo_21 : decode cX12_undo 21 = .ok (.dup2, 1) := by decide +kernel
theorem dX12_undo_22 : decode cX12_undo 22 = .ok (.iaload, 1) := by decide +kernel
theorem dX12_undo_23 : decode cX12_undo 23 = .ok (.iconst 1, 1) := by decide +kernel
theorem dX12_undo_24 : decode cX12_undo 24 = .ok (.isub, 1) := by decide +kernel
theorem dX12_undo_25 : decode cX12_undo 25 = .ok (.iastore, 1) := by decide +kernel
theorem dX12_undo_26 : decode cX12_undo 26 = .ok (.bipush 54, 2) := by decide +kernel
theorem dX12_undo_28 : decode cX12_undo 28 = .ok (.bipush 13, 2) := by decide +kernel
theorem dX12_undo_30 : decode cX12_undo 30 = .ok (.aload_n 0, 1) := by decide +kernel
theorem dX12_undo_31 : decode cX12_undo 31 = .ok (.getfield 7, 3) := by decide +kernel
theorem dX12_undo_34 : decode cX12_undo 34 = .ok (.bipush 53, 2) := by decide +kernel
theorem dX12_undo_36 : decode cX12_undo 36 = .ok (.iaload, 1) := by decide +kernel
theorem dX12_undo_37 : decode cX12_undo 37 = .ok (.imul, 1) := by decide +kernel
theorem dX12_undo_38 : decode cX12_undo 38 = .ok (.iadd, 1) := by decide +kernel
theorem dX12_undo_39 : decode cX12_undo 39 = .ok (.istore_n 1, 1) := by decide +kernel
theorem dX12_undo_40 : decode cX12_undo 40 = .ok (.iconst 0, 1) := by decide +kernel
theorem dX12_undo_41 : decode cX12_undo 41 = .ok (.istore_n 2, 1) := by decide +kernel
theorem dX12_undo_42 : decode cX12_undo 42 = .ok (.iload_n 2, 1) := by decide +kernel
theorem dX12_undo_43 : decode cX12_undo 43 = .ok (.iconst 5, 1) := by decide +kernel
theorem dX12_undo_44 : decode cX12_undo 44 = .ok (.if_icmp .ge 26, 3) := by decide +kernel
theorem dX12_undo_47 : decode cX12_undo 47 = .ok (.aload_n 0, 1) := by decide +kernel
theorem dX12_undo_48 : decode cX12_undo 48 = .ok (.getfield 7, 3) := by decide +kernel
theorem dX12_undo_51 : decode cX12_undo 51 = .ok (.bipush 10, 2) := by decide +kernel
theorem dX12_undo_53 : decode cX12_undo 53 = .ok (.iload_n 2, 1) := by decide +kernel
theorem dX12_undo_54 : decode cX12_undo 54 = .ok (.iadd, 1) := by decide +kernel
theorem dX12_undo_55 : decode cX12_undo 55 = .ok (.aload_n 0, 1) := by decide +kernel
theorem dX12_undo_56 : decode cX12_undo 56 = .ok (.getfield 7, 3) := by decide +kernel
theorem dX12_undo_59 : decode cX12_undo 59 = .ok (.iload_n 1, 1) := by decide +kernel
theorem dX12_undo_60 : decode cX12_undo 60 = .ok (.iload_n 2, 1) := by decide +kernel
theorem dX12_undo_61 : decode cX12_undo 61 = .ok (.iadd, 1) := by decide +kernel
theorem dX12_undo_62 : decode cX12_undo 62 = .ok (.iaload, 1) := by decide +kernel
theorem dX12_undo_63 : decode cX12_undo 63 = .ok (.iastore, 1) := by decide +kernel
theorem dX12_undo_64 : decode cX12_undo 64 = .ok (.iinc 2 1, 3) := by decide +kernel
theorem dX12_undo_67 : decode cX12_undo 67 = .ok (.goto (-25), 3) := by decide +kernel
theorem dX12_undo_70 : decode cX12_undo 70 = .ok (.iconst 0, 1) := by decide +kernel
theorem dX12_undo_71 : decode cX12_undo 71 = .ok (.istore_n 2, 1) := by decide +kernel
theorem dX12_undo_72 : decode cX12_undo 72 = .ok (.iload_n 2, 1) := by decide +kernel
theorem dX12_undo_73 : decode cX12_undo 73 = .ok (.iconst 4, 1) := by decide +kernel
theorem dX12_undo_74 : decode cX12_undo 74 = .ok (.if_icmp .ge 48, 3) := by decide +kernel
theorem dX12_undo_77 : decode cX12_undo 77 = .ok (.aload_n 0, 1) := by decide +kernel
theorem dX12_undo_78 : decode cX12_undo 78 = .ok (.getfield 7, 3) := by decide +kernel
theorem dX12_undo_81 : decode cX12_undo 81 = .ok (.bipush 24, 2) := by decide +kernel
theorem dX12_undo_83 : decode cX12_undo 83 = .ok (.iload_n 2, 1) := by decide +kernel
theorem dX12_undo_84 : decode cX12_undo 84 = .ok (.iadd, 1) := by decide +kernel
theorem dX12_undo_85 : decode cX12_undo 85 = .ok (.aload_n 0, 1) := by decide +kernel
theorem dX12_undo_86 : decode cX12_undo 86 = .ok (.getfield 7, 3) := by decide +kernel
theorem dX12_undo_89 : decode cX12_undo 89 = .ok (.iload_n 1, 1) := by decide +kernel
theorem dX12_undo_90 : decode cX12_undo 90 = .ok (.iconst 5, 1) := by decide +kernel
theorem dX12_undo_91 : decode cX12_undo 91 = .ok (.iadd, 1) := by decide +kernel
theorem dX12_undo_92 : decode cX12_undo 92 = .ok (.iload_n 2, 1) := by decide +kernel
theorem dX12_undo_93 : decode cX12_undo 93 = .ok (.iadd, 1) := by decide +kernel
theorem dX12_undo_94 : decode cX12_undo 94 = .ok (.iaload, 1) := by decide +kernel
theorem dX12_undo_95 : decode cX12_undo 95 = .ok (.iastore, 1) := by decide +kernel
theorem dX12_undo_96 : decode cX12_undo 96 = .ok (.aload_n 0, 1) := by decide +kernel
theorem dX12_undo_97 : decode cX12_undo 97 = .ok (.getfield 7, 3) := by decide +kernel
theorem dX12_undo_100 : decode cX12_undo 100 = .ok (.bipush 20, 2) := by decide +kernel
theorem dX12_undo_102 : decode cX12_undo 102 = .ok (.iload_n 2, 1) := by decide +kernel
theorem dX12_undo_103 : decode cX12_undo 103 = .ok (.iadd, 1) := by decide +kernel
theorem dX12_undo_104 : decode cX12_undo 104 = .ok (.aload_n 0, 1) := by decide +kernel
theorem dX12_undo_105 : decode cX12_undo 105 = .ok (.getfield 7, 3) := by decide +kernel
theorem dX12_undo_108 : decode cX12_undo 108 = .ok (.iload_n 1, 1) := by decide +kernel
theorem dX12_undo_109 : decode cX12_undo 109 = .ok (.bipush 9, 2) := by decide +kernel
theorem dX12_undo_111 : decode cX12_undo 111 = .ok (.iadd, 1) := by decide +kernel
theorem dX12_undo_112 : decode cX12_undo 112 = .ok (.iload_n 2, 1) := by decide +kernel
theorem dX12_undo_113 : decode cX12_undo 113 = .ok (.iadd, 1) := by decide +kernel
theorem dX12_undo_114 : decode cX12_undo 114 = .ok (.iaload, 1) := by decide +kernel
theorem dX12_undo_115 : decode cX12_undo 115 = .ok (.iastore, 1) := by decide +kernel
theorem dX12_undo_116 : decode cX12_undo 116 = .ok (.iinc 2 1, 3) := by decide +kernel
theorem dX12_undo_119 : decode cX12_undo 119 = .ok (.goto (-47), 3) := by decide +kernel
theorem dX12_undo_122 : decode cX12_undo 122 = .ok (.aload_n 0, 1) := by decide +kernel
theorem dX12_undo_123 : decode cX12_undo 123 = .ok (.getfield 7, 3) := by decide +kernel
theorem dX12_undo_126 : decode cX12_undo 126 = .ok (.iconst 2, 1) := by decide +kernel
theorem dX12_undo_127 : decode cX12_undo 127 = .ok (.dup2, 1) := by decide +kernel
theorem dX12_undo_128 : decode cX12_undo 128 = .ok (.iaload, 1) := by decide +kernel
theorem dX12_undo_129 : decode cX12_undo 129 = .ok (.iconst 1, 1) := by decide +kernel
theorem dX12_undo_130 : decode cX12_undo 130 = .ok (.isub, 1) := by decide +kernel
theorem dX12_undo_131 : decode cX12_undo 131 = .ok (.iastore, 1) := by decide +kernel
theorem dX12_undo_132 : decode cX12_undo 132 = .ok (.iconst 1, 1) := by decide +kernel
theorem dX12_undo_133 : decode cX12_undo 133 = .ok (.ireturn, 1) := by decide +kernel
def KX12_undo_42 (E : EV) (d : Nat) (rr : Option Value × Mem) (x1 : Int32) (Kp : (Int32 × Mem) → Prop) : ((Int32 × Mem) ⊕ (Int32 × Mem)) → Prop
  | .inl q => G E (d + 1) kX12_undo 42 [some (.ref 74), some (.int x1), some (.int q.1)] [] q.2 rr
  | .inr z => Kp z
def KX12_undo_72 (E : EV) (d : Nat) (rr : Option Value × Mem) (x1 : Int32) (Kp : (Int32 × Mem) → Prop) : ((Int32 × Mem) ⊕ (Int32 × Mem)) → Prop
  | .inl q => G E (d + 1) kX12_undo 72 [some (.ref 74), some (.int x1), some (.int q.1)] [] q.2 rr
  | .inr z => Kp z
def bX12_undo_72 (x1 : Int32) (x2 : Int32) (I : Mem) : Option ((Int32 × Mem) ⊕ (Int32 × Mem)) :=
  if (4 : Int32) ≤ x2 then
  (chk (inb (2 : Int32) 632) <|
  chk (inb (2 : Int32) 632) <|
  letb (up2 I 75 (ix (2 : Int32)) ((I 75 (ix (2 : Int32))) - (1 : Int32))) fun I_9 =>
  some (.inr ((1 : Int32), I_9)))
  else
  (chk (inb ((x1 + (5 : Int32)) + x2) 632) <|
  chk (inb ((24 : Int32) + x2) 632) <|
  letb (up2 I 75 (ix ((24 : Int32) + x2)) (I 75 (ix ((x1 + (5 : Int32)) + x2)))) fun I_12 =>
  chk (inb ((x1 + (9 : Int32)) + x2) 632) <|
  chk (inb ((20 : Int32) + x2) 632) <|
  letb (up2 I_12 75 (ix ((20 : Int32) + x2)) (I_12 75 (ix ((x1 + (9 : Int32)) + x2)))) fun I_15 =>
  some (.inl ((x2 + (1 : Int32)), I_15)))
def sX12_undo_72 (x1 : Int32) (q : (Int32 × Mem)) : Option ((Int32 × Mem) ⊕ (Int32 × Mem)) := bX12_undo_72 x1 q.1 q.2
set_option maxRecDepth 20000 in
theorem wX12_undo_72 (E : EV) (d : Nat) (rr : Option Value × Mem) (x1 : Int32) (x2 : Int32) (I : Mem) (y : ((Int32 × Mem) ⊕ (Int32 × Mem))) (hf : bX12_undo_72 x1 x2 I = some y) (hK : (KX12_undo_72 E d rr x1 (fun (z : Int32 × Mem) => (some (.int z.1), z.2) = rr)) y) : G E (d + 1) kX12_undo 72 [some (.ref 74), some (.int x1), some (.int x2)] [] I rr := by
  unfold bX12_undo_72 at hf
  refine G.iload_n dX12_undo_72 rfl rfl ?_
  refine G.iconst (v := 4) dX12_undo_73 (by decide) ?_
  refine G.icmp_ge (tgt := 122) dX12_undo_74 (by decide) (fun c_16 => ?_) (fun c_16 => ?_)
  · have hf := ite_t hf c_16
    refine G.aload_n dX12_undo_122 rfl rfl ?_
    refine G.getR (q := 75) dX12_undo_123 flX12_7 (by decide) rfl rfl ?_
    refine G.iconst (v := 2) dX12_undo_126 (by decide) ?_
    refine G.dup2 dX12_undo_127 rfl rfl ?_
    obtain ⟨hi_7, hf⟩ := chk_at hf
    refine G.iald' dX12_undo_128 (by decide) rfl rfl hi_7 ?_
    refine G.iconst (v := 1) dX12_undo_129 (by decide) ?_
    refine G.isub dX12_undo_130 ?_
    obtain ⟨hi_8, hf⟩ := chk_at hf
    refine G.iast' dX12_undo_131 (by decide) rfl rfl hi_8 ?_
    refine G.nmI (fun I_9 e_I_9 => ?_)
    have hf := letb_at hf e_I_9
    clear e_I_9
    refine G.iconst (v := 1) dX12_undo_132 (by decide) ?_
    have hf := Option.some.inj hf
    subst hf
    exact G.iret' dX12_undo_133 rfl hK
  · have hf := ite_f hf c_16
    refine G.aload_n dX12_undo_77 rfl rfl ?_
    refine G.getR (q := 75) dX12_undo_78 flX12_7 (by decide) rfl rfl ?_
    refine G.bipush (v := 24) dX12_undo_81 (by decide) ?_
    refine G.iload_n dX12_undo_83 rfl rfl ?_
    refine G.iadd dX12_undo_84 ?_
    refine G.aload_n dX12_undo_85 rfl rfl ?_
    refine G.getR (q := 75) dX12_undo_86 flX12_7 (by decide) rfl rfl ?_
    refine G.iload_n dX12_undo_89 rfl rfl ?_
    refine G.iconst (v := 5) dX12_undo_90 (by decide) ?_
    refine G.iadd dX12_undo_91 ?_
    refine G.iload_n dX12_undo_92 rfl rfl ?_
    refine G.iadd dX12_undo_93 ?_
    obtain ⟨hi_10, hf⟩ := chk_at hf
    refine G.iald' dX12_undo_94 (by decide) rfl rfl hi_10 ?_
    obtain ⟨hi_11, hf⟩ := chk_at hf
    refine G.iast' dX12_undo_95 (by decide) rfl rfl hi_11 ?_
    refine G.nmI (fun I_12 e_I_12 => ?_)
    have hf := letb_at hf e_I_12
    clear e_I_12
    refine G.aload_n dX12_undo_96 rfl rfl ?_
    refine G.getR (q := 75) dX12_undo_97 flX12_7 (by decide) rfl rfl ?_
    refine G.bipush (v := 20) dX12_undo_100 (by decide) ?_
    refine G.iload_n dX12_undo_102 rfl rfl ?_
    refine G.iadd dX12_undo_103 ?_
    refine G.aload_n dX12_undo_104 rfl rfl ?_
    refine G.getR (q := 75) dX12_undo_105 flX12_7 (by decide) rfl rfl ?_
    refine G.iload_n dX12_undo_108 rfl rfl ?_
    refine G.bipush (v := 9) dX12_undo_109 (by decide) ?_
    refine G.iadd dX12_undo_111 ?_
    refine G.iload_n dX12_undo_112 rfl rfl ?_
    refine G.iadd dX12_undo_113 ?_
    obtain ⟨hi_13, hf⟩ := chk_at hf
    refine G.iald' dX12_undo_114 (by decide) rfl rfl hi_13 ?_
    obtain ⟨hi_14, hf⟩ := chk_at hf
    refine G.iast' dX12_undo_115 (by decide) rfl rfl hi_14 ?_
    refine G.nmI (fun I_15 e_I_15 => ?_)
    have hf := letb_at hf e_I_15
    clear e_I_15
    refine G.inc (w := 1) (L' := [some (.ref 74), some (.int x1), some (.int (x2 + (1 : Int32)))]) dX12_undo_116 (by decide) rfl (Nat.le_of_ble_eq_true rfl) rfl rfl ?_
    refine G.goto (tgt := 72) dX12_undo_119 (by decide) ?_
    have hf := Option.some.inj hf
    subst hf
    exact hK
theorem lX12_undo_72 (E : EV) (d : Nat) (rr : Option Value × Mem) (x1 : Int32) (z : (Int32 × Mem)) (hK : (fun (z : Int32 × Mem) => (some (.int z.1), z.2) = rr) z) : ∀ (n : Nat) (q : (Int32 × Mem)), iter (sX12_undo_72 x1) n q = some z → G E (d + 1) kX12_undo 72 [some (.ref 74), some (.int x1), some (.int q.1)] [] q.2 rr := by
  intro n
  induction n with
  | zero => intro q h; cases h
  | succ n ih =>
    intro q h
    rcases iter_at h with ⟨q2, hs, h2⟩ | hs
    · exact wX12_undo_72 E d rr x1 q.1 q.2 _ hs (ih q2 h2)
    · exact wX12_undo_72 E d rr x1 q.1 q.2 _ hs hK
def bX12_undo_42 (x1 : Int32) (x2 : Int32) (I : Mem) : Option ((Int32 × Mem) ⊕ (Int32 × Mem)) :=
  if (5 : Int32) ≤ x2 then
  (inrO (iter (sX12_undo_72 x1) FU ((0 : Int32), I)))
  else
  (chk (inb (x1 + x2) 632) <|
  chk (inb ((10 : Int32) + x2) 632) <|
  letb (up2 I 75 (ix ((10 : Int32) + x2)) (I 75 (ix (x1 + x2)))) fun I_20 =>
  some (.inl ((x2 + (1 : Int32)), I_20)))
def sX12_undo_42 (x1 : Int32) (q : (Int32 × Mem)) : Option ((Int32 × Mem) ⊕ (Int32 × Mem)) := bX12_undo_42 x1 q.1 q.2
set_option maxRecDepth 20000 in
theorem wX12_undo_42 (E : EV) (d : Nat) (rr : Option Value × Mem) (x1 : Int32) (x2 : Int32) (I : Mem) (y : ((Int32 × Mem) ⊕ (Int32 × Mem))) (hf : bX12_undo_42 x1 x2 I = some y) (hK : (KX12_undo_42 E d rr x1 (fun (z : Int32 × Mem) => (some (.int z.1), z.2) = rr)) y) : G E (d + 1) kX12_undo 42 [some (.ref 74), some (.int x1), some (.int x2)] [] I rr := by
  unfold bX12_undo_42 at hf
  refine G.iload_n dX12_undo_42 rfl rfl ?_
  refine G.iconst (v := 5) dX12_undo_43 (by decide) ?_
  refine G.icmp_ge (tgt := 70) dX12_undo_44 (by decide) (fun c_21 => ?_) (fun c_21 => ?_)
  · have hf := ite_t hf c_21
    refine G.iconst (v := 0) dX12_undo_70 (by decide) ?_
    refine G.istore_n (L' := [some (.ref 74), some (.int x1), some (.int (0 : Int32))]) dX12_undo_71 rfl (Nat.le_of_ble_eq_true rfl) (Nat.le_of_ble_eq_true rfl) rfl rfl ?_
    obtain ⟨z_17, hz_17, rfl⟩ := inrO_at hf
    have hf := hz_17
    exact lX12_undo_72 E d rr x1 _ hK FU _ hf
  · have hf := ite_f hf c_21
    refine G.aload_n dX12_undo_47 rfl rfl ?_
    refine G.getR (q := 75) dX12_undo_48 flX12_7 (by decide) rfl rfl ?_
    refine G.bipush (v := 10) dX12_undo_51 (by decide) ?_
    refine G.iload_n dX12_undo_53 rfl rfl ?_
    refine G.iadd dX12_undo_54 ?_
    refine G.aload_n dX12_undo_55 rfl rfl ?_
    refine G.getR (q := 75) dX12_undo_56 flX12_7 (by decide) rfl rfl ?_
    refine G.iload_n dX12_undo_59 rfl rfl ?_
    refine G.iload_n dX12_undo_60 rfl rfl ?_
    refine G.iadd dX12_undo_61 ?_
    obtain ⟨hi_18, hf⟩ := chk_at hf
    refine G.iald' dX12_undo_62 (by decide) rfl rfl hi_18 ?_
    obtain ⟨hi_19, hf⟩ := chk_at hf
    refine G.iast' dX12_undo_63 (by decide) rfl rfl hi_19 ?_
    refine G.nmI (fun I_20 e_I_20 => ?_)
    have hf := letb_at hf e_I_20
    clear e_I_20
    refine G.inc (w := 1) (L' := [some (.ref 74), some (.int x1), some (.int (x2 + (1 : Int32)))]) dX12_undo_64 (by decide) rfl (Nat.le_of_ble_eq_true rfl) rfl rfl ?_
    refine G.goto (tgt := 42) dX12_undo_67 (by decide) ?_
    have hf := Option.some.inj hf
    subst hf
    exact hK
theorem lX12_undo_42 (E : EV) (d : Nat) (rr : Option Value × Mem) (x1 : Int32) (z : (Int32 × Mem)) (hK : (fun (z : Int32 × Mem) => (some (.int z.1), z.2) = rr) z) : ∀ (n : Nat) (q : (Int32 × Mem)), iter (sX12_undo_42 x1) n q = some z → G E (d + 1) kX12_undo 42 [some (.ref 74), some (.int x1), some (.int q.1)] [] q.2 rr := by
  intro n
  induction n with
  | zero => intro q h; cases h
  | succ n ih =>
    intro q h
    rcases iter_at h with ⟨q2, hs, h2⟩ | hs
    · exact wX12_undo_42 E d rr x1 q.1 q.2 _ hs (ih q2 h2)
    · exact wX12_undo_42 E d rr x1 q.1 q.2 _ hs hK
def fX12_undo (I : Mem) : Option (Int32 × Mem) :=
  chk (inb (53 : Int32) 632) <|
  if (I 75 (ix (53 : Int32))) = 0 then
  (bnd2 (fX12_no I) fun v_23 I_24 =>
  some (v_23, I_24))
  else
  (chk (inb (53 : Int32) 632) <|
  chk (inb (53 : Int32) 632) <|
  letb (up2 I 75 (ix (53 : Int32)) ((I 75 (ix (53 : Int32))) - (1 : Int32))) fun I_4 =>
  chk (inb (53 : Int32) 632) <|
  letb ((54 : Int32) + ((13 : Int32) * (I_4 75 (ix (53 : Int32))))) fun x1_6 =>
  iter (sX12_undo_42 x1_6) FU ((0 : Int32), I_4))
set_option maxRecDepth 20000 in
theorem gX12_undo (E : EV) (d : Nat) (I : Mem) {v : Int32} {J : Mem} (hf : fX12_undo I = some (v, J)) : Gm E (d + 1) kX12_undo [.ref 74] I (some (.int v), J) := by
  refine (fun (y : (Int32 × Mem)) (hf : fX12_undo I = some y) => (?_ : Gm E (d + 1) kX12_undo [.ref 74] I (some (.int y.1), y.2))) (v, J) hf
  refine Gm.of (by decide) rfl (Nat.le_of_ble_eq_true rfl) ?_
  generalize hrr : ((some (.int y.1), y.2) : Option Value × Mem) = rr
  show G E (d + 1) kX12_undo 0 [some (.ref 74), none, none] [] I rr
  have hK : (fun (z : Int32 × Mem) => (some (.int z.1), z.2) = rr) y := hrr
  clear hrr
  unfold fX12_undo at hf
  refine G.aload_n dX12_undo_0 rfl rfl ?_
  refine G.getR (q := 75) dX12_undo_1 flX12_7 (by decide) rfl rfl ?_
  refine G.bipush (v := 53) dX12_undo_4 (by decide) ?_
  obtain ⟨hi_1, hf⟩ := chk_at hf
  refine G.iald' dX12_undo_6 (by decide) rfl rfl hi_1 ?_
  refine G.if_ne (tgt := 15) dX12_undo_7 (by decide) (fun c_25 => ?_) (fun c_25 => ?_)
  · have hf := ite_f hf c_25
    refine G.aload_n dX12_undo_15 rfl rfl ?_
    refine G.getR (q := 75) dX12_undo_16 flX12_7 (by decide) rfl rfl ?_
    refine G.bipush (v := 53) dX12_undo_19 (by decide) ?_
    refine G.dup2 dX12_undo_21 rfl rfl ?_
    obtain ⟨hi_2, hf⟩ := chk_at hf
    refine G.iald' dX12_undo_22 (by decide) rfl rfl hi_2 ?_
    refine G.iconst (v := 1) dX12_undo_23 (by decide) ?_
    refine G.isub dX12_undo_24 ?_
    obtain ⟨hi_3, hf⟩ := chk_at hf
    refine G.iast' dX12_undo_25 (by decide) rfl rfl hi_3 ?_
    refine G.nmI (fun I_4 e_I_4 => ?_)
    have hf := letb_at hf e_I_4
    clear e_I_4
    refine G.bipush (v := 54) dX12_undo_26 (by decide) ?_
    refine G.bipush (v := 13) dX12_undo_28 (by decide) ?_
    refine G.aload_n dX12_undo_30 rfl rfl ?_
    refine G.getR (q := 75) dX12_undo_31 flX12_7 (by decide) rfl rfl ?_
    refine G.bipush (v := 53) dX12_undo_34 (by decide) ?_
    obtain ⟨hi_5, hf⟩ := chk_at hf
    refine G.iald' dX12_undo_36 (by decide) rfl rfl hi_5 ?_
    refine G.imul dX12_undo_37 ?_
    refine G.iadd dX12_undo_38 ?_
    refine G.nmi (fun x1_6 e_x1_6 => ?_)
    have hf := letb_at hf e_x1_6
    clear e_x1_6
    refine G.istore_n (L' := [some (.ref 74), some (.int x1_6), none]) dX12_undo_39 rfl (Nat.le_of_ble_eq_true rfl) (Nat.le_of_ble_eq_true rfl) rfl rfl ?_
    refine G.iconst (v := 0) dX12_undo_40 (by decide) ?_
    refine G.istore_n (L' := [some (.ref 74), some (.int x1_6), some (.int (0 : Int32))]) dX12_undo_41 rfl (Nat.le_of_ble_eq_true rfl) (Nat.le_of_ble_eq_true rfl) rfl rfl ?_
    exact lX12_undo_42 E d rr x1_6 _ hK FU _ hf
  · have hf := ite_t hf c_25
    refine G.aload_n dX12_undo_10 rfl rfl ?_
    obtain ⟨v_23, I_24, hc_22, hf⟩ := bnd2_at hf
    refine G.callVi (av := []) (rest := []) dX12_undo_11 mvX12_71 (gX12_no E d I hc_22) (by decide) rfl rfl rfl (Nat.le_of_ble_eq_true rfl) ?_
    have hf := Option.some.inj hf
    subst hf
    exact G.iret' dX12_undo_14 rfl hK
theorem dX12_standing_0 : decode cX12_standing 0 = .ok (.aload_n 0, 1) := by decide +kernel
theorem dX12_standing_1 : decode cX12_standing 1 = .ok (.invokevirtual 173, 3) := by decide +kernel
theorem dX12_standing_4 : decode cX12_standing 4 = .ok (.ireturn, 1) := by decide +kernel
def fX12_standing (I : Mem) : Option Int32 :=
  bnd (fX12_now I) fun v_2 =>
  some v_2
set_option maxRecDepth 20000 in
theorem gX12_standing (E : EV) (d : Nat) (I : Mem) {v : Int32} (hf : fX12_standing I = some v) : Gm E (d + 1) kX12_standing [.ref 74] I (some (.int v), I) := by
  refine (fun (y : Int32) (hf : fX12_standing I = some y) => (?_ : Gm E (d + 1) kX12_standing [.ref 74] I (some (.int y), I))) v hf
  refine Gm.of (by decide) rfl (Nat.le_of_ble_eq_true rfl) ?_
  generalize hrr : ((some (.int y), I) : Option Value × Mem) = rr
  show G E (d + 1) kX12_standing 0 [some (.ref 74)] [] I rr
  have hK : (fun (z : Int32) => (some (.int z), I) = rr) y := hrr
  clear hrr
  unfold fX12_standing at hf
  refine G.aload_n dX12_standing_0 rfl rfl ?_
  obtain ⟨v_2, hc_1, hf⟩ := bnd_at hf
  refine G.callVi (av := []) (rest := []) dX12_standing_1 mvX12_173 (gX12_now E d I hc_1) (by decide) rfl rfl rfl (Nat.le_of_ble_eq_true rfl) ?_
  have hf := Option.some.inj hf
  subst hf
  exact G.iret' dX12_standing_4 rfl hK
theorem dX12_sill_0 : decode cX12_sill 0 = .ok (.aload_n 0, 1) := by decide +kernel
theorem dX12_sill_1 : decode cX12_sill 1 = .ok (.iload_n 1, 1) := by decide +kernel
theorem dX12_sill_2 : decode cX12_sill 2 = .ok (.invokevirtual 63, 3) := by decide +kernel
theorem dX12_sill_5 : decode cX12_sill 5 = .ok (.ifCond .eq 15, 3) := by decide +kernel
theorem dX12_sill_8 : decode cX12_sill 8 = .ok (.aload_n 0, 1) := by decide +kernel
theorem dX12_sill_9 : decode cX12_sill 9 = .ok (.getfield 7, 3) := by decide +kernel
theorem dX12_sill_12 : decode cX12_sill 12 = .ok (.bipush 10, 2) := by decide +kernel
theorem dX12_sill_14 : decode cX12_sill 14 = .ok (.iload_n 1, 1) := by decide +kernel
theorem dX12_sill_15 : decode cX12_sill 15 = .ok (.iadd, 1) := by decide +kernel
theorem dX12_sill_16 : decode cX12_sill 16 = .ok (.iaload, 1) := by decide +kernel
theorem dX12_sill_17 : decode cX12_sill 17 = .ok (.goto 9, 3) := by decide +kernel
theorem dX12_sill_20 : decode cX12_sill 20 = .ok (.aload_n 0, 1) := by decide +kernel
theorem dX12_sill_21 : decode cX12_sill 21 = .ok (.bipush (-2), 2) := by decide +kernel
theorem dX12_sill_23 : decode cX12_sill 23 = .ok (.invokevirtual 59, 3) := by decide +kernel
theorem dX12_sill_26 : decode cX12_sill 26 = .ok (.ireturn, 1) := by decide +kernel
def fX12_sill (x1 : Int32) (I : Mem) : Option (Int32 × Mem) :=
  bnd (fX12_isRoom x1 I) fun v_2 =>
  if v_2 = 0 then
  (bnd2 (fX12_bad (-2 : Int32) I) fun v_4 I_5 =>
  some (v_4, I_5))
  else
  (chk (inb ((10 : Int32) + x1) 632) <|
  some ((I 75 (ix ((10 : Int32) + x1))), I))
set_option maxRecDepth 20000 in
theorem gX12_sill (E : EV) (d : Nat) (x1 : Int32) (I : Mem) {v : Int32} {J : Mem} (hf : fX12_sill x1 I = some (v, J)) : Gm E (d + 2) kX12_sill [.ref 74, .int x1] I (some (.int v), J) := by
  refine (fun (y : (Int32 × Mem)) (hf : fX12_sill x1 I = some y) => (?_ : Gm E (d + 2) kX12_sill [.ref 74, .int x1] I (some (.int y.1), y.2))) (v, J) hf
  refine Gm.of (by decide) rfl (Nat.le_of_ble_eq_true rfl) ?_
  generalize hrr : ((some (.int y.1), y.2) : Option Value × Mem) = rr
  show G E (d + 2) kX12_sill 0 [some (.ref 74), some (.int x1)] [] I rr
  have hK : (fun (z : Int32 × Mem) => (some (.int z.1), z.2) = rr) y := hrr
  clear hrr
  unfold fX12_sill at hf
  refine G.aload_n dX12_sill_0 rfl rfl ?_
  refine G.iload_n dX12_sill_1 rfl rfl ?_
  obtain ⟨v_2, hc_1, hf⟩ := bnd_at hf
  refine G.callVi (av := [.int x1]) (rest := []) dX12_sill_2 mvX12_63 (gX12_isRoom E d x1 I hc_1) (by decide) rfl rfl rfl (Nat.le_of_ble_eq_true rfl) ?_
  refine G.if_eq (tgt := 20) dX12_sill_5 (by decide) (fun c_7 => ?_) (fun c_7 => ?_)
  · have hf := ite_t hf c_7
    refine G.aload_n dX12_sill_20 rfl rfl ?_
    refine G.bipush (v := -2) dX12_sill_21 (by decide) ?_
    obtain ⟨v_4, I_5, hc_3, hf⟩ := bnd2_at hf
    refine G.callVi (av := [.int (-2 : Int32)]) (rest := []) dX12_sill_23 mvX12_59 (gX12_bad E (d + 1) (-2 : Int32) I hc_3) (by decide) rfl rfl rfl (Nat.le_of_ble_eq_true rfl) ?_
    have hf := Option.some.inj hf
    subst hf
    exact G.iret' dX12_sill_26 rfl hK
  · have hf := ite_f hf c_7
    refine G.aload_n dX12_sill_8 rfl rfl ?_
    refine G.getR (q := 75) dX12_sill_9 flX12_7 (by decide) rfl rfl ?_
    refine G.bipush (v := 10) dX12_sill_12 (by decide) ?_
    refine G.iload_n dX12_sill_14 rfl rfl ?_
    refine G.iadd dX12_sill_15 ?_
    obtain ⟨hi_6, hf⟩ := chk_at hf
    refine G.iald' dX12_sill_16 (by decide) rfl rfl hi_6 ?_
    refine G.goto (tgt := 26) dX12_sill_17 (by decide) ?_
    have hf := Option.some.inj hf
    subst hf
    exact G.iret' dX12_sill_26 rfl hK
theorem dX12_purse_0 : decode cX12_purse 0 = .ok (.aload_n 0, 1) := by decide +kernel
theorem dX12_purse_1 : decode cX12_purse 1 = .ok (.iload_n 1, 1) := by decide +kernel
theorem dX12_purse_2 : decode cX12_purse 2 = .ok (.invokevirtual 89, 3) := by decide +kernel
theorem dX12_purse_5 : decode cX12_purse 5 = .ok (.ifCond .eq 15, 3) := by decide +kernel
theorem dX12_purse_8 : decode cX12_purse 8 = .ok (.aload_n 0, 1) := by decide +kernel
theorem dX12_purse_9 : decode cX12_purse 9 = .ok (.getfield 7, 3) := by decide +kernel
theorem dX12_purse_12 : decode cX12_purse 12 = .ok (.bipush 24, 2) := by decide +kernel
theorem dX12_purse_14 : decode cX12_purse 14 = .ok (.iload_n 1, 1) := by decide +kernel
theorem dX12_purse_15 : decode cX12_purse 15 = .ok (.iadd, 1) := by decide +kernel
theorem dX12_purse_16 : decode cX12_purse 16 = .ok (.iaload, 1) := by decide +kernel
theorem dX12_purse_17 : decode cX12_purse 17 = .ok (.goto 9, 3) := by decide +kernel
theorem dX12_purse_20 : decode cX12_purse 20 = .ok (.aload_n 0, 1) := by decide +kernel
theorem dX12_purse_21 : decode cX12_purse 21 = .ok (.ldc 185, 2) := by decide +kernel
theorem dX12_purse_23 : decode cX12_purse 23 = .ok (.invokevirtual 59, 3) := by decide +kernel
theorem dX12_purse_26 : decode cX12_purse 26 = .ok (.ireturn, 1) := by decide +kernel
def fX12_purse (x1 : Int32) (I : Mem) : Option (Int32 × Mem) :=
  bnd (fX12_isPerson x1 I) fun v_2 =>
  if v_2 = 0 then
  (letb (-100000 : Int32) fun k9_3 =>
  bnd2 (fX12_bad k9_3 I) fun v_5 I_6 =>
  some (v_5, I_6))
  else
  (chk (inb ((24 : Int32) + x1) 632) <|
  some ((I 75 (ix ((24 : Int32) + x1))), I))
set_option maxRecDepth 20000 in
theorem gX12_purse (E : EV) (d : Nat) (x1 : Int32) (I : Mem) {v : Int32} {J : Mem} (hf : fX12_purse x1 I = some (v, J)) : Gm E (d + 2) kX12_purse [.ref 74, .int x1] I (some (.int v), J) := by
  refine (fun (y : (Int32 × Mem)) (hf : fX12_purse x1 I = some y) => (?_ : Gm E (d + 2) kX12_purse [.ref 74, .int x1] I (some (.int y.1), y.2))) (v, J) hf
  refine Gm.of (by decide) rfl (Nat.le_of_ble_eq_true rfl) ?_
  generalize hrr : ((some (.int y.1), y.2) : Option Value × Mem) = rr
  show G E (d + 2) kX12_purse 0 [some (.ref 74), some (.int x1)] [] I rr
  have hK : (fun (z : Int32 × Mem) => (some (.int z.1), z.2) = rr) y := hrr
  clear hrr
  unfold fX12_purse at hf
  refine G.aload_n dX12_purse_0 rfl rfl ?_
  refine G.iload_n dX12_purse_1 rfl rfl ?_
  obtain ⟨v_2, hc_1, hf⟩ := bnd_at hf
  refine G.callVi (av := [.int x1]) (rest := []) dX12_purse_2 mvX12_89 (gX12_isPerson E d x1 I hc_1) (by decide) rfl rfl rfl (Nat.le_of_ble_eq_true rfl) ?_
  refine G.if_eq (tgt := 20) dX12_purse_5 (by decide) (fun c_8 => ?_) (fun c_8 => ?_)
  · have hf := ite_t hf c_8
    refine G.aload_n dX12_purse_20 rfl rfl ?_
    refine G.ldc (v := -100000) dX12_purse_21 kcX12_185 ?_
    refine G.nmi (fun k9_3 e_k9_3 => ?_)
    have hf := letb_at hf e_k9_3
    clear e_k9_3
    obtain ⟨v_5, I_6, hc_4, hf⟩ := bnd2_at hf
    refine G.callVi (av := [.int k9_3]) (rest := []) dX12_purse_23 mvX12_59 (gX12_bad E (d + 1) k9_3 I hc_4) (by decide) rfl rfl rfl (Nat.le_of_ble_eq_true rfl) ?_
    have hf := Option.some.inj hf
    subst hf
    exact G.iret' dX12_purse_26 rfl hK
  · have hf := ite_f hf c_8
    refine G.aload_n dX12_purse_8 rfl rfl ?_
    refine G.getR (q := 75) dX12_purse_9 flX12_7 (by decide) rfl rfl ?_
    refine G.bipush (v := 24) dX12_purse_12 (by decide) ?_
    refine G.iload_n dX12_purse_14 rfl rfl ?_
    refine G.iadd dX12_purse_15 ?_
    obtain ⟨hi_7, hf⟩ := chk_at hf
    refine G.iald' dX12_purse_16 (by decide) rfl rfl hi_7 ?_
    refine G.goto (tgt := 26) dX12_purse_17 (by decide) ?_
    have hf := Option.some.inj hf
    subst hf
    exact G.iret' dX12_purse_26 rfl hK
theorem dX12_alone_0 : decode cX12_alone 0 = .ok (.aload_n 0, 1) := by decide +kernel
theorem dX12_alone_1 : decode cX12_alone 1 = .ok (.iload_n 1, 1) := by decide +kernel
theorem dX12_alone_2 : decode cX12_alone 2 = .ok (.invokevirtual 89, 3) := by decide +kernel
theorem dX12_alone_5 : decode cX12_alone 5 = .ok (.ifCond .ne 12, 3) := by decide +kernel
theorem dX12_alone_8 : decode cX12_alone 8 = .ok (.aload_n 0, 1) := by decide +kernel
theorem dX12_alone_9 : decode cX12_alone 9 = .ok (.bipush (-2), 2) := by decide +kernel
theorem dX12_alone_11 : decode cX12_alone 11 = .ok (.invokevirtual 59, 3) := by decide +kernel
theorem dX12_alone_14 : decode cX12_alone 14 = .ok (.goto 20, 3) := by decide +kernel
theorem dX12_alone_17 : decode cX12_alone 17 = .ok (.aload_n 0, 1) := by decide +kernel
theorem dX12_alone_18 : decode cX12_alone 18 = .ok (.aload_n 0, 1) := by decide +kernel
theorem dX12_alone_19 : decode cX12_alone 19 = .ok (.invokevirtual 173, 3) := by decide +kernel
theorem dX12_alone_22 : decode cX12_alone 22 = .ok (.iload_n 1, 1) := by decide +kernel
theorem dX12_alone_23 : decode cX12_alone 23 = .ok (.invokevirtual 155, 3) := by decide +kernel
theorem dX12_alone_26 : decode cX12_alone 26 = .ok (.ifCond .eq 7, 3) := by decide +kernel
theorem dX12_alone_29 : decode cX12_alone 29 = .ok (.iconst 1, 1) := by decide +kernel
theorem dX12_alone_30 : decode cX12_alone 30 = .ok (.goto 4, 3) := by decide +kernel
theorem dX12_alone_33 : decode cX12_alone 33 = .ok (.iconst 0, 1) := by decide +kernel
theorem dX12_alone_34 : decode cX12_alone 34 = .ok (.ireturn, 1) := by decide +kernel
def fX12_alone (x1 : Int32) (I : Mem) : Option (Int32 × Mem) :=
  bnd (fX12_isPerson x1 I) fun v_2 =>
  if v_2 = 0 then
  (bnd2 (fX12_bad (-2 : Int32) I) fun v_9 I_10 =>
  some (v_9, I_10))
  else
  (bnd (fX12_now I) fun v_4 =>
  bnd (fX12_isAlone v_4 x1 I) fun v_6 =>
  if v_6 = 0 then
  (some ((0 : Int32), I))
  else
  (some ((1 : Int32), I)))
set_option maxRecDepth 20000 in
theorem gX12_alone (E : EV) (d : Nat) (x1 : Int32) (I : Mem) {v : Int32} {J : Mem} (hf : fX12_alone x1 I = some (v, J)) : Gm E (d + 2) kX12_alone [.ref 74, .int x1] I (some (.int v), J) := by
  refine (fun (y : (Int32 × Mem)) (hf : fX12_alone x1 I = some y) => (?_ : Gm E (d + 2) kX12_alone [.ref 74, .int x1] I (some (.int y.1), y.2))) (v, J) hf
  refine Gm.of (by decide) rfl (Nat.le_of_ble_eq_true rfl) ?_
  generalize hrr : ((some (.int y.1), y.2) : Option Value × Mem) = rr
  show G E (d + 2) kX12_alone 0 [some (.ref 74), some (.int x1)] [] I rr
  have hK : (fun (z : Int32 × Mem) => (some (.int z.1), z.2) = rr) y := hrr
  clear hrr
  unfold fX12_alone at hf
  refine G.aload_n dX12_alone_0 rfl rfl ?_
  refine G.iload_n dX12_alone_1 rfl rfl ?_
  obtain ⟨v_2, hc_1, hf⟩ := bnd_at hf
  refine G.callVi (av := [.int x1]) (rest := []) dX12_alone_2 mvX12_89 (gX12_isPerson E d x1 I hc_1) (by decide) rfl rfl rfl (Nat.le_of_ble_eq_true rfl) ?_
  refine G.if_ne (tgt := 17) dX12_alone_5 (by decide) (fun c_11 => ?_) (fun c_11 => ?_)
  · have hf := ite_f hf c_11
    refine G.aload_n dX12_alone_17 rfl rfl ?_
    refine G.aload_n dX12_alone_18 rfl rfl ?_
    obtain ⟨v_4, hc_3, hf⟩ := bnd_at hf
    refine G.callVi (av := []) (rest := [.ref 74]) dX12_alone_19 mvX12_173 (gX12_now E (d + 1) I hc_3) (by decide) rfl rfl rfl (Nat.le_of_ble_eq_true rfl) ?_
    refine G.iload_n dX12_alone_22 rfl rfl ?_
    obtain ⟨v_6, hc_5, hf⟩ := bnd_at hf
    refine G.callVi (av := [.int v_4, .int x1]) (rest := []) dX12_alone_23 mvX12_155 (gX12_isAlone E d v_4 x1 I hc_5) (by decide) rfl rfl rfl (Nat.le_of_ble_eq_true rfl) ?_
    refine G.if_eq (tgt := 33) dX12_alone_26 (by decide) (fun c_7 => ?_) (fun c_7 => ?_)
    · have hf := ite_t hf c_7
      refine G.iconst (v := 0) dX12_alone_33 (by decide) ?_
      have hf := Option.some.inj hf
      subst hf
      exact G.iret' dX12_alone_34 rfl hK
    · have hf := ite_f hf c_7
      refine G.iconst (v := 1) dX12_alone_29 (by decide) ?_
      refine G.goto (tgt := 34) dX12_alone_30 (by decide) ?_
      have hf := Option.some.inj hf
      subst hf
      exact G.iret' dX12_alone_34 rfl hK
  · have hf := ite_t hf c_11
    refine G.aload_n dX12_alone_8 rfl rfl ?_
    refine G.bipush (v := -2) dX12_alone_9 (by decide) ?_
    obtain ⟨v_9, I_10, hc_8, hf⟩ := bnd2_at hf
    refine G.callVi (av := [.int (-2 : Int32)]) (rest := []) dX12_alone_11 mvX12_59 (gX12_bad E (d + 1) (-2 : Int32) I hc_8) (by decide) rfl rfl rfl (Nat.le_of_ble_eq_true rfl) ?_
    refine G.goto (tgt := 34) dX12_alone_14 (by decide) ?_
    have hf := Option.some.inj hf
    subst hf
    exact G.iret' dX12_alone_34 rfl hK
theorem dX12_plan_0 : decode cX12_plan 0 = .ok (.aload_n 0, 1) := by decide +kernel
theorem dX12_plan_1 : decode cX12_plan 1 = .ok (.iload_n 1, 1) := by decide +kernel
theorem dX12_plan_2 : decode cX12_plan 2 = .ok (.invokevirtual 170, 3) := by decide +kernel
theorem dX12_plan_5 : decode cX12_plan 5 = .ok (.ifCond .ne 10, 3) := by decide +kernel
theorem dX12_plan_8 : decode cX12_plan 8 = .ok (.aload_n 0, 1) := by decide +kernel
theorem dX12_plan_9 : decode cX12_plan 9 = .ok (.bipush (-2), 2) := by decide +kernel
theorem dX12_plan_11 : decode cX12_plan 11 = .ok (.invokevirtual 59, 3) := by decide +kernel
theorem dX12_plan_14 : decode cX12_plan 14 = .ok (.ireturn, 1) := by decide +kernel
theorem dX12_plan_15 : decode cX12_plan 15 = .ok (.aload_n 0, 1) := by decide +kernel
theorem dX12_plan_16 : decode cX12_plan 16 = .ok (.getfield 7, 3) := by decide +kernel
theorem dX12_plan_19 : decode cX12_plan 19 = .ok (.bipush 44, 2) := by decide +kernel
theorem dX12_plan_21 : decode cX12_plan 21 = .ok (.iaload, 1) := by decide +kernel
theorem dX12_plan_22 : decode cX12_plan 22 = .ok (.bipush 8, 2) := by decide +kernel
theorem dX12_plan_24 : decode cX12_plan 24 = .ok (.if_icmp .ne 8, 3) := by decide +kernel
theorem dX12_plan_27 : decode cX12_plan 27 = .ok (.aload_n 0, 1) := by decide +kernel
theorem dX12_plan_28 : decode cX12_plan 28 = .ok (.invokevirtual 81, 3) := by decide +kernel
theorem dX12_plan_31 : decode cX12_plan 31 = .ok (.ireturn, 1) := by decide +kernel
theorem dX12_plan_32 : decode cX12_plan 32 = .ok (.aload_n 0, 1) := by decide +kernel
theorem dX12_plan_33 : decode cX12_plan 33 = .ok (.getfield 7, 3) := by decide +kernel
theorem dX12_plan_36 : decode cX12_plan 36 = .ok (.bipush 45, 2) := by decide +kernel
theorem dX12_plan_38 : decode cX12_plan 38 = .ok (.aload_n 0, 1) := by decide +kernel
theorem dX12_plan_39 : decode cX12_plan 39 = .ok (.getfield 7, 3) := by decide +kernel
theorem dX12_plan_42 : decode cX12_plan 42 = .ok (.bipush 44, 2) := by decide +kernel
theorem dX12_plan_44 : decode cX12_plan 44 = .ok (.iaload, 1) := by decide +kernel
theorem dX12_plan_45 : decode cX12_plan 45 = .ok (.iadd, 1) := by decide +kernel
theorem dX12_plan_46 : decode cX12_plan 46 = .ok (.iload_n 1, 1) := by decide +kernel
theorem dX12_plan_47 : decode cX12_plan 47 = .ok (.iastore, 1) := by decide +kernel
theorem dX12_plan_48 : decode cX12_plan 48 = .ok (.aload_n 0, 1) := by decide +kernel
theorem dX12_plan_49 : decode cX12_plan 49 = .ok (.getfield 7, 3) := by decide +kernel
theorem dX12_plan_52 : decode cX12_plan 52 = .ok (.bipush 44, 2) := by decide +kernel
theorem dX12_plan_54 : decode cX12_plan 54 = .ok (.dup2, 1) := by decide +kernel
theorem dX12_plan_55 : decode cX12_plan 55 = .ok (.iaload, 1) := by decide +kernel
theorem dX12_plan_56 : decode cX12_plan 56 = .ok (.iconst 1, 1) := by decide +kernel
theorem dX12_plan_57 : decode cX12_plan 57 = .ok (.iadd, 1) := by decide +kernel
theorem dX12_plan_58 : decode cX12_plan 58 = .ok (.iastore, 1) := by decide +kernel
theorem dX12_plan_59 : decode cX12_plan 59 = .ok (.aload_n 0, 1) := by decide +kernel
theorem dX12_plan_60 : decode cX12_plan 60 = .ok (.getfield 7, 3) := by decide +kernel
theorem dX12_plan_63 : decode cX12_plan 63 = .ok (.bipush 44, 2) := by decide +kernel
theorem dX12_plan_65 : decode cX12_plan 65 = .ok (.iaload, 1) := by decide +kernel
theorem dX12_plan_66 : decode cX12_plan 66 = .ok (.ireturn, 1) := by decide +kernel
def fX12_plan (x1 : Int32) (I : Mem) : Option (Int32 × Mem) :=
  bnd (fX12_isStanding x1 I) fun v_2 =>
  if v_2 = 0 then
  (bnd2 (fX12_bad (-2 : Int32) I) fun v_16 I_17 =>
  some (v_16, I_17))
  else
  (chk (inb (44 : Int32) 632) <|
  if (I 75 (ix (44 : Int32))) = (8 : Int32) then
  (bnd2 (fX12_full I) fun v_12 I_13 =>
  some (v_12, I_13))
  else
  (chk (inb (44 : Int32) 632) <|
  chk (inb ((45 : Int32) + (I 75 (ix (44 : Int32)))) 632) <|
  letb (up2 I 75 (ix ((45 : Int32) + (I 75 (ix (44 : Int32))))) x1) fun I_6 =>
  chk (inb (44 : Int32) 632) <|
  chk (inb (44 : Int32) 632) <|
  letb (up2 I_6 75 (ix (44 : Int32)) ((I_6 75 (ix (44 : Int32))) + (1 : Int32))) fun I_9 =>
  chk (inb (44 : Int32) 632) <|
  some ((I_9 75 (ix (44 : Int32))), I_9)))
set_option maxRecDepth 20000 in
theorem gX12_plan (E : EV) (d : Nat) (x1 : Int32) (I : Mem) {v : Int32} {J : Mem} (hf : fX12_plan x1 I = some (v, J)) : Gm E (d + 3) kX12_plan [.ref 74, .int x1] I (some (.int v), J) := by
  refine (fun (y : (Int32 × Mem)) (hf : fX12_plan x1 I = some y) => (?_ : Gm E (d + 3) kX12_plan [.ref 74, .int x1] I (some (.int y.1), y.2))) (v, J) hf
  refine Gm.of (by decide) rfl (Nat.le_of_ble_eq_true rfl) ?_
  generalize hrr : ((some (.int y.1), y.2) : Option Value × Mem) = rr
  show G E (d + 3) kX12_plan 0 [some (.ref 74), some (.int x1)] [] I rr
  have hK : (fun (z : Int32 × Mem) => (some (.int z.1), z.2) = rr) y := hrr
  clear hrr
  unfold fX12_plan at hf
  refine G.aload_n dX12_plan_0 rfl rfl ?_
  refine G.iload_n dX12_plan_1 rfl rfl ?_
  obtain ⟨v_2, hc_1, hf⟩ := bnd_at hf
  refine G.callVi (av := [.int x1]) (rest := []) dX12_plan_2 mvX12_170 (gX12_isStanding E d x1 I hc_1) (by decide) rfl rfl rfl (Nat.le_of_ble_eq_true rfl) ?_
  refine G.if_ne (tgt := 15) dX12_plan_5 (by decide) (fun c_18 => ?_) (fun c_18 => ?_)
  · have hf := ite_f hf c_18
    refine G.aload_n dX12_plan_15 rfl rfl ?_
    refine G.getR (q := 75) dX12_plan_16 flX12_7 (by decide) rfl rfl ?_
    refine G.bipush (v := 44) dX12_plan_19 (by decide) ?_
    obtain ⟨hi_3, hf⟩ := chk_at hf
    refine G.iald' dX12_plan_21 (by decide) rfl rfl hi_3 ?_
    refine G.bipush (v := 8) dX12_plan_22 (by decide) ?_
    refine G.icmp_ne (tgt := 32) dX12_plan_24 (by decide) (fun c_14 => ?_) (fun c_14 => ?_)
    · have hf := ite_f hf c_14
      refine G.aload_n dX12_plan_32 rfl rfl ?_
      refine G.getR (q := 75) dX12_plan_33 flX12_7 (by decide) rfl rfl ?_
      refine G.bipush (v := 45) dX12_plan_36 (by decide) ?_
      refine G.aload_n dX12_plan_38 rfl rfl ?_
      refine G.getR (q := 75) dX12_plan_39 flX12_7 (by decide) rfl rfl ?_
      refine G.bipush (v := 44) dX12_plan_42 (by decide) ?_
      obtain ⟨hi_4, hf⟩ := chk_at hf
      refine G.iald' dX12_plan_44 (by decide) rfl rfl hi_4 ?_
      refine G.iadd dX12_plan_45 ?_
      refine G.iload_n dX12_plan_46 rfl rfl ?_
      obtain ⟨hi_5, hf⟩ := chk_at hf
      refine G.iast' dX12_plan_47 (by decide) rfl rfl hi_5 ?_
      refine G.nmI (fun I_6 e_I_6 => ?_)
      have hf := letb_at hf e_I_6
      clear e_I_6
      refine G.aload_n dX12_plan_48 rfl rfl ?_
      refine G.getR (q := 75) dX12_plan_49 flX12_7 (by decide) rfl rfl ?_
      refine G.bipush (v := 44) dX12_plan_52 (by decide) ?_
      refine G.dup2 dX12_plan_54 rfl rfl ?_
      obtain ⟨hi_7, hf⟩ := chk_at hf
      refine G.iald' dX12_plan_55 (by decide) rfl rfl hi_7 ?_
      refine G.iconst (v := 1) dX12_plan_56 (by decide) ?_
      refine G.iadd dX12_plan_57 ?_
      obtain ⟨hi_8, hf⟩ := chk_at hf
      refine G.iast' dX12_plan_58 (by decide) rfl rfl hi_8 ?_
      refine G.nmI (fun I_9 e_I_9 => ?_)
      have hf := letb_at hf e_I_9
      clear e_I_9
      refine G.aload_n dX12_plan_59 rfl rfl ?_
      refine G.getR (q := 75) dX12_plan_60 flX12_7 (by decide) rfl rfl ?_
      refine G.bipush (v := 44) dX12_plan_63 (by decide) ?_
      obtain ⟨hi_10, hf⟩ := chk_at hf
      refine G.iald' dX12_plan_65 (by decide) rfl rfl hi_10 ?_
      have hf := Option.some.inj hf
      subst hf
      exact G.iret' dX12_plan_66 rfl hK
    · have hf := ite_t hf c_14
      refine G.aload_n dX12_plan_27 rfl rfl ?_
      obtain ⟨v_12, I_13, hc_11, hf⟩ := bnd2_at hf
      refine G.callVi (av := []) (rest := []) dX12_plan_28 mvX12_81 (gX12_full E (d + 2) I hc_11) (by decide) rfl rfl rfl (Nat.le_of_ble_eq_true rfl) ?_
      have hf := Option.some.inj hf
      subst hf
      exact G.iret' dX12_plan_31 rfl hK
  · have hf := ite_t hf c_18
    refine G.aload_n dX12_plan_8 rfl rfl ?_
    refine G.bipush (v := -2) dX12_plan_9 (by decide) ?_
    obtain ⟨v_16, I_17, hc_15, hf⟩ := bnd2_at hf
    refine G.callVi (av := [.int (-2 : Int32)]) (rest := []) dX12_plan_11 mvX12_59 (gX12_bad E (d + 2) (-2 : Int32) I hc_15) (by decide) rfl rfl rfl (Nat.le_of_ble_eq_true rfl) ?_
    have hf := Option.some.inj hf
    subst hf
    exact G.iret' dX12_plan_14 rfl hK
theorem dX12_scrap_0 : decode cX12_scrap 0 = .ok (.aload_n 0, 1) := by decide +kernel
theorem dX12_scrap_1 : decode cX12_scrap 1 = .ok (.getfield 7, 3) := by decide +kernel
theorem dX12_scrap_4 : decode cX12_scrap 4 = .ok (.bipush 44, 2) := by decide +kernel
theorem dX12_scrap_6 : decode cX12_scrap 6 = .ok (.iaload, 1) := by decide +kernel
theorem dX12_scrap_7 : decode cX12_scrap 7 = .ok (.istore_n 1, 1) := by decide +kernel
theorem dX12_scrap_8 : decode cX12_scrap 8 = .ok (.aload_n 0, 1) := by decide +kernel
theorem dX12_scrap_9 : decode cX12_scrap 9 = .ok (.getfield 7, 3) := by decide +kernel
theorem dX12_scrap_12 : decode cX12_scrap 12 = .ok (.bipush 44, 2) := by decide +kernel
theorem dX12_scrap_14 : decode cX12_scrap 14 = .ok (.iconst 0, 1) := by decide +kernel
theorem dX12_scrap_15 : decode cX12_scrap 15 = .ok (.iastore, 1) := by decide +kernel
theorem dX12_scrap_16 : decode cX12_scrap 16 = .ok (.iload_n 1, 1) := by decide +kernel
theorem dX12_scrap_17 : decode cX12_scrap 17 = .ok (.ireturn, 1) := by decide +kernel
def fX12_scrap (I : Mem) : Option (Int32 × Mem) :=
  chk (inb (44 : Int32) 632) <|
  letb (I 75 (ix (44 : Int32))) fun x1_2 =>
  chk (inb (44 : Int32) 632) <|
  letb (up2 I 75 (ix (44 : Int32)) (0 : Int32)) fun I_4 =>
  some (x1_2, I_4)
set_option maxRecDepth 20000 in
theorem gX12_scrap (E : EV) (d : Nat) (I : Mem) {v : Int32} {J : Mem} (hf : fX12_scrap I = some (v, J)) : Gm E (d + 0) kX12_scrap [.ref 74] I (some (.int v), J) := by
  refine (fun (y : (Int32 × Mem)) (hf : fX12_scrap I = some y) => (?_ : Gm E (d + 0) kX12_scrap [.ref 74] I (some (.int y.1), y.2))) (v, J) hf
  refine Gm.of (by decide) rfl (Nat.le_of_ble_eq_true rfl) ?_
  generalize hrr : ((some (.int y.1), y.2) : Option Value × Mem) = rr
  show G E (d + 0) kX12_scrap 0 [some (.ref 74), none] [] I rr
  have hK : (fun (z : Int32 × Mem) => (some (.int z.1), z.2) = rr) y := hrr
  clear hrr
  unfold fX12_scrap at hf
  refine G.aload_n dX12_scrap_0 rfl rfl ?_
  refine G.getR (q := 75) dX12_scrap_1 flX12_7 (by decide) rfl rfl ?_
  refine G.bipush (v := 44) dX12_scrap_4 (by decide) ?_
  obtain ⟨hi_1, hf⟩ := chk_at hf
  refine G.iald' dX12_scrap_6 (by decide) rfl rfl hi_1 ?_
  refine G.nmi (fun x1_2 e_x1_2 => ?_)
  have hf := letb_at hf e_x1_2
  clear e_x1_2
  refine G.istore_n (L' := [some (.ref 74), some (.int x1_2)]) dX12_scrap_7 rfl (Nat.le_of_ble_eq_true rfl) (Nat.le_of_ble_eq_true rfl) rfl rfl ?_
  refine G.aload_n dX12_scrap_8 rfl rfl ?_
  refine G.getR (q := 75) dX12_scrap_9 flX12_7 (by decide) rfl rfl ?_
  refine G.bipush (v := 44) dX12_scrap_12 (by decide) ?_
  refine G.iconst (v := 0) dX12_scrap_14 (by decide) ?_
  obtain ⟨hi_3, hf⟩ := chk_at hf
  refine G.iast' dX12_scrap_15 (by decide) rfl rfl hi_3 ?_
  refine G.nmI (fun I_4 e_I_4 => ?_)
  have hf := letb_at hf e_I_4
  clear e_I_4
  refine G.iload_n dX12_scrap_16 rfl rfl ?_
  have hf := Option.some.inj hf
  subst hf
  exact G.iret' dX12_scrap_17 rfl hK
theorem dX12_firstWrong_0 : decode cX12_firstWrong 0 = .ok (.aload_n 0, 1) := by decide +kernel
theorem dX12_firstWrong_1 : decode cX12_firstWrong 1 = .ok (.invokevirtual 173, 3) := by decide +kernel
theorem dX12_firstWrong_4 : decode cX12_firstWrong 4 = .ok (.istore_n 1, 1) := by decide +kernel
theorem dX12_firstWrong_5 : decode cX12_firstWrong 5 = .ok (.iconst 0, 1) := by decide +kernel
theorem dX12_firstWrong_6 : decode cX12_firstWrong 6 = .ok (.istore_n 2, 1) := by decide +kernel
theorem dX12_firstWrong_7 : decode cX12_firstWrong 7 = .ok (.iload_n 2, 1) := by decide +kernel
theorem dX12_firstWrong_8 : decode cX12_firstWrong 8 = .ok (.aload_n 0, 1) := by decide +kernel
theorem dX12_firstWrong_9 : decode cX12_firstWrong 9 = .ok (.getfield 7, 3) := by decide +kernel
theorem dX12_firstWrong_12 : decode cX12_firstWrong 12 = .ok (.bipush 44, 2) := by decide +kernel
theorem dX12_firstWrong_14 : decode cX12_firstWrong 14 = .ok (.iaload, 1) := by decide +kernel
theorem dX12_firstWrong_15 : decode cX12_firstWrong 15 = .ok (.if_icmp .ge 38, 3) := by decide +kernel
theorem dX12_firstWrong_18 : decode cX12_firstWrong 18 = .ok (.aload_n 0, 1) := by decide +kernel
theorem dX12_firstWrong_19 : decode cX12_firstWrong 19 = .ok (.iload_n 1, 1) := by decide +kernel
theorem dX12_firstWrong_20 : decode cX12_firstWrong 20 = .ok (.aload_n 0, 1) := by decide +kernel
theorem dX12_firstWrong_21 : decode cX12_firstWrong 21 = .ok (.getfield 7, 3) := by decide +kernel
theorem dX12_firstWrong_24 : decode cX12_firstWrong 24 = .ok (.bipush 45, 2) := by decide +kernel
theorem dX12_firstWrong_26 : decode cX12_firstWrong 26 = .ok (.iload_n 2, 1) := by decide +kernel
theorem dX12_firstWrong_27 : decode cX12_firstWrong 27 = .ok (.iadd, 1) := by decide +kernel
theorem dX12_firstWrong_28 : decode cX12_firstWrong 28 = .ok (.iaload, 1) := by decide +kernel
theorem dX12_firstWrong_29 : decode cX12_firstWrong 29 = .ok (.invokevirtual 176, 3) := by decide +kernel
theorem dX12_firstWrong_32 : decode cX12_firstWrong 32 = .ok (.ifCond .ne 5, 3) := by decide +kernel
theorem dX12_firstWrong_35 : decode cX12_firstWrong 35 = .ok (.iload_n 2, 1) := by decide +kernel
theorem dX12_firstWrong_36 : decode cX12_firstWrong 36 = .ok (.ireturn, 1) := by decide +kernel
theorem dX12_firstWrong_37 : decode cX12_firstWrong 37 = .ok (.aload_n 0, 1) := by decide +kernel
theorem dX12_firstWrong_38 : decode cX12_firstWrong 38 = .ok (.getfield 7, 3) := by decide +kernel
theorem dX12_firstWrong_41 : decode cX12_firstWrong 41 = .ok (.bipush 45, 2) := by decide +kernel
theorem dX12_firstWrong_43 : decode cX12_firstWrong 43 = .ok (.iload_n 2, 1) := by decide +kernel
theorem dX12_firstWrong_44 : decode cX12_firstWrong 44 = .ok (.iadd, 1) := by decide +kernel
theorem dX12_firstWrong_45 : decode cX12_firstWrong 45 = .ok (.iaload, 1) := by decide +kernel
theorem dX12_firstWrong_46 : decode cX12_firstWrong 46 = .ok (.istore_n 1, 1) := by decide +kernel
theorem dX12_firstWrong_47 : decode cX12_firstWrong 47 = .ok (.iinc 2 1, 3) := by decide +kernel
theorem dX12_firstWrong_50 : decode cX12_firstWrong 50 = .ok (.goto (-43), 3) := by decide +kernel
theorem dX12_firstWrong_53 : decode cX12_firstWrong 53 = .ok (.iconst (-1), 1) := by decide +kernel
theorem dX12_firstWrong_54 : decode cX12_firstWrong 54 = .ok (.ireturn, 1) := by decide +kernel
def KX12_firstWrong_7 (E : EV) (d : Nat) (rr : Option Value × Mem) (I : Mem) (Kp : Int32 → Prop) : ((Int32 × Int32) ⊕ Int32) → Prop
  | .inl q => G E (d + 2) kX12_firstWrong 7 [some (.ref 74), some (.int q.1), some (.int q.2)] [] I rr
  | .inr z => Kp z
def bX12_firstWrong_7 (I : Mem) (x1 : Int32) (x2 : Int32) : Option ((Int32 × Int32) ⊕ Int32) :=
  chk (inb (44 : Int32) 632) <|
  if (I 75 (ix (44 : Int32))) ≤ x2 then
  (some (.inr (-1 : Int32)))
  else
  (chk (inb ((45 : Int32) + x2) 632) <|
  bnd (fX12_mayGo x1 (I 75 (ix ((45 : Int32) + x2))) I) fun v_6 =>
  if v_6 = 0 then
  (some (.inr x2))
  else
  (chk (inb ((45 : Int32) + x2) 632) <|
  letb (I 75 (ix ((45 : Int32) + x2))) fun x1_8 =>
  some (.inl (x1_8, (x2 + (1 : Int32))))))
def sX12_firstWrong_7 (I : Mem) (q : (Int32 × Int32)) : Option ((Int32 × Int32) ⊕ Int32) := bX12_firstWrong_7 I q.1 q.2
set_option maxRecDepth 20000 in
theorem wX12_firstWrong_7 (E : EV) (d : Nat) (rr : Option Value × Mem) (I : Mem) (x1 : Int32) (x2 : Int32) (y : ((Int32 × Int32) ⊕ Int32)) (hf : bX12_firstWrong_7 I x1 x2 = some y) (hK : (KX12_firstWrong_7 E d rr I (fun (z : Int32) => (some (.int z), I) = rr)) y) : G E (d + 2) kX12_firstWrong 7 [some (.ref 74), some (.int x1), some (.int x2)] [] I rr := by
  unfold bX12_firstWrong_7 at hf
  refine G.iload_n dX12_firstWrong_7 rfl rfl ?_
  refine G.aload_n dX12_firstWrong_8 rfl rfl ?_
  refine G.getR (q := 75) dX12_firstWrong_9 flX12_7 (by decide) rfl rfl ?_
  refine G.bipush (v := 44) dX12_firstWrong_12 (by decide) ?_
  obtain ⟨hi_3, hf⟩ := chk_at hf
  refine G.iald' dX12_firstWrong_14 (by decide) rfl rfl hi_3 ?_
  refine G.icmp_ge (tgt := 53) dX12_firstWrong_15 (by decide) (fun c_10 => ?_) (fun c_10 => ?_)
  · have hf := ite_t hf c_10
    refine G.iconst (v := -1) dX12_firstWrong_53 (by decide) ?_
    have hf := Option.some.inj hf
    subst hf
    exact G.iret' dX12_firstWrong_54 rfl hK
  · have hf := ite_f hf c_10
    refine G.aload_n dX12_firstWrong_18 rfl rfl ?_
    refine G.iload_n dX12_firstWrong_19 rfl rfl ?_
    refine G.aload_n dX12_firstWrong_20 rfl rfl ?_
    refine G.getR (q := 75) dX12_firstWrong_21 flX12_7 (by decide) rfl rfl ?_
    refine G.bipush (v := 45) dX12_firstWrong_24 (by decide) ?_
    refine G.iload_n dX12_firstWrong_26 rfl rfl ?_
    refine G.iadd dX12_firstWrong_27 ?_
    obtain ⟨hi_4, hf⟩ := chk_at hf
    refine G.iald' dX12_firstWrong_28 (by decide) rfl rfl hi_4 ?_
    obtain ⟨v_6, hc_5, hf⟩ := bnd_at hf
    refine G.callVi (av := [.int x1, .int (I 75 (ix ((45 : Int32) + x2)))]) (rest := []) dX12_firstWrong_29 mvX12_176 (gX12_mayGo E d x1 (I 75 (ix ((45 : Int32) + x2))) I hc_5) (by decide) rfl rfl rfl (Nat.le_of_ble_eq_true rfl) ?_
    refine G.if_ne (tgt := 37) dX12_firstWrong_32 (by decide) (fun c_9 => ?_) (fun c_9 => ?_)
    · have hf := ite_f hf c_9
      refine G.aload_n dX12_firstWrong_37 rfl rfl ?_
      refine G.getR (q := 75) dX12_firstWrong_38 flX12_7 (by decide) rfl rfl ?_
      refine G.bipush (v := 45) dX12_firstWrong_41 (by decide) ?_
      refine G.iload_n dX12_firstWrong_43 rfl rfl ?_
      refine G.iadd dX12_firstWrong_44 ?_
      obtain ⟨hi_7, hf⟩ := chk_at hf
      refine G.iald' dX12_firstWrong_45 (by decide) rfl rfl hi_7 ?_
      refine G.nmi (fun x1_8 e_x1_8 => ?_)
      have hf := letb_at hf e_x1_8
      clear e_x1_8
      refine G.istore_n (L' := [some (.ref 74), some (.int x1_8), some (.int x2)]) dX12_firstWrong_46 rfl (Nat.le_of_ble_eq_true rfl) (Nat.le_of_ble_eq_true rfl) rfl rfl ?_
      refine G.inc (w := 1) (L' := [some (.ref 74), some (.int x1_8), some (.int (x2 + (1 : Int32)))]) dX12_firstWrong_47 (by decide) rfl (Nat.le_of_ble_eq_true rfl) rfl rfl ?_
      refine G.goto (tgt := 7) dX12_firstWrong_50 (by decide) ?_
      have hf := Option.some.inj hf
      subst hf
      exact hK
    · have hf := ite_t hf c_9
      refine G.iload_n dX12_firstWrong_35 rfl rfl ?_
      have hf := Option.some.inj hf
      subst hf
      exact G.iret' dX12_firstWrong_36 rfl hK
theorem lX12_firstWrong_7 (E : EV) (d : Nat) (rr : Option Value × Mem) (I : Mem) (z : Int32) (hK : (fun (z : Int32) => (some (.int z), I) = rr) z) : ∀ (n : Nat) (q : (Int32 × Int32)), iter (sX12_firstWrong_7 I) n q = some z → G E (d + 2) kX12_firstWrong 7 [some (.ref 74), some (.int q.1), some (.int q.2)] [] I rr := by
  intro n
  induction n with
  | zero => intro q h; cases h
  | succ n ih =>
    intro q h
    rcases iter_at h with ⟨q2, hs, h2⟩ | hs
    · exact wX12_firstWrong_7 E d rr I q.1 q.2 _ hs (ih q2 h2)
    · exact wX12_firstWrong_7 E d rr I q.1 q.2 _ hs hK
def fX12_firstWrong (I : Mem) : Option Int32 :=
  bnd (fX12_now I) fun v_2 =>
  iter (sX12_firstWrong_7 I) FU (v_2, (0 : Int32))
set_option maxRecDepth 20000 in
theorem gX12_firstWrong (E : EV) (d : Nat) (I : Mem) {v : Int32} (hf : fX12_firstWrong I = some v) : Gm E (d + 2) kX12_firstWrong [.ref 74] I (some (.int v), I) := by
  refine (fun (y : Int32) (hf : fX12_firstWrong I = some y) => (?_ : Gm E (d + 2) kX12_firstWrong [.ref 74] I (some (.int y), I))) v hf
  refine Gm.of (by decide) rfl (Nat.le_of_ble_eq_true rfl) ?_
  generalize hrr : ((some (.int y), I) : Option Value × Mem) = rr
  show G E (d + 2) kX12_firstWrong 0 [some (.ref 74), none, none] [] I rr
  have hK : (fun (z : Int32) => (some (.int z), I) = rr) y := hrr
  clear hrr
  unfold fX12_firstWrong at hf
  refine G.aload_n dX12_firstWrong_0 rfl rfl ?_
  obtain ⟨v_2, hc_1, hf⟩ := bnd_at hf
  refine G.callVi (av := []) (rest := []) dX12_firstWrong_1 mvX12_173 (gX12_now E (d + 1) I hc_1) (by decide) rfl rfl rfl (Nat.le_of_ble_eq_true rfl) ?_
  refine G.istore_n (L' := [some (.ref 74), some (.int v_2), none]) dX12_firstWrong_4 rfl (Nat.le_of_ble_eq_true rfl) (Nat.le_of_ble_eq_true rfl) rfl rfl ?_
  refine G.iconst (v := 0) dX12_firstWrong_5 (by decide) ?_
  refine G.istore_n (L' := [some (.ref 74), some (.int v_2), some (.int (0 : Int32))]) dX12_firstWrong_6 rfl (Nat.le_of_ble_eq_true rfl) (Nat.le_of_ble_eq_true rfl) rfl rfl ?_
  exact lX12_firstWrong_7 E d rr I _ hK FU _ hf
theorem dX12_judge_0 : decode cX12_judge 0 = .ok (.aload_n 0, 1) := by decide +kernel
theorem dX12_judge_1 : decode cX12_judge 1 = .ok (.invokevirtual 186, 3) := by decide +kernel
theorem dX12_judge_4 : decode cX12_judge 4 = .ok (.ireturn, 1) := by decide +kernel
def fX12_judge (I : Mem) : Option Int32 :=
  bnd (fX12_firstWrong I) fun v_2 =>
  some v_2
set_option maxRecDepth 20000 in
theorem gX12_judge (E : EV) (d : Nat) (I : Mem) {v : Int32} (hf : fX12_judge I = some v) : Gm E (d + 3) kX12_judge [.ref 74] I (some (.int v), I) := by
  refine (fun (y : Int32) (hf : fX12_judge I = some y) => (?_ : Gm E (d + 3) kX12_judge [.ref 74] I (some (.int y), I))) v hf
  refine Gm.of (by decide) rfl (Nat.le_of_ble_eq_true rfl) ?_
  generalize hrr : ((some (.int y), I) : Option Value × Mem) = rr
  show G E (d + 3) kX12_judge 0 [some (.ref 74)] [] I rr
  have hK : (fun (z : Int32) => (some (.int z), I) = rr) y := hrr
  clear hrr
  unfold fX12_judge at hf
  refine G.aload_n dX12_judge_0 rfl rfl ?_
  obtain ⟨v_2, hc_1, hf⟩ := bnd_at hf
  refine G.callVi (av := []) (rest := []) dX12_judge_1 mvX12_186 (gX12_firstWrong E d I hc_1) (by decide) rfl rfl rfl (Nat.le_of_ble_eq_true rfl) ?_
  have hf := Option.some.inj hf
  subst hf
  exact G.iret' dX12_judge_4 rfl hK
theorem dX12_cost_0 : decode cX12_cost 0 = .ok (.iload_n 1, 1) := by decide +kernel
theorem dX12_cost_1 : decode cX12_cost 1 = .ok (.i2l, 1) := by decide +kernel
theorem dX12_cost_2 : decode cX12_cost 2 = .ok (.lconst 0, 1) := by decide +kernel
theorem dX12_cost_3 : decode cX12_cost 3 = .ok (.ldc2_w 87, 3) := by decide +kernel
theorem dX12_cost_6 : decode cX12_cost 6 = .ok (.invokestatic 49, 3) := by decide +kernel
theorem dX12_cost_9 : decode cX12_cost 9 = .ok (.ifCond .ne 10, 3) := by decide +kernel
theorem dX12_cost_12 : decode cX12_cost 12 = .ok (.aload_n 0, 1) := by decide +kernel
theorem dX12_cost_13 : decode cX12_cost 13 = .ok (.bipush (-2), 2) := by decide +kernel
theorem dX12_cost_15 : decode cX12_cost 15 = .ok (.invokevirtual 59, 3) := by decide +kernel
theorem dX12_cost_18 : decode cX12_cost 18 = .ok (.ireturn, 1) := by decide +kernel
theorem dX12_cost_19 : decode cX12_cost 19 = .ok (.aload_n 0, 1) := by decide +kernel
theorem dX12_cost_20 : decode cX12_cost 20 = .ok (.invokevirtual 186, 3) := by decide +kernel
theorem dX12_cost_23 : decode cX12_cost 23 = .ok (.iconst (-1), 1) := by decide +kernel
theorem dX12_cost_24 : decode cX12_cost 24 = .ok (.if_icmp .eq 8, 3) := by decide +kernel
theorem dX12_cost_27 : decode cX12_cost 27 = .ok (.aload_n 0, 1) := by decide +kernel
theorem dX12_cost_28 : decode cX12_cost 28 = .ok (.invokevirtual 71, 3) := by decide +kernel
theorem dX12_cost_31 : decode cX12_cost 31 = .ok (.ireturn, 1) := by decide +kernel
theorem dX12_cost_32 : decode cX12_cost 32 = .ok (.aload_n 0, 1) := by decide +kernel
theorem dX12_cost_33 : decode cX12_cost 33 = .ok (.invokevirtual 173, 3) := by decide +kernel
theorem dX12_cost_36 : decode cX12_cost 36 = .ok (.istore_n 2, 1) := by decide +kernel
theorem dX12_cost_37 : decode cX12_cost 37 = .ok (.iconst 0, 1) := by decide +kernel
theorem dX12_cost_38 : decode cX12_cost 38 = .ok (.istore_n 3, 1) := by decide +kernel
theorem dX12_cost_39 : decode cX12_cost 39 = .ok (.iconst 0, 1) := by decide +kernel
theorem dX12_cost_40 : decode cX12_cost 40 = .ok (.istore 4, 2) := by decide +kernel
theorem dX12_cost_42 : decode cX12_cost 42 = .ok (.iload 4, 2) := by decide +kernel
theorem dX12_cost_44 : decode cX12_cost 44 = .ok (.aload_n 0, 1) := by decide +kernel
theorem dX12_cost_45 : decode cX12_cost 45 = .ok (.getfield 7, 3) := by decide +kernel
theorem dX12_cost_48 : decode cX12_cost 48 = .ok (.bipush 44, 2) := by decide +kernel
theorem dX12_cost_50 : decode cX12_cost 50 = .ok (.iaload, 1) := by decide +kernel
theorem dX12_cost_51 : decode cX12_cost 51 = .ok (.if_icmp .ge 50, 3) := by decide +kernel
theorem dX12_cost_54 : decode cX12_cost 54 = .ok (.iload_n 3, 1) := by decide +kernel
theorem dX12_cost_55 : decode cX12_cost 55 = .ok (.aload_n 0, 1) := by decide +kernel
theorem dX12_cost_56 : decode cX12_cost 56 = .ok (.iload_n 1, 1) := by decide +kernel
theorem dX12_cost_57 : decode cX12_cost 57 = .ok (.aload_n 0, 1) := by decide +kernel
theorem dX12_cost_58 : decode cX12_cost 58 = .ok (.getfield 7, 3) := by decide +kernel
theorem dX12_cost_61 : decode cX12_cost 61 = .ok (.iconst 2, 1) := by decide +kernel
theorem dX12_cost_62 : decode cX12_cost 62 = .ok (.iaload, 1) := by decide +kernel
theorem dX12_cost_63 : decode cX12_cost 63 = .ok (.iconst 1, 1) := by decide +kernel
theorem dX12_cost_64 : decode cX12_cost 64 = .ok (.iadd, 1) := by decide +kernel
theorem dX12_cost_65 : decode cX12_cost 65 = .ok (.iload 4, 2) := by decide +kernel
theorem dX12_cost_67 : decode cX12_cost 67 = .ok (.iadd, 1) := by decide +kernel
theorem dX12_cost_68 : decode cX12_cost 68 = .ok (.iload_n 2, 1) := by decide +kernel
theorem dX12_cost_69 : decode cX12_cost 69 = .ok (.aload_n 0, 1) := by decide +kernel
theorem dX12_cost_70 : decode cX12_cost 70 = .ok (.getfield 7, 3) := by decide +kernel
theorem dX12_cost_73 : decode cX12_cost 73 = .ok (.bipush 45, 2) := by decide +kernel
theorem dX12_cost_75 : decode cX12_cost 75 = .ok (.iload 4, 2) := by decide +kernel
theorem dX12_cost_77 : decode cX12_cost 77 = .ok (.iadd, 1) := by decide +kernel
theorem dX12_cost_78 : decode cX12_cost 78 = .ok (.iaload, 1) := by decide +kernel
theorem dX12_cost_79 : decode cX12_cost 79 = .ok (.invokevirtual 189, 3) := by decide +kernel
theorem dX12_cost_82 : decode cX12_cost 82 = .ok (.iadd, 1) := by decide +kernel
theorem dX12_cost_83 : decode cX12_cost 83 = .ok (.istore_n 3, 1) := by decide +kernel
theorem dX12_cost_84 : decode cX12_cost 84 = .ok (.aload_n 0, 1) := by decide +kernel
theorem dX12_cost_85 : decode cX12_cost 85 = .ok (.getfield 7, 3) := by decide +kernel
theorem dX12_cost_88 : decode cX12_cost 88 = .ok (.bipush 45, 2) := by decide +kernel
theorem dX12_cost_90 : decode cX12_cost 90 = .ok (.iload 4, 2) := by decide +kernel
theorem dX12_cost_92 : decode cX12_cost 92 = .ok (.iadd, 1) := by decide +kernel
theorem dX12_cost_93 : decode cX12_cost 93 = .ok (.iaload, 1) := by decide +kernel
theorem dX12_cost_94 : decode cX12_cost 94 = .ok (.istore_n 2, 1) := by decide +kernel
theorem dX12_cost_95 : decode cX12_cost 95 = .ok (.iinc 4 1, 3) := by decide +kernel
theorem dX12_cost_98 : decode cX12_cost 98 = .ok (.goto (-56), 3) := by decide +kernel
theorem dX12_cost_101 : decode cX12_cost 101 = .ok (.iload_n 3, 1) := by decide +kernel
theorem dX12_cost_102 : decode cX12_cost 102 = .ok (.ireturn, 1) := by decide +kernel
def KX12_cost_42 (E : EV) (d : Nat) (rr : Option Value × Mem) (x1 : Int32) (I : Mem) (Kp : (Int32 × Mem) → Prop) : ((Int32 × Int32 × Int32) ⊕ (Int32 × Mem)) → Prop
  | .inl q => G E (d + 4) kX12_cost 42 [some (.ref 74), some (.int x1), some (.int q.1), some (.int q.2.1), some (.int q.2.2)] [] I rr
  | .inr z => Kp z
def bX12_cost_42 (x1 : Int32) (I : Mem) (x2 : Int32) (x3 : Int32) (x4 : Int32) : Option ((Int32 × Int32 × Int32) ⊕ (Int32 × Mem)) :=
  chk (inb (44 : Int32) 632) <|
  if (I 75 (ix (44 : Int32))) ≤ x4 then
  (some (.inr (x3, I)))
  else
  (chk (inb (2 : Int32) 632) <|
  chk (inb ((45 : Int32) + x4) 632) <|
  bnd (fX12_laid x1 (((I 75 (ix (2 : Int32))) + (1 : Int32)) + x4) x2 (I 75 (ix ((45 : Int32) + x4))) I) fun v_11 =>
  letb (x3 + v_11) fun x3_12 =>
  chk (inb ((45 : Int32) + x4) 632) <|
  letb (I 75 (ix ((45 : Int32) + x4))) fun x2_14 =>
  some (.inl (x2_14, x3_12, (x4 + (1 : Int32)))))
def sX12_cost_42 (x1 : Int32) (I : Mem) (q : (Int32 × Int32 × Int32)) : Option ((Int32 × Int32 × Int32) ⊕ (Int32 × Mem)) := bX12_cost_42 x1 I q.1 q.2.1 q.2.2
set_option maxRecDepth 20000 in
theorem wX12_cost_42 (E : EV) (d : Nat) (rr : Option Value × Mem) (x1 : Int32) (I : Mem) (x2 : Int32) (x3 : Int32) (x4 : Int32) (y : ((Int32 × Int32 × Int32) ⊕ (Int32 × Mem))) (hf : bX12_cost_42 x1 I x2 x3 x4 = some y) (hK : (KX12_cost_42 E d rr x1 I (fun (z : Int32 × Mem) => (some (.int z.1), z.2) = rr)) y) : G E (d + 4) kX12_cost 42 [some (.ref 74), some (.int x1), some (.int x2), some (.int x3), some (.int x4)] [] I rr := by
  unfold bX12_cost_42 at hf
  refine G.iload dX12_cost_42 rfl ?_
  refine G.aload_n dX12_cost_44 rfl rfl ?_
  refine G.getR (q := 75) dX12_cost_45 flX12_7 (by decide) rfl rfl ?_
  refine G.bipush (v := 44) dX12_cost_48 (by decide) ?_
  obtain ⟨hi_7, hf⟩ := chk_at hf
  refine G.iald' dX12_cost_50 (by decide) rfl rfl hi_7 ?_
  refine G.icmp_ge (tgt := 101) dX12_cost_51 (by decide) (fun c_15 => ?_) (fun c_15 => ?_)
  · have hf := ite_t hf c_15
    refine G.iload_n dX12_cost_101 rfl rfl ?_
    have hf := Option.some.inj hf
    subst hf
    exact G.iret' dX12_cost_102 rfl hK
  · have hf := ite_f hf c_15
    refine G.iload_n dX12_cost_54 rfl rfl ?_
    refine G.aload_n dX12_cost_55 rfl rfl ?_
    refine G.iload_n dX12_cost_56 rfl rfl ?_
    refine G.aload_n dX12_cost_57 rfl rfl ?_
    refine G.getR (q := 75) dX12_cost_58 flX12_7 (by decide) rfl rfl ?_
    refine G.iconst (v := 2) dX12_cost_61 (by decide) ?_
    obtain ⟨hi_8, hf⟩ := chk_at hf
    refine G.iald' dX12_cost_62 (by decide) rfl rfl hi_8 ?_
    refine G.iconst (v := 1) dX12_cost_63 (by decide) ?_
    refine G.iadd dX12_cost_64 ?_
    refine G.iload dX12_cost_65 rfl ?_
    refine G.iadd dX12_cost_67 ?_
    refine G.iload_n dX12_cost_68 rfl rfl ?_
    refine G.aload_n dX12_cost_69 rfl rfl ?_
    refine G.getR (q := 75) dX12_cost_70 flX12_7 (by decide) rfl rfl ?_
    refine G.bipush (v := 45) dX12_cost_73 (by decide) ?_
    refine G.iload dX12_cost_75 rfl ?_
    refine G.iadd dX12_cost_77 ?_
    obtain ⟨hi_9, hf⟩ := chk_at hf
    refine G.iald' dX12_cost_78 (by decide) rfl rfl hi_9 ?_
    obtain ⟨v_11, hc_10, hf⟩ := bnd_at hf
    refine G.callVi (av := [.int x1, .int (((I 75 (ix (2 : Int32))) + (1 : Int32)) + x4), .int x2, .int (I 75 (ix ((45 : Int32) + x4)))]) (rest := [.int x3]) dX12_cost_79 mvX12_189 (gX12_laid E d x1 (((I 75 (ix (2 : Int32))) + (1 : Int32)) + x4) x2 (I 75 (ix ((45 : Int32) + x4))) I hc_10) (by decide) rfl rfl rfl (Nat.le_of_ble_eq_true rfl) ?_
    refine G.iadd dX12_cost_82 ?_
    refine G.nmi (fun x3_12 e_x3_12 => ?_)
    have hf := letb_at hf e_x3_12
    clear e_x3_12
    refine G.istore_n (L' := [some (.ref 74), some (.int x1), some (.int x2), some (.int x3_12), some (.int x4)]) dX12_cost_83 rfl (Nat.le_of_ble_eq_true rfl) (Nat.le_of_ble_eq_true rfl) rfl rfl ?_
    refine G.aload_n dX12_cost_84 rfl rfl ?_
    refine G.getR (q := 75) dX12_cost_85 flX12_7 (by decide) rfl rfl ?_
    refine G.bipush (v := 45) dX12_cost_88 (by decide) ?_
    refine G.iload dX12_cost_90 rfl ?_
    refine G.iadd dX12_cost_92 ?_
    obtain ⟨hi_13, hf⟩ := chk_at hf
    refine G.iald' dX12_cost_93 (by decide) rfl rfl hi_13 ?_
    refine G.nmi (fun x2_14 e_x2_14 => ?_)
    have hf := letb_at hf e_x2_14
    clear e_x2_14
    refine G.istore_n (L' := [some (.ref 74), some (.int x1), some (.int x2_14), some (.int x3_12), some (.int x4)]) dX12_cost_94 rfl (Nat.le_of_ble_eq_true rfl) (Nat.le_of_ble_eq_true rfl) rfl rfl ?_
    refine G.inc (w := 1) (L' := [some (.ref 74), some (.int x1), some (.int x2_14), some (.int x3_12), some (.int (x4 + (1 : Int32)))]) dX12_cost_95 (by decide) rfl (Nat.le_of_ble_eq_true rfl) rfl rfl ?_
    refine G.goto (tgt := 42) dX12_cost_98 (by decide) ?_
    have hf := Option.some.inj hf
    subst hf
    exact hK
theorem lX12_cost_42 (E : EV) (d : Nat) (rr : Option Value × Mem) (x1 : Int32) (I : Mem) (z : (Int32 × Mem)) (hK : (fun (z : Int32 × Mem) => (some (.int z.1), z.2) = rr) z) : ∀ (n : Nat) (q : (Int32 × Int32 × Int32)), iter (sX12_cost_42 x1 I) n q = some z → G E (d + 4) kX12_cost 42 [some (.ref 74), some (.int x1), some (.int q.1), some (.int q.2.1), some (.int q.2.2)] [] I rr := by
  intro n
  induction n with
  | zero => intro q h; cases h
  | succ n ih =>
    intro q h
    rcases iter_at h with ⟨q2, hs, h2⟩ | hs
    · exact wX12_cost_42 E d rr x1 I q.1 q.2.1 q.2.2 _ hs (ih q2 h2)
    · exact wX12_cost_42 E d rr x1 I q.1 q.2.1 q.2.2 _ hs hK
def fX12_cost (x1 : Int32) (I : Mem) : Option (Int32 × Mem) :=
  bnd (fX12_in (Int32.toInt64 x1) (0 : Int64) (4 : Int64) I) fun v_2 =>
  if v_2 = 0 then
  (bnd2 (fX12_bad (-2 : Int32) I) fun v_21 I_22 =>
  some (v_21, I_22))
  else
  (bnd (fX12_firstWrong I) fun v_4 =>
  if v_4 = (-1 : Int32) then
  (bnd (fX12_now I) fun v_6 =>
  iter (sX12_cost_42 x1 I) FU (v_6, (0 : Int32), (0 : Int32)))
  else
  (bnd2 (fX12_no I) fun v_17 I_18 =>
  some (v_17, I_18)))
set_option maxRecDepth 20000 in
theorem gX12_cost (E : EV) (d : Nat) (x1 : Int32) (I : Mem) {v : Int32} {J : Mem} (hf : fX12_cost x1 I = some (v, J)) : Gm E (d + 4) kX12_cost [.ref 74, .int x1] I (some (.int v), J) := by
  refine (fun (y : (Int32 × Mem)) (hf : fX12_cost x1 I = some y) => (?_ : Gm E (d + 4) kX12_cost [.ref 74, .int x1] I (some (.int y.1), y.2))) (v, J) hf
  refine Gm.of (by decide) rfl (Nat.le_of_ble_eq_true rfl) ?_
  generalize hrr : ((some (.int y.1), y.2) : Option Value × Mem) = rr
  show G E (d + 4) kX12_cost 0 [some (.ref 74), some (.int x1), none, none, none] [] I rr
  have hK : (fun (z : Int32 × Mem) => (some (.int z.1), z.2) = rr) y := hrr
  clear hrr
  unfold fX12_cost at hf
  refine G.iload_n dX12_cost_0 rfl rfl ?_
  refine G.i2l dX12_cost_1 ?_
  refine G.lconst (v := 0) dX12_cost_2 (by decide) ?_
  refine G.ldc2 (v := 4) dX12_cost_3 kcX12_87 ?_
  obtain ⟨v_2, hc_1, hf⟩ := bnd_at hf
  refine G.callSi (av := [.long (Int32.toInt64 x1), .long (0 : Int64), .long (4 : Int64)]) (rest := []) dX12_cost_6 msX12_49 (gX12_in E (d + 3) (Int32.toInt64 x1) (0 : Int64) (4 : Int64) I hc_1) rfl rfl (Nat.le_of_ble_eq_true rfl) ?_
  refine G.if_ne (tgt := 19) dX12_cost_9 (by decide) (fun c_23 => ?_) (fun c_23 => ?_)
  · have hf := ite_f hf c_23
    refine G.aload_n dX12_cost_19 rfl rfl ?_
    obtain ⟨v_4, hc_3, hf⟩ := bnd_at hf
    refine G.callVi (av := []) (rest := []) dX12_cost_20 mvX12_186 (gX12_firstWrong E (d + 1) I hc_3) (by decide) rfl rfl rfl (Nat.le_of_ble_eq_true rfl) ?_
    refine G.iconst (v := -1) dX12_cost_23 (by decide) ?_
    refine G.icmp_eq (tgt := 32) dX12_cost_24 (by decide) (fun c_19 => ?_) (fun c_19 => ?_)
    · have hf := ite_t hf c_19
      refine G.aload_n dX12_cost_32 rfl rfl ?_
      obtain ⟨v_6, hc_5, hf⟩ := bnd_at hf
      refine G.callVi (av := []) (rest := []) dX12_cost_33 mvX12_173 (gX12_now E (d + 3) I hc_5) (by decide) rfl rfl rfl (Nat.le_of_ble_eq_true rfl) ?_
      refine G.istore_n (L' := [some (.ref 74), some (.int x1), some (.int v_6), none, none]) dX12_cost_36 rfl (Nat.le_of_ble_eq_true rfl) (Nat.le_of_ble_eq_true rfl) rfl rfl ?_
      refine G.iconst (v := 0) dX12_cost_37 (by decide) ?_
      refine G.istore_n (L' := [some (.ref 74), some (.int x1), some (.int v_6), some (.int (0 : Int32)), none]) dX12_cost_38 rfl (Nat.le_of_ble_eq_true rfl) (Nat.le_of_ble_eq_true rfl) rfl rfl ?_
      refine G.iconst (v := 0) dX12_cost_39 (by decide) ?_
      refine G.istore (L' := [some (.ref 74), some (.int x1), some (.int v_6), some (.int (0 : Int32)), some (.int (0 : Int32))]) dX12_cost_40 (Nat.le_of_ble_eq_true rfl) (Nat.le_of_ble_eq_true rfl) rfl rfl ?_
      exact lX12_cost_42 E d rr x1 I _ hK FU _ hf
    · have hf := ite_f hf c_19
      refine G.aload_n dX12_cost_27 rfl rfl ?_
      obtain ⟨v_17, I_18, hc_16, hf⟩ := bnd2_at hf
      refine G.callVi (av := []) (rest := []) dX12_cost_28 mvX12_71 (gX12_no E (d + 3) I hc_16) (by decide) rfl rfl rfl (Nat.le_of_ble_eq_true rfl) ?_
      have hf := Option.some.inj hf
      subst hf
      exact G.iret' dX12_cost_31 rfl hK
  · have hf := ite_t hf c_23
    refine G.aload_n dX12_cost_12 rfl rfl ?_
    refine G.bipush (v := -2) dX12_cost_13 (by decide) ?_
    obtain ⟨v_21, I_22, hc_20, hf⟩ := bnd2_at hf
    refine G.callVi (av := [.int (-2 : Int32)]) (rest := []) dX12_cost_15 mvX12_59 (gX12_bad E (d + 3) (-2 : Int32) I hc_20) (by decide) rfl rfl rfl (Nat.le_of_ble_eq_true rfl) ?_
    have hf := Option.some.inj hf
    subst hf
    exact G.iret' dX12_cost_18 rfl hK
theorem dX12_standingOf_0 : decode cX12_standingOf 0 = .ok (.iload_n 1, 1) := by decide +kernel
theorem dX12_standingOf_1 : decode cX12_standingOf 1 = .ok (.istore_n 2, 1) := by decide +kernel
theorem dX12_standingOf_2 : decode cX12_standingOf 2 = .ok (.iconst 0, 1) := by decide +kernel
theorem dX12_standingOf_3 : decode cX12_standingOf 3 = .ok (.istore_n 3, 1) := by decide +kernel
theorem dX12_standingOf_4 : decode cX12_standingOf 4 = .ok (.aload_n 0, 1) := by decide +kernel
theorem dX12_standingOf_5 : decode cX12_standingOf 5 = .ok (.getfield 7, 3) := by decide +kernel
theorem dX12_standingOf_8 : decode cX12_standingOf 8 = .ok (.iconst 3, 1) := by decide +kernel
theorem dX12_standingOf_9 : decode cX12_standingOf 9 = .ok (.iaload, 1) := by decide +kernel
theorem dX12_standingOf_10 : decode cX12_standingOf 10 = .ok (.iconst 1, 1) := by decide +kernel
theorem dX12_standingOf_11 : decode cX12_standingOf 11 = .ok (.isub, 1) := by decide +kernel
theorem dX12_standingOf_12 : decode cX12_standingOf 12 = .ok (.istore 4, 2) := by decide +kernel
theorem dX12_standingOf_14 : decode cX12_standingOf 14 = .ok (.iload 4, 2) := by decide +kernel
theorem dX12_standingOf_16 : decode cX12_standingOf 16 = .ok (.ifCond .lt 49, 3) := by decide +kernel
theorem dX12_standingOf_19 : decode cX12_standingOf 19 = .ok (.iload_n 2, 1) := by decide +kernel
theorem dX12_standingOf_20 : decode cX12_standingOf 20 = .ok (.aload_n 0, 1) := by decide +kernel
theorem dX12_standingOf_21 : decode cX12_standingOf 21 = .ok (.getfield 7, 3) := by decide +kernel
theorem dX12_standingOf_24 : decode cX12_standingOf 24 = .ok (.iconst 0, 1) := by decide +kernel
theorem dX12_standingOf_25 : decode cX12_standingOf 25 = .ok (.iaload, 1) := by decide +kernel
theorem dX12_standingOf_26 : decode cX12_standingOf 26 = .ok (.irem, 1) := by decide +kernel
theorem dX12_standingOf_27 : decode cX12_standingOf 27 = .ok (.istore 5, 2) := by decide +kernel
theorem dX12_standingOf_29 : decode cX12_standingOf 29 = .ok (.iload_n 2, 1) := by decide +kernel
theorem dX12_standingOf_30 : decode cX12_standingOf 30 = .ok (.aload_n 0, 1) := by decide +kernel
theorem dX12_standingOf_31 : decode cX12_standingOf 31 = .ok (.getfield 7, 3) := by decide +kernel
theorem dX12_standingOf_34 : decode cX12_standingOf 34 = .ok (.iconst 0, 1) := by decide +kernel
theorem dX12_standingOf_35 : decode cX12_standingOf 35 = .ok (.iaload, 1) := by decide +kernel
theorem dX12_standingOf_36 : decode cX12_standingOf 36 = .ok (.idiv, 1) := by decide +kernel
theorem dX12_standingOf_37 : decode cX12_standingOf 37 = .ok (.istore_n 2, 1) := by decide +kernel
theorem dX12_standingOf_38 : decode cX12_standingOf 38 = .ok (.iload 5, 2) := by decide +kernel
theorem dX12_standingOf_40 : decode cX12_standingOf 40 = .ok (.aload_n 0, 1) := by decide +kernel
theorem dX12_standingOf_41 : decode cX12_standingOf 41 = .ok (.getfield 35, 3) := by decide +kernel
theorem dX12_standingOf_44 : decode cX12_standingOf 44 = .ok (.if_icmp .ne 5, 3) := by decide +kernel
theorem dX12_standingOf_47 : decode cX12_standingOf 47 = .ok (.iconst (-1), 1) := by decide +kernel
theorem dX12_standingOf_48 : decode cX12_standingOf 48 = .ok (.ireturn, 1) := by decide +kernel
theorem dX12_standingOf_49 : decode cX12_standingOf 49 = .ok (.iload_n 3, 1) := by decide +kernel
theorem dX12_standingOf_50 : decode cX12_standingOf 50 = .ok (.iload 5, 2) := by decide +kernel
theorem dX12_standingOf_52 : decode cX12_standingOf 52 = .ok (.iconst 3, 1) := by decide +kernel
theorem dX12_standingOf_53 : decode cX12_standingOf 53 = .ok (.iload 4, 2) := by decide +kernel
theorem dX12_standingOf_55 : decode cX12_standingOf 55 = .ok (.imul, 1) := by decide +kernel
theorem dX12_standingOf_56 : decode cX12_standingOf 56 = .ok (.ishl, 1) := by decide +kernel
theorem dX12_standingOf_57 : decode cX12_standingOf 57 = .ok (.ior, 1) := by decide +kernel
theorem dX12_standingOf_58 : decode cX12_standingOf 58 = .ok (.istore_n 3, 1) := by decide +kernel
theorem dX12_standingOf_59 : decode cX12_standingOf 59 = .ok (.iinc 4 (-1), 3) := by decide +kernel
theorem dX12_standingOf_62 : decode cX12_standingOf 62 = .ok (.goto (-48), 3) := by decide +kernel
theorem dX12_standingOf_65 : decode cX12_standingOf 65 = .ok (.iload_n 3, 1) := by decide +kernel
theorem dX12_standingOf_66 : decode cX12_standingOf 66 = .ok (.ireturn, 1) := by decide +kernel
def KX12_standingOf_14 (E : EV) (d : Nat) (rr : Option Value × Mem) (I : Mem) (Kp : Int32 → Prop) : ((Int32 × Int32 × Int32) ⊕ Int32) → Prop
  | .inl q => G E (d + 0) kX12_standingOf 14 [some (.ref 74), none, some (.int q.1), some (.int q.2.1), some (.int q.2.2), none] [] I rr
  | .inr z => Kp z
def bX12_standingOf_14 (I : Mem) (x2 : Int32) (x3 : Int32) (x4 : Int32) : Option ((Int32 × Int32 × Int32) ⊕ Int32) :=
  if x4 < 0 then
  (some (.inr x3))
  else
  (chk (inb (0 : Int32) 632) <|
  chk (decide (¬ (I 75 (ix (0 : Int32))) = 0)) <|
  letb (x2 - x2 / (I 75 (ix (0 : Int32))) * (I 75 (ix (0 : Int32)))) fun x5_5 =>
  chk (inb (0 : Int32) 632) <|
  chk (decide (¬ (I 75 (ix (0 : Int32))) = 0)) <|
  letb (x2 / (I 75 (ix (0 : Int32)))) fun x2_8 =>
  if x5_5 = (I 74 15) then
  (some (.inr (-1 : Int32)))
  else
  (letb (x3 ||| (x5_5 <<< (((3 : Int32) * x4) &&& 31))) fun x3_9 =>
  some (.inl (x2_8, x3_9, (x4 + (-1 : Int32))))))
def sX12_standingOf_14 (I : Mem) (q : (Int32 × Int32 × Int32)) : Option ((Int32 × Int32 × Int32) ⊕ Int32) := bX12_standingOf_14 I q.1 q.2.1 q.2.2
set_option maxRecDepth 20000 in
theorem wX12_standingOf_14 (E : EV) (d : Nat) (rr : Option Value × Mem) (I : Mem) (x2 : Int32) (x3 : Int32) (x4 : Int32) (y : ((Int32 × Int32 × Int32) ⊕ Int32)) (hf : bX12_standingOf_14 I x2 x3 x4 = some y) (hK : (KX12_standingOf_14 E d rr I (fun (z : Int32) => (some (.int z), I) = rr)) y) : G E (d + 0) kX12_standingOf 14 [some (.ref 74), none, some (.int x2), some (.int x3), some (.int x4), none] [] I rr := by
  unfold bX12_standingOf_14 at hf
  refine G.iload dX12_standingOf_14 rfl ?_
  refine G.if_lt (tgt := 65) dX12_standingOf_16 (by decide) (fun c_11 => ?_) (fun c_11 => ?_)
  · have hf := ite_t hf c_11
    refine G.iload_n dX12_standingOf_65 rfl rfl ?_
    have hf := Option.some.inj hf
    subst hf
    exact G.iret' dX12_standingOf_66 rfl hK
  · have hf := ite_f hf c_11
    refine G.iload_n dX12_standingOf_19 rfl rfl ?_
    refine G.aload_n dX12_standingOf_20 rfl rfl ?_
    refine G.getR (q := 75) dX12_standingOf_21 flX12_7 (by decide) rfl rfl ?_
    refine G.iconst (v := 0) dX12_standingOf_24 (by decide) ?_
    obtain ⟨hi_3, hf⟩ := chk_at hf
    refine G.iald' dX12_standingOf_25 (by decide) rfl rfl hi_3 ?_
    obtain ⟨hz_4, hf⟩ := chk_at hf
    refine G.irem dX12_standingOf_26 (of_decide_eq_true hz_4) ?_
    refine G.nmi (fun x5_5 e_x5_5 => ?_)
    have hf := letb_at hf e_x5_5
    clear e_x5_5
    refine G.istore (L' := [some (.ref 74), none, some (.int x2), some (.int x3), some (.int x4), some (.int x5_5)]) dX12_standingOf_27 (Nat.le_of_ble_eq_true rfl) (Nat.le_of_ble_eq_true rfl) rfl rfl ?_
    refine G.iload_n dX12_standingOf_29 rfl rfl ?_
    refine G.aload_n dX12_standingOf_30 rfl rfl ?_
    refine G.getR (q := 75) dX12_standingOf_31 flX12_7 (by decide) rfl rfl ?_
    refine G.iconst (v := 0) dX12_standingOf_34 (by decide) ?_
    obtain ⟨hi_6, hf⟩ := chk_at hf
    refine G.iald' dX12_standingOf_35 (by decide) rfl rfl hi_6 ?_
    obtain ⟨hz_7, hf⟩ := chk_at hf
    refine G.idiv dX12_standingOf_36 (of_decide_eq_true hz_7) ?_
    refine G.nmi (fun x2_8 e_x2_8 => ?_)
    have hf := letb_at hf e_x2_8
    clear e_x2_8
    refine G.istore_n (L' := [some (.ref 74), none, some (.int x2_8), some (.int x3), some (.int x4), some (.int x5_5)]) dX12_standingOf_37 rfl (Nat.le_of_ble_eq_true rfl) (Nat.le_of_ble_eq_true rfl) rfl rfl ?_
    refine G.iload dX12_standingOf_38 rfl ?_
    refine G.aload_n dX12_standingOf_40 rfl rfl ?_
    refine G.getI dX12_standingOf_41 flX12_35 (by decide) rfl ?_
    refine G.icmp_ne (tgt := 49) dX12_standingOf_44 (by decide) (fun c_10 => ?_) (fun c_10 => ?_)
    · have hf := ite_f hf c_10
      refine G.iload_n dX12_standingOf_49 rfl rfl ?_
      refine G.iload dX12_standingOf_50 rfl ?_
      refine G.iconst (v := 3) dX12_standingOf_52 (by decide) ?_
      refine G.iload dX12_standingOf_53 rfl ?_
      refine G.imul dX12_standingOf_55 ?_
      refine G.ishl dX12_standingOf_56 ?_
      refine G.ior dX12_standingOf_57 ?_
      refine G.nmi (fun x3_9 e_x3_9 => ?_)
      have hf := letb_at hf e_x3_9
      clear e_x3_9
      refine G.istore_n (L' := [some (.ref 74), none, some (.int x2_8), some (.int x3_9), some (.int x4), some (.int x5_5)]) dX12_standingOf_58 rfl (Nat.le_of_ble_eq_true rfl) (Nat.le_of_ble_eq_true rfl) rfl rfl ?_
      refine G.inc (w := -1) (L' := [some (.ref 74), none, some (.int x2_8), some (.int x3_9), some (.int (x4 + (-1 : Int32))), some (.int x5_5)]) dX12_standingOf_59 (by decide) rfl (Nat.le_of_ble_eq_true rfl) rfl rfl ?_
      refine G.goto (tgt := 14) dX12_standingOf_62 (by decide) ?_
      have hf := Option.some.inj hf
      subst hf
      refine G.forget (L' := [some (.ref 74), none, some (.int x2_8), some (.int x3_9), some (.int (x4 + (-1 : Int32))), none]) [5] rfl ?_
      exact hK
    · have hf := ite_t hf c_10
      refine G.iconst (v := -1) dX12_standingOf_47 (by decide) ?_
      have hf := Option.some.inj hf
      subst hf
      exact G.iret' dX12_standingOf_48 rfl hK
theorem lX12_standingOf_14 (E : EV) (d : Nat) (rr : Option Value × Mem) (I : Mem) (z : Int32) (hK : (fun (z : Int32) => (some (.int z), I) = rr) z) : ∀ (n : Nat) (q : (Int32 × Int32 × Int32)), iter (sX12_standingOf_14 I) n q = some z → G E (d + 0) kX12_standingOf 14 [some (.ref 74), none, some (.int q.1), some (.int q.2.1), some (.int q.2.2), none] [] I rr := by
  intro n
  induction n with
  | zero => intro q h; cases h
  | succ n ih =>
    intro q h
    rcases iter_at h with ⟨q2, hs, h2⟩ | hs
    · exact wX12_standingOf_14 E d rr I q.1 q.2.1 q.2.2 _ hs (ih q2 h2)
    · exact wX12_standingOf_14 E d rr I q.1 q.2.1 q.2.2 _ hs hK
def fX12_standingOf (x1 : Int32) (I : Mem) : Option Int32 :=
  chk (inb (3 : Int32) 632) <|
  letb ((I 75 (ix (3 : Int32))) - (1 : Int32)) fun x4_2 =>
  iter (sX12_standingOf_14 I) FU (x1, (0 : Int32), x4_2)
set_option maxRecDepth 20000 in
theorem gX12_standingOf (E : EV) (d : Nat) (x1 : Int32) (I : Mem) {v : Int32} (hf : fX12_standingOf x1 I = some v) : Gm E (d + 0) kX12_standingOf [.ref 74, .int x1] I (some (.int v), I) := by
  refine (fun (y : Int32) (hf : fX12_standingOf x1 I = some y) => (?_ : Gm E (d + 0) kX12_standingOf [.ref 74, .int x1] I (some (.int y), I))) v hf
  refine Gm.of (by decide) rfl (Nat.le_of_ble_eq_true rfl) ?_
  generalize hrr : ((some (.int y), I) : Option Value × Mem) = rr
  show G E (d + 0) kX12_standingOf 0 [some (.ref 74), some (.int x1), none, none, none, none] [] I rr
  have hK : (fun (z : Int32) => (some (.int z), I) = rr) y := hrr
  clear hrr
  unfold fX12_standingOf at hf
  refine G.iload_n dX12_standingOf_0 rfl rfl ?_
  refine G.istore_n (L' := [some (.ref 74), some (.int x1), some (.int x1), none, none, none]) dX12_standingOf_1 rfl (Nat.le_of_ble_eq_true rfl) (Nat.le_of_ble_eq_true rfl) rfl rfl ?_
  refine G.iconst (v := 0) dX12_standingOf_2 (by decide) ?_
  refine G.istore_n (L' := [some (.ref 74), some (.int x1), some (.int x1), some (.int (0 : Int32)), none, none]) dX12_standingOf_3 rfl (Nat.le_of_ble_eq_true rfl) (Nat.le_of_ble_eq_true rfl) rfl rfl ?_
  refine G.aload_n dX12_standingOf_4 rfl rfl ?_
  refine G.getR (q := 75) dX12_standingOf_5 flX12_7 (by decide) rfl rfl ?_
  refine G.iconst (v := 3) dX12_standingOf_8 (by decide) ?_
  obtain ⟨hi_1, hf⟩ := chk_at hf
  refine G.iald' dX12_standingOf_9 (by decide) rfl rfl hi_1 ?_
  refine G.iconst (v := 1) dX12_standingOf_10 (by decide) ?_
  refine G.isub dX12_standingOf_11 ?_
  refine G.nmi (fun x4_2 e_x4_2 => ?_)
  have hf := letb_at hf e_x4_2
  clear e_x4_2
  refine G.istore (L' := [some (.ref 74), some (.int x1), some (.int x1), some (.int (0 : Int32)), some (.int x4_2), none]) dX12_standingOf_12 (Nat.le_of_ble_eq_true rfl) (Nat.le_of_ble_eq_true rfl) rfl rfl ?_
  refine G.forget (L' := [some (.ref 74), none, some (.int x1), some (.int (0 : Int32)), some (.int x4_2), none]) [1] rfl ?_
  exact lX12_standingOf_14 E d rr I _ hK FU _ hf
theorem dX12_standings_0 : decode cX12_standings 0 = .ok (.iconst 1, 1) := by decide +kernel
theorem dX12_standings_1 : decode cX12_standings 1 = .ok (.istore_n 1, 1) := by decide +kernel
theorem dX12_standings_2 : decode cX12_standings 2 = .ok (.iconst 0, 1) := by decide +kernel
theorem dX12_standings_3 : decode cX12_standings 3 = .ok (.istore_n 2, 1) := by decide +kernel
theorem dX12_standings_4 : decode cX12_standings 4 = .ok (.iload_n 2, 1) := by decide +kernel
theorem dX12_standings_5 : decode cX12_standings 5 = .ok (.aload_n 0, 1) := by decide +kernel
theorem dX12_standings_6 : decode cX12_standings 6 = .ok (.getfield 7, 3) := by decide +kernel
theorem dX12_standings_9 : decode cX12_standings 9 = .ok (.iconst 3, 1) := by decide +kernel
theorem dX12_standings_10 : decode cX12_standings 10 = .ok (.iaload, 1) := by decide +kernel
theorem dX12_standings_11 : decode cX12_standings 11 = .ok (.if_icmp .ge 18, 3) := by decide +kernel
theorem dX12_standings_14 : decode cX12_standings 14 = .ok (.iload_n 1, 1) := by decide +kernel
theorem dX12_standings_15 : decode cX12_standings 15 = .ok (.aload_n 0, 1) := by decide +kernel
theorem dX12_standings_16 : decode cX12_standings 16 = .ok (.getfield 7, 3) := by decide +kernel
theorem dX12_standings_19 : decode cX12_standings 19 = .ok (.iconst 0, 1) := by decide +kernel
theorem dX12_standings_20 : decode cX12_standings 20 = .ok (.iaload, 1) := by decide +kernel
theorem dX12_standings_21 : decode cX12_standings 21 = .ok (.imul, 1) := by decide +kernel
theorem dX12_standings_22 : decode cX12_standings 22 = .ok (.istore_n 1, 1) := by decide +kernel
theorem dX12_standings_23 : decode cX12_standings 23 = .ok (.iinc 2 1, 3) := by decide +kernel
theorem dX12_standings_26 : decode cX12_standings 26 = .ok (.goto (-22), 3) := by decide +kernel
theorem dX12_standings_29 : decode cX12_standings 29 = .ok (.iload_n 1, 1) := by decide +kernel
theorem dX12_standings_30 : decode cX12_standings 30 = .ok (.ireturn, 1) := by decide +kernel
def KX12_standings_4 (E : EV) (d : Nat) (rr : Option Value × Mem) (I : Mem) (Kp : Int32 → Prop) : ((Int32 × Int32) ⊕ Int32) → Prop
  | .inl q => G E (d + 0) kX12_standings 4 [some (.ref 74), some (.int q.1), some (.int q.2)] [] I rr
  | .inr z => Kp z
def bX12_standings_4 (I : Mem) (x1 : Int32) (x2 : Int32) : Option ((Int32 × Int32) ⊕ Int32) :=
  chk (inb (3 : Int32) 632) <|
  if (I 75 (ix (3 : Int32))) ≤ x2 then
  (some (.inr x1))
  else
  (chk (inb (0 : Int32) 632) <|
  letb (x1 * (I 75 (ix (0 : Int32)))) fun x1_3 =>
  some (.inl (x1_3, (x2 + (1 : Int32)))))
def sX12_standings_4 (I : Mem) (q : (Int32 × Int32)) : Option ((Int32 × Int32) ⊕ Int32) := bX12_standings_4 I q.1 q.2
set_option maxRecDepth 20000 in
theorem wX12_standings_4 (E : EV) (d : Nat) (rr : Option Value × Mem) (I : Mem) (x1 : Int32) (x2 : Int32) (y : ((Int32 × Int32) ⊕ Int32)) (hf : bX12_standings_4 I x1 x2 = some y) (hK : (KX12_standings_4 E d rr I (fun (z : Int32) => (some (.int z), I) = rr)) y) : G E (d + 0) kX12_standings 4 [some (.ref 74), some (.int x1), some (.int x2)] [] I rr := by
  unfold bX12_standings_4 at hf
  refine G.iload_n dX12_standings_4 rfl rfl ?_
  refine G.aload_n dX12_standings_5 rfl rfl ?_
  refine G.getR (q := 75) dX12_standings_6 flX12_7 (by decide) rfl rfl ?_
  refine G.iconst (v := 3) dX12_standings_9 (by decide) ?_
  obtain ⟨hi_1, hf⟩ := chk_at hf
  refine G.iald' dX12_standings_10 (by decide) rfl rfl hi_1 ?_
  refine G.icmp_ge (tgt := 29) dX12_standings_11 (by decide) (fun c_4 => ?_) (fun c_4 => ?_)
  · have hf := ite_t hf c_4
    refine G.iload_n dX12_standings_29 rfl rfl ?_
    have hf := Option.some.inj hf
    subst hf
    exact G.iret' dX12_standings_30 rfl hK
  · have hf := ite_f hf c_4
    refine G.iload_n dX12_standings_14 rfl rfl ?_
    refine G.aload_n dX12_standings_15 rfl rfl ?_
    refine G.getR (q := 75) dX12_standings_16 flX12_7 (by decide) rfl rfl ?_
    refine G.iconst (v := 0) dX12_standings_19 (by decide) ?_
    obtain ⟨hi_2, hf⟩ := chk_at hf
    refine G.iald' dX12_standings_20 (by decide) rfl rfl hi_2 ?_
    refine G.imul dX12_standings_21 ?_
    refine G.nmi (fun x1_3 e_x1_3 => ?_)
    have hf := letb_at hf e_x1_3
    clear e_x1_3
    refine G.istore_n (L' := [some (.ref 74), some (.int x1_3), some (.int x2)]) dX12_standings_22 rfl (Nat.le_of_ble_eq_true rfl) (Nat.le_of_ble_eq_true rfl) rfl rfl ?_
    refine G.inc (w := 1) (L' := [some (.ref 74), some (.int x1_3), some (.int (x2 + (1 : Int32)))]) dX12_standings_23 (by decide) rfl (Nat.le_of_ble_eq_true rfl) rfl rfl ?_
    refine G.goto (tgt := 4) dX12_standings_26 (by decide) ?_
    have hf := Option.some.inj hf
    subst hf
    exact hK
theorem lX12_standings_4 (E : EV) (d : Nat) (rr : Option Value × Mem) (I : Mem) (z : Int32) (hK : (fun (z : Int32) => (some (.int z), I) = rr) z) : ∀ (n : Nat) (q : (Int32 × Int32)), iter (sX12_standings_4 I) n q = some z → G E (d + 0) kX12_standings 4 [some (.ref 74), some (.int q.1), some (.int q.2)] [] I rr := by
  intro n
  induction n with
  | zero => intro q h; cases h
  | succ n ih =>
    intro q h
    rcases iter_at h with ⟨q2, hs, h2⟩ | hs
    · exact wX12_standings_4 E d rr I q.1 q.2 _ hs (ih q2 h2)
    · exact wX12_standings_4 E d rr I q.1 q.2 _ hs hK
def fX12_standings (I : Mem) : Option Int32 :=
  iter (sX12_standings_4 I) FU ((1 : Int32), (0 : Int32))
set_option maxRecDepth 20000 in
theorem gX12_standings (E : EV) (d : Nat) (I : Mem) {v : Int32} (hf : fX12_standings I = some v) : Gm E (d + 0) kX12_standings [.ref 74] I (some (.int v), I) := by
  refine (fun (y : Int32) (hf : fX12_standings I = some y) => (?_ : Gm E (d + 0) kX12_standings [.ref 74] I (some (.int y), I))) v hf
  refine Gm.of (by decide) rfl (Nat.le_of_ble_eq_true rfl) ?_
  generalize hrr : ((some (.int y), I) : Option Value × Mem) = rr
  show G E (d + 0) kX12_standings 0 [some (.ref 74), none, none] [] I rr
  have hK : (fun (z : Int32) => (some (.int z), I) = rr) y := hrr
  clear hrr
  unfold fX12_standings at hf
  refine G.iconst (v := 1) dX12_standings_0 (by decide) ?_
  refine G.istore_n (L' := [some (.ref 74), some (.int (1 : Int32)), none]) dX12_standings_1 rfl (Nat.le_of_ble_eq_true rfl) (Nat.le_of_ble_eq_true rfl) rfl rfl ?_
  refine G.iconst (v := 0) dX12_standings_2 (by decide) ?_
  refine G.istore_n (L' := [some (.ref 74), some (.int (1 : Int32)), some (.int (0 : Int32))]) dX12_standings_3 rfl (Nat.le_of_ble_eq_true rfl) (Nat.le_of_ble_eq_true rfl) rfl rfl ?_
  exact lX12_standings_4 E d rr I _ hK FU _ hf
theorem dX12_keepsWishes_0 : decode cX12_keepsWishes 0 = .ok (.iconst 1, 1) := by decide +kernel
theorem dX12_keepsWishes_1 : decode cX12_keepsWishes 1 = .ok (.istore_n 3, 1) := by decide +kernel
theorem dX12_keepsWishes_2 : decode cX12_keepsWishes 2 = .ok (.iconst 0, 1) := by decide +kernel
theorem dX12_keepsWishes_3 : decode cX12_keepsWishes 3 = .ok (.istore 4, 2) := by decide +kernel
theorem dX12_keepsWishes_5 : decode cX12_keepsWishes 5 = .ok (.iload 4, 2) := by decide +kernel
theorem dX12_keepsWishes_7 : decode cX12_keepsWishes 7 = .ok (.aload_n 0, 1) := by decide +kernel
theorem dX12_keepsWishes_8 : decode cX12_keepsWishes 8 = .ok (.getfield 7, 3) := by decide +kernel
theorem dX12_keepsWishes_11 : decode cX12_keepsWishes 11 = .ok (.iconst 3, 1) := by decide +kernel
theorem dX12_keepsWishes_12 : decode cX12_keepsWishes 12 = .ok (.iaload, 1) := by decide +kernel
theorem dX12_keepsWishes_13 : decode cX12_keepsWishes 13 = .ok (.if_icmp .ge 54, 3) := by decide +kernel
theorem dX12_keepsWishes_16 : decode cX12_keepsWishes 16 = .ok (.aload_n 0, 1) := by decide +kernel
theorem dX12_keepsWishes_17 : decode cX12_keepsWishes 17 = .ok (.getfield 7, 3) := by decide +kernel
theorem dX12_keepsWishes_20 : decode cX12_keepsWishes 20 = .ok (.bipush 28, 2) := by decide +kernel
theorem dX12_keepsWishes_22 : decode cX12_keepsWishes 22 = .ok (.iconst 4, 1) := by decide +kernel
theorem dX12_keepsWishes_23 : decode cX12_keepsWishes 23 = .ok (.iload 4, 2) := by decide +kernel
theorem dX12_keepsWishes_25 : decode cX12_keepsWishes 25 = .ok (.imul, 1) := by decide +kernel
theorem dX12_keepsWishes_26 : decode cX12_keepsWishes 26 = .ok (.iadd, 1) := by decide +kernel
theorem dX12_keepsWishes_27 : decode cX12_keepsWishes 27 = .ok (.iload_n 2, 1) := by decide +kernel
theorem dX12_keepsWishes_28 : decode cX12_keepsWishes 28 = .ok (.iadd, 1) := by decide +kernel
theorem dX12_keepsWishes_29 : decode cX12_keepsWishes 29 = .ok (.iconst 1, 1) := by decide +kernel
theorem dX12_keepsWishes_30 : decode cX12_keepsWishes 30 = .ok (.isub, 1) := by decide +kernel
theorem dX12_keepsWishes_31 : decode cX12_keepsWishes 31 = .ok (.iaload, 1) := by decide +kernel
theorem dX12_keepsWishes_32 : decode cX12_keepsWishes 32 = .ok (.istore 5, 2) := by decide +kernel
theorem dX12_keepsWishes_34 : decode cX12_keepsWishes 34 = .ok (.iload_n 3, 1) := by decide +kernel
theorem dX12_keepsWishes_35 : decode cX12_keepsWishes 35 = .ok (.ifCond .eq 24, 3) := by decide +kernel
theorem dX12_keepsWishes_38 : decode cX12_keepsWishes 38 = .ok (.iload 5, 2) := by decide +kernel
theorem dX12_keepsWishes_40 : decode cX12_keepsWishes 40 = .ok (.iconst (-1), 1) := by decide +kernel
theorem dX12_keepsWishes_41 : decode cX12_keepsWishes 41 = .ok (.if_icmp .eq 14, 3) := by decide +kernel
theorem dX12_keepsWishes_44 : decode cX12_keepsWishes 44 = .ok (.iload 5, 2) := by decide +kernel
theorem dX12_keepsWishes_46 : decode cX12_keepsWishes 46 = .ok (.iload_n 1, 1) := by decide +kernel
theorem dX12_keepsWishes_47 : decode cX12_keepsWishes 47 = .ok (.iload 4, 2) := by decide +kernel
theorem dX12_keepsWishes_49 : decode cX12_keepsWishes 49 = .ok (.invokestatic 151, 3) := by decide +kernel
theorem dX12_keepsWishes_52 : decode cX12_keepsWishes 52 = .ok (.if_icmp .ne 7, 3) := by decide +kernel
theorem dX12_keepsWishes_55 : decode cX12_keepsWishes 55 = .ok (.iconst 1, 1) := by decide +kernel
theorem dX12_keepsWishes_56 : decode cX12_keepsWishes 56 = .ok (.goto 4, 3) := by decide +kernel
theorem dX12_keepsWishes_59 : decode cX12_keepsWishes 59 = .ok (.iconst 0, 1) := by decide +kernel
theorem dX12_keepsWishes_60 : decode cX12_keepsWishes 60 = .ok (.istore_n 3, 1) := by decide +kernel
theorem dX12_keepsWishes_61 : decode cX12_keepsWishes 61 = .ok (.iinc 4 1, 3) := by decide +kernel
theorem dX12_keepsWishes_64 : decode cX12_keepsWishes 64 = .ok (.goto (-59), 3) := by decide +kernel
theorem dX12_keepsWishes_67 : decode cX12_keepsWishes 67 = .ok (.iload_n 3, 1) := by decide +kernel
theorem dX12_keepsWishes_68 : decode cX12_keepsWishes 68 = .ok (.ireturn, 1) := by decide +kernel
def KX12_keepsWishes_5 (E : EV) (d : Nat) (rr : Option Value × Mem) (x1 : Int32) (x2 : Int32) (I : Mem) (Kp : Int32 → Prop) : ((Int32 × Int32) ⊕ Int32) → Prop
  | .inl q => G E (d + 1) kX12_keepsWishes 5 [some (.ref 74), some (.int x1), some (.int x2), some (.int q.1), some (.int q.2), none] [] I rr
  | .inr z => Kp z
def bX12_keepsWishes_5 (x1 : Int32) (x2 : Int32) (I : Mem) (x3 : Int32) (x4 : Int32) : Option ((Int32 × Int32) ⊕ Int32) :=
  chk (inb (3 : Int32) 632) <|
  if (I 75 (ix (3 : Int32))) ≤ x4 then
  (chk (zb x3) <|
  some (.inr x3))
  else
  (chk (inb ((((28 : Int32) + ((4 : Int32) * x4)) + x2) - (1 : Int32)) 632) <|
  letb (I 75 (ix ((((28 : Int32) + ((4 : Int32) * x4)) + x2) - (1 : Int32)))) fun x5_4 =>
  if x3 = 0 then
  (some (.inl ((0 : Int32), (x4 + (1 : Int32)))))
  else
  (if x5_4 = (-1 : Int32) then
  (some (.inl ((1 : Int32), (x4 + (1 : Int32)))))
  else
  (bnd (fX12_roomIn x1 x4 I) fun v_6 =>
  if x5_4 = v_6 then
  (some (.inl ((1 : Int32), (x4 + (1 : Int32)))))
  else
  (some (.inl ((0 : Int32), (x4 + (1 : Int32))))))))
def sX12_keepsWishes_5 (x1 : Int32) (x2 : Int32) (I : Mem) (q : (Int32 × Int32)) : Option ((Int32 × Int32) ⊕ Int32) := bX12_keepsWishes_5 x1 x2 I q.1 q.2
set_option maxRecDepth 20000 in
theorem wX12_keepsWishes_5 (E : EV) (d : Nat) (rr : Option Value × Mem) (x1 : Int32) (x2 : Int32) (I : Mem) (x3 : Int32) (x4 : Int32) (y : ((Int32 × Int32) ⊕ Int32)) (hf : bX12_keepsWishes_5 x1 x2 I x3 x4 = some y) (hK : (KX12_keepsWishes_5 E d rr x1 x2 I (fun (z : Int32) => (some (.int z), I) = rr)) y) : G E (d + 1) kX12_keepsWishes 5 [some (.ref 74), some (.int x1), some (.int x2), some (.int x3), some (.int x4), none] [] I rr := by
  unfold bX12_keepsWishes_5 at hf
  refine G.iload dX12_keepsWishes_5 rfl ?_
  refine G.aload_n dX12_keepsWishes_7 rfl rfl ?_
  refine G.getR (q := 75) dX12_keepsWishes_8 flX12_7 (by decide) rfl rfl ?_
  refine G.iconst (v := 3) dX12_keepsWishes_11 (by decide) ?_
  obtain ⟨hi_1, hf⟩ := chk_at hf
  refine G.iald' dX12_keepsWishes_12 (by decide) rfl rfl hi_1 ?_
  refine G.icmp_ge (tgt := 67) dX12_keepsWishes_13 (by decide) (fun c_10 => ?_) (fun c_10 => ?_)
  · have hf := ite_t hf c_10
    refine G.iload_n dX12_keepsWishes_67 rfl rfl ?_
    obtain ⟨hz_2, hf⟩ := chk_at hf
    have hf := Option.some.inj hf
    subst hf
    exact G.zret' dX12_keepsWishes_68 rfl hz_2 hK
  · have hf := ite_f hf c_10
    refine G.aload_n dX12_keepsWishes_16 rfl rfl ?_
    refine G.getR (q := 75) dX12_keepsWishes_17 flX12_7 (by decide) rfl rfl ?_
    refine G.bipush (v := 28) dX12_keepsWishes_20 (by decide) ?_
    refine G.iconst (v := 4) dX12_keepsWishes_22 (by decide) ?_
    refine G.iload dX12_keepsWishes_23 rfl ?_
    refine G.imul dX12_keepsWishes_25 ?_
    refine G.iadd dX12_keepsWishes_26 ?_
    refine G.iload_n dX12_keepsWishes_27 rfl rfl ?_
    refine G.iadd dX12_keepsWishes_28 ?_
    refine G.iconst (v := 1) dX12_keepsWishes_29 (by decide) ?_
    refine G.isub dX12_keepsWishes_30 ?_
    obtain ⟨hi_3, hf⟩ := chk_at hf
    refine G.iald' dX12_keepsWishes_31 (by decide) rfl rfl hi_3 ?_
    refine G.nmi (fun x5_4 e_x5_4 => ?_)
    have hf := letb_at hf e_x5_4
    clear e_x5_4
    refine G.istore (L' := [some (.ref 74), some (.int x1), some (.int x2), some (.int x3), some (.int x4), some (.int x5_4)]) dX12_keepsWishes_32 (Nat.le_of_ble_eq_true rfl) (Nat.le_of_ble_eq_true rfl) rfl rfl ?_
    refine G.iload_n dX12_keepsWishes_34 rfl rfl ?_
    refine G.if_eq (tgt := 59) dX12_keepsWishes_35 (by decide) (fun c_9 => ?_) (fun c_9 => ?_)
    · have hf := ite_t hf c_9
      refine G.iconst (v := 0) dX12_keepsWishes_59 (by decide) ?_
      refine G.istore_n (L' := [some (.ref 74), some (.int x1), some (.int x2), some (.int (0 : Int32)), some (.int x4), some (.int x5_4)]) dX12_keepsWishes_60 rfl (Nat.le_of_ble_eq_true rfl) (Nat.le_of_ble_eq_true rfl) rfl rfl ?_
      refine G.inc (w := 1) (L' := [some (.ref 74), some (.int x1), some (.int x2), some (.int (0 : Int32)), some (.int (x4 + (1 : Int32))), some (.int x5_4)]) dX12_keepsWishes_61 (by decide) rfl (Nat.le_of_ble_eq_true rfl) rfl rfl ?_
      refine G.goto (tgt := 5) dX12_keepsWishes_64 (by decide) ?_
      have hf := Option.some.inj hf
      subst hf
      refine G.forget (L' := [some (.ref 74), some (.int x1), some (.int x2), some (.int (0 : Int32)), some (.int (x4 + (1 : Int32))), none]) [5] rfl ?_
      exact hK
    · have hf := ite_f hf c_9
      refine G.iload dX12_keepsWishes_38 rfl ?_
      refine G.iconst (v := -1) dX12_keepsWishes_40 (by decide) ?_
      refine G.icmp_eq (tgt := 55) dX12_keepsWishes_41 (by decide) (fun c_8 => ?_) (fun c_8 => ?_)
      · have hf := ite_t hf c_8
        refine G.iconst (v := 1) dX12_keepsWishes_55 (by decide) ?_
        refine G.goto (tgt := 60) dX12_keepsWishes_56 (by decide) ?_
        refine G.istore_n (L' := [some (.ref 74), some (.int x1), some (.int x2), some (.int (1 : Int32)), some (.int x4), some (.int x5_4)]) dX12_keepsWishes_60 rfl (Nat.le_of_ble_eq_true rfl) (Nat.le_of_ble_eq_true rfl) rfl rfl ?_
        refine G.inc (w := 1) (L' := [some (.ref 74), some (.int x1), some (.int x2), some (.int (1 : Int32)), some (.int (x4 + (1 : Int32))), some (.int x5_4)]) dX12_keepsWishes_61 (by decide) rfl (Nat.le_of_ble_eq_true rfl) rfl rfl ?_
        refine G.goto (tgt := 5) dX12_keepsWishes_64 (by decide) ?_
        have hf := Option.some.inj hf
        subst hf
        refine G.forget (L' := [some (.ref 74), some (.int x1), some (.int x2), some (.int (1 : Int32)), some (.int (x4 + (1 : Int32))), none]) [5] rfl ?_
        exact hK
      · have hf := ite_f hf c_8
        refine G.iload dX12_keepsWishes_44 rfl ?_
        refine G.iload_n dX12_keepsWishes_46 rfl rfl ?_
        refine G.iload dX12_keepsWishes_47 rfl ?_
        obtain ⟨v_6, hc_5, hf⟩ := bnd_at hf
        refine G.callSi (av := [.int x1, .int x4]) (rest := [.int x5_4]) dX12_keepsWishes_49 msX12_151 (gX12_roomIn E d x1 x4 I hc_5) rfl rfl (Nat.le_of_ble_eq_true rfl) ?_
        refine G.icmp_ne (tgt := 59) dX12_keepsWishes_52 (by decide) (fun c_7 => ?_) (fun c_7 => ?_)
        · have hf := ite_f hf c_7
          refine G.iconst (v := 0) dX12_keepsWishes_59 (by decide) ?_
          refine G.istore_n (L' := [some (.ref 74), some (.int x1), some (.int x2), some (.int (0 : Int32)), some (.int x4), some (.int x5_4)]) dX12_keepsWishes_60 rfl (Nat.le_of_ble_eq_true rfl) (Nat.le_of_ble_eq_true rfl) rfl rfl ?_
          refine G.inc (w := 1) (L' := [some (.ref 74), some (.int x1), some (.int x2), some (.int (0 : Int32)), some (.int (x4 + (1 : Int32))), some (.int x5_4)]) dX12_keepsWishes_61 (by decide) rfl (Nat.le_of_ble_eq_true rfl) rfl rfl ?_
          refine G.goto (tgt := 5) dX12_keepsWishes_64 (by decide) ?_
          have hf := Option.some.inj hf
          subst hf
          refine G.forget (L' := [some (.ref 74), some (.int x1), some (.int x2), some (.int (0 : Int32)), some (.int (x4 + (1 : Int32))), none]) [5] rfl ?_
          exact hK
        · have hf := ite_t hf c_7
          refine G.iconst (v := 1) dX12_keepsWishes_55 (by decide) ?_
          refine G.goto (tgt := 60) dX12_keepsWishes_56 (by decide) ?_
          refine G.istore_n (L' := [some (.ref 74), some (.int x1), some (.int x2), some (.int (1 : Int32)), some (.int x4), some (.int x5_4)]) dX12_keepsWishes_60 rfl (Nat.le_of_ble_eq_true rfl) (Nat.le_of_ble_eq_true rfl) rfl rfl ?_
          refine G.inc (w := 1) (L' := [some (.ref 74), some (.int x1), some (.int x2), some (.int (1 : Int32)), some (.int (x4 + (1 : Int32))), some (.int x5_4)]) dX12_keepsWishes_61 (by decide) rfl (Nat.le_of_ble_eq_true rfl) rfl rfl ?_
          refine G.goto (tgt := 5) dX12_keepsWishes_64 (by decide) ?_
          have hf := Option.some.inj hf
          subst hf
          refine G.forget (L' := [some (.ref 74), some (.int x1), some (.int x2), some (.int (1 : Int32)), some (.int (x4 + (1 : Int32))), none]) [5] rfl ?_
          exact hK
theorem lX12_keepsWishes_5 (E : EV) (d : Nat) (rr : Option Value × Mem) (x1 : Int32) (x2 : Int32) (I : Mem) (z : Int32) (hK : (fun (z : Int32) => (some (.int z), I) = rr) z) : ∀ (n : Nat) (q : (Int32 × Int32)), iter (sX12_keepsWishes_5 x1 x2 I) n q = some z → G E (d + 1) kX12_keepsWishes 5 [some (.ref 74), some (.int x1), some (.int x2), some (.int q.1), some (.int q.2), none] [] I rr := by
  intro n
  induction n with
  | zero => intro q h; cases h
  | succ n ih =>
    intro q h
    rcases iter_at h with ⟨q2, hs, h2⟩ | hs
    · exact wX12_keepsWishes_5 E d rr x1 x2 I q.1 q.2 _ hs (ih q2 h2)
    · exact wX12_keepsWishes_5 E d rr x1 x2 I q.1 q.2 _ hs hK
def fX12_keepsWishes (x1 : Int32) (x2 : Int32) (I : Mem) : Option Int32 :=
  iter (sX12_keepsWishes_5 x1 x2 I) FU ((1 : Int32), (0 : Int32))
set_option maxRecDepth 20000 in
theorem gX12_keepsWishes (E : EV) (d : Nat) (x1 : Int32) (x2 : Int32) (I : Mem) {v : Int32} (hf : fX12_keepsWishes x1 x2 I = some v) : Gm E (d + 1) kX12_keepsWishes [.ref 74, .int x1, .int x2] I (some (.int v), I) := by
  refine (fun (y : Int32) (hf : fX12_keepsWishes x1 x2 I = some y) => (?_ : Gm E (d + 1) kX12_keepsWishes [.ref 74, .int x1, .int x2] I (some (.int y), I))) v hf
  refine Gm.of (by decide) rfl (Nat.le_of_ble_eq_true rfl) ?_
  generalize hrr : ((some (.int y), I) : Option Value × Mem) = rr
  show G E (d + 1) kX12_keepsWishes 0 [some (.ref 74), some (.int x1), some (.int x2), none, none, none] [] I rr
  have hK : (fun (z : Int32) => (some (.int z), I) = rr) y := hrr
  clear hrr
  unfold fX12_keepsWishes at hf
  refine G.iconst (v := 1) dX12_keepsWishes_0 (by decide) ?_
  refine G.istore_n (L' := [some (.ref 74), some (.int x1), some (.int x2), some (.int (1 : Int32)), none, none]) dX12_keepsWishes_1 rfl (Nat.le_of_ble_eq_true rfl) (Nat.le_of_ble_eq_true rfl) rfl rfl ?_
  refine G.iconst (v := 0) dX12_keepsWishes_2 (by decide) ?_
  refine G.istore (L' := [some (.ref 74), some (.int x1), some (.int x2), some (.int (1 : Int32)), some (.int (0 : Int32)), none]) dX12_keepsWishes_3 (Nat.le_of_ble_eq_true rfl) (Nat.le_of_ble_eq_true rfl) rfl rfl ?_
  exact lX12_keepsWishes_5 E d rr x1 x2 I _ hK FU _ hf
theorem dX12_by_0 : decode cX12_by 0 = .ok (.iload_n 3, 1) := by decide +kernel
theorem dX12_by_1 : decode cX12_by 1 = .ok (.iconst (-1), 1) := by decide +kernel
theorem dX12_by_2 : decode cX12_by 2 = .ok (.if_icmp .eq 23, 3) := by decide +kernel
theorem dX12_by_5 : decode cX12_by 5 = .ok (.aload_n 0, 1) := by decide +kernel
theorem dX12_by_6 : decode cX12_by 6 = .ok (.iload_n 2, 1) := by decide +kernel
theorem dX12_by_7 : decode cX12_by 7 = .ok (.iload_n 3, 1) := by decide +kernel
theorem dX12_by_8 : decode cX12_by 8 = .ok (.invokevirtual 176, 3) := by decide +kernel
theorem dX12_by_11 : decode cX12_by 11 = .ok (.ifCond .eq 14, 3) := by decide +kernel
theorem dX12_by_14 : decode cX12_by 14 = .ok (.aload_n 0, 1) := by decide +kernel
theorem dX12_by_15 : decode cX12_by 15 = .ok (.iload_n 3, 1) := by decide +kernel
theorem dX12_by_16 : decode cX12_by 16 = .ok (.iload_n 1, 1) := by decide +kernel
theorem dX12_by_17 : decode cX12_by 17 = .ok (.iconst 1, 1) := by decide +kernel
theorem dX12_by_18 : decode cX12_by 18 = .ok (.iadd, 1) := by decide +kernel
theorem dX12_by_19 : decode cX12_by 19 = .ok (.invokevirtual 193, 3) := by decide +kernel
theorem dX12_by_22 : decode cX12_by 22 = .ok (.ifCond .ne 6, 3) := by decide +kernel
theorem dX12_by_25 : decode cX12_by 25 = .ok (.ldc 196, 2) := by decide +kernel
theorem dX12_by_27 : decode cX12_by 27 = .ok (.ireturn, 1) := by decide +kernel
theorem dX12_by_28 : decode cX12_by 28 = .ok (.aload_n 0, 1) := by decide +kernel
theorem dX12_by_29 : decode cX12_by 29 = .ok (.getfield 32, 3) := by decide +kernel
theorem dX12_by_32 : decode cX12_by 32 = .ok (.sipush 4096, 3) := by decide +kernel
theorem dX12_by_35 : decode cX12_by 35 = .ok (.iload_n 1, 1) := by decide +kernel
theorem dX12_by_36 : decode cX12_by 36 = .ok (.iconst 1, 1) := by decide +kernel
theorem dX12_by_37 : decode cX12_by 37 = .ok (.iadd, 1) := by decide +kernel
theorem dX12_by_38 : decode cX12_by 38 = .ok (.imul, 1) := by decide +kernel
theorem dX12_by_39 : decode cX12_by 39 = .ok (.iload_n 3, 1) := by decide +kernel
theorem dX12_by_40 : decode cX12_by 40 = .ok (.iadd, 1) := by decide +kernel
theorem dX12_by_41 : decode cX12_by 41 = .ok (.iaload, 1) := by decide +kernel
theorem dX12_by_42 : decode cX12_by 42 = .ok (.istore 4, 2) := by decide +kernel
theorem dX12_by_44 : decode cX12_by 44 = .ok (.iload 4, 2) := by decide +kernel
theorem dX12_by_46 : decode cX12_by 46 = .ok (.ldc 196, 2) := by decide +kernel
theorem dX12_by_48 : decode cX12_by 48 = .ok (.if_icmp .ne 8, 3) := by decide +kernel
theorem dX12_by_51 : decode cX12_by 51 = .ok (.ldc 196, 2) := by decide +kernel
theorem dX12_by_53 : decode cX12_by 53 = .ok (.goto 28, 3) := by decide +kernel
theorem dX12_by_56 : decode cX12_by 56 = .ok (.iload 4, 2) := by decide +kernel
theorem dX12_by_58 : decode cX12_by 58 = .ok (.aload_n 0, 1) := by decide +kernel
theorem dX12_by_59 : decode cX12_by 59 = .ok (.aload_n 0, 1) := by decide +kernel
theorem dX12_by_60 : decode cX12_by 60 = .ok (.getfield 7, 3) := by decide +kernel
theorem dX12_by_63 : decode cX12_by 63 = .ok (.iconst 1, 1) := by decide +kernel
theorem dX12_by_64 : decode cX12_by 64 = .ok (.iaload, 1) := by decide +kernel
theorem dX12_by_65 : decode cX12_by 65 = .ok (.aload_n 0, 1) := by decide +kernel
theorem dX12_by_66 : decode cX12_by 66 = .ok (.getfield 7, 3) := by decide +kernel
theorem dX12_by_69 : decode cX12_by 69 = .ok (.iconst 2, 1) := by decide +kernel
theorem dX12_by_70 : decode cX12_by 70 = .ok (.iaload, 1) := by decide +kernel
theorem dX12_by_71 : decode cX12_by 71 = .ok (.iload_n 1, 1) := by decide +kernel
theorem dX12_by_72 : decode cX12_by 72 = .ok (.iadd, 1) := by decide +kernel
theorem dX12_by_73 : decode cX12_by 73 = .ok (.iconst 1, 1) := by decide +kernel
theorem dX12_by_74 : decode cX12_by 74 = .ok (.iadd, 1) := by decide +kernel
theorem dX12_by_75 : decode cX12_by 75 = .ok (.iload_n 2, 1) := by decide +kernel
theorem dX12_by_76 : decode cX12_by 76 = .ok (.iload_n 3, 1) := by decide +kernel
theorem dX12_by_77 : decode cX12_by 77 = .ok (.invokevirtual 189, 3) := by decide +kernel
theorem dX12_by_80 : decode cX12_by 80 = .ok (.iadd, 1) := by decide +kernel
theorem dX12_by_81 : decode cX12_by 81 = .ok (.ireturn, 1) := by decide +kernel
def fX12_by (x1 : Int32) (x2 : Int32) (x3 : Int32) (I : Mem) : Option Int32 :=
  if x3 = (-1 : Int32) then
  (letb (268435456 : Int32) fun k9_1 =>
  some k9_1)
  else
  (bnd (fX12_mayGo x2 x3 I) fun v_3 =>
  if v_3 = 0 then
  (letb (268435456 : Int32) fun k9_4 =>
  some k9_4)
  else
  (bnd (fX12_keepsWishes x3 (x1 + (1 : Int32)) I) fun v_6 =>
  if v_6 = 0 then
  (letb (268435456 : Int32) fun k9_16 =>
  some k9_16)
  else
  (chk (inb (((4096 : Int32) * (x1 + (1 : Int32))) + x3) 20480) <|
  letb (I 82 (ix (((4096 : Int32) * (x1 + (1 : Int32))) + x3))) fun x4_8 =>
  letb (268435456 : Int32) fun k9_9 =>
  if x4_8 = k9_9 then
  (letb (268435456 : Int32) fun k9_14 =>
  some k9_14)
  else
  (chk (inb (1 : Int32) 632) <|
  chk (inb (2 : Int32) 632) <|
  bnd (fX12_laid (I 75 (ix (1 : Int32))) (((I 75 (ix (2 : Int32))) + x1) + (1 : Int32)) x2 x3 I) fun v_13 =>
  some (x4_8 + v_13)))))
set_option maxRecDepth 20000 in
theorem gX12_by (E : EV) (d : Nat) (x1 : Int32) (x2 : Int32) (x3 : Int32) (I : Mem) {v : Int32} (hf : fX12_by x1 x2 x3 I = some v) : Gm E (d + 4) kX12_by [.ref 74, .int x1, .int x2, .int x3] I (some (.int v), I) := by
  refine (fun (y : Int32) (hf : fX12_by x1 x2 x3 I = some y) => (?_ : Gm E (d + 4) kX12_by [.ref 74, .int x1, .int x2, .int x3] I (some (.int y), I))) v hf
  refine Gm.of (by decide) rfl (Nat.le_of_ble_eq_true rfl) ?_
  generalize hrr : ((some (.int y), I) : Option Value × Mem) = rr
  show G E (d + 4) kX12_by 0 [some (.ref 74), some (.int x1), some (.int x2), some (.int x3), none] [] I rr
  have hK : (fun (z : Int32) => (some (.int z), I) = rr) y := hrr
  clear hrr
  unfold fX12_by at hf
  refine G.iload_n dX12_by_0 rfl rfl ?_
  refine G.iconst (v := -1) dX12_by_1 (by decide) ?_
  refine G.icmp_eq (tgt := 25) dX12_by_2 (by decide) (fun c_19 => ?_) (fun c_19 => ?_)
  · have hf := ite_t hf c_19
    refine G.ldc (v := 268435456) dX12_by_25 kcX12_196 ?_
    refine G.nmi (fun k9_1 e_k9_1 => ?_)
    have hf := letb_at hf e_k9_1
    clear e_k9_1
    have hf := Option.some.inj hf
    subst hf
    exact G.iret' dX12_by_27 rfl hK
  · have hf := ite_f hf c_19
    refine G.aload_n dX12_by_5 rfl rfl ?_
    refine G.iload_n dX12_by_6 rfl rfl ?_
    refine G.iload_n dX12_by_7 rfl rfl ?_
    obtain ⟨v_3, hc_2, hf⟩ := bnd_at hf
    refine G.callVi (av := [.int x2, .int x3]) (rest := []) dX12_by_8 mvX12_176 (gX12_mayGo E (d + 2) x2 x3 I hc_2) (by decide) rfl rfl rfl (Nat.le_of_ble_eq_true rfl) ?_
    refine G.if_eq (tgt := 25) dX12_by_11 (by decide) (fun c_18 => ?_) (fun c_18 => ?_)
    · have hf := ite_t hf c_18
      refine G.ldc (v := 268435456) dX12_by_25 kcX12_196 ?_
      refine G.nmi (fun k9_4 e_k9_4 => ?_)
      have hf := letb_at hf e_k9_4
      clear e_k9_4
      have hf := Option.some.inj hf
      subst hf
      exact G.iret' dX12_by_27 rfl hK
    · have hf := ite_f hf c_18
      refine G.aload_n dX12_by_14 rfl rfl ?_
      refine G.iload_n dX12_by_15 rfl rfl ?_
      refine G.iload_n dX12_by_16 rfl rfl ?_
      refine G.iconst (v := 1) dX12_by_17 (by decide) ?_
      refine G.iadd dX12_by_18 ?_
      obtain ⟨v_6, hc_5, hf⟩ := bnd_at hf
      refine G.callVi (av := [.int x3, .int (x1 + (1 : Int32))]) (rest := []) dX12_by_19 mvX12_193 (gX12_keepsWishes E (d + 2) x3 (x1 + (1 : Int32)) I hc_5) (by decide) rfl rfl rfl (Nat.le_of_ble_eq_true rfl) ?_
      refine G.if_ne (tgt := 28) dX12_by_22 (by decide) (fun c_17 => ?_) (fun c_17 => ?_)
      · have hf := ite_f hf c_17
        refine G.aload_n dX12_by_28 rfl rfl ?_
        refine G.getR (q := 82) dX12_by_29 flX12_32 (by decide) rfl rfl ?_
        refine G.sipush (v := 4096) dX12_by_32 (by decide) ?_
        refine G.iload_n dX12_by_35 rfl rfl ?_
        refine G.iconst (v := 1) dX12_by_36 (by decide) ?_
        refine G.iadd dX12_by_37 ?_
        refine G.imul dX12_by_38 ?_
        refine G.iload_n dX12_by_39 rfl rfl ?_
        refine G.iadd dX12_by_40 ?_
        obtain ⟨hi_7, hf⟩ := chk_at hf
        refine G.iald' dX12_by_41 (by decide) rfl rfl hi_7 ?_
        refine G.nmi (fun x4_8 e_x4_8 => ?_)
        have hf := letb_at hf e_x4_8
        clear e_x4_8
        refine G.istore (L' := [some (.ref 74), some (.int x1), some (.int x2), some (.int x3), some (.int x4_8)]) dX12_by_42 (Nat.le_of_ble_eq_true rfl) (Nat.le_of_ble_eq_true rfl) rfl rfl ?_
        refine G.iload dX12_by_44 rfl ?_
        refine G.ldc (v := 268435456) dX12_by_46 kcX12_196 ?_
        refine G.nmi (fun k9_9 e_k9_9 => ?_)
        have hf := letb_at hf e_k9_9
        clear e_k9_9
        refine G.icmp_ne (tgt := 56) dX12_by_48 (by decide) (fun c_15 => ?_) (fun c_15 => ?_)
        · have hf := ite_f hf c_15
          refine G.iload dX12_by_56 rfl ?_
          refine G.aload_n dX12_by_58 rfl rfl ?_
          refine G.aload_n dX12_by_59 rfl rfl ?_
          refine G.getR (q := 75) dX12_by_60 flX12_7 (by decide) rfl rfl ?_
          refine G.iconst (v := 1) dX12_by_63 (by decide) ?_
          obtain ⟨hi_10, hf⟩ := chk_at hf
          refine G.iald' dX12_by_64 (by decide) rfl rfl hi_10 ?_
          refine G.aload_n dX12_by_65 rfl rfl ?_
          refine G.getR (q := 75) dX12_by_66 flX12_7 (by decide) rfl rfl ?_
          refine G.iconst (v := 2) dX12_by_69 (by decide) ?_
          obtain ⟨hi_11, hf⟩ := chk_at hf
          refine G.iald' dX12_by_70 (by decide) rfl rfl hi_11 ?_
          refine G.iload_n dX12_by_71 rfl rfl ?_
          refine G.iadd dX12_by_72 ?_
          refine G.iconst (v := 1) dX12_by_73 (by decide) ?_
          refine G.iadd dX12_by_74 ?_
          refine G.iload_n dX12_by_75 rfl rfl ?_
          refine G.iload_n dX12_by_76 rfl rfl ?_
          obtain ⟨v_13, hc_12, hf⟩ := bnd_at hf
          refine G.callVi (av := [.int (I 75 (ix (1 : Int32))), .int (((I 75 (ix (2 : Int32))) + x1) + (1 : Int32)), .int x2, .int x3]) (rest := [.int x4_8]) dX12_by_77 mvX12_189 (gX12_laid E d (I 75 (ix (1 : Int32))) (((I 75 (ix (2 : Int32))) + x1) + (1 : Int32)) x2 x3 I hc_12) (by decide) rfl rfl rfl (Nat.le_of_ble_eq_true rfl) ?_
          refine G.iadd dX12_by_80 ?_
          have hf := Option.some.inj hf
          subst hf
          exact G.iret' dX12_by_81 rfl hK
        · have hf := ite_t hf c_15
          refine G.ldc (v := 268435456) dX12_by_51 kcX12_196 ?_
          refine G.nmi (fun k9_14 e_k9_14 => ?_)
          have hf := letb_at hf e_k9_14
          clear e_k9_14
          refine G.goto (tgt := 81) dX12_by_53 (by decide) ?_
          have hf := Option.some.inj hf
          subst hf
          exact G.iret' dX12_by_81 rfl hK
      · have hf := ite_t hf c_17
        refine G.ldc (v := 268435456) dX12_by_25 kcX12_196 ?_
        refine G.nmi (fun k9_16 e_k9_16 => ?_)
        have hf := letb_at hf e_k9_16
        clear e_k9_16
        have hf := Option.some.inj hf
        subst hf
        exact G.iret' dX12_by_27 rfl hK
theorem dX12_layCosts_0 : decode cX12_layCosts 0 = .ok (.aload_n 0, 1) := by decide +kernel
theorem dX12_layCosts_1 : decode cX12_layCosts 1 = .ok (.invokevirtual 197, 3) := by decide +kernel
theorem dX12_layCosts_4 : decode cX12_layCosts 4 = .ok (.istore_n 2, 1) := by decide +kernel
theorem dX12_layCosts_5 : decode cX12_layCosts 5 = .ok (.iconst 0, 1) := by decide +kernel
theorem dX12_layCosts_6 : decode cX12_layCosts 6 = .ok (.istore_n 3, 1) := by decide +kernel
theorem dX12_layCosts_7 : decode cX12_layCosts 7 = .ok (.iload_n 3, 1) := by decide +kernel
theorem dX12_layCosts_8 : decode cX12_layCosts 8 = .ok (.sipush 4096, 3) := by decide +kernel
theorem dX12_layCosts_11 : decode cX12_layCosts 11 = .ok (.if_icmp .ge 22, 3) := by decide +kernel
theorem dX12_layCosts_14 : decode cX12_layCosts 14 = .ok (.aload_n 0, 1) := by decide +kernel
theorem dX12_layCosts_15 : decode cX12_layCosts 15 = .ok (.getfield 32, 3) := by decide +kernel
theorem dX12_layCosts_18 : decode cX12_layCosts 18 = .ok (.sipush 4096, 3) := by decide +kernel
theorem dX12_layCosts_21 : decode cX12_layCosts 21 = .ok (.iload_n 1, 1) := by decide +kernel
theorem dX12_layCosts_22 : decode cX12_layCosts 22 = .ok (.imul, 1) := by decide +kernel
theorem dX12_layCosts_23 : decode cX12_layCosts 23 = .ok (.iload_n 3, 1) := by decide +kernel
theorem dX12_layCosts_24 : decode cX12_layCosts 24 = .ok (.iadd, 1) := by decide +kernel
theorem dX12_layCosts_25 : decode cX12_layCosts 25 = .ok (.iconst 0, 1) := by decide +kernel
theorem dX12_layCosts_26 : decode cX12_layCosts 26 = .ok (.iastore, 1) := by decide +kernel
theorem dX12_layCosts_27 : decode cX12_layCosts 27 = .ok (.iinc 3 1, 3) := by decide +kernel
theorem dX12_layCosts_30 : decode cX12_layCosts 30 = .ok (.goto (-23), 3) := by decide +kernel
theorem dX12_layCosts_33 : decode cX12_layCosts 33 = .ok (.iload_n 1, 1) := by decide +kernel
theorem dX12_layCosts_34 : decode cX12_layCosts 34 = .ok (.iconst 1, 1) := by decide +kernel
theorem dX12_layCosts_35 : decode cX12_layCosts 35 = .ok (.isub, 1) := by decide +kernel
theorem dX12_layCosts_36 : decode cX12_layCosts 36 = .ok (.istore_n 3, 1) := by decide +kernel
theorem dX12_layCosts_37 : decode cX12_layCosts 37 = .ok (.iload_n 3, 1) := by decide +kernel
theorem dX12_layCosts_38 : decode cX12_layCosts 38 = .ok (.ifCond .lt 109, 3) := by decide +kernel
theorem dX12_layCosts_41 : decode cX12_layCosts 41 = .ok (.iconst 0, 1) := by decide +kernel
theorem dX12_layCosts_42 : decode cX12_layCosts 42 = .ok (.istore 4, 2) := by decide +kernel
theorem dX12_layCosts_44 : decode cX12_layCosts 44 = .ok (.iload 4, 2) := by decide +kernel
theorem dX12_layCosts_46 : decode cX12_layCosts 46 = .ok (.iload_n 2, 1) := by decide +kernel
theorem dX12_layCosts_47 : decode cX12_layCosts 47 = .ok (.if_icmp .ge 94, 3) := by decide +kernel
theorem dX12_layCosts_50 : decode cX12_layCosts 50 = .ok (.aload_n 0, 1) := by decide +kernel
theorem dX12_layCosts_51 : decode cX12_layCosts 51 = .ok (.iload 4, 2) := by decide +kernel
theorem dX12_layCosts_53 : decode cX12_layCosts 53 = .ok (.invokevirtual 200, 3) := by decide +kernel
theorem dX12_layCosts_56 : decode cX12_layCosts 56 = .ok (.istore 5, 2) := by decide +kernel
theorem dX12_layCosts_58 : decode cX12_layCosts 58 = .ok (.ldc 196, 2) := by decide +kernel
theorem dX12_layCosts_60 : decode cX12_layCosts 60 = .ok (.istore 6, 2) := by decide +kernel
theorem dX12_layCosts_62 : decode cX12_layCosts 62 = .ok (.iconst 0, 1) := by decide +kernel
theorem dX12_layCosts_63 : decode cX12_layCosts 63 = .ok (.istore 7, 2) := by decide +kernel
theorem dX12_layCosts_65 : decode cX12_layCosts 65 = .ok (.iload 7, 2) := by decide +kernel
theorem dX12_layCosts_67 : decode cX12_layCosts 67 = .ok (.iload_n 2, 1) := by decide +kernel
theorem dX12_layCosts_68 : decode cX12_layCosts 68 = .ok (.if_icmp .ge 46, 3) := by decide +kernel
theorem dX12_layCosts_71 : decode cX12_layCosts 71 = .ok (.iload 5, 2) := by decide +kernel
theorem dX12_layCosts_73 : decode cX12_layCosts 73 = .ok (.iconst (-1), 1) := by decide +kernel
theorem dX12_layCosts_74 : decode cX12_layCosts 74 = .ok (.if_icmp .eq 40, 3) := by decide +kernel
theorem dX12_layCosts_77 : decode cX12_layCosts 77 = .ok (.aload_n 0, 1) := by decide +kernel
theorem dX12_layCosts_78 : decode cX12_layCosts 78 = .ok (.iload_n 3, 1) := by decide +kernel
theorem dX12_layCosts_79 : decode cX12_layCosts 79 = .ok (.iload 5, 2) := by decide +kernel
theorem dX12_layCosts_81 : decode cX12_layCosts 81 = .ok (.aload_n 0, 1) := by decide +kernel
theorem dX12_layCosts_82 : decode cX12_layCosts 82 = .ok (.iload 7, 2) := by decide +kernel
theorem dX12_layCosts_84 : decode cX12_layCosts 84 = .ok (.invokevirtual 200, 3) := by decide +kernel
theorem dX12_layCosts_87 : decode cX12_layCosts 87 = .ok (.invokevirtual 203, 3) := by decide +kernel
theorem dX12_layCosts_90 : decode cX12_layCosts 90 = .ok (.istore 8, 2) := by decide +kernel
theorem dX12_layCosts_92 : decode cX12_layCosts 92 = .ok (.iload 8, 2) := by decide +kernel
theorem dX12_layCosts_94 : decode cX12_layCosts 94 = .ok (.iload 6, 2) := by decide +kernel
theorem dX12_layCosts_96 : decode cX12_layCosts 96 = .ok (.if_icmp .ge 8, 3) := by decide +kernel
theorem dX12_layCosts_99 : decode cX12_layCosts 99 = .ok (.iload 8, 2) := by decide +kernel
theorem dX12_layCosts_101 : decode cX12_layCosts 101 = .ok (.goto 5, 3) := by decide +kernel
theorem dX12_layCosts_104 : decode cX12_layCosts 104 = .ok (.iload 6, 2) := by decide +kernel
theorem dX12_layCosts_106 : decode cX12_layCosts 106 = .ok (.istore 6, 2) := by decide +kernel
theorem dX12_layCosts_108 : decode cX12_layCosts 108 = .ok (.iinc 7 1, 3) := by decide +kernel
theorem dX12_layCosts_111 : decode cX12_layCosts 111 = .ok (.goto (-46), 3) := by decide +kernel
theorem dX12_layCosts_114 : decode cX12_layCosts 114 = .ok (.iload 5, 2) := by decide +kernel
theorem dX12_layCosts_116 : decode cX12_layCosts 116 = .ok (.iconst (-1), 1) := by decide +kernel
theorem dX12_layCosts_117 : decode cX12_layCosts 117 = .ok (.if_icmp .eq 18, 3) := by decide +kernel
theorem dX12_layCosts_120 : decode cX12_layCosts 120 = .ok (.aload_n 0, 1) := by decide +kernel
theorem dX12_layCosts_121 : decode cX12_layCosts 121 = .ok (.getfield 32, 3) := by decide +kernel
theorem dX12_layCosts_124 : decode cX12_layCosts 124 = .ok (.sipush 4096, 3) := by decide +kernel
theorem dX12_layCosts_127 : decode cX12_layCosts 127 = .ok (.iload_n 3, 1) := by decide +kernel
theorem dX12_layCosts_128 : decode cX12_layCosts 128 = .ok (.imul, 1) := by decide +kernel
theorem dX12_layCosts_129 : decode cX12_layCosts 129 = .ok (.iload 5, 2) := by decide +kernel
theorem dX12_layCosts_131 : decode cX12_layCosts 131 = .ok (.iadd, 1) := by decide +kernel
theorem dX12_layCosts_132 : decode cX12_layCosts 132 = .ok (.iload 6, 2) := by decide +kernel
theorem dX12_layCosts_134 : decode cX12_layCosts 134 = .ok (.iastore, 1) := by decide +kernel
theorem dX12_layCosts_135 : decode cX12_layCosts 135 = .ok (.iinc 4 1, 3) := by decide +kernel
theorem dX12_layCosts_138 : decode cX12_layCosts 138 = .ok (.goto (-94), 3) := by decide +kernel
theorem dX12_layCosts_141 : decode cX12_layCosts 141 = .ok (.iinc 3 (-1), 3) := by decide +kernel
theorem dX12_layCosts_144 : decode cX12_layCosts 144 = .ok (.goto (-107), 3) := by decide +kernel
theorem dX12_layCosts_147 : decode cX12_layCosts 147 = .ok (.return_, 1) := by decide +kernel
def KX12_layCosts_7 (E : EV) (d : Nat) (rr : Option Value × Mem) (x1 : Int32) (x2 : Int32) (Kp : Mem → Prop) : ((Int32 × Mem) ⊕ Mem) → Prop
  | .inl q => G E (d + 5) kX12_layCosts 7 [some (.ref 74), some (.int x1), some (.int x2), some (.int q.1), none, none, none, none, none] [] q.2 rr
  | .inr z => Kp z
def KX12_layCosts_37 (E : EV) (d : Nat) (rr : Option Value × Mem) (x2 : Int32) (Kp : Mem → Prop) : ((Int32 × Mem) ⊕ Mem) → Prop
  | .inl q => G E (d + 5) kX12_layCosts 37 [some (.ref 74), none, some (.int x2), some (.int q.1), none, none, none, none, none] [] q.2 rr
  | .inr z => Kp z
def KX12_layCosts_44 (E : EV) (d : Nat) (rr : Option Value × Mem) (x2 : Int32) (x3 : Int32) (Kp : ((Int32 × Mem) ⊕ Mem) → Prop) : ((Int32 × Mem) ⊕ ((Int32 × Mem) ⊕ Mem)) → Prop
  | .inl q => G E (d + 5) kX12_layCosts 44 [some (.ref 74), none, some (.int x2), some (.int x3), some (.int q.1), none, none, none, none] [] q.2 rr
  | .inr z => Kp z
def KX12_layCosts_65 (E : EV) (d : Nat) (rr : Option Value × Mem) (x2 : Int32) (x3 : Int32) (x4 : Int32) (x5 : Int32) (I : Mem) (Kp : ((Int32 × Mem) ⊕ ((Int32 × Mem) ⊕ Mem)) → Prop) : ((Int32 × Int32) ⊕ ((Int32 × Mem) ⊕ ((Int32 × Mem) ⊕ Mem))) → Prop
  | .inl q => G E (d + 5) kX12_layCosts 65 [some (.ref 74), none, some (.int x2), some (.int x3), some (.int x4), some (.int x5), some (.int q.1), some (.int q.2), none] [] I rr
  | .inr z => Kp z
def jX12_layCosts_114 (x2 : Int32) (x3 : Int32) (x4 : Int32) (x5 : Int32) (x6 : Int32) (I : Mem) : Option ((Int32 × Mem) ⊕ ((Int32 × Mem) ⊕ Mem)) :=
  if x5 = (-1 : Int32) then
  (some (.inl ((x4 + (1 : Int32)), I)))
  else
  (chk (inb (((4096 : Int32) * x3) + x5) 20480) <|
  letb (up2 I 82 (ix (((4096 : Int32) * x3) + x5)) x6) fun I_8 =>
  some (.inl ((x4 + (1 : Int32)), I_8)))
set_option maxRecDepth 20000 in
theorem tX12_layCosts_114 (E : EV) (d : Nat) (rr : Option Value × Mem) (x2 : Int32) (x3 : Int32) (x4 : Int32) (x5 : Int32) (x6 : Int32) (I : Mem) (y : ((Int32 × Mem) ⊕ ((Int32 × Mem) ⊕ Mem))) (hf : jX12_layCosts_114 x2 x3 x4 x5 x6 I = some y) (hK : (KX12_layCosts_44 E d rr x2 x3 (KX12_layCosts_37 E d rr x2 (fun (z : Mem) => ((none : Option Value), z) = rr))) y) : G E (d + 5) kX12_layCosts 114 [some (.ref 74), none, some (.int x2), some (.int x3), some (.int x4), some (.int x5), some (.int x6), none, none] [] I rr := by
  unfold jX12_layCosts_114 at hf
  refine G.iload dX12_layCosts_114 rfl ?_
  refine G.iconst (v := -1) dX12_layCosts_116 (by decide) ?_
  refine G.icmp_eq (tgt := 135) dX12_layCosts_117 (by decide) (fun c_9 => ?_) (fun c_9 => ?_)
  · have hf := ite_t hf c_9
    refine G.inc (w := 1) (L' := [some (.ref 74), none, some (.int x2), some (.int x3), some (.int (x4 + (1 : Int32))), some (.int x5), some (.int x6), none, none]) dX12_layCosts_135 (by decide) rfl (Nat.le_of_ble_eq_true rfl) rfl rfl ?_
    refine G.goto (tgt := 44) dX12_layCosts_138 (by decide) ?_
    have hf := Option.some.inj hf
    subst hf
    refine G.forget (L' := [some (.ref 74), none, some (.int x2), some (.int x3), some (.int (x4 + (1 : Int32))), none, none, none, none]) [5, 6] rfl ?_
    exact hK
  · have hf := ite_f hf c_9
    refine G.aload_n dX12_layCosts_120 rfl rfl ?_
    refine G.getR (q := 82) dX12_layCosts_121 flX12_32 (by decide) rfl rfl ?_
    refine G.sipush (v := 4096) dX12_layCosts_124 (by decide) ?_
    refine G.iload_n dX12_layCosts_127 rfl rfl ?_
    refine G.imul dX12_layCosts_128 ?_
    refine G.iload dX12_layCosts_129 rfl ?_
    refine G.iadd dX12_layCosts_131 ?_
    refine G.iload dX12_layCosts_132 rfl ?_
    obtain ⟨hi_7, hf⟩ := chk_at hf
    refine G.iast' dX12_layCosts_134 (by decide) rfl rfl hi_7 ?_
    refine G.nmI (fun I_8 e_I_8 => ?_)
    have hf := letb_at hf e_I_8
    clear e_I_8
    refine G.inc (w := 1) (L' := [some (.ref 74), none, some (.int x2), some (.int x3), some (.int (x4 + (1 : Int32))), some (.int x5), some (.int x6), none, none]) dX12_layCosts_135 (by decide) rfl (Nat.le_of_ble_eq_true rfl) rfl rfl ?_
    refine G.goto (tgt := 44) dX12_layCosts_138 (by decide) ?_
    have hf := Option.some.inj hf
    subst hf
    refine G.forget (L' := [some (.ref 74), none, some (.int x2), some (.int x3), some (.int (x4 + (1 : Int32))), none, none, none, none]) [5, 6] rfl ?_
    exact hK
def bX12_layCosts_65 (x2 : Int32) (x3 : Int32) (x4 : Int32) (x5 : Int32) (I : Mem) (x6 : Int32) (x7 : Int32) : Option ((Int32 × Int32) ⊕ ((Int32 × Mem) ⊕ ((Int32 × Mem) ⊕ Mem))) :=
  if x2 ≤ x7 then
  (inrO (jX12_layCosts_114 x2 x3 x4 x5 x6 I))
  else
  (if x5 = (-1 : Int32) then
  (inrO (jX12_layCosts_114 x2 x3 x4 x5 x6 I))
  else
  (bnd (fX12_standingOf x7 I) fun v_13 =>
  bnd (fX12_by x3 x5 v_13 I) fun v_15 =>
  if x6 ≤ v_15 then
  (some (.inl (x6, (x7 + (1 : Int32)))))
  else
  (some (.inl (v_15, (x7 + (1 : Int32)))))))
def sX12_layCosts_65 (x2 : Int32) (x3 : Int32) (x4 : Int32) (x5 : Int32) (I : Mem) (q : (Int32 × Int32)) : Option ((Int32 × Int32) ⊕ ((Int32 × Mem) ⊕ ((Int32 × Mem) ⊕ Mem))) := bX12_layCosts_65 x2 x3 x4 x5 I q.1 q.2
set_option maxRecDepth 20000 in
theorem wX12_layCosts_65 (E : EV) (d : Nat) (rr : Option Value × Mem) (x2 : Int32) (x3 : Int32) (x4 : Int32) (x5 : Int32) (I : Mem) (x6 : Int32) (x7 : Int32) (y : ((Int32 × Int32) ⊕ ((Int32 × Mem) ⊕ ((Int32 × Mem) ⊕ Mem)))) (hf : bX12_layCosts_65 x2 x3 x4 x5 I x6 x7 = some y) (hK : (KX12_layCosts_65 E d rr x2 x3 x4 x5 I (KX12_layCosts_44 E d rr x2 x3 (KX12_layCosts_37 E d rr x2 (fun (z : Mem) => ((none : Option Value), z) = rr)))) y) : G E (d + 5) kX12_layCosts 65 [some (.ref 74), none, some (.int x2), some (.int x3), some (.int x4), some (.int x5), some (.int x6), some (.int x7), none] [] I rr := by
  unfold bX12_layCosts_65 at hf
  refine G.iload dX12_layCosts_65 rfl ?_
  refine G.iload_n dX12_layCosts_67 rfl rfl ?_
  refine G.icmp_ge (tgt := 114) dX12_layCosts_68 (by decide) (fun c_18 => ?_) (fun c_18 => ?_)
  · have hf := ite_t hf c_18
    obtain ⟨z_10, hz_10, rfl⟩ := inrO_at hf
    have hf := hz_10
    refine G.forget (L' := [some (.ref 74), none, some (.int x2), some (.int x3), some (.int x4), some (.int x5), some (.int x6), none, none]) [7] rfl ?_
    exact tX12_layCosts_114 E d rr x2 x3 x4 x5 x6 I _ hf hK
  · have hf := ite_f hf c_18
    refine G.iload dX12_layCosts_71 rfl ?_
    refine G.iconst (v := -1) dX12_layCosts_73 (by decide) ?_
    refine G.icmp_eq (tgt := 114) dX12_layCosts_74 (by decide) (fun c_17 => ?_) (fun c_17 => ?_)
    · have hf := ite_t hf c_17
      obtain ⟨z_11, hz_11, rfl⟩ := inrO_at hf
      have hf := hz_11
      refine G.forget (L' := [some (.ref 74), none, some (.int x2), some (.int x3), some (.int x4), some (.int x5), some (.int x6), none, none]) [7] rfl ?_
      exact tX12_layCosts_114 E d rr x2 x3 x4 x5 x6 I _ hf hK
    · have hf := ite_f hf c_17
      refine G.aload_n dX12_layCosts_77 rfl rfl ?_
      refine G.iload_n dX12_layCosts_78 rfl rfl ?_
      refine G.iload dX12_layCosts_79 rfl ?_
      refine G.aload_n dX12_layCosts_81 rfl rfl ?_
      refine G.iload dX12_layCosts_82 rfl ?_
      obtain ⟨v_13, hc_12, hf⟩ := bnd_at hf
      refine G.callVi (av := [.int x7]) (rest := [.int x5, .int x3, .ref 74]) dX12_layCosts_84 mvX12_200 (gX12_standingOf E (d + 4) x7 I hc_12) (by decide) rfl rfl rfl (Nat.le_of_ble_eq_true rfl) ?_
      obtain ⟨v_15, hc_14, hf⟩ := bnd_at hf
      refine G.callVi (av := [.int x3, .int x5, .int v_13]) (rest := []) dX12_layCosts_87 mvX12_203 (gX12_by E d x3 x5 v_13 I hc_14) (by decide) rfl rfl rfl (Nat.le_of_ble_eq_true rfl) ?_
      refine G.istore (L' := [some (.ref 74), none, some (.int x2), some (.int x3), some (.int x4), some (.int x5), some (.int x6), some (.int x7), some (.int v_15)]) dX12_layCosts_90 (Nat.le_of_ble_eq_true rfl) (Nat.le_of_ble_eq_true rfl) rfl rfl ?_
      refine G.iload dX12_layCosts_92 rfl ?_
      refine G.iload dX12_layCosts_94 rfl ?_
      refine G.icmp_ge (tgt := 104) dX12_layCosts_96 (by decide) (fun c_16 => ?_) (fun c_16 => ?_)
      · have hf := ite_t hf c_16
        refine G.iload dX12_layCosts_104 rfl ?_
        refine G.istore (L' := [some (.ref 74), none, some (.int x2), some (.int x3), some (.int x4), some (.int x5), some (.int x6), some (.int x7), some (.int v_15)]) dX12_layCosts_106 (Nat.le_of_ble_eq_true rfl) (Nat.le_of_ble_eq_true rfl) rfl rfl ?_
        refine G.inc (w := 1) (L' := [some (.ref 74), none, some (.int x2), some (.int x3), some (.int x4), some (.int x5), some (.int x6), some (.int (x7 + (1 : Int32))), some (.int v_15)]) dX12_layCosts_108 (by decide) rfl (Nat.le_of_ble_eq_true rfl) rfl rfl ?_
        refine G.goto (tgt := 65) dX12_layCosts_111 (by decide) ?_
        have hf := Option.some.inj hf
        subst hf
        refine G.forget (L' := [some (.ref 74), none, some (.int x2), some (.int x3), some (.int x4), some (.int x5), some (.int x6), some (.int (x7 + (1 : Int32))), none]) [8] rfl ?_
        exact hK
      · have hf := ite_f hf c_16
        refine G.iload dX12_layCosts_99 rfl ?_
        refine G.goto (tgt := 106) dX12_layCosts_101 (by decide) ?_
        refine G.istore (L' := [some (.ref 74), none, some (.int x2), some (.int x3), some (.int x4), some (.int x5), some (.int v_15), some (.int x7), some (.int v_15)]) dX12_layCosts_106 (Nat.le_of_ble_eq_true rfl) (Nat.le_of_ble_eq_true rfl) rfl rfl ?_
        refine G.inc (w := 1) (L' := [some (.ref 74), none, some (.int x2), some (.int x3), some (.int x4), some (.int x5), some (.int v_15), some (.int (x7 + (1 : Int32))), some (.int v_15)]) dX12_layCosts_108 (by decide) rfl (Nat.le_of_ble_eq_true rfl) rfl rfl ?_
        refine G.goto (tgt := 65) dX12_layCosts_111 (by decide) ?_
        have hf := Option.some.inj hf
        subst hf
        refine G.forget (L' := [some (.ref 74), none, some (.int x2), some (.int x3), some (.int x4), some (.int x5), some (.int v_15), some (.int (x7 + (1 : Int32))), none]) [8] rfl ?_
        exact hK
theorem lX12_layCosts_65 (E : EV) (d : Nat) (rr : Option Value × Mem) (x2 : Int32) (x3 : Int32) (x4 : Int32) (x5 : Int32) (I : Mem) (z : ((Int32 × Mem) ⊕ ((Int32 × Mem) ⊕ Mem))) (hK : (KX12_layCosts_44 E d rr x2 x3 (KX12_layCosts_37 E d rr x2 (fun (z : Mem) => ((none : Option Value), z) = rr))) z) : ∀ (n : Nat) (q : (Int32 × Int32)), iter (sX12_layCosts_65 x2 x3 x4 x5 I) n q = some z → G E (d + 5) kX12_layCosts 65 [some (.ref 74), none, some (.int x2), some (.int x3), some (.int x4), some (.int x5), some (.int q.1), some (.int q.2), none] [] I rr := by
  intro n
  induction n with
  | zero => intro q h; cases h
  | succ n ih =>
    intro q h
    rcases iter_at h with ⟨q2, hs, h2⟩ | hs
    · exact wX12_layCosts_65 E d rr x2 x3 x4 x5 I q.1 q.2 _ hs (ih q2 h2)
    · exact wX12_layCosts_65 E d rr x2 x3 x4 x5 I q.1 q.2 _ hs hK
def bX12_layCosts_44 (x2 : Int32) (x3 : Int32) (x4 : Int32) (I : Mem) : Option ((Int32 × Mem) ⊕ ((Int32 × Mem) ⊕ Mem)) :=
  if x2 ≤ x4 then
  (some (.inr (.inl ((x3 + (-1 : Int32)), I))))
  else
  (bnd (fX12_standingOf x4 I) fun v_5 =>
  letb (268435456 : Int32) fun k9_6 =>
  iter (sX12_layCosts_65 x2 x3 x4 v_5 I) FU (k9_6, (0 : Int32)))
def sX12_layCosts_44 (x2 : Int32) (x3 : Int32) (q : (Int32 × Mem)) : Option ((Int32 × Mem) ⊕ ((Int32 × Mem) ⊕ Mem)) := bX12_layCosts_44 x2 x3 q.1 q.2
set_option maxRecDepth 20000 in
theorem wX12_layCosts_44 (E : EV) (d : Nat) (rr : Option Value × Mem) (x2 : Int32) (x3 : Int32) (x4 : Int32) (I : Mem) (y : ((Int32 × Mem) ⊕ ((Int32 × Mem) ⊕ Mem))) (hf : bX12_layCosts_44 x2 x3 x4 I = some y) (hK : (KX12_layCosts_44 E d rr x2 x3 (KX12_layCosts_37 E d rr x2 (fun (z : Mem) => ((none : Option Value), z) = rr))) y) : G E (d + 5) kX12_layCosts 44 [some (.ref 74), none, some (.int x2), some (.int x3), some (.int x4), none, none, none, none] [] I rr := by
  unfold bX12_layCosts_44 at hf
  refine G.iload dX12_layCosts_44 rfl ?_
  refine G.iload_n dX12_layCosts_46 rfl rfl ?_
  refine G.icmp_ge (tgt := 141) dX12_layCosts_47 (by decide) (fun c_19 => ?_) (fun c_19 => ?_)
  · have hf := ite_t hf c_19
    refine G.inc (w := -1) (L' := [some (.ref 74), none, some (.int x2), some (.int (x3 + (-1 : Int32))), some (.int x4), none, none, none, none]) dX12_layCosts_141 (by decide) rfl (Nat.le_of_ble_eq_true rfl) rfl rfl ?_
    refine G.goto (tgt := 37) dX12_layCosts_144 (by decide) ?_
    have hf := Option.some.inj hf
    subst hf
    refine G.forget (L' := [some (.ref 74), none, some (.int x2), some (.int (x3 + (-1 : Int32))), none, none, none, none, none]) [4] rfl ?_
    exact hK
  · have hf := ite_f hf c_19
    refine G.aload_n dX12_layCosts_50 rfl rfl ?_
    refine G.iload dX12_layCosts_51 rfl ?_
    obtain ⟨v_5, hc_4, hf⟩ := bnd_at hf
    refine G.callVi (av := [.int x4]) (rest := []) dX12_layCosts_53 mvX12_200 (gX12_standingOf E (d + 4) x4 I hc_4) (by decide) rfl rfl rfl (Nat.le_of_ble_eq_true rfl) ?_
    refine G.istore (L' := [some (.ref 74), none, some (.int x2), some (.int x3), some (.int x4), some (.int v_5), none, none, none]) dX12_layCosts_56 (Nat.le_of_ble_eq_true rfl) (Nat.le_of_ble_eq_true rfl) rfl rfl ?_
    refine G.ldc (v := 268435456) dX12_layCosts_58 kcX12_196 ?_
    refine G.nmi (fun k9_6 e_k9_6 => ?_)
    have hf := letb_at hf e_k9_6
    clear e_k9_6
    refine G.istore (L' := [some (.ref 74), none, some (.int x2), some (.int x3), some (.int x4), some (.int v_5), some (.int k9_6), none, none]) dX12_layCosts_60 (Nat.le_of_ble_eq_true rfl) (Nat.le_of_ble_eq_true rfl) rfl rfl ?_
    refine G.iconst (v := 0) dX12_layCosts_62 (by decide) ?_
    refine G.istore (L' := [some (.ref 74), none, some (.int x2), some (.int x3), some (.int x4), some (.int v_5), some (.int k9_6), some (.int (0 : Int32)), none]) dX12_layCosts_63 (Nat.le_of_ble_eq_true rfl) (Nat.le_of_ble_eq_true rfl) rfl rfl ?_
    exact lX12_layCosts_65 E d rr x2 x3 x4 v_5 I _ hK FU _ hf
theorem lX12_layCosts_44 (E : EV) (d : Nat) (rr : Option Value × Mem) (x2 : Int32) (x3 : Int32) (z : ((Int32 × Mem) ⊕ Mem)) (hK : (KX12_layCosts_37 E d rr x2 (fun (z : Mem) => ((none : Option Value), z) = rr)) z) : ∀ (n : Nat) (q : (Int32 × Mem)), iter (sX12_layCosts_44 x2 x3) n q = some z → G E (d + 5) kX12_layCosts 44 [some (.ref 74), none, some (.int x2), some (.int x3), some (.int q.1), none, none, none, none] [] q.2 rr := by
  intro n
  induction n with
  | zero => intro q h; cases h
  | succ n ih =>
    intro q h
    rcases iter_at h with ⟨q2, hs, h2⟩ | hs
    · exact wX12_layCosts_44 E d rr x2 x3 q.1 q.2 _ hs (ih q2 h2)
    · exact wX12_layCosts_44 E d rr x2 x3 q.1 q.2 _ hs hK
def bX12_layCosts_37 (x2 : Int32) (x3 : Int32) (I : Mem) : Option ((Int32 × Mem) ⊕ Mem) :=
  if x3 < 0 then
  (some (.inr I))
  else
  (iter (sX12_layCosts_44 x2 x3) FU ((0 : Int32), I))
def sX12_layCosts_37 (x2 : Int32) (q : (Int32 × Mem)) : Option ((Int32 × Mem) ⊕ Mem) := bX12_layCosts_37 x2 q.1 q.2
set_option maxRecDepth 20000 in
theorem wX12_layCosts_37 (E : EV) (d : Nat) (rr : Option Value × Mem) (x2 : Int32) (x3 : Int32) (I : Mem) (y : ((Int32 × Mem) ⊕ Mem)) (hf : bX12_layCosts_37 x2 x3 I = some y) (hK : (KX12_layCosts_37 E d rr x2 (fun (z : Mem) => ((none : Option Value), z) = rr)) y) : G E (d + 5) kX12_layCosts 37 [some (.ref 74), none, some (.int x2), some (.int x3), none, none, none, none, none] [] I rr := by
  unfold bX12_layCosts_37 at hf
  refine G.iload_n dX12_layCosts_37 rfl rfl ?_
  refine G.if_lt (tgt := 147) dX12_layCosts_38 (by decide) (fun c_20 => ?_) (fun c_20 => ?_)
  · have hf := ite_t hf c_20
    have hf := Option.some.inj hf
    subst hf
    exact G.vret' dX12_layCosts_147 rfl hK
  · have hf := ite_f hf c_20
    refine G.iconst (v := 0) dX12_layCosts_41 (by decide) ?_
    refine G.istore (L' := [some (.ref 74), none, some (.int x2), some (.int x3), some (.int (0 : Int32)), none, none, none, none]) dX12_layCosts_42 (Nat.le_of_ble_eq_true rfl) (Nat.le_of_ble_eq_true rfl) rfl rfl ?_
    exact lX12_layCosts_44 E d rr x2 x3 _ hK FU _ hf
theorem lX12_layCosts_37 (E : EV) (d : Nat) (rr : Option Value × Mem) (x2 : Int32) (z : Mem) (hK : (fun (z : Mem) => ((none : Option Value), z) = rr) z) : ∀ (n : Nat) (q : (Int32 × Mem)), iter (sX12_layCosts_37 x2) n q = some z → G E (d + 5) kX12_layCosts 37 [some (.ref 74), none, some (.int x2), some (.int q.1), none, none, none, none, none] [] q.2 rr := by
  intro n
  induction n with
  | zero => intro q h; cases h
  | succ n ih =>
    intro q h
    rcases iter_at h with ⟨q2, hs, h2⟩ | hs
    · exact wX12_layCosts_37 E d rr x2 q.1 q.2 _ hs (ih q2 h2)
    · exact wX12_layCosts_37 E d rr x2 q.1 q.2 _ hs hK
def bX12_layCosts_7 (x1 : Int32) (x2 : Int32) (x3 : Int32) (I : Mem) : Option ((Int32 × Mem) ⊕ Mem) :=
  if (4096 : Int32) ≤ x3 then
  (letb (x1 - (1 : Int32)) fun x3_3 =>
  inrO (iter (sX12_layCosts_37 x2) FU (x3_3, I)))
  else
  (chk (inb (((4096 : Int32) * x1) + x3) 20480) <|
  letb (up2 I 82 (ix (((4096 : Int32) * x1) + x3)) (0 : Int32)) fun I_23 =>
  some (.inl ((x3 + (1 : Int32)), I_23)))
def sX12_layCosts_7 (x1 : Int32) (x2 : Int32) (q : (Int32 × Mem)) : Option ((Int32 × Mem) ⊕ Mem) := bX12_layCosts_7 x1 x2 q.1 q.2
set_option maxRecDepth 20000 in
theorem wX12_layCosts_7 (E : EV) (d : Nat) (rr : Option Value × Mem) (x1 : Int32) (x2 : Int32) (x3 : Int32) (I : Mem) (y : ((Int32 × Mem) ⊕ Mem)) (hf : bX12_layCosts_7 x1 x2 x3 I = some y) (hK : (KX12_layCosts_7 E d rr x1 x2 (fun (z : Mem) => ((none : Option Value), z) = rr)) y) : G E (d + 5) kX12_layCosts 7 [some (.ref 74), some (.int x1), some (.int x2), some (.int x3), none, none, none, none, none] [] I rr := by
  unfold bX12_layCosts_7 at hf
  refine G.iload_n dX12_layCosts_7 rfl rfl ?_
  refine G.sipush (v := 4096) dX12_layCosts_8 (by decide) ?_
  refine G.icmp_ge (tgt := 33) dX12_layCosts_11 (by decide) (fun c_24 => ?_) (fun c_24 => ?_)
  · have hf := ite_t hf c_24
    refine G.iload_n dX12_layCosts_33 rfl rfl ?_
    refine G.iconst (v := 1) dX12_layCosts_34 (by decide) ?_
    refine G.isub dX12_layCosts_35 ?_
    refine G.nmi (fun x3_3 e_x3_3 => ?_)
    have hf := letb_at hf e_x3_3
    clear e_x3_3
    refine G.istore_n (L' := [some (.ref 74), some (.int x1), some (.int x2), some (.int x3_3), none, none, none, none, none]) dX12_layCosts_36 rfl (Nat.le_of_ble_eq_true rfl) (Nat.le_of_ble_eq_true rfl) rfl rfl ?_
    obtain ⟨z_21, hz_21, rfl⟩ := inrO_at hf
    have hf := hz_21
    refine G.forget (L' := [some (.ref 74), none, some (.int x2), some (.int x3_3), none, none, none, none, none]) [1] rfl ?_
    exact lX12_layCosts_37 E d rr x2 _ hK FU _ hf
  · have hf := ite_f hf c_24
    refine G.aload_n dX12_layCosts_14 rfl rfl ?_
    refine G.getR (q := 82) dX12_layCosts_15 flX12_32 (by decide) rfl rfl ?_
    refine G.sipush (v := 4096) dX12_layCosts_18 (by decide) ?_
    refine G.iload_n dX12_layCosts_21 rfl rfl ?_
    refine G.imul dX12_layCosts_22 ?_
    refine G.iload_n dX12_layCosts_23 rfl rfl ?_
    refine G.iadd dX12_layCosts_24 ?_
    refine G.iconst (v := 0) dX12_layCosts_25 (by decide) ?_
    obtain ⟨hi_22, hf⟩ := chk_at hf
    refine G.iast' dX12_layCosts_26 (by decide) rfl rfl hi_22 ?_
    refine G.nmI (fun I_23 e_I_23 => ?_)
    have hf := letb_at hf e_I_23
    clear e_I_23
    refine G.inc (w := 1) (L' := [some (.ref 74), some (.int x1), some (.int x2), some (.int (x3 + (1 : Int32))), none, none, none, none, none]) dX12_layCosts_27 (by decide) rfl (Nat.le_of_ble_eq_true rfl) rfl rfl ?_
    refine G.goto (tgt := 7) dX12_layCosts_30 (by decide) ?_
    have hf := Option.some.inj hf
    subst hf
    exact hK
theorem lX12_layCosts_7 (E : EV) (d : Nat) (rr : Option Value × Mem) (x1 : Int32) (x2 : Int32) (z : Mem) (hK : (fun (z : Mem) => ((none : Option Value), z) = rr) z) : ∀ (n : Nat) (q : (Int32 × Mem)), iter (sX12_layCosts_7 x1 x2) n q = some z → G E (d + 5) kX12_layCosts 7 [some (.ref 74), some (.int x1), some (.int x2), some (.int q.1), none, none, none, none, none] [] q.2 rr := by
  intro n
  induction n with
  | zero => intro q h; cases h
  | succ n ih =>
    intro q h
    rcases iter_at h with ⟨q2, hs, h2⟩ | hs
    · exact wX12_layCosts_7 E d rr x1 x2 q.1 q.2 _ hs (ih q2 h2)
    · exact wX12_layCosts_7 E d rr x1 x2 q.1 q.2 _ hs hK
def fX12_layCosts (x1 : Int32) (I : Mem) : Option Mem :=
  bnd (fX12_standings I) fun v_2 =>
  iter (sX12_layCosts_7 x1 v_2) FU ((0 : Int32), I)
set_option maxRecDepth 20000 in
theorem gX12_layCosts (E : EV) (d : Nat) (x1 : Int32) (I : Mem) {J : Mem} (hf : fX12_layCosts x1 I = some J) : Gm E (d + 5) kX12_layCosts [.ref 74, .int x1] I (none, J) := by
  refine (fun (y : Mem) (hf : fX12_layCosts x1 I = some y) => (?_ : Gm E (d + 5) kX12_layCosts [.ref 74, .int x1] I (none, y))) J hf
  refine Gm.of (by decide) rfl (Nat.le_of_ble_eq_true rfl) ?_
  generalize hrr : ((none, y) : Option Value × Mem) = rr
  show G E (d + 5) kX12_layCosts 0 [some (.ref 74), some (.int x1), none, none, none, none, none, none, none] [] I rr
  have hK : (fun (z : Mem) => ((none : Option Value), z) = rr) y := hrr
  clear hrr
  unfold fX12_layCosts at hf
  refine G.aload_n dX12_layCosts_0 rfl rfl ?_
  obtain ⟨v_2, hc_1, hf⟩ := bnd_at hf
  refine G.callVi (av := []) (rest := []) dX12_layCosts_1 mvX12_197 (gX12_standings E (d + 4) I hc_1) (by decide) rfl rfl rfl (Nat.le_of_ble_eq_true rfl) ?_
  refine G.istore_n (L' := [some (.ref 74), some (.int x1), some (.int v_2), none, none, none, none, none, none]) dX12_layCosts_4 rfl (Nat.le_of_ble_eq_true rfl) (Nat.le_of_ble_eq_true rfl) rfl rfl ?_
  refine G.iconst (v := 0) dX12_layCosts_5 (by decide) ?_
  refine G.istore_n (L' := [some (.ref 74), some (.int x1), some (.int v_2), some (.int (0 : Int32)), none, none, none, none, none]) dX12_layCosts_6 rfl (Nat.le_of_ble_eq_true rfl) (Nat.le_of_ble_eq_true rfl) rfl rfl ?_
  exact lX12_layCosts_7 E d rr x1 v_2 _ hK FU _ hf
theorem dX12_firstOf_0 : decode cX12_firstOf 0 = .ok (.iconst 0, 1) := by decide +kernel
theorem dX12_firstOf_1 : decode cX12_firstOf 1 = .ok (.istore_n 3, 1) := by decide +kernel
theorem dX12_firstOf_2 : decode cX12_firstOf 2 = .ok (.aload_n 0, 1) := by decide +kernel
theorem dX12_firstOf_3 : decode cX12_firstOf 3 = .ok (.iload_n 1, 1) := by decide +kernel
theorem dX12_firstOf_4 : decode cX12_firstOf 4 = .ok (.iload_n 2, 1) := by decide +kernel
theorem dX12_firstOf_5 : decode cX12_firstOf 5 = .ok (.aload_n 0, 1) := by decide +kernel
theorem dX12_firstOf_6 : decode cX12_firstOf 6 = .ok (.iload_n 3, 1) := by decide +kernel
theorem dX12_firstOf_7 : decode cX12_firstOf 7 = .ok (.invokevirtual 200, 3) := by decide +kernel
theorem dX12_firstOf_10 : decode cX12_firstOf 10 = .ok (.invokevirtual 203, 3) := by decide +kernel
theorem dX12_firstOf_13 : decode cX12_firstOf 13 = .ok (.aload_n 0, 1) := by decide +kernel
theorem dX12_firstOf_14 : decode cX12_firstOf 14 = .ok (.getfield 32, 3) := by decide +kernel
theorem dX12_firstOf_17 : decode cX12_firstOf 17 = .ok (.sipush 4096, 3) := by decide +kernel
theorem dX12_firstOf_20 : decode cX12_firstOf 20 = .ok (.iload_n 1, 1) := by decide +kernel
theorem dX12_firstOf_21 : decode cX12_firstOf 21 = .ok (.imul, 1) := by decide +kernel
theorem dX12_firstOf_22 : decode cX12_firstOf 22 = .ok (.iload_n 2, 1) := by decide +kernel
theorem dX12_firstOf_23 : decode cX12_firstOf 23 = .ok (.iadd, 1) := by decide +kernel
theorem dX12_firstOf_24 : decode cX12_firstOf 24 = .ok (.iaload, 1) := by decide +kernel
theorem dX12_firstOf_25 : decode cX12_firstOf 25 = .ok (.if_icmp .eq 9, 3) := by decide +kernel
theorem dX12_firstOf_28 : decode cX12_firstOf 28 = .ok (.iinc 3 1, 3) := by decide +kernel
theorem dX12_firstOf_31 : decode cX12_firstOf 31 = .ok (.goto (-29), 3) := by decide +kernel
theorem dX12_firstOf_34 : decode cX12_firstOf 34 = .ok (.aload_n 0, 1) := by decide +kernel
theorem dX12_firstOf_35 : decode cX12_firstOf 35 = .ok (.iload_n 3, 1) := by decide +kernel
theorem dX12_firstOf_36 : decode cX12_firstOf 36 = .ok (.invokevirtual 200, 3) := by decide +kernel
theorem dX12_firstOf_39 : decode cX12_firstOf 39 = .ok (.ireturn, 1) := by decide +kernel
def KX12_firstOf_2 (E : EV) (d : Nat) (rr : Option Value × Mem) (x1 : Int32) (x2 : Int32) (I : Mem) (Kp : Int32 → Prop) : (Int32 ⊕ Int32) → Prop
  | .inl q => G E (d + 5) kX12_firstOf 2 [some (.ref 74), some (.int x1), some (.int x2), some (.int q)] [] I rr
  | .inr z => Kp z
def bX12_firstOf_2 (x1 : Int32) (x2 : Int32) (I : Mem) (x3 : Int32) : Option (Int32 ⊕ Int32) :=
  bnd (fX12_standingOf x3 I) fun v_2 =>
  bnd (fX12_by x1 x2 v_2 I) fun v_4 =>
  chk (inb (((4096 : Int32) * x1) + x2) 20480) <|
  if v_4 = (I 82 (ix (((4096 : Int32) * x1) + x2))) then
  (bnd (fX12_standingOf x3 I) fun v_7 =>
  some (.inr v_7))
  else
  (some (.inl (x3 + (1 : Int32))))
def sX12_firstOf_2 (x1 : Int32) (x2 : Int32) (I : Mem) (q : Int32) : Option (Int32 ⊕ Int32) := bX12_firstOf_2 x1 x2 I q
set_option maxRecDepth 20000 in
theorem wX12_firstOf_2 (E : EV) (d : Nat) (rr : Option Value × Mem) (x1 : Int32) (x2 : Int32) (I : Mem) (x3 : Int32) (y : (Int32 ⊕ Int32)) (hf : bX12_firstOf_2 x1 x2 I x3 = some y) (hK : (KX12_firstOf_2 E d rr x1 x2 I (fun (z : Int32) => (some (.int z), I) = rr)) y) : G E (d + 5) kX12_firstOf 2 [some (.ref 74), some (.int x1), some (.int x2), some (.int x3)] [] I rr := by
  unfold bX12_firstOf_2 at hf
  refine G.aload_n dX12_firstOf_2 rfl rfl ?_
  refine G.iload_n dX12_firstOf_3 rfl rfl ?_
  refine G.iload_n dX12_firstOf_4 rfl rfl ?_
  refine G.aload_n dX12_firstOf_5 rfl rfl ?_
  refine G.iload_n dX12_firstOf_6 rfl rfl ?_
  obtain ⟨v_2, hc_1, hf⟩ := bnd_at hf
  refine G.callVi (av := [.int x3]) (rest := [.int x2, .int x1, .ref 74]) dX12_firstOf_7 mvX12_200 (gX12_standingOf E (d + 4) x3 I hc_1) (by decide) rfl rfl rfl (Nat.le_of_ble_eq_true rfl) ?_
  obtain ⟨v_4, hc_3, hf⟩ := bnd_at hf
  refine G.callVi (av := [.int x1, .int x2, .int v_2]) (rest := []) dX12_firstOf_10 mvX12_203 (gX12_by E d x1 x2 v_2 I hc_3) (by decide) rfl rfl rfl (Nat.le_of_ble_eq_true rfl) ?_
  refine G.aload_n dX12_firstOf_13 rfl rfl ?_
  refine G.getR (q := 82) dX12_firstOf_14 flX12_32 (by decide) rfl rfl ?_
  refine G.sipush (v := 4096) dX12_firstOf_17 (by decide) ?_
  refine G.iload_n dX12_firstOf_20 rfl rfl ?_
  refine G.imul dX12_firstOf_21 ?_
  refine G.iload_n dX12_firstOf_22 rfl rfl ?_
  refine G.iadd dX12_firstOf_23 ?_
  obtain ⟨hi_5, hf⟩ := chk_at hf
  refine G.iald' dX12_firstOf_24 (by decide) rfl rfl hi_5 ?_
  refine G.icmp_eq (tgt := 34) dX12_firstOf_25 (by decide) (fun c_8 => ?_) (fun c_8 => ?_)
  · have hf := ite_t hf c_8
    refine G.aload_n dX12_firstOf_34 rfl rfl ?_
    refine G.iload_n dX12_firstOf_35 rfl rfl ?_
    obtain ⟨v_7, hc_6, hf⟩ := bnd_at hf
    refine G.callVi (av := [.int x3]) (rest := []) dX12_firstOf_36 mvX12_200 (gX12_standingOf E (d + 4) x3 I hc_6) (by decide) rfl rfl rfl (Nat.le_of_ble_eq_true rfl) ?_
    have hf := Option.some.inj hf
    subst hf
    exact G.iret' dX12_firstOf_39 rfl hK
  · have hf := ite_f hf c_8
    refine G.inc (w := 1) (L' := [some (.ref 74), some (.int x1), some (.int x2), some (.int (x3 + (1 : Int32)))]) dX12_firstOf_28 (by decide) rfl (Nat.le_of_ble_eq_true rfl) rfl rfl ?_
    refine G.goto (tgt := 2) dX12_firstOf_31 (by decide) ?_
    have hf := Option.some.inj hf
    subst hf
    exact hK
theorem lX12_firstOf_2 (E : EV) (d : Nat) (rr : Option Value × Mem) (x1 : Int32) (x2 : Int32) (I : Mem) (z : Int32) (hK : (fun (z : Int32) => (some (.int z), I) = rr) z) : ∀ (n : Nat) (q : Int32), iter (sX12_firstOf_2 x1 x2 I) n q = some z → G E (d + 5) kX12_firstOf 2 [some (.ref 74), some (.int x1), some (.int x2), some (.int q)] [] I rr := by
  intro n
  induction n with
  | zero => intro q h; cases h
  | succ n ih =>
    intro q h
    rcases iter_at h with ⟨q2, hs, h2⟩ | hs
    · exact wX12_firstOf_2 E d rr x1 x2 I q _ hs (ih q2 h2)
    · exact wX12_firstOf_2 E d rr x1 x2 I q _ hs hK
def fX12_firstOf (x1 : Int32) (x2 : Int32) (I : Mem) : Option Int32 :=
  iter (sX12_firstOf_2 x1 x2 I) FU (0 : Int32)
set_option maxRecDepth 20000 in
theorem gX12_firstOf (E : EV) (d : Nat) (x1 : Int32) (x2 : Int32) (I : Mem) {v : Int32} (hf : fX12_firstOf x1 x2 I = some v) : Gm E (d + 5) kX12_firstOf [.ref 74, .int x1, .int x2] I (some (.int v), I) := by
  refine (fun (y : Int32) (hf : fX12_firstOf x1 x2 I = some y) => (?_ : Gm E (d + 5) kX12_firstOf [.ref 74, .int x1, .int x2] I (some (.int y), I))) v hf
  refine Gm.of (by decide) rfl (Nat.le_of_ble_eq_true rfl) ?_
  generalize hrr : ((some (.int y), I) : Option Value × Mem) = rr
  show G E (d + 5) kX12_firstOf 0 [some (.ref 74), some (.int x1), some (.int x2), none] [] I rr
  have hK : (fun (z : Int32) => (some (.int z), I) = rr) y := hrr
  clear hrr
  unfold fX12_firstOf at hf
  refine G.iconst (v := 0) dX12_firstOf_0 (by decide) ?_
  refine G.istore_n (L' := [some (.ref 74), some (.int x1), some (.int x2), some (.int (0 : Int32))]) dX12_firstOf_1 rfl (Nat.le_of_ble_eq_true rfl) (Nat.le_of_ble_eq_true rfl) rfl rfl ?_
  exact lX12_firstOf_2 E d rr x1 x2 I _ hK FU _ hf
theorem dX12_least_0 : decode cX12_least 0 = .ok (.iload_n 1, 1) := by decide +kernel
theorem dX12_least_1 : decode cX12_least 1 = .ok (.i2l, 1) := by decide +kernel
theorem dX12_least_2 : decode cX12_least 2 = .ok (.lconst 1, 1) := by decide +kernel
theorem dX12_least_3 : decode cX12_least 3 = .ok (.ldc2_w 87, 3) := by decide +kernel
theorem dX12_least_6 : decode cX12_least 6 = .ok (.invokestatic 49, 3) := by decide +kernel
theorem dX12_least_9 : decode cX12_least 9 = .ok (.ifCond .eq 14, 3) := by decide +kernel
theorem dX12_least_12 : decode cX12_least 12 = .ok (.iload_n 2, 1) := by decide +kernel
theorem dX12_least_13 : decode cX12_least 13 = .ok (.i2l, 1) := by decide +kernel
theorem dX12_least_14 : decode cX12_least 14 = .ok (.lconst 0, 1) := by decide +kernel
theorem dX12_least_15 : decode cX12_least 15 = .ok (.iload_n 1, 1) := by decide +kernel
theorem dX12_least_16 : decode cX12_least 16 = .ok (.i2l, 1) := by decide +kernel
theorem dX12_least_17 : decode cX12_least 17 = .ok (.invokestatic 49, 3) := by decide +kernel
theorem dX12_least_20 : decode cX12_least 20 = .ok (.ifCond .ne 10, 3) := by decide +kernel
theorem dX12_least_23 : decode cX12_least 23 = .ok (.aload_n 0, 1) := by decide +kernel
theorem dX12_least_24 : decode cX12_least 24 = .ok (.bipush (-2), 2) := by decide +kernel
theorem dX12_least_26 : decode cX12_least 26 = .ok (.invokevirtual 59, 3) := by decide +kernel
theorem dX12_least_29 : decode cX12_least 29 = .ok (.ireturn, 1) := by decide +kernel
theorem dX12_least_30 : decode cX12_least 30 = .ok (.aload_n 0, 1) := by decide +kernel
theorem dX12_least_31 : decode cX12_least 31 = .ok (.iload_n 1, 1) := by decide +kernel
theorem dX12_least_32 : decode cX12_least 32 = .ok (.invokevirtual 207, 3) := by decide +kernel
theorem dX12_least_35 : decode cX12_least 35 = .ok (.aload_n 0, 1) := by decide +kernel
theorem dX12_least_36 : decode cX12_least 36 = .ok (.invokevirtual 173, 3) := by decide +kernel
theorem dX12_least_39 : decode cX12_least 39 = .ok (.istore_n 3, 1) := by decide +kernel
theorem dX12_least_40 : decode cX12_least 40 = .ok (.aload_n 0, 1) := by decide +kernel
theorem dX12_least_41 : decode cX12_least 41 = .ok (.getfield 32, 3) := by decide +kernel
theorem dX12_least_44 : decode cX12_least 44 = .ok (.iload_n 3, 1) := by decide +kernel
theorem dX12_least_45 : decode cX12_least 45 = .ok (.iaload, 1) := by decide +kernel
theorem dX12_least_46 : decode cX12_least 46 = .ok (.istore 4, 2) := by decide +kernel
theorem dX12_least_48 : decode cX12_least 48 = .ok (.iload 4, 2) := by decide +kernel
theorem dX12_least_50 : decode cX12_least 50 = .ok (.ldc 196, 2) := by decide +kernel
theorem dX12_least_52 : decode cX12_least 52 = .ok (.if_icmp .eq 7, 3) := by decide +kernel
theorem dX12_least_55 : decode cX12_least 55 = .ok (.iload_n 2, 1) := by decide +kernel
theorem dX12_least_56 : decode cX12_least 56 = .ok (.ifCond .ne 17, 3) := by decide +kernel
theorem dX12_least_59 : decode cX12_least 59 = .ok (.iload 4, 2) := by decide +kernel
theorem dX12_least_61 : decode cX12_least 61 = .ok (.ldc 196, 2) := by decide +kernel
theorem dX12_least_63 : decode cX12_least 63 = .ok (.if_icmp .ne 7, 3) := by decide +kernel
theorem dX12_least_66 : decode cX12_least 66 = .ok (.iconst (-1), 1) := by decide +kernel
theorem dX12_least_67 : decode cX12_least 67 = .ok (.goto 5, 3) := by decide +kernel
theorem dX12_least_70 : decode cX12_least 70 = .ok (.iload 4, 2) := by decide +kernel
theorem dX12_least_72 : decode cX12_least 72 = .ok (.ireturn, 1) := by decide +kernel
theorem dX12_least_73 : decode cX12_least 73 = .ok (.iconst 0, 1) := by decide +kernel
theorem dX12_least_74 : decode cX12_least 74 = .ok (.istore 5, 2) := by decide +kernel
theorem dX12_least_76 : decode cX12_least 76 = .ok (.iload 5, 2) := by decide +kernel
theorem dX12_least_78 : decode cX12_least 78 = .ok (.iload_n 2, 1) := by decide +kernel
theorem dX12_least_79 : decode cX12_least 79 = .ok (.if_icmp .ge 17, 3) := by decide +kernel
theorem dX12_least_82 : decode cX12_least 82 = .ok (.aload_n 0, 1) := by decide +kernel
theorem dX12_least_83 : decode cX12_least 83 = .ok (.iload 5, 2) := by decide +kernel
theorem dX12_least_85 : decode cX12_least 85 = .ok (.iload_n 3, 1) := by decide +kernel
theorem dX12_least_86 : decode cX12_least 86 = .ok (.invokevirtual 210, 3) := by decide +kernel
theorem dX12_least_89 : decode cX12_least 89 = .ok (.istore_n 3, 1) := by decide +kernel
theorem dX12_least_90 : decode cX12_least 90 = .ok (.iinc 5 1, 3) := by decide +kernel
theorem dX12_least_93 : decode cX12_least 93 = .ok (.goto (-17), 3) := by decide +kernel
theorem dX12_least_96 : decode cX12_least 96 = .ok (.iload_n 3, 1) := by decide +kernel
theorem dX12_least_97 : decode cX12_least 97 = .ok (.ireturn, 1) := by decide +kernel
def jX12_least_23 (I : Mem) : Option (Int32 × Mem) :=
  bnd2 (fX12_bad (-2 : Int32) I) fun v_4 I_5 =>
  some (v_4, I_5)
set_option maxRecDepth 20000 in
theorem tX12_least_23 (E : EV) (d : Nat) (rr : Option Value × Mem) (I : Mem) (y : (Int32 × Mem)) (hf : jX12_least_23 I = some y) (hK : (fun (z : Int32 × Mem) => (some (.int z.1), z.2) = rr) y) : G E (d + 6) kX12_least 23 [some (.ref 74), none, none, none, none, none] [] I rr := by
  unfold jX12_least_23 at hf
  refine G.aload_n dX12_least_23 rfl rfl ?_
  refine G.bipush (v := -2) dX12_least_24 (by decide) ?_
  obtain ⟨v_4, I_5, hc_3, hf⟩ := bnd2_at hf
  refine G.callVi (av := [.int (-2 : Int32)]) (rest := []) dX12_least_26 mvX12_59 (gX12_bad E (d + 5) (-2 : Int32) I hc_3) (by decide) rfl rfl rfl (Nat.le_of_ble_eq_true rfl) ?_
  have hf := Option.some.inj hf
  subst hf
  exact G.iret' dX12_least_29 rfl hK
def jX12_least_59 (x4 : Int32) (I : Mem) : Option (Int32 × Mem) :=
  letb (268435456 : Int32) fun k9_15 =>
  if x4 = k9_15 then
  (some ((-1 : Int32), I))
  else
  (some (x4, I))
set_option maxRecDepth 20000 in
theorem tX12_least_59 (E : EV) (d : Nat) (rr : Option Value × Mem) (x4 : Int32) (I : Mem) (y : (Int32 × Mem)) (hf : jX12_least_59 x4 I = some y) (hK : (fun (z : Int32 × Mem) => (some (.int z.1), z.2) = rr) y) : G E (d + 6) kX12_least 59 [none, none, none, none, some (.int x4), none] [] I rr := by
  unfold jX12_least_59 at hf
  refine G.iload dX12_least_59 rfl ?_
  refine G.ldc (v := 268435456) dX12_least_61 kcX12_196 ?_
  refine G.nmi (fun k9_15 e_k9_15 => ?_)
  have hf := letb_at hf e_k9_15
  clear e_k9_15
  refine G.icmp_ne (tgt := 70) dX12_least_63 (by decide) (fun c_16 => ?_) (fun c_16 => ?_)
  · have hf := ite_f hf c_16
    refine G.iload dX12_least_70 rfl ?_
    have hf := Option.some.inj hf
    subst hf
    exact G.iret' dX12_least_72 rfl hK
  · have hf := ite_t hf c_16
    refine G.iconst (v := -1) dX12_least_66 (by decide) ?_
    refine G.goto (tgt := 72) dX12_least_67 (by decide) ?_
    have hf := Option.some.inj hf
    subst hf
    exact G.iret' dX12_least_72 rfl hK
def KX12_least_76 (E : EV) (d : Nat) (rr : Option Value × Mem) (x2 : Int32) (I : Mem) (Kp : (Int32 × Mem) → Prop) : ((Int32 × Int32) ⊕ (Int32 × Mem)) → Prop
  | .inl q => G E (d + 6) kX12_least 76 [some (.ref 74), none, some (.int x2), some (.int q.1), none, some (.int q.2)] [] I rr
  | .inr z => Kp z
def bX12_least_76 (x2 : Int32) (I : Mem) (x3 : Int32) (x5 : Int32) : Option ((Int32 × Int32) ⊕ (Int32 × Mem)) :=
  if x2 ≤ x5 then
  (some (.inr (x3, I)))
  else
  (bnd (fX12_firstOf x5 x3 I) fun v_18 =>
  some (.inl (v_18, (x5 + (1 : Int32)))))
def sX12_least_76 (x2 : Int32) (I : Mem) (q : (Int32 × Int32)) : Option ((Int32 × Int32) ⊕ (Int32 × Mem)) := bX12_least_76 x2 I q.1 q.2
set_option maxRecDepth 20000 in
theorem wX12_least_76 (E : EV) (d : Nat) (rr : Option Value × Mem) (x2 : Int32) (I : Mem) (x3 : Int32) (x5 : Int32) (y : ((Int32 × Int32) ⊕ (Int32 × Mem))) (hf : bX12_least_76 x2 I x3 x5 = some y) (hK : (KX12_least_76 E d rr x2 I (fun (z : Int32 × Mem) => (some (.int z.1), z.2) = rr)) y) : G E (d + 6) kX12_least 76 [some (.ref 74), none, some (.int x2), some (.int x3), none, some (.int x5)] [] I rr := by
  unfold bX12_least_76 at hf
  refine G.iload dX12_least_76 rfl ?_
  refine G.iload_n dX12_least_78 rfl rfl ?_
  refine G.icmp_ge (tgt := 96) dX12_least_79 (by decide) (fun c_19 => ?_) (fun c_19 => ?_)
  · have hf := ite_t hf c_19
    refine G.iload_n dX12_least_96 rfl rfl ?_
    have hf := Option.some.inj hf
    subst hf
    exact G.iret' dX12_least_97 rfl hK
  · have hf := ite_f hf c_19
    refine G.aload_n dX12_least_82 rfl rfl ?_
    refine G.iload dX12_least_83 rfl ?_
    refine G.iload_n dX12_least_85 rfl rfl ?_
    obtain ⟨v_18, hc_17, hf⟩ := bnd_at hf
    refine G.callVi (av := [.int x5, .int x3]) (rest := []) dX12_least_86 mvX12_210 (gX12_firstOf E d x5 x3 I hc_17) (by decide) rfl rfl rfl (Nat.le_of_ble_eq_true rfl) ?_
    refine G.istore_n (L' := [some (.ref 74), none, some (.int x2), some (.int v_18), none, some (.int x5)]) dX12_least_89 rfl (Nat.le_of_ble_eq_true rfl) (Nat.le_of_ble_eq_true rfl) rfl rfl ?_
    refine G.inc (w := 1) (L' := [some (.ref 74), none, some (.int x2), some (.int v_18), none, some (.int (x5 + (1 : Int32)))]) dX12_least_90 (by decide) rfl (Nat.le_of_ble_eq_true rfl) rfl rfl ?_
    refine G.goto (tgt := 76) dX12_least_93 (by decide) ?_
    have hf := Option.some.inj hf
    subst hf
    exact hK
theorem lX12_least_76 (E : EV) (d : Nat) (rr : Option Value × Mem) (x2 : Int32) (I : Mem) (z : (Int32 × Mem)) (hK : (fun (z : Int32 × Mem) => (some (.int z.1), z.2) = rr) z) : ∀ (n : Nat) (q : (Int32 × Int32)), iter (sX12_least_76 x2 I) n q = some z → G E (d + 6) kX12_least 76 [some (.ref 74), none, some (.int x2), some (.int q.1), none, some (.int q.2)] [] I rr := by
  intro n
  induction n with
  | zero => intro q h; cases h
  | succ n ih =>
    intro q h
    rcases iter_at h with ⟨q2, hs, h2⟩ | hs
    · exact wX12_least_76 E d rr x2 I q.1 q.2 _ hs (ih q2 h2)
    · exact wX12_least_76 E d rr x2 I q.1 q.2 _ hs hK
def fX12_least (x1 : Int32) (x2 : Int32) (I : Mem) : Option (Int32 × Mem) :=
  bnd (fX12_in (Int32.toInt64 x1) (1 : Int64) (4 : Int64) I) fun v_2 =>
  if v_2 = 0 then
  (jX12_least_23 I)
  else
  (bnd (fX12_in (Int32.toInt64 x2) (0 : Int64) (Int32.toInt64 x1) I) fun v_7 =>
  if v_7 = 0 then
  (jX12_least_23 I)
  else
  (bnd (fX12_layCosts x1 I) fun I_9 =>
  bnd (fX12_now I_9) fun v_11 =>
  chk (inb v_11 20480) <|
  letb (I_9 82 (ix v_11)) fun x4_13 =>
  letb (268435456 : Int32) fun k9_14 =>
  if x4_13 = k9_14 then
  (jX12_least_59 x4_13 I_9)
  else
  (if x2 = 0 then
  (jX12_least_59 x4_13 I_9)
  else
  (iter (sX12_least_76 x2 I_9) FU (v_11, (0 : Int32))))))
set_option maxRecDepth 20000 in
theorem gX12_least (E : EV) (d : Nat) (x1 : Int32) (x2 : Int32) (I : Mem) {v : Int32} {J : Mem} (hf : fX12_least x1 x2 I = some (v, J)) : Gm E (d + 6) kX12_least [.ref 74, .int x1, .int x2] I (some (.int v), J) := by
  refine (fun (y : (Int32 × Mem)) (hf : fX12_least x1 x2 I = some y) => (?_ : Gm E (d + 6) kX12_least [.ref 74, .int x1, .int x2] I (some (.int y.1), y.2))) (v, J) hf
  refine Gm.of (by decide) rfl (Nat.le_of_ble_eq_true rfl) ?_
  generalize hrr : ((some (.int y.1), y.2) : Option Value × Mem) = rr
  show G E (d + 6) kX12_least 0 [some (.ref 74), some (.int x1), some (.int x2), none, none, none] [] I rr
  have hK : (fun (z : Int32 × Mem) => (some (.int z.1), z.2) = rr) y := hrr
  clear hrr
  unfold fX12_least at hf
  refine G.iload_n dX12_least_0 rfl rfl ?_
  refine G.i2l dX12_least_1 ?_
  refine G.lconst (v := 1) dX12_least_2 (by decide) ?_
  refine G.ldc2 (v := 4) dX12_least_3 kcX12_87 ?_
  obtain ⟨v_2, hc_1, hf⟩ := bnd_at hf
  refine G.callSi (av := [.long (Int32.toInt64 x1), .long (1 : Int64), .long (4 : Int64)]) (rest := []) dX12_least_6 msX12_49 (gX12_in E (d + 5) (Int32.toInt64 x1) (1 : Int64) (4 : Int64) I hc_1) rfl rfl (Nat.le_of_ble_eq_true rfl) ?_
  refine G.if_eq (tgt := 23) dX12_least_9 (by decide) (fun c_23 => ?_) (fun c_23 => ?_)
  · have hf := ite_t hf c_23
    refine G.forget (L' := [some (.ref 74), none, none, none, none, none]) [1, 2] rfl ?_
    exact tX12_least_23 E d rr I _ hf hK
  · have hf := ite_f hf c_23
    refine G.iload_n dX12_least_12 rfl rfl ?_
    refine G.i2l dX12_least_13 ?_
    refine G.lconst (v := 0) dX12_least_14 (by decide) ?_
    refine G.iload_n dX12_least_15 rfl rfl ?_
    refine G.i2l dX12_least_16 ?_
    obtain ⟨v_7, hc_6, hf⟩ := bnd_at hf
    refine G.callSi (av := [.long (Int32.toInt64 x2), .long (0 : Int64), .long (Int32.toInt64 x1)]) (rest := []) dX12_least_17 msX12_49 (gX12_in E (d + 5) (Int32.toInt64 x2) (0 : Int64) (Int32.toInt64 x1) I hc_6) rfl rfl (Nat.le_of_ble_eq_true rfl) ?_
    refine G.if_ne (tgt := 30) dX12_least_20 (by decide) (fun c_22 => ?_) (fun c_22 => ?_)
    · have hf := ite_f hf c_22
      refine G.aload_n dX12_least_30 rfl rfl ?_
      refine G.iload_n dX12_least_31 rfl rfl ?_
      obtain ⟨I_9, hc_8, hf⟩ := bnd_at hf
      refine G.callVv (av := [.int x1]) (rest := []) dX12_least_32 mvX12_207 (gX12_layCosts E d x1 I hc_8) (by decide) rfl rfl rfl (Nat.le_of_ble_eq_true rfl) ?_
      refine G.aload_n dX12_least_35 rfl rfl ?_
      obtain ⟨v_11, hc_10, hf⟩ := bnd_at hf
      refine G.callVi (av := []) (rest := []) dX12_least_36 mvX12_173 (gX12_now E (d + 5) I_9 hc_10) (by decide) rfl rfl rfl (Nat.le_of_ble_eq_true rfl) ?_
      refine G.istore_n (L' := [some (.ref 74), some (.int x1), some (.int x2), some (.int v_11), none, none]) dX12_least_39 rfl (Nat.le_of_ble_eq_true rfl) (Nat.le_of_ble_eq_true rfl) rfl rfl ?_
      refine G.aload_n dX12_least_40 rfl rfl ?_
      refine G.getR (q := 82) dX12_least_41 flX12_32 (by decide) rfl rfl ?_
      refine G.iload_n dX12_least_44 rfl rfl ?_
      obtain ⟨hi_12, hf⟩ := chk_at hf
      refine G.iald' dX12_least_45 (by decide) rfl rfl hi_12 ?_
      refine G.nmi (fun x4_13 e_x4_13 => ?_)
      have hf := letb_at hf e_x4_13
      clear e_x4_13
      refine G.istore (L' := [some (.ref 74), some (.int x1), some (.int x2), some (.int v_11), some (.int x4_13), none]) dX12_least_46 (Nat.le_of_ble_eq_true rfl) (Nat.le_of_ble_eq_true rfl) rfl rfl ?_
      refine G.iload dX12_least_48 rfl ?_
      refine G.ldc (v := 268435456) dX12_least_50 kcX12_196 ?_
      refine G.nmi (fun k9_14 e_k9_14 => ?_)
      have hf := letb_at hf e_k9_14
      clear e_k9_14
      refine G.icmp_eq (tgt := 59) dX12_least_52 (by decide) (fun c_21 => ?_) (fun c_21 => ?_)
      · have hf := ite_t hf c_21
        refine G.forget (L' := [none, none, none, none, some (.int x4_13), none]) [0, 1, 2, 3] rfl ?_
        exact tX12_least_59 E d rr x4_13 I_9 _ hf hK
      · have hf := ite_f hf c_21
        refine G.iload_n dX12_least_55 rfl rfl ?_
        refine G.if_ne (tgt := 73) dX12_least_56 (by decide) (fun c_20 => ?_) (fun c_20 => ?_)
        · have hf := ite_f hf c_20
          refine G.iconst (v := 0) dX12_least_73 (by decide) ?_
          refine G.istore (L' := [some (.ref 74), some (.int x1), some (.int x2), some (.int v_11), some (.int x4_13), some (.int (0 : Int32))]) dX12_least_74 (Nat.le_of_ble_eq_true rfl) (Nat.le_of_ble_eq_true rfl) rfl rfl ?_
          refine G.forget (L' := [some (.ref 74), none, some (.int x2), some (.int v_11), none, some (.int (0 : Int32))]) [1, 4] rfl ?_
          exact lX12_least_76 E d rr x2 I_9 _ hK FU _ hf
        · have hf := ite_t hf c_20
          refine G.forget (L' := [none, none, none, none, some (.int x4_13), none]) [0, 1, 2, 3] rfl ?_
          exact tX12_least_59 E d rr x4_13 I_9 _ hf hK
    · have hf := ite_t hf c_22
      refine G.forget (L' := [some (.ref 74), none, none, none, none, none]) [1, 2] rfl ?_
      exact tX12_least_23 E d rr I _ hf hK
theorem dX12_fewest_0 : decode cX12_fewest 0 = .ok (.aload_n 0, 1) := by decide +kernel
theorem dX12_fewest_1 : decode cX12_fewest 1 = .ok (.iload_n 1, 1) := by decide +kernel
theorem dX12_fewest_2 : decode cX12_fewest 2 = .ok (.invokevirtual 170, 3) := by decide +kernel
theorem dX12_fewest_5 : decode cX12_fewest 5 = .ok (.ifCond .ne 10, 3) := by decide +kernel
theorem dX12_fewest_8 : decode cX12_fewest 8 = .ok (.aload_n 0, 1) := by decide +kernel
theorem dX12_fewest_9 : decode cX12_fewest 9 = .ok (.bipush (-2), 2) := by decide +kernel
theorem dX12_fewest_11 : decode cX12_fewest 11 = .ok (.invokevirtual 59, 3) := by decide +kernel
theorem dX12_fewest_14 : decode cX12_fewest 14 = .ok (.ireturn, 1) := by decide +kernel
theorem dX12_fewest_15 : decode cX12_fewest 15 = .ok (.iconst 0, 1) := by decide +kernel
theorem dX12_fewest_16 : decode cX12_fewest 16 = .ok (.istore_n 2, 1) := by decide +kernel
theorem dX12_fewest_17 : decode cX12_fewest 17 = .ok (.iload_n 2, 1) := by decide +kernel
theorem dX12_fewest_18 : decode cX12_fewest 18 = .ok (.sipush 8192, 3) := by decide +kernel
theorem dX12_fewest_21 : decode cX12_fewest 21 = .ok (.if_icmp .ge 16, 3) := by decide +kernel
theorem dX12_fewest_24 : decode cX12_fewest 24 = .ok (.aload_n 0, 1) := by decide +kernel
theorem dX12_fewest_25 : decode cX12_fewest 25 = .ok (.getfield 39, 3) := by decide +kernel
theorem dX12_fewest_28 : decode cX12_fewest 28 = .ok (.iload_n 2, 1) := by decide +kernel
theorem dX12_fewest_29 : decode cX12_fewest 29 = .ok (.iconst (-1), 1) := by decide +kernel
theorem dX12_fewest_30 : decode cX12_fewest 30 = .ok (.iastore, 1) := by decide +kernel
theorem dX12_fewest_31 : decode cX12_fewest 31 = .ok (.iinc 2 1, 3) := by decide +kernel
theorem dX12_fewest_34 : decode cX12_fewest 34 = .ok (.goto (-17), 3) := by decide +kernel
theorem dX12_fewest_37 : decode cX12_fewest 37 = .ok (.iconst 1, 1) := by decide +kernel
theorem dX12_fewest_38 : decode cX12_fewest 38 = .ok (.istore_n 2, 1) := by decide +kernel
theorem dX12_fewest_39 : decode cX12_fewest 39 = .ok (.aload_n 0, 1) := by decide +kernel
theorem dX12_fewest_40 : decode cX12_fewest 40 = .ok (.getfield 7, 3) := by decide +kernel
theorem dX12_fewest_43 : decode cX12_fewest 43 = .ok (.iconst 2, 1) := by decide +kernel
theorem dX12_fewest_44 : decode cX12_fewest 44 = .ok (.iaload, 1) := by decide +kernel
theorem dX12_fewest_45 : decode cX12_fewest 45 = .ok (.iconst 1, 1) := by decide +kernel
theorem dX12_fewest_46 : decode cX12_fewest 46 = .ok (.iadd, 1) := by decide +kernel
theorem dX12_fewest_47 : decode cX12_fewest 47 = .ok (.iconst 2, 1) := by decide +kernel
theorem dX12_fewest_48 : decode cX12_fewest 48 = .ok (.irem, 1) := by decide +kernel
theorem dX12_fewest_49 : decode cX12_fewest 49 = .ok (.istore_n 3, 1) := by decide +kernel
theorem dX12_fewest_50 : decode cX12_fewest 50 = .ok (.aload_n 0, 1) := by decide +kernel
theorem dX12_fewest_51 : decode cX12_fewest 51 = .ok (.getfield 42, 3) := by decide +kernel
theorem dX12_fewest_54 : decode cX12_fewest 54 = .ok (.iconst 0, 1) := by decide +kernel
theorem dX12_fewest_55 : decode cX12_fewest 55 = .ok (.iconst 2, 1) := by decide +kernel
theorem dX12_fewest_56 : decode cX12_fewest 56 = .ok (.aload_n 0, 1) := by decide +kernel
theorem dX12_fewest_57 : decode cX12_fewest 57 = .ok (.invokevirtual 173, 3) := by decide +kernel
theorem dX12_fewest_60 : decode cX12_fewest 60 = .ok (.imul, 1) := by decide +kernel
theorem dX12_fewest_61 : decode cX12_fewest 61 = .ok (.iload_n 3, 1) := by decide +kernel
theorem dX12_fewest_62 : decode cX12_fewest 62 = .ok (.iadd, 1) := by decide +kernel
theorem dX12_fewest_63 : decode cX12_fewest 63 = .ok (.iastore, 1) := by decide +kernel
theorem dX12_fewest_64 : decode cX12_fewest 64 = .ok (.aload_n 0, 1) := by decide +kernel
theorem dX12_fewest_65 : decode cX12_fewest 65 = .ok (.getfield 39, 3) := by decide +kernel
theorem dX12_fewest_68 : decode cX12_fewest 68 = .ok (.aload_n 0, 1) := by decide +kernel
theorem dX12_fewest_69 : decode cX12_fewest 69 = .ok (.getfield 42, 3) := by decide +kernel
theorem dX12_fewest_72 : decode cX12_fewest 72 = .ok (.iconst 0, 1) := by decide +kernel
theorem dX12_fewest_73 : decode cX12_fewest 73 = .ok (.iaload, 1) := by decide +kernel
theorem dX12_fewest_74 : decode cX12_fewest 74 = .ok (.iconst 0, 1) := by decide +kernel
theorem dX12_fewest_75 : decode cX12_fewest 75 = .ok (.iastore, 1) := by decide +kernel
theorem dX12_fewest_76 : decode cX12_fewest 76 = .ok (.iconst 0, 1) := by decide +kernel
theorem dX12_fewest_77 : decode cX12_fewest 77 = .ok (.istore 4, 2) := by decide +kernel
theorem dX12_fewest_79 : decode cX12_fewest 79 = .ok (.iload 4, 2) := by decide +kernel
theorem dX12_fewest_81 : decode cX12_fewest 81 = .ok (.iload_n 2, 1) := by decide +kernel
theorem dX12_fewest_82 : decode cX12_fewest 82 = .ok (.if_icmp .ge 191, 3) := by decide +kernel
theorem dX12_fewest_85 : decode cX12_fewest 85 = .ok (.aload_n 0, 1) := by decide +kernel
theorem dX12_fewest_86 : decode cX12_fewest 86 = .ok (.getfield 42, 3) := by decide +kernel
theorem dX12_fewest_89 : decode cX12_fewest 89 = .ok (.iload 4, 2) := by decide +kernel
theorem dX12_fewest_91 : decode cX12_fewest 91 = .ok (.iaload, 1) := by decide +kernel
theorem dX12_fewest_92 : decode cX12_fewest 92 = .ok (.iconst 2, 1) := by decide +kernel
theorem dX12_fewest_93 : decode cX12_fewest 93 = .ok (.idiv, 1) := by decide +kernel
theorem dX12_fewest_94 : decode cX12_fewest 94 = .ok (.istore 5, 2) := by decide +kernel
theorem dX12_fewest_96 : decode cX12_fewest 96 = .ok (.iconst 2, 1) := by decide +kernel
theorem dX12_fewest_97 : decode cX12_fewest 97 = .ok (.aload_n 0, 1) := by decide +kernel
theorem dX12_fewest_98 : decode cX12_fewest 98 = .ok (.getfield 42, 3) := by decide +kernel
theorem dX12_fewest_101 : decode cX12_fewest 101 = .ok (.iload 4, 2) := by decide +kernel
theorem dX12_fewest_103 : decode cX12_fewest 103 = .ok (.iaload, 1) := by decide +kernel
theorem dX12_fewest_104 : decode cX12_fewest 104 = .ok (.iconst 2, 1) := by decide +kernel
theorem dX12_fewest_105 : decode cX12_fewest 105 = .ok (.irem, 1) := by decide +kernel
theorem dX12_fewest_106 : decode cX12_fewest 106 = .ok (.isub, 1) := by decide +kernel
theorem dX12_fewest_107 : decode cX12_fewest 107 = .ok (.istore 6, 2) := by decide +kernel
theorem dX12_fewest_109 : decode cX12_fewest 109 = .ok (.iload 5, 2) := by decide +kernel
theorem dX12_fewest_111 : decode cX12_fewest 111 = .ok (.iload_n 1, 1) := by decide +kernel
theorem dX12_fewest_112 : decode cX12_fewest 112 = .ok (.if_icmp .ne 38, 3) := by decide +kernel
theorem dX12_fewest_115 : decode cX12_fewest 115 = .ok (.aload_n 0, 1) := by decide +kernel
theorem dX12_fewest_116 : decode cX12_fewest 116 = .ok (.getfield 39, 3) := by decide +kernel
theorem dX12_fewest_119 : decode cX12_fewest 119 = .ok (.aload_n 0, 1) := by decide +kernel
theorem dX12_fewest_120 : decode cX12_fewest 120 = .ok (.getfield 42, 3) := by decide +kernel
theorem dX12_fewest_123 : decode cX12_fewest 123 = .ok (.iload 4, 2) := by decide +kernel
theorem dX12_fewest_125 : decode cX12_fewest 125 = .ok (.iaload, 1) := by decide +kernel
theorem dX12_fewest_126 : decode cX12_fewest 126 = .ok (.iaload, 1) := by decide +kernel
theorem dX12_fewest_127 : decode cX12_fewest 127 = .ok (.sipush 999, 3) := by decide +kernel
theorem dX12_fewest_130 : decode cX12_fewest 130 = .ok (.if_icmp .le 7, 3) := by decide +kernel
theorem dX12_fewest_133 : decode cX12_fewest 133 = .ok (.iconst (-1), 1) := by decide +kernel
theorem dX12_fewest_134 : decode cX12_fewest 134 = .ok (.goto 15, 3) := by decide +kernel
theorem dX12_fewest_137 : decode cX12_fewest 137 = .ok (.aload_n 0, 1) := by decide +kernel
theorem dX12_fewest_138 : decode cX12_fewest 138 = .ok (.getfield 39, 3) := by decide +kernel
theorem dX12_fewest_141 : decode cX12_fewest 141 = .ok (.aload_n 0, 1) := by decide +kernel
theorem dX12_fewest_142 : decode cX12_fewest 142 = .ok (.getfield 42, 3) := by decide +kernel
theorem dX12_fewest_145 : decode cX12_fewest 145 = .ok (.iload 4, 2) := by decide +kernel
theorem dX12_fewest_147 : decode cX12_fewest 147 = .ok (.iaload, 1) := by decide +kernel
theorem dX12_fewest_148 : decode cX12_fewest 148 = .ok (.iaload, 1) := by decide +kernel
theorem dX12_fewest_149 : decode cX12_fewest 149 = .ok (.ireturn, 1) := by decide +kernel
theorem dX12_fewest_150 : decode cX12_fewest 150 = .ok (.iconst 0, 1) := by decide +kernel
theorem dX12_fewest_151 : decode cX12_fewest 151 = .ok (.istore 7, 2) := by decide +kernel
theorem dX12_fewest_153 : decode cX12_fewest 153 = .ok (.iload 7, 2) := by decide +kernel
theorem dX12_fewest_155 : decode cX12_fewest 155 = .ok (.aload_n 0, 1) := by decide +kernel
theorem dX12_fewest_156 : decode cX12_fewest 156 = .ok (.invokevirtual 197, 3) := by decide +kernel
theorem dX12_fewest_159 : decode cX12_fewest 159 = .ok (.if_icmp .ge 108, 3) := by decide +kernel
theorem dX12_fewest_162 : decode cX12_fewest 162 = .ok (.aload_n 0, 1) := by decide +kernel
theorem dX12_fewest_163 : decode cX12_fewest 163 = .ok (.iload 7, 2) := by decide +kernel
theorem dX12_fewest_165 : decode cX12_fewest 165 = .ok (.invokevirtual 200, 3) := by decide +kernel
theorem dX12_fewest_168 : decode cX12_fewest 168 = .ok (.istore 8, 2) := by decide +kernel
theorem dX12_fewest_170 : decode cX12_fewest 170 = .ok (.iconst 2, 1) := by decide +kernel
theorem dX12_fewest_171 : decode cX12_fewest 171 = .ok (.iload 8, 2) := by decide +kernel
theorem dX12_fewest_173 : decode cX12_fewest 173 = .ok (.imul, 1) := by decide +kernel
theorem dX12_fewest_174 : decode cX12_fewest 174 = .ok (.iconst 1, 1) := by decide +kernel
theorem dX12_fewest_175 : decode cX12_fewest 175 = .ok (.iadd, 1) := by decide +kernel
theorem dX12_fewest_176 : decode cX12_fewest 176 = .ok (.aload_n 0, 1) := by decide +kernel
theorem dX12_fewest_177 : decode cX12_fewest 177 = .ok (.getfield 42, 3) := by decide +kernel
theorem dX12_fewest_180 : decode cX12_fewest 180 = .ok (.iload 4, 2) := by decide +kernel
theorem dX12_fewest_182 : decode cX12_fewest 182 = .ok (.iaload, 1) := by decide +kernel
theorem dX12_fewest_183 : decode cX12_fewest 183 = .ok (.iconst 2, 1) := by decide +kernel
theorem dX12_fewest_184 : decode cX12_fewest 184 = .ok (.irem, 1) := by decide +kernel
theorem dX12_fewest_185 : decode cX12_fewest 185 = .ok (.isub, 1) := by decide +kernel
theorem dX12_fewest_186 : decode cX12_fewest 186 = .ok (.istore 9, 2) := by decide +kernel
theorem dX12_fewest_188 : decode cX12_fewest 188 = .ok (.aload_n 0, 1) := by decide +kernel
theorem dX12_fewest_189 : decode cX12_fewest 189 = .ok (.getfield 39, 3) := by decide +kernel
theorem dX12_fewest_192 : decode cX12_fewest 192 = .ok (.iload 9, 2) := by decide +kernel
theorem dX12_fewest_194 : decode cX12_fewest 194 = .ok (.iaload, 1) := by decide +kernel
theorem dX12_fewest_195 : decode cX12_fewest 195 = .ok (.iconst (-1), 1) := by decide +kernel
theorem dX12_fewest_196 : decode cX12_fewest 196 = .ok (.if_icmp .ne 65, 3) := by decide +kernel
theorem dX12_fewest_199 : decode cX12_fewest 199 = .ok (.aload_n 0, 1) := by decide +kernel
theorem dX12_fewest_200 : decode cX12_fewest 200 = .ok (.iload 5, 2) := by decide +kernel
theorem dX12_fewest_202 : decode cX12_fewest 202 = .ok (.iload 8, 2) := by decide +kernel
theorem dX12_fewest_204 : decode cX12_fewest 204 = .ok (.invokevirtual 176, 3) := by decide +kernel
theorem dX12_fewest_207 : decode cX12_fewest 207 = .ok (.ifCond .eq 54, 3) := by decide +kernel
theorem dX12_fewest_210 : decode cX12_fewest 210 = .ok (.aload_n 0, 1) := by decide +kernel
theorem dX12_fewest_211 : decode cX12_fewest 211 = .ok (.aload_n 0, 1) := by decide +kernel
theorem dX12_fewest_212 : decode cX12_fewest 212 = .ok (.getfield 7, 3) := by decide +kernel
theorem dX12_fewest_215 : decode cX12_fewest 215 = .ok (.iconst 1, 1) := by decide +kernel
theorem dX12_fewest_216 : decode cX12_fewest 216 = .ok (.iaload, 1) := by decide +kernel
theorem dX12_fewest_217 : decode cX12_fewest 217 = .ok (.iload 6, 2) := by decide +kernel
theorem dX12_fewest_219 : decode cX12_fewest 219 = .ok (.iload 5, 2) := by decide +kernel
theorem dX12_fewest_221 : decode cX12_fewest 221 = .ok (.iload 8, 2) := by decide +kernel
theorem dX12_fewest_223 : decode cX12_fewest 223 = .ok (.invokevirtual 189, 3) := by decide +kernel
theorem dX12_fewest_226 : decode cX12_fewest 226 = .ok (.ifCond .ne 35, 3) := by decide +kernel
theorem dX12_fewest_229 : decode cX12_fewest 229 = .ok (.aload_n 0, 1) := by decide +kernel
theorem dX12_fewest_230 : decode cX12_fewest 230 = .ok (.getfield 39, 3) := by decide +kernel
theorem dX12_fewest_233 : decode cX12_fewest 233 = .ok (.iload 9, 2) := by decide +kernel
theorem dX12_fewest_235 : decode cX12_fewest 235 = .ok (.aload_n 0, 1) := by decide +kernel
theorem dX12_fewest_236 : decode cX12_fewest 236 = .ok (.getfield 39, 3) := by decide +kernel
theorem dX12_fewest_239 : decode cX12_fewest 239 = .ok (.aload_n 0, 1) := by decide +kernel
theorem dX12_fewest_240 : decode cX12_fewest 240 = .ok (.getfield 42, 3) := by decide +kernel
theorem dX12_fewest_243 : decode cX12_fewest 243 = .ok (.iload 4, 2) := by decide +kernel
theorem dX12_fewest_245 : decode cX12_fewest 245 = .ok (.iaload, 1) := by decide +kernel
theorem dX12_fewest_246 : decode cX12_fewest 246 = .ok (.iaload, 1) := by decide +kernel
theorem dX12_fewest_247 : decode cX12_fewest 247 = .ok (.iconst 1, 1) := by decide +kernel
theorem dX12_fewest_248 : decode cX12_fewest 248 = .ok (.iadd, 1) := by decide +kernel
theorem dX12_fewest_249 : decode cX12_fewest 249 = .ok (.iastore, 1) := by decide +kernel
theorem dX12_fewest_250 : decode cX12_fewest 250 = .ok (.aload_n 0, 1) := by decide +kernel
theorem dX12_fewest_251 : decode cX12_fewest 251 = .ok (.getfield 42, 3) := by decide +kernel
theorem dX12_fewest_254 : decode cX12_fewest 254 = .ok (.iload_n 2, 1) := by decide +kernel
theorem dX12_fewest_255 : decode cX12_fewest 255 = .ok (.iload 9, 2) := by decide +kernel
theorem dX12_fewest_257 : decode cX12_fewest 257 = .ok (.iastore, 1) := by decide +kernel
theorem dX12_fewest_258 : decode cX12_fewest 258 = .ok (.iinc 2 1, 3) := by decide +kernel
theorem dX12_fewest_261 : decode cX12_fewest 261 = .ok (.iinc 7 1, 3) := by decide +kernel
theorem dX12_fewest_264 : decode cX12_fewest 264 = .ok (.goto (-111), 3) := by decide +kernel
theorem dX12_fewest_267 : decode cX12_fewest 267 = .ok (.iinc 4 1, 3) := by decide +kernel
theorem dX12_fewest_270 : decode cX12_fewest 270 = .ok (.goto (-191), 3) := by decide +kernel
theorem dX12_fewest_273 : decode cX12_fewest 273 = .ok (.iconst (-1), 1) := by decide +kernel
theorem dX12_fewest_274 : decode cX12_fewest 274 = .ok (.ireturn, 1) := by decide +kernel
def KX12_fewest_17 (E : EV) (d : Nat) (rr : Option Value × Mem) (x1 : Int32) (Kp : (Int32 × Mem) → Prop) : ((Int32 × Mem) ⊕ (Int32 × Mem)) → Prop
  | .inl q => G E (d + 4) kX12_fewest 17 [some (.ref 74), some (.int x1), some (.int q.1), none, none, none, none, none, none, none] [] q.2 rr
  | .inr z => Kp z
def KX12_fewest_79 (E : EV) (d : Nat) (rr : Option Value × Mem) (x1 : Int32) (Kp : (Int32 × Mem) → Prop) : ((Int32 × Int32 × Mem) ⊕ (Int32 × Mem)) → Prop
  | .inl q => G E (d + 4) kX12_fewest 79 [some (.ref 74), some (.int x1), some (.int q.1), none, some (.int q.2.1), none, none, none, none, none] [] q.2.2 rr
  | .inr z => Kp z
def KX12_fewest_153 (E : EV) (d : Nat) (rr : Option Value × Mem) (x1 : Int32) (x4 : Int32) (x5 : Int32) (x6 : Int32) (Kp : ((Int32 × Int32 × Mem) ⊕ (Int32 × Mem)) → Prop) : ((Int32 × Int32 × Mem) ⊕ ((Int32 × Int32 × Mem) ⊕ (Int32 × Mem))) → Prop
  | .inl q => G E (d + 4) kX12_fewest 153 [some (.ref 74), some (.int x1), some (.int q.1), none, some (.int x4), some (.int x5), some (.int x6), some (.int q.2.1), none, none] [] q.2.2 rr
  | .inr z => Kp z
def bX12_fewest_153 (x1 : Int32) (x4 : Int32) (x5 : Int32) (x6 : Int32) (x2 : Int32) (x7 : Int32) (I : Mem) : Option ((Int32 × Int32 × Mem) ⊕ ((Int32 × Int32 × Mem) ⊕ (Int32 × Mem))) :=
  bnd (fX12_standings I) fun v_17 =>
  if v_17 ≤ x7 then
  (some (.inr (.inl (x2, (x4 + (1 : Int32)), I))))
  else
  (bnd (fX12_standingOf x7 I) fun v_19 =>
  chk (inb x4 8192) <|
  letb ((((2 : Int32) * v_19) + (1 : Int32)) - ((I 84 (ix x4)) - (I 84 (ix x4)) / (2 : Int32) * (2 : Int32))) fun x9_21 =>
  chk (inb x9_21 8192) <|
  if (I 83 (ix x9_21)) = (-1 : Int32) then
  (bnd (fX12_mayGo x5 v_19 I) fun v_24 =>
  if v_24 = 0 then
  (some (.inl (x2, (x7 + (1 : Int32)), I)))
  else
  (chk (inb (1 : Int32) 632) <|
  bnd (fX12_laid (I 75 (ix (1 : Int32))) x6 x5 v_19 I) fun v_27 =>
  if v_27 = 0 then
  (chk (inb x4 8192) <|
  chk (inb (I 84 (ix x4)) 8192) <|
  chk (inb x9_21 8192) <|
  letb (up2 I 83 (ix x9_21) ((I 83 (ix (I 84 (ix x4)))) + (1 : Int32))) fun I_31 =>
  chk (inb x2 8192) <|
  letb (up2 I_31 84 (ix x2) x9_21) fun I_33 =>
  some (.inl ((x2 + (1 : Int32)), (x7 + (1 : Int32)), I_33)))
  else
  (some (.inl (x2, (x7 + (1 : Int32)), I)))))
  else
  (some (.inl (x2, (x7 + (1 : Int32)), I))))
def sX12_fewest_153 (x1 : Int32) (x4 : Int32) (x5 : Int32) (x6 : Int32) (q : (Int32 × Int32 × Mem)) : Option ((Int32 × Int32 × Mem) ⊕ ((Int32 × Int32 × Mem) ⊕ (Int32 × Mem))) := bX12_fewest_153 x1 x4 x5 x6 q.1 q.2.1 q.2.2
set_option maxRecDepth 20000 in
theorem wX12_fewest_153 (E : EV) (d : Nat) (rr : Option Value × Mem) (x1 : Int32) (x4 : Int32) (x5 : Int32) (x6 : Int32) (x2 : Int32) (x7 : Int32) (I : Mem) (y : ((Int32 × Int32 × Mem) ⊕ ((Int32 × Int32 × Mem) ⊕ (Int32 × Mem)))) (hf : bX12_fewest_153 x1 x4 x5 x6 x2 x7 I = some y) (hK : (KX12_fewest_153 E d rr x1 x4 x5 x6 (KX12_fewest_79 E d rr x1 (fun (z : Int32 × Mem) => (some (.int z.1), z.2) = rr))) y) : G E (d + 4) kX12_fewest 153 [some (.ref 74), some (.int x1), some (.int x2), none, some (.int x4), some (.int x5), some (.int x6), some (.int x7), none, none] [] I rr := by
  unfold bX12_fewest_153 at hf
  refine G.iload dX12_fewest_153 rfl ?_
  refine G.aload_n dX12_fewest_155 rfl rfl ?_
  obtain ⟨v_17, hc_16, hf⟩ := bnd_at hf
  refine G.callVi (av := []) (rest := [.int x7]) dX12_fewest_156 mvX12_197 (gX12_standings E (d + 3) I hc_16) (by decide) rfl rfl rfl (Nat.le_of_ble_eq_true rfl) ?_
  refine G.icmp_ge (tgt := 267) dX12_fewest_159 (by decide) (fun c_37 => ?_) (fun c_37 => ?_)
  · have hf := ite_t hf c_37
    refine G.inc (w := 1) (L' := [some (.ref 74), some (.int x1), some (.int x2), none, some (.int (x4 + (1 : Int32))), some (.int x5), some (.int x6), some (.int x7), none, none]) dX12_fewest_267 (by decide) rfl (Nat.le_of_ble_eq_true rfl) rfl rfl ?_
    refine G.goto (tgt := 79) dX12_fewest_270 (by decide) ?_
    have hf := Option.some.inj hf
    subst hf
    refine G.forget (L' := [some (.ref 74), some (.int x1), some (.int x2), none, some (.int (x4 + (1 : Int32))), none, none, none, none, none]) [5, 6, 7] rfl ?_
    exact hK
  · have hf := ite_f hf c_37
    refine G.aload_n dX12_fewest_162 rfl rfl ?_
    refine G.iload dX12_fewest_163 rfl ?_
    obtain ⟨v_19, hc_18, hf⟩ := bnd_at hf
    refine G.callVi (av := [.int x7]) (rest := []) dX12_fewest_165 mvX12_200 (gX12_standingOf E (d + 3) x7 I hc_18) (by decide) rfl rfl rfl (Nat.le_of_ble_eq_true rfl) ?_
    refine G.istore (L' := [some (.ref 74), some (.int x1), some (.int x2), none, some (.int x4), some (.int x5), some (.int x6), some (.int x7), some (.int v_19), none]) dX12_fewest_168 (Nat.le_of_ble_eq_true rfl) (Nat.le_of_ble_eq_true rfl) rfl rfl ?_
    refine G.iconst (v := 2) dX12_fewest_170 (by decide) ?_
    refine G.iload dX12_fewest_171 rfl ?_
    refine G.imul dX12_fewest_173 ?_
    refine G.iconst (v := 1) dX12_fewest_174 (by decide) ?_
    refine G.iadd dX12_fewest_175 ?_
    refine G.aload_n dX12_fewest_176 rfl rfl ?_
    refine G.getR (q := 84) dX12_fewest_177 flX12_42 (by decide) rfl rfl ?_
    refine G.iload dX12_fewest_180 rfl ?_
    obtain ⟨hi_20, hf⟩ := chk_at hf
    refine G.iald' dX12_fewest_182 (by decide) rfl rfl hi_20 ?_
    refine G.iconst (v := 2) dX12_fewest_183 (by decide) ?_
    refine G.irem dX12_fewest_184 (by decide) ?_
    refine G.isub dX12_fewest_185 ?_
    refine G.nmi (fun x9_21 e_x9_21 => ?_)
    have hf := letb_at hf e_x9_21
    clear e_x9_21
    refine G.istore (L' := [some (.ref 74), some (.int x1), some (.int x2), none, some (.int x4), some (.int x5), some (.int x6), some (.int x7), some (.int v_19), some (.int x9_21)]) dX12_fewest_186 (Nat.le_of_ble_eq_true rfl) (Nat.le_of_ble_eq_true rfl) rfl rfl ?_
    refine G.aload_n dX12_fewest_188 rfl rfl ?_
    refine G.getR (q := 83) dX12_fewest_189 flX12_39 (by decide) rfl rfl ?_
    refine G.iload dX12_fewest_192 rfl ?_
    obtain ⟨hi_22, hf⟩ := chk_at hf
    refine G.iald' dX12_fewest_194 (by decide) rfl rfl hi_22 ?_
    refine G.iconst (v := -1) dX12_fewest_195 (by decide) ?_
    refine G.icmp_ne (tgt := 261) dX12_fewest_196 (by decide) (fun c_36 => ?_) (fun c_36 => ?_)
    · have hf := ite_f hf c_36
      refine G.inc (w := 1) (L' := [some (.ref 74), some (.int x1), some (.int x2), none, some (.int x4), some (.int x5), some (.int x6), some (.int (x7 + (1 : Int32))), some (.int v_19), some (.int x9_21)]) dX12_fewest_261 (by decide) rfl (Nat.le_of_ble_eq_true rfl) rfl rfl ?_
      refine G.goto (tgt := 153) dX12_fewest_264 (by decide) ?_
      have hf := Option.some.inj hf
      subst hf
      refine G.forget (L' := [some (.ref 74), some (.int x1), some (.int x2), none, some (.int x4), some (.int x5), some (.int x6), some (.int (x7 + (1 : Int32))), none, none]) [8, 9] rfl ?_
      exact hK
    · have hf := ite_t hf c_36
      refine G.aload_n dX12_fewest_199 rfl rfl ?_
      refine G.iload dX12_fewest_200 rfl ?_
      refine G.iload dX12_fewest_202 rfl ?_
      obtain ⟨v_24, hc_23, hf⟩ := bnd_at hf
      refine G.callVi (av := [.int x5, .int v_19]) (rest := []) dX12_fewest_204 mvX12_176 (gX12_mayGo E (d + 2) x5 v_19 I hc_23) (by decide) rfl rfl rfl (Nat.le_of_ble_eq_true rfl) ?_
      refine G.if_eq (tgt := 261) dX12_fewest_207 (by decide) (fun c_35 => ?_) (fun c_35 => ?_)
      · have hf := ite_t hf c_35
        refine G.inc (w := 1) (L' := [some (.ref 74), some (.int x1), some (.int x2), none, some (.int x4), some (.int x5), some (.int x6), some (.int (x7 + (1 : Int32))), some (.int v_19), some (.int x9_21)]) dX12_fewest_261 (by decide) rfl (Nat.le_of_ble_eq_true rfl) rfl rfl ?_
        refine G.goto (tgt := 153) dX12_fewest_264 (by decide) ?_
        have hf := Option.some.inj hf
        subst hf
        refine G.forget (L' := [some (.ref 74), some (.int x1), some (.int x2), none, some (.int x4), some (.int x5), some (.int x6), some (.int (x7 + (1 : Int32))), none, none]) [8, 9] rfl ?_
        exact hK
      · have hf := ite_f hf c_35
        refine G.aload_n dX12_fewest_210 rfl rfl ?_
        refine G.aload_n dX12_fewest_211 rfl rfl ?_
        refine G.getR (q := 75) dX12_fewest_212 flX12_7 (by decide) rfl rfl ?_
        refine G.iconst (v := 1) dX12_fewest_215 (by decide) ?_
        obtain ⟨hi_25, hf⟩ := chk_at hf
        refine G.iald' dX12_fewest_216 (by decide) rfl rfl hi_25 ?_
        refine G.iload dX12_fewest_217 rfl ?_
        refine G.iload dX12_fewest_219 rfl ?_
        refine G.iload dX12_fewest_221 rfl ?_
        obtain ⟨v_27, hc_26, hf⟩ := bnd_at hf
        refine G.callVi (av := [.int (I 75 (ix (1 : Int32))), .int x6, .int x5, .int v_19]) (rest := []) dX12_fewest_223 mvX12_189 (gX12_laid E d (I 75 (ix (1 : Int32))) x6 x5 v_19 I hc_26) (by decide) rfl rfl rfl (Nat.le_of_ble_eq_true rfl) ?_
        refine G.if_ne (tgt := 261) dX12_fewest_226 (by decide) (fun c_34 => ?_) (fun c_34 => ?_)
        · have hf := ite_f hf c_34
          refine G.inc (w := 1) (L' := [some (.ref 74), some (.int x1), some (.int x2), none, some (.int x4), some (.int x5), some (.int x6), some (.int (x7 + (1 : Int32))), some (.int v_19), some (.int x9_21)]) dX12_fewest_261 (by decide) rfl (Nat.le_of_ble_eq_true rfl) rfl rfl ?_
          refine G.goto (tgt := 153) dX12_fewest_264 (by decide) ?_
          have hf := Option.some.inj hf
          subst hf
          refine G.forget (L' := [some (.ref 74), some (.int x1), some (.int x2), none, some (.int x4), some (.int x5), some (.int x6), some (.int (x7 + (1 : Int32))), none, none]) [8, 9] rfl ?_
          exact hK
        · have hf := ite_t hf c_34
          refine G.aload_n dX12_fewest_229 rfl rfl ?_
          refine G.getR (q := 83) dX12_fewest_230 flX12_39 (by decide) rfl rfl ?_
          refine G.iload dX12_fewest_233 rfl ?_
          refine G.aload_n dX12_fewest_235 rfl rfl ?_
          refine G.getR (q := 83) dX12_fewest_236 flX12_39 (by decide) rfl rfl ?_
          refine G.aload_n dX12_fewest_239 rfl rfl ?_
          refine G.getR (q := 84) dX12_fewest_240 flX12_42 (by decide) rfl rfl ?_
          refine G.iload dX12_fewest_243 rfl ?_
          obtain ⟨hi_28, hf⟩ := chk_at hf
          refine G.iald' dX12_fewest_245 (by decide) rfl rfl hi_28 ?_
          obtain ⟨hi_29, hf⟩ := chk_at hf
          refine G.iald' dX12_fewest_246 (by decide) rfl rfl hi_29 ?_
          refine G.iconst (v := 1) dX12_fewest_247 (by decide) ?_
          refine G.iadd dX12_fewest_248 ?_
          obtain ⟨hi_30, hf⟩ := chk_at hf
          refine G.iast' dX12_fewest_249 (by decide) rfl rfl hi_30 ?_
          refine G.nmI (fun I_31 e_I_31 => ?_)
          have hf := letb_at hf e_I_31
          clear e_I_31
          refine G.aload_n dX12_fewest_250 rfl rfl ?_
          refine G.getR (q := 84) dX12_fewest_251 flX12_42 (by decide) rfl rfl ?_
          refine G.iload_n dX12_fewest_254 rfl rfl ?_
          refine G.iload dX12_fewest_255 rfl ?_
          obtain ⟨hi_32, hf⟩ := chk_at hf
          refine G.iast' dX12_fewest_257 (by decide) rfl rfl hi_32 ?_
          refine G.nmI (fun I_33 e_I_33 => ?_)
          have hf := letb_at hf e_I_33
          clear e_I_33
          refine G.inc (w := 1) (L' := [some (.ref 74), some (.int x1), some (.int (x2 + (1 : Int32))), none, some (.int x4), some (.int x5), some (.int x6), some (.int x7), some (.int v_19), some (.int x9_21)]) dX12_fewest_258 (by decide) rfl (Nat.le_of_ble_eq_true rfl) rfl rfl ?_
          refine G.inc (w := 1) (L' := [some (.ref 74), some (.int x1), some (.int (x2 + (1 : Int32))), none, some (.int x4), some (.int x5), some (.int x6), some (.int (x7 + (1 : Int32))), some (.int v_19), some (.int x9_21)]) dX12_fewest_261 (by decide) rfl (Nat.le_of_ble_eq_true rfl) rfl rfl ?_
          refine G.goto (tgt := 153) dX12_fewest_264 (by decide) ?_
          have hf := Option.some.inj hf
          subst hf
          refine G.forget (L' := [some (.ref 74), some (.int x1), some (.int (x2 + (1 : Int32))), none, some (.int x4), some (.int x5), some (.int x6), some (.int (x7 + (1 : Int32))), none, none]) [8, 9] rfl ?_
          exact hK
theorem lX12_fewest_153 (E : EV) (d : Nat) (rr : Option Value × Mem) (x1 : Int32) (x4 : Int32) (x5 : Int32) (x6 : Int32) (z : ((Int32 × Int32 × Mem) ⊕ (Int32 × Mem))) (hK : (KX12_fewest_79 E d rr x1 (fun (z : Int32 × Mem) => (some (.int z.1), z.2) = rr)) z) : ∀ (n : Nat) (q : (Int32 × Int32 × Mem)), iter (sX12_fewest_153 x1 x4 x5 x6) n q = some z → G E (d + 4) kX12_fewest 153 [some (.ref 74), some (.int x1), some (.int q.1), none, some (.int x4), some (.int x5), some (.int x6), some (.int q.2.1), none, none] [] q.2.2 rr := by
  intro n
  induction n with
  | zero => intro q h; cases h
  | succ n ih =>
    intro q h
    rcases iter_at h with ⟨q2, hs, h2⟩ | hs
    · exact wX12_fewest_153 E d rr x1 x4 x5 x6 q.1 q.2.1 q.2.2 _ hs (ih q2 h2)
    · exact wX12_fewest_153 E d rr x1 x4 x5 x6 q.1 q.2.1 q.2.2 _ hs hK
def bX12_fewest_79 (x1 : Int32) (x2 : Int32) (x4 : Int32) (I : Mem) : Option ((Int32 × Int32 × Mem) ⊕ (Int32 × Mem)) :=
  if x2 ≤ x4 then
  (some (.inr ((-1 : Int32), I)))
  else
  (chk (inb x4 8192) <|
  letb ((I 84 (ix x4)) / (2 : Int32)) fun x5_13 =>
  chk (inb x4 8192) <|
  letb ((2 : Int32) - ((I 84 (ix x4)) - (I 84 (ix x4)) / (2 : Int32) * (2 : Int32))) fun x6_15 =>
  if x5_13 = x1 then
  (chk (inb x4 8192) <|
  chk (inb (I 84 (ix x4)) 8192) <|
  if (I 83 (ix (I 84 (ix x4)))) ≤ (999 : Int32) then
  (chk (inb x4 8192) <|
  chk (inb (I 84 (ix x4)) 8192) <|
  some (.inr ((I 83 (ix (I 84 (ix x4)))), I)))
  else
  (some (.inr ((-1 : Int32), I))))
  else
  (iter (sX12_fewest_153 x1 x4 x5_13 x6_15) FU (x2, (0 : Int32), I)))
def sX12_fewest_79 (x1 : Int32) (q : (Int32 × Int32 × Mem)) : Option ((Int32 × Int32 × Mem) ⊕ (Int32 × Mem)) := bX12_fewest_79 x1 q.1 q.2.1 q.2.2
set_option maxRecDepth 20000 in
theorem wX12_fewest_79 (E : EV) (d : Nat) (rr : Option Value × Mem) (x1 : Int32) (x2 : Int32) (x4 : Int32) (I : Mem) (y : ((Int32 × Int32 × Mem) ⊕ (Int32 × Mem))) (hf : bX12_fewest_79 x1 x2 x4 I = some y) (hK : (KX12_fewest_79 E d rr x1 (fun (z : Int32 × Mem) => (some (.int z.1), z.2) = rr)) y) : G E (d + 4) kX12_fewest 79 [some (.ref 74), some (.int x1), some (.int x2), none, some (.int x4), none, none, none, none, none] [] I rr := by
  unfold bX12_fewest_79 at hf
  refine G.iload dX12_fewest_79 rfl ?_
  refine G.iload_n dX12_fewest_81 rfl rfl ?_
  refine G.icmp_ge (tgt := 273) dX12_fewest_82 (by decide) (fun c_44 => ?_) (fun c_44 => ?_)
  · have hf := ite_t hf c_44
    refine G.iconst (v := -1) dX12_fewest_273 (by decide) ?_
    have hf := Option.some.inj hf
    subst hf
    exact G.iret' dX12_fewest_274 rfl hK
  · have hf := ite_f hf c_44
    refine G.aload_n dX12_fewest_85 rfl rfl ?_
    refine G.getR (q := 84) dX12_fewest_86 flX12_42 (by decide) rfl rfl ?_
    refine G.iload dX12_fewest_89 rfl ?_
    obtain ⟨hi_12, hf⟩ := chk_at hf
    refine G.iald' dX12_fewest_91 (by decide) rfl rfl hi_12 ?_
    refine G.iconst (v := 2) dX12_fewest_92 (by decide) ?_
    refine G.idiv dX12_fewest_93 (by decide) ?_
    refine G.nmi (fun x5_13 e_x5_13 => ?_)
    have hf := letb_at hf e_x5_13
    clear e_x5_13
    refine G.istore (L' := [some (.ref 74), some (.int x1), some (.int x2), none, some (.int x4), some (.int x5_13), none, none, none, none]) dX12_fewest_94 (Nat.le_of_ble_eq_true rfl) (Nat.le_of_ble_eq_true rfl) rfl rfl ?_
    refine G.iconst (v := 2) dX12_fewest_96 (by decide) ?_
    refine G.aload_n dX12_fewest_97 rfl rfl ?_
    refine G.getR (q := 84) dX12_fewest_98 flX12_42 (by decide) rfl rfl ?_
    refine G.iload dX12_fewest_101 rfl ?_
    obtain ⟨hi_14, hf⟩ := chk_at hf
    refine G.iald' dX12_fewest_103 (by decide) rfl rfl hi_14 ?_
    refine G.iconst (v := 2) dX12_fewest_104 (by decide) ?_
    refine G.irem dX12_fewest_105 (by decide) ?_
    refine G.isub dX12_fewest_106 ?_
    refine G.nmi (fun x6_15 e_x6_15 => ?_)
    have hf := letb_at hf e_x6_15
    clear e_x6_15
    refine G.istore (L' := [some (.ref 74), some (.int x1), some (.int x2), none, some (.int x4), some (.int x5_13), some (.int x6_15), none, none, none]) dX12_fewest_107 (Nat.le_of_ble_eq_true rfl) (Nat.le_of_ble_eq_true rfl) rfl rfl ?_
    refine G.iload dX12_fewest_109 rfl ?_
    refine G.iload_n dX12_fewest_111 rfl rfl ?_
    refine G.icmp_ne (tgt := 150) dX12_fewest_112 (by decide) (fun c_43 => ?_) (fun c_43 => ?_)
    · have hf := ite_f hf c_43
      refine G.iconst (v := 0) dX12_fewest_150 (by decide) ?_
      refine G.istore (L' := [some (.ref 74), some (.int x1), some (.int x2), none, some (.int x4), some (.int x5_13), some (.int x6_15), some (.int (0 : Int32)), none, none]) dX12_fewest_151 (Nat.le_of_ble_eq_true rfl) (Nat.le_of_ble_eq_true rfl) rfl rfl ?_
      exact lX12_fewest_153 E d rr x1 x4 x5_13 x6_15 _ hK FU _ hf
    · have hf := ite_t hf c_43
      refine G.aload_n dX12_fewest_115 rfl rfl ?_
      refine G.getR (q := 83) dX12_fewest_116 flX12_39 (by decide) rfl rfl ?_
      refine G.aload_n dX12_fewest_119 rfl rfl ?_
      refine G.getR (q := 84) dX12_fewest_120 flX12_42 (by decide) rfl rfl ?_
      refine G.iload dX12_fewest_123 rfl ?_
      obtain ⟨hi_38, hf⟩ := chk_at hf
      refine G.iald' dX12_fewest_125 (by decide) rfl rfl hi_38 ?_
      obtain ⟨hi_39, hf⟩ := chk_at hf
      refine G.iald' dX12_fewest_126 (by decide) rfl rfl hi_39 ?_
      refine G.sipush (v := 999) dX12_fewest_127 (by decide) ?_
      refine G.icmp_le (tgt := 137) dX12_fewest_130 (by decide) (fun c_42 => ?_) (fun c_42 => ?_)
      · have hf := ite_t hf c_42
        refine G.aload_n dX12_fewest_137 rfl rfl ?_
        refine G.getR (q := 83) dX12_fewest_138 flX12_39 (by decide) rfl rfl ?_
        refine G.aload_n dX12_fewest_141 rfl rfl ?_
        refine G.getR (q := 84) dX12_fewest_142 flX12_42 (by decide) rfl rfl ?_
        refine G.iload dX12_fewest_145 rfl ?_
        obtain ⟨hi_40, hf⟩ := chk_at hf
        refine G.iald' dX12_fewest_147 (by decide) rfl rfl hi_40 ?_
        obtain ⟨hi_41, hf⟩ := chk_at hf
        refine G.iald' dX12_fewest_148 (by decide) rfl rfl hi_41 ?_
        have hf := Option.some.inj hf
        subst hf
        exact G.iret' dX12_fewest_149 rfl hK
      · have hf := ite_f hf c_42
        refine G.iconst (v := -1) dX12_fewest_133 (by decide) ?_
        refine G.goto (tgt := 149) dX12_fewest_134 (by decide) ?_
        have hf := Option.some.inj hf
        subst hf
        exact G.iret' dX12_fewest_149 rfl hK
theorem lX12_fewest_79 (E : EV) (d : Nat) (rr : Option Value × Mem) (x1 : Int32) (z : (Int32 × Mem)) (hK : (fun (z : Int32 × Mem) => (some (.int z.1), z.2) = rr) z) : ∀ (n : Nat) (q : (Int32 × Int32 × Mem)), iter (sX12_fewest_79 x1) n q = some z → G E (d + 4) kX12_fewest 79 [some (.ref 74), some (.int x1), some (.int q.1), none, some (.int q.2.1), none, none, none, none, none] [] q.2.2 rr := by
  intro n
  induction n with
  | zero => intro q h; cases h
  | succ n ih =>
    intro q h
    rcases iter_at h with ⟨q2, hs, h2⟩ | hs
    · exact wX12_fewest_79 E d rr x1 q.1 q.2.1 q.2.2 _ hs (ih q2 h2)
    · exact wX12_fewest_79 E d rr x1 q.1 q.2.1 q.2.2 _ hs hK
def bX12_fewest_17 (x1 : Int32) (x2 : Int32) (I : Mem) : Option ((Int32 × Mem) ⊕ (Int32 × Mem)) :=
  if (8192 : Int32) ≤ x2 then
  (chk (inb (2 : Int32) 632) <|
  letb (((I 75 (ix (2 : Int32))) + (1 : Int32)) - ((I 75 (ix (2 : Int32))) + (1 : Int32)) / (2 : Int32) * (2 : Int32)) fun x3_4 =>
  bnd (fX12_now I) fun v_6 =>
  chk (inb (0 : Int32) 8192) <|
  letb (up2 I 84 (ix (0 : Int32)) (((2 : Int32) * v_6) + x3_4)) fun I_8 =>
  chk (inb (0 : Int32) 8192) <|
  chk (inb (I_8 84 (ix (0 : Int32))) 8192) <|
  letb (up2 I_8 83 (ix (I_8 84 (ix (0 : Int32)))) (0 : Int32)) fun I_11 =>
  inrO (iter (sX12_fewest_79 x1) FU ((1 : Int32), (0 : Int32), I_11)))
  else
  (chk (inb x2 8192) <|
  letb (up2 I 83 (ix x2) (-1 : Int32)) fun I_47 =>
  some (.inl ((x2 + (1 : Int32)), I_47)))
def sX12_fewest_17 (x1 : Int32) (q : (Int32 × Mem)) : Option ((Int32 × Mem) ⊕ (Int32 × Mem)) := bX12_fewest_17 x1 q.1 q.2
set_option maxRecDepth 20000 in
theorem wX12_fewest_17 (E : EV) (d : Nat) (rr : Option Value × Mem) (x1 : Int32) (x2 : Int32) (I : Mem) (y : ((Int32 × Mem) ⊕ (Int32 × Mem))) (hf : bX12_fewest_17 x1 x2 I = some y) (hK : (KX12_fewest_17 E d rr x1 (fun (z : Int32 × Mem) => (some (.int z.1), z.2) = rr)) y) : G E (d + 4) kX12_fewest 17 [some (.ref 74), some (.int x1), some (.int x2), none, none, none, none, none, none, none] [] I rr := by
  unfold bX12_fewest_17 at hf
  refine G.iload_n dX12_fewest_17 rfl rfl ?_
  refine G.sipush (v := 8192) dX12_fewest_18 (by decide) ?_
  refine G.icmp_ge (tgt := 37) dX12_fewest_21 (by decide) (fun c_48 => ?_) (fun c_48 => ?_)
  · have hf := ite_t hf c_48
    refine G.iconst (v := 1) dX12_fewest_37 (by decide) ?_
    refine G.istore_n (L' := [some (.ref 74), some (.int x1), some (.int (1 : Int32)), none, none, none, none, none, none, none]) dX12_fewest_38 rfl (Nat.le_of_ble_eq_true rfl) (Nat.le_of_ble_eq_true rfl) rfl rfl ?_
    refine G.aload_n dX12_fewest_39 rfl rfl ?_
    refine G.getR (q := 75) dX12_fewest_40 flX12_7 (by decide) rfl rfl ?_
    refine G.iconst (v := 2) dX12_fewest_43 (by decide) ?_
    obtain ⟨hi_3, hf⟩ := chk_at hf
    refine G.iald' dX12_fewest_44 (by decide) rfl rfl hi_3 ?_
    refine G.iconst (v := 1) dX12_fewest_45 (by decide) ?_
    refine G.iadd dX12_fewest_46 ?_
    refine G.iconst (v := 2) dX12_fewest_47 (by decide) ?_
    refine G.irem dX12_fewest_48 (by decide) ?_
    refine G.nmi (fun x3_4 e_x3_4 => ?_)
    have hf := letb_at hf e_x3_4
    clear e_x3_4
    refine G.istore_n (L' := [some (.ref 74), some (.int x1), some (.int (1 : Int32)), some (.int x3_4), none, none, none, none, none, none]) dX12_fewest_49 rfl (Nat.le_of_ble_eq_true rfl) (Nat.le_of_ble_eq_true rfl) rfl rfl ?_
    refine G.aload_n dX12_fewest_50 rfl rfl ?_
    refine G.getR (q := 84) dX12_fewest_51 flX12_42 (by decide) rfl rfl ?_
    refine G.iconst (v := 0) dX12_fewest_54 (by decide) ?_
    refine G.iconst (v := 2) dX12_fewest_55 (by decide) ?_
    refine G.aload_n dX12_fewest_56 rfl rfl ?_
    obtain ⟨v_6, hc_5, hf⟩ := bnd_at hf
    refine G.callVi (av := []) (rest := [.int (2 : Int32), .int (0 : Int32), .ref 84]) dX12_fewest_57 mvX12_173 (gX12_now E (d + 3) I hc_5) (by decide) rfl rfl rfl (Nat.le_of_ble_eq_true rfl) ?_
    refine G.imul dX12_fewest_60 ?_
    refine G.iload_n dX12_fewest_61 rfl rfl ?_
    refine G.iadd dX12_fewest_62 ?_
    obtain ⟨hi_7, hf⟩ := chk_at hf
    refine G.iast' dX12_fewest_63 (by decide) rfl rfl hi_7 ?_
    refine G.nmI (fun I_8 e_I_8 => ?_)
    have hf := letb_at hf e_I_8
    clear e_I_8
    refine G.aload_n dX12_fewest_64 rfl rfl ?_
    refine G.getR (q := 83) dX12_fewest_65 flX12_39 (by decide) rfl rfl ?_
    refine G.aload_n dX12_fewest_68 rfl rfl ?_
    refine G.getR (q := 84) dX12_fewest_69 flX12_42 (by decide) rfl rfl ?_
    refine G.iconst (v := 0) dX12_fewest_72 (by decide) ?_
    obtain ⟨hi_9, hf⟩ := chk_at hf
    refine G.iald' dX12_fewest_73 (by decide) rfl rfl hi_9 ?_
    refine G.iconst (v := 0) dX12_fewest_74 (by decide) ?_
    obtain ⟨hi_10, hf⟩ := chk_at hf
    refine G.iast' dX12_fewest_75 (by decide) rfl rfl hi_10 ?_
    refine G.nmI (fun I_11 e_I_11 => ?_)
    have hf := letb_at hf e_I_11
    clear e_I_11
    refine G.iconst (v := 0) dX12_fewest_76 (by decide) ?_
    refine G.istore (L' := [some (.ref 74), some (.int x1), some (.int (1 : Int32)), some (.int x3_4), some (.int (0 : Int32)), none, none, none, none, none]) dX12_fewest_77 (Nat.le_of_ble_eq_true rfl) (Nat.le_of_ble_eq_true rfl) rfl rfl ?_
    obtain ⟨z_45, hz_45, rfl⟩ := inrO_at hf
    have hf := hz_45
    refine G.forget (L' := [some (.ref 74), some (.int x1), some (.int (1 : Int32)), none, some (.int (0 : Int32)), none, none, none, none, none]) [3] rfl ?_
    exact lX12_fewest_79 E d rr x1 _ hK FU _ hf
  · have hf := ite_f hf c_48
    refine G.aload_n dX12_fewest_24 rfl rfl ?_
    refine G.getR (q := 83) dX12_fewest_25 flX12_39 (by decide) rfl rfl ?_
    refine G.iload_n dX12_fewest_28 rfl rfl ?_
    refine G.iconst (v := -1) dX12_fewest_29 (by decide) ?_
    obtain ⟨hi_46, hf⟩ := chk_at hf
    refine G.iast' dX12_fewest_30 (by decide) rfl rfl hi_46 ?_
    refine G.nmI (fun I_47 e_I_47 => ?_)
    have hf := letb_at hf e_I_47
    clear e_I_47
    refine G.inc (w := 1) (L' := [some (.ref 74), some (.int x1), some (.int (x2 + (1 : Int32))), none, none, none, none, none, none, none]) dX12_fewest_31 (by decide) rfl (Nat.le_of_ble_eq_true rfl) rfl rfl ?_
    refine G.goto (tgt := 17) dX12_fewest_34 (by decide) ?_
    have hf := Option.some.inj hf
    subst hf
    exact hK
theorem lX12_fewest_17 (E : EV) (d : Nat) (rr : Option Value × Mem) (x1 : Int32) (z : (Int32 × Mem)) (hK : (fun (z : Int32 × Mem) => (some (.int z.1), z.2) = rr) z) : ∀ (n : Nat) (q : (Int32 × Mem)), iter (sX12_fewest_17 x1) n q = some z → G E (d + 4) kX12_fewest 17 [some (.ref 74), some (.int x1), some (.int q.1), none, none, none, none, none, none, none] [] q.2 rr := by
  intro n
  induction n with
  | zero => intro q h; cases h
  | succ n ih =>
    intro q h
    rcases iter_at h with ⟨q2, hs, h2⟩ | hs
    · exact wX12_fewest_17 E d rr x1 q.1 q.2 _ hs (ih q2 h2)
    · exact wX12_fewest_17 E d rr x1 q.1 q.2 _ hs hK
def fX12_fewest (x1 : Int32) (I : Mem) : Option (Int32 × Mem) :=
  bnd (fX12_isStanding x1 I) fun v_2 =>
  if v_2 = 0 then
  (bnd2 (fX12_bad (-2 : Int32) I) fun v_50 I_51 =>
  some (v_50, I_51))
  else
  (iter (sX12_fewest_17 x1) FU ((0 : Int32), I))
set_option maxRecDepth 20000 in
theorem gX12_fewest (E : EV) (d : Nat) (x1 : Int32) (I : Mem) {v : Int32} {J : Mem} (hf : fX12_fewest x1 I = some (v, J)) : Gm E (d + 4) kX12_fewest [.ref 74, .int x1] I (some (.int v), J) := by
  refine (fun (y : (Int32 × Mem)) (hf : fX12_fewest x1 I = some y) => (?_ : Gm E (d + 4) kX12_fewest [.ref 74, .int x1] I (some (.int y.1), y.2))) (v, J) hf
  refine Gm.of (by decide) rfl (Nat.le_of_ble_eq_true rfl) ?_
  generalize hrr : ((some (.int y.1), y.2) : Option Value × Mem) = rr
  show G E (d + 4) kX12_fewest 0 [some (.ref 74), some (.int x1), none, none, none, none, none, none, none, none] [] I rr
  have hK : (fun (z : Int32 × Mem) => (some (.int z.1), z.2) = rr) y := hrr
  clear hrr
  unfold fX12_fewest at hf
  refine G.aload_n dX12_fewest_0 rfl rfl ?_
  refine G.iload_n dX12_fewest_1 rfl rfl ?_
  obtain ⟨v_2, hc_1, hf⟩ := bnd_at hf
  refine G.callVi (av := [.int x1]) (rest := []) dX12_fewest_2 mvX12_170 (gX12_isStanding E (d + 1) x1 I hc_1) (by decide) rfl rfl rfl (Nat.le_of_ble_eq_true rfl) ?_
  refine G.if_ne (tgt := 15) dX12_fewest_5 (by decide) (fun c_52 => ?_) (fun c_52 => ?_)
  · have hf := ite_f hf c_52
    refine G.iconst (v := 0) dX12_fewest_15 (by decide) ?_
    refine G.istore_n (L' := [some (.ref 74), some (.int x1), some (.int (0 : Int32)), none, none, none, none, none, none, none]) dX12_fewest_16 rfl (Nat.le_of_ble_eq_true rfl) (Nat.le_of_ble_eq_true rfl) rfl rfl ?_
    exact lX12_fewest_17 E d rr x1 _ hK FU _ hf
  · have hf := ite_t hf c_52
    refine G.aload_n dX12_fewest_8 rfl rfl ?_
    refine G.bipush (v := -2) dX12_fewest_9 (by decide) ?_
    obtain ⟨v_50, I_51, hc_49, hf⟩ := bnd2_at hf
    refine G.callVi (av := [.int (-2 : Int32)]) (rest := []) dX12_fewest_11 mvX12_59 (gX12_bad E (d + 3) (-2 : Int32) I hc_49) (by decide) rfl rfl rfl (Nat.le_of_ble_eq_true rfl) ?_
    have hf := Option.some.inj hf
    subst hf
    exact G.iret' dX12_fewest_14 rfl hK
