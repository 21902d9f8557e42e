abbrev kX5_init : MD := (yX5_init, cX5_init, 1, none)
theorem mkX5_init : MK kX5_init 0 := ⟨(mt 154 (by decide +kernel) rfl), (mt 5 (by decide +kernel) rfl), by decide +kernel, by decide +kernel, by decide +kernel, by decide⟩
abbrev kX1_init : MD := (yX1_init, cX1_init, 1, none)
theorem mkX1_init : MK kX1_init 0 := ⟨(mt 161 (by decide +kernel) rfl), (mt 6 (by decide +kernel) rfl), by decide +kernel, by decide +kernel, by decide +kernel, by decide⟩
abbrev kX3_init : MD := (yX3_init, cX3_init, 1, none)
theorem mkX3_init : MK kX3_init 0 := ⟨(mt 168 (by decide +kernel) rfl), (mt 7 (by decide +kernel) rfl), by decide +kernel, by decide +kernel, by decide +kernel, by decide⟩
abbrev kX7_init : MD := (yX7_init, cX7_init, 1, none)
theorem mkX7_init : MK kX7_init 0 := ⟨(mt 175 (by decide +kernel) rfl), (mt 8 (by decide +kernel) rfl), by decide +kernel, by decide +kernel, by decide +kernel, by decide⟩
abbrev kX0_init : MD := (yX0_init, cX0_init, 1, none)
theorem mkX0_init : MK kX0_init 0 := ⟨(mt 182 (by decide +kernel) rfl), (mt 9 (by decide +kernel) rfl), by decide +kernel, by decide +kernel, by decide +kernel, by decide⟩
abbrev kX4_init : MD := (yX4_init, cX4_init, 1, none)
theorem mkX4_init : MK kX4_init 0 := ⟨(mt 34 (by decide +kernel) rfl), (mt 2 (by decide +kernel) rfl), by decide +kernel, by decide +kernel, by decide +kernel, by decide⟩
abbrev kX10_init : MD := (yX10_init, cX10_init, 1, none)
theorem mkX10_init : MK kX10_init 0 := ⟨(mt 189 (by decide +kernel) rfl), (mt 10 (by decide +kernel) rfl), by decide +kernel, by decide +kernel, by decide +kernel, by decide⟩
abbrev kX8_init : MD := (yX8_init, cX8_init, 1, none)
theorem mkX8_init : MK kX8_init 0 := ⟨(mt 123 (by decide +kernel) rfl), (mt 4 (by decide +kernel) rfl), by decide +kernel, by decide +kernel, by decide +kernel, by decide⟩
abbrev kX2_init : MD := (yX2_init, cX2_init, 1, none)
theorem mkX2_init : MK kX2_init 0 := ⟨(mt 209 (by decide +kernel) rfl), (mt 11 (by decide +kernel) rfl), by decide +kernel, by decide +kernel, by decide +kernel, by decide⟩
abbrev kX6_init : MD := (yX6_init, cX6_init, 1, none)
theorem mkX6_init : MK kX6_init 0 := ⟨(mt 254 (by decide +kernel) rfl), (mt 12 (by decide +kernel) rfl), by decide +kernel, by decide +kernel, by decide +kernel, by decide⟩
abbrev kX9_init : MD := (yX9_init, cX9_init, 1, none)
theorem mkX9_init : MK kX9_init 0 := ⟨(mt 285 (by decide +kernel) rfl), (mt 13 (by decide +kernel) rfl), by decide +kernel, by decide +kernel, by decide +kernel, by decide⟩
abbrev kX11_init : MD := (yX11_init, cX11_init, 1, none)
theorem mkX11_init : MK kX11_init 0 := ⟨(mt 26 (by decide +kernel) rfl), (mt 1 (by decide +kernel) rfl), by decide +kernel, by decide +kernel, by decide +kernel, by decide⟩
abbrev kX12_init : MD := (yX12_init, cX12_init, 1, none)
theorem mkX12_init : MK kX12_init 0 := ⟨(mt 869 (by decide +kernel) rfl), (mt 14 (by decide +kernel) rfl), by decide +kernel, by decide +kernel, by decide +kernel, by decide⟩
theorem acI : Cond.arrayClass .int ∈ lw_g := (mt 117 (by decide +kernel) rfl)
theorem acZ : Cond.arrayClass .boolean ∈ lw_g := (mt 148 (by decide +kernel) rfl)
theorem objI : Cond.instanceMethod Lib.objectInit ∈ lw_g := (mt 28 (by decide +kernel) rfl)
theorem objC : Cond.code Lib.objectInit ⟨#[0xb1]⟩ 1 none ∈ lw_g := (mt 29 (by decide +kernel) rfl)
def flI (I : Mem) (a N : Nat) (v : Int32) : Mem := upA I a (fun i => if i < N then v else I a i)
theorem flI_0 (I : Mem) (a : Nat) (v : Int32) : flI I a 0 v = I := by
  funext c
  unfold flI upA
  by_cases h : c = a
  · subst h
    rw [if_pos rfl]
    funext i
    exact if_neg (by omega)
  · rw [if_neg h]
theorem flI_s (I : Mem) (a j : Nat) (v : Int32) : up2 (flI I a j v) a j v = flI I a (j + 1) v := by
  funext c
  unfold up2
  by_cases h : c = a
  · subst h
    unfold flI
    rw [upA_self, upA_self, upA_self]
    funext i
    unfold upd
    by_cases e : i = j
    · subst e
      rw [if_pos rfl, if_pos (by omega)]
    · rw [if_neg e]
      show (if i < j then v else I c i) = _
      by_cases h2 : i < j
      · rw [if_pos h2, if_pos (by omega)]
      · rw [if_neg h2, if_neg (by omega)]
  · unfold flI upA
    rw [if_neg h, if_neg h, if_neg h]
section KFL
variable {E : EV} {R : Room} {n a : Nat} {F : KF} {I : Mem} {v : Int32}
theorem kfill_loop (ha : a < n) (hlk : lk a = 13) {N : Nat} (hN : ln a = N) (hb : N < 2 ^ 31) : ∀ (m j : Nat), j + m = N → GK E R (QK E (n, F, flI I a N v) 0 0) kJ7_fill_53178 5 [some (.ref a), some (.int v), some (.int (nI j)), some (.int (nI N))] [] (0, 0, n, F, flI I a j v) := by
  intro m
  induction m with
  | zero =>
    intro j hj
    have e : j = N := by omega
    subst e
    refine GK.iload_n dJ7_fill_53178_5 rfl rfl ?_
    refine GK.iload_n dJ7_fill_53178_6 rfl rfl ?_
    refine GK.icmp_ge (tgt := 20) dJ7_fill_53178_7 (by decide) (fun _ => ?_) (fun c => absurd (nI_le (Nat.le_refl j) hb) c)
    exact GK.vret dJ7_fill_53178_20 rfl rfl rfl
  | succ m ih =>
    intro j hj
    refine GK.iload_n dJ7_fill_53178_5 rfl rfl ?_
    refine GK.iload_n dJ7_fill_53178_6 rfl rfl ?_
    refine GK.icmp_ge (tgt := 20) dJ7_fill_53178_7 (by decide) (fun c => absurd c (nI_ge (by omega) hb)) (fun _ => ?_)
    refine GK.aload_n dJ7_fill_53178_10 rfl rfl ?_
    refine GK.iload_n dJ7_fill_53178_11 rfl rfl ?_
    refine GK.iload_n dJ7_fill_53178_12 rfl rfl ?_
    refine GK.iast dJ7_fill_53178_13 ha hlk (by unfold inb; rw [nI_clamp (by omega), hN]; simp [nI_pos (show j < 2 ^ 31 by omega)]; omega) ?_
    rw [show ix (nI j) = j from nI_clamp (by omega), flI_s]
    refine GK.iinc (v := nI (j + 1)) (L' := [some (.ref a), some (.int v), some (.int (nI (j + 1))), some (.int (nI N))]) dJ7_fill_53178_14 rfl (nI_1 j) (by decide) rfl rfl ?_
    refine GK.goto (tgt := 5) dJ7_fill_53178_17 (by decide) ?_
    exact ih (j + 1) (by omega)
theorem kfill (ha : a < n) (hlk : lk a = 13) {N : Nat} (hN : ln a = N) (hb : N < 2 ^ 31) : Km E 1 0 0 kJ7_fill_53178 [.ref a, .int v] n F I (n, F, flI I a N v) := by
  refine Km.of (L := [some (.ref a), some (.int v), none, none]) (by decide) rfl (Nat.le_of_ble_eq_true rfl) ?_
  refine GK.iconst (v := 0) dJ7_fill_53178_0 (by decide) ?_
  refine GK.istore_n (L' := [some (.ref a), some (.int v), some (.int 0), none]) dJ7_fill_53178_1 rfl (by decide) (Nat.le_of_ble_eq_true rfl) rfl rfl ?_
  refine GK.aload_n dJ7_fill_53178_2 rfl rfl ?_
  refine GK.alen (v := nI N) dJ7_fill_53178_3 ha hlk (by rw [hN]) ?_
  refine GK.istore_n (L' := [some (.ref a), some (.int v), some (.int 0), some (.int (nI N))]) dJ7_fill_53178_4 rfl (by decide) (Nat.le_of_ble_eq_true rfl) rfl rfl ?_
  have h := kfill_loop (E := E) (R := rmk 1 0 0) (F := F) (I := I) (v := v) ha hlk hN hb N 0 (by omega)
  rw [flI_0] at h
  exact h
end KFL
theorem miX1_1 : MI RX1 1 kX5_init := ⟨mkX5_init, rfl, rfl, (mt 153 (by decide +kernel) rfl), (Or.inr ⟨"AloneRooms", (mtn 162 (by decide +kernel) rfl)⟩)⟩
theorem miX3_1 : MI RX3 1 kX5_init := ⟨mkX5_init, rfl, rfl, (mt 153 (by decide +kernel) rfl), (Or.inr ⟨"AloneRooms", (mtn 169 (by decide +kernel) rfl)⟩)⟩
theorem miX7_1 : MI RX7 1 kX1_init := ⟨mkX1_init, rfl, rfl, (mt 160 (by decide +kernel) rfl), (Or.inr ⟨"AloneRooms", (mtn 176 (by decide +kernel) rfl)⟩)⟩
theorem miX0_1 : MI RX0 1 kX3_init := ⟨mkX3_init, rfl, rfl, (mt 167 (by decide +kernel) rfl), (Or.inr ⟨"AloneRooms", (mtn 183 (by decide +kernel) rfl)⟩)⟩
theorem nwX2_29 : NW RX2 29 10 := ⟨RX10, TX10, 3, tyX10, rfl, qX10, tyX10_ok, (mt 213 (by decide +kernel) rfl), (mt 186 (by decide +kernel) rfl), (mt 10 (by decide +kernel) rfl), rfl, by decide +kernel, by decide⟩
theorem miX2_31 : MI RX2 31 kX10_init := ⟨mkX10_init, rfl, rfl, (mt 188 (by decide +kernel) rfl), (Or.inr ⟨"AloneRooms", (mtn 214 (by decide +kernel) rfl)⟩)⟩
theorem nwX6_23 : NW RX6 23 10 := ⟨RX10, TX10, 3, tyX10, rfl, qX10, tyX10_ok, (mt 257 (by decide +kernel) rfl), (mt 186 (by decide +kernel) rfl), (mt 10 (by decide +kernel) rfl), rfl, by decide +kernel, by decide⟩
theorem miX6_25 : MI RX6 25 kX10_init := ⟨mkX10_init, rfl, rfl, (mt 188 (by decide +kernel) rfl), (Or.inr ⟨"AloneRooms", (mtn 258 (by decide +kernel) rfl)⟩)⟩
theorem nwX11_7 : NW RX11 7 4 := ⟨RX4, TX4, 15, tyX4, rfl, qX4, tyX4_ok, (mt 30 (by decide +kernel) rfl), (mt 31 (by decide +kernel) rfl), (mt 2 (by decide +kernel) rfl), rfl, by decide +kernel, by decide⟩
theorem miX11_9 : MI RX11 9 kX4_init := ⟨mkX4_init, rfl, rfl, (mt 33 (by decide +kernel) rfl), (Or.inl (mt 32 (by decide +kernel) rfl))⟩
theorem nwX11_27 : NW RX11 27 8 := ⟨RX8, TX8, 7, tyX8, rfl, qX8, tyX8_ok, (mt 119 (by decide +kernel) rfl), (mt 120 (by decide +kernel) rfl), (mt 4 (by decide +kernel) rfl), rfl, by decide +kernel, by decide⟩
theorem miX11_29 : MI RX11 29 kX8_init := ⟨mkX8_init, rfl, rfl, (mt 122 (by decide +kernel) rfl), (Or.inr ⟨"AloneRooms", (mtn 121 (by decide +kernel) rfl)⟩)⟩
theorem nwX11_34 : NW RX11 34 5 := ⟨RX5, TX5, 0, tyX5, rfl, qX5, tyX5_ok, (mt 149 (by decide +kernel) rfl), (mt 151 (by decide +kernel) rfl), (mt 5 (by decide +kernel) rfl), rfl, by decide +kernel, by decide⟩
theorem miX11_36 : MI RX11 36 kX5_init := ⟨mkX5_init, rfl, rfl, (mt 153 (by decide +kernel) rfl), (Or.inr ⟨"AloneRooms", (mtn 152 (by decide +kernel) rfl)⟩)⟩
theorem nwX11_37 : NW RX11 37 1 := ⟨RX1, TX1, 0, tyX1, rfl, qX1, tyX1_ok, (mt 157 (by decide +kernel) rfl), (mt 158 (by decide +kernel) rfl), (mt 6 (by decide +kernel) rfl), rfl, by decide +kernel, by decide⟩
theorem miX11_39 : MI RX11 39 kX1_init := ⟨mkX1_init, rfl, rfl, (mt 160 (by decide +kernel) rfl), (Or.inr ⟨"AloneRooms", (mtn 159 (by decide +kernel) rfl)⟩)⟩
theorem nwX11_40 : NW RX11 40 3 := ⟨RX3, TX3, 0, tyX3, rfl, qX3, tyX3_ok, (mt 164 (by decide +kernel) rfl), (mt 165 (by decide +kernel) rfl), (mt 7 (by decide +kernel) rfl), rfl, by decide +kernel, by decide⟩
theorem miX11_42 : MI RX11 42 kX3_init := ⟨mkX3_init, rfl, rfl, (mt 167 (by decide +kernel) rfl), (Or.inr ⟨"AloneRooms", (mtn 166 (by decide +kernel) rfl)⟩)⟩
theorem nwX11_43 : NW RX11 43 7 := ⟨RX7, TX7, 0, tyX7, rfl, qX7, tyX7_ok, (mt 171 (by decide +kernel) rfl), (mt 172 (by decide +kernel) rfl), (mt 8 (by decide +kernel) rfl), rfl, by decide +kernel, by decide⟩
theorem miX11_45 : MI RX11 45 kX7_init := ⟨mkX7_init, rfl, rfl, (mt 174 (by decide +kernel) rfl), (Or.inr ⟨"AloneRooms", (mtn 173 (by decide +kernel) rfl)⟩)⟩
theorem nwX11_46 : NW RX11 46 0 := ⟨RX0, TX0, 0, tyX0, rfl, qX0, tyX0_ok, (mt 178 (by decide +kernel) rfl), (mt 179 (by decide +kernel) rfl), (mt 9 (by decide +kernel) rfl), rfl, by decide +kernel, by decide⟩
theorem miX11_48 : MI RX11 48 kX0_init := ⟨mkX0_init, rfl, rfl, (mt 181 (by decide +kernel) rfl), (Or.inr ⟨"AloneRooms", (mtn 180 (by decide +kernel) rfl)⟩)⟩
theorem nwX11_53 : NW RX11 53 10 := ⟨RX10, TX10, 3, tyX10, rfl, qX10, tyX10_ok, (mt 185 (by decide +kernel) rfl), (mt 186 (by decide +kernel) rfl), (mt 10 (by decide +kernel) rfl), rfl, by decide +kernel, by decide⟩
theorem miX11_55 : MI RX11 55 kX10_init := ⟨mkX10_init, rfl, rfl, (mt 188 (by decide +kernel) rfl), (Or.inr ⟨"AloneRooms", (mtn 187 (by decide +kernel) rfl)⟩)⟩
theorem nwX11_60 : NW RX11 60 2 := ⟨RX2, TX2, 11, tyX2, rfl, qX2, tyX2_ok, (mt 205 (by decide +kernel) rfl), (mt 206 (by decide +kernel) rfl), (mt 11 (by decide +kernel) rfl), rfl, by decide +kernel, by decide⟩
theorem miX11_62 : MI RX11 62 kX2_init := ⟨mkX2_init, rfl, rfl, (mt 208 (by decide +kernel) rfl), (Or.inr ⟨"AloneRooms", (mtn 207 (by decide +kernel) rfl)⟩)⟩
theorem nwX11_67 : NW RX11 67 6 := ⟨RX6, TX6, 7, tyX6, rfl, qX6, tyX6_ok, (mt 250 (by decide +kernel) rfl), (mt 251 (by decide +kernel) rfl), (mt 12 (by decide +kernel) rfl), rfl, by decide +kernel, by decide⟩
theorem miX11_69 : MI RX11 69 kX6_init := ⟨mkX6_init, rfl, rfl, (mt 253 (by decide +kernel) rfl), (Or.inr ⟨"AloneRooms", (mtn 252 (by decide +kernel) rfl)⟩)⟩
theorem nwX11_74 : NW RX11 74 9 := ⟨RX9, TX9, 6, tyX9, rfl, qX9, tyX9_ok, (mt 281 (by decide +kernel) rfl), (mt 282 (by decide +kernel) rfl), (mt 13 (by decide +kernel) rfl), rfl, by decide +kernel, by decide⟩
theorem miX11_76 : MI RX11 76 kX9_init := ⟨mkX9_init, rfl, rfl, (mt 284 (by decide +kernel) rfl), (Or.inr ⟨"AloneRooms", (mtn 283 (by decide +kernel) rfl)⟩)⟩
theorem dX5_init_0 : decode cX5_init 0 = .ok (.aload_n 0, 1) := by decide +kernel
theorem dX5_init_1 : decode cX5_init 1 = .ok (.invokespecial 1, 3) := by decide +kernel
theorem dX5_init_4 : decode cX5_init 4 = .ok (.return_, 1) := by decide +kernel
def kFX5 (F : KF) (b : Nat) : KF := F
def kIX5 (I : Mem) (b : Nat) : Mem := I
set_option maxRecDepth 20000 in
theorem gk_X5 {E : EV} {F : KF} {I : Mem} {b : Nat} (hb : b = 38 ∨ b = 39 ∨ b = 40 ∨ b = 41 ∨ b = 42) : Km E 1 0 0 kX5_init [.ref b] (b + 1) F I ((b + 1), kFX5 F b, kIX5 I b) := by
  unfold kFX5 kIX5
  refine Km.of (L := [some (.ref b)]) (by decide) rfl (Nat.le_of_ble_eq_true rfl) ?_
  refine GK.aload_n dX5_init_0 rfl rfl ?_
  refine GK.obj dX5_init_1 (mt 155 (by decide +kernel) rfl) objI objC (by decide) (by decide) (Nat.le_of_ble_eq_true rfl) ?_
  exact GK.vret dX5_init_4 rfl rfl rfl
theorem dX1_init_0 : decode cX1_init 0 = .ok (.aload_n 0, 1) := by decide +kernel
theorem dX1_init_1 : decode cX1_init 1 = .ok (.invokespecial 1, 3) := by decide +kernel
theorem dX1_init_4 : decode cX1_init 4 = .ok (.return_, 1) := by decide +kernel
def kFX1 (F : KF) (b : Nat) : KF := kFX5 (F) b
def kIX1 (I : Mem) (b : Nat) : Mem := kIX5 (I) b
set_option maxRecDepth 20000 in
theorem gk_X1 {E : EV} {F : KF} {I : Mem} {b : Nat} (hb : b = 39 ∨ b = 41) : Km E 2 0 0 kX1_init [.ref b] (b + 1) F I ((b + 1), kFX1 F b, kIX1 I b) := by
  unfold kFX1 kIX1
  refine Km.of (L := [some (.ref b)]) (by decide) rfl (Nat.le_of_ble_eq_true rfl) ?_
  refine GK.aload_n dX1_init_0 rfl rfl ?_
  refine GK.init (b := b) (n' := (b + 1)) (F' := kFX5 (F) b) (I' := kIX5 (I) b) dX1_init_1 miX1_1 (gk_X5 (by rcases hb with rfl | rfl <;> decide)) rfl (by omega) (by decide) (by decide) (by decide) (by decide) (Nat.le_of_ble_eq_true rfl) ?_
  exact GK.vret dX1_init_4 rfl rfl rfl
theorem dX3_init_0 : decode cX3_init 0 = .ok (.aload_n 0, 1) := by decide +kernel
theorem dX3_init_1 : decode cX3_init 1 = .ok (.invokespecial 1, 3) := by decide +kernel
theorem dX3_init_4 : decode cX3_init 4 = .ok (.return_, 1) := by decide +kernel
def kFX3 (F : KF) (b : Nat) : KF := kFX5 (F) b
def kIX3 (I : Mem) (b : Nat) : Mem := kIX5 (I) b
set_option maxRecDepth 20000 in
theorem gk_X3 {E : EV} {F : KF} {I : Mem} {b : Nat} (hb : b = 40 ∨ b = 42) : Km E 2 0 0 kX3_init [.ref b] (b + 1) F I ((b + 1), kFX3 F b, kIX3 I b) := by
  unfold kFX3 kIX3
  refine Km.of (L := [some (.ref b)]) (by decide) rfl (Nat.le_of_ble_eq_true rfl) ?_
  refine GK.aload_n dX3_init_0 rfl rfl ?_
  refine GK.init (b := b) (n' := (b + 1)) (F' := kFX5 (F) b) (I' := kIX5 (I) b) dX3_init_1 miX3_1 (gk_X5 (by rcases hb with rfl | rfl <;> decide)) rfl (by omega) (by decide) (by decide) (by decide) (by decide) (Nat.le_of_ble_eq_true rfl) ?_
  exact GK.vret dX3_init_4 rfl rfl rfl
theorem dX7_init_0 : decode cX7_init 0 = .ok (.aload_n 0, 1) := by decide +kernel
theorem dX7_init_1 : decode cX7_init 1 = .ok (.invokespecial 1, 3) := by decide +kernel
theorem dX7_init_4 : decode cX7_init 4 = .ok (.return_, 1) := by decide +kernel
def kFX7 (F : KF) (b : Nat) : KF := kFX1 (F) 41
def kIX7 (I : Mem) (b : Nat) : Mem := kIX1 (I) 41
set_option maxRecDepth 20000 in
theorem gk_X7 {E : EV} {F : KF} {I : Mem}  : Km E 3 0 0 kX7_init [.ref 41] 42 F I (42, kFX7 F 41, kIX7 I 41) := by
  unfold kFX7 kIX7
  refine Km.of (L := [some (.ref 41)]) (by decide) rfl (Nat.le_of_ble_eq_true rfl) ?_
  refine GK.aload_n dX7_init_0 rfl rfl ?_
  refine GK.init (b := 41) (n' := 42) (F' := kFX1 (F) 41) (I' := kIX1 (I) 41) dX7_init_1 miX7_1 (gk_X1 (by decide)) rfl (by decide) (by decide) (by decide) (by decide) (by decide) (Nat.le_of_ble_eq_true rfl) ?_
  exact GK.vret dX7_init_4 rfl rfl rfl
theorem dX0_init_0 : decode cX0_init 0 = .ok (.aload_n 0, 1) := by decide +kernel
theorem dX0_init_1 : decode cX0_init 1 = .ok (.invokespecial 1, 3) := by decide +kernel
theorem dX0_init_4 : decode cX0_init 4 = .ok (.return_, 1) := by decide +kernel
def kFX0 (F : KF) (b : Nat) : KF := kFX3 (F) 42
def kIX0 (I : Mem) (b : Nat) : Mem := kIX3 (I) 42
set_option maxRecDepth 20000 in
theorem gk_X0 {E : EV} {F : KF} {I : Mem}  : Km E 3 0 0 kX0_init [.ref 42] 43 F I (43, kFX0 F 42, kIX0 I 42) := by
  unfold kFX0 kIX0
  refine Km.of (L := [some (.ref 42)]) (by decide) rfl (Nat.le_of_ble_eq_true rfl) ?_
  refine GK.aload_n dX0_init_0 rfl rfl ?_
  refine GK.init (b := 42) (n' := 43) (F' := kFX3 (F) 42) (I' := kIX3 (I) 42) dX0_init_1 miX0_1 (gk_X3 (by decide)) rfl (by decide) (by decide) (by decide) (by decide) (by decide) (Nat.le_of_ble_eq_true rfl) ?_
  exact GK.vret dX0_init_4 rfl rfl rfl
theorem dX4_init_0 : decode cX4_init 0 = .ok (.aload_n 0, 1) := by decide +kernel
theorem dX4_init_1 : decode cX4_init 1 = .ok (.invokespecial 3, 3) := by decide +kernel
theorem dX4_init_4 : decode cX4_init 4 = .ok (.aload_n 0, 1) := by decide +kernel
theorem dX4_init_5 : decode cX4_init 5 = .ok (.iconst 5, 1) := by decide +kernel
theorem dX4_init_6 : decode cX4_init 6 = .ok (.putfield 9, 3) := by decide +kernel
theorem dX4_init_9 : decode cX4_init 9 = .ok (.aload_n 0, 1) := by decide +kernel
theorem dX4_init_10 : decode cX4_init 10 = .ok (.iconst 5, 1) := by decide +kernel
theorem dX4_init_11 : decode cX4_init 11 = .ok (.newarray .int, 2) := by decide +kernel
theorem dX4_init_13 : decode cX4_init 13 = .ok (.putfield 15, 3) := by decide +kernel
theorem dX4_init_16 : decode cX4_init 16 = .ok (.aload_n 0, 1) := by decide +kernel
theorem dX4_init_17 : decode cX4_init 17 = .ok (.iconst 5, 1) := by decide +kernel
theorem dX4_init_18 : decode cX4_init 18 = .ok (.newarray .int, 2) := by decide +kernel
theorem dX4_init_20 : decode cX4_init 20 = .ok (.putfield 19, 3) := by decide +kernel
theorem dX4_init_23 : decode cX4_init 23 = .ok (.aload_n 0, 1) := by decide +kernel
theorem dX4_init_24 : decode cX4_init 24 = .ok (.iconst 5, 1) := by decide +kernel
theorem dX4_init_25 : decode cX4_init 25 = .ok (.newarray .int, 2) := by decide +kernel
theorem dX4_init_27 : decode cX4_init 27 = .ok (.putfield 22, 3) := by decide +kernel
theorem dX4_init_30 : decode cX4_init 30 = .ok (.aload_n 0, 1) := by decide +kernel
theorem dX4_init_31 : decode cX4_init 31 = .ok (.iconst 4, 1) := by decide +kernel
theorem dX4_init_32 : decode cX4_init 32 = .ok (.newarray .int, 2) := by decide +kernel
theorem dX4_init_34 : decode cX4_init 34 = .ok (.putfield 25, 3) := by decide +kernel
theorem dX4_init_37 : decode cX4_init 37 = .ok (.aload_n 0, 1) := by decide +kernel
theorem dX4_init_38 : decode cX4_init 38 = .ok (.bipush 16, 2) := by decide +kernel
theorem dX4_init_40 : decode cX4_init 40 = .ok (.newarray .int, 2) := by decide +kernel
theorem dX4_init_42 : decode cX4_init 42 = .ok (.putfield 28, 3) := by decide +kernel
theorem dX4_init_45 : decode cX4_init 45 = .ok (.aload_n 0, 1) := by decide +kernel
theorem dX4_init_46 : decode cX4_init 46 = .ok (.bipush 8, 2) := by decide +kernel
theorem dX4_init_48 : decode cX4_init 48 = .ok (.newarray .int, 2) := by decide +kernel
theorem dX4_init_50 : decode cX4_init 50 = .ok (.putfield 31, 3) := by decide +kernel
theorem dX4_init_53 : decode cX4_init 53 = .ok (.aload_n 0, 1) := by decide +kernel
theorem dX4_init_54 : decode cX4_init 54 = .ok (.bipush 80, 2) := by decide +kernel
theorem dX4_init_56 : decode cX4_init 56 = .ok (.newarray .int, 2) := by decide +kernel
theorem dX4_init_58 : decode cX4_init 58 = .ok (.putfield 34, 3) := by decide +kernel
theorem dX4_init_61 : decode cX4_init 61 = .ok (.aload_n 0, 1) := by decide +kernel
theorem dX4_init_62 : decode cX4_init 62 = .ok (.getfield 28, 3) := by decide +kernel
theorem dX4_init_65 : decode cX4_init 65 = .ok (.iconst (-1), 1) := by decide +kernel
theorem dX4_init_66 : decode cX4_init 66 = .ok (.invokestatic 37, 3) := by decide +kernel
theorem dX4_init_69 : decode cX4_init 69 = .ok (.return_, 1) := by decide +kernel
def kFX4 (F : KF) (b : Nat) : KF := upF (clF (upF (clF (upF (clF (upF (clF (upF (clF (upF (clF (upF (clF (F) (b + 1)) b 8 (b + 1)) (b + 2)) b 9 (b + 2)) (b + 3)) b 10 (b + 3)) (b + 4)) b 11 (b + 4)) (b + 5)) b 12 (b + 5)) (b + 6)) b 13 (b + 6)) (b + 7)) b 14 (b + 7)
def kIX4 (I : Mem) (b : Nat) : Mem := flI (upA (upA (upA (upA (upA (upA (upA (up2 (I) b 0 (5)) (b + 1) (fun _ => 0)) (b + 2) (fun _ => 0)) (b + 3) (fun _ => 0)) (b + 4) (fun _ => 0)) (b + 5) (fun _ => 0)) (b + 6) (fun _ => 0)) (b + 7) (fun _ => 0)) (b + 5) 16 (-1)
set_option maxRecDepth 20000 in
theorem gk_X4 {E : EV} {F : KF} {I : Mem} {b : Nat} (hb : b = 1 ∨ b = 9 ∨ b = 18 ∨ b = 26) : Km E 2 7 123 kX4_init [.ref b] (b + 1) F I ((b + 8), kFX4 F b, kIX4 I b) := by
  unfold kFX4 kIX4
  refine Km.of (L := [some (.ref b)]) (by decide) rfl (Nat.le_of_ble_eq_true rfl) ?_
  refine GK.aload_n dX4_init_0 rfl rfl ?_
  refine GK.obj dX4_init_1 (mt 35 (by decide +kernel) rfl) objI objC (by decide) (by decide) (Nat.le_of_ble_eq_true rfl) ?_
  refine GK.aload_n dX4_init_4 rfl rfl ?_
  refine GK.iconst (v := 5) dX4_init_5 (by decide) ?_
  refine GK.putI dX4_init_6 flX4_9 (by omega) (by rcases hb with rfl | rfl | rfl | rfl <;> rfl) ?_
  refine GK.aload_n dX4_init_9 rfl rfl ?_
  refine GK.iconst (v := 5) dX4_init_10 (by decide) ?_
  refine GK.newi (N := 5) dX4_init_11 rfl (by rcases hb with rfl | rfl | rfl | rfl <;> rfl) (by decide) (by rcases hb with rfl | rfl | rfl | rfl <;> rfl) (by decide) (by decide) (by omega) (by decide) (by decide) acI ?_
  refine GK.putR (q := (b + 1)) dX4_init_13 flX4_15 (by intro C T N h; cases h; rfl) rfl (by omega) (by rcases hb with rfl | rfl | rfl | rfl <;> rfl) (fun _ => rfl) (fun _ => rfl) ?_
  refine GK.aload_n dX4_init_16 rfl rfl ?_
  refine GK.iconst (v := 5) dX4_init_17 (by decide) ?_
  refine GK.newi (N := 5) dX4_init_18 rfl (by rcases hb with rfl | rfl | rfl | rfl <;> rfl) (by decide) (by rcases hb with rfl | rfl | rfl | rfl <;> rfl) (by decide) (by decide) (by omega) (by decide) (by decide) acI ?_
  refine GK.putR (q := (b + 2)) dX4_init_20 flX4_19 (by intro C T N h; cases h; rfl) rfl (by omega) (by rcases hb with rfl | rfl | rfl | rfl <;> rfl) (fun _ => rfl) (fun _ => rfl) ?_
  refine GK.aload_n dX4_init_23 rfl rfl ?_
  refine GK.iconst (v := 5) dX4_init_24 (by decide) ?_
  refine GK.newi (N := 5) dX4_init_25 rfl (by rcases hb with rfl | rfl | rfl | rfl <;> rfl) (by decide) (by rcases hb with rfl | rfl | rfl | rfl <;> rfl) (by decide) (by decide) (by omega) (by decide) (by decide) acI ?_
  refine GK.putR (q := (b + 3)) dX4_init_27 flX4_22 (by intro C T N h; cases h; rfl) rfl (by omega) (by rcases hb with rfl | rfl | rfl | rfl <;> rfl) (fun _ => rfl) (fun _ => rfl) ?_
  refine GK.aload_n dX4_init_30 rfl rfl ?_
  refine GK.iconst (v := 4) dX4_init_31 (by decide) ?_
  refine GK.newi (N := 4) dX4_init_32 rfl (by rcases hb with rfl | rfl | rfl | rfl <;> rfl) (by decide) (by rcases hb with rfl | rfl | rfl | rfl <;> rfl) (by decide) (by decide) (by omega) (by decide) (by decide) acI ?_
  refine GK.putR (q := (b + 4)) dX4_init_34 flX4_25 (by intro C T N h; cases h; rfl) rfl (by omega) (by rcases hb with rfl | rfl | rfl | rfl <;> rfl) (fun _ => rfl) (fun _ => rfl) ?_
  refine GK.aload_n dX4_init_37 rfl rfl ?_
  refine GK.bipush (v := 16) dX4_init_38 (by decide) ?_
  refine GK.newi (N := 16) dX4_init_40 rfl (by rcases hb with rfl | rfl | rfl | rfl <;> rfl) (by decide) (by rcases hb with rfl | rfl | rfl | rfl <;> rfl) (by decide) (by decide) (by omega) (by decide) (by decide) acI ?_
  refine GK.putR (q := (b + 5)) dX4_init_42 flX4_28 (by intro C T N h; cases h; rfl) rfl (by omega) (by rcases hb with rfl | rfl | rfl | rfl <;> rfl) (fun _ => rfl) (fun _ => rfl) ?_
  refine GK.aload_n dX4_init_45 rfl rfl ?_
  refine GK.bipush (v := 8) dX4_init_46 (by decide) ?_
  refine GK.newi (N := 8) dX4_init_48 rfl (by rcases hb with rfl | rfl | rfl | rfl <;> rfl) (by decide) (by rcases hb with rfl | rfl | rfl | rfl <;> rfl) (by decide) (by decide) (by omega) (by decide) (by decide) acI ?_
  refine GK.putR (q := (b + 6)) dX4_init_50 flX4_31 (by intro C T N h; cases h; rfl) rfl (by omega) (by rcases hb with rfl | rfl | rfl | rfl <;> rfl) (fun _ => rfl) (fun _ => rfl) ?_
  refine GK.aload_n dX4_init_53 rfl rfl ?_
  refine GK.bipush (v := 80) dX4_init_54 (by decide) ?_
  refine GK.newi (N := 80) dX4_init_56 rfl (by rcases hb with rfl | rfl | rfl | rfl <;> rfl) (by decide) (by rcases hb with rfl | rfl | rfl | rfl <;> rfl) (by decide) (by decide) (by omega) (by decide) (by decide) acI ?_
  refine GK.putR (q := (b + 7)) dX4_init_58 flX4_34 (by intro C T N h; cases h; rfl) rfl (by omega) (by rcases hb with rfl | rfl | rfl | rfl <;> rfl) (fun _ => rfl) (fun _ => rfl) ?_
  refine GK.aload_n dX4_init_61 rfl rfl ?_
  refine GK.getR (q := (b + 5)) dX4_init_62 flX4_28 (by omega) (by rcases hb with rfl | rfl | rfl | rfl <;> rfl) (by rcases hb with rfl | rfl | rfl | rfl <;> rfl) ?_
  refine GK.iconst (v := -1) dX4_init_65 (by decide) ?_
  refine GK.callS (d := 1) (mc := 0) (ms := 0) (av := [.ref (b + 5), .int (-1)]) (rest := []) (n' := (b + 8)) (F' := upF (clF (upF (clF (upF (clF (upF (clF (upF (clF (upF (clF (upF (clF (F) (b + 1)) b 8 (b + 1)) (b + 2)) b 9 (b + 2)) (b + 3)) b 10 (b + 3)) (b + 4)) b 11 (b + 4)) (b + 5)) b 12 (b + 5)) (b + 6)) b 13 (b + 6)) (b + 7)) b 14 (b + 7)) (I' := flI (upA (upA (upA (upA (upA (upA (upA (up2 (I) b 0 (5)) (b + 1) (fun _ => 0)) (b + 2) (fun _ => 0)) (b + 3) (fun _ => 0)) (b + 4) (fun _ => 0)) (b + 5) (fun _ => 0)) (b + 6) (fun _ => 0)) (b + 7) (fun _ => 0)) (b + 5) 16 (-1)) dX4_init_66 msX4_37 (kfill (by omega) (by rcases hb with rfl | rfl | rfl | rfl <;> rfl) (by rcases hb with rfl | rfl | rfl | rfl <;> rfl) (by decide)) rfl rfl rfl (by omega) (by decide) (by decide) (by decide) (by decide) (by decide) ?_
  exact GK.vret dX4_init_69 rfl rfl rfl
theorem dX10_init_0 : decode cX10_init 0 = .ok (.aload_n 0, 1) := by decide +kernel
theorem dX10_init_1 : decode cX10_init 1 = .ok (.invokespecial 3, 3) := by decide +kernel
theorem dX10_init_4 : decode cX10_init 4 = .ok (.aload_n 0, 1) := by decide +kernel
theorem dX10_init_5 : decode cX10_init 5 = .ok (.iconst 4, 1) := by decide +kernel
theorem dX10_init_6 : decode cX10_init 6 = .ok (.newarray .int, 2) := by decide +kernel
theorem dX10_init_8 : decode cX10_init 8 = .ok (.putfield 9, 3) := by decide +kernel
theorem dX10_init_11 : decode cX10_init 11 = .ok (.return_, 1) := by decide +kernel
def kFX10 (F : KF) (b : Nat) : KF := upF (clF (F) (b + 1)) b 2 (b + 1)
def kIX10 (I : Mem) (b : Nat) : Mem := upA (I) (b + 1) (fun _ => 0)
set_option maxRecDepth 20000 in
theorem gk_X10 {E : EV} {F : KF} {I : Mem} {b : Nat} (hb : b = 43 ∨ b = 59 ∨ b = 61 ∨ b = 69) : Km E 1 1 4 kX10_init [.ref b] (b + 1) F I ((b + 2), kFX10 F b, kIX10 I b) := by
  unfold kFX10 kIX10
  refine Km.of (L := [some (.ref b)]) (by decide) rfl (Nat.le_of_ble_eq_true rfl) ?_
  refine GK.aload_n dX10_init_0 rfl rfl ?_
  refine GK.obj dX10_init_1 (mt 190 (by decide +kernel) rfl) objI objC (by decide) (by decide) (Nat.le_of_ble_eq_true rfl) ?_
  refine GK.aload_n dX10_init_4 rfl rfl ?_
  refine GK.iconst (v := 4) dX10_init_5 (by decide) ?_
  refine GK.newi (N := 4) dX10_init_6 rfl (by rcases hb with rfl | rfl | rfl | rfl <;> rfl) (by decide) (by rcases hb with rfl | rfl | rfl | rfl <;> rfl) (by decide) (by decide) (by omega) (by decide) (by decide) acI ?_
  refine GK.putR (q := (b + 1)) dX10_init_8 flX10_9 (by intro C T N h; cases h; rfl) rfl (by omega) (by rcases hb with rfl | rfl | rfl | rfl <;> rfl) (fun _ => rfl) (fun _ => rfl) ?_
  exact GK.vret dX10_init_11 rfl rfl rfl
theorem dX8_init_0 : decode cX8_init 0 = .ok (.aload_n 0, 1) := by decide +kernel
theorem dX8_init_1 : decode cX8_init 1 = .ok (.invokespecial 3, 3) := by decide +kernel
theorem dX8_init_4 : decode cX8_init 4 = .ok (.aload_n 0, 1) := by decide +kernel
theorem dX8_init_5 : decode cX8_init 5 = .ok (.sipush 200, 3) := by decide +kernel
theorem dX8_init_8 : decode cX8_init 8 = .ok (.newarray .int, 2) := by decide +kernel
theorem dX8_init_10 : decode cX8_init 10 = .ok (.putfield 9, 3) := by decide +kernel
theorem dX8_init_13 : decode cX8_init 13 = .ok (.return_, 1) := by decide +kernel
def kFX8 (F : KF) (b : Nat) : KF := upF (clF (F) 36) 35 1 36
def kIX8 (I : Mem) (b : Nat) : Mem := upA (I) 36 (fun _ => 0)
set_option maxRecDepth 20000 in
theorem gk_X8 {E : EV} {F : KF} {I : Mem}  : Km E 1 1 200 kX8_init [.ref 35] 36 F I (37, kFX8 F 35, kIX8 I 35) := by
  unfold kFX8 kIX8
  refine Km.of (L := [some (.ref 35)]) (by decide) rfl (Nat.le_of_ble_eq_true rfl) ?_
  refine GK.aload_n dX8_init_0 rfl rfl ?_
  refine GK.obj dX8_init_1 (mt 124 (by decide +kernel) rfl) objI objC (by decide) (by decide) (Nat.le_of_ble_eq_true rfl) ?_
  refine GK.aload_n dX8_init_4 rfl rfl ?_
  refine GK.sipush (v := 200) dX8_init_5 (by decide) ?_
  refine GK.newi (N := 200) dX8_init_8 rfl rfl (by decide) rfl (by decide) (by decide) (by decide) (by decide) (by decide) acI ?_
  refine GK.putR (q := 36) dX8_init_10 flX8_9 (by intro C T N h; cases h; rfl) rfl (by decide) rfl (fun _ => rfl) (fun _ => rfl) ?_
  exact GK.vret dX8_init_13 rfl rfl rfl
theorem dX2_init_0 : decode cX2_init 0 = .ok (.aload_n 0, 1) := by decide +kernel
theorem dX2_init_1 : decode cX2_init 1 = .ok (.invokespecial 3, 3) := by decide +kernel
theorem dX2_init_4 : decode cX2_init 4 = .ok (.aload_n 0, 1) := by decide +kernel
theorem dX2_init_5 : decode cX2_init 5 = .ok (.iconst 5, 1) := by decide +kernel
theorem dX2_init_6 : decode cX2_init 6 = .ok (.newarray .int, 2) := by decide +kernel
theorem dX2_init_8 : decode cX2_init 8 = .ok (.putfield 9, 3) := by decide +kernel
theorem dX2_init_11 : decode cX2_init 11 = .ok (.aload_n 0, 1) := by decide +kernel
theorem dX2_init_12 : decode cX2_init 12 = .ok (.iconst 5, 1) := by decide +kernel
theorem dX2_init_13 : decode cX2_init 13 = .ok (.iconst 4, 1) := by decide +kernel
theorem dX2_init_14 : decode cX2_init 14 = .ok (.multianewarray 15 2, 4) := by decide +kernel
theorem dX2_init_18 : decode cX2_init 18 = .ok (.putfield 17, 3) := by decide +kernel
theorem dX2_init_21 : decode cX2_init 21 = .ok (.aload_n 0, 1) := by decide +kernel
theorem dX2_init_22 : decode cX2_init 22 = .ok (.iconst 3, 1) := by decide +kernel
theorem dX2_init_23 : decode cX2_init 23 = .ok (.sipush 2341, 3) := by decide +kernel
theorem dX2_init_26 : decode cX2_init 26 = .ok (.multianewarray 15 2, 4) := by decide +kernel
theorem dX2_init_30 : decode cX2_init 30 = .ok (.putfield 20, 3) := by decide +kernel
theorem dX2_init_33 : decode cX2_init 33 = .ok (.aload_n 0, 1) := by decide +kernel
theorem dX2_init_34 : decode cX2_init 34 = .ok (.iconst 5, 1) := by decide +kernel
theorem dX2_init_35 : decode cX2_init 35 = .ok (.newarray .int, 2) := by decide +kernel
theorem dX2_init_37 : decode cX2_init 37 = .ok (.putfield 23, 3) := by decide +kernel
theorem dX2_init_40 : decode cX2_init 40 = .ok (.aload_n 0, 1) := by decide +kernel
theorem dX2_init_41 : decode cX2_init 41 = .ok (.sipush 2341, 3) := by decide +kernel
theorem dX2_init_44 : decode cX2_init 44 = .ok (.newarray .int, 2) := by decide +kernel
theorem dX2_init_46 : decode cX2_init 46 = .ok (.putfield 26, 3) := by decide +kernel
theorem dX2_init_49 : decode cX2_init 49 = .ok (.aload_n 0, 1) := by decide +kernel
theorem dX2_init_50 : decode cX2_init 50 = .ok (.new 29, 3) := by decide +kernel
theorem dX2_init_53 : decode cX2_init 53 = .ok (.dup, 1) := by decide +kernel
theorem dX2_init_54 : decode cX2_init 54 = .ok (.invokespecial 31, 3) := by decide +kernel
theorem dX2_init_57 : decode cX2_init 57 = .ok (.putfield 32, 3) := by decide +kernel
theorem dX2_init_60 : decode cX2_init 60 = .ok (.aload_n 0, 1) := by decide +kernel
theorem dX2_init_61 : decode cX2_init 61 = .ok (.new 29, 3) := by decide +kernel
theorem dX2_init_64 : decode cX2_init 64 = .ok (.dup, 1) := by decide +kernel
theorem dX2_init_65 : decode cX2_init 65 = .ok (.invokespecial 31, 3) := by decide +kernel
theorem dX2_init_68 : decode cX2_init 68 = .ok (.putfield 36, 3) := by decide +kernel
theorem dX2_init_71 : decode cX2_init 71 = .ok (.return_, 1) := by decide +kernel
def kFX2 (F : KF) (b : Nat) : KF := upF (kFX10 (clF (upF (kFX10 (clF (upF (clF (upF (clF (upF (muFn (upF (muFn (upF (clF (F) 46) 45 0 46) 47 5) 45 5 47) 53 3) 45 6 53) 57) 45 7 57) 58) 45 8 58) 59) 59) 45 9 59) 61) 61) 45 10 61
def kIX2 (I : Mem) (b : Nat) : Mem := kIX10 (upA (kIX10 (upA (upA (upA (muI (muI (upA (I) 46 (fun _ => 0)) 47 5) 53 3) 57 (fun _ => 0)) 58 (fun _ => 0)) 59 (fun _ => 0)) 59) 61 (fun _ => 0)) 61
set_option maxRecDepth 20000 in
theorem gk_X2 {E : EV} {F : KF} {I : Mem}  : Km E 2 17 9416 kX2_init [.ref 45] 46 F I (63, kFX2 F 45, kIX2 I 45) := by
  unfold kFX2 kIX2
  refine Km.of (L := [some (.ref 45)]) (by decide) rfl (Nat.le_of_ble_eq_true rfl) ?_
  refine GK.aload_n dX2_init_0 rfl rfl ?_
  refine GK.obj dX2_init_1 (mt 210 (by decide +kernel) rfl) objI objC (by decide) (by decide) (Nat.le_of_ble_eq_true rfl) ?_
  refine GK.aload_n dX2_init_4 rfl rfl ?_
  refine GK.iconst (v := 5) dX2_init_5 (by decide) ?_
  refine GK.newi (N := 5) dX2_init_6 rfl rfl (by decide) rfl (by decide) (by decide) (by decide) (by decide) (by decide) acI ?_
  refine GK.putR (q := 46) dX2_init_8 flX2_9 (by intro C T N h; cases h; rfl) rfl (by decide) rfl (fun _ => rfl) (fun _ => rfl) ?_
  refine GK.aload_n dX2_init_11 rfl rfl ?_
  refine GK.iconst (v := 5) dX2_init_12 (by decide) ?_
  refine GK.iconst (v := 4) dX2_init_13 (by decide) ?_
  refine GK.multi (N := 5) (M := 4) dX2_init_14 (mt 211 (by decide +kernel) rfl) rfl rfl (by decide) (by decide) (by decide) (by decide) (by decide) (by decide) (by decide) (by decide) (by decide) (by decide) ?_
  refine GK.putR (q := 47) dX2_init_18 flX2_17 (by intro C T N h; cases h; rfl) rfl (by decide) rfl (fun _ => rfl) (fun _ => rfl) ?_
  refine GK.aload_n dX2_init_21 rfl rfl ?_
  refine GK.iconst (v := 3) dX2_init_22 (by decide) ?_
  refine GK.sipush (v := 2341) dX2_init_23 (by decide) ?_
  refine GK.multi (N := 3) (M := 2341) dX2_init_26 (mt 211 (by decide +kernel) rfl) rfl rfl (by decide) (by decide) (by decide) (by decide) (by decide) (by decide) (by decide) (by decide) (by decide) (by decide) ?_
  refine GK.putR (q := 53) dX2_init_30 flX2_20 (by intro C T N h; cases h; rfl) rfl (by decide) rfl (fun _ => rfl) (fun _ => rfl) ?_
  refine GK.aload_n dX2_init_33 rfl rfl ?_
  refine GK.iconst (v := 5) dX2_init_34 (by decide) ?_
  refine GK.newi (N := 5) dX2_init_35 rfl rfl (by decide) rfl (by decide) (by decide) (by decide) (by decide) (by decide) acI ?_
  refine GK.putR (q := 57) dX2_init_37 flX2_23 (by intro C T N h; cases h; rfl) rfl (by decide) rfl (fun _ => rfl) (fun _ => rfl) ?_
  refine GK.aload_n dX2_init_40 rfl rfl ?_
  refine GK.sipush (v := 2341) dX2_init_41 (by decide) ?_
  refine GK.newi (N := 2341) dX2_init_44 rfl rfl (by decide) rfl (by decide) (by decide) (by decide) (by decide) (by decide) acI ?_
  refine GK.putR (q := 58) dX2_init_46 flX2_26 (by intro C T N h; cases h; rfl) rfl (by decide) rfl (fun _ => rfl) (fun _ => rfl) ?_
  refine GK.aload_n dX2_init_49 rfl rfl ?_
  refine GK.new dX2_init_50 nwX2_29 rfl (by decide) (by decide) (by decide) ?_
  refine GK.dup dX2_init_53 rfl ?_
  refine GK.init (b := 59) (n' := 61) (F' := kFX10 (clF (upF (clF (upF (clF (upF (muFn (upF (muFn (upF (clF (F) 46) 45 0 46) 47 5) 45 5 47) 53 3) 45 6 53) 57) 45 7 57) 58) 45 8 58) 59) 59) (I' := kIX10 (upA (upA (upA (muI (muI (upA (I) 46 (fun _ => 0)) 47 5) 53 3) 57 (fun _ => 0)) 58 (fun _ => 0)) 59 (fun _ => 0)) 59) dX2_init_54 miX2_31 (gk_X10 (by decide)) rfl (by decide) (by decide) (by decide) (by decide) (by decide) (Nat.le_of_ble_eq_true rfl) ?_
  refine GK.putR (q := 59) dX2_init_57 flX2_32 (by intro C T N h; cases h; rfl) rfl (by decide) rfl (fun _ => rfl) (fun _ => rfl) ?_
  refine GK.aload_n dX2_init_60 rfl rfl ?_
  refine GK.new dX2_init_61 nwX2_29 rfl (by decide) (by decide) (by decide) ?_
  refine GK.dup dX2_init_64 rfl ?_
  refine GK.init (b := 61) (n' := 63) (F' := kFX10 (clF (upF (kFX10 (clF (upF (clF (upF (clF (upF (muFn (upF (muFn (upF (clF (F) 46) 45 0 46) 47 5) 45 5 47) 53 3) 45 6 53) 57) 45 7 57) 58) 45 8 58) 59) 59) 45 9 59) 61) 61) (I' := kIX10 (upA (kIX10 (upA (upA (upA (muI (muI (upA (I) 46 (fun _ => 0)) 47 5) 53 3) 57 (fun _ => 0)) 58 (fun _ => 0)) 59 (fun _ => 0)) 59) 61 (fun _ => 0)) 61) dX2_init_65 miX2_31 (gk_X10 (by decide)) rfl (by decide) (by decide) (by decide) (by decide) (by decide) (Nat.le_of_ble_eq_true rfl) ?_
  refine GK.putR (q := 61) dX2_init_68 flX2_36 (by intro C T N h; cases h; rfl) rfl (by decide) rfl (fun _ => rfl) (fun _ => rfl) ?_
  exact GK.vret dX2_init_71 rfl rfl rfl
theorem dX6_init_0 : decode cX6_init 0 = .ok (.aload_n 0, 1) := by decide +kernel
theorem dX6_init_1 : decode cX6_init 1 = .ok (.invokespecial 3, 3) := by decide +kernel
theorem dX6_init_4 : decode cX6_init 4 = .ok (.aload_n 0, 1) := by decide +kernel
theorem dX6_init_5 : decode cX6_init 5 = .ok (.iconst 2, 1) := by decide +kernel
theorem dX6_init_6 : decode cX6_init 6 = .ok (.sipush 2341, 3) := by decide +kernel
theorem dX6_init_9 : decode cX6_init 9 = .ok (.multianewarray 9 2, 4) := by decide +kernel
theorem dX6_init_13 : decode cX6_init 13 = .ok (.putfield 11, 3) := by decide +kernel
theorem dX6_init_16 : decode cX6_init 16 = .ok (.aload_n 0, 1) := by decide +kernel
theorem dX6_init_17 : decode cX6_init 17 = .ok (.sipush 1250, 3) := by decide +kernel
theorem dX6_init_20 : decode cX6_init 20 = .ok (.newarray .int, 2) := by decide +kernel
theorem dX6_init_22 : decode cX6_init 22 = .ok (.putfield 16, 3) := by decide +kernel
theorem dX6_init_25 : decode cX6_init 25 = .ok (.aload_n 0, 1) := by decide +kernel
theorem dX6_init_26 : decode cX6_init 26 = .ok (.sipush 2341, 3) := by decide +kernel
theorem dX6_init_29 : decode cX6_init 29 = .ok (.newarray .int, 2) := by decide +kernel
theorem dX6_init_31 : decode cX6_init 31 = .ok (.putfield 20, 3) := by decide +kernel
theorem dX6_init_34 : decode cX6_init 34 = .ok (.aload_n 0, 1) := by decide +kernel
theorem dX6_init_35 : decode cX6_init 35 = .ok (.new 23, 3) := by decide +kernel
theorem dX6_init_38 : decode cX6_init 38 = .ok (.dup, 1) := by decide +kernel
theorem dX6_init_39 : decode cX6_init 39 = .ok (.invokespecial 25, 3) := by decide +kernel
theorem dX6_init_42 : decode cX6_init 42 = .ok (.putfield 26, 3) := by decide +kernel
theorem dX6_init_45 : decode cX6_init 45 = .ok (.return_, 1) := by decide +kernel
def kFX6 (F : KF) (b : Nat) : KF := upF (kFX10 (clF (upF (clF (upF (clF (upF (muFn (F) 64 2) 63 2 64) 67) 63 3 67) 68) 63 5 68) 69) 69) 63 6 69
def kIX6 (I : Mem) (b : Nat) : Mem := kIX10 (upA (upA (upA (muI (I) 64 2) 67 (fun _ => 0)) 68 (fun _ => 0)) 69 (fun _ => 0)) 69
set_option maxRecDepth 20000 in
theorem gk_X6 {E : EV} {F : KF} {I : Mem}  : Km E 2 7 8282 kX6_init [.ref 63] 64 F I (71, kFX6 F 63, kIX6 I 63) := by
  unfold kFX6 kIX6
  refine Km.of (L := [some (.ref 63)]) (by decide) rfl (Nat.le_of_ble_eq_true rfl) ?_
  refine GK.aload_n dX6_init_0 rfl rfl ?_
  refine GK.obj dX6_init_1 (mt 255 (by decide +kernel) rfl) objI objC (by decide) (by decide) (Nat.le_of_ble_eq_true rfl) ?_
  refine GK.aload_n dX6_init_4 rfl rfl ?_
  refine GK.iconst (v := 2) dX6_init_5 (by decide) ?_
  refine GK.sipush (v := 2341) dX6_init_6 (by decide) ?_
  refine GK.multi (N := 2) (M := 2341) dX6_init_9 (mt 256 (by decide +kernel) rfl) rfl rfl (by decide) (by decide) (by decide) (by decide) (by decide) (by decide) (by decide) (by decide) (by decide) (by decide) ?_
  refine GK.putR (q := 64) dX6_init_13 flX6_11 (by intro C T N h; cases h; rfl) rfl (by decide) rfl (fun _ => rfl) (fun _ => rfl) ?_
  refine GK.aload_n dX6_init_16 rfl rfl ?_
  refine GK.sipush (v := 1250) dX6_init_17 (by decide) ?_
  refine GK.newi (N := 1250) dX6_init_20 rfl rfl (by decide) rfl (by decide) (by decide) (by decide) (by decide) (by decide) acI ?_
  refine GK.putR (q := 67) dX6_init_22 flX6_16 (by intro C T N h; cases h; rfl) rfl (by decide) rfl (fun _ => rfl) (fun _ => rfl) ?_
  refine GK.aload_n dX6_init_25 rfl rfl ?_
  refine GK.sipush (v := 2341) dX6_init_26 (by decide) ?_
  refine GK.newi (N := 2341) dX6_init_29 rfl rfl (by decide) rfl (by decide) (by decide) (by decide) (by decide) (by decide) acI ?_
  refine GK.putR (q := 68) dX6_init_31 flX6_20 (by intro C T N h; cases h; rfl) rfl (by decide) rfl (fun _ => rfl) (fun _ => rfl) ?_
  refine GK.aload_n dX6_init_34 rfl rfl ?_
  refine GK.new dX6_init_35 nwX6_23 rfl (by decide) (by decide) (by decide) ?_
  refine GK.dup dX6_init_38 rfl ?_
  refine GK.init (b := 69) (n' := 71) (F' := kFX10 (clF (upF (clF (upF (clF (upF (muFn (F) 64 2) 63 2 64) 67) 63 3 67) 68) 63 5 68) 69) 69) (I' := kIX10 (upA (upA (upA (muI (I) 64 2) 67 (fun _ => 0)) 68 (fun _ => 0)) 69 (fun _ => 0)) 69) dX6_init_39 miX6_25 (gk_X10 (by decide)) rfl (by decide) (by decide) (by decide) (by decide) (by decide) (Nat.le_of_ble_eq_true rfl) ?_
  refine GK.putR (q := 69) dX6_init_42 flX6_26 (by intro C T N h; cases h; rfl) rfl (by decide) rfl (fun _ => rfl) (fun _ => rfl) ?_
  exact GK.vret dX6_init_45 rfl rfl rfl
theorem dX9_init_0 : decode cX9_init 0 = .ok (.aload_n 0, 1) := by decide +kernel
theorem dX9_init_1 : decode cX9_init 1 = .ok (.invokespecial 3, 3) := by decide +kernel
theorem dX9_init_4 : decode cX9_init 4 = .ok (.aload_n 0, 1) := by decide +kernel
theorem dX9_init_5 : decode cX9_init 5 = .ok (.bipush 7, 2) := by decide +kernel
theorem dX9_init_7 : decode cX9_init 7 = .ok (.newarray .int, 2) := by decide +kernel
theorem dX9_init_9 : decode cX9_init 9 = .ok (.putfield 9, 3) := by decide +kernel
theorem dX9_init_12 : decode cX9_init 12 = .ok (.aload_n 0, 1) := by decide +kernel
theorem dX9_init_13 : decode cX9_init 13 = .ok (.bipush 7, 2) := by decide +kernel
theorem dX9_init_15 : decode cX9_init 15 = .ok (.newarray .int, 2) := by decide +kernel
theorem dX9_init_17 : decode cX9_init 17 = .ok (.putfield 15, 3) := by decide +kernel
theorem dX9_init_20 : decode cX9_init 20 = .ok (.return_, 1) := by decide +kernel
def kFX9 (F : KF) (b : Nat) : KF := upF (clF (upF (clF (F) 72) 71 2 72) 73) 71 5 73
def kIX9 (I : Mem) (b : Nat) : Mem := upA (upA (I) 72 (fun _ => 0)) 73 (fun _ => 0)
set_option maxRecDepth 20000 in
theorem gk_X9 {E : EV} {F : KF} {I : Mem}  : Km E 1 2 14 kX9_init [.ref 71] 72 F I (74, kFX9 F 71, kIX9 I 71) := by
  unfold kFX9 kIX9
  refine Km.of (L := [some (.ref 71)]) (by decide) rfl (Nat.le_of_ble_eq_true rfl) ?_
  refine GK.aload_n dX9_init_0 rfl rfl ?_
  refine GK.obj dX9_init_1 (mt 286 (by decide +kernel) rfl) objI objC (by decide) (by decide) (Nat.le_of_ble_eq_true rfl) ?_
  refine GK.aload_n dX9_init_4 rfl rfl ?_
  refine GK.bipush (v := 7) dX9_init_5 (by decide) ?_
  refine GK.newi (N := 7) dX9_init_7 rfl rfl (by decide) rfl (by decide) (by decide) (by decide) (by decide) (by decide) acI ?_
  refine GK.putR (q := 72) dX9_init_9 flX9_9 (by intro C T N h; cases h; rfl) rfl (by decide) rfl (fun _ => rfl) (fun _ => rfl) ?_
  refine GK.aload_n dX9_init_12 rfl rfl ?_
  refine GK.bipush (v := 7) dX9_init_13 (by decide) ?_
  refine GK.newi (N := 7) dX9_init_15 rfl rfl (by decide) rfl (by decide) (by decide) (by decide) (by decide) (by decide) acI ?_
  refine GK.putR (q := 73) dX9_init_17 flX9_15 (by intro C T N h; cases h; rfl) rfl (by decide) rfl (fun _ => rfl) (fun _ => rfl) ?_
  exact GK.vret dX9_init_20 rfl rfl rfl
theorem dX11_init_0 : decode cX11_init 0 = .ok (.aload_n 0, 1) := by decide +kernel
theorem dX11_init_1 : decode cX11_init 1 = .ok (.invokespecial 1, 3) := by decide +kernel
theorem dX11_init_4 : decode cX11_init 4 = .ok (.aload_n 0, 1) := by decide +kernel
theorem dX11_init_5 : decode cX11_init 5 = .ok (.new 7, 3) := by decide +kernel
theorem dX11_init_8 : decode cX11_init 8 = .ok (.dup, 1) := by decide +kernel
theorem dX11_init_9 : decode cX11_init 9 = .ok (.invokespecial 9, 3) := by decide +kernel
theorem dX11_init_12 : decode cX11_init 12 = .ok (.putfield 10, 3) := by decide +kernel
theorem dX11_init_15 : decode cX11_init 15 = .ok (.aload_n 0, 1) := by decide +kernel
theorem dX11_init_16 : decode cX11_init 16 = .ok (.new 7, 3) := by decide +kernel
theorem dX11_init_19 : decode cX11_init 19 = .ok (.dup, 1) := by decide +kernel
theorem dX11_init_20 : decode cX11_init 20 = .ok (.invokespecial 9, 3) := by decide +kernel
theorem dX11_init_23 : decode cX11_init 23 = .ok (.putfield 16, 3) := by decide +kernel
theorem dX11_init_26 : decode cX11_init 26 = .ok (.aload_n 0, 1) := by decide +kernel
theorem dX11_init_27 : decode cX11_init 27 = .ok (.iconst 2, 1) := by decide +kernel
theorem dX11_init_28 : decode cX11_init 28 = .ok (.anewarray 7, 3) := by decide +kernel
theorem dX11_init_31 : decode cX11_init 31 = .ok (.dup, 1) := by decide +kernel
theorem dX11_init_32 : decode cX11_init 32 = .ok (.iconst 0, 1) := by decide +kernel
theorem dX11_init_33 : decode cX11_init 33 = .ok (.new 7, 3) := by decide +kernel
theorem dX11_init_36 : decode cX11_init 36 = .ok (.dup, 1) := by decide +kernel
theorem dX11_init_37 : decode cX11_init 37 = .ok (.invokespecial 9, 3) := by decide +kernel
theorem dX11_init_40 : decode cX11_init 40 = .ok (.aastore, 1) := by decide +kernel
theorem dX11_init_41 : decode cX11_init 41 = .ok (.dup, 1) := by decide +kernel
theorem dX11_init_42 : decode cX11_init 42 = .ok (.iconst 1, 1) := by decide +kernel
theorem dX11_init_43 : decode cX11_init 43 = .ok (.new 7, 3) := by decide +kernel
theorem dX11_init_46 : decode cX11_init 46 = .ok (.dup, 1) := by decide +kernel
theorem dX11_init_47 : decode cX11_init 47 = .ok (.invokespecial 9, 3) := by decide +kernel
theorem dX11_init_50 : decode cX11_init 50 = .ok (.aastore, 1) := by decide +kernel
theorem dX11_init_51 : decode cX11_init 51 = .ok (.putfield 19, 3) := by decide +kernel
theorem dX11_init_54 : decode cX11_init 54 = .ok (.aload_n 0, 1) := by decide +kernel
theorem dX11_init_55 : decode cX11_init 55 = .ok (.iconst 2, 1) := by decide +kernel
theorem dX11_init_56 : decode cX11_init 56 = .ok (.newarray .boolean, 2) := by decide +kernel
theorem dX11_init_58 : decode cX11_init 58 = .ok (.putfield 23, 3) := by decide +kernel
theorem dX11_init_61 : decode cX11_init 61 = .ok (.aload_n 0, 1) := by decide +kernel
theorem dX11_init_62 : decode cX11_init 62 = .ok (.new 27, 3) := by decide +kernel
theorem dX11_init_65 : decode cX11_init 65 = .ok (.dup, 1) := by decide +kernel
theorem dX11_init_66 : decode cX11_init 66 = .ok (.invokespecial 29, 3) := by decide +kernel
theorem dX11_init_69 : decode cX11_init 69 = .ok (.putfield 30, 3) := by decide +kernel
theorem dX11_init_72 : decode cX11_init 72 = .ok (.aload_n 0, 1) := by decide +kernel
theorem dX11_init_73 : decode cX11_init 73 = .ok (.iconst 5, 1) := by decide +kernel
theorem dX11_init_74 : decode cX11_init 74 = .ok (.anewarray 34, 3) := by decide +kernel
theorem dX11_init_77 : decode cX11_init 77 = .ok (.dup, 1) := by decide +kernel
theorem dX11_init_78 : decode cX11_init 78 = .ok (.iconst 0, 1) := by decide +kernel
theorem dX11_init_79 : decode cX11_init 79 = .ok (.new 34, 3) := by decide +kernel
theorem dX11_init_82 : decode cX11_init 82 = .ok (.dup, 1) := by decide +kernel
theorem dX11_init_83 : decode cX11_init 83 = .ok (.invokespecial 36, 3) := by decide +kernel
theorem dX11_init_86 : decode cX11_init 86 = .ok (.aastore, 1) := by decide +kernel
theorem dX11_init_87 : decode cX11_init 87 = .ok (.dup, 1) := by decide +kernel
theorem dX11_init_88 : decode cX11_init 88 = .ok (.iconst 1, 1) := by decide +kernel
theorem dX11_init_89 : decode cX11_init 89 = .ok (.new 37, 3) := by decide +kernel
theorem dX11_init_92 : decode cX11_init 92 = .ok (.dup, 1) := by decide +kernel
theorem dX11_init_93 : decode cX11_init 93 = .ok (.invokespecial 39, 3) := by decide +kernel
theorem dX11_init_96 : decode cX11_init 96 = .ok (.aastore, 1) := by decide +kernel
theorem dX11_init_97 : decode cX11_init 97 = .ok (.dup, 1) := by decide +kernel
theorem dX11_init_98 : decode cX11_init 98 = .ok (.iconst 2, 1) := by decide +kernel
theorem dX11_init_99 : decode cX11_init 99 = .ok (.new 40, 3) := by decide +kernel
theorem dX11_init_102 : decode cX11_init 102 = .ok (.dup, 1) := by decide +kernel
theorem dX11_init_103 : decode cX11_init 103 = .ok (.invokespecial 42, 3) := by decide +kernel
theorem dX11_init_106 : decode cX11_init 106 = .ok (.aastore, 1) := by decide +kernel
theorem dX11_init_107 : decode cX11_init 107 = .ok (.dup, 1) := by decide +kernel
theorem dX11_init_108 : decode cX11_init 108 = .ok (.iconst 3, 1) := by decide +kernel
theorem dX11_init_109 : decode cX11_init 109 = .ok (.new 43, 3) := by decide +kernel
theorem dX11_init_112 : decode cX11_init 112 = .ok (.dup, 1) := by decide +kernel
theorem dX11_init_113 : decode cX11_init 113 = .ok (.invokespecial 45, 3) := by decide +kernel
theorem dX11_init_116 : decode cX11_init 116 = .ok (.aastore, 1) := by decide +kernel
theorem dX11_init_117 : decode cX11_init 117 = .ok (.dup, 1) := by decide +kernel
theorem dX11_init_118 : decode cX11_init 118 = .ok (.iconst 4, 1) := by decide +kernel
theorem dX11_init_119 : decode cX11_init 119 = .ok (.new 46, 3) := by decide +kernel
theorem dX11_init_122 : decode cX11_init 122 = .ok (.dup, 1) := by decide +kernel
theorem dX11_init_123 : decode cX11_init 123 = .ok (.invokespecial 48, 3) := by decide +kernel
theorem dX11_init_126 : decode cX11_init 126 = .ok (.aastore, 1) := by decide +kernel
theorem dX11_init_127 : decode cX11_init 127 = .ok (.putfield 49, 3) := by decide +kernel
theorem dX11_init_130 : decode cX11_init 130 = .ok (.aload_n 0, 1) := by decide +kernel
theorem dX11_init_131 : decode cX11_init 131 = .ok (.new 53, 3) := by decide +kernel
theorem dX11_init_134 : decode cX11_init 134 = .ok (.dup, 1) := by decide +kernel
theorem dX11_init_135 : decode cX11_init 135 = .ok (.invokespecial 55, 3) := by decide +kernel
theorem dX11_init_138 : decode cX11_init 138 = .ok (.putfield 56, 3) := by decide +kernel
theorem dX11_init_141 : decode cX11_init 141 = .ok (.aload_n 0, 1) := by decide +kernel
theorem dX11_init_142 : decode cX11_init 142 = .ok (.new 60, 3) := by decide +kernel
theorem dX11_init_145 : decode cX11_init 145 = .ok (.dup, 1) := by decide +kernel
theorem dX11_init_146 : decode cX11_init 146 = .ok (.invokespecial 62, 3) := by decide +kernel
theorem dX11_init_149 : decode cX11_init 149 = .ok (.putfield 63, 3) := by decide +kernel
theorem dX11_init_152 : decode cX11_init 152 = .ok (.aload_n 0, 1) := by decide +kernel
theorem dX11_init_153 : decode cX11_init 153 = .ok (.new 67, 3) := by decide +kernel
theorem dX11_init_156 : decode cX11_init 156 = .ok (.dup, 1) := by decide +kernel
theorem dX11_init_157 : decode cX11_init 157 = .ok (.invokespecial 69, 3) := by decide +kernel
theorem dX11_init_160 : decode cX11_init 160 = .ok (.putfield 70, 3) := by decide +kernel
theorem dX11_init_163 : decode cX11_init 163 = .ok (.aload_n 0, 1) := by decide +kernel
theorem dX11_init_164 : decode cX11_init 164 = .ok (.new 74, 3) := by decide +kernel
theorem dX11_init_167 : decode cX11_init 167 = .ok (.dup, 1) := by decide +kernel
theorem dX11_init_168 : decode cX11_init 168 = .ok (.invokespecial 76, 3) := by decide +kernel
theorem dX11_init_171 : decode cX11_init 171 = .ok (.putfield 77, 3) := by decide +kernel
theorem dX11_init_174 : decode cX11_init 174 = .ok (.return_, 1) := by decide +kernel
def kFX11 (F : KF) (b : Nat) : KF := upF (kFX9 (clF (upF (kFX6 (clF (upF (kFX2 (clF (upF (kFX10 (clF (upF (upF (kFX0 (clF (upF (kFX7 (clF (upF (kFX3 (clF (upF (kFX1 (clF (upF (kFX5 (clF (clF (upF (kFX8 (clF (upF (clF (upF (upF (kFX4 (clF (upF (kFX4 (clF (clF (upF (kFX4 (clF (upF (kFX4 (clF (F) 1) 1) 0 0 1) 9) 9) 0 1 9) 17) 18) 18) 17 0 18) 26) 26) 17 1 26) 0 2 17) 34) 0 3 34) 35) 35) 0 4 35) 37) 38) 38) 37 0 38) 39) 39) 37 1 39) 40) 40) 37 2 40) 41) 41) 37 3 41) 42) 42) 37 4 42) 0 5 37) 43) 43) 0 6 43) 45) 45) 0 7 45) 63) 63) 0 8 63) 71) 71) 0 9 71
def kIX11 (I : Mem) (b : Nat) : Mem := kIX9 (upA (kIX6 (upA (kIX2 (upA (kIX10 (upA (kIX0 (upA (kIX7 (upA (kIX3 (upA (kIX1 (upA (kIX5 (upA (upA (kIX8 (upA (upA (kIX4 (upA (kIX4 (upA (upA (kIX4 (upA (kIX4 (upA (I) 1 (fun _ => 0)) 1) 9 (fun _ => 0)) 9) 17 (fun _ => 0)) 18 (fun _ => 0)) 18) 26 (fun _ => 0)) 26) 34 (fun _ => 0)) 35 (fun _ => 0)) 35) 37 (fun _ => 0)) 38 (fun _ => 0)) 38) 39 (fun _ => 0)) 39) 40 (fun _ => 0)) 40) 41 (fun _ => 0)) 41) 42 (fun _ => 0)) 42) 43 (fun _ => 0)) 43) 45 (fun _ => 0)) 45) 63 (fun _ => 0)) 63) 71 (fun _ => 0)) 71
set_option maxRecDepth 20000 in
theorem gk_X11 {E : EV} {F : KF} {I : Mem}  : Km E 4 73 18511 kX11_init [.ref 0] 1 F I (74, kFX11 F 0, kIX11 I 0) := by
  unfold kFX11 kIX11
  refine Km.of (L := [some (.ref 0)]) (by decide) rfl (Nat.le_of_ble_eq_true rfl) ?_
  refine GK.aload_n dX11_init_0 rfl rfl ?_
  refine GK.obj dX11_init_1 (mt 27 (by decide +kernel) rfl) objI objC (by decide) (by decide) (Nat.le_of_ble_eq_true rfl) ?_
  refine GK.aload_n dX11_init_4 rfl rfl ?_
  refine GK.new dX11_init_5 nwX11_7 rfl (by decide) (by decide) (by decide) ?_
  refine GK.dup dX11_init_8 rfl ?_
  refine GK.init (b := 1) (n' := 9) (F' := kFX4 (clF (F) 1) 1) (I' := kIX4 (upA (I) 1 (fun _ => 0)) 1) dX11_init_9 miX11_9 (gk_X4 (by decide)) rfl (by decide) (by decide) (by decide) (by decide) (by decide) (Nat.le_of_ble_eq_true rfl) ?_
  refine GK.putR (q := 1) dX11_init_12 flX11_10 (by intro C T N h; cases h; rfl) rfl (by decide) rfl (fun _ => rfl) (fun _ => rfl) ?_
  refine GK.aload_n dX11_init_15 rfl rfl ?_
  refine GK.new dX11_init_16 nwX11_7 rfl (by decide) (by decide) (by decide) ?_
  refine GK.dup dX11_init_19 rfl ?_
  refine GK.init (b := 9) (n' := 17) (F' := kFX4 (clF (upF (kFX4 (clF (F) 1) 1) 0 0 1) 9) 9) (I' := kIX4 (upA (kIX4 (upA (I) 1 (fun _ => 0)) 1) 9 (fun _ => 0)) 9) dX11_init_20 miX11_9 (gk_X4 (by decide)) rfl (by decide) (by decide) (by decide) (by decide) (by decide) (Nat.le_of_ble_eq_true rfl) ?_
  refine GK.putR (q := 9) dX11_init_23 flX11_16 (by intro C T N h; cases h; rfl) rfl (by decide) rfl (fun _ => rfl) (fun _ => rfl) ?_
  refine GK.aload_n dX11_init_26 rfl rfl ?_
  refine GK.iconst (v := 2) dX11_init_27 (by decide) ?_
  refine GK.newq (N := 2) (t := 2) dX11_init_28 (Or.inl ⟨rfl, rfl, rfl⟩) (mt 30 (by decide +kernel) rfl) (by decide) rfl (by decide) (by decide) (by decide) (by decide) (by decide) ?_
  refine GK.dup dX11_init_31 rfl ?_
  refine GK.iconst (v := 0) dX11_init_32 (by decide) ?_
  refine GK.new dX11_init_33 nwX11_7 rfl (by decide) (by decide) (by decide) ?_
  refine GK.dup dX11_init_36 rfl ?_
  refine GK.init (b := 18) (n' := 26) (F' := kFX4 (clF (clF (upF (kFX4 (clF (upF (kFX4 (clF (F) 1) 1) 0 0 1) 9) 9) 0 1 9) 17) 18) 18) (I' := kIX4 (upA (upA (kIX4 (upA (kIX4 (upA (I) 1 (fun _ => 0)) 1) 9 (fun _ => 0)) 9) 17 (fun _ => 0)) 18 (fun _ => 0)) 18) dX11_init_37 miX11_9 (gk_X4 (by decide)) rfl (by decide) (by decide) (by decide) (by decide) (by decide) (Nat.le_of_ble_eq_true rfl) ?_
  refine GK.astH (i := 0) dX11_init_40 (by decide) rfl (by decide) rfl (by decide) (by decide) (by decide) ?_
  refine GK.dup dX11_init_41 rfl ?_
  refine GK.iconst (v := 1) dX11_init_42 (by decide) ?_
  refine GK.new dX11_init_43 nwX11_7 rfl (by decide) (by decide) (by decide) ?_
  refine GK.dup dX11_init_46 rfl ?_
  refine GK.init (b := 26) (n' := 34) (F' := kFX4 (clF (upF (kFX4 (clF (clF (upF (kFX4 (clF (upF (kFX4 (clF (F) 1) 1) 0 0 1) 9) 9) 0 1 9) 17) 18) 18) 17 0 18) 26) 26) (I' := kIX4 (upA (kIX4 (upA (upA (kIX4 (upA (kIX4 (upA (I) 1 (fun _ => 0)) 1) 9 (fun _ => 0)) 9) 17 (fun _ => 0)) 18 (fun _ => 0)) 18) 26 (fun _ => 0)) 26) dX11_init_47 miX11_9 (gk_X4 (by decide)) rfl (by decide) (by decide) (by decide) (by decide) (by decide) (Nat.le_of_ble_eq_true rfl) ?_
  refine GK.astH (i := 1) dX11_init_50 (by decide) rfl (by decide) rfl (by decide) (by decide) (by decide) ?_
  refine GK.putR (q := 17) dX11_init_51 flX11_19 (by intro C T N h; cases h; rfl) rfl (by decide) rfl (fun _ => rfl) (fun _ => rfl) ?_
  refine GK.aload_n dX11_init_54 rfl rfl ?_
  refine GK.iconst (v := 2) dX11_init_55 (by decide) ?_
  refine GK.newz (N := 2) dX11_init_56 rfl rfl (by decide) rfl (by decide) (by decide) (by decide) (by decide) (by decide) acZ ?_
  refine GK.putR (q := 34) dX11_init_58 flX11_23 (by intro C T N h; cases h; rfl) rfl (by decide) rfl (fun _ => rfl) (fun _ => rfl) ?_
  refine GK.aload_n dX11_init_61 rfl rfl ?_
  refine GK.new dX11_init_62 nwX11_27 rfl (by decide) (by decide) (by decide) ?_
  refine GK.dup dX11_init_65 rfl ?_
  refine GK.init (b := 35) (n' := 37) (F' := kFX8 (clF (upF (clF (upF (upF (kFX4 (clF (upF (kFX4 (clF (clF (upF (kFX4 (clF (upF (kFX4 (clF (F) 1) 1) 0 0 1) 9) 9) 0 1 9) 17) 18) 18) 17 0 18) 26) 26) 17 1 26) 0 2 17) 34) 0 3 34) 35) 35) (I' := kIX8 (upA (upA (kIX4 (upA (kIX4 (upA (upA (kIX4 (upA (kIX4 (upA (I) 1 (fun _ => 0)) 1) 9 (fun _ => 0)) 9) 17 (fun _ => 0)) 18 (fun _ => 0)) 18) 26 (fun _ => 0)) 26) 34 (fun _ => 0)) 35 (fun _ => 0)) 35) dX11_init_66 miX11_29 (gk_X8) rfl (by decide) (by decide) (by decide) (by decide) (by decide) (Nat.le_of_ble_eq_true rfl) ?_
  refine GK.putR (q := 35) dX11_init_69 flX11_30 (by intro C T N h; cases h; rfl) rfl (by decide) rfl (fun _ => rfl) (fun _ => rfl) ?_
  refine GK.aload_n dX11_init_72 rfl rfl ?_
  refine GK.iconst (v := 5) dX11_init_73 (by decide) ?_
  refine GK.newq (N := 5) (t := 3) dX11_init_74 (Or.inr ⟨rfl, rfl, rfl⟩) (mt 149 (by decide +kernel) rfl) (by decide) rfl (by decide) (by decide) (by decide) (by decide) (by decide) ?_
  refine GK.dup dX11_init_77 rfl ?_
  refine GK.iconst (v := 0) dX11_init_78 (by decide) ?_
  refine GK.new dX11_init_79 nwX11_34 rfl (by decide) (by decide) (by decide) ?_
  refine GK.dup dX11_init_82 rfl ?_
  refine GK.init (b := 38) (n' := 39) (F' := kFX5 (clF (clF (upF (kFX8 (clF (upF (clF (upF (upF (kFX4 (clF (upF (kFX4 (clF (clF (upF (kFX4 (clF (upF (kFX4 (clF (F) 1) 1) 0 0 1) 9) 9) 0 1 9) 17) 18) 18) 17 0 18) 26) 26) 17 1 26) 0 2 17) 34) 0 3 34) 35) 35) 0 4 35) 37) 38) 38) (I' := kIX5 (upA (upA (kIX8 (upA (upA (kIX4 (upA (kIX4 (upA (upA (kIX4 (upA (kIX4 (upA (I) 1 (fun _ => 0)) 1) 9 (fun _ => 0)) 9) 17 (fun _ => 0)) 18 (fun _ => 0)) 18) 26 (fun _ => 0)) 26) 34 (fun _ => 0)) 35 (fun _ => 0)) 35) 37 (fun _ => 0)) 38 (fun _ => 0)) 38) dX11_init_83 miX11_36 (gk_X5 (by decide)) rfl (by decide) (by decide) (by decide) (by decide) (by decide) (Nat.le_of_ble_eq_true rfl) ?_
  refine GK.astO (i := 0) dX11_init_86 (by decide) rfl (by decide) rfl (by decide) (by decide) (by decide) ?_
  refine GK.dup dX11_init_87 rfl ?_
  refine GK.iconst (v := 1) dX11_init_88 (by decide) ?_
  refine GK.new dX11_init_89 nwX11_37 rfl (by decide) (by decide) (by decide) ?_
  refine GK.dup dX11_init_92 rfl ?_
  refine GK.init (b := 39) (n' := 40) (F' := kFX1 (clF (upF (kFX5 (clF (clF (upF (kFX8 (clF (upF (clF (upF (upF (kFX4 (clF (upF (kFX4 (clF (clF (upF (kFX4 (clF (upF (kFX4 (clF (F) 1) 1) 0 0 1) 9) 9) 0 1 9) 17) 18) 18) 17 0 18) 26) 26) 17 1 26) 0 2 17) 34) 0 3 34) 35) 35) 0 4 35) 37) 38) 38) 37 0 38) 39) 39) (I' := kIX1 (upA (kIX5 (upA (upA (kIX8 (upA (upA (kIX4 (upA (kIX4 (upA (upA (kIX4 (upA (kIX4 (upA (I) 1 (fun _ => 0)) 1) 9 (fun _ => 0)) 9) 17 (fun _ => 0)) 18 (fun _ => 0)) 18) 26 (fun _ => 0)) 26) 34 (fun _ => 0)) 35 (fun _ => 0)) 35) 37 (fun _ => 0)) 38 (fun _ => 0)) 38) 39 (fun _ => 0)) 39) dX11_init_93 miX11_39 (gk_X1 (by decide)) rfl (by decide) (by decide) (by decide) (by decide) (by decide) (Nat.le_of_ble_eq_true rfl) ?_
  refine GK.astS (i := 1) dX11_init_96 (by decide) rfl (by decide) rfl rfl (by decide) (by decide) (by decide) (by decide) (by decide) ?_
  refine GK.dup dX11_init_97 rfl ?_
  refine GK.iconst (v := 2) dX11_init_98 (by decide) ?_
  refine GK.new dX11_init_99 nwX11_40 rfl (by decide) (by decide) (by decide) ?_
  refine GK.dup dX11_init_102 rfl ?_
  refine GK.init (b := 40) (n' := 41) (F' := kFX3 (clF (upF (kFX1 (clF (upF (kFX5 (clF (clF (upF (kFX8 (clF (upF (clF (upF (upF (kFX4 (clF (upF (kFX4 (clF (clF (upF (kFX4 (clF (upF (kFX4 (clF (F) 1) 1) 0 0 1) 9) 9) 0 1 9) 17) 18) 18) 17 0 18) 26) 26) 17 1 26) 0 2 17) 34) 0 3 34) 35) 35) 0 4 35) 37) 38) 38) 37 0 38) 39) 39) 37 1 39) 40) 40) (I' := kIX3 (upA (kIX1 (upA (kIX5 (upA (upA (kIX8 (upA (upA (kIX4 (upA (kIX4 (upA (upA (kIX4 (upA (kIX4 (upA (I) 1 (fun _ => 0)) 1) 9 (fun _ => 0)) 9) 17 (fun _ => 0)) 18 (fun _ => 0)) 18) 26 (fun _ => 0)) 26) 34 (fun _ => 0)) 35 (fun _ => 0)) 35) 37 (fun _ => 0)) 38 (fun _ => 0)) 38) 39 (fun _ => 0)) 39) 40 (fun _ => 0)) 40) dX11_init_103 miX11_42 (gk_X3 (by decide)) rfl (by decide) (by decide) (by decide) (by decide) (by decide) (Nat.le_of_ble_eq_true rfl) ?_
  refine GK.astS (i := 2) dX11_init_106 (by decide) rfl (by decide) rfl rfl (by decide) (by decide) (by decide) (by decide) (by decide) ?_
  refine GK.dup dX11_init_107 rfl ?_
  refine GK.iconst (v := 3) dX11_init_108 (by decide) ?_
  refine GK.new dX11_init_109 nwX11_43 rfl (by decide) (by decide) (by decide) ?_
  refine GK.dup dX11_init_112 rfl ?_
  refine GK.init (b := 41) (n' := 42) (F' := kFX7 (clF (upF (kFX3 (clF (upF (kFX1 (clF (upF (kFX5 (clF (clF (upF (kFX8 (clF (upF (clF (upF (upF (kFX4 (clF (upF (kFX4 (clF (clF (upF (kFX4 (clF (upF (kFX4 (clF (F) 1) 1) 0 0 1) 9) 9) 0 1 9) 17) 18) 18) 17 0 18) 26) 26) 17 1 26) 0 2 17) 34) 0 3 34) 35) 35) 0 4 35) 37) 38) 38) 37 0 38) 39) 39) 37 1 39) 40) 40) 37 2 40) 41) 41) (I' := kIX7 (upA (kIX3 (upA (kIX1 (upA (kIX5 (upA (upA (kIX8 (upA (upA (kIX4 (upA (kIX4 (upA (upA (kIX4 (upA (kIX4 (upA (I) 1 (fun _ => 0)) 1) 9 (fun _ => 0)) 9) 17 (fun _ => 0)) 18 (fun _ => 0)) 18) 26 (fun _ => 0)) 26) 34 (fun _ => 0)) 35 (fun _ => 0)) 35) 37 (fun _ => 0)) 38 (fun _ => 0)) 38) 39 (fun _ => 0)) 39) 40 (fun _ => 0)) 40) 41 (fun _ => 0)) 41) dX11_init_113 miX11_45 (gk_X7) rfl (by decide) (by decide) (by decide) (by decide) (by decide) (Nat.le_of_ble_eq_true rfl) ?_
  refine GK.astS (i := 3) dX11_init_116 (by decide) rfl (by decide) rfl rfl (by decide) (by decide) (by decide) (by decide) (by decide) ?_
  refine GK.dup dX11_init_117 rfl ?_
  refine GK.iconst (v := 4) dX11_init_118 (by decide) ?_
  refine GK.new dX11_init_119 nwX11_46 rfl (by decide) (by decide) (by decide) ?_
  refine GK.dup dX11_init_122 rfl ?_
  refine GK.init (b := 42) (n' := 43) (F' := kFX0 (clF (upF (kFX7 (clF (upF (kFX3 (clF (upF (kFX1 (clF (upF (kFX5 (clF (clF (upF (kFX8 (clF (upF (clF (upF (upF (kFX4 (clF (upF (kFX4 (clF (clF (upF (kFX4 (clF (upF (kFX4 (clF (F) 1) 1) 0 0 1) 9) 9) 0 1 9) 17) 18) 18) 17 0 18) 26) 26) 17 1 26) 0 2 17) 34) 0 3 34) 35) 35) 0 4 35) 37) 38) 38) 37 0 38) 39) 39) 37 1 39) 40) 40) 37 2 40) 41) 41) 37 3 41) 42) 42) (I' := kIX0 (upA (kIX7 (upA (kIX3 (upA (kIX1 (upA (kIX5 (upA (upA (kIX8 (upA (upA (kIX4 (upA (kIX4 (upA (upA (kIX4 (upA (kIX4 (upA (I) 1 (fun _ => 0)) 1) 9 (fun _ => 0)) 9) 17 (fun _ => 0)) 18 (fun _ => 0)) 18) 26 (fun _ => 0)) 26) 34 (fun _ => 0)) 35 (fun _ => 0)) 35) 37 (fun _ => 0)) 38 (fun _ => 0)) 38) 39 (fun _ => 0)) 39) 40 (fun _ => 0)) 40) 41 (fun _ => 0)) 41) 42 (fun _ => 0)) 42) dX11_init_123 miX11_48 (gk_X0) rfl (by decide) (by decide) (by decide) (by decide) (by decide) (Nat.le_of_ble_eq_true rfl) ?_
  refine GK.astS (i := 4) dX11_init_126 (by decide) rfl (by decide) rfl rfl (by decide) (by decide) (by decide) (by decide) (by decide) ?_
  refine GK.putR (q := 37) dX11_init_127 flX11_49 (by intro C T N h; cases h; rfl) rfl (by decide) rfl (fun _ => rfl) (fun _ => rfl) ?_
  refine GK.aload_n dX11_init_130 rfl rfl ?_
  refine GK.new dX11_init_131 nwX11_53 rfl (by decide) (by decide) (by decide) ?_
  refine GK.dup dX11_init_134 rfl ?_
  refine GK.init (b := 43) (n' := 45) (F' := kFX10 (clF (upF (upF (kFX0 (clF (upF (kFX7 (clF (upF (kFX3 (clF (upF (kFX1 (clF (upF (kFX5 (clF (clF (upF (kFX8 (clF (upF (clF (upF (upF (kFX4 (clF (upF (kFX4 (clF (clF (upF (kFX4 (clF (upF (kFX4 (clF (F) 1) 1) 0 0 1) 9) 9) 0 1 9) 17) 18) 18) 17 0 18) 26) 26) 17 1 26) 0 2 17) 34) 0 3 34) 35) 35) 0 4 35) 37) 38) 38) 37 0 38) 39) 39) 37 1 39) 40) 40) 37 2 40) 41) 41) 37 3 41) 42) 42) 37 4 42) 0 5 37) 43) 43) (I' := kIX10 (upA (kIX0 (upA (kIX7 (upA (kIX3 (upA (kIX1 (upA (kIX5 (upA (upA (kIX8 (upA (upA (kIX4 (upA (kIX4 (upA (upA (kIX4 (upA (kIX4 (upA (I) 1 (fun _ => 0)) 1) 9 (fun _ => 0)) 9) 17 (fun _ => 0)) 18 (fun _ => 0)) 18) 26 (fun _ => 0)) 26) 34 (fun _ => 0)) 35 (fun _ => 0)) 35) 37 (fun _ => 0)) 38 (fun _ => 0)) 38) 39 (fun _ => 0)) 39) 40 (fun _ => 0)) 40) 41 (fun _ => 0)) 41) 42 (fun _ => 0)) 42) 43 (fun _ => 0)) 43) dX11_init_135 miX11_55 (gk_X10 (by decide)) rfl (by decide) (by decide) (by decide) (by decide) (by decide) (Nat.le_of_ble_eq_true rfl) ?_
  refine GK.putR (q := 43) dX11_init_138 flX11_56 (by intro C T N h; cases h; rfl) rfl (by decide) rfl (fun _ => rfl) (fun _ => rfl) ?_
  refine GK.aload_n dX11_init_141 rfl rfl ?_
  refine GK.new dX11_init_142 nwX11_60 rfl (by decide) (by decide) (by decide) ?_
  refine GK.dup dX11_init_145 rfl ?_
  refine GK.init (b := 45) (n' := 63) (F' := kFX2 (clF (upF (kFX10 (clF (upF (upF (kFX0 (clF (upF (kFX7 (clF (upF (kFX3 (clF (upF (kFX1 (clF (upF (kFX5 (clF (clF (upF (kFX8 (clF (upF (clF (upF (upF (kFX4 (clF (upF (kFX4 (clF (clF (upF (kFX4 (clF (upF (kFX4 (clF (F) 1) 1) 0 0 1) 9) 9) 0 1 9) 17) 18) 18) 17 0 18) 26) 26) 17 1 26) 0 2 17) 34) 0 3 34) 35) 35) 0 4 35) 37) 38) 38) 37 0 38) 39) 39) 37 1 39) 40) 40) 37 2 40) 41) 41) 37 3 41) 42) 42) 37 4 42) 0 5 37) 43) 43) 0 6 43) 45) 45) (I' := kIX2 (upA (kIX10 (upA (kIX0 (upA (kIX7 (upA (kIX3 (upA (kIX1 (upA (kIX5 (upA (upA (kIX8 (upA (upA (kIX4 (upA (kIX4 (upA (upA (kIX4 (upA (kIX4 (upA (I) 1 (fun _ => 0)) 1) 9 (fun _ => 0)) 9) 17 (fun _ => 0)) 18 (fun _ => 0)) 18) 26 (fun _ => 0)) 26) 34 (fun _ => 0)) 35 (fun _ => 0)) 35) 37 (fun _ => 0)) 38 (fun _ => 0)) 38) 39 (fun _ => 0)) 39) 40 (fun _ => 0)) 40) 41 (fun _ => 0)) 41) 42 (fun _ => 0)) 42) 43 (fun _ => 0)) 43) 45 (fun _ => 0)) 45) dX11_init_146 miX11_62 (gk_X2) rfl (by decide) (by decide) (by decide) (by decide) (by decide) (Nat.le_of_ble_eq_true rfl) ?_
  refine GK.putR (q := 45) dX11_init_149 flX11_63 (by intro C T N h; cases h; rfl) rfl (by decide) rfl (fun _ => rfl) (fun _ => rfl) ?_
  refine GK.aload_n dX11_init_152 rfl rfl ?_
  refine GK.new dX11_init_153 nwX11_67 rfl (by decide) (by decide) (by decide) ?_
  refine GK.dup dX11_init_156 rfl ?_
  refine GK.init (b := 63) (n' := 71) (F' := kFX6 (clF (upF (kFX2 (clF (upF (kFX10 (clF (upF (upF (kFX0 (clF (upF (kFX7 (clF (upF (kFX3 (clF (upF (kFX1 (clF (upF (kFX5 (clF (clF (upF (kFX8 (clF (upF (clF (upF (upF (kFX4 (clF (upF (kFX4 (clF (clF (upF (kFX4 (clF (upF (kFX4 (clF (F) 1) 1) 0 0 1) 9) 9) 0 1 9) 17) 18) 18) 17 0 18) 26) 26) 17 1 26) 0 2 17) 34) 0 3 34) 35) 35) 0 4 35) 37) 38) 38) 37 0 38) 39) 39) 37 1 39) 40) 40) 37 2 40) 41) 41) 37 3 41) 42) 42) 37 4 42) 0 5 37) 43) 43) 0 6 43) 45) 45) 0 7 45) 63) 63) (I' := kIX6 (upA (kIX2 (upA (kIX10 (upA (kIX0 (upA (kIX7 (upA (kIX3 (upA (kIX1 (upA (kIX5 (upA (upA (kIX8 (upA (upA (kIX4 (upA (kIX4 (upA (upA (kIX4 (upA (kIX4 (upA (I) 1 (fun _ => 0)) 1) 9 (fun _ => 0)) 9) 17 (fun _ => 0)) 18 (fun _ => 0)) 18) 26 (fun _ => 0)) 26) 34 (fun _ => 0)) 35 (fun _ => 0)) 35) 37 (fun _ => 0)) 38 (fun _ => 0)) 38) 39 (fun _ => 0)) 39) 40 (fun _ => 0)) 40) 41 (fun _ => 0)) 41) 42 (fun _ => 0)) 42) 43 (fun _ => 0)) 43) 45 (fun _ => 0)) 45) 63 (fun _ => 0)) 63) dX11_init_157 miX11_69 (gk_X6) rfl (by decide) (by decide) (by decide) (by decide) (by decide) (Nat.le_of_ble_eq_true rfl) ?_
  refine GK.putR (q := 63) dX11_init_160 flX11_70 (by intro C T N h; cases h; rfl) rfl (by decide) rfl (fun _ => rfl) (fun _ => rfl) ?_
  refine GK.aload_n dX11_init_163 rfl rfl ?_
  refine GK.new dX11_init_164 nwX11_74 rfl (by decide) (by decide) (by decide) ?_
  refine GK.dup dX11_init_167 rfl ?_
  refine GK.init (b := 71) (n' := 74) (F' := kFX9 (clF (upF (kFX6 (clF (upF (kFX2 (clF (upF (kFX10 (clF (upF (upF (kFX0 (clF (upF (kFX7 (clF (upF (kFX3 (clF (upF (kFX1 (clF (upF (kFX5 (clF (clF (upF (kFX8 (clF (upF (clF (upF (upF (kFX4 (clF (upF (kFX4 (clF (clF (upF (kFX4 (clF (upF (kFX4 (clF (F) 1) 1) 0 0 1) 9) 9) 0 1 9) 17) 18) 18) 17 0 18) 26) 26) 17 1 26) 0 2 17) 34) 0 3 34) 35) 35) 0 4 35) 37) 38) 38) 37 0 38) 39) 39) 37 1 39) 40) 40) 37 2 40) 41) 41) 37 3 41) 42) 42) 37 4 42) 0 5 37) 43) 43) 0 6 43) 45) 45) 0 7 45) 63) 63) 0 8 63) 71) 71) (I' := kIX9 (upA (kIX6 (upA (kIX2 (upA (kIX10 (upA (kIX0 (upA (kIX7 (upA (kIX3 (upA (kIX1 (upA (kIX5 (upA (upA (kIX8 (upA (upA (kIX4 (upA (kIX4 (upA (upA (kIX4 (upA (kIX4 (upA (I) 1 (fun _ => 0)) 1) 9 (fun _ => 0)) 9) 17 (fun _ => 0)) 18 (fun _ => 0)) 18) 26 (fun _ => 0)) 26) 34 (fun _ => 0)) 35 (fun _ => 0)) 35) 37 (fun _ => 0)) 38 (fun _ => 0)) 38) 39 (fun _ => 0)) 39) 40 (fun _ => 0)) 40) 41 (fun _ => 0)) 41) 42 (fun _ => 0)) 42) 43 (fun _ => 0)) 43) 45 (fun _ => 0)) 45) 63 (fun _ => 0)) 63) 71 (fun _ => 0)) 71) dX11_init_168 miX11_76 (gk_X9) rfl (by decide) (by decide) (by decide) (by decide) (by decide) (Nat.le_of_ble_eq_true rfl) ?_
  refine GK.putR (q := 71) dX11_init_171 flX11_77 (by intro C T N h; cases h; rfl) rfl (by decide) rfl (fun _ => rfl) (fun _ => rfl) ?_
  exact GK.vret dX11_init_174 rfl rfl rfl
theorem dX12_init_0 : decode cX12_init 0 = .ok (.aload_n 0, 1) := by decide +kernel
theorem dX12_init_1 : decode cX12_init 1 = .ok (.invokespecial 1, 3) := by decide +kernel
theorem dX12_init_4 : decode cX12_init 4 = .ok (.aload_n 0, 1) := by decide +kernel
theorem dX12_init_5 : decode cX12_init 5 = .ok (.sipush 632, 3) := by decide +kernel
theorem dX12_init_8 : decode cX12_init 8 = .ok (.newarray .int, 2) := by decide +kernel
theorem dX12_init_10 : decode cX12_init 10 = .ok (.putfield 7, 3) := by decide +kernel
theorem dX12_init_13 : decode cX12_init 13 = .ok (.aload_n 0, 1) := by decide +kernel
theorem dX12_init_14 : decode cX12_init 14 = .ok (.iconst 2, 1) := by decide +kernel
theorem dX12_init_15 : decode cX12_init 15 = .ok (.newarray .boolean, 2) := by decide +kernel
theorem dX12_init_17 : decode cX12_init 17 = .ok (.putfield 13, 3) := by decide +kernel
theorem dX12_init_20 : decode cX12_init 20 = .ok (.aload_n 0, 1) := by decide +kernel
theorem dX12_init_21 : decode cX12_init 21 = .ok (.sipush 200, 3) := by decide +kernel
theorem dX12_init_24 : decode cX12_init 24 = .ok (.newarray .int, 2) := by decide +kernel
theorem dX12_init_26 : decode cX12_init 26 = .ok (.putfield 17, 3) := by decide +kernel
theorem dX12_init_29 : decode cX12_init 29 = .ok (.aload_n 0, 1) := by decide +kernel
theorem dX12_init_30 : decode cX12_init 30 = .ok (.iconst 3, 1) := by decide +kernel
theorem dX12_init_31 : decode cX12_init 31 = .ok (.newarray .int, 2) := by decide +kernel
theorem dX12_init_33 : decode cX12_init 33 = .ok (.putfield 20, 3) := by decide +kernel
theorem dX12_init_36 : decode cX12_init 36 = .ok (.aload_n 0, 1) := by decide +kernel
theorem dX12_init_37 : decode cX12_init 37 = .ok (.sipush 400, 3) := by decide +kernel
theorem dX12_init_40 : decode cX12_init 40 = .ok (.newarray .int, 2) := by decide +kernel
theorem dX12_init_42 : decode cX12_init 42 = .ok (.putfield 23, 3) := by decide +kernel
theorem dX12_init_45 : decode cX12_init 45 = .ok (.aload_n 0, 1) := by decide +kernel
theorem dX12_init_46 : decode cX12_init 46 = .ok (.iconst 5, 1) := by decide +kernel
theorem dX12_init_47 : decode cX12_init 47 = .ok (.newarray .int, 2) := by decide +kernel
theorem dX12_init_49 : decode cX12_init 49 = .ok (.putfield 26, 3) := by decide +kernel
theorem dX12_init_52 : decode cX12_init 52 = .ok (.aload_n 0, 1) := by decide +kernel
theorem dX12_init_53 : decode cX12_init 53 = .ok (.iconst 4, 1) := by decide +kernel
theorem dX12_init_54 : decode cX12_init 54 = .ok (.newarray .int, 2) := by decide +kernel
theorem dX12_init_56 : decode cX12_init 56 = .ok (.putfield 29, 3) := by decide +kernel
theorem dX12_init_59 : decode cX12_init 59 = .ok (.aload_n 0, 1) := by decide +kernel
theorem dX12_init_60 : decode cX12_init 60 = .ok (.sipush 20480, 3) := by decide +kernel
theorem dX12_init_63 : decode cX12_init 63 = .ok (.newarray .int, 2) := by decide +kernel
theorem dX12_init_65 : decode cX12_init 65 = .ok (.putfield 32, 3) := by decide +kernel
theorem dX12_init_68 : decode cX12_init 68 = .ok (.aload_n 0, 1) := by decide +kernel
theorem dX12_init_69 : decode cX12_init 69 = .ok (.iconst (-1), 1) := by decide +kernel
theorem dX12_init_70 : decode cX12_init 70 = .ok (.putfield 35, 3) := by decide +kernel
theorem dX12_init_73 : decode cX12_init 73 = .ok (.aload_n 0, 1) := by decide +kernel
theorem dX12_init_74 : decode cX12_init 74 = .ok (.sipush 8192, 3) := by decide +kernel
theorem dX12_init_77 : decode cX12_init 77 = .ok (.newarray .int, 2) := by decide +kernel
theorem dX12_init_79 : decode cX12_init 79 = .ok (.putfield 39, 3) := by decide +kernel
theorem dX12_init_82 : decode cX12_init 82 = .ok (.aload_n 0, 1) := by decide +kernel
theorem dX12_init_83 : decode cX12_init 83 = .ok (.sipush 8192, 3) := by decide +kernel
theorem dX12_init_86 : decode cX12_init 86 = .ok (.newarray .int, 2) := by decide +kernel
theorem dX12_init_88 : decode cX12_init 88 = .ok (.putfield 42, 3) := by decide +kernel
theorem dX12_init_91 : decode cX12_init 91 = .ok (.aload_n 0, 1) := by decide +kernel
theorem dX12_init_92 : decode cX12_init 92 = .ok (.iconst 5, 1) := by decide +kernel
theorem dX12_init_93 : decode cX12_init 93 = .ok (.invokevirtual 45, 3) := by decide +kernel
theorem dX12_init_96 : decode cX12_init 96 = .ok (.return_, 1) := by decide +kernel
def kFX12 (F : KF) (b : Nat) : KF := upF (clF (upF (clF (upF (clF (upF (clF (upF (clF (upF (clF (upF (clF (upF (clF (upF (clF (upF (clF (F) 75) 74 0 75) 76) 74 1 76) 77) 74 2 77) 78) 74 4 78) 79) 74 8 79) 80) 74 12 80) 81) 74 13 81) 82) 74 14 82) 83) 74 16 83) 84) 74 17 84
def kIX12 (I : Mem) (b : Nat) : Mem := upA (upA (up2 (upA (upA (upA (upA (upA (upA (upA (upA (I) 75 (fun _ => 0)) 76 (fun _ => 0)) 77 (fun _ => 0)) 78 (fun _ => 0)) 79 (fun _ => 0)) 80 (fun _ => 0)) 81 (fun _ => 0)) 82 (fun _ => 0)) 74 15 (-1)) 83 (fun _ => 0)) 84 (fun _ => 0)
set_option maxRecDepth 20000 in
theorem gk_X12 {E : EV} {F : KF} {I J : Mem} (hF : FE (kFX12 F 74)) (hJ : fX12_clearAll 5 (kIX12 I 74) = some J) : Km E 2 10 38110 kX12_init [.ref 74] 75 F I (85, kFX12 F 74, J) := by
  unfold kFX12 at hF ⊢
  unfold kIX12 at hJ
  refine Km.of (L := [some (.ref 74)]) (by decide) rfl (Nat.le_of_ble_eq_true rfl) ?_
  refine GK.aload_n dX12_init_0 rfl rfl ?_
  refine GK.obj dX12_init_1 (mt 870 (by decide +kernel) rfl) objI objC (by decide) (by decide) (Nat.le_of_ble_eq_true rfl) ?_
  refine GK.aload_n dX12_init_4 rfl rfl ?_
  refine GK.sipush (v := 632) dX12_init_5 (by decide) ?_
  refine GK.newi (N := 632) dX12_init_8 rfl rfl (by decide) rfl (by decide) (by decide) (by decide) (by decide) (by decide) acI ?_
  refine GK.putR (q := 75) dX12_init_10 flX12_7 (by intro C T N h; cases h; rfl) rfl (by decide) rfl (fun _ => rfl) (fun _ => rfl) ?_
  refine GK.aload_n dX12_init_13 rfl rfl ?_
  refine GK.iconst (v := 2) dX12_init_14 (by decide) ?_
  refine GK.newz (N := 2) dX12_init_15 rfl rfl (by decide) rfl (by decide) (by decide) (by decide) (by decide) (by decide) acZ ?_
  refine GK.putR (q := 76) dX12_init_17 flX12_13 (by intro C T N h; cases h; rfl) rfl (by decide) rfl (fun _ => rfl) (fun _ => rfl) ?_
  refine GK.aload_n dX12_init_20 rfl rfl ?_
  refine GK.sipush (v := 200) dX12_init_21 (by decide) ?_
  refine GK.newi (N := 200) dX12_init_24 rfl rfl (by decide) rfl (by decide) (by decide) (by decide) (by decide) (by decide) acI ?_
  refine GK.putR (q := 77) dX12_init_26 flX12_17 (by intro C T N h; cases h; rfl) rfl (by decide) rfl (fun _ => rfl) (fun _ => rfl) ?_
  refine GK.aload_n dX12_init_29 rfl rfl ?_
  refine GK.iconst (v := 3) dX12_init_30 (by decide) ?_
  refine GK.newi (N := 3) dX12_init_31 rfl rfl (by decide) rfl (by decide) (by decide) (by decide) (by decide) (by decide) acI ?_
  refine GK.putR (q := 78) dX12_init_33 flX12_20 (by intro C T N h; cases h; rfl) rfl (by decide) rfl (fun _ => rfl) (fun _ => rfl) ?_
  refine GK.aload_n dX12_init_36 rfl rfl ?_
  refine GK.sipush (v := 400) dX12_init_37 (by decide) ?_
  refine GK.newi (N := 400) dX12_init_40 rfl rfl (by decide) rfl (by decide) (by decide) (by decide) (by decide) (by decide) acI ?_
  refine GK.putR (q := 79) dX12_init_42 flX12_23 (by intro C T N h; cases h; rfl) rfl (by decide) rfl (fun _ => rfl) (fun _ => rfl) ?_
  refine GK.aload_n dX12_init_45 rfl rfl ?_
  refine GK.iconst (v := 5) dX12_init_46 (by decide) ?_
  refine GK.newi (N := 5) dX12_init_47 rfl rfl (by decide) rfl (by decide) (by decide) (by decide) (by decide) (by decide) acI ?_
  refine GK.putR (q := 80) dX12_init_49 flX12_26 (by intro C T N h; cases h; rfl) rfl (by decide) rfl (fun _ => rfl) (fun _ => rfl) ?_
  refine GK.aload_n dX12_init_52 rfl rfl ?_
  refine GK.iconst (v := 4) dX12_init_53 (by decide) ?_
  refine GK.newi (N := 4) dX12_init_54 rfl rfl (by decide) rfl (by decide) (by decide) (by decide) (by decide) (by decide) acI ?_
  refine GK.putR (q := 81) dX12_init_56 flX12_29 (by intro C T N h; cases h; rfl) rfl (by decide) rfl (fun _ => rfl) (fun _ => rfl) ?_
  refine GK.aload_n dX12_init_59 rfl rfl ?_
  refine GK.sipush (v := 20480) dX12_init_60 (by decide) ?_
  refine GK.newi (N := 20480) dX12_init_63 rfl rfl (by decide) rfl (by decide) (by decide) (by decide) (by decide) (by decide) acI ?_
  refine GK.putR (q := 82) dX12_init_65 flX12_32 (by intro C T N h; cases h; rfl) rfl (by decide) rfl (fun _ => rfl) (fun _ => rfl) ?_
  refine GK.aload_n dX12_init_68 rfl rfl ?_
  refine GK.iconst (v := -1) dX12_init_69 (by decide) ?_
  refine GK.putI dX12_init_70 flX12_35 (by decide) rfl ?_
  refine GK.aload_n dX12_init_73 rfl rfl ?_
  refine GK.sipush (v := 8192) dX12_init_74 (by decide) ?_
  refine GK.newi (N := 8192) dX12_init_77 rfl rfl (by decide) rfl (by decide) (by decide) (by decide) (by decide) (by decide) acI ?_
  refine GK.putR (q := 83) dX12_init_79 flX12_39 (by intro C T N h; cases h; rfl) rfl (by decide) rfl (fun _ => rfl) (fun _ => rfl) ?_
  refine GK.aload_n dX12_init_82 rfl rfl ?_
  refine GK.sipush (v := 8192) dX12_init_83 (by decide) ?_
  refine GK.newi (N := 8192) dX12_init_86 rfl rfl (by decide) rfl (by decide) (by decide) (by decide) (by decide) (by decide) acI ?_
  refine GK.putR (q := 84) dX12_init_88 flX12_42 (by intro C T N h; cases h; rfl) rfl (by decide) rfl (fun _ => rfl) (fun _ => rfl) ?_
  refine GK.aload_n dX12_init_91 rfl rfl ?_
  refine GK.iconst (v := 5) dX12_init_92 (by decide) ?_
  exact GK.callV (d := 1) (v := none) (av := [.int 5]) (rest := []) hF dX12_init_93 mvX12_45 (gX12_clearAll E 0 5 _ hJ) (by decide) rfl rfl rfl (by decide) (by decide) (by decide) (by decide) (by decide) (GK.vret dX12_init_96 rfl rfl rfl)
