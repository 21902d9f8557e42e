theorem mpX7_7 : MP RX7 7 7 kX1_lays 3 := ⟨mkX1_lays, (mt 583 (by decide +kernel) rfl), (mt 1268 (by decide +kernel) rfl), (mt 177 (by decide +kernel) rfl), (mt 577 (by decide +kernel) rfl), by decide +kernel, ⟨RX7, TX7, 0, rfl⟩, by decide⟩
theorem mqX0_7 : MQ2 RX0 7 0 kX5_lays 3 := ⟨mkX5_lays, ⟨"AloneRooms$Halves", "lays", "(ZZI)Z"⟩, RX0, TX0, 0, (mt 573 (by decide +kernel) rfl), (mt 574 (by decide +kernel) rfl), (mt 184 (by decide +kernel) rfl), (mt 170 (by decide +kernel) rfl), (mt 567 (by decide +kernel) rfl), by decide +kernel, rfl, rfl, by decide⟩
theorem mjX8_114 : MJ RX8 114 kJ0_length_8abf5 0 := ⟨mkJ0_length_8abf5, (mt 448 (by decide +kernel) rfl), (mt 449 (by decide +kernel) rfl), (mt 450 (by decide +kernel) rfl)⟩
theorem mjX8_118 : MJ RX8 118 kJ0_charAt_5068e 1 := ⟨mkJ0_charAt_5068e, (mt 458 (by decide +kernel) rfl), (mt 459 (by decide +kernel) rfl), (mt 460 (by decide +kernel) rfl)⟩
theorem mjJ0_335 : MJ RJ0 335 kJ0_coder_7d493 0 := ⟨mkJ0_coder_7d493, (mt 452 (by decide +kernel) rfl), (mt 453 (by decide +kernel) rfl), (mt 454 (by decide +kernel) rfl)⟩
theorem mjJ0_492 : MJ RJ0 492 kJ0_isLatin1_aae02 0 := ⟨mkJ0_isLatin1_aae02, (mt 462 (by decide +kernel) rfl), (mt 463 (by decide +kernel) rfl), (mt 464 (by decide +kernel) rfl)⟩
theorem flJ0_9 : Cond.fieldLink RJ0 9 "java/lang/String" "value" "[B" ∈ lw_g := (mt 1273 (by decide +kernel) rfl)
theorem flJ0_15 : Cond.fieldLink RJ0 15 "java/lang/String" "coder" "B" ∈ lw_g := (mt 1274 (by decide +kernel) rfl)
theorem flJ0_38 : Cond.fieldLink RJ0 38 "java/lang/String" "COMPACT_STRINGS" "Z" ∈ lw_g := (mt 456 (by decide +kernel) rfl)
theorem flJ0_1053 : Cond.fieldLink RJ0 1053 "jdk/internal/util/Preconditions" "SIOOBE_FORMATTER" "Ljava/util/function/BiFunction;" ∈ lw_g := (mt 472 (by decide +kernel) rfl)
theorem dJ3_checkIndex_8e157_0 : decode cJ3_checkIndex_8e157 0 = .ok (.iload_n 0, 1) := by decide +kernel
theorem dJ3_checkIndex_8e157_1 : decode cJ3_checkIndex_8e157 1 = .ok (.ifCond .lt 8, 3) := by decide +kernel
theorem dJ3_checkIndex_8e157_4 : decode cJ3_checkIndex_8e157 4 = .ok (.iload_n 0, 1) := by decide +kernel
theorem dJ3_checkIndex_8e157_5 : decode cJ3_checkIndex_8e157 5 = .ok (.iload_n 1, 1) := by decide +kernel
theorem dJ3_checkIndex_8e157_6 : decode cJ3_checkIndex_8e157 6 = .ok (.if_icmp .lt 10, 3) := by decide +kernel
theorem dJ3_checkIndex_8e157_9 : decode cJ3_checkIndex_8e157 9 = .ok (.aload_n 2, 1) := by decide +kernel
theorem dJ3_checkIndex_8e157_10 : decode cJ3_checkIndex_8e157 10 = .ok (.iload_n 0, 1) := by decide +kernel
theorem dJ3_checkIndex_8e157_11 : decode cJ3_checkIndex_8e157 11 = .ok (.iload_n 1, 1) := by decide +kernel
theorem dJ3_checkIndex_8e157_12 : decode cJ3_checkIndex_8e157 12 = .ok (.invokestatic 95, 3) := by decide +kernel
theorem dJ3_checkIndex_8e157_15 : decode cJ3_checkIndex_8e157 15 = .ok (.athrow, 1) := by decide +kernel
theorem dJ3_checkIndex_8e157_16 : decode cJ3_checkIndex_8e157 16 = .ok (.iload_n 0, 1) := by decide +kernel
theorem dJ3_checkIndex_8e157_17 : decode cJ3_checkIndex_8e157 17 = .ok (.ireturn, 1) := by decide +kernel
theorem dJ0_checkIndex_df160_0 : decode cJ0_checkIndex_df160 0 = .ok (.iload_n 0, 1) := by decide +kernel
theorem dJ0_checkIndex_df160_1 : decode cJ0_checkIndex_df160 1 = .ok (.iload_n 1, 1) := by decide +kernel
theorem dJ0_checkIndex_df160_2 : decode cJ0_checkIndex_df160 2 = .ok (.getstatic 1053, 3) := by decide +kernel
theorem dJ0_checkIndex_df160_5 : decode cJ0_checkIndex_df160 5 = .ok (.invokestatic 1059, 3) := by decide +kernel
theorem dJ0_checkIndex_df160_8 : decode cJ0_checkIndex_df160 8 = .ok (.pop, 1) := by decide +kernel
theorem dJ0_checkIndex_df160_9 : decode cJ0_checkIndex_df160 9 = .ok (.return_, 1) := by decide +kernel
theorem dJ0_length_8abf5_0 : decode cJ0_length_8abf5 0 = .ok (.aload_n 0, 1) := by decide +kernel
theorem dJ0_length_8abf5_1 : decode cJ0_length_8abf5 1 = .ok (.getfield 9, 3) := by decide +kernel
theorem dJ0_length_8abf5_4 : decode cJ0_length_8abf5 4 = .ok (.arraylength, 1) := by decide +kernel
theorem dJ0_length_8abf5_5 : decode cJ0_length_8abf5 5 = .ok (.aload_n 0, 1) := by decide +kernel
theorem dJ0_length_8abf5_6 : decode cJ0_length_8abf5 6 = .ok (.invokevirtual 335, 3) := by decide +kernel
theorem dJ0_length_8abf5_9 : decode cJ0_length_8abf5 9 = .ok (.ishr, 1) := by decide +kernel
theorem dJ0_length_8abf5_10 : decode cJ0_length_8abf5 10 = .ok (.ireturn, 1) := by decide +kernel
theorem dJ0_charAt_5068e_0 : decode cJ0_charAt_5068e 0 = .ok (.aload_n 0, 1) := by decide +kernel
theorem dJ0_charAt_5068e_1 : decode cJ0_charAt_5068e 1 = .ok (.invokevirtual 492, 3) := by decide +kernel
theorem dJ0_charAt_5068e_4 : decode cJ0_charAt_5068e 4 = .ok (.ifCond .eq 12, 3) := by decide +kernel
theorem dJ0_charAt_5068e_7 : decode cJ0_charAt_5068e 7 = .ok (.aload_n 0, 1) := by decide +kernel
theorem dJ0_charAt_5068e_8 : decode cJ0_charAt_5068e 8 = .ok (.getfield 9, 3) := by decide +kernel
theorem dJ0_charAt_5068e_11 : decode cJ0_charAt_5068e 11 = .ok (.iload_n 1, 1) := by decide +kernel
theorem dJ0_charAt_5068e_12 : decode cJ0_charAt_5068e 12 = .ok (.invokestatic 495, 3) := by decide +kernel
theorem dJ0_charAt_5068e_15 : decode cJ0_charAt_5068e 15 = .ok (.ireturn, 1) := by decide +kernel
theorem dJ0_charAt_5068e_16 : decode cJ0_charAt_5068e 16 = .ok (.aload_n 0, 1) := by decide +kernel
theorem dJ0_charAt_5068e_17 : decode cJ0_charAt_5068e 17 = .ok (.getfield 9, 3) := by decide +kernel
theorem dJ0_charAt_5068e_20 : decode cJ0_charAt_5068e 20 = .ok (.iload_n 1, 1) := by decide +kernel
theorem dJ0_charAt_5068e_21 : decode cJ0_charAt_5068e 21 = .ok (.invokestatic 498, 3) := by decide +kernel
theorem dJ0_charAt_5068e_24 : decode cJ0_charAt_5068e 24 = .ok (.ireturn, 1) := by decide +kernel
theorem dJ0_coder_7d493_0 : decode cJ0_coder_7d493 0 = .ok (.getstatic 38, 3) := by decide +kernel
theorem dJ0_coder_7d493_3 : decode cJ0_coder_7d493 3 = .ok (.ifCond .eq 10, 3) := by decide +kernel
theorem dJ0_coder_7d493_6 : decode cJ0_coder_7d493 6 = .ok (.aload_n 0, 1) := by decide +kernel
theorem dJ0_coder_7d493_7 : decode cJ0_coder_7d493 7 = .ok (.getfield 15, 3) := by decide +kernel
theorem dJ0_coder_7d493_10 : decode cJ0_coder_7d493 10 = .ok (.goto 4, 3) := by decide +kernel
theorem dJ0_coder_7d493_13 : decode cJ0_coder_7d493 13 = .ok (.iconst 1, 1) := by decide +kernel
theorem dJ0_coder_7d493_14 : decode cJ0_coder_7d493 14 = .ok (.ireturn, 1) := by decide +kernel
theorem dJ0_isLatin1_aae02_0 : decode cJ0_isLatin1_aae02 0 = .ok (.getstatic 38, 3) := by decide +kernel
theorem dJ0_isLatin1_aae02_3 : decode cJ0_isLatin1_aae02 3 = .ok (.ifCond .eq 14, 3) := by decide +kernel
theorem dJ0_isLatin1_aae02_6 : decode cJ0_isLatin1_aae02 6 = .ok (.aload_n 0, 1) := by decide +kernel
theorem dJ0_isLatin1_aae02_7 : decode cJ0_isLatin1_aae02 7 = .ok (.getfield 15, 3) := by decide +kernel
theorem dJ0_isLatin1_aae02_10 : decode cJ0_isLatin1_aae02 10 = .ok (.ifCond .ne 7, 3) := by decide +kernel
theorem dJ0_isLatin1_aae02_13 : decode cJ0_isLatin1_aae02 13 = .ok (.iconst 1, 1) := by decide +kernel
theorem dJ0_isLatin1_aae02_14 : decode cJ0_isLatin1_aae02 14 = .ok (.goto 4, 3) := by decide +kernel
theorem dJ0_isLatin1_aae02_17 : decode cJ0_isLatin1_aae02 17 = .ok (.iconst 0, 1) := by decide +kernel
theorem dJ0_isLatin1_aae02_18 : decode cJ0_isLatin1_aae02 18 = .ok (.ireturn, 1) := by decide +kernel
theorem dJ1_charAt_3b067_0 : decode cJ1_charAt_3b067 0 = .ok (.iload_n 1, 1) := by decide +kernel
theorem dJ1_charAt_3b067_1 : decode cJ1_charAt_3b067 1 = .ok (.aload_n 0, 1) := by decide +kernel
theorem dJ1_charAt_3b067_2 : decode cJ1_charAt_3b067 2 = .ok (.arraylength, 1) := by decide +kernel
theorem dJ1_charAt_3b067_3 : decode cJ1_charAt_3b067 3 = .ok (.invokestatic 9, 3) := by decide +kernel
theorem dJ1_charAt_3b067_6 : decode cJ1_charAt_3b067 6 = .ok (.aload_n 0, 1) := by decide +kernel
theorem dJ1_charAt_3b067_7 : decode cJ1_charAt_3b067 7 = .ok (.iload_n 1, 1) := by decide +kernel
theorem dJ1_charAt_3b067_8 : decode cJ1_charAt_3b067 8 = .ok (.baload, 1) := by decide +kernel
theorem dJ1_charAt_3b067_9 : decode cJ1_charAt_3b067 9 = .ok (.sipush 255, 3) := by decide +kernel
theorem dJ1_charAt_3b067_12 : decode cJ1_charAt_3b067 12 = .ok (.iand, 1) := by decide +kernel
theorem dJ1_charAt_3b067_13 : decode cJ1_charAt_3b067 13 = .ok (.i2c, 1) := by decide +kernel
theorem dJ1_charAt_3b067_14 : decode cJ1_charAt_3b067 14 = .ok (.ireturn, 1) := by decide +kernel
section STR
theorem gJ3_checkIndex (E : EV) (d : Nat) (x0 x1 : Int32) (w : Value) (I : Mem) (hw : w = .null ∨ w = .ref 1020) (h0 : ¬ x0 < 0) (h1 : x0 < x1) : Gm E d kJ3_checkIndex_8e157 [.int x0, .int x1, w] I (some (.int x0), I) := by
  rcases hw with rfl | rfl
  all_goals
    refine Gm.of (by decide) rfl (Nat.le_of_ble_eq_true rfl) ?_
    refine G.iload_n dJ3_checkIndex_8e157_0 rfl rfl ?_
    refine G.if_lt (tgt := 9) dJ3_checkIndex_8e157_1 (by decide) (fun c => absurd c h0) (fun _ => ?_)
    refine G.iload_n dJ3_checkIndex_8e157_4 rfl rfl ?_
    refine G.iload_n dJ3_checkIndex_8e157_5 rfl rfl ?_
    refine G.icmp_lt (tgt := 16) dJ3_checkIndex_8e157_6 (by decide) (fun _ => ?_) (fun c => absurd h1 c)
    refine G.iload_n dJ3_checkIndex_8e157_16 rfl rfl ?_
    exact G.iret dJ3_checkIndex_8e157_17 rfl
theorem gJ0_checkIndex (E : EV) (d : Nat) (x0 x1 : Int32) (I : Mem) (h0 : ¬ x0 < 0) (h1 : x0 < x1) : Gm E (d + 1) kJ0_checkIndex_df160 [.int x0, .int x1] I (none, I) := by
  refine Gm.of (by decide) rfl (Nat.le_of_ble_eq_true rfl) ?_
  refine G.iload_n dJ0_checkIndex_df160_0 rfl rfl ?_
  refine G.iload_n dJ0_checkIndex_df160_1 rfl rfl ?_
  refine G.getSF dJ0_checkIndex_df160_2 flJ0_1053 (fun w hw => ?_)
  refine G.callSi (av := [.int x0, .int x1, w]) (rest := []) dJ0_checkIndex_df160_5 msJ0_1059 (gJ3_checkIndex E d x0 x1 w I hw h0 h1) rfl rfl (Nat.le_of_ble_eq_true rfl) ?_
  refine G.pop dJ0_checkIndex_df160_8 rfl ?_
  exact G.vret dJ0_checkIndex_df160_9 rfl
/-- String.charAt's answer, of the i-th constant -/
def sch (i : Nat) (j : Int32) : Int32 := (Int32.toUInt32 ((strB.getD i []).getD (ix j) 0 &&& 255) % 65536).toInt32
theorem gJ1_charAt (E : EV) (d i : Nat) (x1 : Int32) (I : Mem) (hi : i < 7) (hin : inb x1 (strN.getD i 0) = true) (h0 : ¬ x1 < 0) (h1 : x1 < nI (strN.getD i 0)) : Gm E (d + 2) kJ1_charAt_3b067 [.ref (1010 + i), .int x1] I (some (.int (sch i x1)), I) := by
  refine Gm.of (by decide) rfl (Nat.le_of_ble_eq_true rfl) ?_
  refine G.iload_n dJ1_charAt_3b067_0 rfl rfl ?_
  refine G.aload_n dJ1_charAt_3b067_1 rfl rfl ?_
  refine G.slen dJ1_charAt_3b067_2 hi ?_
  refine G.callSv (av := [.int x1, .int (nI (strN.getD i 0))]) (rest := []) dJ1_charAt_3b067_3 msJ1_9 (gJ0_checkIndex E d x1 _ I h0 h1) rfl rfl (Nat.le_of_ble_eq_true rfl) ?_
  refine G.aload_n dJ1_charAt_3b067_6 rfl rfl ?_
  refine G.iload_n dJ1_charAt_3b067_7 rfl rfl ?_
  refine G.sbld dJ1_charAt_3b067_8 hi hin ?_
  refine G.sipush (v := 255) dJ1_charAt_3b067_9 (by decide) ?_
  refine G.iand dJ1_charAt_3b067_12 ?_
  refine G.i2c dJ1_charAt_3b067_13 ?_
  exact G.nret dJ1_charAt_3b067_14 rfl (pk_nc _)
theorem gJ0_coder (E : EV) (d i : Nat) (I : Mem) (hi : i < 7) : Gm E d kJ0_coder_7d493 [.ref (1000 + i)] I (some (.int 0), I) := by
  refine Gm.of (by decide) rfl (Nat.le_of_ble_eq_true rfl) ?_
  refine G.getCS dJ0_coder_7d493_0 flJ0_38 ?_
  refine G.if_eq (tgt := 13) dJ0_coder_7d493_3 (by decide) (fun c => absurd c (by decide)) (fun _ => ?_)
  refine G.aload_n dJ0_coder_7d493_6 rfl rfl ?_
  refine G.getSC dJ0_coder_7d493_7 hi flJ0_15 ?_
  refine G.goto (tgt := 14) dJ0_coder_7d493_10 (by decide) ?_
  exact G.nret dJ0_coder_7d493_14 rfl rfl
theorem gJ0_isLatin1 (E : EV) (d i : Nat) (I : Mem) (hi : i < 7) : Gm E d kJ0_isLatin1_aae02 [.ref (1000 + i)] I (some (.int 1), I) := by
  refine Gm.of (by decide) rfl (Nat.le_of_ble_eq_true rfl) ?_
  refine G.getCS dJ0_isLatin1_aae02_0 flJ0_38 ?_
  refine G.if_eq (tgt := 17) dJ0_isLatin1_aae02_3 (by decide) (fun c => absurd c (by decide)) (fun _ => ?_)
  refine G.aload_n dJ0_isLatin1_aae02_6 rfl rfl ?_
  refine G.getSC dJ0_isLatin1_aae02_7 hi flJ0_15 ?_
  refine G.if_ne (tgt := 17) dJ0_isLatin1_aae02_10 (by decide) (fun c => absurd rfl c) (fun _ => ?_)
  refine G.iconst (v := 1) dJ0_isLatin1_aae02_13 (by decide) ?_
  refine G.goto (tgt := 18) dJ0_isLatin1_aae02_14 (by decide) ?_
  exact G.zret dJ0_isLatin1_aae02_18 rfl (by decide)
/-- String.length's answer -/
def sln (i : Nat) : Int32 := nI (strN.getD i 0) >>> ((0 : Int32) &&& 31)
theorem gJ0_length (E : EV) (d i : Nat) (I : Mem) (hi : i < 7) : Gm E (d + 1) kJ0_length_8abf5 [.ref (1000 + i)] I (some (.int (sln i)), I) := by
  refine Gm.of (by decide) rfl (Nat.le_of_ble_eq_true rfl) ?_
  refine G.aload_n dJ0_length_8abf5_0 rfl rfl ?_
  refine G.getSV dJ0_length_8abf5_1 hi flJ0_9 ?_
  refine G.slen dJ0_length_8abf5_4 hi ?_
  refine G.aload_n dJ0_length_8abf5_5 rfl rfl ?_
  refine G.callJi (i := i) (av := []) (rest := [.int (nI (strN.getD i 0))]) dJ0_length_8abf5_6 mjJ0_335 (gJ0_coder E d i I hi) hi rfl rfl (Nat.le_of_ble_eq_true rfl) ?_
  refine G.ishr dJ0_length_8abf5_9 ?_
  exact G.iret dJ0_length_8abf5_10 rfl
theorem gJ0_charAt (E : EV) (d i : Nat) (x1 : Int32) (I : Mem) (hi : i < 7) (hin : inb x1 (strN.getD i 0) = true) (h0 : ¬ x1 < 0) (h1 : x1 < nI (strN.getD i 0)) : Gm E (d + 3) kJ0_charAt_5068e [.ref (1000 + i), .int x1] I (some (.int (sch i x1)), I) := by
  refine Gm.of (by decide) rfl (Nat.le_of_ble_eq_true rfl) ?_
  refine G.aload_n dJ0_charAt_5068e_0 rfl rfl ?_
  refine G.callJi (i := i) (av := []) (rest := []) dJ0_charAt_5068e_1 mjJ0_492 (gJ0_isLatin1 E (d + 2) i I hi) hi rfl rfl (Nat.le_of_ble_eq_true rfl) ?_
  refine G.if_eq (tgt := 16) dJ0_charAt_5068e_4 (by decide) (fun c => absurd c (by decide)) (fun _ => ?_)
  refine G.aload_n dJ0_charAt_5068e_7 rfl rfl ?_
  refine G.getSV dJ0_charAt_5068e_8 hi flJ0_9 ?_
  refine G.iload_n dJ0_charAt_5068e_11 rfl rfl ?_
  refine G.callSi (av := [.ref (1010 + i), .int x1]) (rest := []) dJ0_charAt_5068e_12 msJ0_495 (gJ1_charAt E d i x1 I hi hin h0 h1) rfl rfl (Nat.le_of_ble_eq_true rfl) ?_
  exact G.nret dJ0_charAt_5068e_15 rfl (pk_nc _)
/-- what the reader asks of a constant: its length; a letter -/
def fS_length (i : Nat) (I : Mem) : Option Int32 := some (sln i)
def fS_charAt (i : Nat) (x : Int32) (I : Mem) : Option Int32 := if inb x (strN.getD i 0) = true ∧ ¬ x < 0 ∧ x < nI (strN.getD i 0) then some (sch i x) else none
theorem gS_length (E : EV) (d i : Nat) (I : Mem) (hi : i < 7) {v : Int32} (hf : fS_length i I = some v) : Gm E (d + 1) kJ0_length_8abf5 [.ref (1000 + i)] I (some (.int v), I) := by
  cases hf
  exact gJ0_length E d i I hi
theorem gS_charAt (E : EV) (d i : Nat) (x1 : Int32) (I : Mem) (hi : i < 7) {v : Int32} (hf : fS_charAt i x1 I = some v) : Gm E (d + 3) kJ0_charAt_5068e [.ref (1000 + i), .int x1] I (some (.int v), I) := by
  unfold fS_charAt at hf
  split at hf
  · cases hf
    rename_i h
    exact gJ0_charAt E d i x1 I hi h.1 h.2.1 h.2.2
  · cases hf
end STR
