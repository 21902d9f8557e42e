theorem nwL_7 : NW RL 7 11 := ⟨RX11, TX11, 13, tyX11, rfl, qX11, tyX11_ok, (mt 22 (by decide +kernel) rfl), (mt 23 (by decide +kernel) rfl), (mt 1 (by decide +kernel) rfl), rfl, by decide +kernel, by decide⟩
theorem nwL_10 : NW RL 10 12 := ⟨RX12, TX12, 18, tyX12, rfl, qX12, tyX12_ok, (mt 865 (by decide +kernel) rfl), (mt 866 (by decide +kernel) rfl), (mt 14 (by decide +kernel) rfl), rfl, by decide +kernel, by decide⟩
theorem miL_9 : MI RL 9 kX11_init := ⟨mkX11_init, rfl, rfl, (mt 25 (by decide +kernel) rfl), Or.inl (mt 24 (by decide +kernel) rfl)⟩
theorem miL_12 : MI RL 12 kX12_init := ⟨mkX12_init, rfl, rfl, (mt 868 (by decide +kernel) rfl), Or.inl (mt 867 (by decide +kernel) rfl)⟩
section LOOP
variable {E : EV} {b N : Nat} {xs : Nat → Int32} {ce sl T j : Nat} {F : KF} {I : Mem}
theorem law_tail (kk : GK E room_1 (QL E b N xs) kL 18 (LL (j + 4)) [] (ce, sl, 85, F, I)) : GK E room_1 (QL E b N xs) kL 1116 (LL j) [] (ce, sl, 85, F, I) := by
  refine GK.iinc (v := nI (j + 4)) (L' := LL (j + 4)) dL_1116 rfl (by rw [show Int32.ofInt 4 = nI 4 from rfl, nI_add]) (by decide) rfl rfl ?_
  exact GK.goto (tgt := 18) dL_1119 (by decide) kk
theorem cmp4 {a N : Nat} (ha : a ≤ 4000) (hN : N ≤ 2048) (c : ¬ (nI N - 4 < nI a)) : a + 4 ≤ N := by
  apply Nat.le_of_not_lt
  intro h
  apply c
  rw [show (4 : Int32) = nI 4 from rfl, Int32.lt_iff_toInt_lt, pk_sub_toInt (by omega) (by omega), nI_toInt (by omega)]
  omega
theorem law_disp (hF : FE F) (h1 : ce ≤ 600000) (h2 : sl ≤ 7302250) (hS : Sim T I) (hT : T ≤ 600) (hj : j + 4 ≤ N) (hN : N < 2 ^ 31) (kk : ∀ K, Sim (T + 1) K → GK E room_1 (QL E b N xs) kL 1116 (LL j) [] (ce, sl, 85, F, K)) : ∀ q : Nat, q < 35 → GK E room_1 (QL E b N xs) kL 32 (LL j) [.int (nI q)] (ce, sl, 85, F, I)
  | 0, _ => GK.tsw_in (off := 156) (tgt := 188) dL_32 (by decide) (by decide) (by decide) (by decide) (lc_0 hF h1 h2 hS hT hj hN kk)
  | 1, _ => GK.tsw_in (off := 179) (tgt := 211) dL_32 (by decide) (by decide) (by decide) (by decide) (lc_1 hF h1 h2 hS hT hj hN kk)
  | 2, _ => GK.tsw_in (off := 238) (tgt := 270) dL_32 (by decide) (by decide) (by decide) (by decide) (lc_2 hF h1 h2 hS hT hj hN kk)
  | 3, _ => GK.tsw_in (off := 287) (tgt := 319) dL_32 (by decide) (by decide) (by decide) (by decide) (lc_3 hF h1 h2 hS hT hj hN kk)
  | 4, _ => GK.tsw_in (off := 320) (tgt := 352) dL_32 (by decide) (by decide) (by decide) (by decide) (lc_4 hF h1 h2 hS hT hj hN kk)
  | 5, _ => GK.tsw_in (off := 343) (tgt := 375) dL_32 (by decide) (by decide) (by decide) (by decide) (lc_5 hF h1 h2 hS hT hj hN kk)
  | 6, _ => GK.tsw_in (off := 366) (tgt := 398) dL_32 (by decide) (by decide) (by decide) (by decide) (lc_6 hF h1 h2 hS hT hj hN kk)
  | 7, _ => GK.tsw_in (off := 409) (tgt := 441) dL_32 (by decide) (by decide) (by decide) (by decide) (lc_7 hF h1 h2 hS hT hj hN kk)
  | 8, _ => GK.tsw_in (off := 472) (tgt := 504) dL_32 (by decide) (by decide) (by decide) (by decide) (lc_8 hF h1 h2 hS hT hj hN kk)
  | 9, _ => GK.tsw_in (off := 485) (tgt := 517) dL_32 (by decide) (by decide) (by decide) (by decide) (lc_9 hF h1 h2 hS hT hj hN kk)
  | 10, _ => GK.tsw_in (off := 498) (tgt := 530) dL_32 (by decide) (by decide) (by decide) (by decide) (lc_10 hF h1 h2 hS hT hj hN kk)
  | 11, _ => GK.tsw_in (off := 521) (tgt := 553) dL_32 (by decide) (by decide) (by decide) (by decide) (lc_11 hF h1 h2 hS hT hj hN kk)
  | 12, _ => GK.tsw_in (off := 534) (tgt := 566) dL_32 (by decide) (by decide) (by decide) (by decide) (lc_12 hF h1 h2 hS hT hj hN kk)
  | 13, _ => GK.tsw_in (off := 547) (tgt := 579) dL_32 (by decide) (by decide) (by decide) (by decide) (lc_13 hF h1 h2 hS hT hj hN kk)
  | 14, _ => GK.tsw_in (off := 570) (tgt := 602) dL_32 (by decide) (by decide) (by decide) (by decide) (lc_14 hF h1 h2 hS hT hj hN kk)
  | 15, _ => GK.tsw_in (off := 593) (tgt := 625) dL_32 (by decide) (by decide) (by decide) (by decide) (lc_15 hF h1 h2 hS hT hj hN kk)
  | 16, _ => GK.tsw_in (off := 616) (tgt := 648) dL_32 (by decide) (by decide) (by decide) (by decide) (lc_16 hF h1 h2 hS hT hj hN kk)
  | 17, _ => GK.tsw_in (off := 639) (tgt := 671) dL_32 (by decide) (by decide) (by decide) (by decide) (lc_17 hF h1 h2 hS hT hj hN kk)
  | 18, _ => GK.tsw_in (off := 652) (tgt := 684) dL_32 (by decide) (by decide) (by decide) (by decide) (lc_18 hF h1 h2 hS hT hj hN kk)
  | 19, _ => GK.tsw_in (off := 665) (tgt := 697) dL_32 (by decide) (by decide) (by decide) (by decide) (lc_19 hF h1 h2 hS hT hj hN kk)
  | 20, _ => GK.tsw_in (off := 688) (tgt := 720) dL_32 (by decide) (by decide) (by decide) (by decide) (lc_20 hF h1 h2 hS hT hj hN kk)
  | 21, _ => GK.tsw_in (off := 721) (tgt := 753) dL_32 (by decide) (by decide) (by decide) (by decide) (lc_21 hF h1 h2 hS hT hj hN kk)
  | 22, _ => GK.tsw_in (off := 744) (tgt := 776) dL_32 (by decide) (by decide) (by decide) (by decide) (lc_22 hF h1 h2 hS hT hj hN kk)
  | 23, _ => GK.tsw_in (off := 757) (tgt := 789) dL_32 (by decide) (by decide) (by decide) (by decide) (lc_23 hF h1 h2 hS hT hj hN kk)
  | 24, _ => GK.tsw_in (off := 800) (tgt := 832) dL_32 (by decide) (by decide) (by decide) (by decide) (lc_24 hF h1 h2 hS hT hj hN kk)
  | 25, _ => GK.tsw_in (off := 823) (tgt := 855) dL_32 (by decide) (by decide) (by decide) (by decide) (lc_25 hF h1 h2 hS hT hj hN kk)
  | 26, _ => GK.tsw_in (off := 856) (tgt := 888) dL_32 (by decide) (by decide) (by decide) (by decide) (lc_26 hF h1 h2 hS hT hj hN kk)
  | 27, _ => GK.tsw_in (off := 869) (tgt := 901) dL_32 (by decide) (by decide) (by decide) (by decide) (lc_27 hF h1 h2 hS hT hj hN kk)
  | 28, _ => GK.tsw_in (off := 902) (tgt := 934) dL_32 (by decide) (by decide) (by decide) (by decide) (lc_28 hF h1 h2 hS hT hj hN kk)
  | 29, _ => GK.tsw_in (off := 935) (tgt := 967) dL_32 (by decide) (by decide) (by decide) (by decide) (lc_29 hF h1 h2 hS hT hj hN kk)
  | 30, _ => GK.tsw_in (off := 978) (tgt := 1010) dL_32 (by decide) (by decide) (by decide) (by decide) (lc_30 hF h1 h2 hS hT hj hN kk)
  | 31, _ => GK.tsw_in (off := 1001) (tgt := 1033) dL_32 (by decide) (by decide) (by decide) (by decide) (lc_31 hF h1 h2 hS hT hj hN kk)
  | 32, _ => GK.tsw_in (off := 1024) (tgt := 1056) dL_32 (by decide) (by decide) (by decide) (by decide) (lc_32 hF h1 h2 hS hT hj hN kk)
  | 33, _ => GK.tsw_in (off := 1047) (tgt := 1079) dL_32 (by decide) (by decide) (by decide) (by decide) (lc_33 hF h1 h2 hS hT hj hN kk)
  | 34, _ => GK.tsw_in (off := 1070) (tgt := 1102) dL_32 (by decide) (by decide) (by decide) (by decide) (lc_34 hF h1 h2 hS hT hj hN kk)
  | q + 35, h => absurd h (by omega)
theorem law_loop (hF : FE F) (h1 : ce ≤ 600000) (h2 : sl ≤ 7302250) (hN : N ≤ 2048) : ∀ (m T : Nat) (I : Mem), Sim T I → T ≤ 512 → N < 4 * T + 4 + 4 * m → GK E room_1 (QL E b N xs) kL 18 (LL (4 * T)) [] (ce, sl, 85, F, I) := by
  intro m
  induction m with
  | zero =>
    intro T I hS hT hm
    refine GK.iload_n dL_18 rfl rfl ?_
    refine GK.aload_n dL_19 rfl rfl ?_
    refine GK.slen dL_20 ?_
    refine GK.iconst (v := 4) dL_21 (by decide) ?_
    refine GK.isub dL_22 ?_
    refine GK.icmp_gt (tgt := 1122) dL_23 (by decide) (fun c => ?_) (fun c => absurd (cmp4 (by omega) hN c) (by omega))
    refine GK.iconst (v := 1) dL_1122 (by decide) ?_
    exact GK.lend dL_1123 h1 h2
  | succ m ih =>
    intro T I hS hT hm
    refine GK.iload_n dL_18 rfl rfl ?_
    refine GK.aload_n dL_19 rfl rfl ?_
    refine GK.slen dL_20 ?_
    refine GK.iconst (v := 4) dL_21 (by decide) ?_
    refine GK.isub dL_22 ?_
    refine GK.icmp_gt (tgt := 1122) dL_23 (by decide) (fun c => ?_) (fun c => ?_)
    · refine GK.iconst (v := 1) dL_1122 (by decide) ?_
      exact GK.lend dL_1123 h1 h2
    · have h4 := cmp4 (by omega) hN c
      have hkk : ∀ K, Sim (T + 1) K → GK E room_1 (QL E b N xs) kL 1116 (LL (4 * T)) [] (ce, sl, 85, F, K) := fun K hK => law_tail (ih (T + 1) K hK (by omega) (by omega))
      refine GK.aload_n dL_26 rfl rfl ?_
      refine GK.iload_n dL_27 rfl rfl ?_
      refine GK.sld dL_28 (vp_in_nI (by omega) (by omega)) ?_
      refine GK.bipush (v := 63) dL_29 (by decide) ?_
      refine GK.iand dL_31 ?_
      obtain ⟨q, hq, e⟩ := pk_andE (xs (nI (4 * T)).toNatClampNeg) (m := 63) 6 (by decide)
      rw [e]
      by_cases h35 : q < 35
      · exact law_disp hF h1 h2 hS (by omega) h4 (by omega) hkk q h35
      · exact GK.tsw_out (tgt := 1116) dL_32 (Or.inr (by rw [nI_toInt (by omega)]; omega)) (by decide) (hkk I (hS.mono (by omega)))
end LOOP
/-- the references and the memory behind both constructors -/
def iniF : KF := kFX12 (clF (kFX11 (clF (fun _ _ => none) 0) 0) 74) 74
def iniI : Mem := kIX12 (upA (kIX11 (upA (fun _ _ => 0) 0 (fun _ => 0)) 0) 74 (fun _ => 0)) 74
set_option maxRecDepth 20000 in
theorem iniF_ok : FE iniF := by
  unfold FE
  decide +kernel
theorem ini_1 : (iniI 1 0 = 5 ∧ iniI 1 1 = 0 ∧ iniI 1 2 = 0 ∧ iniI 1 3 = 0 ∧ iniI 1 4 = 0 ∧ iniI 1 5 = 0 ∧ iniI 1 6 = 0 ∧ iniI 1 7 = 0) ∧ (∀ q, q < 5 → iniI 2 q = 0) ∧ (∀ q, q < 5 → iniI 3 q = 0) ∧ (∀ q, q < 5 → iniI 4 q = 0) ∧ (∀ q, q < 4 → iniI 5 q = 0) ∧ ∀ q, q < 16 → iniI 6 q = -1 := by decide +kernel
theorem ini_2 : (iniI 34 0 = 0 ∧ iniI 76 0 = 0) ∧ (iniI 34 1 = 0 ∧ iniI 76 1 = 0) ∧ iniI 35 0 = 0 ∧ iniI 74 3 = 0 ∧ (iniI 0 10 = iniI 78 0 ∧ iniI 0 11 = iniI 78 1 ∧ iniI 0 12 = iniI 78 2) ∧ iniI 74 15 = -1 := by decide +kernel
theorem ini_sim : ∃ J, fX12_clearAll 5 iniI = some J ∧ Sim 0 J := by
  obtain ⟨K, k1, k2, k3, k4⟩ := clear_hm (n := 5) iniI
  refine ⟨K, k1, ?_⟩
  obtain ⟨⟨a0, a1, a2, a3, a4, a5, a6, a7⟩, b1, b2, b3, b4, b5⟩ := ini_1
  obtain ⟨c1, c2, c3, c4, c5, c6⟩ := ini_2
  have hx : HX 1 K (newA 5) 0 (fun _ => -1) := by
    unfold HX
    rw [k4 1 (by decide), k4 (1 + 1) (by decide), k4 (1 + 2) (by decide), k4 (1 + 3) (by decide), k4 (1 + 4) (by decide), k4 (1 + 5) (by decide)]
    exact ⟨⟨a0, a1, a2, a3, a4, a5, a6, a7⟩, fun q hq => by rw [newA_s (by omega)]; exact b1 q hq, fun q hq => by rw [newA_s (by omega)]; exact b2 q hq, b3, b4, b5⟩
  refine ⟨hs_told hx k2 (gh_new (by decide) (by decide)), Or.inl ?_, Or.inl ?_, ⟨0, by decide, ?_, ?_, fun j hj => by omega⟩, ?_, ?_⟩
  · rw [k4 34 (by decide), k4 76 (by decide)]; exact c1
  · rw [k4 34 (by decide), k4 76 (by decide)]; exact c2
  · rw [k4 35 (by decide)]; exact c3
  · rw [k4 74 (by decide)]; exact c4
  · unfold RF
    rw [k4 0 (by decide), k4 78 (by decide)]; exact c5
  · rw [k4 74 (by decide)]; exact c6
theorem law_begin {E : EV} {b N : Nat} {xs : Nat → Int32} (hN : N ≤ 2048) : GK E room_1 (QL E b N xs) kL 0 [some (.ref 2000), none, none, none] [] (0, 0, 0, fun _ _ => none, fun _ _ => 0) := by
  obtain ⟨J, hJ, hS⟩ := ini_sim
  refine GK.new dL_0 nwL_7 rfl (by decide) (by decide) (by decide) ?_
  refine GK.dup dL_3 rfl ?_
  refine GK.init (b := 0) (n' := 74) (F' := kFX11 (clF (fun _ _ => none) 0) 0) (I' := kIX11 (upA (fun _ _ => 0) 0 (fun _ => 0)) 0) dL_4 miL_9 gk_X11 rfl (by decide) (by decide) (by decide) (by decide) (by decide) (Nat.le_of_ble_eq_true rfl) ?_
  refine GK.astore_n (i := 1) (L' := [some (.ref 2000), some (.ref 0), none, none]) dL_7 rfl (by decide) (Nat.le_of_ble_eq_true rfl) rfl rfl ?_
  refine GK.new dL_8 nwL_10 rfl (by decide) (by decide) (by decide) ?_
  refine GK.dup dL_11 rfl ?_
  refine GK.init (b := 74) (n' := 85) (F' := iniF) (I' := J) dL_12 miL_12 (gk_X12 iniF_ok hJ) rfl (by decide) (by decide) (by decide) (by decide) (by decide) (Nat.le_of_ble_eq_true rfl) ?_
  refine GK.astore_n (i := 2) (L' := [some (.ref 2000), some (.ref 0), some (.ref 74), none]) dL_15 rfl (by decide) (Nat.le_of_ble_eq_true rfl) rfl rfl ?_
  refine GK.iconst (v := 0) dL_16 (by decide) ?_
  refine GK.istore_n (i := 3) (L' := LL (4 * 0)) dL_17 rfl (by decide) (Nat.le_of_ble_eq_true rfl) rfl rfl ?_
  exact law_loop iniF_ok (by decide) (by decide) hN 512 0 J hS (by decide) (by omega)
