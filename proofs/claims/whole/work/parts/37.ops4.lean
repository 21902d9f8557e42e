/-- the relation behind a call that changes the house alone -/
theorem sim_frame {T T2 : Nat} {I K : Mem} (h : Sim T I) (hT : T ≤ T2) (hs : HS T2 K 1 0) (e0 : ∀ q, 10 ≤ q → K 0 q = I 0 q) (e1 : ∀ c, 18 ≤ c → c < 35 → K c = I c) (e2 : K 35 0 = I 35 0) (e3 : K 36 = I 36) (e4 : K 74 3 = I 74 3) (e5 : K 74 15 = I 74 15) (e6 : ∀ k, 158 ≤ k → k < 474 → K 75 k = I 75 k) (e7 : K 76 = I 76) (e8 : K 77 = I 77) (e9 : K 78 = I 78) : Sim T2 K := by
  obtain ⟨-, a2, a3, a4, a5, a6⟩ := h
  exact ⟨hs, (a2.congr (by omega) e1 e7 e6).mono hT, (a3.congr (by omega) e1 e7 e6).mono hT, a4.congr e2 e3 e4 e8, a5.congr e0 e9, by rw [e5]; exact a6⟩
/-! ===== where all are ===== -/
theorem mod_step (w i : Nat) : w % 8 ^ i ||| dg w i * 2 ^ (3 * i) = w % 8 ^ (i + 1) := by
  have h8 : (8 : Nat) ^ i = 2 ^ (3 * i) := by rw [Nat.pow_mul]
  have h1 : w % 8 ^ i < 2 ^ (3 * i) := by rw [← h8]; exact Nat.mod_lt _ (Nat.pow_pos (by decide))
  rw [Nat.or_comm, Nat.mul_comm, ← Nat.two_pow_add_eq_or_of_lt h1, Nat.pow_succ, Nat.mod_mul, ← h8]
  unfold dg
  omega
theorem now_n {np w : Nat} {I : Mem} (h3 : I 75 3 = nI np) (hnp : np ≤ 4) (hw : w < 8 ^ np) (ha : ∀ p, p < np → I 75 (20 + p) = nI (dg w p)) : fX12_now I = some (nI w) := by
  have hfin : w % 8 ^ np = w := Nat.mod_eq_of_lt hw
  unfold fX12_now
  have key : iter (sX12_now_4 I) FU ((fun i => (nI (w % 8 ^ i), nI i)) 0) = some (nI (w % 8 ^ np)) := by
    refine iter_go (fun i => (nI (w % 8 ^ i), nI i)) np (FU_lt (by omega)) ?_ (fun i hi => ?_)
    · unfold sX12_now_4 bX12_now_4
      rw [chk_t (by decide), show ix (3 : Int32) = 3 from rfl, h3]
      dsimp only
      rw [if_pos (by rw [nI_leI (by omega) (by omega)]; omega)]
    · unfold sX12_now_4 bX12_now_4
      rw [chk_t (by decide), show ix (3 : Int32) = 3 from rfl, h3]
      dsimp only
      have hd := dg_lt w i
      have hb : dg w i * 2 ^ (3 * i) < 2 ^ 32 := by
        have h1 : 2 ^ (3 * i) ≤ 2 ^ 9 := Nat.pow_le_pow_right (by decide) (by omega)
        have h2 : dg w i * 2 ^ (3 * i) ≤ 7 * 2 ^ 9 := Nat.mul_le_mul (by omega) h1
        omega
      rw [if_neg (by rw [nI_leI (by omega) (by omega)]; omega), show (20 : Int32) = nI 20 from rfl, nI_add, chk_t (inb_n (by omega) (by decide)), ix_n (by omega), ha i hi, show (3 : Int32) = nI 3 from rfl, pk_mul, n_shl (by omega) hb]
      dsimp only [letb]
      rw [n_or, mod_step, nI_1]
  rw [hfin] at key
  refine Eq.trans ?_ key
  show _ = iter (sX12_now_4 I) FU (nI (w % 8 ^ 0), nI 0)
  rw [Nat.pow_zero, Nat.mod_one]
  rfl
theorem WV.lt {A : Nat → Nat} {w : Nat} (h : WV A w) (hp : A 3 ≤ 4) : w < 4096 := by
  have h1 : 8 ^ A 3 ≤ 8 ^ 4 := Nat.pow_le_pow_right (by decide) hp
  have := h.1
  omega
theorem now_v {T : Nat} {I : Mem} {A : Nat → Nat} {w : Nat} {pw : Nat → Nat} (hv : VR T (I 75) A w pw) : fX12_now I = some (nI w) := by
  obtain ⟨a1, a2, a3, a4, -⟩ := hv
  exact now_n (a2 3 (Or.inl (by decide))) (by unfold BA at a1; omega) a3.1 a4
theorem VR.cong2 {T : Nat} {I J : Mem} {A : Nat → Nat} {w : Nat} {pw : Nat → Nat} (hv : VR T (I 75) A w pw) (h : J 75 = I 75) : VR T (J 75) A w pw := by rw [h]; exact hv
theorem ok_standing {T : Nat} {I : Mem} (h : Sim T I) : ∃ v, fX11_standing I = some v ∧ fX12_standing I = some v := by
  obtain ⟨A, w, pw, hc, hv, hb, ⟨g0, g1, g2, g3, g4, g5, g6, g7⟩, gd, gp, hr⟩ := h.get
  refine ⟨nI w, by unfold fX11_standing; rw [g3], ?_⟩
  unfold fX12_standing
  rw [bnd_s (now_v hv)]
theorem ok_alone {T : Nat} {I : Mem} (h : Sim T I) (x1 : Int32) : OK T I (fX11_alone x1) (fX12_alone x1) := by
  obtain ⟨A, w, pw, hc, hv, hb, ⟨g0, g1, g2, g3, g4, g5, g6, g7⟩, gd, gp, hr⟩ := h.get
  have hn : A 0 ≤ 5 ∧ A 3 ≤ 4 ∧ A 4 < 2 ^ A 0 := by unfold BA at hb; omega
  have h32 := pow_le32 hn.1
  have hw := hv.2.2.1.lt hn.2.1
  have r3 := hr 3 (Or.inl (by decide))
  rcases rng0 x1 (A 3) (by omega) with ⟨k, hk, rfl, ht⟩ | hf
  · have hL : loneN (A 3) (A 4) w < 2 ^ 4 := Nat.lt_of_lt_of_le (pyb_lt _ _) (Nat.pow_le_pow_right (by decide) hn.2.1)
    have hbit : (loneN (A 3) (A 4) w).testBit k = lonB (A 3) (A 4) w k := by
      unfold loneN
      rw [pyb_bit, decide_eq_true hk, Bool.true_and]
    refine ok_same h (b2i (lonB (A 3) (A 4) w k)) ?_ ?_
    · unfold fX11_alone
      rw [bnd_s (isPersonX _ g2 (by omega)), ht, if_neg (by decide), g3, bnd_s (lone_n g2 hn.2.1 g1 (by omega) (by omega)), bnd_s (has_n I (by omega) (by omega)), hbit]
      cases lonB (A 3) (A 4) w k <;> rfl
    · unfold fX12_alone
      rw [bnd_s (isPersonM _ r3 (by omega)), ht, if_neg (by decide), bnd_s (now_v hv), bnd_s (isAlone_n r3 hn.2.1 (hr 4 (Or.inl (by decide))) (by omega) (by omega) (by omega))]
      cases lonB (A 3) (A 4) w k <;> rfl
  · refine ok_bad h (-2) ?_ ?_
    · unfold fX11_alone
      rw [bnd_s (isPersonX _ g2 (by omega)), hf, if_pos (by decide), refX]
      rfl
    · unfold fX12_alone
      rw [bnd_s (isPersonM _ (by rw [up0_c (by decide)]; exact r3) (by omega)), hf, if_pos (by decide), refM]
      rfl
theorem ok_purse {T : Nat} {I : Mem} (h : Sim T I) (x1 : Int32) : OK T I (fX11_purse x1) (fX12_purse x1) := by
  obtain ⟨A, w, pw, hc, hv, hb, ⟨g0, g1, g2, g3, g4, g5, g6, g7⟩, gd, gp, hr⟩ := h.get
  have hn : A 3 ≤ 4 := by unfold BA at hb; omega
  have r3 := hr 3 (Or.inl (by decide))
  rcases rng0 x1 (A 3) (by omega) with ⟨k, hk, rfl, ht⟩ | hf
  · have e1 := lo_24 k (by omega)
    have e2 := hc.at (k := 24 + k) (Or.inr (Or.inl (by omega)))
    rw [e1.1, e1.2] at e2
    refine ok_same h (I 5 k) ?_ ?_
    · unfold fX11_purse
      rw [bnd_s (isPersonX _ g2 (by omega)), ht, if_neg (by decide), chk_t (inb_n (by omega) (by decide)), ix_n (by omega)]
    · unfold fX12_purse
      rw [bnd_s (isPersonM _ r3 (by omega)), ht, if_neg (by decide), show (24 : Int32) = nI 24 from rfl, nI_add, chk_t (inb_n (by omega) (by decide)), ix_n (by omega), ← e2]
  · refine ok_bad h (-100000) ?_ ?_
    · unfold fX11_purse
      rw [bnd_s (isPersonX _ g2 (by omega)), hf, if_pos (by decide), refX]
      rfl
    · unfold fX12_purse
      rw [bnd_s (isPersonM _ (by rw [up0_c (by decide)]; exact r3) (by omega)), hf, if_pos (by decide)]
      dsimp only [letb]
      rw [refM]
      rfl
theorem ok_clear {T : Nat} {I : Mem} (h : Sim T I) : OK T I fX11_clear fX12_clear := by
  obtain ⟨a1, a2, a3, ⟨n, t1, t2, t3, t4⟩, a5, a6⟩ := h
  refine ⟨I 35 0, up2 I 35 0 0, up2 (up2 I 35 0 0) 74 3 0, rfl, ?_, ?_⟩
  · unfold fX12_clear
    dsimp only [letb]
    rw [up2_c (a := 74) (by decide), t3, t2]
  · have e : ∀ c, c ≠ 35 → c ≠ 74 → up2 (up2 I 35 0 0) 74 3 0 c = I c := fun c h0 h1 => by rw [up2_cc h1, up2_cc h0]
    refine ⟨(a1.congr (fun c hc => e _ (by omega) (by omega)) (fun k hk => by rw [e 75 (by decide) (by decide)])).mono (by omega), (a2.congr (by omega) (fun c h0 h1 => e _ (by omega) (by omega)) (e _ (by decide) (by decide)) (fun k _ _ => by rw [e 75 (by decide) (by decide)])).mono (by omega), (a3.congr (by omega) (fun c h0 h1 => e _ (by omega) (by omega)) (e _ (by decide) (by decide)) (fun k _ _ => by rw [e 75 (by decide) (by decide)])).mono (by omega), ⟨0, by decide, ?_, ?_, fun j hj => absurd hj (by omega)⟩, a5.congr (fun q _ => by rw [e 0 (by decide) (by decide)]) (e _ (by decide) (by decide)), ?_⟩
    · rw [up2_c (by decide), up2_self]; rfl
    · rw [up2_self]; rfl
    · rw [up2_i (by decide), up2_c (by decide)]; exact a6
theorem ok_status {T : Nat} {I : Mem} (h : Sim T I) (x1 : Int32) : OK T I (fX11_status x1) (fX12_status x1) := by
  obtain ⟨r0, r1, r2⟩ := h.2.2.2.2.1
  rcases rng x1 0 2 (by decide) with ⟨v, -, hv2, rfl⟩ | hf
  · have hm : ∀ J : Mem, fX12_status (nI v) J = some (J 78 v, J) := fun J => by
      unfold fX12_status
      rw [bnd_s (in_t (lo := 0) (hi := 2) rfl rfl (by omega) hv2 (by omega)), if_neg (by decide), chk_t (inb_n (by omega) (by decide)), ix_n (by omega)]
    rcases (show v = 0 ∨ v = 1 ∨ v = 2 by omega) with rfl | rfl | rfl
    · exact ok_same h (I 0 10) rfl (by rw [hm, r0])
    · exact ok_same h (I 0 11) rfl (by rw [hm, r1])
    · exact ok_same h (I 0 12) rfl (by rw [hm, r2])
  · refine ok_bad h (-1) ?_ ?_
    · unfold fX11_status
      rw [if_neg (fun e => hf (by rw [e]; decide)), if_neg (fun e => hf (by rw [e]; decide)), if_neg (fun e => hf (by rw [e]; decide)), refX]
      rfl
    · unfold fX12_status
      rw [bnd_s (in_f (lo := 0) (hi := 2) rfl rfl hf), if_pos (by decide), refM]
      rfl
/-! ===== wish ===== -/
theorem n_ne1 {k : Nat} (h : k < 2 ^ 31) : ¬ nI k = -1 := by
  intro e
  have h2 := congrArg Int32.toInt e
  rw [nI_toInt h, show (-1 : Int32).toInt = -1 from rfl] at h2
  omega
theorem ok_wish {T : Nat} {I : Mem} (h : Sim T I) (x1 x2 x3 : Int32) : OK T I (fX11_wish x1 x2 x3) (fX12_wish x1 x2 x3) := by
  obtain ⟨A, w, pw, hc, hv, hb, ⟨g0, g1, g2, g3, g4, g5, g6, g7⟩, gd, gp, hr⟩ := h.get
  have hn : A 0 ≤ 5 ∧ A 3 ≤ 4 := by unfold BA at hb; omega
  have r0 := hr 0 (Or.inl (by decide))
  have r3 := hr 3 (Or.inl (by decide))
  have r0' : up2 I 0 10 (I 0 10 + 1) 75 0 = nI (A 0) := by rw [up0_c (by decide)]; exact r0
  have r3' : up2 I 0 10 (I 0 10 + 1) 75 3 = nI (A 3) := by rw [up0_c (by decide)]; exact r3
  have badX : jX11_wish_31 I = some (-10, up2 I 0 10 (I 0 10 + 1)) := rfl
  have badM : jX12_wish_33 (up2 I 0 10 (I 0 10 + 1)) = some (-10, up2 (up2 I 0 10 (I 0 10 + 1)) 78 0 (up2 I 0 10 (I 0 10 + 1) 78 0 + 1)) := rfl
  rcases rng0 x1 (A 3) (by omega) with ⟨p, hp, rfl, ht⟩ | hf
  · rcases rng x2 1 4 (by decide) with ⟨q, hq1, hq2, rfl⟩ | hf
    · by_cases good : x3 = -1 ∨ ∃ k, k < A 0 ∧ x3 = nI k
      · have e1 := lo_28 (4 * p + (q - 1)) (by omega)
        have e2 := hc.at (k := 28 + (4 * p + (q - 1))) (Or.inr (Or.inl (by omega)))
        have hs := sim_set (k0 := 28 + (4 * p + (q - 1))) (v := x3) (A2 := A) h hc (Or.inr (Or.inl (by omega))) rfl rfl ((hv.mono (by omega)).setW (Or.inr ⟨by omega, by omega, good⟩))
        rw [e1.1, e1.2] at hs e2
        have jx : jX11_wish_41 (nI p) (nI q) x3 I = some (I 6 (4 * p + (q - 1)), up2 I 6 (4 * p + (q - 1)) x3) := by
          unfold jX11_wish_41
          have ew : fX11_wishPlace (nI p) (nI q) I = some (nI (4 * p + (q - 1))) := by
            unfold fX11_wishPlace
            rw [show (4 : Int32) = nI 4 from rfl, pk_mul, nI_add, show (1 : Int32) = nI 1 from rfl, pk_sub (by omega)]
            congr 2
            omega
          rw [bnd_s ew, chk_t (inb_n (by omega) (by decide)), ix_n (by omega)]
          dsimp only [letb]
          rw [chk_t (inb_n (by omega) (by decide))]
        have jm : ∀ J : Mem, jX12_wish_40 (nI p) (nI q) x3 J = some (J 75 (28 + (4 * p + (q - 1))), up2 J 75 (28 + (4 * p + (q - 1))) x3) := by
          intro J
          unfold jX12_wish_40
          have ew : (28 : Int32) + (4 : Int32) * nI p + nI q - (1 : Int32) = nI (28 + (4 * p + (q - 1))) := by
            rw [show (4 : Int32) = nI 4 from rfl, pk_mul, show (28 : Int32) = nI 28 from rfl, nI_add, nI_add, show (1 : Int32) = nI 1 from rfl, pk_sub (by omega)]
            congr 1
            omega
          rw [ew, chk_t (inb_n (by omega) (by decide)), ix_n (by omega)]
          dsimp only [letb]
          rw [chk_t (inb_n (by omega) (by decide))]
        refine ⟨I 6 (4 * p + (q - 1)), up2 I 6 (4 * p + (q - 1)) x3, up2 (up2 I 6 (4 * p + (q - 1)) x3) 75 (28 + (4 * p + (q - 1))) x3, ?_, ?_, hs⟩
        · unfold fX11_wish
          rw [bnd_s (isPersonX _ g2 (by omega)), ht, if_neg (by decide), if_neg (show ¬ nI q < 1 from nI_nlt (b := 1) hq1 (by omega)), if_neg (show ¬ (4 : Int32) < nI q from nI_nlt (a := 4) hq2 (by decide)), jx]
          rcases good with e | ⟨k, hk, rfl⟩
          · rw [if_pos e]
          · rw [if_neg (n_ne1 (by omega)), bnd_s (isRoomX _ g0 (by omega)), nI_toInt (by omega), decide_eq_true (by omega), if_neg (by decide)]
        · unfold fX12_wish
          rw [bnd_s (isPersonM _ (by rw [up2_c (by decide)]; exact r3) (by omega)), ht, if_neg (by decide), bnd_s (in_t (lo := 1) (hi := 4) rfl rfl hq1 hq2 (by omega)), if_neg (by decide), jm, up2_c (a := 75) (by decide), ← e2]
          rcases good with e | ⟨k, hk, rfl⟩
          · rw [if_pos e]
          · rw [if_neg (n_ne1 (by omega)), bnd_s (isRoomM _ (by rw [up2_c (by decide)]; exact r0) (by omega)), nI_toInt (by omega), decide_eq_true (by omega), if_neg (by decide)]
      · have hroom : decide (0 ≤ x3.toInt ∧ x3.toInt < (A 0 : Int)) = false := by
          rcases rng0 x3 (A 0) (by omega) with ⟨k, hk, e, -⟩ | hf
          · exact absurd (Or.inr ⟨k, hk, e⟩) good
          · exact hf
        refine ok_bad h (-10) ?_ ?_
        · unfold fX11_wish
          rw [bnd_s (isPersonX _ g2 (by omega)), ht, if_neg (by decide), if_neg (show ¬ nI q < 1 from nI_nlt (b := 1) hq1 (by omega)), if_neg (show ¬ (4 : Int32) < nI q from nI_nlt (a := 4) hq2 (by decide)), if_neg (fun e => good (Or.inl e)), bnd_s (isRoomX _ g0 (by omega)), hroom, if_pos (by decide)]
          exact badX
        · unfold fX12_wish
          rw [bnd_s (isPersonM _ r3' (by omega)), ht, if_neg (by decide), bnd_s (in_t (lo := 1) (hi := 4) rfl rfl hq1 hq2 (by omega)), if_neg (by decide), if_neg (fun e => good (Or.inl e)), bnd_s (isRoomM _ r0' (by omega)), hroom, if_pos (by decide)]
          exact badM
    · refine ok_bad h (-10) ?_ ?_
      · unfold fX11_wish
        rw [bnd_s (isPersonX _ g2 (by omega)), ht, if_neg (by decide)]
        by_cases c : x2 < 1
        · rw [if_pos c]; exact badX
        · rw [if_neg c, if_pos (by rw [x_lt, show (4 : Int32).toInt = 4 from rfl]; rw [x_lt, show (1 : Int32).toInt = 1 from rfl] at c; omega)]
          exact badX
      · unfold fX12_wish
        rw [bnd_s (isPersonM _ r3' (by omega)), ht, if_neg (by decide), bnd_s (in_f (lo := 1) (hi := 4) rfl rfl hf), if_pos (by decide)]
        exact badM
  · refine ok_bad h (-10) ?_ ?_
    · unfold fX11_wish
      rw [bnd_s (isPersonX _ g2 (by omega)), hf, if_pos (by decide)]
      exact badX
    · unfold fX12_wish
      rw [bnd_s (isPersonM _ r3' (by omega)), hf, if_pos (by decide)]
      exact badM
