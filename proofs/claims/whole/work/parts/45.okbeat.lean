theorem asL_n : ∀ i, i < 5 → asL (fin 37 i) = some (38 + i) := by decide +kernel
/-- sills stay small -/
def PB (B : Nat) (pen : Nat → Int32) : Prop := ∀ r, r < 5 → ∃ m, m ≤ B ∧ pen r = nI m
theorem pyP_pb {F : Nat → Bool} {t B : Nat} {pen : Nat → Int32} (h : PB B pen) : ∀ i, (∀ p, p < i → dg t p < 5) → PB (B + i) (pyP F t pen i)
  | 0, _ => h
  | i + 1, hd => by
    have ih := pyP_pb (F := F) (t := t) h i (fun p hp => hd p (by omega))
    intro r hr
    unfold pyP
    split
    · by_cases e : r = dg t i
      · obtain ⟨m, h1, h2⟩ := ih (dg t i) (hd i (by omega))
        refine ⟨m + 1, by omega, ?_⟩
        rw [e, show upd (pyP F t pen i) (dg t i) (pyP F t pen i (dg t i) + 1) (dg t i) = pyP F t pen i (dg t i) + 1 from if_pos rfl, h2, nI_1]
      · obtain ⟨m, h1, h2⟩ := ih r hr
        exact ⟨m, by omega, by rw [show upd (pyP F t pen i) (dg t i) (pyP F t pen i (dg t i) + 1) r = pyP F t pen i r from if_neg e]; exact h2⟩
    · obtain ⟨m, h1, h2⟩ := ih r hr
      exact ⟨m, by omega, h2⟩
theorem gatF_pb {np law s t r B : Nat} {q : (Nat → Int32) × (Nat → Int32)} (h : PB B q.1) : PB B (gatF np law s t r q).1 := by
  unfold gatF
  split
  · exact h
  · split
    · exact h
    · intro r2 hr2
      by_cases e : r2 = r
      · exact ⟨0, by omega, by rw [e]; exact if_pos rfl⟩
      · obtain ⟨m, h1, h2⟩ := h r2 hr2
        exact ⟨m, h1, by rw [← h2]; exact if_neg e⟩
theorem gatR_pb {np law s t B : Nat} {q : (Nat → Int32) × (Nat → Int32)} (h : PB B q.1) : ∀ n, PB B (gatR np law s t q n).1
  | 0 => h
  | n + 1 => gatF_pb (gatR_pb h n)
/-- the model lays down what was tried -/
def cmt (M : Mem) (t i : Nat) : Nat → Int32 := fun k => if 24 ≤ k ∧ k < 24 + i then M 81 (k - 24) else if 20 ≤ k ∧ k < 20 + i then nI (dg t (k - 20)) else M 75 k
theorem cmt_0 (M : Mem) (t : Nat) : cmt M t 0 = M 75 := by
  funext k
  unfold cmt
  rw [if_neg (by omega), if_neg (by omega)]
theorem cmt_s {M : Mem} {t i : Nat} (hi : i < 4) : upd (upd (cmt M t i) (24 + i) (M 81 i)) (20 + i) (nI (dg t i)) = cmt M t (i + 1) := by
  funext k
  by_cases c2 : k = 20 + i
  · rw [show upd (upd (cmt M t i) (24 + i) (M 81 i)) (20 + i) (nI (dg t i)) k = nI (dg t i) from if_pos c2]
    unfold cmt
    rw [if_neg (by omega), if_pos (by omega)]
    congr 2
    omega
  · rw [show upd (upd (cmt M t i) (24 + i) (M 81 i)) (20 + i) (nI (dg t i)) k = upd (cmt M t i) (24 + i) (M 81 i) k from if_neg c2]
    by_cases c1 : k = 24 + i
    · rw [show upd (cmt M t i) (24 + i) (M 81 i) k = M 81 i from if_pos c1]
      unfold cmt
      rw [if_pos (by omega)]
      congr 1
      omega
    · rw [show upd (cmt M t i) (24 + i) (M 81 i) k = cmt M t i k from if_neg c1]
      unfold cmt
      by_cases q1 : 24 ≤ k ∧ k < 24 + i
      · rw [if_pos q1, if_pos (show 24 ≤ k ∧ k < 24 + (i + 1) by omega)]
      · rw [if_neg q1, if_neg (show ¬ (24 ≤ k ∧ k < 24 + (i + 1)) by omega)]
        by_cases q2 : 20 ≤ k ∧ k < 20 + i
        · rw [if_pos q2, if_pos (show 20 ≤ k ∧ k < 20 + (i + 1) by omega)]
        · rw [if_neg q2, if_neg (show ¬ (20 ≤ k ∧ k < 20 + (i + 1)) by omega)]
theorem commit_n {np bt t : Nat} {M : Mem} {v : Int32} (r3 : M 75 3 = nI np) (hnp : np ≤ 4) (r2 : M 75 2 = nI bt) (ht : t < 2 ^ 31) : iter (sX12_beat_48 (nI t) v) FU ((0 : Int32), M) = some (v, up2 (upA (cpM M 75 80 0 10 5) 75 (cmt (cpM M 75 80 0 10 5) t np)) 75 2 (nI (bt + 1))) := by
  have h2 : ∀ L : Mem, L 75 3 = nI np → L 75 2 = nI bt → iter (sX12_beat_80 (nI t) v) FU ((0 : Int32), L) = some (v, up2 (upA L 75 (cmt L t np)) 75 2 (nI (bt + 1))) := by
    intro L l3 l2
    have e0 : ((0 : Int32), L) = (fun i => (nI i, upA L 75 (cmt L t i))) 0 := by
      show _ = (nI 0, upA L 75 (cmt L t 0))
      rw [cmt_0, upA_same]
      rfl
    have ec : ∀ i k, k < 20 → upA L 75 (cmt L t i) 75 k = L 75 k := fun i k hk => by
      rw [upA_self]
      unfold cmt
      rw [if_neg (by omega), if_neg (by omega)]
    rw [e0]
    refine iter_go (fun i => (nI i, upA L 75 (cmt L t i))) np (FU_lt (by omega)) ?_ (fun i hi => ?_)
    · unfold sX12_beat_80 bX12_beat_80
      dsimp only
      rw [chk_t (by decide), if_pos (by rw [show ix (3 : Int32) = 3 from rfl, ec np 3 (by decide), l3, nI_leI (by omega) (by omega)]; omega), chk_t (by decide), chk_t (by decide), show ix (2 : Int32) = 2 from rfl]
      dsimp only [letb]
      rw [ec np 2 (by decide), l2, nI_1]
    · unfold sX12_beat_80 bX12_beat_80
      dsimp only
      rw [chk_t (by decide), if_neg (by rw [show ix (3 : Int32) = 3 from rfl, ec i 3 (by decide), l3, nI_leI (by omega) (by omega)]; omega), chk_t (inb_n (by omega) (by decide)), show (24 : Int32) = nI 24 from rfl, show (20 : Int32) = nI 20 from rfl, nI_add, nI_add, chk_t (inb_n (by omega) (by decide)), ix_n (by omega), ix_n (by omega)]
      dsimp only [letb]
      rw [bnd_s (roomIn_n _ ht (by omega)), chk_t (inb_n (by omega) (by decide)), ix_n (by omega), nI_1, upA_c (show (81 : Nat) ≠ 75 by decide), up2_upA, up2_upA, cmt_s (by omega)]
  refine iter_copy 75 80 0 10 5 M (FU_lt (by decide)) (Or.inl (by decide)) (fun i hi => ?_) ?_
  · unfold sX12_beat_48 bX12_beat_48
    dsimp only
    rw [if_neg (show ¬ (5 : Int32) ≤ nI i from nI_ge (b := 5) hi (by decide)), chk_t (inb_n hi (by decide)), show (10 : Int32) = nI 10 from rfl, nI_add, chk_t (inb_n (by omega) (by decide)), ix_n (by omega), ix_n (by omega), nI_1, Nat.zero_add]
    rfl
  · unfold sX12_beat_48 bX12_beat_48
    dsimp only
    rw [if_pos (show (5 : Int32) ≤ nI 5 from by decide)]
    refine inrO_s (h2 _ ?_ ?_)
    · unfold cpM; rw [upA_self, cpA_out (by omega)]; exact r3
    · unfold cpM; rw [upA_self, cpA_out (by omega)]; exact r2
theorem ok_beat {T : Nat} {I : Mem} (h : Sim T I) (hT : T ≤ 1000) (x1 : Int32) : OK T I (fX11_beat x1) (fX12_beat x1) := by
  obtain ⟨A, w, pw, hc, hv, hb, ⟨g0, g1, g2, g3, g4, g5, g6, g7⟩, gd, gp, hr⟩ := h.get
  have hb' := hb
  unfold BA at hb'
  obtain ⟨b1, b2, b3, b4, b5, b6, b7, b8, b9, b10, b11, b12, b13⟩ := hb'
  have h32 := pow_le32 b1.2
  have r0 := hr 0 (Or.inl (by decide))
  have r1 := hr 1 (Or.inl (by decide))
  have r2 := hr 2 (Or.inl (by decide))
  have r3 := hr 3 (Or.inl (by decide))
  have r4 := hr 4 (Or.inl (by decide))
  have r53 := hr 53 (Or.inr (Or.inr rfl))
  have hw := hv.2.2.1
  have hwl := hw.lt b3
  have hwd : ∀ p, p < A 3 → dg w p < 5 := fun p hp => by have := hw.2 p hp; omega
  have hD32 : ∀ r, r < 5 → A (5 + r) < 32 := fun r hr2 => by have := b9 r hr2; omega
  cases hs : stdB (A 3) (A 0) x1 with
  | false =>
    refine ok_bad h (-2) ?_ ?_
    · unfold fX11_beat
      rw [bnd_s (stdX x1 g0 b1.2 g2 b3), hs, if_pos (by decide), refX]
      rfl
    · unfold fX12_beat
      rw [bnd_s (stdM x1 (by rw [up0_c (by decide)]; exact r0) b1.2 (by rw [up0_c (by decide)]; exact r3) b3), hs, if_pos (by decide), refM]
      rfl
  | true =>
    obtain ⟨t, rfl, ht⟩ := std_get hs b3
    have htl := ht.lt b3
    have htd : ∀ p, p < A 3 → dg t p < 5 := fun p hp => by have := ht.2 p hp; omega
    have hgoX := canGo_n (b := 1) (np := A 3) (s := w) (t := t) (D := fun q => A (5 + q)) (I := I) g2 b3 gd hD32 (by omega) (by omega) hwd
    have hgoM : ∀ J : Mem, J 75 = I 75 → fX12_mayGo (nI w) (nI t) J = some (b2i (allB (goP (fun q => A (5 + q)) w t) (A 3))) := fun J hJ => mayGo_n (by rw [hJ]; exact r3) b3 (fun q hq => by rw [hJ]; exact hr _ (Or.inl (by omega))) hD32 (by omega) (by omega) hwd
    have hnow : ∀ J : Mem, J 75 = I 75 → fX12_now J = some (nI w) := fun J hJ => now_v (T := T) (pw := pw) (A := A) (by rw [hJ]; exact hv)
    cases hg : allB (goP (fun q => A (5 + q)) w t) (A 3) with
    | false =>
      rw [hg] at hgoX hgoM
      refine ok_no h (-3) ?_ ?_
      · unfold fX11_beat
        rw [bnd_s (stdX _ g0 b1.2 g2 b3), hs, if_neg (by decide), g3, bnd_s hgoX, if_pos (by decide), refXn]
        rfl
      · unfold fX12_beat
        rw [bnd_s (stdM _ (by rw [up0_c (by decide)]; exact r0) b1.2 (by rw [up0_c (by decide)]; exact r3) b3), hs, if_neg (by decide), bnd_s (hnow _ (up0_c (by decide))), bnd_s (hgoM _ (up0_c (by decide))), if_pos (by decide), refMn]
        rfl
    | true =>
      rw [hg] at hgoX hgoM
      obtain ⟨J1, j1, j2, j3, j4, j5, j6, j7, j8⟩ := remember_n (b := 1) g7 b7
      have hgo := go_n (b := 1) (np := A 3) (n := A 0) (ct := A 4) (law := A 1) (bt := A 2) (s := w) (t := t) (I := J1) (by rw [j3 0 (by decide)]; exact g0) b1.2 (by rw [j3 2 (by decide)]; exact g2) b3 (by rw [j3 1 (by decide)]; exact g1) (by omega) (by rw [j3 3 (by decide)]; exact g3) (by rw [j3 5 (by decide)]; exact g5) (by omega) b2 (by omega) (by omega) htd
      generalize hF : layB (A 3) (A 4) (A 1) (A 2 + 1) w t = F at hgo
      rw [show (1 : Nat) + 2 = 3 from rfl, show (1 : Nat) + 4 = 5 from rfl, j8 3 (by decide) (by decide), j8 5 (by decide) (by decide)] at hgo
      generalize hqX : gatR (A 3) (A 1) w t (pyP F t (I 3) (A 3), pyU F (I 5) (A 3)) (A 0) = qX at hgo
      generalize hJ2 : GM (up2 (up2 J1 1 5 (nI (A 2 + 1))) 1 3 (nI t)) 3 5 qX.1 qX.2 = J2 at hgo
      have J2c : ∀ c, c ≠ 1 → c ≠ 3 → c ≠ 5 → c ≠ 8 → J2 c = I c := fun c c1 c3 c5 c8 => by rw [← hJ2, GM_c c3 c5, up2_cc c1, up2_cc c1, j8 c c1 c8]
      have J275 := J2c 75 (by decide) (by decide) (by decide) (by decide)
      have htry := tryBeat_n (np := A 3) (n := A 0) (ct := A 4) (law := A 1) (bt := A 2) (s := w) (t := t) (I := J2) (by rw [J275]; exact r0) b1.2 (by rw [J275]; exact r3) b3 (by rw [J275]; exact r4) (by omega) (by rw [J275]; exact r1) b2 (by rw [J275]; exact r2) (by omega) (by omega) (by omega) htd
      rw [hF, J275, J2c 80 (by decide) (by decide) (by decide) (by decide), J2c 81 (by decide) (by decide) (by decide) (by decide)] at htry
      generalize hqM : gatR (A 3) (A 1) w t (pyP F t (cpA (I 75) (I 80) 10 0 5) (A 3), puM F (I 75) (I 81) (A 3)) (A 0) = qM at htry
      have hag : AG (A 3) qX qM := by
        rw [← hqX, ← hqM]
        refine gatR_ag ⟨fun r hr2 => pyP_ag (fun r hr3 => ?_) (A 3) htd r hr2, fun p hp => ?_⟩ (A 0) b1.2
        · rw [cpA_in (by omega) (by omega), gp r hr3, Nat.sub_zero]
          exact (hr _ (Or.inl (by omega))).symm
        · have e1 := lo_24 p (by omega)
          have e2 := hc.at (k := 24 + p) (Or.inr (Or.inl (by omega)))
          rw [e1.1, e1.2] at e2
          show pyU F (I 5) (A 3) p = puM F (I 75) (I 81) (A 3) p
          rw [pyU_at, puM_at, if_pos hp, if_pos hp, ← e2]
      have hout : ∀ p, A 3 ≤ p → qX.2 p = I 5 p := fun p hp => by
        rw [← hqX, gatR_out hp]
        show pyU F (I 5) (A 3) p = _
        rw [pyU_at, if_neg (by omega)]
      have hpb : PB (1000 + 4 * T + A 3) qX.1 := by
        rw [← hqX]
        refine gatR_pb (pyP_pb (fun r hr2 => ⟨A (10 + r), b13 r hr2, gp r hr2⟩) (A 3) htd) (A 0)
      generalize hK1 : GM J2 80 81 qM.1 qM.2 = K1 at htry
      have K1c : ∀ c, c ≠ 80 → c ≠ 81 → K1 c = J2 c := fun c c1 c2 => by rw [← hK1, GM_c c1 c2]
      have K175 : K1 75 = I 75 := by rw [K1c 75 (by decide) (by decide), J275]
      have K180 : K1 80 = qM.1 := by rw [← hK1, GM_1 (by decide)]
      have K181 : K1 81 = qM.2 := by rw [← hK1, GM_2]
      obtain ⟨K2, k1, k2, k3, k4, k5, k6, k7, k8⟩ := keepPast_n (ps := A 53) (I := K1) (by rw [K175]; exact r53) b7
      have hcm := commit_n (np := A 3) (bt := A 2) (t := t) (M := K2) (v := nI (cnt F (A 3))) (by rw [k8 3 (by decide) (by omega), K175]; exact r3) b3 (by rw [k8 2 (by decide) (by omega), K175]; exact r2) (by omega)
      generalize hK : up2 (upA (cpM K2 75 80 0 10 5) 75 (cmt (cpM K2 75 80 0 10 5) t (A 3))) 75 2 (nI (A 2 + 1)) = K at hcm
      have psl_le : psl (A 53) ≤ 7 ∧ psl (A 53) ≤ A 53 := by
        unfold psl
        by_cases e : A 53 = 8
        · rw [if_pos e]; omega
        · rw [if_neg e]; omega
      have psl_d : psl (A 53) + psd (A 53) ≤ A 53 := by
        unfold psl psd
        by_cases e : A 53 = 8
        · rw [if_pos e, if_pos e]; omega
        · rw [if_neg e, if_neg e]; omega
      have Kc : ∀ c, c ≠ 75 → K c = K2 c := fun c hc2 => by
        rw [← hK, up2_cc hc2, upA_c hc2]
        unfold cpM
        rw [upA_c hc2]
      have KJ : ∀ c, c ≠ 75 → c ≠ 80 → c ≠ 81 → K c = J2 c := fun c c1 c2 c3 => by rw [Kc c c1, k2 c c1, K1c c c2 c3]
      have KI : ∀ c, c ≠ 1 → c ≠ 3 → c ≠ 5 → c ≠ 8 → c ≠ 75 → c ≠ 80 → c ≠ 81 → K c = I c := fun c c1 c2 c3 c4 c5 c6 c7 => by rw [KJ c c5 c6 c7, J2c c c1 c2 c3 c4]
      -- the row behind it
      have Kr : ∀ k, k ≠ 2 → K 75 k = if 24 ≤ k ∧ k < 24 + A 3 then qM.2 (k - 24) else if 20 ≤ k ∧ k < 20 + A 3 then nI (dg t (k - 20)) else if 10 ≤ k ∧ k < 15 then qM.1 (k - 10) else K2 75 k := by
        intro k hk2
        rw [← hK, up2_i hk2, upA_self]
        unfold cmt
        have e81 : cpM K2 75 80 0 10 5 81 = qM.2 := by unfold cpM; rw [upA_c (by decide), k2 81 (by decide), K181]
        have e75 : cpM K2 75 80 0 10 5 75 k = if 10 ≤ k ∧ k < 15 then qM.1 (k - 10) else K2 75 k := by
          unfold cpM
          rw [upA_self]
          by_cases c : 10 ≤ k ∧ k < 15
          · rw [if_pos c, cpA_in c.1 (by omega), k2 80 (by decide), K180, Nat.zero_add]
          · rw [if_neg c, cpA_out (by omega)]
        rw [e81, e75]
      have Kr2 : K 75 2 = nI (A 2 + 1) := by rw [← hK, up2_self]
      have Krp : ∀ r, r < 5 → K 75 (10 + r) = qX.1 r := fun r hr2 => by
        rw [Kr _ (by omega), if_neg (by omega), if_neg (by omega), if_pos (by omega), show 10 + r - 10 = r by omega, hag.1 r hr2]
      have Kru : ∀ p, p < A 3 → K 75 (24 + p) = qX.2 p := fun p hp => by
        rw [Kr _ (by omega), if_pos (by omega), show 24 + p - 24 = p by omega, hag.2 p hp]
      have Kru2 : ∀ p, A 3 ≤ p → p < 4 → K 75 (24 + p) = I 75 (24 + p) := fun p hp hp2 => by
        rw [Kr _ (by omega), if_neg (by omega), if_neg (by omega), if_neg (by omega), k8 _ (by omega) (by omega), K175]
      have Kra : ∀ p, p < A 3 → K 75 (20 + p) = nI (dg t p) := fun p hp => by
        rw [Kr _ (by omega), if_neg (by omega), if_pos (by omega), show 20 + p - 20 = p by omega]
      have Kro : ∀ k, k ≠ 2 → k ≠ 53 → (k < 10 ∨ (15 ≤ k ∧ k < 20) ∨ (28 ≤ k ∧ k < 54) ∨ 158 ≤ k) → K 75 k = I 75 k := fun k q1 q2 q3 => by
        rw [Kr k q1, if_neg (by omega), if_neg (by omega), if_neg (by omega), k8 k q2 (by omega), K175]
      have Kr5 : K 75 53 = nI (psl (A 53) + 1) := by rw [Kr 53 (by decide), if_neg (by omega), if_neg (by omega), if_neg (by omega), k3]
      have Kr54 : ∀ k, 54 ≤ k → K 75 k = K2 75 k := fun k hk => by rw [Kr k (by omega), if_neg (by omega), if_neg (by omega), if_neg (by omega)]
      -- the house behind it
      have Kh : ∀ i, i ≠ 3 → i ≠ 5 → i ≠ 7 → K 1 i = I 1 i := fun i i1 i2 i3 => by rw [KJ 1 (by decide) (by decide) (by decide), ← hJ2, GM_c (by decide) (by decide), up2_i i1, up2_i i2, j3 i i3]
      have Kh7 : K 1 7 = nI (psl (A 53) + 1) := by rw [KJ 1 (by decide) (by decide) (by decide), ← hJ2, GM_c (by decide) (by decide), up2_i (by decide), up2_i (by decide), j2]
      have Kh5 : K 1 5 = nI (A 2 + 1) := by rw [KJ 1 (by decide) (by decide) (by decide), ← hJ2, GM_c (by decide) (by decide), up2_i (by decide), up2_self]
      have Kh3 : K 1 3 = nI t := by rw [KJ 1 (by decide) (by decide) (by decide), ← hJ2, GM_c (by decide) (by decide), up2_self]
      have Kp : K 3 = qX.1 := by rw [KJ 3 (by decide) (by decide) (by decide), ← hJ2, GM_1 (by decide)]
      have Ku : K 5 = qX.2 := by rw [KJ 5 (by decide) (by decide) (by decide), ← hJ2, GM_2]
      have K8 : K 8 = J1 8 := by rw [KJ 8 (by decide) (by decide) (by decide), ← hJ2, GM_c (by decide) (by decide), up2_cc (by decide), up2_cc (by decide)]
      refine ⟨nI (cnt F (A 3)), J2, K, ?_, ?_, ?_⟩
      · unfold fX11_beat
        rw [bnd_s (stdX _ g0 b1.2 g2 b3), hs, if_neg (by decide), g3, bnd_s hgoX, if_neg (by decide), bnd_s j1, j3 4 (by decide), g4, chk_t (inb_n (by omega) (by decide)), ix_n (by omega), bnd_s (asL_n _ (by omega)), bnd2_s hgo]
      · unfold fX12_beat
        rw [bnd_s (stdM _ (by rw [J275]; exact r0) b1.2 (by rw [J275]; exact r3) b3), hs, if_neg (by decide), bnd_s (hnow _ J275), bnd_s (hgoM _ J275), if_neg (by decide), bnd2_s htry, bnd_s k1, hcm]
      · obtain ⟨m, hm⟩ := Classical.axiomOfChoice (fun r => (by
          by_cases hr2 : r < 5
          · obtain ⟨m, h1, h2⟩ := hpb r hr2
            exact ⟨m, fun _ => ⟨h1, h2⟩⟩
          · exact ⟨0, fun q => absurd q hr2⟩ : ∃ m, r < 5 → m ≤ 1000 + 4 * T + A 3 ∧ qX.1 r = nI m))
        refine sim_frame h (by omega) ⟨fun k => if k = 2 then A 2 + 1 else if k = 53 then psl (A 53) + 1 else if 10 ≤ k ∧ k < 15 then m (k - 10) else A k, t, fun j => if j < psl (A 53) then pw (j + psd (A 53)) else w, ?_, ?_⟩ (fun q _ => by rw [KI 0 (by decide) (by decide) (by decide) (by decide) (by decide) (by decide) (by decide)]) (fun c q1 q2 => KI c (by omega) (by omega) (by omega) (by omega) (by omega) (by omega) (by omega)) (by rw [KI 35 (by decide) (by decide) (by decide) (by decide) (by decide) (by decide) (by decide)]) (KI 36 (by decide) (by decide) (by decide) (by decide) (by decide) (by decide) (by decide)) (by rw [KI 74 (by decide) (by decide) (by decide) (by decide) (by decide) (by decide) (by decide)]) (by rw [KI 74 (by decide) (by decide) (by decide) (by decide) (by decide) (by decide) (by decide)]) (fun k q1 q2 => Kro k (by omega) (by omega) (by omega)) (KI 76 (by decide) (by decide) (by decide) (by decide) (by decide) (by decide) (by decide)) (KI 77 (by decide) (by decide) (by decide) (by decide) (by decide) (by decide) (by decide)) (KI 78 (by decide) (by decide) (by decide) (by decide) (by decide) (by decide) (by decide))
        · -- the house's ints
          have hA44 : (if (44 : Nat) = 2 then A 2 + 1 else if (44 : Nat) = 53 then psl (A 53) + 1 else if 10 ≤ 44 ∧ 44 < 15 then m (44 - 10) else A 44) = A 44 := rfl
          dsimp only
          rw [hA44]
          refine ⟨fun k hk => ?_, Kh3, fun j hj => ?_⟩
          · have l54 := SK_lt hk
            have base := hc.at hk
            rw [Nat.zero_add]
            by_cases k2' : k = 2
            · subst k2'; exact Kh5.trans Kr2.symm
            by_cases k53 : k = 53
            · subst k53; exact Kh7.trans Kr5.symm
            by_cases k10 : 10 ≤ k ∧ k < 15
            · have e1 := lo_10 (k - 10) (by omega)
              rw [show 10 + (k - 10) = k by omega] at e1
              rw [e1.1, e1.2, show (1 : Nat) + 2 = 3 from rfl, Kp]
              have := Krp (k - 10) (by omega)
              rw [show 10 + (k - 10) = k by omega] at this
              exact this.symm
            by_cases k24 : 24 ≤ k ∧ k < 28
            · have e1 := lo_24 (k - 24) (by omega)
              rw [show 24 + (k - 24) = k by omega] at e1
              rw [e1.1, e1.2] at base ⊢
              rw [show (1 : Nat) + 4 = 5 from rfl] at base ⊢
              rw [Ku]
              by_cases kp : k - 24 < A 3
              · have := Kru (k - 24) kp
                rw [show 24 + (k - 24) = k by omega] at this
                exact this.symm
              · have := Kru2 (k - 24) (by omega) (by omega)
                rw [show 24 + (k - 24) = k by omega] at this
                rw [this, hout _ (by omega), base]
            · have l6 := lo_6 hk
              rw [Kro k k2' k53 (by unfold SK at hk; omega), ← base]
              by_cases z : lo k = 0
              · rw [z, Nat.add_zero]
                have h57 : ∀ k, k < 54 → ¬ (lo k = 0 ∧ ¬ k = 2 ∧ ¬ k = 53 ∧ (lsl k = 3 ∨ lsl k = 5 ∨ lsl k = 7)) := by decide +kernel
                exact Kh _ (fun y => h57 k l54 ⟨z, k2', k53, Or.inl y⟩) (fun y => h57 k l54 ⟨z, k2', k53, Or.inr (Or.inl y)⟩) (fun y => h57 k l54 ⟨z, k2', k53, Or.inr (Or.inr y)⟩)
              · have h24 : ∀ k, k < 54 → lo k = 2 ∨ lo k = 4 → (10 ≤ k ∧ k < 15) ∨ (24 ≤ k ∧ k < 28) := by decide +kernel
                rw [KI _ (by omega) (by intro q; have := h24 k l54 (Or.inl (by omega)); omega) (by intro q; have := h24 k l54 (Or.inr (by omega)); omega) (by omega) (by omega) (by omega) (by omega)]
          · have hj' : j < psl (A 53) + 1 := hj
            rw [show (1 : Nat) + 7 = 8 from rfl, K8]
            rw [show (1 : Nat) + 7 = 8 from rfl] at j4 j5 j6 j7
            by_cases e : j = psl (A 53)
            · subst e
              dsimp only
              rw [if_neg (show ¬ psl (A 53) < psl (A 53) from Nat.lt_irrefl _)]
              refine ⟨by rw [j4]; exact g3, fun q hq => ?_, fun p hp => ?_⟩
              · rw [j5 q hq, Nat.zero_add, Kr54 _ (by omega), k4 q hq, K175, hr _ (Or.inl (by omega)), show (1 : Nat) + 2 = 3 from rfl, gp q hq]
              · have e1 := lo_24 p hp
                have e2 := hc.at (k := 24 + p) (Or.inr (Or.inl (by omega)))
                rw [e1.1, e1.2] at e2
                rw [j6 p hp, Nat.zero_add, Kr54 _ (by omega), k5 p hp, K175, e2]
            · have hjl : j < psl (A 53) := by omega
              dsimp only
              rw [if_pos hjl]
              obtain ⟨c1, c2, c3⟩ := hc.2.2 (j + psd (A 53)) (by omega)
              refine ⟨?_, fun q hq => ?_, fun p hp => ?_⟩
              · rw [j7 _ (by omega), ← c1]
                congr 1
                omega
              · have e9 := c2 q hq
                have e8 := k7 (13 * j + q) (by omega)
                rw [j7 _ (by omega), Nat.zero_add, Kr54 _ (by omega), show 54 + 13 * j + q = 54 + (13 * j + q) by omega, e8, K175]
                rw [Nat.zero_add] at e9
                rw [show 10 * psd (A 53) + (10 * j + 1 + q) = 10 * (j + psd (A 53)) + 1 + q by omega, show (8 : Nat) = 1 + 7 from rfl, e9]
                congr 1
                omega
              · have e9 := c3 p hp
                have e8 := k7 (13 * j + 5 + p) (by omega)
                rw [j7 _ (by omega), Nat.zero_add, Kr54 _ (by omega), show 54 + 13 * j + 5 + p = 54 + (13 * j + 5 + p) by omega, e8, K175]
                rw [Nat.zero_add] at e9
                rw [show 10 * psd (A 53) + (10 * j + 6 + p) = 10 * (j + psd (A 53)) + 6 + p by omega, show (8 : Nat) = 1 + 7 from rfl, e9]
                congr 1
                omega
        · -- the row's numbers
          obtain ⟨-, -, -, v4, v5, v6, v7, v8⟩ := hv
          have hWV : ∀ s, WV A s → WV (fun k => if k = 2 then A 2 + 1 else if k = 53 then psl (A 53) + 1 else if 10 ≤ k ∧ k < 15 then m (k - 10) else A k) s := fun s hs2 => hs2
          refine ⟨?_, fun k hk => ?_, hWV t ht, fun p hp => ?_, fun p q1 q2 => ?_, fun i hi => ?_, fun i hi => ?_, fun j hj => ?_⟩
          · have hm2 : ∀ q, q < 5 → m q ≤ 1000 + 4 * (T + 1) := fun q hq => by have := (hm q hq).1; omega
            refine ⟨b1, b2, b3, ?_, ?_, b6, ?_, b8, fun q hq => ?_, fun q q1 q2 => ?_, fun a c q1 q2 => ?_, fun a q1 => ?_, fun q hq => ?_⟩
            · show psl (A 53) + 1 ≤ A 2 + 1; omega
            · show A 2 + 1 ≤ T + 1; omega
            · show psl (A 53) + 1 ≤ 8; omega
            · have e5 : (if 5 + q = 2 then A 2 + 1 else if 5 + q = 53 then psl (A 53) + 1 else if 10 ≤ 5 + q ∧ 5 + q < 15 then m (5 + q - 10) else A (5 + q)) = A (5 + q) := by rw [if_neg (by omega), if_neg (by omega), if_neg (by omega)]
              dsimp only; rw [e5]; exact b9 q hq
            · dsimp only; rw [if_neg (by omega), if_neg (by omega), if_neg (by omega)]; exact b10 q q1 q2
            · have e5 : ∀ q, q < 5 → (if 5 + q = 2 then A 2 + 1 else if 5 + q = 53 then psl (A 53) + 1 else if 10 ≤ 5 + q ∧ 5 + q < 15 then m (5 + q - 10) else A (5 + q)) = A (5 + q) := fun q hq => by rw [if_neg (by omega), if_neg (by omega), if_neg (by omega)]
              dsimp only; rw [e5 a q1, e5 c q2]; exact b11 a c q1 q2
            · dsimp only; rw [if_neg (by omega), if_neg (by omega), if_neg (by omega)]; exact b12 a q1
            · dsimp only; rw [if_neg (by omega), if_neg (by omega), if_pos (by omega), show 10 + q - 10 = q by omega]; exact hm2 q hq
          · dsimp only
            rw [Nat.zero_add]
            by_cases k2' : k = 2
            · rw [if_pos k2', k2']; exact Kr2
            · rw [if_neg k2']
              by_cases k53 : k = 53
              · rw [if_pos k53, k53]; exact Kr5
              · rw [if_neg k53]
                by_cases k10 : 10 ≤ k ∧ k < 15
                · rw [if_pos k10]
                  have := Krp (k - 10) (by omega)
                  rw [show 10 + (k - 10) = k by omega] at this
                  rw [this]
                  exact (hm (k - 10) (by omega)).2
                · rw [if_neg k10, Kro k k2' k53 (by omega)]
                  exact hr k hk
          · dsimp only; rw [Nat.zero_add]; exact Kra p hp
          · dsimp only; rw [Nat.zero_add]; rw [Kru2 p q1 q2]; exact v5 p q1 q2
          · dsimp only; rw [Nat.zero_add, Kro _ (by omega) (by omega) (by omega)]; exact v6 i hi
          · have hi' : i < A 44 := hi
            dsimp only; rw [Nat.zero_add, Kro _ (by omega) (by omega) (by omega)]; exact v7 i hi'
          · have hj' : j < psl (A 53) + 1 := hj
            dsimp only
            by_cases e : j = psl (A 53)
            · subst e
              rw [if_neg (by omega)]
              refine ⟨hWV w hw, fun p hp => ?_, fun p q1 q2 => ?_, fun q hq => ?_⟩
              · have hp' : p < A 3 := hp
                rw [Nat.zero_add, Kr54 _ (by omega), k6 p (by omega), K175]; exact v4 p hp'
              · have q1' : A 3 ≤ p := q1
                rw [Nat.zero_add, Kr54 _ (by omega), k5 p q2, K175]; exact v5 p q1' q2
              · exact ⟨A (10 + q), by have := b13 q hq; omega, by rw [Nat.zero_add, Kr54 _ (by omega), k4 q hq, K175]; exact hr _ (Or.inl (by omega))⟩
            · have hjl : j < psl (A 53) := by omega
              rw [if_pos hjl]
              obtain ⟨c1, c2, c3, c4⟩ := v8 (j + psd (A 53)) (by omega)
              refine ⟨hWV _ c1, fun p hp => ?_, fun p q1 q2 => ?_, fun q hq => ?_⟩
              · have hp' : p < A 3 := hp
                rw [Nat.zero_add, Kr54 _ (by omega), show 54 + 13 * j + 9 + p = 54 + (13 * j + 9 + p) by omega, k7 _ (by omega), K175, ← c2 p hp']
                congr 1
                omega
              · have q1' : A 3 ≤ p := q1
                rw [Nat.zero_add, Kr54 _ (by omega), show 54 + 13 * j + 5 + p = 54 + (13 * j + 5 + p) by omega, k7 _ (by omega), K175, ← c3 p q1' q2]
                congr 1
                omega
              · obtain ⟨mm, z1, z2⟩ := c4 q hq
                refine ⟨mm, by omega, ?_⟩
                rw [Nat.zero_add, Kr54 _ (by omega), show 54 + 13 * j + q = 54 + (13 * j + q) by omega, k7 _ (by omega), K175, ← z2]
                congr 1
                omega
