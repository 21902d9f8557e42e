theorem look_n {D P : Nat → Nat} {n r l : Nat} {I : Mem} (g0 : I 1 0 = nI n) (hn : n ≤ 5) (gd : ∀ q, q < 5 → I 2 q = nI (D q)) (gp : ∀ q, q < 5 → I 3 q = nI (P q)) (hD : ∀ q, q < 5 → D q < 32) (hP : ∀ q, q < 5 → P q ≤ 10000) (hr : r < 5) (hl : l ≤ 6) : ∃ J b, fX9_look 1 (nI r) (nI l) I = some J ∧ (dfs D P n (l + 1) r [] 0 0).foldl upB none = some b ∧ BM J (some b) ∧ gB (some b) ∧ ∀ c, (c < 71 ∨ 74 ≤ c) → J c = I c := by
  unfold fX9_look
  dsimp only [letb]
  rw [if_neg (show ¬ (6 : Int32) < nI l from nI_nlt (a := 6) hl (by decide))]
  generalize hI0 : up2 (up2 (up2 I 71 3 (enc 1)) 71 4 (nI l)) 71 0 (-1 : Int32) = I0
  have e3 : I0 71 3 = enc 1 := by rw [← hI0, up2_i (by decide), up2_i (by decide), up2_self]
  have e4 : I0 71 4 = nI l := by rw [← hI0, up2_i (by decide), up2_self]
  have e0 : I0 71 0 = -1 := by rw [← hI0, up2_self]
  have ec : ∀ c, c ≠ 71 → I0 c = I c := fun c hc => by rw [← hI0, up2_cc hc, up2_cc hc, up2_cc hc]
  have g : GI I0 I0 [] none := ⟨e0, trivial, fun j hj => absurd hj (Nat.not_lt_zero _), rfl, rfl, fun _ _ => rfl⟩
  obtain ⟨J, j1, j2⟩ := wgo_n (D := D) (P := P) (n := n) e3 e4 hl (by rw [ec 1 (by decide)]; exact g0) hn (fun q hq => by rw [ec 2 (by decide)]; exact gd q hq) (fun q hq => by rw [ec 3 (by decide)]; exact gp q hq) hD hP (l + 1) 9 r [] 0 0 none I0 (by simp) (by omega) hr (by decide) (by simp) g
  obtain ⟨b, b1, -⟩ := isB_all (0 + (if Nat.testBit 0 r = true then 0 else P r), [] ++ [r]) ((List.range n).flatMap (fun q => if (D r).testBit q = true then dfs D P n l q ([] ++ [r]) (0 ||| 2 ^ r) (0 + (if Nat.testBit 0 r = true then 0 else P r)) else []))
  have b2 : (dfs D P n (l + 1) r [] 0 0).foldl upB none = some b := by rw [dfs]; exact b1
  rw [b2] at j2
  refine ⟨J, b, ?_, b2, j2.1, j2.2.1, fun c hc => by rw [j2.2.2.2.2.2 c hc, ec c (by omega)]⟩
  rw [bnd_s (show fX9_go 9 (nI r) 0 0 0 I0 = some J from j1)]
/-- what a search and the model's rows answer -/
theorem pick_at {r : Nat} {b : RW} {J : Mem} {x4 x5 x6 : Int32} (hr : r < 5) (hb : BM J (some b)) (hg : gB (some b)) (hm : MB r 7 x4 x5 x6 (some b)) : J 71 0 = x4 ∧ J 71 1 = x5 ∧ ∃ k v, k ≤ 6 ∧ v < 5 ^ k ∧ x5 = nI k ∧ x6 = nI v ∧ ∀ i, i ≤ k → J 72 i = if i = 0 then nI r else nI (v / 5 ^ (k - i) % 5) := by
  obtain ⟨h1, h2, h3⟩ := hb
  obtain ⟨k, v, a1, a2, a3, a4, a5, a6, a7⟩ := hm
  have hlen : b.2.length = k + 1 := by rw [a3, List.length_cons, fgL_len]
  refine ⟨by rw [h1, a5], by rw [h2, a6, hlen]; rfl, k, v, by omega, a2, a6, a7, fun i hi => ?_⟩
  rw [h3 i (by omega), a3]
  cases i with
  | zero => rw [if_pos rfl]; rfl
  | succ i => rw [if_neg (by omega), List.getD_cons_succ, fgL_at k v i (by omega), show k - 1 - i = k - (i + 1) by omega]
theorem ok_picks {T : Nat} {I : Mem} (h : Sim T I) (hT : T ≤ 1000) (x1 x2 x3 : Int32) : OK T I (fX11_picks x1 x2 x3) (fX12_picks x1 x2 x3) := by
  obtain ⟨A, w, pw, hc, hv, hb, ⟨g0, g1, g2, g3, g4, g5, g6, g7⟩, gd, gp, hr⟩ := h.get
  have hn : (1 ≤ A 0 ∧ A 0 ≤ 5) ∧ (∀ q, q < 5 → A (5 + q) < 2 ^ A 0) ∧ ∀ q, q < 5 → A (10 + q) ≤ 1000 + 4 * T := by
    unfold BA at hb
    exact ⟨hb.1, hb.2.2.2.2.2.2.2.2.1, hb.2.2.2.2.2.2.2.2.2.2.2.2⟩
  have h32 := pow_le32 hn.1.2
  have r0 := hr 0 (Or.inl (by decide))
  have r0' : up2 I 0 10 (I 0 10 + 1) 75 0 = nI (A 0) := by rw [up0_c (by decide)]; exact r0
  have badX : jX11_picks_23 I = some (-10, up2 I 0 10 (I 0 10 + 1)) := rfl
  have badM : jX12_picks_25 (up2 I 0 10 (I 0 10 + 1)) = some (-10, up2 (up2 I 0 10 (I 0 10 + 1)) 78 0 (up2 I 0 10 (I 0 10 + 1) 78 0 + 1)) := rfl
  rcases rng0 x1 (A 0) (by omega) with ⟨r, hrr, rfl, ht⟩ | hf
  · rcases rng x2 0 6 (by decide) with ⟨l, -, hl, rfl⟩ | hf
    · have c1 : ¬ nI l < 0 := nI_pos (by omega)
      have c2 : ¬ (6 : Int32) < nI l := nI_nlt (a := 6) hl (by decide)
      by_cases c3 : (-1 : Int32) ≤ x3
      · generalize hDf : (fun q => if q < 5 then A (5 + q) else 0) = D
        generalize hPf : (fun q => A (10 + q)) = P
        have dD : ∀ q, q < 5 → A (5 + q) = D q := fun q hq => by rw [← hDf]; exact (if_pos hq).symm
        have dP : ∀ q, A (10 + q) = P q := fun q => by rw [← hPf]
        have hD : ∀ q, D q < 2 ^ A 0 := fun q => by
          rw [← hDf]
          dsimp only
          by_cases c : q < 5
          · rw [if_pos c]; exact hn.2.1 q c
          · rw [if_neg c]; exact Nat.pow_pos (by decide)
        have hD5 : ∀ q, q < 5 → D q < 32 := fun q _ => by have := hD q; omega
        have hP5 : ∀ q, q < 5 → P q ≤ 10000 := fun q hq => by rw [← dP]; have := hn.2.2 q hq; omega
        obtain ⟨J, b, j1, j2, j3, j4, j5⟩ := look_n (D := D) (P := P) (l := l) (r := r) g0 hn.1.2 (fun q hq => by rw [gd q hq, dD q hq]) (fun q hq => by rw [gp q hq, dP]) hD5 hP5 (by omega) hl
        have J75 : J 75 = I 75 := j5 75 (by omega)
        have rJ0 : J 75 0 = nI (A 0) := by rw [J75]; exact r0
        have rJd : ∀ q, q < 5 → J 75 (5 + q) = nI (D q) := fun q hq => by rw [J75, ← dD q hq]; exact hr _ (Or.inl (by omega))
        have rJp : ∀ q, q < 5 → J 75 (10 + q) = nI (P q) := fun q hq => by rw [J75, ← dP]; exact hr _ (Or.inl (by omega))
        rw [best_eq hn.1.2 hD] at j2
        have key := iter_invF (s := sX12_picks_47 (nI r) (nI l) x3 J) (fun k x => x.2.2.2.1 = nI (5 ^ k) ∧ x.2.2.2.2 = nI k ∧ MB r k x.1 x.2.1 x.2.2.1 ((bfL D P r k).foldl upB none)) (fun z => z.2 = J ∧ z.1 = (if x3 = -1 then J 71 0 else if x3 ≤ J 71 1 then J 72 (ix x3) else -5)) (l + 1) (FU_lt (by omega)) (x := ((-1 : Int32), (0 : Int32), (0 : Int32), (1 : Int32), (0 : Int32))) ⟨rfl, rfl, rfl, rfl, rfl⟩ (fun k x hk hx => ?_) (fun x hx => ?_)
        · obtain ⟨⟨z1, z2⟩, k1, k2, k3⟩ := key
          dsimp only at k2 k3
          refine ⟨z1, J, J, ?_, ?_, h.trial (fun c q1 q2 => j5 c (by omega))⟩
          · unfold fX11_picks
            rw [bnd_s (isRoomX _ g0 (by omega)), ht, if_neg (by decide), if_neg c1, if_neg c2, if_pos c3, bnd_s j1, k3]
            by_cases c4 : x3 = -1
            · rw [if_pos c4, if_pos c4]
            · rw [if_neg c4, if_neg c4]
              by_cases c5 : x3 ≤ J 71 1
              · rw [if_pos c5, if_pos c5]
                have hin : inb x3 7 = true := by
                  rw [j3.2.1] at c5
                  have hb7 := j4.2.2
                  rw [x_le, nI_toInt (by omega)] at c5
                  rw [x_le, show (-1 : Int32).toInt = -1 from rfl] at c3
                  have c6 : x3.toInt ≠ -1 := fun e => c4 (Int32.toInt_inj.mp e)
                  have e := nI_back (x := x3) (by omega)
                  rw [e]
                  exact inb_n (by omega) (by decide)
                rw [chk_t hin]
              · rw [if_neg c5, if_neg c5]
          · unfold fX12_picks
            rw [bnd_s (isRoomM _ rJ0 (by omega)), ht, if_neg (by decide), bnd_s (in_t (lo := 0) (hi := 6) rfl rfl (by omega) hl (by omega)), if_neg (by decide), if_pos c3, k1, k2]
        · obtain ⟨x4, x5, x6, x7, x8⟩ := x
          dsimp only at hx
          obtain ⟨rfl, rfl, hm⟩ := hx
          obtain ⟨y4, y5, y6, i1, i2⟩ := picksM_in (x2 := nI l) (x3 := x3) rJ0 hn.1.2 rJd rJp hD hP5 (by omega) (by omega) hm
          refine ⟨(y4, y5, y6, nI (5 ^ (k + 1)), nI (k + 1)), ?_, rfl, rfl, by rw [bfL_s, List.foldl_append]; exact i2⟩
          unfold sX12_picks_47 bX12_picks_47
          dsimp only
          rw [if_neg (nI_nlt (by omega) (by omega)), i1]
        · obtain ⟨x4, x5, x6, x7, x8⟩ := x
          dsimp only at hx
          obtain ⟨rfl, rfl, hm⟩ := hx
          rw [j2] at hm
          obtain ⟨p1, p2, k, v, p3, p4, p5, p6, p7⟩ := pick_at (by omega) j3 j4 (hm.mono (by omega))
          have h5 : 5 ^ k ≤ 5 ^ 6 := Nat.pow_le_pow_right (by decide) p3
          refine ⟨((if x3 = -1 then J 71 0 else if x3 ≤ J 71 1 then J 72 (ix x3) else -5), J), ?_, rfl, rfl⟩
          unfold sX12_picks_47 bX12_picks_47
          dsimp only
          rw [if_pos (nI_lt (by omega) (by omega)), p1, p2]
          unfold jX12_picks_151
          by_cases c4 : x3 = -1
          · rw [if_pos c4, if_pos c4, if_pos c4]; rfl
          · rw [if_neg c4, if_neg c4, if_neg c4]
            by_cases c5 : x3 ≤ x5
            · rw [if_pos c5, if_pos c5]
              rw [p5, x_le, nI_toInt (by omega)] at c5
              rw [x_le, show (-1 : Int32).toInt = -1 from rfl] at c3
              have c6 : x3.toInt ≠ -1 := fun e => c4 (Int32.toInt_inj.mp e)
              have e := nI_back (x := x3) (by omega)
              generalize hi : x3.toInt.toNat = i at e
              subst e
              rw [ix_n (by omega), p7 i (by omega)]
              by_cases c7 : i = 0
              · rw [if_pos (show nI i = 0 by rw [c7]; rfl), if_pos c7]
              · rw [if_neg (nI_ne0 (by omega) (by omega)), if_neg c7, p5, p6, pk_sub (by omega), bnd_s (figure_n (by omega) (by omega))]
            · rw [if_neg c5, if_neg c5]; rfl
      · refine ok_bad h (-10) ?_ ?_
        · unfold fX11_picks
          rw [bnd_s (isRoomX _ g0 (by omega)), ht, if_neg (by decide), if_neg c1, if_neg c2, if_neg c3]
          exact badX
        · unfold fX12_picks
          rw [bnd_s (isRoomM _ r0' (by omega)), ht, if_neg (by decide), bnd_s (in_t (lo := 0) (hi := 6) rfl rfl (by omega) hl (by omega)), if_neg (by decide), if_neg c3]
          exact badM
    · refine ok_bad h (-10) ?_ ?_
      · unfold fX11_picks
        rw [bnd_s (isRoomX _ g0 (by omega)), ht, if_neg (by decide)]
        by_cases c : x2 < 0
        · rw [if_pos c]; exact badX
        · rw [if_neg c, if_pos (by rw [x_lt, show (6 : Int32).toInt = 6 from rfl]; rw [x_lt, n_toInt0] at c; omega)]; exact badX
      · unfold fX12_picks
        rw [bnd_s (isRoomM _ r0' (by omega)), ht, if_neg (by decide), bnd_s (in_f (lo := 0) (hi := 6) rfl rfl hf), if_pos (by decide)]
        exact badM
  · refine ok_bad h (-10) ?_ ?_
    · unfold fX11_picks
      rw [bnd_s (isRoomX _ g0 (by omega)), hf, if_pos (by decide)]
      exact badX
    · unfold fX12_picks
      rw [bnd_s (isRoomM _ r0' (by omega)), hf, if_pos (by decide)]
      exact badM
