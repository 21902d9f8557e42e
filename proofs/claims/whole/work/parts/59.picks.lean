/-! ===== picks: the search, and the rows one by one ===== -/
def gB : Option RW → Prop
  | none => True
  | some b => b.1 < 2 ^ 30 ∧ 1 ≤ b.2.length ∧ b.2.length ≤ 7
/-- what the search has found -/
def BM (I : Mem) : Option RW → Prop
  | none => I 71 0 = -1
  | some b => I 71 0 = nI b.1 ∧ I 71 1 = nI (b.2.length - 1) ∧ ∀ j, j < b.2.length → I 72 j = nI (b.2.getD j 0)
def GI (I0 M : Mem) (pre : List Nat) (b : Option RW) : Prop := BM M b ∧ gB b ∧ (∀ j, j < pre.length → M 73 j = nI (pre.getD j 0)) ∧ M 71 3 = I0 71 3 ∧ M 71 4 = I0 71 4 ∧ ∀ c, (c < 71 ∨ 74 ≤ c) → M c = I0 c
theorem getD_app1 {l1 l2 : List Nat} {j : Nat} (h : j < l1.length) : (l1 ++ l2).getD j 0 = l1.getD j 0 := by
  simp only [List.getD_eq_getElem?_getD]
  rw [List.getElem?_append_left h]
theorem getD_app2 {l1 : List Nat} {x : Nat} : (l1 ++ [x]).getD l1.length 0 = x := by
  simp [List.getD_eq_getElem?_getD]
theorem GI.less {I0 M : Mem} {pre : List Nat} {x : Nat} {b : Option RW} (h : GI I0 M (pre ++ [x]) b) : GI I0 M pre b := by
  obtain ⟨a1, a2, a3, a4⟩ := h
  refine ⟨a1, a2, fun j hj => ?_, a4⟩
  have := a3 j (by rw [List.length_append]; omega)
  rw [getD_app1 hj] at this
  exact this
theorem BM.congr {I J : Mem} {b : Option RW} (h : BM I b) (e1 : J 71 = I 71) (e2 : J 72 = I 72) : BM J b := by
  cases b with
  | none =>
    show J 71 0 = -1
    rw [e1]; exact h
  | some b =>
    show J 71 0 = _ ∧ J 71 1 = _ ∧ ∀ j, j < b.2.length → J 72 j = _
    rw [e1, e2]; exact h
/-- a row is laid, and is better or not -/
theorem wgo_34 {D P : Nat → Nat} {n lim : Nat} {I0 I : Mem} {pre : List Nat} {b : Option RW} {room pk : Nat} (rec : Int32 → Int32 → Int32 → Int32 → Mem → Option Mem) (x3 : Int32) (h : GI I0 I pre b) (hl : pre.length ≤ 6) (hpk : pk < 2 ^ 30) : ∃ J, jX9_go_34 rec (nI room) (nI pre.length) x3 (nI pk) I = jX9_go_96 rec (nI room) (nI pre.length) x3 (nI pk) J ∧ GI I0 J (pre ++ [room]) (upB b (pk, pre ++ [room])) := by
  obtain ⟨a1, a2, a3, a4, a5, a6⟩ := h
  unfold jX9_go_34
  rw [chk_t (inb_n (by omega) (by decide)), ix_n (by omega)]
  dsimp only [letb]
  have q0 : ∀ i, up2 I 73 pre.length (nI room) 71 i = I 71 i := fun i => up2_c (by decide)
  rw [q0, q0]
  have hrow : ∀ j, j < (pre ++ [room]).length → up2 I 73 pre.length (nI room) 73 j = nI ((pre ++ [room]).getD j 0) := fun j hj => by
    rw [List.length_append, List.length_singleton] at hj
    by_cases e : j = pre.length
    · rw [e, up2_self, getD_app2]
    · rw [up2_i e, getD_app1 (by omega)]
      exact a3 j (by omega)
  have better : jX9_go_69 rec (nI room) (nI pre.length) x3 (nI pk) (up2 I 73 pre.length (nI room)) = jX9_go_96 rec (nI room) (nI pre.length) x3 (nI pk) (upA (up2 (up2 (up2 I 73 pre.length (nI room)) 71 0 (nI pk)) 71 1 (nI pre.length)) 72 (cpA (up2 I 73 pre.length (nI room) 73) (I 72) 0 0 (pre.length + 1))) := by
    unfold jX9_go_69
    dsimp only [letb]
    have ck : cpok (0 : Int32) (0 : Int32) (nI pre.length + (1 : Int32)) 7 7 = true := by
      have hd : ∀ k, k ≤ 6 → cpok (0 : Int32) (0 : Int32) (nI k + (1 : Int32)) 7 7 = true := by decide +kernel
      exact hd _ hl
    rw [chk_t ck, nI_1, ix_n (by omega), up2_cc (a := 73) (by decide), up2_cc (a := 73) (by decide), up2_cc (a := 72) (by decide), up2_cc (a := 72) (by decide), up2_cc (a := 72) (by decide)]
    rfl
  have gbetter : GI I0 (upA (up2 (up2 (up2 I 73 pre.length (nI room)) 71 0 (nI pk)) 71 1 (nI pre.length)) 72 (cpA (up2 I 73 pre.length (nI room) 73) (I 72) 0 0 (pre.length + 1))) (pre ++ [room]) (some (pk, pre ++ [room])) := by
    refine ⟨⟨?_, ?_, fun j hj => ?_⟩, ⟨hpk, ?_, ?_⟩, fun j hj => ?_, ?_, ?_, fun c hc => ?_⟩
    · rw [upA_c (by decide), up2_i (by decide), up2_self]
    · rw [upA_c (by decide), up2_self]
      show nI pre.length = nI ((pre ++ [room]).length - 1)
      rw [List.length_append, List.length_singleton, Nat.add_sub_cancel]
    · have hj2 : j < pre.length + 1 := by
        have := hj
        rw [List.length_append, List.length_singleton] at this
        exact this
      rw [upA_self, cpA_in (by omega) (by omega), Nat.zero_add, Nat.sub_zero]
      exact hrow j hj
    · show 1 ≤ (pre ++ [room]).length
      rw [List.length_append, List.length_singleton]; omega
    · show (pre ++ [room]).length ≤ 7
      rw [List.length_append, List.length_singleton]; omega
    · rw [upA_c (by decide), up2_c (by decide), up2_c (by decide)]
      exact hrow j hj
    · rw [upA_c (by decide), up2_i (by decide), up2_i (by decide), up2_c (by decide)]; exact a4
    · rw [upA_c (by decide), up2_i (by decide), up2_i (by decide), up2_c (by decide)]; exact a5
    · rw [upA_c (by omega), up2_cc (by omega), up2_cc (by omega), up2_cc (by omega)]; exact a6 c hc
  cases b with
  | none =>
    refine ⟨_, ?_, gbetter⟩
    have e : I 71 0 = -1 := a1
    rw [if_pos (by rw [e, x_lt, nI_toInt (by omega), show (-1 : Int32).toInt = -1 from rfl]; omega), better]
  | some b =>
    obtain ⟨e1, e2, e3⟩ := a1
    obtain ⟨g1, g2, g3⟩ := a2
    have hlen : (pre ++ [room]).length = pre.length + 1 := by rw [List.length_append, List.length_singleton]
    have gsame : GI I0 (up2 I 73 pre.length (nI room)) (pre ++ [room]) (some b) := by
      refine ⟨BM.congr (b := some b) ⟨e1, e2, e3⟩ (up2_cc (by decide)) (up2_cc (by decide)), ⟨g1, g2, g3⟩, hrow, ?_, ?_, fun c hc => ?_⟩
      · rw [up2_c (by decide)]; exact a4
      · rw [up2_c (by decide)]; exact a5
      · rw [up2_cc (by omega)]; exact a6 c hc
    unfold upB
    dsimp only
    rw [hlen]
    by_cases c1 : b.1 < pk
    · refine ⟨_, ?_, by rw [if_pos (Or.inl c1)]; exact gbetter⟩
      rw [if_pos (by rw [e1]; exact nI_lt c1 (by omega)), better]
    · rw [if_neg (by rw [e1]; exact nI_nlt (by omega) (by omega))]
      by_cases c2 : pk = b.1
      · rw [if_pos (by rw [e1, c2])]
        by_cases c3 : b.2.length - 1 ≤ pre.length
        · refine ⟨_, ?_, by rw [if_neg (by omega)]; exact gsame⟩
          rw [if_pos (by rw [e2]; exact nI_le c3 (by omega))]
        · refine ⟨_, ?_, by rw [if_pos (Or.inr ⟨c2, by omega⟩)]; exact gbetter⟩
          rw [if_neg (by rw [e2]; exact nI_ge (by omega) (by omega)), better]
      · refine ⟨_, ?_, by rw [if_neg (by omega)]; exact gsame⟩
        rw [if_neg (by rw [e1, nI_eq (by omega) (by omega)]; exact c2)]
theorem wgo_n {D P : Nat → Nat} {n lim : Nat} {I0 : Mem} (h3 : I0 71 3 = enc 1) (h4 : I0 71 4 = nI lim) (hlim : lim ≤ 6) (g0 : I0 1 0 = nI n) (hn : n ≤ 5) (gd : ∀ q, q < 5 → I0 2 q = nI (D q)) (gp : ∀ q, q < 5 → I0 3 q = nI (P q)) (hD : ∀ q, q < 5 → D q < 32) (hP : ∀ q, q < 5 → P q ≤ 10000) : ∀ (f N room : Nat) (pre : List Nat) (seen bef : Nat) (b : Option RW) (I : Mem), pre.length + f = lim + 1 → f < N → room < 5 → seen < 32 → bef ≤ 10000 * pre.length → GI I0 I pre b → ∃ J, fX9_go N (nI room) (nI pre.length) (nI seen) (nI bef) I = some J ∧ GI I0 J pre ((dfs D P n f room pre seen bef).foldl upB b)
  | _, 0, _, _, _, _, _, _, _, hN, _, _, _, _ => by omega
  | 0, N + 1, room, pre, seen, bef, b, I, hf, _, _, _, _, h => by
    refine ⟨I, ?_, h⟩
    show hX9_go (fX9_go N) (nI room) (nI pre.length) (nI seen) (nI bef) I = some I
    unfold hX9_go
    rw [h.2.2.2.2.1, h4, if_neg (by rw [nI_leI (by omega) (by omega)]; omega)]
  | f + 1, N + 1, room, pre, seen, bef, b, I, hf, hN, hr, hs, hb, h => by
    have hdec : asH (dec (enc 1)) = some 1 := by decide +kernel
    have hasH : asH (dec (I 71 3)) = some 1 := by rw [h.2.2.2.1, h3]; exact hdec
    have hPr := hP room hr
    have i3 : I 3 room = nI (P room) := by rw [h.2.2.2.2.2 3 (by omega)]; exact gp room hr
    generalize hpk : bef + (if seen.testBit room = true then 0 else P room) = pk
    have hpk2 : pk ≤ 10000 * (pre.length + 1) := by rw [← hpk]; split <;> omega
    have hgo : fX9_go (N + 1) (nI room) (nI pre.length) (nI seen) (nI bef) I = jX9_go_34 (fX9_go N) (nI room) (nI pre.length) (nI seen) (nI pk) I := by
      show hX9_go (fX9_go N) (nI room) (nI pre.length) (nI seen) (nI bef) I = _
      unfold hX9_go
      rw [h.2.2.2.2.1, h4, if_pos (by rw [nI_leI (by omega) (by omega)]; omega), bnd_s (has_n I (by omega) (by omega))]
      cases hc : seen.testBit room with
      | false =>
        rw [if_pos (by decide), bnd_s hasH, chk_t (inb_n hr (by decide)), ix_n (by omega)]
        rw [hc, if_neg (by decide)] at hpk
        rw [show I (1 + 2) room = nI (P room) from i3, nI_add, hpk]
      | true =>
        rw [if_neg (by decide)]
        rw [hc, if_pos rfl, Nat.add_zero] at hpk
        rw [hpk]
    obtain ⟨I1, q1, q2⟩ := wgo_34 (D := D) (P := P) (n := n) (lim := lim) (room := room) (pk := pk) (fX9_go N) (nI seen) h (by omega) (by omega)
    rw [hgo, q1, dfs, hpk, List.foldl_cons]
    generalize hu : upB b (pk, pre ++ [room]) = b1 at q2 ⊢
    have hlen : (pre ++ [room]).length = pre.length + 1 := by rw [List.length_append, List.length_singleton]
    have hsr := or_lt32 hs hr
    generalize hF : (fun r => if (D room).testBit r = true then dfs D P n f r (pre ++ [room]) (seen ||| 2 ^ room) pk else []) = F
    have key := iter_invF (s := sX9_go_99 (fX9_go N) (nI room) (nI pre.length) (nI seen) (nI pk)) (fun i x => x.1 = nI i ∧ GI I0 x.2 (pre ++ [room]) (((List.range i).flatMap F).foldl upB b1)) (fun r => GI I0 r (pre ++ [room]) (((List.range n).flatMap F).foldl upB b1)) n (FU_lt (by omega)) (x := ((0 : Int32), I1)) ⟨rfl, q2⟩ (fun i x hi hx => ?_) (fun x hx => ?_)
    · obtain ⟨J, j1, j2⟩ := key
      refine ⟨J, ?_, j2.less⟩
      unfold jX9_go_96
      exact j1
    · obtain ⟨x1, M⟩ := x
      dsimp only at hx
      obtain ⟨rfl, hg⟩ := hx
      have hM : asH (dec (M 71 3)) = some 1 := by rw [hg.2.2.2.1, h3]; exact hdec
      have m0 : M 1 0 = nI n := by rw [hg.2.2.2.2.2 1 (by omega)]; exact g0
      have m2 : M (1 + 1) room = nI (D room) := by rw [hg.2.2.2.2.2 (1 + 1) (by omega)]; exact gd room hr
      have hDr := hD room hr
      have hst : ∀ y, (if b2i ((D room).testBit i) = 0 then some (.inl (nI i + (1 : Int32), M)) else bnd (fX9_go N (nI i) (nI pre.length + (1 : Int32)) (nI seen ||| ((1 : Int32) <<< (nI room &&& 31))) (nI pk) M) fun I_16 => some (.inl (nI i + (1 : Int32), I_16))) = y → sX9_go_99 (fX9_go N) (nI room) (nI pre.length) (nI seen) (nI pk) (nI i, M) = y := fun y hy => by
        unfold sX9_go_99 bX9_go_99
        dsimp only
        rw [bnd_s hM, if_neg (by rw [m0, nI_leI (by omega) (by omega)]; omega), bnd_s hM, chk_t (inb_n hr (by decide)), ix_n (by omega), m2, bnd_s (has_n M (by omega) (by omega))]
        exact hy
      have hfold : ((List.range (i + 1)).flatMap F).foldl upB b1 = (F i).foldl upB (((List.range i).flatMap F).foldl upB b1) := by
        rw [List.range_succ, List.flatMap_append, List.foldl_append, List.flatMap_cons, List.flatMap_nil, List.append_nil]
      cases hc : (D room).testBit i with
      | false =>
        refine ⟨(nI (i + 1), M), hst _ ?_, rfl, ?_⟩
        · rw [hc, if_pos (by decide), nI_1]
        · show GI I0 M (pre ++ [room]) (((List.range (i + 1)).flatMap F).foldl upB b1)
          rw [hfold, ← hF]
          dsimp only
          rw [hc, if_neg (by decide)]
          rw [hF]
          exact hg
      | true =>
        obtain ⟨J, j1, j2⟩ := wgo_n h3 h4 hlim g0 hn gd gp hD hP f N i (pre ++ [room]) (seen ||| 2 ^ room) pk _ M (by rw [hlen]; omega) (by omega) (by omega) hsr (by rw [hlen]; exact hpk2) hg
        refine ⟨(nI (i + 1), J), hst _ ?_, rfl, ?_⟩
        · rw [hc, if_neg (by decide), nI_1, n_one (by omega), n_or, ← hlen, bnd_s j1, nI_1]
        · show GI I0 J (pre ++ [room]) (((List.range (i + 1)).flatMap F).foldl upB b1)
          rw [hfold]
          have e : F i = dfs D P n f i (pre ++ [room]) (seen ||| 2 ^ room) pk := by rw [← hF]; dsimp only; rw [hc, if_pos rfl]
          rw [e]
          exact j2
    · obtain ⟨x1, M⟩ := x
      dsimp only at hx
      obtain ⟨rfl, hg⟩ := hx
      have hM : asH (dec (M 71 3)) = some 1 := by rw [hg.2.2.2.1, h3]; exact hdec
      have m0 : M 1 0 = nI n := by rw [hg.2.2.2.2.2 1 (by omega)]; exact g0
      refine ⟨M, ?_, hg⟩
      unfold sX9_go_99 bX9_go_99
      dsimp only
      rw [bnd_s hM, if_pos (by rw [m0, nI_leI (by omega) (by omega)]; omega)]
def oI : Option Nat → Int32
  | none => -1
  | some p => nI p
/-- what lies on a row -/
theorem lies_k {D P : Nat → Nat} {n k v : Nat} {I : Mem} (r0 : I 75 0 = nI n) (hn : n ≤ 5) (hd : ∀ q, q < 5 → I 75 (5 + q) = nI (D q)) (hp : ∀ q, q < 5 → I 75 (10 + q) = nI (P q)) (hD : ∀ q, D q < 2 ^ n) (hk : k ≤ 6) (hv : v < 2 ^ 30) : ∀ (m N here seen sum : Nat), m ≤ k → m < N → here < 5 → seen < 32 → iter (sX12_liesOn_46 (nI k) (nI v) I) N (nI (5 ^ (m - 1)), nI here, nI seen, nI sum, nI (k - m)) = some (oI (wkO D P here seen sum (fgL m v)))
  | _, 0, _, _, _, _, h, _, _ => by omega
  | 0, N + 1, here, seen, sum, _, _, _, _ => by
    refine iter_inr ?_
    unfold sX12_liesOn_46 bX12_liesOn_46
    dsimp only
    rw [if_pos (by rw [nI_leI (by omega) (by omega)]; omega)]
    rfl
  | m + 1, N + 1, here, seen, sum, hm, hN, hh, hs => by
    have h5 : 5 ^ m ≤ 5 ^ 6 := Nat.pow_le_pow_right (by decide) (by omega)
    have h50 : 0 < 5 ^ m := Nat.pow_pos (by decide)
    have hq : v / 5 ^ m ≤ v := Nat.div_le_self _ _
    have h32 := pow_le32 hn
    have hx : v / 5 ^ m % 5 < 5 := Nat.mod_lt _ (by decide)
    generalize hr : v / 5 ^ m % 5 = r at hx
    have hu : (if nI (5 ^ m) ≤ (1 : Int32) then (1 : Int32) else nI (5 ^ m) / (5 : Int32)) = nI (5 ^ (m - 1)) := by
      cases m with
      | zero => rfl
      | succ m =>
        have h51 : 5 ^ (m + 1) = 5 ^ m * 5 := Nat.pow_succ ..
        have h52 : 0 < 5 ^ m := Nat.pow_pos (by decide)
        rw [if_neg (by rw [show (1 : Int32) = nI 1 from rfl, nI_leI (by omega) (by omega)]; omega), show (5 : Int32) = nI 5 from rfl, pk_div (by omega) (by omega) (by omega), h51, Nat.mul_div_cancel _ (by decide)]
        rfl
    have h1 : sX12_liesOn_46 (nI k) (nI v) I (nI (5 ^ (m + 1 - 1)), nI here, nI seen, nI sum, nI (k - (m + 1))) = jX12_liesOn_74 (nI k) (nI v) (nI here) (nI seen) (nI sum) (nI (k - (m + 1))) (nI r) (nI (5 ^ (m - 1))) I := by
      unfold sX12_liesOn_46 bX12_liesOn_46
      dsimp only
      rw [if_neg (by rw [nI_leI (by omega) (by omega)]; omega), Nat.add_sub_cancel, chk_t (decide_eq_true (nI_ne0 h50 (by omega))), pk_div (by omega) h50 (by omega), show (5 : Int32) = nI 5 from rfl, pk_rem (by omega) (by decide) (by decide), hr]
      dsimp only [letb]
      rw [← hu]
      split <;> rfl
    have hfg : fgL (m + 1) v = r :: fgL m v := by rw [fgL, hr]
    rw [hfg, wkO]
    have hDh := hD here
    by_cases c : (D here).testBit r = true
    · have hrn : r < n := by
        rcases Nat.lt_or_ge r n with q | q
        · exact q
        · rw [Nat.testBit_lt_two_pow (Nat.lt_of_lt_of_le hDh (Nat.pow_le_pow_right (by decide) q))] at c
          cases c
      have hsr := or_lt32 hs hx
      have h2 : jX12_liesOn_74 (nI k) (nI v) (nI here) (nI seen) (nI sum) (nI (k - (m + 1))) (nI r) (nI (5 ^ (m - 1))) I = some (.inl (nI (5 ^ (m - 1)), nI r, nI (seen ||| 2 ^ r), nI (sum + if seen.testBit r = true then 0 else P r), nI (k - m))) := by
        unfold jX12_liesOn_74
        rw [bnd_s (isRoomM _ r0 (by omega)), nI_toInt (by omega), decide_eq_true (by omega), if_neg (by decide), show (5 : Int32) = nI 5 from rfl, nI_add, chk_t (inb_n (by omega) (by decide)), ix_n (by omega), hd here hh, bnd_s (hasM_n I (by omega) (by omega)), c, if_neg (by decide), bnd_s (hasM_n I (by omega) (by omega))]
        have hj : ∀ a : Nat, jX12_liesOn_130 (nI k) (nI v) (nI (5 ^ (m - 1))) (nI seen) (nI (k - (m + 1))) (nI r) (nI a) (nI sum) I = some (.inl (nI (5 ^ (m - 1)), nI r, nI (seen ||| 2 ^ r), nI (sum + a), nI (k - m))) := fun a => by
          unfold jX12_liesOn_130
          dsimp only [letb]
          rw [nI_add, n_one (by omega), n_or, nI_1, show k - (m + 1) + 1 = k - m by omega]
        cases hc2 : seen.testBit r with
        | false => rw [if_pos (by decide), show (10 : Int32) = nI 10 from rfl, nI_add, chk_t (inb_n (by omega) (by decide)), ix_n (by omega), hp r hx, hj, if_neg (by decide)]
        | true =>
          rw [if_neg (by decide), if_pos rfl]
          exact hj 0
      rw [if_pos c, iter_inl (h1.trans h2)]
      exact lies_k r0 hn hd hp hD hk hv m N r (seen ||| 2 ^ r) _ (by omega) (by omega) hx hsr
    · have h2 : jX12_liesOn_74 (nI k) (nI v) (nI here) (nI seen) (nI sum) (nI (k - (m + 1))) (nI r) (nI (5 ^ (m - 1))) I = some (.inr (-1)) := by
        unfold jX12_liesOn_74
        rw [bnd_s (isRoomM _ r0 (by omega))]
        cases decide (0 ≤ (nI r).toInt ∧ (nI r).toInt < (n : Int)) with
        | false => rw [if_pos (by decide)]
        | true =>
          have c2 : (D here).testBit r = false := by simpa using c
          rw [if_neg (by decide), show (5 : Int32) = nI 5 from rfl, nI_add, chk_t (inb_n (by omega) (by decide)), ix_n (by omega), hd here hh, bnd_s (hasM_n I (by omega) (by omega)), c2, if_pos (by decide)]
      rw [if_neg c, iter_inr (h1.trans h2)]
      rfl
theorem lies_n {D P : Nat → Nat} {n k v r : Nat} {I : Mem} (r0 : I 75 0 = nI n) (hn : n ≤ 5) (hd : ∀ q, q < 5 → I 75 (5 + q) = nI (D q)) (hp : ∀ q, q < 5 → I 75 (10 + q) = nI (P q)) (hD : ∀ q, D q < 2 ^ n) (hk : k ≤ 6) (hv : v < 2 ^ 30) (hr : r < 5) : fX12_liesOn (nI r) (nI k) (nI v) I = some (oI (wkO D P r (2 ^ r) (P r) (fgL k v))) := by
  unfold fX12_liesOn
  have h2r : 2 ^ r < 32 := show 2 ^ r < 2 ^ 5 from Nat.pow_lt_pow_right (by decide) hr
  have e0 : ((1 : Int32), (1 : Int32)) = (fun i => (nI (5 ^ i), nI (i + 1))) 0 := rfl
  rw [e0]
  refine iter_go (fun i => (nI (5 ^ i), nI (i + 1))) (k - 1) (FU_lt (by omega)) ?_ (fun i hi => ?_)
  · unfold sX12_liesOn_6 bX12_liesOn_6
    dsimp only
    rw [if_pos (by rw [nI_leI (by omega) (by omega)]; omega)]
    dsimp only [letb]
    rw [show (10 : Int32) = nI 10 from rfl, nI_add, chk_t (inb_n (by omega) (by decide)), ix_n (by omega), hp r hr, n_one (by omega)]
    have := lies_k r0 hn hd hp hD hk hv k FU r (2 ^ r) (P r) (Nat.le_refl _) (FU_lt (by omega)) hr h2r
    rw [Nat.sub_self] at this
    exact inrO_s this
  · unfold sX12_liesOn_6 bX12_liesOn_6
    dsimp only
    rw [if_neg (by rw [nI_leI (by omega) (by omega)]; omega)]
    dsimp only [letb]
    rw [show (5 : Int32) = nI 5 from rfl, pk_mul, nI_1, Nat.pow_succ]
theorem figure_n {v m : Nat} {I : Mem} (hv : v < 2 ^ 30) (hm : m ≤ 9) : fX12_figure (nI v) (nI m) I = some (nI (v / 5 ^ m % 5)) := by
  unfold fX12_figure
  have e0 : (nI v, (0 : Int32)) = (fun i => (nI (v / 5 ^ i), nI i)) 0 := by
    show _ = (nI (v / 5 ^ 0), nI 0)
    rw [Nat.pow_zero, Nat.div_one]
    rfl
  rw [e0]
  refine iter_go (fun i => (nI (v / 5 ^ i), nI i)) m (FU_lt (by omega)) ?_ (fun i hi => ?_)
  · unfold sX12_figure_4 bX12_figure_4
    dsimp only
    have hq : v / 5 ^ m ≤ v := Nat.div_le_self _ _
    rw [if_pos (by rw [nI_leI (by omega) (by omega)]; omega), show (5 : Int32) = nI 5 from rfl, pk_rem (by omega) (by decide) (by decide)]
  · unfold sX12_figure_4 bX12_figure_4
    dsimp only
    have hq : v / 5 ^ i ≤ v := Nat.div_le_self _ _
    rw [if_neg (by rw [nI_leI (by omega) (by omega)]; omega), show (5 : Int32) = nI 5 from rfl, pk_div (by omega) (by decide) (by decide)]
    dsimp only [letb]
    rw [nI_1, Nat.div_div_eq_div_mul, Nat.pow_succ]
theorem fgL_at : ∀ (k v j : Nat), j < k → (fgL k v).getD j 0 = v / 5 ^ (k - 1 - j) % 5
  | 0, _, j, h => by omega
  | k + 1, v, 0, _ => by
    rw [fgL]
    simp
  | k + 1, v, j + 1, h => by
    rw [fgL, List.getD_cons_succ, fgL_at k v j (by omega), show k + 1 - 1 - (j + 1) = k - 1 - j by omega]
/-- the model's best row so far -/
def MB (r0 l : Nat) (x4 x5 x6 : Int32) : Option RW → Prop
  | none => x4 = -1 ∧ x5 = 0 ∧ x6 = 0
  | some b => ∃ k v, k < l ∧ v < 5 ^ k ∧ b.2 = r0 :: fgL k v ∧ b.1 < 2 ^ 30 ∧ x4 = nI b.1 ∧ x5 = nI k ∧ x6 = nI v
theorem MB.mono {r0 l l2 : Nat} {x4 x5 x6 : Int32} {b : Option RW} (h : MB r0 l x4 x5 x6 b) (hl : l ≤ l2) : MB r0 l2 x4 x5 x6 b := by
  cases b with
  | none => exact h
  | some b =>
    obtain ⟨k, v, h1, h2⟩ := h
    exact ⟨k, v, by omega, h2⟩
theorem wkO_le {D P : Nat → Nat} {n : Nat} (hn : n ≤ 5) (hD : ∀ q, D q < 2 ^ n) (hP : ∀ q, q < 5 → P q ≤ 10000) : ∀ (ds : List Nat) (here seen sum p : Nat), wkO D P here seen sum ds = some p → p ≤ sum + 10000 * ds.length
  | [], here, seen, sum, p, h => by
    rw [wkO] at h
    have := Option.some.inj h
    omega
  | r :: ds, here, seen, sum, p, h => by
    rw [wkO] at h
    by_cases c : (D here).testBit r = true
    · rw [if_pos c] at h
      have ih := wkO_le hn hD hP ds r _ _ p h
      have hr5 : r < 5 := by
        rcases Nat.lt_or_ge r 5 with q | q
        · exact q
        · rw [Nat.testBit_lt_two_pow (Nat.lt_of_lt_of_le (hD here) (Nat.pow_le_pow_right (by decide) (by omega)))] at c
          cases c
      have := hP r hr5
      rw [List.length_cons]
      split at ih <;> omega
    · rw [if_neg c] at h
      cases h
/-- the rows of so many steps up to a number -/
def kthV (D P : Nat → Nat) (r0 k v : Nat) : List RW := ((List.range v).map (fgL k)).filterMap (fun ds => (wkO D P r0 (2 ^ r0) (P r0) ds).map (fun p => (p, r0 :: ds)))
theorem kthV_end (D P : Nat → Nat) (r0 k : Nat) : kthV D P r0 k (5 ^ k) = kth D P r0 k := by
  unfold kthV kth
  rw [rw_range]
theorem kthV_s (D P : Nat → Nat) (r0 k v : Nat) : kthV D P r0 k (v + 1) = kthV D P r0 k v ++ (match wkO D P r0 (2 ^ r0) (P r0) (fgL k v) with | none => [] | some p => [(p, r0 :: fgL k v)]) := by
  unfold kthV
  rw [List.range_succ, List.map_append, List.filterMap_append]
  congr 1
  cases h : wkO D P r0 (2 ^ r0) (P r0) (fgL k v) with
  | none => simp [h]
  | some p => simp [h]
theorem bfL_s (D P : Nat → Nat) (r0 l : Nat) : bfL D P r0 (l + 1) = bfL D P r0 l ++ kth D P r0 l := by
  unfold bfL
  rw [List.range_succ, List.flatMap_append, List.flatMap_cons, List.flatMap_nil, List.append_nil]
/-- the model goes through the rows -/
theorem picksM_in {D P : Nat → Nat} {n k r : Nat} {x2 x3 : Int32} {I : Mem} {b : Option RW} {x4 x5 x6 : Int32} (r0 : I 75 0 = nI n) (hn : n ≤ 5) (hd : ∀ q, q < 5 → I 75 (5 + q) = nI (D q)) (hp : ∀ q, q < 5 → I 75 (10 + q) = nI (P q)) (hD : ∀ q, D q < 2 ^ n) (hP : ∀ q, q < 5 → P q ≤ 10000) (hk : k ≤ 6) (hr : r < 5) (hb : MB r k x4 x5 x6 b) : ∃ y4 y5 y6, iter (sX12_picks_56 (nI r) x2 x3 (nI (5 ^ k)) (nI k) I) FU (x4, x5, x6, (0 : Int32)) = some (.inl (y4, y5, y6, nI (5 ^ (k + 1)), nI (k + 1))) ∧ MB r (k + 1) y4 y5 y6 ((kth D P r k).foldl upB b) := by
  have h5 : 5 ^ k ≤ 5 ^ 6 := Nat.pow_le_pow_right (by decide) hk
  have key := iter_invF (s := sX12_picks_56 (nI r) x2 x3 (nI (5 ^ k)) (nI k) I) (fun v x => MB r (k + 1) x.1 x.2.1 x.2.2.1 ((kthV D P r k v).foldl upB b) ∧ x.2.2.2 = nI v) (fun z => ∃ y4 y5 y6, z = .inl (y4, y5, y6, nI (5 ^ (k + 1)), nI (k + 1)) ∧ MB r (k + 1) y4 y5 y6 ((kth D P r k).foldl upB b)) (5 ^ k) (FU_lt (by omega)) (x := (x4, x5, x6, (0 : Int32))) ⟨hb.mono (by omega), rfl⟩ (fun v x hv hx => ?_) (fun x hx => ?_)
  · obtain ⟨z, k1, y4, y5, y6, rfl, k2⟩ := key
    exact ⟨y4, y5, y6, k1, k2⟩
  · obtain ⟨z4, z5, z6, z9⟩ := x
    dsimp only at hx
    obtain ⟨hm, rfl⟩ := hx
    have hl := lies_n (k := k) (v := v) (r := r) r0 hn hd hp hD hk (by omega) hr
    have hle : ∀ p, wkO D P r (2 ^ r) (P r) (fgL k v) = some p → p < 2 ^ 30 := fun p hp2 => by
      have a := wkO_le hn hD hP _ _ _ _ _ hp2
      have b2 := hP r hr
      rw [fgL_len] at a
      omega
    have hst : sX12_picks_56 (nI r) x2 x3 (nI (5 ^ k)) (nI k) I (z4, z5, z6, nI v) = if oI (wkO D P r (2 ^ r) (P r) (fgL k v)) ≤ z4 then some (.inl (z4, z5, z6, nI (v + 1))) else some (.inl (oI (wkO D P r (2 ^ r) (P r) (fgL k v)), nI k, nI v, nI (v + 1))) := by
      unfold sX12_picks_56 bX12_picks_56
      dsimp only
      rw [if_neg (by rw [nI_leI (by omega) (by omega)]; omega), bnd_s hl]
      unfold jX12_picks_88 jX12_picks_104
      rw [nI_1]
      by_cases c : oI (wkO D P r (2 ^ r) (P r) (fgL k v)) ≤ z4
      · simp only [if_pos c]
      · simp only [if_neg c]
    rw [hst, kthV_s, List.foldl_append]
    generalize hB : (kthV D P r k v).foldl upB b = B at hm ⊢
    cases hw : wkO D P r (2 ^ r) (P r) (fgL k v) with
    | none =>
      refine ⟨(z4, z5, z6, nI (v + 1)), ?_, hm, rfl⟩
      rw [if_pos]
      show (-1 : Int32) ≤ z4
      cases B with
      | none => rw [hm.1]; decide
      | some B =>
        obtain ⟨k2, v2, -, -, -, h6, h7, -⟩ := hm
        rw [h7, x_le, nI_toInt (by omega), show (-1 : Int32).toInt = -1 from rfl]
        omega
    | some p =>
      have hp30 := hle p hw
      have hnew : MB r (k + 1) (nI p) (nI k) (nI v) (some (p, r :: fgL k v)) := ⟨k, v, by omega, hv, rfl, hp30, rfl, rfl, rfl⟩
      show ∃ y, (if nI p ≤ z4 then some (Sum.inl (z4, z5, z6, nI (v + 1))) else some (Sum.inl (nI p, nI k, nI v, nI (v + 1))) : Option ((Int32 × Int32 × Int32 × Int32) ⊕ ((Int32 × Int32 × Int32 × Int32 × Int32) ⊕ (Int32 × Mem)))) = some (Sum.inl y) ∧ MB r (k + 1) y.1 y.2.1 y.2.2.1 (upB B (p, r :: fgL k v)) ∧ y.2.2.2 = nI (v + 1)
      cases B with
      | none =>
        refine ⟨(nI p, nI k, nI v, nI (v + 1)), ?_, hnew, rfl⟩
        rw [if_neg (by rw [hm.1, x_le, nI_toInt (by omega), show (-1 : Int32).toInt = -1 from rfl]; omega)]
      | some B =>
        obtain ⟨k2, v2, h2, h3, h4, h6, h7, h8⟩ := id hm
        have hlen : B.2.length = k2 + 1 := by rw [h4, List.length_cons, fgL_len]
        have hlen2 : (r :: fgL k v).length = k + 1 := by rw [List.length_cons, fgL_len]
        unfold upB
        dsimp only
        rw [hlen, hlen2]
        by_cases c : B.1 < p
        · refine ⟨(nI p, nI k, nI v, nI (v + 1)), ?_, by rw [if_pos (Or.inl c)]; exact hnew, rfl⟩
          rw [if_neg (by rw [h7]; exact nI_ge c (by omega))]
        · refine ⟨(z4, z5, z6, nI (v + 1)), ?_, by rw [if_neg (by omega)]; exact hm, rfl⟩
          rw [if_pos (by rw [h7]; exact nI_le (by omega) (by omega))]
  · obtain ⟨z4, z5, z6, z9⟩ := x
    dsimp only at hx
    obtain ⟨hm, rfl⟩ := hx
    refine ⟨.inl (z4, z5, z6, nI (5 ^ (k + 1)), nI (k + 1)), ?_, z4, z5, z6, rfl, ?_⟩
    · unfold sX12_picks_56 bX12_picks_56
      dsimp only
      rw [if_pos (by rw [nI_leI (by omega) (by omega)]; omega)]
      dsimp only [letb]
      rw [show (5 : Int32) = nI 5 from rfl, pk_mul, nI_1, Nat.pow_succ]
    · rw [kthV_end] at hm
      exact hm
