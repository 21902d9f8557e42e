/-! ===== the model's standings ===== -/
theorem standings_n {n np : Nat} {I : Mem} (r0 : I 75 0 = nI n) (r3 : I 75 3 = nI np) (hnp : np ≤ 4) : fX12_standings I = some (nI (n ^ np)) := by
  unfold fX12_standings
  refine iter_go (fun i => (nI (n ^ i), nI i)) np (FU_lt (by omega)) ?_ (fun i hi => ?_)
  · unfold sX12_standings_4 bX12_standings_4
    dsimp only
    rw [chk_t (by decide), show ix (3 : Int32) = 3 from rfl, r3, if_pos (by rw [nI_leI (by omega) (by omega)]; omega)]
  · unfold sX12_standings_4 bX12_standings_4
    dsimp only
    rw [chk_t (by decide), show ix (3 : Int32) = 3 from rfl, r3, if_neg (by rw [nI_leI (by omega) (by omega)]; omega), chk_t (by decide), show ix (0 : Int32) = 0 from rfl, r0, pk_mul, nI_1, ← Nat.pow_succ]
    rfl
/-- one figure is the room that was joined -/
def hitB (n b : Nat) : Nat → Nat → Bool
  | 0, _ => false
  | k + 1, a => a % n == b || hitB n b k (a / n)
/-- the room that was joined: 9 if none was -/
def JN (I : Mem) (b : Nat) : Prop := (I 74 15 = -1 ∧ b = 9) ∨ (I 74 15 = nI b ∧ b < 5)
theorem pow_le625 {n np : Nat} (hn : n ≤ 5) (hnp : np ≤ 4) : n ^ np ≤ 625 := by
  have h1 : n ^ np ≤ 5 ^ np := Nat.pow_le_pow_left hn np
  have h2 : 5 ^ np ≤ 5 ^ 4 := Nat.pow_le_pow_right (by decide) hnp
  omega
theorem standingOf_k {n b : Nat} {I : Mem} (h0 : I 75 0 = nI n) (hn1 : 1 ≤ n) (hn : n ≤ 5) (hj : JN I b) : ∀ (k a c m : Nat), k ≤ 4 → a < 1000 → c < 8 ^ (4 - k) → k < m → iter (sX12_standingOf_14 I) m (nI a, nI (c * 8 ^ k), nI k - 1) = some (if hitB n b k a = true then -1 else nI (stN n k a + c * 8 ^ k))
  | 0, a, c, 0, _, _, _, hm => by omega
  | 0, a, c, m + 1, _, _, _, _ => by
    refine iter_inr ?_
    unfold sX12_standingOf_14 bX12_standingOf_14
    dsimp only
    rw [if_pos (by decide), hitB, if_neg (by decide), stN, Nat.zero_add]
  | k + 1, a, c, 0, _, _, _, hm => by omega
  | k + 1, a, c, m + 1, hk, ha, hc, hm => by
    have hr : a % n < n := Nat.mod_lt _ hn1
    have hq : a / n ≤ a := Nat.div_le_self _ _
    have hjj : nI (a % n) = I 74 15 ↔ (a % n == b) = true := by
      rw [beq_iff_eq]
      rcases hj with ⟨e1, e2⟩ | ⟨e1, e2⟩
      · rw [e1, e2]
        exact ⟨fun q => absurd q (n_ne1 (by omega)), fun q => by omega⟩
      · rw [e1, nI_eq (by omega) (by omega)]
    have h8 : 8 ^ (4 - k) = 8 * 8 ^ (4 - (k + 1)) := by rw [← Nat.pow_succ', show (4 - (k + 1)).succ = 4 - k by omega]
    have hst : sX12_standingOf_14 I (nI a, nI (c * 8 ^ (k + 1)), nI (k + 1) - 1) = if nI (a % n) = I 74 15 then some (.inr (-1)) else some (.inl (nI (a / n), nI ((a % n + 8 * c) * 8 ^ k), nI k - 1)) := by
      unfold sX12_standingOf_14 bX12_standingOf_14
      dsimp only
      have hb : a % n * 2 ^ (3 * k) < 2 ^ 32 := by
        have h1 : 2 ^ (3 * k) ≤ 2 ^ 9 := Nat.pow_le_pow_right (by decide) (by omega)
        have h2 : a % n * 2 ^ (3 * k) ≤ 7 * 2 ^ 9 := Nat.mul_le_mul (by omega) h1
        omega
      have hor : c * 8 ^ (k + 1) ||| a % n * 2 ^ (3 * k) = (a % n + 8 * c) * 8 ^ k := by
        have e8 : (8 : Nat) ^ (k + 1) = 2 ^ (3 * k + 3) := by rw [show 3 * k + 3 = 3 * (k + 1) by omega, Nat.pow_mul]
        have e81 : (8 : Nat) ^ k = 2 ^ (3 * k) := by rw [Nat.pow_mul]
        have hlt : a % n * 2 ^ (3 * k) < 2 ^ (3 * k + 3) := by
          rw [Nat.pow_add, Nat.mul_comm]
          exact Nat.mul_lt_mul_of_pos_left (by omega) (Nat.pow_pos (by decide))
        rw [e8, Nat.mul_comm c, ← Nat.two_pow_add_eq_or_of_lt hlt, Nat.add_mul, e81, Nat.pow_add, Nat.mul_assoc 8 c]
        rw [show 2 ^ (3 * k) * 2 ^ 3 * c = 8 * (c * 2 ^ (3 * k)) by rw [show (2 : Nat) ^ 3 = 8 from rfl, Nat.mul_assoc, Nat.mul_comm (2 ^ (3 * k)), Nat.mul_assoc]]
        omega
      rw [show nI (k + 1) - 1 = nI k from nI_pred k, if_neg (nI_pos (by omega)), chk_t (by decide), show ix (0 : Int32) = 0 from rfl, h0, chk_t (decide_eq_true (nI_ne0 (by omega) (by omega)))]
      dsimp only [letb]
      rw [chk_t (by decide), chk_t (decide_eq_true (nI_ne0 (by omega) (by omega))), pk_rem (by omega) (by omega) (by omega), pk_div (by omega) (by omega) (by omega), show (3 : Int32) = nI 3 from rfl, pk_mul, n_shl (by omega) hb, n_or, hor, nI_sub1]
    by_cases ch : nI (a % n) = I 74 15
    · rw [if_pos ch] at hst
      rw [iter_inr hst, hitB, hjj.mp ch, Bool.true_or, if_pos rfl]
    · rw [if_neg ch] at hst
      rw [iter_inl hst, standingOf_k h0 hn1 hn hj k (a / n) (a % n + 8 * c) m (by omega) (by omega) (by omega) (by omega), hitB]
      have hf : (a % n == b) = false := by
        cases hx : (a % n == b) with
        | false => rfl
        | true => exact absurd (hjj.mpr hx) ch
      rw [hf, Bool.false_or, stN]
      have e3 : stN n k (a / n) + (a % n + 8 * c) * 8 ^ k = stN n k (a / n) + a % n * 8 ^ k + c * 8 ^ (k + 1) := by
        rw [Nat.pow_succ, Nat.add_mul, Nat.mul_assoc 8 c, Nat.mul_comm (8 ^ k) 8, Nat.mul_left_comm c 8]
        omega
      rw [e3]
theorem standingOf_n {n np b a : Nat} {I : Mem} (r0 : I 75 0 = nI n) (hn1 : 1 ≤ n) (hn : n ≤ 5) (r3 : I 75 3 = nI np) (hnp : np ≤ 4) (hj : JN I b) (ha : a < n ^ np) : fX12_standingOf (nI a) I = some (if hitB n b np a = true then -1 else nI (stN n np a)) := by
  unfold fX12_standingOf
  rw [chk_t (by decide), show ix (3 : Int32) = 3 from rfl, r3]
  dsimp only [letb]
  have := pow_le625 hn hnp
  have key := standingOf_k (n := n) (b := b) (I := I) r0 hn1 hn hj np a 0 FU hnp (by omega) (Nat.pow_pos (by decide)) (FU_lt (by omega))
  rw [Nat.zero_mul, Nat.add_zero] at key
  exact key
theorem hit_9 {n : Nat} (hn1 : 1 ≤ n) (hn : n ≤ 5) : ∀ k a, hitB n 9 k a = false
  | 0, _ => rfl
  | k + 1, a => by
    have hr : a % n < n := Nat.mod_lt _ hn1
    rw [hitB, hit_9 hn1 hn k, Bool.or_false, beq_eq_false_iff_ne]
    omega
theorem standingOf_9 {n np a : Nat} {I : Mem} (r0 : I 75 0 = nI n) (hn1 : 1 ≤ n) (hn : n ≤ 5) (r3 : I 75 3 = nI np) (hnp : np ≤ 4) (hj : I 74 15 = -1) (ha : a < n ^ np) : fX12_standingOf (nI a) I = some (nI (stN n np a)) := by
  rw [standingOf_n r0 hn1 hn r3 hnp (Or.inl ⟨hj, rfl⟩) ha, hit_9 hn1 hn, if_neg (by decide)]
theorem stN_lt {n : Nat} (hn1 : 1 ≤ n) (hn : n ≤ 5) : ∀ k a, stN n k a < 8 ^ k
  | 0, _ => Nat.one_pos
  | k + 1, a => add_lt8 (stN_lt hn1 hn k _) (by have := Nat.mod_lt a hn1; omega)
theorem stN_dg {n : Nat} (hn1 : 1 ≤ n) (hn : n ≤ 5) : ∀ k a p, p < k → dg (stN n k a) p < n
  | 0, _, p, hp => by omega
  | k + 1, a, p, hp => by
    have hr : a % n < n := Nat.mod_lt _ hn1
    rw [stN, dg_add (stN_lt hn1 hn k _) (by omega)]
    by_cases c : p < k
    · rw [if_pos c]; exact stN_dg hn1 hn k _ p c
    · rw [if_neg c, if_pos (by omega)]; exact hr
theorem bl_all : ∀ n, n < 6 → bl (2 ^ n - 1) = List.range n := by decide +kernel
theorem bl_n {m n : Nat} (hm : m < 2 ^ n) (hn : n ≤ 5) : bl m = (List.range n).filter (fun r => m.testBit r) := by
  unfold bl
  rw [show (5 : Nat) = n + (5 - n) by omega, List.range_add, List.filter_append]
  have : ((List.range (5 - n)).map (n + ·)).filter (fun r => m.testBit r) = [] := by
    rw [List.filter_eq_nil_iff]
    intro x hx
    obtain ⟨y, -, rfl⟩ := List.mem_map.mp hx
    rw [Nat.testBit_lt_two_pow (Nat.lt_of_lt_of_le hm (Nat.pow_le_pow_right (by decide) (by omega)))]
    decide
  rw [this, List.append_nil]
theorem rg_lt8 {n : Nat} (hn : n ≤ 5) : ∀ k r : Nat, r ∈ (fun _ : Nat => List.range n) k → r < 8 := fun k r h => by
  have := List.mem_range.mp h
  omega
/-- all standings -/
def enA (n np : Nat) : List Nat := ens (fun _ => List.range n) np
theorem enA_wv {n np s : Nat} (hn : n ≤ 5) (h : s ∈ enA n np) : s < 8 ^ np ∧ ∀ p, p < np → dg s p < n := ⟨ens_lt (rg_lt8 hn) np s h, fun p hp => List.mem_range.mp (ens_dg (rg_lt8 hn) np s h p hp)⟩
theorem enA_mem {n np s : Nat} (hn : n ≤ 5) (h1 : s < 8 ^ np) (h2 : ∀ p, p < np → dg s p < n) : s ∈ enA n np := ens_mem (rg_lt8 hn) np s h1 (fun p hp => List.mem_range.mpr (h2 p hp))
theorem enA_len (n : Nat) : ∀ np, (enA n np).length = n ^ np
  | 0 => rfl
  | k + 1 => by
    show (ens _ (k + 1)).length = _
    rw [ens_len, Nat.pow_succ]
    show (enA n k).length * _ = _
    rw [enA_len n k, List.length_range]
theorem enW_all {n np : Nat} (hn : n ≤ 5) : enW (fun _ => 2 ^ n - 1) np = enA n np := by
  unfold enW enA
  dsimp only
  rw [bl_all n (by omega)]
theorem enW_fil {n : Nat} {m : Nat → Nat} (hn : n ≤ 5) : ∀ {np : Nat}, (∀ p, p < np → m p < 2 ^ n) → enW m np = (enA n np).filter (fun s => allB (fun p => (m p).testBit (dg s p)) np) := by
  intro np hm
  have e : enW m np = enW (fun p => if p < np then m p else 0) np := enW_cong (fun p hp => (if_pos hp).symm)
  have e2 : enW (fun p => if p < np then m p else 0) np = ens (fun p => (List.range n).filter (fun r => (if p < np then m p else 0).testBit r)) np := by
    unfold enW
    congr 1
    funext p
    refine bl_n ?_ hn
    dsimp only
    by_cases c : p < np
    · rw [if_pos c]; exact hm p c
    · rw [if_neg c]; exact Nat.pow_pos (by decide)
  rw [e, e2, ens_filter (rg_lt8 hn) (fun p r => (if p < np then m p else 0).testBit r) np]
  refine List.filter_congr (fun s _ => ?_)
  refine allB_cong (fun p hp => ?_)
  rw [if_pos hp]
/-! ===== quiet ===== -/
theorem pyb_0 {f : Nat → Bool} {n : Nat} : pyb f n = 0 ↔ allB (fun p => !f p) n = true := by
  constructor
  · intro h
    rw [allB_iff]
    intro i hi
    have := pyb_bit f i n
    rw [h, Nat.zero_testBit, decide_eq_true hi, Bool.true_and] at this
    rw [← this]
    rfl
  · intro h
    rw [allB_iff] at h
    apply Nat.eq_of_testBit_eq
    intro j
    rw [pyb_bit, Nat.zero_testBit]
    by_cases c : j < n
    · have := h j c
      cases hf : f j with
      | false => rw [Bool.and_false]
      | true => rw [hf] at this; exact absurd this (by decide)
    · rw [decide_eq_false c, Bool.false_and]
theorem loop_quiet {np ct s : Nat} {x1 x2 : Int32} {I : Mem} (h3 : I 75 3 = nI np) (hnp : np ≤ 4) (h4 : I 75 4 = nI ct) (hct : ct < 32) (hs : s < 2 ^ 31) : iter (sX12_quiet_24 x1 x2 (nI s) I) FU ((1 : Int32), (0 : Int32)) = some (.inl (x1 + b2i (allB (fun p => !lonB np ct s p) np), x2 + 1)) := by
  refine iter_go (fun i => (b2i (allB (fun p => !lonB np ct s p) i), nI i)) np (FU_lt (by omega)) ?_ (fun i hi => ?_)
  · unfold sX12_quiet_24 bX12_quiet_24
    dsimp only
    rw [chk_t (by decide), show ix (3 : Int32) = 3 from rfl, h3, if_pos (by rw [nI_leI (by omega) (by omega)]; omega)]
    cases allB (fun p => !lonB np ct s p) np <;> rfl
  · unfold sX12_quiet_24 bX12_quiet_24
    dsimp only
    rw [chk_t (by decide), show ix (3 : Int32) = 3 from rfl, h3, if_neg (by rw [nI_leI (by omega) (by omega)]; omega), allB, nI_1]
    cases allB (fun p => !lonB np ct s p) i
    · rfl
    · rw [if_neg (by decide), bnd_s (isAlone_n h3 hnp h4 hct hs (by omega))]
      cases lonB np ct s i <;> rfl
theorem ok_quiet {T : Nat} {I : Mem} (h : Sim T I) : ∃ v J, fX11_quiet I = some (v, J) ∧ fX12_quiet J = some v ∧ Sim (T + 1) J := by
  obtain ⟨A, w, pw, hc, hv, hb, ⟨g0, g1, g2, g3, g4, g5, g6, g7⟩, gd, gp, hr⟩ := h.get
  have hn : (1 ≤ A 0 ∧ A 0 ≤ 5) ∧ A 3 ≤ 4 ∧ A 4 < 2 ^ A 0 := by unfold BA at hb; omega
  have h32 := pow_le32 hn.1.2
  have h8 := pow8_le hn.2.1
  have hlen : (enA (A 0) (A 3)).length = A 0 ^ A 3 := enA_len _ _
  have h625 := pow_le625 hn.1.2 hn.2.1
  obtain ⟨J, j1, j2, j3⟩ := all_n (w0 := 43) (b := 1) (n := A 0) (np := A 3) (I := I) (by decide +kernel) (by decide) g0 hn.1.2 g2 hn.2.1
  rw [enW_all hn.1.2] at j1 j2
  generalize hL : enA (A 0) (A 3) = L at j1 j2 hlen
  have hm : ∀ p : Nat, p < 4 → (fun _ : Nat => 2 ^ A 0 - 1) p < 32 := fun p _ => by show 2 ^ A 0 - 1 < 32; have := Nat.pow_pos (n := A 0) (show 0 < 2 by decide); omega
  have hmem : ∀ i, i < L.length → L.getD i 0 < 4096 := fun i hi => by
    have := getD_mem hi
    rw [← hL] at this
    have := (enA_wv hn.1.2 this).1
    rw [hL] at this
    omega
  generalize hQ : (fun s => allB (fun p => !lonB (A 3) (A 4) s p) (A 3)) = Q
  have key := iter_invF (s := sX11_quiet_16 (nI L.length)) (fun i x => x.1 = nI (cnt (fun i => Q (L.getD i 0)) i) ∧ x.2.1 = nI i ∧ (i < L.length → WS x.2.2 43 (A 3) (fun _ => 2 ^ A 0 - 1) (L.getD i 0)) ∧ ∀ c, c ≠ 43 → c ≠ 44 → x.2.2 c = I c) (fun r => r.1 = nI (cnt (fun i => Q (L.getD i 0)) L.length) ∧ ∀ c, c ≠ 43 → c ≠ 44 → r.2 c = I c) L.length (FU_lt (by omega)) (x := ((0 : Int32), (0 : Int32), J)) ⟨rfl, rfl, j2, j3⟩ (fun i x hi hx => ?_) (fun x hx => ?_)
  · obtain ⟨⟨r1, rJ⟩, k1, k2, k3⟩ := key
    dsimp only at k2 k3
    refine ⟨nI (L.countP Q), rJ, ?_, ?_, h.trial (fun c q1 q2 => k3 c (by omega) (by omega))⟩
    · unfold fX11_quiet
      rw [bnd2_s j1, k1, k2, cnt_list]
    · have r75 : rJ 75 = I 75 := k3 75 (by decide) (by decide)
      have r74 : rJ 74 = I 74 := k3 74 (by decide) (by decide)
      have r0 : rJ 75 0 = nI (A 0) := by rw [r75]; exact hr 0 (Or.inl (by decide))
      have r3 : rJ 75 3 = nI (A 3) := by rw [r75]; exact hr 3 (Or.inl (by decide))
      have r4 : rJ 75 4 = nI (A 4) := by rw [r75]; exact hr 4 (Or.inl (by decide))
      have hjo : rJ 74 15 = -1 := by rw [r74]; exact h.2.2.2.2.2
      unfold fX12_quiet
      rw [← hL]
      unfold enA
      rw [← cnt_range (A 0) (A 3) (by omega) Q]
      refine iter_go (fun i => (nI (cnt (fun a => Q (stN (A 0) (A 3) a)) i), nI i)) (A 0 ^ A 3) (FU_lt (by omega)) ?_ (fun i hi => ?_)
      · unfold sX12_quiet_4 bX12_quiet_4
        dsimp only
        rw [bnd_s (standings_n r0 r3 hn.2.1), if_pos (by rw [nI_leI (by omega) (by omega)]; omega)]
      · unfold sX12_quiet_4 bX12_quiet_4
        dsimp only
        have hsl := stN_lt hn.1.1 hn.1.2 (A 3) i
        rw [bnd_s (standings_n r0 r3 hn.2.1), if_neg (by rw [nI_leI (by omega) (by omega)]; omega), bnd_s (standingOf_9 r0 hn.1.1 hn.1.2 r3 hn.2.1 hjo hi), loop_quiet r3 hn.2.1 r4 (by omega) (by omega), cnt, nI_1, show allB (fun p => !lonB (A 3) (A 4) (stN (A 0) (A 3) i) p) (A 3) = Q (stN (A 0) (A 3) i) by rw [← hQ]]
        cases Q (stN (A 0) (A 3) i)
        · rw [if_neg (by decide), Nat.add_zero, b2i_f, show nI (cnt (fun a => Q (stN (A 0) (A 3) a)) i) + (0 : Int32) = nI (cnt (fun a => Q (stN (A 0) (A 3) a)) i) from nI_add _ 0]
          rfl
        · rw [if_pos rfl, b2i_t, nI_1]
  · obtain ⟨x2, x3, M⟩ := x
    dsimp only at hx
    obtain ⟨rfl, rfl, hw, hf⟩ := hx
    have hws := hw hi
    have hsl := hmem i hi
    obtain ⟨M2, m1, m2, m3⟩ := WS.step (m := fun _ => 2 ^ A 0 - 1) (i := i) (by rw [enW_all hn.1.2, hL]; exact hws) hm hn.2.1 (by rw [enW_all hn.1.2, hL]; exact hi)
    rw [enW_all hn.1.2, hL] at m2
    refine ⟨(nI (cnt (fun i => Q (L.getD i 0)) (i + 1)), nI (i + 1), M2), ?_, rfl, rfl, m2, fun c q1 q2 => by show M2 c = I c; rw [m3 c q1]; exact hf c q1 q2⟩
    unfold sX11_quiet_16 bX11_quiet_16
    dsimp only
    have hj : ∀ x : Int32, jX11_quiet_41 (nI L.length) x (nI i) M = some (.inl (x, nI (i + 1), M2)) := fun x => by
      unfold jX11_quiet_41
      rw [bnd_s m1, nI_1]
    have hq : Q (L.getD i 0) = decide (loneN (A 3) (A 4) (L.getD i 0) = 0) := by
      rw [← hQ]
      dsimp only
      unfold loneN
      cases hx : allB (fun p => !lonB (A 3) (A 4) (L.getD i 0) p) (A 3) with
      | false => rw [decide_eq_false (fun q => by rw [pyb_0.mp q] at hx; exact absurd hx (by decide))]
      | true => rw [decide_eq_true (pyb_0.mpr hx)]
    have hpl : loneN (A 3) (A 4) (L.getD i 0) < 2 ^ 4 := Nat.lt_of_lt_of_le (pyb_lt _ _) (Nat.pow_le_pow_right (by decide) hn.2.1)
    rw [if_neg (by rw [nI_leI (by omega) (by omega)]; omega), hws.1, bnd_s (lone_n (b := 1) (by rw [hf 1 (by decide) (by decide)]; exact g2) hn.2.1 (by rw [hf 1 (by decide) (by decide)]; exact g1) (by omega) (by omega)), hj, hj, cnt, hq]
    by_cases c : loneN (A 3) (A 4) (L.getD i 0) = 0
    · rw [c, if_pos (show nI 0 = 0 from rfl), decide_eq_true (show (0 : Nat) = 0 from rfl), if_pos rfl, nI_1]
    · rw [if_neg (nI_ne0 (by omega) (by omega)), decide_eq_false c, if_neg (by decide)]
      rfl
  · obtain ⟨x2, x3, M⟩ := x
    dsimp only at hx
    obtain ⟨rfl, rfl, hw, hf⟩ := hx
    refine ⟨(nI (cnt (fun i => Q (L.getD i 0)) L.length), M), ?_, rfl, hf⟩
    unfold sX11_quiet_16 bX11_quiet_16
    dsimp only
    rw [if_pos (by rw [nI_leI (by omega) (by omega)]; omega)]
