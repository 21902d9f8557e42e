/-! ===== two rooms become one (model) ===== -/
theorem layE {x y : Nat} {v : Bool} {D : Nat → Nat} {I : Mem} (hx : x < 5) (hy : y < 5) (hd : ∀ q, q < 5 → I 75 (5 + q) = nI (D q)) (hD : ∀ q, q < 5 → D q < 32) : ∃ (J : Mem) (E : Nat → Nat), fX12_layDoor (nI x) (nI y) (b2i v) I = some J ∧ (∀ q, q < 5 → J 75 (5 + q) = nI (E q)) ∧ (∀ q, q < 5 → E q < 32) ∧ (∀ q r, q < 5 → (E q).testBit r = if (q = x ∧ r = y) ∨ (q = y ∧ r = x) then v else (D q).testBit r) ∧ (∀ c, c ≠ 75 → J c = I c) ∧ ∀ k, (k < 5 ∨ 10 ≤ k) → J 75 k = I 75 k := by
  have hs : setb (D x) y v < 32 := setb_lt (n := 5) (hD x hx) hy
  have hs2 : updN D x (setb (D x) y v) y < 32 := by
    by_cases c : y = x
    · rw [c, updN_s]; rw [← c]; rw [← c] at hs; exact hs
    · rw [updN_n c]; exact hD y hy
  refine ⟨_, fun q => if q = y then setb (updN D x (setb (D x) y v) y) x v else if q = x then setb (D x) y v else D q, layDoor_n hx hy hd hD, fun q hq => ?_, fun q hq => ?_, fun q r hq => ?_, fun c hc => by rw [up2_cc hc, up2_cc hc], fun k hk => by rw [up2_i (by omega), up2_i (by omega)]⟩
  · dsimp only
    by_cases c : q = y
    · rw [if_pos c, c, up2_self]
    · rw [if_neg c, up2_i (by omega)]
      by_cases c2 : q = x
      · rw [if_pos c2, c2, up2_self]
      · rw [if_neg c2, up2_i (by omega)]; exact hd q hq
  · dsimp only
    by_cases c : q = y
    · rw [if_pos c]; exact setb_lt (n := 5) hs2 hx
    · rw [if_neg c]
      by_cases c2 : q = x
      · rw [if_pos c2]; exact hs
      · rw [if_neg c2]; exact hD q hq
  · dsimp only
    by_cases c : q = y
    · rw [if_pos c, setb_bit]
      by_cases c2 : r = x
      · rw [if_pos c2, if_pos (Or.inr ⟨c, c2⟩)]
      · rw [if_neg c2]
        by_cases c3 : y = x
        · rw [c3, updN_s, setb_bit, if_neg c2, if_neg (by omega), c, c3]
        · rw [updN_n c3, if_neg (by omega), c]
    · rw [if_neg c]
      by_cases c2 : q = x
      · rw [if_pos c2, setb_bit]
        by_cases c3 : r = y
        · rw [if_pos c3, if_pos (Or.inl ⟨c2, c3⟩)]
        · rw [if_neg c3, if_neg (by omega), c2]
      · rw [if_neg c2, if_neg (by omega)]
/-- the doors while two rooms are joined, i rooms through -/
def bxM (D : Nat → Nat) (a b i q r : Nat) : Bool := if q = b then (D b).testBit r && decide (i ≤ r) else if r = b then (D q).testBit b && decide (i ≤ q) else if q = a then (D a).testBit r || (decide (r < i) && (D b).testBit r) else if r = a then (D q).testBit a || (decide (q < i) && (D b).testBit q) else (D q).testBit r
theorem bxM_0 {D : Nat → Nat} {a b q r : Nat} : bxM D a b 0 q r = (D q).testBit r := by
  unfold bxM
  by_cases e1 : q = b
  · rw [if_pos e1, e1, decide_eq_true (Nat.zero_le _), Bool.and_true]
  · rw [if_neg e1]
    by_cases e2 : r = b
    · rw [if_pos e2, e2, decide_eq_true (Nat.zero_le _), Bool.and_true]
    · rw [if_neg e2, decide_eq_false (Nat.not_lt_zero r), decide_eq_false (Nat.not_lt_zero q), Bool.false_and, Bool.or_false, Bool.false_and, Bool.or_false]
      by_cases e3 : q = a
      · rw [if_pos e3, e3]
      · rw [if_neg e3]
        by_cases e4 : r = a
        · rw [if_pos e4, e4]
        · rw [if_neg e4]
theorem dec_s {i r : Nat} (h : r ≠ i) : decide (i + 1 ≤ r) = decide (i ≤ r) := by rw [decide_eq_decide]; omega
theorem dec_l {i r : Nat} (h : r ≠ i) : decide (r < i + 1) = decide (r < i) := by rw [decide_eq_decide]; omega
theorem bxM_skip {n : Nat} {D : Nat → Nat} {a b i q r : Nat} (hd : DG n D) (hq : q < 5) (hb : b < 5) (hi : i < 5) (h : (D b).testBit i = false) : bxM D a b (i + 1) q r = bxM D a b i q r := by
  have hsym : (D i).testBit b = false := by rw [hd.2.2.1 i b hi hb]; exact h
  unfold bxM
  by_cases e1 : q = b
  · rw [if_pos e1, if_pos e1]
    by_cases e : r = i
    · rw [e, h, Bool.false_and, Bool.false_and]
    · rw [dec_s e]
  · rw [if_neg e1, if_neg e1]
    by_cases e2 : r = b
    · rw [if_pos e2, if_pos e2]
      by_cases e : q = i
      · rw [e, hsym, Bool.false_and, Bool.false_and]
      · rw [dec_s e]
    · rw [if_neg e2, if_neg e2]
      by_cases e3 : q = a
      · rw [if_pos e3, if_pos e3]
        by_cases e : r = i
        · rw [e, h, Bool.and_false, Bool.and_false]
        · rw [dec_l e]
      · rw [if_neg e3, if_neg e3]
        by_cases e4 : r = a
        · rw [if_pos e4, if_pos e4]
          by_cases e : q = i
          · rw [e, h, Bool.and_false, Bool.and_false]
          · rw [dec_l e]
        · rw [if_neg e4, if_neg e4]
theorem bxM_step {n : Nat} {D : Nat → Nat} {a b i q r : Nat} (hd : DG n D) (hab : a ≠ b) (hb : b < 5) (h : (D b).testBit i = true) : bxM D a b (i + 1) q r = if (q = a ∧ r = i) ∨ (q = i ∧ r = a) then true else if (q = b ∧ r = i) ∨ (q = i ∧ r = b) then false else bxM D a b i q r := by
  have hib : i ≠ b := fun e => by rw [e, hd.2.2.2 b hb] at h; cases h
  unfold bxM
  by_cases e1 : q = b
  · rw [if_pos e1, if_pos e1, if_neg (show ¬ ((q = a ∧ r = i) ∨ (q = i ∧ r = a)) by omega)]
    by_cases e : r = i
    · rw [if_pos (Or.inl ⟨e1, e⟩), e, decide_eq_false (by omega), Bool.and_false]
    · rw [if_neg (by omega), dec_s e]
  · rw [if_neg e1, if_neg e1]
    by_cases e2 : r = b
    · rw [if_pos e2, if_pos e2, if_neg (show ¬ ((q = a ∧ r = i) ∨ (q = i ∧ r = a)) by omega)]
      by_cases e : q = i
      · rw [if_pos (Or.inr ⟨e, e2⟩), e, decide_eq_false (by omega), Bool.and_false]
      · rw [if_neg (by omega), dec_s e]
    · rw [if_neg e2, if_neg e2]
      rw [if_neg (show ¬ ((q = b ∧ r = i) ∨ (q = i ∧ r = b)) by omega)]
      by_cases e3 : q = a
      · rw [if_pos e3, if_pos e3]
        by_cases e : r = i
        · rw [if_pos (Or.inl ⟨e3, e⟩), e, h, decide_eq_true (Nat.lt_succ_self i), Bool.true_and, Bool.or_true]
        · by_cases e5 : q = i ∧ r = a
          · omega
          · rw [if_neg (by omega), dec_l e]
      · rw [if_neg e3, if_neg e3]
        by_cases e4 : r = a
        · rw [if_pos e4, if_pos e4]
          by_cases e : q = i
          · rw [if_pos (Or.inr ⟨e, e4⟩), e, h, decide_eq_true (Nat.lt_succ_self i), Bool.true_and, Bool.or_true]
          · rw [if_neg (by omega), dec_l e]
        · rw [if_neg e4, if_neg e4, if_neg (by omega)]
/-- in the end -/
theorem bxM_n {n : Nat} {D : Nat → Nat} {a b q r : Nat} (hd : DG n D) (hn : n ≤ 5) (hb : b < n) (ha : a < n) (hab : a ≠ b) (hq : q < 5) : (if q = a ∧ r = a then false else bxM D a b n q r) = jM D a b q r := by
  have hz : ∀ q r, q < 5 → n ≤ r → (D q).testBit r = false := fun q r hq hr => Nat.testBit_lt_two_pow (Nat.lt_of_lt_of_le (hd.1 q hq) (Nat.pow_le_pow_right (by decide) hr))
  unfold bxM jM
  by_cases e1 : q = b
  · rw [if_neg (show ¬ (q = a ∧ r = a) by omega), if_pos e1, if_pos (Or.inl e1)]
    by_cases c : n ≤ r
    · rw [hz b r (by omega) c, Bool.false_and]
    · rw [decide_eq_false c, Bool.and_false]
  · by_cases e2 : r = b
    · rw [if_neg (show ¬ (q = a ∧ r = a) by omega), if_neg e1, if_pos e2, if_pos (Or.inr e2)]
      by_cases c : n ≤ q
      · rw [hd.2.1 q c hq, Nat.zero_testBit, Bool.false_and]
      · rw [decide_eq_false c, Bool.and_false]
    · rw [if_neg e1, if_neg e2, if_neg (show ¬ (q = b ∨ r = b) from fun z => z.elim e1 e2)]
      by_cases e3 : q = a
      · rw [if_pos e3, if_pos e3]
        by_cases e4 : r = a
        · rw [if_pos ⟨e3, e4⟩, if_pos e4]
        · rw [if_neg (fun z => e4 z.2), if_neg e4]
          by_cases c : r < n
          · rw [decide_eq_true c, Bool.true_and]
          · rw [decide_eq_false c, Bool.false_and, hz b r (by omega) (by omega)]
      · rw [if_neg (fun z => e3 z.1), if_neg e3, if_neg e3]
        by_cases e4 : r = a
        · rw [if_pos e4, if_pos e4, hd.2.2.1 q b hq (by omega)]
          by_cases c : q < n
          · rw [decide_eq_true c, Bool.true_and]
          · rw [decide_eq_false c, Bool.false_and, hz b q (by omega) (by omega)]
        · rw [if_neg e4, if_neg e4]
theorem ct2_all : ((List.range 32).all fun x => (List.range 5).all fun a => (List.range 5).all fun b => a == b || decide ((nI x ||| (if x.testBit b = true then nI (2 ^ a) else 0)) &&& (nI (2 ^ b) ^^^ (-1 : Int32)) = nI (tf2 a b x))) = true := by decide +kernel
theorem ct2_n {a b x : Nat} (ha : a < 5) (hb : b < 5) (hab : a ≠ b) (hx : x < 32) : (nI x ||| (if x.testBit b = true then nI (2 ^ a) else 0)) &&& (nI (2 ^ b) ^^^ (-1 : Int32)) = nI (tf2 a b x) := by
  have h := all_at (all_at (all_at ct2_all hx) ha) hb
  rw [beq_eq_false_iff_ne.mpr hab, Bool.false_or] at h
  exact of_decide_eq_true h
theorem setb_c {m k : Nat} (hm : m < 32) (hk : k < 5) : nI m &&& (nI (2 ^ k) ^^^ (-1 : Int32)) = nI (setb m k false) := by
  have h := (setb_i m hm k hk).2
  rw [Int32.or_zero] at h
  exact h
def cgI (a b : Nat) (v : Int32) : Int32 := if v = nI b then nI a else v
theorem jt156 {M : Mem} {a b p : Nat} (hp : p < 4) : ∃ J, iter (sX12_joinTwo_156 (nI a) (nI b) (nI p)) FU ((0 : Int32), M) = some (.inl (nI (p + 1), J)) ∧ (∀ h, h < 4 → J 75 (28 + (4 * p + h)) = cgI a b (M 75 (28 + (4 * p + h)))) ∧ (∀ k, (k < 28 + 4 * p ∨ 28 + 4 * p + 4 ≤ k) → J 75 k = M 75 k) ∧ ∀ c, c ≠ 75 → J c = M c := by
  have key := iter_invF (s := sX12_joinTwo_156 (nI a) (nI b) (nI p)) (fun i x => x.1 = nI i ∧ (∀ h, h < i → x.2 75 (28 + (4 * p + h)) = cgI a b (M 75 (28 + (4 * p + h)))) ∧ (∀ k, (k < 28 + 4 * p ∨ 28 + 4 * p + i ≤ k) → x.2 75 k = M 75 k) ∧ ∀ c, c ≠ 75 → x.2 c = M c) (fun r => ∃ J, r = .inl (nI (p + 1), J) ∧ (∀ h, h < 4 → J 75 (28 + (4 * p + h)) = cgI a b (M 75 (28 + (4 * p + h)))) ∧ (∀ k, (k < 28 + 4 * p ∨ 28 + 4 * p + 4 ≤ k) → J 75 k = M 75 k) ∧ ∀ c, c ≠ 75 → J c = M c) 4 (FU_lt (by decide)) (x := ((0 : Int32), M)) ⟨rfl, fun h hh => absurd hh (Nat.not_lt_zero _), fun _ _ => rfl, fun _ _ => rfl⟩ (fun i x hi hx => ?_) (fun x hx => ?_)
  · obtain ⟨r, k1, J, rfl, k2⟩ := key
    exact ⟨J, k1, k2⟩
  · obtain ⟨x4, K⟩ := x
    dsimp only at hx
    obtain ⟨rfl, h1, h2, h3⟩ := hx
    have e : (28 : Int32) + (4 : Int32) * nI p + nI i = nI (28 + (4 * p + i)) := by
      rw [show (28 : Int32) = nI 28 from rfl, show (4 : Int32) = nI 4 from rfl, pk_mul, nI_add, nI_add, Nat.add_assoc]
    have hval : ∀ v : Int32, v = cgI a b (M 75 (28 + (4 * p + i))) → (∀ h, h < i + 1 → up2 K 75 (28 + (4 * p + i)) v 75 (28 + (4 * p + h)) = cgI a b (M 75 (28 + (4 * p + h)))) ∧ (∀ k, (k < 28 + 4 * p ∨ 28 + 4 * p + (i + 1) ≤ k) → up2 K 75 (28 + (4 * p + i)) v 75 k = M 75 k) ∧ ∀ c, c ≠ 75 → up2 K 75 (28 + (4 * p + i)) v c = M c := fun v hv => by
      refine ⟨fun h hh => ?_, fun k hk => ?_, fun c hc => by rw [up2_cc hc]; exact h3 c hc⟩
      · by_cases e : h = i
        · rw [e, up2_self, hv]
        · rw [up2_i (by omega)]; exact h1 h (by omega)
      · rw [up2_i (by omega)]; exact h2 k (by omega)
    have hK := h2 (28 + (4 * p + i)) (by omega)
    unfold sX12_joinTwo_156
    dsimp only
    unfold bX12_joinTwo_156
    dsimp only [letb]
    rw [if_neg (show ¬ (4 : Int32) ≤ nI i from nI_ge (b := 4) hi (by decide)), e, ix_n (show 28 + (4 * p + i) < 2 ^ 31 by omega)]
    simp only [chk_t (inb_n (show 28 + (4 * p + i) < 632 by omega) (show 632 < 2 ^ 31 by decide))]
    by_cases c : K 75 (28 + (4 * p + i)) = nI b
    · rw [if_pos c]
      rw [hK] at c
      exact ⟨_, by rw [nI_1], rfl, hval (nI a) (by unfold cgI; rw [if_pos c])⟩
    · rw [if_neg c]
      rw [hK] at c
      exact ⟨_, by rw [nI_1], rfl, hval (K 75 (28 + (4 * p + i))) (by unfold cgI; rw [if_neg c]; exact hK)⟩
  · obtain ⟨x4, K⟩ := x
    dsimp only at hx
    obtain ⟨rfl, h1, h2, h3⟩ := hx
    refine ⟨.inl (nI (p + 1), K), ?_, K, rfl, h1, h2, h3⟩
    unfold sX12_joinTwo_156
    dsimp only
    unfold bX12_joinTwo_156
    rw [if_pos (show (4 : Int32) ≤ nI 4 by decide), nI_1]
theorem jt108 {M : Mem} {np a b : Nat} (r3 : M 75 3 = nI np) (hnp : np ≤ 4) : ∃ J, iter (sX12_joinTwo_108 (nI a) (nI b)) FU ((0 : Int32), M) = some J ∧ (∀ p, p < np → J 75 (20 + p) = cgI a b (M 75 (20 + p))) ∧ (∀ p h, p < np → h < 4 → J 75 (28 + (4 * p + h)) = cgI a b (M 75 (28 + (4 * p + h)))) ∧ (∀ k, (k < 20 ∨ 44 ≤ k) → J 75 k = M 75 k) ∧ (∀ c, c ≠ 74 → c ≠ 75 → J c = M c) ∧ J 74 15 = nI b ∧ ∀ i, i ≠ 15 → J 74 i = M 74 i := by
  refine iter_invF (s := sX12_joinTwo_108 (nI a) (nI b)) (fun i x => x.1 = nI i ∧ (∀ p, p < i → x.2 75 (20 + p) = cgI a b (M 75 (20 + p))) ∧ (∀ p h, p < i → h < 4 → x.2 75 (28 + (4 * p + h)) = cgI a b (M 75 (28 + (4 * p + h)))) ∧ (∀ k, (k < 20 ∨ (20 + i ≤ k ∧ k < 28) ∨ 28 + 4 * i ≤ k) → x.2 75 k = M 75 k) ∧ ∀ c, c ≠ 75 → x.2 c = M c) _ np (FU_lt (by omega)) (x := ((0 : Int32), M)) ⟨rfl, fun p hp => absurd hp (Nat.not_lt_zero _), fun p h hp => absurd hp (Nat.not_lt_zero _), fun _ _ => rfl, fun _ _ => rfl⟩ (fun i x hi hx => ?_) (fun x hx => ?_)
  · obtain ⟨x3, K⟩ := x
    dsimp only at hx
    obtain ⟨rfl, h1, h2, h3, h4⟩ := hx
    have K3 : K 75 3 = nI np := by rw [h3 3 (by omega)]; exact r3
    have hK := h3 (20 + i) (by omega)
    have hgo : ∀ v : Int32, v = cgI a b (M 75 (20 + i)) → ∃ y, jX12_joinTwo_152 (nI a) (nI b) (nI i) v (nI (20 + i)) K = some (.inl y) ∧ y.1 = nI (i + 1) ∧ (∀ p, p < i + 1 → y.2 75 (20 + p) = cgI a b (M 75 (20 + p))) ∧ (∀ p h, p < i + 1 → h < 4 → y.2 75 (28 + (4 * p + h)) = cgI a b (M 75 (28 + (4 * p + h)))) ∧ (∀ k, (k < 20 ∨ (20 + (i + 1) ≤ k ∧ k < 28) ∨ 28 + 4 * (i + 1) ≤ k) → y.2 75 k = M 75 k) ∧ ∀ c, c ≠ 75 → y.2 c = M c := fun v hv => by
      obtain ⟨J, j1, j2, j3, j4⟩ := jt156 (M := up2 K 75 (20 + i) v) (a := a) (b := b) (p := i) (by omega)
      refine ⟨(nI (i + 1), J), ?_, rfl, fun p hp => ?_, fun p h hp hh => ?_, fun k hk => ?_, fun c hc => by show J c = M c; rw [j4 c hc, up2_cc hc]; exact h4 c hc⟩
      · unfold jX12_joinTwo_152
        rw [chk_t (inb_n (by omega) (by decide)), ix_n (by omega)]
        exact j1
      · show J 75 (20 + p) = _
        rw [j3 _ (by omega)]
        by_cases e : p = i
        · rw [e, up2_self, hv]
        · rw [up2_i (by omega)]; exact h1 p (by omega)
      · show J 75 (28 + (4 * p + h)) = _
        by_cases e : p = i
        · rw [e, j2 h hh, up2_i (by omega), h3 _ (by omega)]
        · rw [j3 _ (by omega), up2_i (by omega)]; exact h2 p h (by omega) hh
      · show J 75 k = M 75 k
        rw [j3 k (by omega), up2_i (by omega)]
        exact h3 k (by omega)
    unfold sX12_joinTwo_108
    dsimp only
    unfold bX12_joinTwo_108
    rw [chk_t (by decide), show ix (3 : Int32) = 3 from rfl, K3, if_neg (by rw [nI_leI (by omega) (by omega)]; omega), show (20 : Int32) = nI 20 from rfl, nI_add, ix_n (show 20 + i < 2 ^ 31 by omega)]
    simp only [chk_t (inb_n (show 20 + i < 632 by omega) (show 632 < 2 ^ 31 by decide))]
    by_cases c : K 75 (20 + i) = nI b
    · rw [if_pos c]
      exact hgo _ (by unfold cgI; rw [if_pos (by rw [← hK]; exact c)])
    · rw [if_neg c]
      exact hgo _ (by unfold cgI; rw [if_neg (by rw [← hK]; exact c)]; exact hK)
  · obtain ⟨x3, K⟩ := x
    dsimp only at hx
    obtain ⟨rfl, h1, h2, h3, h4⟩ := hx
    have K3 : K 75 3 = nI np := by rw [h3 3 (by omega)]; exact r3
    refine ⟨up2 K 74 15 (nI b), ?_, fun p hp => by rw [up2_c (by decide)]; exact h1 p hp, fun p h hp hh => by rw [up2_c (by decide)]; exact h2 p h hp hh, fun k hk => by rw [up2_c (by decide)]; exact h3 k (by omega), fun c q1 q2 => by rw [up2_cc q1]; exact h4 c q2, up2_self .., fun i hi => by rw [up2_i hi, h4 74 (by decide)]⟩
    unfold sX12_joinTwo_108
    dsimp only
    unfold bX12_joinTwo_108
    rw [chk_t (by decide), show ix (3 : Int32) = 3 from rfl, K3, if_pos (by rw [nI_leI (by omega) (by omega)]; omega)]
    rfl
theorem joinTwo_n {I : Mem} {n np ct law B w a b : Nat} {D : Nat → Nat} {wf : Nat → Nat → Option Nat} (hM : MF I n np ct law B 9 D wf) (hd : DG n D) (hab : a < b) (hb : b < n) (hnp : np ≤ 3) (hw : w ∈ enA n np) (hat : ∀ p, p < np → I 75 (20 + p) = nI (dg w p)) : ∃ J, fX12_joinTwo (nI a) (nI b) I = some J ∧ MF J n np (tf2 a b ct) law B b (jD D a b) (wfJ a b wf) ∧ (∀ p, p < np → J 75 (20 + p) = nI (dg (mgW a b w np) p)) ∧ (∀ k, 44 ≤ k → J 75 k = I 75 k) ∧ (∀ c, c ≠ 74 → c ≠ 75 → J c = I c) ∧ ∀ i, i ≠ 15 → J 74 i = I 74 i := by
  obtain ⟨hn, hnp4, hct, hl, hB, ⟨r0, r3, r4, r1, r2⟩, rd, hD, hwI, hwf, hj⟩ := hM
  have h32 := pow_le32 hn.2
  have hD32 : ∀ q, q < 5 → D q < 32 := fun q hq => by have := hD q hq; omega
  have main := iter_invF (s := sX12_joinTwo_2 (nI a) (nI b)) (fun i x => x.1 = nI i ∧ (∃ E : Nat → Nat, (∀ q, q < 5 → x.2 75 (5 + q) = nI (E q)) ∧ (∀ q, q < 5 → E q < 32) ∧ ∀ q r, q < 5 → (E q).testBit r = bxM D a b i q r) ∧ (∀ k, (k < 5 ∨ 10 ≤ k) → x.2 75 k = I 75 k) ∧ ∀ c, c ≠ 75 → x.2 c = I c)
    (fun J => MF J n np (tf2 a b ct) law B b (jD D a b) (wfJ a b wf) ∧ (∀ p, p < np → J 75 (20 + p) = nI (dg (mgW a b w np) p)) ∧ (∀ k, 44 ≤ k → J 75 k = I 75 k) ∧ (∀ c, c ≠ 74 → c ≠ 75 → J c = I c) ∧ ∀ i, i ≠ 15 → J 74 i = I 74 i) n (FU_lt (by omega)) (x := ((0 : Int32), I)) ⟨rfl, ⟨D, rd, hD32, fun q r _ => bxM_0.symm⟩, fun _ _ => rfl, fun _ _ => rfl⟩ (fun i x hi hx => ?_) (fun x hx => ?_)
  · exact main
  · obtain ⟨x3, K⟩ := x
    dsimp only at hx
    obtain ⟨rfl, ⟨E, e1, e2, e3⟩, h2, h3⟩ := hx
    have hbit : (E b).testBit i = (D b).testBit i := by
      rw [e3 b i (by omega)]
      unfold bxM
      rw [if_pos rfl, decide_eq_true (Nat.le_refl _), Bool.and_true]
    unfold sX12_joinTwo_2
    dsimp only
    unfold bX12_joinTwo_2
    rw [chk_t (by decide), show ix (0 : Int32) = 0 from rfl, h2 0 (by omega), r0, if_neg (by rw [nI_leI (by omega) (by omega)]; omega), show (5 : Int32) = nI 5 from rfl, nI_add, chk_t (inb_n (by omega) (by decide)), ix_n (by omega), e1 b (by omega), bnd_s (hasM_n K (by have := e2 b (by omega); omega) (by omega)), hbit]
    cases hbi : (D b).testBit i with
    | false =>
      refine ⟨(nI (i + 1), K), by rw [if_pos (by decide), nI_1], rfl, ⟨E, e1, e2, fun q r hq => ?_⟩, h2, h3⟩
      rw [e3 q r hq, bxM_skip hd hq (by omega) (by omega) hbi]
    | true =>
      obtain ⟨J1, E1, a1, a2, a3, a4, a5, a6⟩ := layE (v := false) (x := b) (y := i) (by omega) (by omega) e1 e2
      obtain ⟨J2, E2, b1, b2, b3, b4, b5, b6⟩ := layE (v := true) (x := a) (y := i) (by omega) (by omega) a2 a3
      refine ⟨(nI (i + 1), J2), ?_, rfl, ⟨E2, b2, b3, fun q r hq => ?_⟩, fun k hk => by show J2 75 k = _; rw [b6 k hk, a6 k hk]; exact h2 k hk, fun c hc => by show J2 c = _; rw [b5 c hc, a5 c hc]; exact h3 c hc⟩
      · rw [if_neg (by decide), bnd_s (show fX12_layDoor (nI b) (nI i) 0 K = some J1 from a1), bnd_s (show fX12_layDoor (nI a) (nI i) 1 J1 = some J2 from b1), nI_1]
      · rw [b4 q r hq, a4 q r hq, bxM_step hd (by omega) (by omega) hbi, e3 q r hq]
  · obtain ⟨x3, K⟩ := x
    dsimp only at hx
    obtain ⟨rfl, ⟨E, e1, e2, e3⟩, h2, h3⟩ := hx
    have hE : ∀ q, q < 5 → (if q = a then setb (E a) a false else E q) = jD D a b q := fun q hq => by
      have hlt : (if q = a then setb (E a) a false else E q) < 2 ^ 5 := by
        split
        · exact setb_lt (n := 5) (e2 a (by omega)) (by omega)
        · exact e2 q hq
      apply Nat.eq_of_testBit_eq
      intro r
      by_cases c : r < 5
      · rw [jD_bit c, ← bxM_n hd hn.2 hb (by omega) (by omega) hq]
        by_cases e : q = a
        · rw [if_pos e, setb_bit]
          by_cases e4 : r = a
          · rw [if_pos e4, if_pos ⟨e, e4⟩]
          · rw [if_neg e4, if_neg (fun z => e4 z.2), e3 a r (by omega), e]
        · rw [if_neg e, if_neg (fun z => e z.1), e3 q r hq]
      · have z1 := Nat.testBit_lt_two_pow (Nat.lt_of_lt_of_le hlt (Nat.pow_le_pow_right (by decide) (show 5 ≤ r by omega)))
        have z2 := Nat.testBit_lt_two_pow (Nat.lt_of_lt_of_le (show jD D a b q < 2 ^ 5 from pyb_lt _ 5) (Nat.pow_le_pow_right (by decide) (show 5 ≤ r by omega)))
        rw [z1, z2]
    generalize hM4 : up2 K 75 (5 + a) (nI (setb (E a) a false)) = M4
    have M4c : ∀ c, c ≠ 75 → M4 c = I c := fun c hc => by rw [← hM4, up2_cc hc]; exact h3 c hc
    have M4k : ∀ k, (k < 5 ∨ 10 ≤ k) → M4 75 k = I 75 k := fun k hk => by rw [← hM4, up2_i (by omega)]; exact h2 k hk
    have M4d : ∀ q, q < 5 → M4 75 (5 + q) = nI (jD D a b q) := fun q hq => by
      rw [← hM4, ← hE q hq]
      by_cases e : q = a
      · rw [if_pos e, e, up2_self]
      · rw [if_neg e, up2_i (by omega)]; exact e1 q hq
    generalize hM5 : up2 (up2 M4 75 4 (nI ct ||| (if ct.testBit b = true then nI (2 ^ a) else 0))) 75 4 (nI (tf2 a b ct)) = M5
    have M5c : ∀ c, c ≠ 75 → M5 c = I c := fun c hc => by rw [← hM5, up2_cc hc, up2_cc hc]; exact M4c c hc
    have M5k : ∀ k, k ≠ 4 → M5 75 k = M4 75 k := fun k hk => by rw [← hM5, up2_i hk, up2_i hk]
    obtain ⟨J, j1, j2, j3, j4, j5, j6, j7⟩ := jt108 (M := M5) (np := np) (a := a) (b := b) (by rw [M5k 3 (by decide), M4k 3 (by omega)]; exact r3) hnp4
    have h90 : jX12_joinTwo_90 (nI a) (nI b) (if ct.testBit b = true then nI (2 ^ a) else 0) (nI ct) 4 M4 = some J := by
      unfold jX12_joinTwo_90
      dsimp only [letb]
      rw [chk_t (by decide), chk_t (by decide), chk_t (by decide), show ix (4 : Int32) = 4 from rfl, up2_self, n_one (show b < 32 by omega), ct2_n (by omega) (by omega) (by omega) hct, hM5]
      exact j1
    obtain ⟨m1, m2, m3⟩ := mgW_en (b := b) hn.2 hnp (show a < n by omega) hw
    refine ⟨J, ?_, ⟨hn, hnp4, tf2_lt _ _ _, hl, hB, ⟨?_, ?_, ?_, ?_, ?_⟩, fun q hq => ?_, fun q hq => jD_lt hd hn.2 (by omega) hb hq, fun p k hp hk1 hk => ?_, fun p k q hp hk1 hk hq => ?_, Or.inr ⟨j6, by omega⟩⟩, fun p hp => ?_, fun k hk => ?_, fun c q1 q2 => by rw [j5 c q1 q2]; exact M5c c q2, fun i hi => by rw [j7 i hi, M5c 74 (by decide)]⟩
    · unfold sX12_joinTwo_2
      dsimp only
      unfold bX12_joinTwo_2
      rw [chk_t (by decide), show ix (0 : Int32) = 0 from rfl, h2 0 (by omega), r0, if_pos (by rw [nI_leI (by omega) (by omega)]; omega), show (5 : Int32) = nI 5 from rfl, nI_add, chk_t (inb_n (show 5 + a < 632 by omega) (by decide)), chk_t (inb_n (show 5 + a < 632 by omega) (by decide)), ix_n (show 5 + a < 2 ^ 31 by omega), e1 a (by omega), n_one (show a < 32 by omega), setb_c (e2 a (by omega)) (by omega)]
      dsimp only [letb]
      rw [hM4, chk_t (by decide), chk_t (by decide), show ix (4 : Int32) = 4 from rfl, M4k 4 (by omega), r4, bnd_s (hasM_n M4 (by omega) (by omega))]
      cases hcb : ct.testBit b with
      | false =>
        rw [hcb, if_neg (by decide)] at h90
        rw [if_pos (by decide)]
        exact inrO_s h90
      | true =>
        rw [hcb, if_pos rfl] at h90
        rw [if_neg (by decide)]
        exact inrO_s h90
    · rw [j4 0 (by omega), M5k 0 (by decide), M4k 0 (by omega)]; exact r0
    · rw [j4 3 (by omega), M5k 3 (by decide), M4k 3 (by omega)]; exact r3
    · rw [j4 4 (by omega), ← hM5, up2_self]
    · rw [j4 1 (by omega), M5k 1 (by decide), M4k 1 (by omega)]; exact r1
    · rw [j4 2 (by omega), M5k 2 (by decide), M4k 2 (by omega)]; exact r2
    · rw [j4 _ (by omega), M5k _ (by omega)]; exact M4d q hq
    · rw [j3 p (k - 1) hp (by omega), M5k _ (by omega), M4k _ (by omega), hwI p k hp hk1 hk]
      unfold wfJ cgI
      cases ho : wf p k with
      | none => rw [if_neg (fun q => n_ne1 (k := b) (by omega) q.symm)]; rfl
      | some r =>
        have := hwf p k r hp hk1 hk ho
        show (if nI r = nI b then nI a else nI r) = nI (if r = b then a else r)
        by_cases c : r = b
        · rw [if_pos (by rw [c]), if_pos c]
        · rw [if_neg (by rw [nI_eq (by omega) (by omega)]; exact c), if_neg c]
    · unfold wfJ at hq
      cases ho : wf p k with
      | none => rw [ho] at hq; cases hq
      | some r =>
        rw [ho] at hq
        have := hwf p k r hp hk1 hk ho
        have hq2 : (if r = b then a else r) = q := Option.some.inj hq
        rw [← hq2]
        split <;> omega
    · have hd5 := enA_dg5 hn.2 hw p
      rw [j2 p hp, M5k _ (by omega), M4k _ (by omega), hat p hp, m2 p hp]
      unfold cgI
      by_cases c : dg w p = b
      · rw [if_pos (by rw [c]), if_pos c]
      · rw [if_neg (by rw [nI_eq (by omega) (by omega)]; exact c), if_neg c]
    · rw [j4 k (by omega), M5k k (by omega)]; exact M4k k (by omega)
