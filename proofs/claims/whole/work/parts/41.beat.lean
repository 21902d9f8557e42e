theorem eldest_n {np s t r : Nat} {I : Mem} {o : Option Nat} {came : Bool} (h3 : I 75 3 = nI np) (hnp : np ≤ 4) (hs : s < 2 ^ 31) (ht : t < 2 ^ 31) (hr : r < 8) (ho : ∀ a, o = some a → a < 4) : fX12_eldest (nI s) (nI t) (nI r) (oi o) (b2i came) I = some (oi (fstF (fun p => decide (o ≠ some p) && (decide (dg t p = r) && (!came || decide (dg s p ≠ r)))) np 0)) := by
  generalize hP : (fun p => decide (o ≠ some p) && (decide (dg t p = r) && (!came || decide (dg s p ≠ r)))) = P
  have key : ∀ (k i n : Nat), i + k = np → k < n → iter (sX12_eldest_3 (nI s) (nI t) (nI r) (oi o) (b2i came) I) n (nI i) = some (oi (fstF P k i)) := by
    intro k
    induction k with
    | zero =>
      intro i n hi hn
      obtain ⟨n, rfl⟩ : ∃ q, n = q + 1 := ⟨n - 1, by omega⟩
      refine iter_inr ?_
      unfold sX12_eldest_3 bX12_eldest_3
      rw [chk_t (by decide), show ix (3 : Int32) = 3 from rfl, h3, if_pos (by rw [nI_leI (by omega) (by omega)]; omega)]
      rfl
    | succ k ih =>
      intro i n hi hn
      obtain ⟨n, rfl⟩ : ∃ q, n = q + 1 := ⟨n - 1, by omega⟩
      have l1 := dg_lt t i
      have l2 := dg_lt s i
      have hstep : sX12_eldest_3 (nI s) (nI t) (nI r) (oi o) (b2i came) I (nI i) = if P i = true then some (.inr (nI i)) else some (.inl (nI (i + 1))) := by
        unfold sX12_eldest_3 bX12_eldest_3
        rw [chk_t (by decide), show ix (3 : Int32) = 3 from rfl, h3, if_neg (by rw [nI_leI (by omega) (by omega)]; omega), bnd_s (roomIn_n I ht (by omega)), bnd_s (roomIn_n I hs (by omega)), nI_1, ← hP]
        dsimp only
        by_cases c0 : o = some i
        · rw [c0, if_pos (show nI i = oi (some i) from rfl), if_neg (by simp)]
        · have n0 : ¬ nI i = oi o := by
            cases o with
            | none => exact n_ne1 (by omega)
            | some a =>
              have := ho a rfl
              intro q
              exact c0 (by rw [(nI_eq (by omega) (by omega)).mp q])
          rw [if_neg n0]
          by_cases c1 : dg t i = r
          · rw [if_pos (show nI (dg t i) = nI r by rw [c1])]
            cases came with
            | false => rw [if_pos (by decide), if_pos (by simp [c0, c1])]
            | true =>
              rw [if_neg (by decide)]
              by_cases c2 : dg s i = r
              · rw [if_pos (show nI (dg s i) = nI r by rw [c2]), if_neg (by simp [c2])]
              · rw [if_neg (show ¬ nI (dg s i) = nI r by rw [nI_eq (by omega) (by omega)]; exact c2), if_pos (by simp [c0, c1, c2])]
          · rw [if_neg (show ¬ nI (dg t i) = nI r by rw [nI_eq (by omega) (by omega)]; exact c1), if_neg (by simp [c1])]
      unfold fstF
      by_cases c : P i = true
      · rw [if_pos c] at hstep
        rw [iter_inr hstep, if_pos c]
        rfl
      · rw [if_neg c] at hstep
        rw [iter_inl hstep, if_neg c]
        exact ih (i + 1) n (by omega) (by omega)
  unfold fX12_eldest
  exact key np 0 FU (by omega) (FU_lt (by omega))
theorem gatherM {np law s t r : Nat} {M : Mem} {pen pur : Nat → Int32} (h3 : M 75 3 = nI np) (hnp : np ≤ 4) (h1 : M 75 1 = nI law) (hl : law ≤ 4) (hs : s < 2 ^ 31) (ht : t < 2 ^ 31) (hr : r < 5) : fX12_gather (nI s) (nI t) (nI r) (GM M 80 81 pen pur) = some (GM M 80 81 (gatF np law s t r (pen, pur)).1 (gatF np law s t r (pen, pur)).2) := by
  have ne : (80 : Nat) ≠ 81 := by decide
  have m75 : ∀ k, GM M 80 81 pen pur 75 k = M 75 k := fun k => by rw [GM_c (by decide) (by decide)]
  have m3 : GM M 80 81 pen pur 75 3 = nI np := by rw [m75]; exact h3
  have fin9 : ∀ a c : Nat, a < 4 → c < 4 → ∀ u : Int32, jX12_gather_71 (nI r) (nI a) (nI c) u (GM M 80 81 pen pur) = some (GM M 80 81 (upd pen r 0) (upd (upd pur a (pur a + (pen r - u))) c (upd pur a (pur a + (pen r - u)) c + u))) := by
    intro a c ha hc u
    unfold jX12_gather_71
    rw [chk_t (inb_n ha (by decide)), chk_t (inb_n hr (by decide)), chk_t (inb_n ha (by decide)), ix_n (by omega), ix_n (by omega), ix_n (by omega), GM_1 ne, GM_2]
    dsimp only [letb]
    rw [GM_p, chk_t (inb_n hc (by decide)), chk_t (inb_n hc (by decide)), GM_2, GM_p, chk_t (inb_n hr (by decide)), GM_n ne]
  have E1 := eldest_n (s := s) (t := t) (r := r) (o := none) (came := true) m3 hnp hs ht (by omega) (fun a h => by cases h)
  have e1 : fstF (fun p => decide (none ≠ some p) && (decide (dg t p = r) && (!true || decide (dg s p ≠ r)))) np 0 = fstF (fun p => decide (dg t p = r) && decide (dg s p ≠ r)) np 0 := fstF_cong (fun p _ _ => by simp)
  rw [e1] at E1
  unfold fX12_gather
  rw [show (-1 : Int32) = oi none from rfl, show (1 : Int32) = b2i true from rfl, bnd_s E1]
  unfold gatF
  cases hf : fstF (fun p => decide (dg t p = r) && decide (dg s p ≠ r)) np 0 with
  | none =>
    rw [if_pos rfl]
    unfold jX12_gather_31
    rw [if_pos (show oi none = -1 from rfl)]
  | some a =>
    have ha := fstF_lt hf
    have E2 := eldest_n (s := s) (t := t) (r := r) (o := some a) (came := false) m3 hnp hs ht (by omega) (fun a2 h => by cases h; omega)
    have e2 : fstF (fun p => decide (some a ≠ some p) && (decide (dg t p = r) && (!false || decide (dg s p ≠ r)))) np 0 = fstF (fun p => p != a && decide (dg t p = r)) np 0 := fstF_cong (fun p _ _ => by
      by_cases q : p = a
      · subst q; simp
      · have q2 : (p != a) = true := by rw [bne_iff_ne]; exact q
        rw [q2]
        simp [Ne.symm q])
    rw [e2] at E2
    rw [if_neg (show ¬ oi (some a) = oi none from n_ne1 (by omega)), show (0 : Int32) = b2i false from rfl, bnd_s E2]
    dsimp only
    cases ho : fstF (fun p => p != a && decide (dg t p = r)) np 0 with
    | none =>
      unfold jX12_gather_31
      rw [if_pos (show oi none = -1 from rfl)]
    | some c =>
      have hc := fstF_lt ho
      unfold jX12_gather_31 jX12_gather_59
      rw [if_neg (show ¬ oi (some c) = -1 from n_ne1 (by omega)), chk_t (by decide), show ix (1 : Int32) = 1 from rfl, m75, h1, chk_t (inb_n hr (by decide)), ix_n (by omega), GM_1 ne, show oi (some a) = nI a from rfl, show oi (some c) = nI c from rfl]
      dsimp only
      by_cases c2 : law = 2
      · rw [if_pos (show nI law = 2 by rw [c2]; rfl), if_pos (Or.inl c2), fin9 a c (by omega) (by omega)]
        rfl
      · rw [if_neg (show ¬ nI law = 2 from fun q => c2 ((nI_eq (b := 2) (by omega) (by decide)).mp q)), chk_t (by decide)]
        by_cases c4 : law = 4
        · rw [if_pos (show nI law = 4 by rw [c4]; rfl), if_pos (Or.inr c4), fin9 a c (by omega) (by omega)]
          rfl
        · rw [if_neg (show ¬ nI law = 4 from fun q => c4 ((nI_eq (b := 4) (by omega) (by decide)).mp q)), if_neg (by omega), fin9 a c (by omega) (by omega)]
          rfl
/-! ===== a beat ===== -/
/-- the sills behind the first i have laid -/
def pyP (f : Nat → Bool) (t : Nat) (pen : Nat → Int32) : Nat → Nat → Int32
  | 0 => pen
  | i + 1 => if f i = true then upd (pyP f t pen i) (dg t i) (pyP f t pen i (dg t i) + 1) else pyP f t pen i
def pyU (f : Nat → Bool) (pur : Nat → Int32) : Nat → Nat → Int32
  | 0 => pur
  | i + 1 => if f i = true then upd (pyU f pur i) i (pyU f pur i i - 1) else pyU f pur i
def gatR (np law s t : Nat) (q : (Nat → Int32) × (Nat → Int32)) : Nat → (Nat → Int32) × (Nat → Int32)
  | 0 => q
  | r + 1 => gatF np law s t r (gatR np law s t q r)
theorem popc_n : ∀ m, m < 64 → ∀ I : Mem, fJ6_bitCount_0f7a4 (nI m) I = some (nI ((List.range 6).countP (fun i => m.testBit i))) := by
  intro m hm I
  have h : ∀ m, m < 64 → fJ6_bitCount_0f7a4 (nI m) (fun _ _ => 0) = some (nI ((List.range 6).countP (fun i => m.testBit i))) := by decide +kernel
  exact h m hm
theorem countP_pyb (f : Nat → Bool) (np : Nat) (h : np ≤ 4) : (List.range 6).countP (fun i => (pyb f np).testBit i) = cnt f np := by
  simp only [pyb_bit]
  rcases (show np = 0 ∨ np = 1 ∨ np = 2 ∨ np = 3 ∨ np = 4 by omega) with rfl | rfl | rfl | rfl | rfl <;> simp [List.range, List.range.loop, List.countP_cons, cnt] <;> omega
/-- a beat of a house: how many lay, and what stands behind it -/
theorem go_n {b np n ct law bt s t : Nat} {I : Mem} (g0 : I b 0 = nI n) (hn : n ≤ 5) (g2 : I b 2 = nI np) (hnp : np ≤ 4) (g1 : I b 1 = nI ct) (hct : ct < 32) (g3 : I b 3 = nI s) (g5 : I b 5 = nI bt) (hb : bt < 2 ^ 30) (hl : law ≤ 4) (hs : s < 2 ^ 31) (ht : t < 2 ^ 31) (hv : ∀ p, p < np → dg t p < 5) :
    fX4_go b (nI t) (38 + law) I = some (nI (cnt (layB np ct law (bt + 1) s t) np), GM (up2 (up2 I b 5 (nI (bt + 1))) b 3 (nI t)) (b + 2) (b + 4) (gatR np law s t (pyP (layB np ct law (bt + 1) s t) t (I (b + 2)) np, pyU (layB np ct law (bt + 1) s t) (I (b + 4)) np) n).1 (gatR np law s t (pyP (layB np ct law (bt + 1) s t) t (I (b + 2)) np, pyU (layB np ct law (bt + 1) s t) (I (b + 4)) np) n).2) := by
  generalize hF : layB np ct law (bt + 1) s t = F
  have ne : b + 2 ≠ b + 4 := by omega
  have k2 : up2 I b 5 (nI (bt + 1)) b 2 = nI np := by rw [up2_i (by decide)]; exact g2
  have k1 : up2 I b 5 (nI (bt + 1)) b 1 = nI ct := by rw [up2_i (by decide)]; exact g1
  have hpl : pyb F np < 2 ^ 4 := Nat.lt_of_lt_of_le (pyb_lt _ _) (Nat.pow_le_pow_right (by decide) hnp)
  have hpay := payers_n (b := b) (np := np) (ct := ct) (law := law) (bt := bt + 1) (s := s) (t := t) (I := up2 I b 5 (nI (bt + 1))) k2 hnp hl (by omega) hs ht
  rw [hF] at hpay
  generalize hM : up2 (up2 I b 5 (nI (bt + 1))) b 3 (nI t) = M
  have M2 : M b 2 = nI np := by rw [← hM, up2_i (by decide)]; exact k2
  have M0 : M b 0 = nI n := by rw [← hM, up2_i (by decide), up2_i (by decide)]; exact g0
  have M3 : M b 3 = nI t := by rw [← hM, up2_self]
  have Mp : M (b + 2) = I (b + 2) := by rw [← hM, up2_cc (by omega), up2_cc (by omega)]
  have Mu : M (b + 4) = I (b + 4) := by rw [← hM, up2_cc (by omega), up2_cc (by omega)]
  have q0 : ∀ pen pur, GM M (b + 2) (b + 4) pen pur b 0 = nI n := fun pen pur => by rw [GM_c (by omega) (by omega)]; exact M0
  have q2 : ∀ pen pur, GM M (b + 2) (b + 4) pen pur b 2 = nI np := fun pen pur => by rw [GM_c (by omega) (by omega)]; exact M2
  have inner : ∀ q : (Nat → Int32) × (Nat → Int32), iter (sX4_go_100 b (38 + law) (nI s) (nI (pyb F np))) FU ((0 : Int32), GM M (b + 2) (b + 4) q.1 q.2) = some (nI (cnt F np), GM M (b + 2) (b + 4) (gatR np law s t q n).1 (gatR np law s t q n).2) := by
    intro q
    refine iter_go (fun i => (nI i, GM M (b + 2) (b + 4) (gatR np law s t q i).1 (gatR np law s t q i).2)) n (FU_lt (by omega)) ?_ (fun i hi => ?_)
    · unfold sX4_go_100 bX4_go_100
      dsimp only
      rw [if_pos (by rw [q0, nI_leI (by omega) (by omega)]; omega), bnd_s (popc_n _ (by omega) _), countP_pyb F np hnp]
    · unfold sX4_go_100 bX4_go_100
      dsimp only
      rw [if_neg (by rw [q0, nI_leI (by omega) (by omega)]; omega), bnd_s (gatherX M2 hnp M3 hl hs ht (by omega)), nI_1]
      rfl
  unfold fX4_go
  dsimp only [letb]
  rw [g3, g5, nI_1, bnd_s (lone_n k2 hnp k1 hct hs), bnd_s (lone_n k2 hnp k1 hct ht), up2_self, bnd_s hpay, hM]
  have e0 : ((0 : Int32), M) = (fun i => (nI i, GM M (b + 2) (b + 4) (pyP F t (I (b + 2)) i) (pyU F (I (b + 4)) i))) 0 := by
    show _ = (nI 0, GM M (b + 2) (b + 4) (I (b + 2)) (I (b + 4)))
    rw [← Mp, ← Mu, GM_self]
    rfl
  rw [e0]
  refine iter_go (fun i => (nI i, GM M (b + 2) (b + 4) (pyP F t (I (b + 2)) i) (pyU F (I (b + 4)) i))) np (FU_lt (by omega)) ?_ (fun i hi => ?_)
  · unfold sX4_go_46 bX4_go_46
    dsimp only
    rw [if_pos (by rw [q2, nI_leI (by omega) (by omega)]; omega), inrO_s (inner (pyP F t (I (b + 2)) np, pyU F (I (b + 4)) np))]
  · have hr := hv i hi
    unfold sX4_go_46 bX4_go_46
    dsimp only
    rw [if_neg (by rw [q2, nI_leI (by omega) (by omega)]; omega), bnd_s (has_n _ (by omega) (by omega)), pyb_bit, decide_eq_true hi, Bool.true_and, nI_1, pyP, pyU]
    cases F i
    · rw [if_pos (by decide), if_neg (by decide), if_neg (by decide)]
    · rw [if_neg (by decide), if_pos rfl, if_pos rfl, chk_t (inb_n (by omega) (by decide)), chk_t (inb_n (by omega) (by decide)), ix_n (by omega), GM_2]
      dsimp only [letb]
      rw [GM_p, bnd_s (roomOf_n _ ht (by omega)), chk_t (inb_n hr (by decide)), chk_t (inb_n hr (by decide)), ix_n (by omega), GM_1 ne, GM_n ne]
