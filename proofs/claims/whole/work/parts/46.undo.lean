theorem undoM_n {ps : Nat} {I : Mem} (r53 : I 75 53 = nI (ps + 1)) (hp : ps ≤ 7) : ∃ K, fX12_undo I = some (1, K) ∧ (∀ c, c ≠ 75 → K c = I c) ∧ K 75 53 = nI ps ∧ K 75 2 = I 75 2 - 1 ∧ (∀ q, q < 5 → K 75 (10 + q) = I 75 (54 + 13 * ps + q)) ∧ (∀ p, p < 4 → K 75 (24 + p) = I 75 (54 + 13 * ps + 5 + p)) ∧ (∀ p, p < 4 → K 75 (20 + p) = I 75 (54 + 13 * ps + 9 + p)) ∧ ∀ k, k ≠ 2 → k ≠ 53 → (k < 10 ∨ (15 ≤ k ∧ k < 20) ∨ 28 ≤ k) → K 75 k = I 75 k := by
  unfold fX12_undo
  have e0 : I 75 53 - 1 = nI ps := by rw [r53]; exact nI_pred ps
  rw [chk_t (by decide), show ix (53 : Int32) = 53 from rfl, if_neg (by rw [r53]; exact nI_ne0 (by omega) (by omega)), chk_t (by decide), chk_t (by decide)]
  dsimp only [letb]
  rw [chk_t (by decide), up2_self, e0, show (13 : Int32) = nI 13 from rfl, pk_mul, show (54 : Int32) = nI 54 from rfl, nI_add]
  generalize hb : 54 + 13 * ps = base
  have hb2 : 54 ≤ base ∧ base ≤ 145 := by omega
  have h2 : ∀ M : Mem, iter (sX12_undo_72 (nI base)) FU ((0 : Int32), M) = some ((1 : Int32), up2 (upA M 75 (cp2 (M 75) (base + 5) 24 (base + 9) 20 4)) 75 2 (M 75 2 - 1)) := by
    intro M
    have e0 : ((0 : Int32), M) = (fun i => (nI i, upA M 75 (cp2 (M 75) (base + 5) 24 (base + 9) 20 i))) 0 := by
      show _ = (nI 0, upA M 75 (cp2 (M 75) (base + 5) 24 (base + 9) 20 0))
      rw [cp2_0, upA_same]
      rfl
    rw [e0]
    refine iter_go (fun i => (nI i, upA M 75 (cp2 (M 75) (base + 5) 24 (base + 9) 20 i))) 4 (FU_lt (by decide)) ?_ (fun i hi => ?_)
    · unfold sX12_undo_72 bX12_undo_72
      dsimp only
      rw [if_pos (show (4 : Int32) ≤ nI 4 from by decide), chk_t (by decide), chk_t (by decide), show ix (2 : Int32) = 2 from rfl]
      have e53 : upA M 75 (cp2 (M 75) (base + 5) 24 (base + 9) 20 4) 75 2 = M 75 2 := by
        rw [upA_self]
        unfold cp2
        rw [if_neg (by omega), if_neg (by omega)]
      dsimp only [letb]
      rw [e53]
    · unfold sX12_undo_72 bX12_undo_72
      dsimp only
      have a5 : nI base + 5 + nI i = nI (base + 5 + i) := by rw [show (5 : Int32) = nI 5 from rfl, nI_add, nI_add]
      have a9 : nI base + 9 + nI i = nI (base + 9 + i) := by rw [show (9 : Int32) = nI 9 from rfl, nI_add, nI_add]
      rw [if_neg (show ¬ (4 : Int32) ≤ nI i from nI_ge (b := 4) hi (by decide)), a5, a9, show (24 : Int32) = nI 24 from rfl, show (20 : Int32) = nI 20 from rfl, nI_add, nI_add, chk_t (inb_n (by omega) (by decide)), chk_t (inb_n (by omega) (by decide)), ix_n (by omega), ix_n (by omega)]
      dsimp only [letb]
      rw [chk_t (inb_n (by omega) (by decide)), chk_t (inb_n (by omega) (by decide)), ix_n (by omega), ix_n (by omega), nI_1, upA_self, up2_upA, upA_self, up2_upA, cp2_s hi (by omega) (by omega) (by omega) (by omega) (by omega)]
  generalize hM : up2 I 75 53 (nI ps) = M0
  have h1 : iter (sX12_undo_42 (nI base)) FU ((0 : Int32), M0) = some ((1 : Int32), up2 (upA (cpM M0 75 75 base 10 5) 75 (cp2 (cpM M0 75 75 base 10 5 75) (base + 5) 24 (base + 9) 20 4)) 75 2 (cpM M0 75 75 base 10 5 75 2 - 1)) := by
    refine iter_copy 75 75 base 10 5 M0 (FU_lt (by decide)) (by omega) (fun i hi => ?_) ?_
    · unfold sX12_undo_42 bX12_undo_42
      dsimp only
      rw [if_neg (show ¬ (5 : Int32) ≤ nI i from nI_ge (b := 5) hi (by decide)), show (10 : Int32) = nI 10 from rfl, nI_add, nI_add, chk_t (inb_n (by omega) (by decide)), chk_t (inb_n (by omega) (by decide)), ix_n (by omega), ix_n (by omega), nI_1]
      rfl
    · unfold sX12_undo_42 bX12_undo_42
      dsimp only
      rw [if_pos (show (5 : Int32) ≤ nI 5 from by decide)]
      exact inrO_s (h2 _)
  have pt : ∀ k, cpM M0 75 75 base 10 5 75 k = if 10 ≤ k ∧ k < 15 then I 75 (base + (k - 10)) else if k = 53 then nI ps else I 75 k := by
    intro k
    unfold cpM
    rw [upA_self, ← hM]
    by_cases c : 10 ≤ k ∧ k < 15
    · rw [if_pos c, cpA_in c.1 (by omega), up2_i (by omega)]
    · rw [if_neg c, cpA_out (by omega)]
      by_cases c2 : k = 53
      · rw [if_pos c2, c2, up2_self]
      · rw [if_neg c2, up2_i c2]
  refine ⟨_, h1, fun c hc => ?_, ?_, ?_, fun q hq => ?_, fun p hp2 => ?_, fun p hp2 => ?_, fun k hk hk2 hk3 => ?_⟩
  · rw [up2_cc hc, upA_c hc]
    unfold cpM
    rw [upA_c hc, ← hM, up2_cc hc]
  · rw [up2_i (by omega), upA_self]
    unfold cp2
    rw [if_neg (by omega), if_neg (by omega), pt, if_neg (by omega), if_pos rfl]
  · rw [up2_self, pt, if_neg (by omega), if_neg (by omega)]
  · rw [up2_i (by omega), upA_self]
    unfold cp2
    rw [if_neg (by omega), if_neg (by omega), pt, if_pos (by omega)]
    congr 1
    omega
  · rw [up2_i (by omega), upA_self]
    unfold cp2
    rw [if_pos (by omega), pt, if_neg (by omega), if_neg (by omega)]
    congr 1
    omega
  · rw [up2_i (by omega), upA_self]
    unfold cp2
    rw [if_neg (by omega), if_pos (by omega), pt, if_neg (by omega), if_neg (by omega)]
    congr 1
    omega
  · rw [up2_i hk, upA_self]
    unfold cp2
    rw [if_neg (by omega), if_neg (by omega), pt, if_neg (by omega), if_neg hk2]
theorem h57 : ∀ k, k < 54 → ¬ (lo k = 0 ∧ ¬ k = 2 ∧ ¬ k = 53 ∧ (lsl k = 3 ∨ lsl k = 5 ∨ lsl k = 7)) := by decide +kernel
theorem h24 : ∀ k, k < 54 → lo k = 2 ∨ lo k = 4 → (10 ≤ k ∧ k < 15) ∨ (24 ≤ k ∧ k < 28) := by decide +kernel
theorem nth_get (P : Nat → Nat → Prop) (n : Nat) (h : ∀ q, q < n → ∃ m, P q m) : ∃ f : Nat → Nat, ∀ q, q < n → P q (f q) := by
  obtain ⟨m, hm⟩ := Classical.axiomOfChoice (fun r => (by
    by_cases hr2 : r < n
    · obtain ⟨m, h1⟩ := h r hr2
      exact ⟨m, fun _ => h1⟩
    · exact ⟨0, fun q => absurd q hr2⟩ : ∃ m, r < n → P r m))
  exact ⟨m, hm⟩
theorem ok_undo {T : Nat} {I : Mem} (h : Sim T I) : OK T I fX11_undo fX12_undo := by
  obtain ⟨A, w, pw, hc, hv, hb, ⟨g0, g1, g2, g3, g4, g5, g6, g7⟩, gd, gp, hr⟩ := h.get
  have hb' := hb
  unfold BA at hb'
  obtain ⟨b1, b2, b3, b4, b5, b6, b7, b8, b9, b10, b11, b12, b13⟩ := hb'
  have r2 := hr 2 (Or.inl (by decide))
  have r53 := hr 53 (Or.inr (Or.inr rfl))
  by_cases z : A 53 = 0
  · refine ok_no h (-3) ?_ ?_
    · unfold fX11_undo
      rw [g7, z, if_pos (show nI 0 = 0 from rfl), refXn]
      rfl
    · unfold fX12_undo
      rw [chk_t (by decide), show ix (53 : Int32) = 53 from rfl, up0_c (c := 75) (by decide), r53, z, if_pos (show nI 0 = 0 from rfl), refMn]
      rfl
  · obtain ⟨ps, hps⟩ : ∃ ps, A 53 = ps + 1 := ⟨A 53 - 1, by omega⟩
    obtain ⟨J, j1, j2, j3, j4, j5, j6, j7, j8⟩ := goBack_n (b := 1) (ps := ps) (I := I) (by rw [g7, hps]) (by omega)
    have J75 : J 75 = I 75 := j8 75 (by decide) (by decide) (by decide)
    obtain ⟨K, k1, k2, k3, k4, k5, k6, k7, k8⟩ := undoM_n (ps := ps) (I := J) (by rw [J75, r53, hps]) (by omega)
    rw [J75] at k4 k5 k6 k7 k8
    obtain ⟨v1, v2, v3, v4, v5, v6, v7, v8⟩ := hv
    obtain ⟨p1, p2, p3, p4⟩ := v8 ps (by omega)
    obtain ⟨c1, c2, c3⟩ := hc.2.2 ps (by omega)
    have KI : ∀ c, c ≠ 1 → c ≠ 3 → c ≠ 5 → c ≠ 75 → K c = I c := fun c q1 q2 q3 q4 => by rw [k2 c q4, j8 c q1 q2 q3]
    have Kr2 : K 75 2 = nI (A 2 - 1) := by
      obtain ⟨x, hx⟩ : ∃ x, A 2 = x + 1 := ⟨A 2 - 1, by omega⟩
      rw [k4, r2, hx, show x + 1 - 1 = x by omega]
      exact nI_pred x
    have Kh5 : K 1 5 = nI (A 2 - 1) := by
      obtain ⟨x, hx⟩ : ∃ x, A 2 = x + 1 := ⟨A 2 - 1, by omega⟩
      rw [k2 1 (by decide), j3, g5, hx, show x + 1 - 1 = x by omega]
      exact nI_pred x
    obtain ⟨m, hm⟩ := nth_get (fun q m => m ≤ 1000 + 4 * T ∧ I 75 (54 + 13 * ps + q) = nI m) 5 p4
    refine ⟨1, J, K, ?_, k1, ?_⟩
    · unfold fX11_undo
      rw [g7, if_neg (nI_ne0 (by omega) (by omega)), bnd_s j1]
    refine sim_frame h (by omega) ⟨fun k => if k = 2 then A 2 - 1 else if k = 53 then ps else if 10 ≤ k ∧ k < 15 then m (k - 10) else A k, pw ps, pw, ?_, ?_⟩ (fun q _ => by rw [KI 0 (by decide) (by decide) (by decide) (by decide)]) (fun c q1 q2 => KI c (by omega) (by omega) (by omega) (by omega)) (by rw [KI 35 (by decide) (by decide) (by decide) (by decide)]) (KI 36 (by decide) (by decide) (by decide) (by decide)) (by rw [KI 74 (by decide) (by decide) (by decide) (by decide)]) (by rw [KI 74 (by decide) (by decide) (by decide) (by decide)]) (fun k q1 q2 => k8 k (by omega) (by omega) (by omega)) (KI 76 (by decide) (by decide) (by decide) (by decide)) (KI 77 (by decide) (by decide) (by decide) (by decide)) (KI 78 (by decide) (by decide) (by decide) (by decide))
    · have hA44 : (if (44 : Nat) = 2 then A 2 - 1 else if (44 : Nat) = 53 then ps else if 10 ≤ 44 ∧ 44 < 15 then m (44 - 10) else A 44) = A 44 := rfl
      dsimp only
      rw [hA44]
      refine ⟨fun k hk => ?_, ?_, fun j hj => ?_⟩
      · have l54 := SK_lt hk
        have base := hc.at hk
        rw [Nat.zero_add]
        by_cases k2' : k = 2
        · subst k2'; exact Kh5.trans Kr2.symm
        by_cases k53 : k = 53
        · subst k53
          rw [k3]
          show K 1 7 = _
          rw [k2 1 (by decide), j2]
        by_cases k10 : 10 ≤ k ∧ k < 15
        · have e1 := lo_10 (k - 10) (by omega)
          rw [show 10 + (k - 10) = k by omega] at e1
          rw [e1.1, e1.2, show (1 : Nat) + 2 = 3 from rfl, k2 3 (by decide)]
          have := k5 (k - 10) (by omega)
          rw [show 10 + (k - 10) = k by omega] at this
          have e3 := c2 (k - 10) (by omega)
          rw [Nat.zero_add] at e3
          rw [this, ← e3]
          exact j6 (k - 10) (by omega)
        by_cases k24 : 24 ≤ k ∧ k < 28
        · have e1 := lo_24 (k - 24) (by omega)
          rw [show 24 + (k - 24) = k by omega] at e1
          rw [e1.1, e1.2, show (1 : Nat) + 4 = 5 from rfl, k2 5 (by decide)]
          have := k6 (k - 24) (by omega)
          rw [show 24 + (k - 24) = k by omega] at this
          have e3 := c3 (k - 24) (by omega)
          rw [Nat.zero_add] at e3
          rw [this, ← e3]
          exact j7 (k - 24) (by omega)
        · have l6 := lo_6 hk
          rw [k8 k k2' k53 (by unfold SK at hk; omega), ← base]
          by_cases z : lo k = 0
          · rw [z, Nat.add_zero, k2 1 (by decide)]
            exact j5 _ (fun y => h57 k l54 ⟨z, k2', k53, Or.inr (Or.inr y)⟩) (fun y => h57 k l54 ⟨z, k2', k53, Or.inr (Or.inl y)⟩) (fun y => h57 k l54 ⟨z, k2', k53, Or.inl y⟩)
          · rw [KI _ (by omega) (by intro q; have := h24 k l54 (Or.inl (by omega)); omega) (by intro q; have := h24 k l54 (Or.inr (by omega)); omega) (by omega)]
      · rw [k2 1 (by decide), j4, c1]
      · have hj' : j < ps := hj
        obtain ⟨d1, d2, d3⟩ := hc.2.2 j (by omega)
        rw [KI (1 + 7) (by decide) (by decide) (by decide) (by decide)]
        refine ⟨d1, fun q hq => ?_, fun p hp => ?_⟩
        · rw [d2 q hq, k8 _ (by omega) (by omega) (by omega)]
        · rw [d3 p hp, k8 _ (by omega) (by omega) (by omega)]
    · have hWV : ∀ s, WV A s → WV (fun k => if k = 2 then A 2 - 1 else if k = 53 then ps else if 10 ≤ k ∧ k < 15 then m (k - 10) else A k) s := fun s hs2 => hs2
      have hA : ∀ k, k ≠ 2 → k ≠ 53 → (k < 10 ∨ 15 ≤ k) → (if k = 2 then A 2 - 1 else if k = 53 then ps else if 10 ≤ k ∧ k < 15 then m (k - 10) else A k) = A k := fun k q1 q2 q3 => by rw [if_neg q1, if_neg q2, if_neg (by omega)]
      refine ⟨?_, fun k hk => ?_, hWV _ p1, fun p hp => ?_, fun p q1 q2 => ?_, fun i hi => ?_, fun i hi => ?_, fun j hj => ?_⟩
      · refine ⟨b1, b2, b3, ?_, ?_, b6, ?_, b8, fun q hq => ?_, fun q q1 q2 => ?_, fun a c q1 q2 => ?_, fun a q1 => ?_, fun q hq => ?_⟩
        · show ps ≤ A 2 - 1; omega
        · show A 2 - 1 ≤ T + 1; omega
        · show ps ≤ 8; omega
        · dsimp only; rw [hA _ (by omega) (by omega) (by omega)]; exact b9 q hq
        · dsimp only; rw [hA _ (by omega) (by omega) (by omega)]; exact b10 q q1 q2
        · dsimp only; rw [hA (5 + a) (by omega) (by omega) (by omega), hA (5 + c) (by omega) (by omega) (by omega)]; exact b11 a c q1 q2
        · dsimp only; rw [hA _ (by omega) (by omega) (by omega)]; exact b12 a q1
        · dsimp only; rw [if_neg (by omega), if_neg (by omega), if_pos (by omega), show 10 + q - 10 = q by omega]; have := (hm q hq).1; omega
      · dsimp only
        rw [Nat.zero_add]
        by_cases k2' : k = 2
        · rw [if_pos k2', k2']; exact Kr2
        · rw [if_neg k2']
          by_cases k53 : k = 53
          · rw [if_pos k53, k53]; exact k3
          · rw [if_neg k53]
            by_cases k10 : 10 ≤ k ∧ k < 15
            · rw [if_pos k10]
              have := k5 (k - 10) (by omega)
              rw [show 10 + (k - 10) = k by omega] at this
              rw [this]
              exact (hm (k - 10) (by omega)).2
            · rw [if_neg k10, k8 k k2' k53 (by omega)]
              exact hr k hk
      · have hp' : p < A 3 := hp
        dsimp only; rw [Nat.zero_add, k7 p (by omega)]; exact p2 p hp'
      · have q1' : A 3 ≤ p := q1
        dsimp only; rw [Nat.zero_add, k6 p q2]; exact p3 p q1' q2
      · dsimp only; rw [Nat.zero_add, k8 _ (by omega) (by omega) (by omega)]; exact v6 i hi
      · have hi' : i < A 44 := hi
        dsimp only; rw [Nat.zero_add, k8 _ (by omega) (by omega) (by omega)]; exact v7 i hi'
      · have hj' : j < ps := hj
        obtain ⟨d1, d2, d3, d4⟩ := v8 j (by omega)
        refine ⟨hWV _ d1, fun p hp => ?_, fun p q1 q2 => ?_, fun q hq => ?_⟩
        · have hp' : p < A 3 := hp
          dsimp only; rw [Nat.zero_add, k8 _ (by omega) (by omega) (by omega)]; exact d2 p hp'
        · have q1' : A 3 ≤ p := q1
          dsimp only; rw [Nat.zero_add, k8 _ (by omega) (by omega) (by omega)]; exact d3 p q1' q2
        · obtain ⟨mm, z1, z2⟩ := d4 q hq
          exact ⟨mm, by omega, by dsimp only; rw [Nat.zero_add, k8 _ (by omega) (by omega) (by omega)]; exact z2⟩
