/-! ===== a standing that is told ===== -/
def stdB (np n : Nat) (x : Int32) : Bool := decide (0 ≤ x.toInt ∧ x.toInt < ((8 ^ np : Nat) : Int)) && allB (fun p => decide (dg x.toInt.toNat p < n)) np
theorem pow8_le {np : Nat} (h : np ≤ 4) : 8 ^ np ≤ 4096 := by
  have h2 : (8 : Nat) ^ np ≤ 8 ^ 4 := Nat.pow_le_pow_right (by decide) h
  omega
theorem nI_back {x : Int32} (h : 0 ≤ x.toInt) : x = nI x.toInt.toNat := by
  apply Int32.toInt_inj.mp
  have h2 := Int32.toInt_lt x
  rw [nI_toInt (by omega)]
  omega
theorem stdX {np n : Nat} {I : Mem} (x : Int32) (h0 : I 1 0 = nI n) (hn : n ≤ 5) (h2 : I 1 2 = nI np) (hnp : np ≤ 4) : fX11_isStanding x I = some (b2i (stdB np n x)) := by
  have h8 := pow8_le hnp
  unfold fX11_isStanding stdB
  by_cases c : x < 0
  · rw [if_pos c, decide_eq_false (by rw [x_lt, n_toInt0] at c; omega)]
    rfl
  · rw [if_neg c]
    rw [x_lt, n_toInt0] at c
    have hx := nI_back (x := x) (by omega)
    have hb := Int32.toInt_lt x
    generalize hs : x.toInt.toNat = s at hx ⊢
    have hsi : x.toInt = (s : Int) := by omega
    rw [hsi, hx, h2, show (3 : Int32) = nI 3 from rfl, pk_mul, n_shr (by omega) (by omega), Nat.pow_mul, show (2 : Nat) ^ 3 = 8 from rfl]
    by_cases c2 : s < 8 ^ np
    · rw [Nat.div_eq_of_lt c2, if_pos (show nI 0 = 0 from rfl), decide_eq_true (by omega), Bool.true_and]
      refine iter_allF _ np (FU_lt (by omega)) (fun i hi => ?_) ?_
      · unfold sX11_isStanding_22 bX11_isStanding_22
        have hd := dg_lt s i
        rw [h2, if_neg (by rw [nI_leI (by omega) (by omega)]; omega), bnd_s (roomOf_n I (by omega) (by omega)), h0, nI_1]
        by_cases e : dg s i < n
        · rw [if_pos (nI_lt e (by omega)), if_pos (decide_eq_true e)]
        · rw [if_neg (nI_nlt (by omega) (by omega)), if_neg (by rw [decide_eq_true_iff]; exact e)]
      · unfold sX11_isStanding_22 bX11_isStanding_22
        rw [h2, if_pos (by rw [nI_leI (by omega) (by omega)]; omega)]
    · have hpos : 0 < s / 8 ^ np := Nat.div_pos (by omega) (Nat.pow_pos (by decide))
      have hle := Nat.div_le_self s (8 ^ np)
      rw [if_neg (nI_ne0 hpos (by omega)), decide_eq_false (by omega)]
      rfl
theorem stdM {np n : Nat} {I : Mem} (x : Int32) (h0 : I 75 0 = nI n) (hn : n ≤ 5) (h2 : I 75 3 = nI np) (hnp : np ≤ 4) : fX12_isStanding x I = some (b2i (stdB np n x)) := by
  have h8 := pow8_le hnp
  have hpos : 0 < 8 ^ np := Nat.pow_pos (by decide)
  unfold fX12_isStanding stdB
  rw [chk_t (by decide), show ix (3 : Int32) = 3 from rfl, h2, show (3 : Int32) = nI 3 from rfl, pk_mul, n_one (by omega), Nat.pow_mul, show (2 : Nat) ^ 3 = 8 from rfl, bnd_s (in_i _ _ _ I), i64_toInt, i64_toInt, n_m1 (by omega), show (0 : Int64).toInt = 0 from rfl]
  have ed : decide (0 ≤ x.toInt ∧ x.toInt ≤ ((8 ^ np : Nat) : Int) - 1) = decide (0 ≤ x.toInt ∧ x.toInt < ((8 ^ np : Nat) : Int)) := by
    rw [decide_eq_decide]; omega
  rw [ed]
  generalize hc : decide (0 ≤ x.toInt ∧ x.toInt < ((8 ^ np : Nat) : Int)) = c
  have e0 : (b2i c, (0 : Int32)) = (fun i => (b2i (c && allB (fun p => decide (dg x.toInt.toNat p < n)) i), nI i)) 0 := by
    show _ = (b2i (c && true), nI 0)
    rw [Bool.and_true]
    rfl
  rw [e0]
  refine iter_go (fun i => (b2i (c && allB (fun p => decide (dg x.toInt.toNat p < n)) i), nI i)) np (FU_lt (by omega)) ?_ (fun i hi => ?_)
  · unfold sX12_isStanding_22 bX12_isStanding_22
    rw [chk_t (by decide), show ix (3 : Int32) = 3 from rfl, h2]
    dsimp only
    rw [if_pos (by rw [nI_leI (by omega) (by omega)]; omega), chk_t (b2i_zb _)]
  · unfold sX12_isStanding_22 bX12_isStanding_22
    rw [chk_t (by decide), show ix (3 : Int32) = 3 from rfl, h2]
    dsimp only
    rw [if_neg (by rw [nI_leI (by omega) (by omega)]; omega), allB, nI_1]
    by_cases c1 : (c && allB (fun p => decide (dg x.toInt.toNat p < n)) i) = true
    · rw [c1, if_neg (by decide), ← Bool.and_assoc, c1, Bool.true_and]
      rw [Bool.and_eq_true] at c1
      rw [c1.1, decide_eq_true_iff] at hc
      have hx := nI_back (x := x) (by omega)
      have hb := Int32.toInt_lt x
      have hd := dg_lt x.toInt.toNat i
      have er : fX12_roomIn x (nI i) I = some (nI (dg x.toInt.toNat i)) := by
        have := roomIn_n (s := x.toInt.toNat) (p := i) I (by omega) (by omega)
        rwa [← hx] at this
      rw [bnd_s er, bnd_s (isRoomM _ h0 (by omega)), nI_toInt (by omega)]
      have e9 : decide ((0 : Int) ≤ (dg x.toInt.toNat i : Int) ∧ (dg x.toInt.toNat i : Int) < (n : Int)) = decide (dg x.toInt.toNat i < n) := by
        rw [decide_eq_decide]; omega
      rw [e9]
      cases decide (dg x.toInt.toNat i < n) <;> rfl
    · have c2 : (c && allB (fun p => decide (dg x.toInt.toNat p < n)) i) = false := by simpa using c1
      rw [c2, ← Bool.and_assoc, c2]
      rfl
theorem std_get {A : Nat → Nat} {x : Int32} (h : stdB (A 3) (A 0) x = true) (hp : A 3 ≤ 4) : ∃ s, x = nI s ∧ WV A s := by
  unfold stdB at h
  rw [Bool.and_eq_true, decide_eq_true_iff, allB_iff] at h
  refine ⟨x.toInt.toNat, nI_back h.1.1, by have := h.1; omega, fun p hp2 => ?_⟩
  have := h.2 p hp2
  rwa [decide_eq_true_iff] at this
theorem dg_big {s np p : Nat} (h : s < 8 ^ np) (hp : np ≤ p) : dg s p = 0 := by
  unfold dg
  rw [Nat.div_eq_of_lt (Nat.lt_of_lt_of_le h (Nat.pow_le_pow_right (by decide) hp))]
theorem WV.dg {A : Nat → Nat} {s : Nat} (h : WV A s) (h0 : 1 ≤ A 0) (p : Nat) : dg s p < A 0 := by
  by_cases q : p < A 3
  · exact h.2 p q
  · rw [dg_big h.1 (by omega)]; omega
/-! ===== scrap, plan, judge ===== -/
theorem CV.less {I : Mem} {b o pl pl2 ps ps2 w : Nat} {pw : Nat → Nat} (h : CV I b o pl ps w pw) (hl : pl2 ≤ pl) (hs : ps2 ≤ ps) : CV I b o pl2 ps2 w pw := by
  refine ⟨fun k hk => h.1 k ?_, h.2.1, fun j hj => h.2.2 j (by omega)⟩
  unfold SK at hk ⊢
  omega
theorem BA.set44 {T : Nat} {A : Nat → Nat} {a : Nat} (h : BA T A) (ha : a ≤ 8) : BA T (updN A 44 a) := by
  unfold BA at h ⊢
  rw [updN_s]
  simp only [updN_n (show (0 : Nat) ≠ 44 by decide), updN_n (show (1 : Nat) ≠ 44 by decide), updN_n (show (2 : Nat) ≠ 44 by decide), updN_n (show (3 : Nat) ≠ 44 by decide), updN_n (show (4 : Nat) ≠ 44 by decide), updN_n (show (53 : Nat) ≠ 44 by decide)]
  obtain ⟨c1, c2, c3, c4, c5, c6, c7, c8, c9, d1, d2, d3, d4⟩ := h
  have e5 : ∀ q, q < 5 → updN A 44 a (5 + q) = A (5 + q) := fun q hq => updN_n (by omega)
  refine ⟨c1, c2, c3, c4, c5, ha, c7, c8, fun q hq => ?_, fun q hq hq2 => ?_, fun x y hx hy => ?_, fun x hx => ?_, fun q hq => ?_⟩
  · rw [e5 q hq]; exact c9 q hq
  · rw [e5 q hq2]; exact d1 q hq hq2
  · rw [e5 x hx, e5 y hy]; exact d2 x y hx hy
  · rw [e5 x hx]; exact d3 x hx
  · rw [updN_n (by omega)]; exact d4 q hq
/-- the plan is made shorter or longer: its number, and perhaps a place at its end -/
theorem VR.set44 {T : Nat} {r r2 : Nat → Int32} {A : Nat → Nat} {w : Nat} {pw : Nat → Nat} {a : Nat} (h : VR T r A w pw) (ha : a ≤ 8) (h44 : r2 44 = nI a) (hr : ∀ k, k ≠ 44 → (k < 45 ∨ 53 ≤ k) → r2 k = r k) (hp : ∀ i, i < a → ∃ s, r2 (45 + i) = nI s ∧ s < 4096 ∧ ∀ p, p < 4 → dg s p < A 0) : VR T r2 (updN A 44 a) w pw := by
  obtain ⟨a1, a2, a3, a4, a5, a6, a7, a8⟩ := h
  have hb : A 3 ≤ 4 := by unfold BA at a1; omega
  have e0 : updN A 44 a 0 = A 0 := updN_n (by decide)
  have e3 : updN A 44 a 3 = A 3 := updN_n (by decide)
  have e53 : updN A 44 a 53 = A 53 := updN_n (by decide)
  have ew : ∀ s, WV A s → WV (updN A 44 a) s := fun s hs => by unfold WV; rw [e0, e3]; exact hs
  refine ⟨a1.set44 ha, fun k hk => ?_, ew w a3, fun p hp2 => ?_, fun p q1 q2 => ?_, fun i hi => ?_, fun i hi => ?_, fun j hj => ?_⟩
  · by_cases q : k = 44
    · rw [q, updN_s]; exact h44
    · rw [hr k q (by omega), updN_n q]; exact a2 k hk
  · rw [e3] at hp2
    rw [hr _ (by omega) (by omega)]; exact a4 p hp2
  · rw [e3] at q1
    rw [hr _ (by omega) (by omega)]; exact a5 p q1 q2
  · rw [hr _ (by omega) (by omega), e0]; exact a6 i hi
  · rw [updN_s] at hi
    rw [e0]
    exact hp i hi
  · rw [e53] at hj
    obtain ⟨b1, b2, b3, b4⟩ := a8 j hj
    rw [e3]
    exact ⟨ew _ b1, fun p hp2 => by rw [hr _ (by omega) (by omega)]; exact b2 p hp2, fun p q1 q2 => by rw [hr _ (by omega) (by omega)]; exact b3 p q1 q2, fun q hq => by rw [hr _ (by omega) (by omega)]; exact b4 q hq⟩
theorem ok_scrap {T : Nat} {I : Mem} (h : Sim T I) : OK T I fX11_scrap fX12_scrap := by
  obtain ⟨A, w, pw, hc, hv, hb, ⟨g0, g1, g2, g3, g4, g5, g6, g7⟩, gd, gp, hr⟩ := h.get
  refine ⟨I 1 6, up2 I 1 6 0, up2 (up2 I 1 6 0) 75 44 0, rfl, ?_, ?_⟩
  · unfold fX12_scrap
    rw [chk_t (by decide), show ix (44 : Int32) = 44 from rfl]
    dsimp only [letb]
    rw [chk_t (by decide), up2_c (a := 75) (by decide), hr 44 (Or.inr (Or.inl rfl)), g6]
  · have hcs := (hc.set (k0 := 44) (v := 0) (Or.inr (Or.inl (by decide))) (by decide)).less (pl2 := 0) (ps2 := A 53) (by omega) (by omega)
    rw [Nat.zero_add] at hcs
    have e : ∀ c, c ≠ 1 → c ≠ 75 → up2 (up2 I 1 6 0) 75 44 0 c = I c := fun c h0 h1 => by rw [up2_cc h1, up2_cc h0]
    have e75 : ∀ k, k ≠ 44 → up2 (up2 I 1 6 0) 75 44 0 75 k = I 75 k := fun k hk => by rw [up2_i hk, up2_c (by decide)]
    refine sim_frame h (by omega) ⟨updN A 44 0, w, pw, ?_, ?_⟩ (fun q _ => by rw [e 0 (by decide) (by decide)]) (fun c _ _ => e c (by omega) (by omega)) (by rw [e 35 (by decide) (by decide)]) (e _ (by decide) (by decide)) (by rw [e 74 (by decide) (by decide)]) (by rw [e 74 (by decide) (by decide)]) (fun k _ _ => e75 k (by omega)) (e _ (by decide) (by decide)) (e _ (by decide) (by decide)) (e _ (by decide) (by decide))
    · rw [updN_s, updN_n (by decide)]; exact hcs
    · refine (hv.mono (T2 := T + 1) (by omega)).set44 (by decide) ?_ (fun k hk _ => ?_) (fun i hi => absurd hi (by omega))
      · rw [Nat.zero_add, up2_self]; rfl
      · rw [Nat.zero_add]; exact e75 k hk
