/-! ===== a house that is told anew ===== -/
def HX (b : Nat) (J : Mem) (A : Nat → Nat) (w : Nat) (W : Nat → Int32) : Prop :=
  (J b 0 = nI (A 0) ∧ J b 1 = nI (A 4) ∧ J b 2 = nI (A 3) ∧ J b 3 = nI w ∧ J b 4 = nI (A 1) ∧ J b 5 = 0 ∧ J b 6 = 0 ∧ J b 7 = 0) ∧ (∀ q, q < 5 → J (b + 1) q = nI (A (5 + q))) ∧ (∀ q, q < 5 → J (b + 2) q = nI (A (10 + q))) ∧ (∀ q, q < 5 → J (b + 3) q = 0) ∧ (∀ p, p < 4 → J (b + 4) p = 0) ∧ ∀ i, i < 16 → J (b + 5) i = W i
def HM (K : Mem) (A : Nat → Nat) (w : Nat) (W : Nat → Int32) : Prop :=
  (∀ k, k < 15 → K 75 k = nI (A k)) ∧ (∀ q, q < 5 → K 75 (15 + q) = 0) ∧ (∀ p, p < A 3 → K 75 (20 + p) = nI (dg w p)) ∧ (∀ p, p < 4 → K 75 (24 + p) = 0) ∧ (∀ i, i < 16 → K 75 (28 + i) = W i) ∧ K 75 44 = 0 ∧ K 75 53 = 0
def GH (A : Nat → Nat) (w : Nat) (W : Nat → Int32) : Prop :=
  (1 ≤ A 0 ∧ A 0 ≤ 5) ∧ A 1 ≤ 4 ∧ A 3 ≤ 4 ∧ A 2 = 0 ∧ A 44 = 0 ∧ A 53 = 0 ∧ A 4 < 2 ^ A 0 ∧ (∀ q, q < 5 → A (5 + q) < 2 ^ A 0) ∧ (∀ q, A 0 ≤ q → q < 5 → A (5 + q) = 0) ∧ (∀ a b, a < 5 → b < 5 → (A (5 + a)).testBit b = (A (5 + b)).testBit a) ∧ (∀ a, a < 5 → (A (5 + a)).testBit a = false) ∧ (∀ q, q < 5 → A (10 + q) ≤ 999) ∧ WV A w ∧ ∀ i, i < 16 → W i = -1 ∨ ∃ q, q < A 0 ∧ W i = nI q
theorem hs_told {T : Nat} {K : Mem} {A : Nat → Nat} {w : Nat} {W : Nat → Int32} (hx : HX 1 K A w W) (hm : HM K A w W) (hg : GH A w W) : HS T K 1 0 := by
  obtain ⟨⟨x0, x1, x2, x3, x4, x5, x6, x7⟩, xd, xp, xt, xu, xw⟩ := hx
  obtain ⟨m0, mt, ma, mu, mw, m44, m53⟩ := hm
  obtain ⟨a1, a2, a3, a4, a5, a6, a7, a8, a9, a10, a11, a12, a13, a14⟩ := hg
  refine ⟨A, w, fun _ => 0, ⟨fun k hk => ?_, x3, fun j hj => by omega⟩, ⟨a1, a2, a3, by omega, by omega, by omega, by omega, a7, a8, a9, a10, a11, fun q hq => by have := a12 q hq; omega⟩, fun k hk => ?_, a13, fun p hp => ?_, fun p q1 q2 => ?_, fun i hi => ?_, fun i hi => by omega, fun j hj => by omega⟩
  · rw [Nat.zero_add]
    have l54 := SK_lt hk
    rw [a5] at hk
    by_cases c5 : k < 5
    · rcases (show k = 0 ∨ k = 1 ∨ k = 2 ∨ k = 3 ∨ k = 4 by omega) with rfl | rfl | rfl | rfl | rfl
      · exact x0.trans (m0 0 (by decide)).symm
      · exact x4.trans (m0 1 (by decide)).symm
      · refine x5.trans ?_
        rw [m0 2 (by decide), a4]
        rfl
      · exact x2.trans (m0 3 (by decide)).symm
      · exact x1.trans (m0 4 (by decide)).symm
    by_cases c10 : k < 10
    · obtain ⟨q, rfl⟩ : ∃ q, k = 5 + q := ⟨k - 5, by omega⟩
      rw [(lo_5 q (by omega)).1, (lo_5 q (by omega)).2, m0 _ (by omega)]
      exact xd q (by omega)
    by_cases c15 : k < 15
    · obtain ⟨q, rfl⟩ : ∃ q, k = 10 + q := ⟨k - 10, by omega⟩
      rw [(lo_10 q (by omega)).1, (lo_10 q (by omega)).2, m0 _ (by omega)]
      exact xp q (by omega)
    by_cases c20 : k < 20
    · obtain ⟨q, rfl⟩ : ∃ q, k = 15 + q := ⟨k - 15, by omega⟩
      rw [(lo_15 q (by omega)).1, (lo_15 q (by omega)).2, mt q (by omega)]
      exact xt q (by omega)
    by_cases c28 : k < 28
    · have : 24 ≤ k := by unfold SK at hk; omega
      obtain ⟨q, rfl⟩ : ∃ q, k = 24 + q := ⟨k - 24, by omega⟩
      rw [(lo_24 q (by omega)).1, (lo_24 q (by omega)).2, mu q (by omega)]
      exact xu q (by omega)
    by_cases c44 : k < 44
    · obtain ⟨q, rfl⟩ : ∃ q, k = 28 + q := ⟨k - 28, by omega⟩
      rw [(lo_28 q (by omega)).1, (lo_28 q (by omega)).2, mw q (by omega)]
      exact xw q (by omega)
    · rcases (show k = 44 ∨ k = 53 by unfold SK at hk; omega) with rfl | rfl
      · exact x6.trans m44.symm
      · exact x7.trans m53.symm
  · dsimp only
    rw [Nat.zero_add]
    by_cases c : k < 15
    · exact m0 k c
    · rcases (show k = 44 ∨ k = 53 by omega) with rfl | rfl
      · rw [m44, a5]; rfl
      · rw [m53, a6]; rfl
  · dsimp only; rw [Nat.zero_add]; exact ma p hp
  · dsimp only; rw [Nat.zero_add]; exact mu p q2
  · dsimp only; rw [Nat.zero_add, mw i hi]; exact a14 i hi
/-! ===== empty ===== -/
def flA (f : Nat → Int32) (v : Int32) (i : Nat) : Nat → Int32 := fun k => if k < i then v else f k
theorem flA_s (f : Nat → Int32) (v : Int32) (i : Nat) : upd (flA f v i) i v = flA f v (i + 1) := by
  funext k
  by_cases c : k = i
  · rw [show upd (flA f v i) i v k = v from if_pos c]
    unfold flA
    rw [if_pos (by omega)]
  · rw [show upd (flA f v i) i v k = flA f v i k from if_neg c]
    unfold flA
    by_cases c2 : k < i
    · rw [if_pos c2, if_pos (by omega)]
    · rw [if_neg c2, if_neg (by omega)]
theorem fill_n {a N : Nat} {v : Int32} {I : Mem} (hl : ln a = N) (hN : N < 100000) : fJ7_fill_53178 a v I = some (upA I a (flA (I a) v N)) := by
  unfold fJ7_fill_53178
  dsimp only [letb]
  have e0 : ((0 : Int32), I) = (fun i => (nI i, upA I a (flA (I a) v i))) 0 := by
    show _ = (nI 0, upA I a (flA (I a) v 0))
    have : flA (I a) v 0 = I a := by
      funext k
      exact if_neg (by omega)
    rw [this, upA_same]
    rfl
  rw [e0, hl]
  refine iter_go (fun i => (nI i, upA I a (flA (I a) v i))) N (FU_lt (by omega)) ?_ (fun i hi => ?_)
  · unfold sJ7_fill_53178_5 bJ7_fill_53178_5
    dsimp only
    rw [if_pos (by rw [nI_leI (by omega) (by omega)]; omega)]
  · unfold sJ7_fill_53178_5 bJ7_fill_53178_5
    dsimp only
    rw [if_neg (by rw [nI_leI (by omega) (by omega)]; omega), hl, chk_t (inb_n hi (by omega)), ix_n (by omega), nI_1]
    dsimp only [letb]
    rw [up2_upA, flA_s]
theorem empty_n {b : Nat} {x : Int32} (I : Mem) (l1 : ln (b + 1) = 5) (l2 : ln (b + 2) = 5) (l3 : ln (b + 3) = 5) (l4 : ln (b + 4) = 4) (l5 : ln (b + 5) = 16) : ∃ J, fX4_empty b x I = some J ∧ J b 0 = x ∧ (∀ i, 1 ≤ i → i < 8 → J b i = 0) ∧ (∀ q, q < 5 → J (b + 1) q = 0) ∧ (∀ q, q < 5 → J (b + 2) q = 0) ∧ (∀ q, q < 5 → J (b + 3) q = 0) ∧ (∀ q, q < 4 → J (b + 4) q = 0) ∧ (∀ q, q < 16 → J (b + 5) q = -1) ∧ ∀ c, (c < b ∨ b + 5 < c) → J c = I c := by
  unfold fX4_empty
  dsimp only [letb]
  rw [bnd_s (fill_n l1 (by decide)), bnd_s (fill_n l2 (by decide)), bnd_s (fill_n l3 (by decide)), bnd_s (fill_n l4 (by decide)), bnd_s (fill_n l5 (by decide))]
  refine ⟨_, rfl, ?_, fun i h1 h2 => ?_, fun q hq => ?_, fun q hq => ?_, fun q hq => ?_, fun q hq => ?_, fun q hq => ?_, fun c hc => ?_⟩
  · rw [upA_c (by omega), upA_c (by omega), upA_c (by omega), upA_c (by omega), upA_c (by omega), up2_i (by decide), up2_i (by decide), up2_i (by decide), up2_i (by decide), up2_i (by decide), up2_i (by decide), up2_i (by decide), up2_self]
  · rw [upA_c (by omega), upA_c (by omega), upA_c (by omega), upA_c (by omega), upA_c (by omega)]
    by_cases c7 : i = 7
    · rw [c7, up2_self]
    rw [up2_i c7]
    by_cases c6 : i = 6
    · rw [c6, up2_self]
    rw [up2_i c6]
    by_cases c5 : i = 5
    · rw [c5, up2_self]
    rw [up2_i c5]
    by_cases c4 : i = 4
    · rw [c4, up2_self]
    rw [up2_i c4]
    by_cases c3 : i = 3
    · rw [c3, up2_self]
    rw [up2_i c3]
    by_cases c2 : i = 2
    · rw [c2, up2_self]
    rw [up2_i c2, show i = 1 by omega, up2_self]
  · rw [upA_c (by omega), upA_c (by omega), upA_c (by omega), upA_c (by omega), upA_self]
    exact if_pos hq
  · rw [upA_c (by omega), upA_c (by omega), upA_c (by omega), upA_self]
    exact if_pos hq
  · rw [upA_c (by omega), upA_c (by omega), upA_self]
    exact if_pos hq
  · rw [upA_c (by omega), upA_self]
    exact if_pos hq
  · rw [upA_self]
    exact if_pos hq
  · rw [upA_c (by omega), upA_c (by omega), upA_c (by omega), upA_c (by omega), upA_c (by omega), up2_cc (by omega), up2_cc (by omega), up2_cc (by omega), up2_cc (by omega), up2_cc (by omega), up2_cc (by omega), up2_cc (by omega), up2_cc (by omega)]
/-- a row made empty -/
def clA (f : Nat → Int32) (i : Nat) : Nat → Int32 := fun k => if k < i then (if 28 ≤ k ∧ k < 44 then -1 else 0) else f k
theorem clA_s (f : Nat → Int32) (i : Nat) : upd (clA f i) i (if 28 ≤ i ∧ i < 44 then -1 else 0) = clA f (i + 1) := by
  funext k
  by_cases c : k = i
  · rw [show upd (clA f i) i (if 28 ≤ i ∧ i < 44 then -1 else 0) k = (if 28 ≤ i ∧ i < 44 then -1 else 0) from if_pos c]
    unfold clA
    rw [c, if_pos (show i < i + 1 by omega)]
  · rw [show upd (clA f i) i (if 28 ≤ i ∧ i < 44 then -1 else 0) k = clA f i k from if_neg c]
    unfold clA
    by_cases c2 : k < i
    · rw [if_pos c2, if_pos (show k < i + 1 by omega)]
    · rw [if_neg c2, if_neg (show ¬ k < i + 1 by omega)]
theorem clearAll_n {x : Int32} (I : Mem) : ∃ K, fX12_clearAll x I = some K ∧ K 75 0 = x ∧ (∀ k, 1 ≤ k → k < 158 → K 75 k = if 28 ≤ k ∧ k < 44 then -1 else 0) ∧ (∀ k, 158 ≤ k → K 75 k = I 75 k) ∧ ∀ c, c ≠ 75 → K c = I c := by
  have key : fX12_clearAll x I = some (up2 (upA I 75 (clA (I 75) 158)) 75 0 x) := by
    unfold fX12_clearAll
    have e0 : ((0 : Int32), I) = (fun i => (nI i, upA I 75 (clA (I 75) i))) 0 := by
      show _ = (nI 0, upA I 75 (clA (I 75) 0))
      have : clA (I 75) 0 = I 75 := by
        funext k
        exact if_neg (by omega)
      rw [this, upA_same]
      rfl
    rw [e0]
    refine iter_go (fun i => (nI i, upA I 75 (clA (I 75) i))) 158 (FU_lt (by decide)) ?_ (fun i hi => ?_)
    · unfold sX12_clearAll_2 bX12_clearAll_2
      dsimp only
      rw [if_pos (show (158 : Int32) ≤ nI 158 by decide), chk_t (by decide)]
      rfl
    · unfold sX12_clearAll_2 bX12_clearAll_2
      dsimp only
      rw [if_neg (show ¬ (158 : Int32) ≤ nI i from nI_ge (b := 158) hi (by decide)), nI_1]
      by_cases c : 28 ≤ i ∧ i < 44
      · rw [bnd_s (in_t (lo := 28) (hi := 43) rfl rfl c.1 (by omega) (by omega)), if_neg (by decide), chk_t (inb_n (by omega) (by decide)), ix_n (by omega)]
        dsimp only [letb]
        rw [up2_upA]
        have := clA_s (I 75) i
        rw [if_pos c] at this
        rw [this]
      · rw [bnd_s (in_f (lo := 28) (hi := 43) rfl rfl (by rw [nI_toInt (by omega)]; omega)), if_pos (by decide), chk_t (inb_n (by omega) (by decide)), ix_n (by omega)]
        dsimp only [letb]
        rw [up2_upA]
        have := clA_s (I 75) i
        rw [if_neg c] at this
        rw [this]
  refine ⟨_, key, up2_self .., fun k h1 h2 => ?_, fun k hk => ?_, fun c hc => ?_⟩
  · rw [up2_i (by omega), upA_self]
    exact if_pos h2
  · rw [up2_i (by omega), upA_self]
    exact if_neg (by omega)
  · rw [up2_cc hc, upA_c hc]
def newA (n : Nat) : Nat → Nat := fun k => if k = 0 then n else 0
theorem newA_0 (n : Nat) : newA n 0 = n := rfl
theorem newA_s {n k : Nat} (h : 1 ≤ k) : newA n k = 0 := if_neg (by omega)
theorem gh_new {n : Nat} (h1 : 1 ≤ n) (h5 : n ≤ 5) : GH (newA n) 0 (fun _ => -1) := by
  refine ⟨⟨h1, h5⟩, ?_, ?_, ?_, ?_, ?_, ?_, fun q hq => ?_, fun q _ hq => ?_, fun a c ha hc => ?_, fun a ha => ?_, fun q hq => ?_, ⟨?_, fun p hp => ?_⟩, fun i hi => Or.inl rfl⟩
  · rw [newA_s (by decide)]; omega
  · rw [newA_s (by decide)]; omega
  · rw [newA_s (by decide)]
  · rw [newA_s (by decide)]
  · rw [newA_s (by decide)]
  · rw [newA_s (by decide)]; exact Nat.pow_pos (by decide)
  · rw [newA_s (by omega)]; exact Nat.pow_pos (by decide)
  · rw [newA_s (by omega)]
  · rw [newA_s (by omega), newA_s (by omega), Nat.zero_testBit, Nat.zero_testBit]
  · rw [newA_s (by omega), Nat.zero_testBit]
  · rw [newA_s (by omega)]; omega
  · exact Nat.pow_pos (by decide)
  · rw [newA_s (by decide)] at hp; omega
theorem empty_hx {b n : Nat} (I : Mem) (hb : b = 1 ∨ b = 9) : ∃ J, fX4_empty b (nI n) I = some J ∧ HX b J (newA n) 0 (fun _ => -1) ∧ ∀ c, (c < b ∨ b + 5 < c) → J c = I c := by
  have hl : ln (b + 1) = 5 ∧ ln (b + 2) = 5 ∧ ln (b + 3) = 5 ∧ ln (b + 4) = 4 ∧ ln (b + 5) = 16 := by
    rcases hb with rfl | rfl <;> decide +kernel
  obtain ⟨J, j1, j2, j3, j4, j5, j6, j7, j8, j9⟩ := empty_n (b := b) (x := nI n) I hl.1 hl.2.1 hl.2.2.1 hl.2.2.2.1 hl.2.2.2.2
  refine ⟨J, j1, ⟨⟨j2, ?_, ?_, ?_, ?_, j3 5 (by decide) (by decide), j3 6 (by decide) (by decide), j3 7 (by decide) (by decide)⟩, fun q hq => ?_, fun q hq => ?_, j6, j7, j8⟩, j9⟩
  · rw [newA_s (by decide)]; exact j3 1 (by decide) (by decide)
  · rw [newA_s (by decide)]; exact j3 2 (by decide) (by decide)
  · exact j3 3 (by decide) (by decide)
  · rw [newA_s (by decide)]; exact j3 4 (by decide) (by decide)
  · rw [newA_s (by omega)]; exact j4 q hq
  · rw [newA_s (by omega)]; exact j5 q hq
theorem clear_hm {n : Nat} (I : Mem) : ∃ K, fX12_clearAll (nI n) I = some K ∧ HM K (newA n) 0 (fun _ => -1) ∧ (∀ k, 158 ≤ k → K 75 k = I 75 k) ∧ ∀ c, c ≠ 75 → K c = I c := by
  obtain ⟨K, k1, k2, k3, k4, k5⟩ := clearAll_n (x := nI n) I
  refine ⟨K, k1, ⟨fun k hk => ?_, fun q hq => ?_, fun p hp => ?_, fun p hp => ?_, fun i hi => ?_, ?_, ?_⟩, k4, k5⟩
  · by_cases c : k = 0
    · rw [c]; exact k2
    · rw [newA_s (by omega), k3 k (by omega) (by omega), if_neg (by omega)]; rfl
  · rw [k3 _ (by omega) (by omega), if_neg (by omega)]
  · rw [newA_s (by decide)] at hp; omega
  · rw [k3 _ (by omega) (by omega), if_neg (by omega)]
  · rw [k3 _ (by omega) (by omega), if_pos (by omega)]
  · rw [k3 _ (by omega) (by omega), if_neg (by omega)]
  · rw [k3 _ (by omega) (by omega), if_neg (by omega)]
theorem HX.congr {b : Nat} {J K : Mem} {A : Nat → Nat} {w : Nat} {W : Nat → Int32} (h : HX b J A w W) (e : ∀ c, b ≤ c → c ≤ b + 5 → K c = J c) : HX b K A w W := by
  unfold HX
  rw [e b (by omega) (by omega), e (b + 1) (by omega) (by omega), e (b + 2) (by omega) (by omega), e (b + 3) (by omega) (by omega), e (b + 4) (by omega) (by omega), e (b + 5) (by omega) (by omega)]
  exact h
theorem ok_rooms {T : Nat} {I : Mem} (h : Sim T I) (x1 : Int32) : OK T I (fX11_rooms x1) (fX12_rooms x1) := by
  obtain ⟨A, w, pw, hc, hv, hb, ⟨g0, g1, g2, g3, g4, g5, g6, g7⟩, gd, gp, hr⟩ := h.get
  have r0 := hr 0 (Or.inl (by decide))
  rcases rng x1 1 5 (by decide) with ⟨n, h1, h2, rfl⟩ | hf
  · obtain ⟨J, j1, j2, j3⟩ := empty_hx (b := 1) (n := n) I (Or.inl rfl)
    obtain ⟨K, k1, k2, k3, k4⟩ := clear_hm (n := n) J
    refine ⟨nI (A 0), J, K, ?_, ?_, ?_⟩
    · unfold fX11_rooms
      rw [if_neg (show ¬ nI n < 1 from nI_nlt (b := 1) h1 (by omega)), if_pos (show nI n ≤ 5 by rw [show (5 : Int32) = nI 5 from rfl, nI_leI (by omega) (by omega)]; exact h2)]
      dsimp only [letb]
      rw [bnd_s j1, g0]
    · unfold fX12_rooms
      rw [bnd_s (in_t (lo := 1) (hi := 5) rfl rfl h1 h2 (by omega)), if_neg (by decide), chk_t (by decide)]
      dsimp only [letb]
      rw [bnd_s k1, show ix (0 : Int32) = 0 from rfl, j3 75 (by omega), r0]
    · have e : ∀ c, 6 < c → c ≠ 75 → K c = I c := fun c q1 q2 => by rw [k4 c q2, j3 c (by omega)]
      refine sim_frame h (by omega) (hs_told (j2.congr (fun c q1 q2 => k4 c (by omega))) k2 (gh_new h1 h2)) (fun q _ => by rw [k4 0 (by decide), j3 0 (by omega)]) (fun c q1 q2 => e c (by omega) (by omega)) (by rw [e 35 (by decide) (by decide)]) (e _ (by decide) (by decide)) (by rw [e 74 (by decide) (by decide)]) (by rw [e 74 (by decide) (by decide)]) (fun k q1 q2 => by rw [k3 k q1, j3 75 (by omega)]) (e _ (by decide) (by decide)) (e _ (by decide) (by decide)) (e _ (by decide) (by decide))
  · refine ok_bad h (-2) ?_ ?_
    · unfold fX11_rooms
      by_cases c : x1 < 1
      · rw [if_pos c]; rfl
      · rw [if_neg c, if_neg (by rw [x_le, show (5 : Int32).toInt = 5 from rfl]; rw [x_lt, show (1 : Int32).toInt = 1 from rfl] at c; omega)]; rfl
    · unfold fX12_rooms
      rw [bnd_s (in_f (lo := 1) (hi := 5) rfl rfl hf), if_pos (by decide), refM]
      rfl
