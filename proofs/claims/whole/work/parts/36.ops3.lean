theorem lo_5 : ∀ q, q < 5 → lo (5 + q) = 1 ∧ lsl (5 + q) = q := by decide +kernel
theorem lo_10 : ∀ q, q < 5 → lo (10 + q) = 2 ∧ lsl (10 + q) = q := by decide +kernel
theorem lo_15 : ∀ q, q < 5 → lo (15 + q) = 3 ∧ lsl (15 + q) = q := by decide +kernel
theorem lo_24 : ∀ q, q < 4 → lo (24 + q) = 4 ∧ lsl (24 + q) = q := by decide +kernel
theorem lo_28 : ∀ q, q < 16 → lo (28 + q) = 5 ∧ lsl (28 + q) = q := by decide +kernel
theorem lo_45 : ∀ q, q < 8 → lo (45 + q) = 6 ∧ lsl (45 + q) = q := by decide +kernel
theorem CV.at {I : Mem} {b pl ps w : Nat} {pw : Nat → Nat} (h : CV I b 0 pl ps w pw) {k : Nat} (hk : SK pl k) : I (b + lo k) (lsl k) = I 75 k := by have := h.1 k hk; rwa [Nat.zero_add] at this
theorem in_t {a c : Int64} {lo hi k : Nat} {I : Mem} (ha : a.toInt = lo) (hc : c.toInt = hi) (h1 : lo ≤ k) (h2 : k ≤ hi) (hk : k < 2 ^ 31) : fX12_in (nI k).toInt64 a c I = some 1 := by
  rw [in_i, i64_toInt, nI_toInt hk, ha, hc, decide_eq_true (by omega)]
  rfl
theorem in_f {a c : Int64} {lo hi : Nat} {x : Int32} {I : Mem} (ha : a.toInt = lo) (hc : c.toInt = hi) (h : ¬ ((lo : Int) ≤ x.toInt ∧ x.toInt ≤ hi)) : fX12_in x.toInt64 a c I = some 0 := by
  rw [in_i, i64_toInt, ha, hc, decide_eq_false h]
  rfl
/-! ===== lay, spy, law, sill ===== -/
theorem BA.set1 {T : Nat} {A : Nat → Nat} {a : Nat} (h : BA T A) (ha : a ≤ 4) : BA T (updN A 1 a) := by
  unfold BA at h ⊢
  rw [updN_s]
  simp only [updN_n (show (0 : Nat) ≠ 1 by decide), updN_n (show (2 : Nat) ≠ 1 by decide), updN_n (show (3 : Nat) ≠ 1 by decide), updN_n (show (4 : Nat) ≠ 1 by decide), updN_n (show (44 : Nat) ≠ 1 by decide), updN_n (show (53 : Nat) ≠ 1 by decide)]
  have e5 : ∀ q, updN A 1 a (5 + q) = A (5 + q) := fun q => updN_n (by omega)
  have e10 : ∀ q, updN A 1 a (10 + q) = A (10 + q) := fun q => updN_n (by omega)
  simp only [e5, e10]
  obtain ⟨c1, c2, c3⟩ := h
  exact ⟨c1, ha, c3⟩
theorem BA.set10 {T : Nat} {A : Nat → Nat} {k a : Nat} (h : BA T A) (hk : k < 5) (ha : a ≤ 1000 + 4 * T) : BA T (updN A (10 + k) a) := by
  unfold BA at h ⊢
  simp only [updN_n (show (0 : Nat) ≠ 10 + k by omega), updN_n (show (1 : Nat) ≠ 10 + k by omega), updN_n (show (2 : Nat) ≠ 10 + k by omega), updN_n (show (3 : Nat) ≠ 10 + k by omega), updN_n (show (4 : Nat) ≠ 10 + k by omega), updN_n (show (44 : Nat) ≠ 10 + k by omega), updN_n (show (53 : Nat) ≠ 10 + k by omega)]
  have e5 : ∀ q, q < 5 → updN A (10 + k) a (5 + q) = A (5 + q) := fun q hq => updN_n (by omega)
  obtain ⟨c1, c2, c3, c4, c5, c6, c7, c8, c9, d1, d2, d3, d4⟩ := h
  refine ⟨c1, c2, c3, c4, c5, c6, c7, c8, fun q hq => ?_, fun q hq hq2 => ?_, fun x y hx hy => ?_, fun x hx => ?_, fun q hq => ?_⟩
  · rw [e5 q hq]; exact c9 q hq
  · rw [e5 q hq2]; exact d1 q hq hq2
  · rw [e5 x hx, e5 y hy]; exact d2 x y hx hy
  · rw [e5 x hx]; exact d3 x hx
  · by_cases e : q = k
    · rw [e, updN_s]; exact ha
    · rw [updN_n (by omega)]; exact d4 q hq
theorem ok_lay {T : Nat} {I : Mem} (h : Sim T I) (x1 x2 : Int32) : OK T I (fX11_lay x1 x2) (fX12_lay x1 x2) := by
  obtain ⟨A, w, pw, hc, hv, hb, ⟨g0, g1, g2, g3, g4, g5, g6, g7⟩, gd, gp, hr⟩ := h.get
  have hn : A 0 ≤ 5 := by unfold BA at hb; omega
  have r0 := hr 0 (Or.inl (by decide))
  have bad : (fX11_isRoom x1 I = some 0 ∧ fX12_isRoom x1 (up2 I 0 10 (I 0 10 + 1)) = some 0) ∨ (fX11_isRoom x1 I = some 1 ∧ fX12_isRoom x1 (up2 I 0 10 (I 0 10 + 1)) = some 1 ∧ ¬ ((0 : Int) ≤ x2.toInt ∧ x2.toInt ≤ (999 : Nat))) → OK T I (fX11_lay x1 x2) (fX12_lay x1 x2) := by
    intro hbad
    refine ok_bad h (-2) ?_ ?_
    · unfold fX11_lay jX11_lay_19
      rcases hbad with ⟨b1, b2⟩ | ⟨b1, b2, b3⟩
      · rw [bnd_s b1, if_pos (by decide), refX]; rfl
      · rw [bnd_s b1, if_neg (by decide)]
        by_cases c : x2 < 0
        · rw [if_pos c, refX]; rfl
        · rw [if_neg c, if_neg (by rw [x_le, show (999 : Int32).toInt = 999 from rfl]; rw [x_lt, n_toInt0] at c; omega), refX]; rfl
    · unfold fX12_lay jX12_lay_20
      rcases hbad with ⟨b1, b2⟩ | ⟨b1, b2, b3⟩
      · rw [bnd_s b2, if_pos (by decide), refM]; rfl
      · rw [bnd_s b2, if_neg (by decide), bnd_s (in_f (lo := 0) (hi := 999) rfl rfl b3), if_pos (by decide), refM]; rfl
  rcases rng0 x1 (A 0) (by omega) with ⟨k, hk, rfl, ht⟩ | hf
  · rcases rng x2 0 999 (by decide) with ⟨v, -, hv2, rfl⟩ | hf
    · have e1 := lo_10 k (by omega)
      have hs := sim_set (k0 := 10 + k) (v := nI v) (A2 := updN A (10 + k) v) h hc (Or.inl (by omega)) (updN_n (by omega)) (updN_n (by omega)) ((hv.mono (by omega)).setN (by omega) (by omega) (by omega) ((hb.mono (by omega)).set10 (by omega) (by omega)))
      rw [e1.1, e1.2] at hs
      refine ⟨I 3 k, up2 I 3 k (nI v), up2 (up2 I 3 k (nI v)) 75 (10 + k) (nI v), ?_, ?_, hs⟩
      · unfold fX11_lay
        rw [bnd_s (isRoomX _ g0 (by omega)), ht, if_neg (by decide), if_neg (nI_pos (by omega)), if_pos (show nI v ≤ 999 from nI_le (b := 999) hv2 (by decide)), chk_t (inb_n (by omega) (by decide)), ix_n (by omega)]
        dsimp only [letb]
        rw [chk_t (inb_n (by omega) (by decide))]
      · unfold fX12_lay
        rw [bnd_s (isRoomM _ (by rw [up2_c (by decide)]; exact r0) (by omega)), ht, if_neg (by decide), bnd_s (in_t (lo := 0) (hi := 999) rfl rfl (by omega) hv2 (by omega)), if_neg (by decide), show (10 : Int32) = nI 10 from rfl, nI_add, chk_t (inb_n (by omega) (by decide)), ix_n (by omega)]
        dsimp only [letb]
        rw [chk_t (inb_n (by omega) (by decide)), up2_c (a := 75) (by decide), hr _ (Or.inl (by omega)), gp k (by omega)]
    · exact bad (Or.inr ⟨by rw [isRoomX _ g0 (by omega), ht]; rfl, by rw [isRoomM _ (by rw [up0_c (by decide)]; exact r0) (by omega), ht]; rfl, hf⟩)
  · exact bad (Or.inl ⟨by rw [isRoomX _ g0 (by omega), hf]; rfl, by rw [isRoomM _ (by rw [up0_c (by decide)]; exact r0) (by omega), hf]; rfl⟩)
theorem ok_spy {T : Nat} {I : Mem} (h : Sim T I) (x1 x2 : Int32) : OK T I (fX11_spy x1 x2) (fX12_spy x1 x2) := by
  obtain ⟨A, w, pw, hc, hv, hb, ⟨g0, g1, g2, g3, g4, g5, g6, g7⟩, gd, gp, hr⟩ := h.get
  have hn : A 0 ≤ 5 := by unfold BA at hb; omega
  have r0 := hr 0 (Or.inl (by decide))
  have bad : (fX11_isRoom x1 I = some 0 ∧ fX12_isRoom x1 (up2 I 0 10 (I 0 10 + 1)) = some 0) ∨ (fX11_isRoom x1 I = some 1 ∧ fX12_isRoom x1 (up2 I 0 10 (I 0 10 + 1)) = some 1 ∧ ¬ ((0 : Int) ≤ x2.toInt ∧ x2.toInt ≤ (1999 : Nat))) → OK T I (fX11_spy x1 x2) (fX12_spy x1 x2) := by
    intro hbad
    refine ok_bad h (-2) ?_ ?_
    · unfold fX11_spy jX11_spy_19
      rcases hbad with ⟨b1, b2⟩ | ⟨b1, b2, b3⟩
      · rw [bnd_s b1, if_pos (by decide), refX]; rfl
      · rw [bnd_s b1, if_neg (by decide)]
        by_cases c : x2 < 0
        · rw [if_pos c, refX]; rfl
        · rw [if_neg c, if_neg (by rw [x_le, show (1999 : Int32).toInt = 1999 from rfl]; rw [x_lt, n_toInt0] at c; omega), refX]; rfl
    · unfold fX12_spy jX12_spy_20
      rcases hbad with ⟨b1, b2⟩ | ⟨b1, b2, b3⟩
      · rw [bnd_s b2, if_pos (by decide), refM]; rfl
      · rw [bnd_s b2, if_neg (by decide), bnd_s (in_f (lo := 0) (hi := 1999) rfl rfl b3), if_pos (by decide), refM]; rfl
  rcases rng0 x1 (A 0) (by omega) with ⟨k, hk, rfl, ht⟩ | hf
  · rcases rng x2 0 1999 (by decide) with ⟨v, -, hv2, rfl⟩ | hf
    · have e1 := lo_15 k (by omega)
      have hs := sim_set (k0 := 15 + k) (v := nI v) (A2 := A) h hc (Or.inl (by omega)) rfl rfl ((hv.mono (by omega)).setW (Or.inl (by omega)))
      rw [e1.1, e1.2] at hs
      have e2 := hc.at (k := 15 + k) (Or.inl (by omega))
      rw [e1.1, e1.2] at e2
      refine ⟨I 4 k, up2 I 4 k (nI v), up2 (up2 I 4 k (nI v)) 75 (15 + k) (nI v), ?_, ?_, hs⟩
      · unfold fX11_spy
        rw [bnd_s (isRoomX _ g0 (by omega)), ht, if_neg (by decide), if_neg (nI_pos (by omega)), if_pos (show nI v ≤ 1999 from nI_le (b := 1999) hv2 (by decide)), chk_t (inb_n (by omega) (by decide)), ix_n (by omega)]
        dsimp only [letb]
        rw [chk_t (inb_n (by omega) (by decide))]
      · unfold fX12_spy
        rw [bnd_s (isRoomM _ (by rw [up2_c (by decide)]; exact r0) (by omega)), ht, if_neg (by decide), bnd_s (in_t (lo := 0) (hi := 1999) rfl rfl (by omega) hv2 (by omega)), if_neg (by decide), show (15 : Int32) = nI 15 from rfl, nI_add, chk_t (inb_n (by omega) (by decide)), ix_n (by omega)]
        dsimp only [letb]
        rw [chk_t (inb_n (by omega) (by decide)), up2_c (a := 75) (by decide), ← e2]
    · exact bad (Or.inr ⟨by rw [isRoomX _ g0 (by omega), ht]; rfl, by rw [isRoomM _ (by rw [up0_c (by decide)]; exact r0) (by omega), ht]; rfl, hf⟩)
  · exact bad (Or.inl ⟨by rw [isRoomX _ g0 (by omega), hf]; rfl, by rw [isRoomM _ (by rw [up0_c (by decide)]; exact r0) (by omega), hf]; rfl⟩)
theorem ok_sill {T : Nat} {I : Mem} (h : Sim T I) (x1 : Int32) : OK T I (fX11_sill x1) (fX12_sill x1) := by
  obtain ⟨A, w, pw, hc, hv, hb, ⟨g0, g1, g2, g3, g4, g5, g6, g7⟩, gd, gp, hr⟩ := h.get
  have hn : A 0 ≤ 5 := by unfold BA at hb; omega
  have r0 := hr 0 (Or.inl (by decide))
  rcases rng0 x1 (A 0) (by omega) with ⟨k, hk, rfl, ht⟩ | hf
  · refine ok_same h (I 3 k) ?_ ?_
    · unfold fX11_sill
      rw [bnd_s (isRoomX _ g0 (by omega)), ht, if_neg (by decide), chk_t (inb_n (by omega) (by decide)), ix_n (by omega)]
    · unfold fX12_sill
      rw [bnd_s (isRoomM _ r0 (by omega)), ht, if_neg (by decide), show (10 : Int32) = nI 10 from rfl, nI_add, chk_t (inb_n (by omega) (by decide)), ix_n (by omega), hr _ (Or.inl (by omega)), gp k (by omega)]
  · refine ok_bad h (-2) ?_ ?_
    · unfold fX11_sill
      rw [bnd_s (isRoomX _ g0 (by omega)), hf, if_pos (by decide), refX]
      rfl
    · unfold fX12_sill
      rw [bnd_s (isRoomM _ (by rw [up0_c (by decide)]; exact r0) (by omega)), hf, if_pos (by decide), refM]
      rfl
theorem isLawX (x : Int32) (I : Mem) : fX11_isLaw x I = some (b2i (decide ((0 : Int) ≤ x.toInt ∧ x.toInt ≤ (4 : Nat)))) := by
  unfold fX11_isLaw
  simp only [x_lt, x_le, n_toInt0, show (5 : Int32).toInt = 5 from rfl]
  by_cases h1 : x.toInt < 0
  · rw [if_pos h1, decide_eq_false (by omega)]; rfl
  · rw [if_neg h1]
    by_cases h2 : (5 : Int) ≤ x.toInt
    · rw [if_pos h2, decide_eq_false (by omega)]; rfl
    · rw [if_neg h2, decide_eq_true (by omega)]; rfl
theorem ok_law {T : Nat} {I : Mem} (h : Sim T I) (x1 : Int32) : OK T I (fX11_law x1) (fX12_law x1) := by
  obtain ⟨A, w, pw, hc, hv, hb, ⟨g0, g1, g2, g3, g4, g5, g6, g7⟩, gd, gp, hr⟩ := h.get
  rcases rng x1 0 4 (by decide) with ⟨v, -, hv2, rfl⟩ | hf
  · have hs := sim_set (k0 := 1) (v := nI v) (A2 := updN A 1 v) h hc (Or.inl (by omega)) (updN_n (by omega)) (updN_n (by omega)) ((hv.mono (by omega)).setN (by omega) (by omega) (by omega) ((hb.mono (by omega)).set1 hv2))
    refine ⟨I 1 4, up2 I 1 4 (nI v), up2 (up2 I 1 4 (nI v)) 75 1 (nI v), ?_, ?_, hs⟩
    · unfold fX11_law
      rw [bnd_s (isLawX _ I), nI_toInt (by omega), decide_eq_true (by omega), if_neg (by decide)]
      rfl
    · unfold fX12_law
      rw [bnd_s (in_t (lo := 0) (hi := 4) rfl rfl (by omega) hv2 (by omega)), if_neg (by decide), chk_t (by decide), show ix (1 : Int32) = 1 from rfl]
      dsimp only [letb]
      rw [chk_t (by decide), up2_c (a := 75) (by decide), hr 1 (Or.inl (by decide)), g4]
  · refine ok_bad h (-2) ?_ ?_
    · unfold fX11_law
      rw [bnd_s (isLawX _ I), decide_eq_false (show ¬ ((0 : Int) ≤ x1.toInt ∧ x1.toInt ≤ (4 : Nat)) from hf), if_pos (by decide), refX]
      rfl
    · unfold fX12_law
      rw [bnd_s (in_f (lo := 0) (hi := 4) rfl rfl hf), if_pos (by decide), refM]
      rfl
