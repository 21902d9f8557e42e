/-- what the relation says of the house that stands -/
theorem Sim.get {T : Nat} {I : Mem} (h : Sim T I) : ∃ (A : Nat → Nat) (w : Nat) (pw : Nat → Nat), CV I 1 0 (A 44) (A 53) w pw ∧ VR T (I 75) A w pw ∧ BA T A ∧ (I 1 0 = nI (A 0) ∧ I 1 1 = nI (A 4) ∧ I 1 2 = nI (A 3) ∧ I 1 3 = nI w ∧ I 1 4 = nI (A 1) ∧ I 1 5 = nI (A 2) ∧ I 1 6 = nI (A 44) ∧ I 1 7 = nI (A 53)) ∧ (∀ q, q < 5 → I 2 q = nI (A (5 + q))) ∧ (∀ q, q < 5 → I 3 q = nI (A (10 + q))) ∧ ∀ k, (k < 15 ∨ k = 44 ∨ k = 53) → I 75 k = nI (A k) := by
  obtain ⟨⟨A, w, pw, hc, hv⟩, -⟩ := h
  have hv2 : VR T (I 75) A w pw := hv.congr (fun k _ => by rw [Nat.zero_add])
  have hr := hv2.2.1
  have hx : ∀ k, SK (A 44) k → I (1 + lo k) (lsl k) = I 75 k := fun k hk => by have := hc.1 k hk; rwa [Nat.zero_add] at this
  refine ⟨A, w, pw, hc, hv2, hv2.1, ⟨(hx 0 (Or.inl (by decide))).trans (hr 0 (Or.inl (by decide))), (hx 4 (Or.inl (by decide))).trans (hr 4 (Or.inl (by decide))), (hx 3 (Or.inl (by decide))).trans (hr 3 (Or.inl (by decide))), hc.2.1, (hx 1 (Or.inl (by decide))).trans (hr 1 (Or.inl (by decide))), (hx 2 (Or.inl (by decide))).trans (hr 2 (Or.inl (by decide))), (hx 44 (Or.inr (Or.inl (by decide)))).trans (hr 44 (Or.inr (Or.inl rfl))), (hx 53 (Or.inr (Or.inr (Or.inr rfl)))).trans (hr 53 (Or.inr (Or.inr rfl)))⟩, fun q hq => ?_, fun q hq => ?_, hr⟩
  · have e := hx (5 + q) (Or.inl (by omega))
    have hl : ∀ q, q < 5 → lo (5 + q) = 1 ∧ lsl (5 + q) = q := by decide +kernel
    rw [(hl q hq).1, (hl q hq).2] at e
    exact e.trans (hr _ (Or.inl (by omega)))
  · have e := hx (10 + q) (Or.inl (by omega))
    have hl : ∀ q, q < 5 → lo (10 + q) = 2 ∧ lsl (10 + q) = q := by decide +kernel
    rw [(hl q hq).1, (hl q hq).2] at e
    exact e.trans (hr _ (Or.inl (by omega)))
/-- a number of the row is set, no room, no person more -/
theorem VR.setN {T : Nat} {r : Nat → Int32} {A : Nat → Nat} {w : Nat} {pw : Nat → Nat} {k0 a : Nat} (h : VR T r A w pw) (hk : k0 < 15) (h0 : k0 ≠ 0) (h3 : k0 ≠ 3) (hb : BA T (updN A k0 a)) : VR T (upd r k0 (nI a)) (updN A k0 a) w pw := by
  obtain ⟨a1, a2, a3, a4, a5, a6, a7, a8⟩ := h
  have e0 : updN A k0 a 0 = A 0 := updN_n (by omega)
  have e3 : updN A k0 a 3 = A 3 := updN_n (by omega)
  have e44 : updN A k0 a 44 = A 44 := updN_n (by omega)
  have e53 : updN A k0 a 53 = A 53 := updN_n (by omega)
  have er : ∀ k, k ≠ k0 → upd r k0 (nI a) k = r k := fun k q => if_neg q
  have ew : ∀ s, WV A s → WV (updN A k0 a) s := fun s hs => by unfold WV; rw [e0, e3]; exact hs
  refine ⟨hb, fun k hk2 => ?_, ew w a3, fun p hp => ?_, fun p q1 q2 => ?_, fun i hi => ?_, fun i hi => ?_, fun j hj => ?_⟩
  · by_cases q : k = k0
    · subst q
      rw [updN_s]
      exact if_pos rfl
    · rw [er k q, updN_n q]
      exact a2 k hk2
  · rw [e3] at hp
    rw [er _ (by omega)]
    exact a4 p hp
  · rw [e3] at q1
    rw [er _ (by omega)]
    exact a5 p q1 q2
  · rw [er _ (by omega), e0]
    exact a6 i hi
  · rw [e44] at hi
    rw [er _ (by omega), e0]
    exact a7 i hi
  · rw [e53] at hj
    obtain ⟨b1, b2, b3, b4⟩ := a8 j hj
    rw [e3]
    exact ⟨ew _ b1, fun p hp => by rw [er _ (by omega)]; exact b2 p hp, fun p q1 q2 => by rw [er _ (by omega)]; exact b3 p q1 q2, fun q hq => by rw [er _ (by omega)]; exact b4 q hq⟩
/-- a wish or a told sill is set -/
theorem VR.setW {T : Nat} {r : Nat → Int32} {A : Nat → Nat} {w : Nat} {pw : Nat → Nat} {k0 : Nat} {v : Int32} (h : VR T r A w pw) (hk : (15 ≤ k0 ∧ k0 < 20) ∨ (28 ≤ k0 ∧ k0 < 44 ∧ (v = -1 ∨ ∃ q, q < A 0 ∧ v = nI q))) : VR T (upd r k0 v) A w pw := by
  obtain ⟨a1, a2, a3, a4, a5, a6, a7, a8⟩ := h
  have er : ∀ k, k ≠ k0 → upd r k0 v k = r k := fun k q => if_neg q
  have hb : A 3 ≤ 4 ∧ A 44 ≤ 8 := by unfold BA at a1; omega
  refine ⟨a1, fun k hk2 => ?_, a3, fun p hp => ?_, fun p q1 q2 => ?_, fun i hi => ?_, fun i hi => ?_, fun j hj => ?_⟩
  · rw [er k (by omega)]; exact a2 k hk2
  · rw [er _ (by omega)]; exact a4 p hp
  · rw [er _ (by omega)]; exact a5 p q1 q2
  · by_cases q : 28 + i = k0
    · rw [q, show upd r k0 v k0 = v from if_pos rfl]
      rcases hk with hk | hk
      · omega
      · exact hk.2.2
    · rw [er _ q]; exact a6 i hi
  · rw [er _ (by omega)]; exact a7 i hi
  · obtain ⟨b1, b2, b3, b4⟩ := a8 j hj
    exact ⟨b1, fun p hp => by rw [er _ (by omega)]; exact b2 p hp, fun p q1 q2 => by rw [er _ (by omega)]; exact b3 p q1 q2, fun q hq => by rw [er _ (by omega)]; exact b4 q hq⟩
theorem pow_le32 {n : Nat} (h : n ≤ 5) : 2 ^ n ≤ 32 := Nat.pow_le_pow_right (n := 2) (by decide) h
/-! ===== cat ===== -/
theorem ok_cat {T : Nat} {I : Mem} (h : Sim T I) (x1 x2 : Int32) : OK T I (fX11_cat x1 x2) (fX12_cat x1 x2) := by
  obtain ⟨A, w, pw, hc, hv, hb, ⟨g0, g1, g2, g3, g4, g5, g6, g7⟩, gd, gp, hr⟩ := h.get
  have hn : A 0 ≤ 5 ∧ A 4 < 2 ^ A 0 := by unfold BA at hb; omega
  have h32 := pow_le32 hn.1
  have r0 := hr 0 (Or.inl (by decide))
  have r4 := hr 4 (Or.inl (by decide))
  rcases rng0 x1 (A 0) (by omega) with ⟨k, hk, rfl, ht⟩ | hf
  · by_cases c : b2i ((A 4).testBit k) = x2
    · refine ok_no h (-3) ?_ ?_
      · unfold fX11_cat
        rw [bnd_s (isRoomX _ g0 (by omega)), ht, if_neg (by decide), g1, bnd_s (has_n I (by omega) (by omega)), if_pos c, refXn]
        rfl
      · unfold fX12_cat
        rw [bnd_s (isRoomM _ (by rw [up0_c (by decide)]; exact r0) (by omega)), ht, if_neg (by decide), chk_t (by decide), show ix (4 : Int32) = 4 from rfl, up0_c (c := 75) (by decide), r4, bnd_s (hasM_n _ (by omega) (by omega)), if_pos c, refMn]
        rfl
    · have hx : A 4 ^^^ 2 ^ k < 2 ^ A 0 := Nat.xor_lt_two_pow hn.2 (Nat.pow_lt_pow_right (by decide) hk)
      refine ⟨1, up2 I 1 1 (nI (A 4 ^^^ 2 ^ k)), up2 (up2 I 1 1 (nI (A 4 ^^^ 2 ^ k))) 75 4 (nI (A 4 ^^^ 2 ^ k)), ?_, ?_, ?_⟩
      · unfold fX11_cat
        rw [bnd_s (isRoomX _ g0 (by omega)), ht, if_neg (by decide), g1, bnd_s (has_n I (by omega) (by omega)), if_neg c, n_one (by omega), n_xor]
        rfl
      · unfold fX12_cat
        rw [bnd_s (isRoomM _ (by rw [up2_c (by decide)]; exact r0) (by omega)), ht, if_neg (by decide), chk_t (by decide), show ix (4 : Int32) = 4 from rfl, up2_c (a := 75) (by decide), r4, bnd_s (hasM_n _ (by omega) (by omega)), if_neg c, chk_t (by decide), n_one (by omega), n_xor]
        rfl
      · refine sim_set (k0 := 4) (A2 := updN A 4 (A 4 ^^^ 2 ^ k)) h hc (Or.inl (by decide)) (updN_n (by decide)) (updN_n (by decide)) ((hv.mono (by omega)).setN (by decide) (by decide) (by decide) ?_)
        have hb2 := hb.mono (show T ≤ T + 1 by omega)
        unfold BA at hb2 ⊢
        rw [updN_s]
        simp only [updN_n (show (0 : Nat) ≠ 4 by decide), updN_n (show (1 : Nat) ≠ 4 by decide), updN_n (show (2 : Nat) ≠ 4 by decide), updN_n (show (3 : Nat) ≠ 4 by decide), updN_n (show (44 : Nat) ≠ 4 by decide), updN_n (show (53 : Nat) ≠ 4 by decide)]
        have e5 : ∀ q, updN A 4 (A 4 ^^^ 2 ^ k) (5 + q) = A (5 + q) := fun q => updN_n (by omega)
        have e10 : ∀ q, updN A 4 (A 4 ^^^ 2 ^ k) (10 + q) = A (10 + q) := fun q => updN_n (by omega)
        simp only [e5, e10]
        obtain ⟨c1, c2, c3, c4, c5, c6, c7, c8, c9⟩ := hb2
        exact ⟨c1, c2, c3, c4, c5, c6, c7, hx, c9⟩
  · refine ok_bad h (-2) ?_ ?_
    · unfold fX11_cat
      rw [bnd_s (isRoomX _ g0 (by omega)), hf, if_pos (by decide), refX]
      rfl
    · unfold fX12_cat
      rw [bnd_s (isRoomM _ (by rw [up0_c (by decide)]; exact r0) (by omega)), hf, if_pos (by decide), refM]
      rfl
