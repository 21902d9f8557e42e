/-- a bit is set as told -/
def setb (m k : Nat) (v : Bool) : Nat := if m.testBit k = v then m else m ^^^ 2 ^ k
theorem setb_i : ∀ m, m < 32 → ∀ k, k < 5 → (nI m &&& (nI (2 ^ k) ^^^ (-1 : Int32))) ||| nI (2 ^ k) = nI (setb m k true) ∧ (nI m &&& (nI (2 ^ k) ^^^ (-1 : Int32))) ||| (0 : Int32) = nI (setb m k false) := by decide +kernel
theorem setb_lt {m k n : Nat} {v : Bool} (hm : m < 2 ^ n) (hk : k < n) : setb m k v < 2 ^ n := by
  unfold setb
  split
  · exact hm
  · exact Nat.xor_lt_two_pow hm (Nat.pow_lt_pow_right (by decide) hk)
theorem setb_bit (m k : Nat) (v : Bool) (j : Nat) : (setb m k v).testBit j = if j = k then v else m.testBit j := by
  unfold setb
  by_cases c : m.testBit k = v
  · rw [if_pos c]
    by_cases e : j = k
    · rw [if_pos e, e, c]
    · rw [if_neg e]
  · rw [if_neg c, Nat.testBit_xor, Nat.testBit_two_pow]
    by_cases e : j = k
    · rw [if_pos e, e]
      cases hv : v <;> cases hm : m.testBit k <;> simp_all
    · rw [if_neg e, decide_eq_false (fun q => e q.symm), Bool.xor_false]
theorem layDoor_n {a b : Nat} {v : Bool} {D : Nat → Nat} {I : Mem} (ha : a < 5) (hb : b < 5) (hd : ∀ q, q < 5 → I 75 (5 + q) = nI (D q)) (hD : ∀ q, q < 5 → D q < 32) : fX12_layDoor (nI a) (nI b) (b2i v) I = some (up2 (up2 I 75 (5 + a) (nI (setb (D a) b v))) 75 (5 + b) (nI (setb (updN D a (setb (D a) b v) b) a v))) := by
  have h2 : ∀ u1 u0 : Int32, u1 ||| u0 = nI (setb (D a) b v) → jX12_layDoor_32 (nI a) (nI b) (b2i v) u0 u1 (nI (5 + a)) I = some (up2 (up2 I 75 (5 + a) (nI (setb (D a) b v))) 75 (5 + b) (nI (setb (updN D a (setb (D a) b v) b) a v))) := by
    intro u1 u0 hu
    unfold jX12_layDoor_32
    have hs : setb (D a) b v < 32 := setb_lt (n := 5) (hD a ha) hb
    have e2 : up2 I 75 (5 + a) (nI (setb (D a) b v)) 75 (5 + b) = nI (updN D a (setb (D a) b v) b) ∧ updN D a (setb (D a) b v) b < 32 := by
      by_cases c : b = a
      · rw [c, up2_self, updN_s]; rw [← c]; rw [← c] at hs; exact ⟨rfl, hs⟩
      · rw [up2_i (by omega), updN_n c, hd b hb]; exact ⟨rfl, hD b hb⟩
    have e3 := setb_i _ e2.2 a ha
    rw [hu, chk_t (inb_n (by omega) (by decide)), ix_n (by omega)]
    dsimp only [letb]
    rw [show (5 : Int32) = nI 5 from rfl, nI_add, chk_t (inb_n (by omega) (by decide)), ix_n (by omega), e2.1, n_one (by omega)]
    cases v
    · rw [if_pos (by decide), chk_t (inb_n (by omega) (by decide)), e3.2]
    · rw [if_neg (by decide), chk_t (inb_n (by omega) (by decide)), e3.1]
  unfold fX12_layDoor
  have e1 := setb_i _ (hD a ha) b hb
  rw [show (5 : Int32) = nI 5 from rfl, nI_add, chk_t (inb_n (by omega) (by decide)), ix_n (by omega), hd a ha, n_one (by omega)]
  cases v
  · rw [if_pos (by decide)]
    exact h2 _ _ e1.2
  · rw [if_neg (by decide)]
    exact h2 _ _ e1.1
/-- other doors -/
def drA (A D : Nat → Nat) : Nat → Nat := fun k => if 5 ≤ k ∧ k < 10 then D (k - 5) else A k
theorem drA_d {A D : Nat → Nat} {q : Nat} (h : q < 5) : drA A D (5 + q) = D q := by
  unfold drA
  rw [if_pos (by omega)]
  congr 1
  omega
theorem drA_o {A D : Nat → Nat} {k : Nat} (h : k < 5 ∨ 10 ≤ k) : drA A D k = A k := if_neg (by omega)
/-- what doors keep -/
def DG (n : Nat) (D : Nat → Nat) : Prop := (∀ q, q < 5 → D q < 2 ^ n) ∧ (∀ q, n ≤ q → q < 5 → D q = 0) ∧ (∀ a b, a < 5 → b < 5 → (D a).testBit b = (D b).testBit a) ∧ ∀ a, a < 5 → (D a).testBit a = false
theorem BA.doors {T : Nat} {A D : Nat → Nat} (h : BA T A) (hd : DG (A 0) D) : BA T (drA A D) := by
  obtain ⟨c1, c2, c3, c4, c5, c6, c7, c8, c9, d1, d2, d3, d4⟩ := h
  obtain ⟨e1, e2, e3, e4⟩ := hd
  refine ⟨c1, c2, c3, c4, c5, c6, c7, c8, fun q hq => ?_, fun q hq hq2 => ?_, fun x y hx hy => ?_, fun x hx => ?_, fun q hq => ?_⟩
  · rw [drA_d hq]; exact e1 q hq
  · rw [drA_d hq2]; exact e2 q hq hq2
  · rw [drA_d hx, drA_d hy]; exact e3 x y hx hy
  · rw [drA_d hx]; exact e4 x hx
  · rw [drA_o (by omega)]; exact d4 q hq
theorem VR.doors {T : Nat} {r r2 : Nat → Int32} {A D : Nat → Nat} {w : Nat} {pw : Nat → Nat} (h : VR T r A w pw) (hd : DG (A 0) D) (hr : ∀ k, (k < 5 ∨ 10 ≤ k) → r2 k = r k) (hr2 : ∀ q, q < 5 → r2 (5 + q) = nI (D q)) : VR T r2 (drA A D) w pw := by
  obtain ⟨a1, a2, a3, a4, a5, a6, a7, a8⟩ := h
  have hb : A 3 ≤ 4 := by unfold BA at a1; omega
  refine ⟨a1.doors hd, fun k hk => ?_, a3, fun p hp2 => ?_, fun p q1 q2 => ?_, fun i hi => ?_, fun i hi => ?_, fun j hj => ?_⟩
  · by_cases q : 5 ≤ k ∧ k < 10
    · obtain ⟨x, rfl⟩ : ∃ x, k = 5 + x := ⟨k - 5, by omega⟩
      rw [drA_d (by omega)]; exact hr2 x (by omega)
    · rw [hr k (by omega), drA_o (by omega)]; exact a2 k hk
  · have hp2' : p < A 3 := hp2
    rw [hr _ (by omega)]; exact a4 p hp2'
  · have q1' : A 3 ≤ p := q1
    rw [hr _ (by omega)]; exact a5 p q1' q2
  · rw [hr _ (by omega)]; exact a6 i hi
  · have hi' : i < A 44 := hi
    rw [hr _ (by omega)]; exact a7 i hi'
  · have hj' : j < A 53 := hj
    obtain ⟨b1, b2, b3, b4⟩ := a8 j hj'
    exact ⟨b1, fun p hp2 => by rw [hr _ (by omega)]; exact b2 p hp2, fun p q1 q2 => by rw [hr _ (by omega)]; exact b3 p q1 q2, fun q hq => by rw [hr _ (by omega)]; exact b4 q hq⟩
/-- a door between two rooms is set as told -/
def setD (D : Nat → Nat) (a b : Nat) (v : Bool) : Nat → Nat := updN (updN D a (setb (D a) b v)) b (setb (updN D a (setb (D a) b v) b) a v)
theorem setD_at {D : Nat → Nat} {a b : Nat} {v : Bool} (hab : a ≠ b) (q : Nat) : setD D a b v q = if q = b then setb (D b) a v else if q = a then setb (D a) b v else D q := by
  unfold setD
  by_cases c : q = b
  · rw [c, updN_s, if_pos rfl, updN_n (fun q => hab q.symm)]
  · rw [updN_n c, if_neg c]
    by_cases c2 : q = a
    · rw [c2, updN_s, if_pos rfl]
    · rw [updN_n c2, if_neg c2]
theorem DG.set {n : Nat} {D : Nat → Nat} {a b : Nat} {v : Bool} (h : DG n D) (hab : a ≠ b) (ha : a < n) (hb : b < n) : DG n (setD D a b v) := by
  obtain ⟨e1, e2, e3, e4⟩ := h
  refine ⟨fun q hq => ?_, fun q hq hq2 => ?_, fun x y hx hy => ?_, fun x hx => ?_⟩
  · rw [setD_at hab]
    split
    · exact setb_lt (e1 b (by omega)) ha
    · split
      · exact setb_lt (e1 a (by omega)) hb
      · exact e1 q hq
  · rw [setD_at hab, if_neg (by omega), if_neg (by omega)]; exact e2 q hq hq2
  · rw [setD_at hab, setD_at hab]
    by_cases x1 : x = b
    · rw [if_pos x1]
      by_cases y1 : y = b
      · rw [if_pos y1, setb_bit, setb_bit, x1, y1]
      · rw [if_neg y1]
        by_cases y2 : y = a
        · rw [if_pos y2, setb_bit, setb_bit, x1, y2, if_pos rfl, if_pos rfl]
        · rw [if_neg y2, setb_bit, if_neg y2, x1, e3 b y (by omega) hy]
    · rw [if_neg x1]
      by_cases x2 : x = a
      · rw [if_pos x2, x2, setb_bit]
        by_cases y1 : y = b
        · rw [if_pos y1, if_pos y1, setb_bit, if_pos rfl]
        · rw [if_neg y1, if_neg y1]
          by_cases y2 : y = a
          · rw [if_pos y2, setb_bit, y2, if_neg hab]
          · rw [if_neg y2, e3 a y (by omega) hy]
      · rw [if_neg x2]
        by_cases y1 : y = b
        · rw [if_pos y1, setb_bit, if_neg x2, y1, e3 x b hx (by omega)]
        · rw [if_neg y1]
          by_cases y2 : y = a
          · rw [if_pos y2, setb_bit, if_neg x1, y2, e3 x a hx (by omega)]
          · rw [if_neg y2, e3 x y hx hy]
  · rw [setD_at hab]
    by_cases x1 : x = b
    · rw [if_pos x1, setb_bit, if_neg (by omega), x1]; exact e4 b (by omega)
    · rw [if_neg x1]
      by_cases x2 : x = a
      · rw [if_pos x2, setb_bit, if_neg (by omega), x2]; exact e4 a (by omega)
      · rw [if_neg x2]; exact e4 x hx
theorem BA.dg {T : Nat} {A : Nat → Nat} (h : BA T A) : DG (A 0) (fun q => A (5 + q)) := by
  unfold BA at h
  exact ⟨h.2.2.2.2.2.2.2.2.1, h.2.2.2.2.2.2.2.2.2.1, h.2.2.2.2.2.2.2.2.2.2.1, h.2.2.2.2.2.2.2.2.2.2.2.1⟩
theorem DG.lt {n : Nat} {D : Nat → Nat} (h : DG n D) (hn : n ≤ 5) : ∀ q, q < 5 → D q < 32 := fun q hq => Nat.lt_of_lt_of_le (h.1 q hq) (pow_le32 hn)
theorem ok_door {T : Nat} {I : Mem} (h : Sim T I) (x1 x2 : Int32) (v : Bool) : OK T I (fX11_door x1 x2 (b2i v)) (fX12_door x1 x2 (b2i v)) := by
  obtain ⟨A, w, pw, hc, hv, hb, ⟨g0, g1, g2, g3, g4, g5, g6, g7⟩, gd, gp, hr⟩ := h.get
  have hn : A 0 ≤ 5 := by unfold BA at hb; omega
  have hdg := hb.dg
  have hlt := hdg.lt hn
  have r0 := hr 0 (Or.inl (by decide))
  have r0' : up2 I 0 10 (I 0 10 + 1) 75 0 = nI (A 0) := by rw [up0_c (by decide)]; exact r0
  have badX : jX11_door_21 I = some (-2, up2 I 0 10 (I 0 10 + 1)) := rfl
  have badM : jX12_door_21 (up2 I 0 10 (I 0 10 + 1)) = some (-2, up2 (up2 I 0 10 (I 0 10 + 1)) 78 0 (up2 I 0 10 (I 0 10 + 1) 78 0 + 1)) := rfl
  rcases rng0 x1 (A 0) (by omega) with ⟨a, ha, rfl, hta⟩ | hf
  · rcases rng0 x2 (A 0) (by omega) with ⟨b, hb2, rfl, htb⟩ | hf
    · by_cases hab : a = b
      · refine ok_bad h (-2) ?_ ?_
        · unfold fX11_door
          rw [bnd_s (isRoomX _ g0 (by omega)), hta, if_neg (by decide), bnd_s (isRoomX _ g0 (by omega)), htb, if_neg (by decide), if_pos (by rw [hab])]
          exact badX
        · unfold fX12_door
          rw [bnd_s (isRoomM _ r0' (by omega)), hta, if_neg (by decide), bnd_s (isRoomM _ r0' (by omega)), htb, if_neg (by decide), if_pos (by rw [hab])]
          exact badM
      · have hab2 : ¬ nI a = nI b := by rw [nI_eq (by omega) (by omega)]; exact hab
        by_cases c : (A (5 + a)).testBit b = v
        · refine ok_no h (-3) ?_ ?_
          · unfold fX11_door
            rw [bnd_s (isRoomX _ g0 (by omega)), hta, if_neg (by decide), bnd_s (isRoomX _ g0 (by omega)), htb, if_neg (by decide), if_neg hab2, chk_t (inb_n (by omega) (by decide)), ix_n (by omega), gd a (by omega), bnd_s (has_n I (by have := hlt a (by omega); omega) (by omega)), if_pos (by rw [c]), refXn]
            rfl
          · unfold fX12_door
            rw [bnd_s (isRoomM _ (by rw [up0_c (by decide)]; exact r0) (by omega)), hta, if_neg (by decide), bnd_s (isRoomM _ (by rw [up0_c (by decide)]; exact r0) (by omega)), htb, if_neg (by decide), if_neg hab2, show (5 : Int32) = nI 5 from rfl, nI_add, chk_t (inb_n (by omega) (by decide)), ix_n (by omega), up0_c (c := 75) (by decide), hr _ (Or.inl (by omega)), bnd_s (hasM_n _ (by have := hlt a (by omega); omega) (by omega)), if_pos (by rw [c]), refMn]
            rfl
        · have c3 : ¬ b2i ((A (5 + a)).testBit b) = b2i v := by
            intro q
            apply c
            cases h1 : (A (5 + a)).testBit b <;> cases h2 : v <;> rw [h1, h2] at q <;> first | rfl | exact absurd q (by decide)
          have ea : setb (A (5 + a)) b v = A (5 + a) ^^^ 2 ^ b := if_neg c
          have eb : setb (A (5 + b)) a v = A (5 + b) ^^^ 2 ^ a := if_neg (by rw [← hdg.2.2.1 a b (by omega) (by omega)]; exact c)
          generalize hD : (fun q => A (5 + q)) = D at hdg
          have hDq : ∀ q, A (5 + q) = D q := fun q => by rw [← hD]
          have hlt2 : ∀ q, q < 5 → D q < 32 := fun q hq => by rw [← hDq]; exact hlt q hq
          have hdg2 := hdg.set (v := v) hab ha hb2
          refine ⟨1, up2 (up2 I 2 a (nI (setb (D a) b v))) 2 b (nI (setb (D b) a v)), up2 (up2 (up2 (up2 I 2 a (nI (setb (D a) b v))) 2 b (nI (setb (D b) a v))) 75 (5 + a) (nI (setb (D a) b v))) 75 (5 + b) (nI (setb (D b) a v)), ?_, ?_, ?_⟩
          · unfold fX11_door
            rw [bnd_s (isRoomX _ g0 (by omega)), hta, if_neg (by decide), bnd_s (isRoomX _ g0 (by omega)), htb, if_neg (by decide), if_neg hab2, chk_t (inb_n (by omega) (by decide)), ix_n (by omega), gd a (by omega), bnd_s (has_n I (by have := hlt a (by omega); omega) (by omega)), if_neg c3, chk_t (inb_n (by omega) (by decide)), chk_t (inb_n (by omega) (by decide)), n_one (by omega), n_xor, ← ea]
            dsimp only [letb]
            rw [chk_t (inb_n (by omega) (by decide)), chk_t (inb_n (by omega) (by decide)), ix_n (by omega), up2_i (i := a) (j := b) (by omega), gd b (by omega), n_one (by omega), n_xor, ← eb, hDq, hDq]
          · unfold fX12_door
            rw [bnd_s (isRoomM _ (by rw [up2_c (by decide), up2_c (by decide)]; exact r0) (by omega)), hta, if_neg (by decide), bnd_s (isRoomM _ (by rw [up2_c (by decide), up2_c (by decide)]; exact r0) (by omega)), htb, if_neg (by decide), if_neg hab2, show (5 : Int32) = nI 5 from rfl, nI_add, chk_t (inb_n (by omega) (by decide)), ix_n (by omega), up2_c (a := 75) (by decide), up2_c (a := 75) (by decide), hr _ (Or.inl (by omega)), bnd_s (hasM_n _ (by have := hlt a (by omega); omega) (by omega)), if_neg c3, bnd_s (layDoor_n (D := D) (by omega) (by omega) (fun q hq => by rw [up2_c (by decide), up2_c (by decide), hr _ (Or.inl (by omega)), hDq]) hlt2), updN_n (fun q => hab q.symm)]
          · have hc1 := (hc.set (k0 := 5 + a) (v := nI (setb (D a) b v)) (Or.inl (by omega)) (by decide)).set (k0 := 5 + b) (v := nI (setb (D b) a v)) (Or.inl (by omega)) (by decide)
            rw [(lo_5 a (by omega)).1, (lo_5 a (by omega)).2, (lo_5 b (by omega)).1, (lo_5 b (by omega)).2, Nat.zero_add, Nat.zero_add, show (1 : Nat) + 1 = 2 from rfl, up2_comm (c := 75) (c2 := 2) (by decide)] at hc1
            have e : ∀ c, c ≠ 2 → c ≠ 75 → up2 (up2 (up2 (up2 I 2 a (nI (setb (D a) b v))) 2 b (nI (setb (D b) a v))) 75 (5 + a) (nI (setb (D a) b v))) 75 (5 + b) (nI (setb (D b) a v)) c = I c := fun c q1 q2 => by rw [up2_cc q2, up2_cc q2, up2_cc q1, up2_cc q1]
            have e75 : ∀ k, (k < 5 ∨ 10 ≤ k) → up2 (up2 (up2 (up2 I 2 a (nI (setb (D a) b v))) 2 b (nI (setb (D b) a v))) 75 (5 + a) (nI (setb (D a) b v))) 75 (5 + b) (nI (setb (D b) a v)) 75 k = I 75 k := fun k hk => by rw [up2_i (by omega), up2_i (by omega), up2_c (by decide), up2_c (by decide)]
            refine sim_frame h (by omega) ⟨drA A (setD D a b v), w, pw, hc1, (hv.mono (T2 := T + 1) (by omega)).doors hdg2 (fun k hk => by rw [Nat.zero_add]; exact e75 k hk) (fun q hq => ?_)⟩ (fun q _ => by rw [e 0 (by decide) (by decide)]) (fun c q1 q2 => e c (by omega) (by omega)) (by rw [e 35 (by decide) (by decide)]) (e _ (by decide) (by decide)) (by rw [e 74 (by decide) (by decide)]) (by rw [e 74 (by decide) (by decide)]) (fun k q1 q2 => e75 k (by omega)) (e _ (by decide) (by decide)) (e _ (by decide) (by decide)) (e _ (by decide) (by decide))
            rw [Nat.zero_add, setD_at hab]
            by_cases q1 : q = b
            · rw [if_pos q1, q1, up2_self]
            · rw [if_neg q1, up2_i (by omega)]
              by_cases q2 : q = a
              · rw [if_pos q2, q2, up2_self]
              · rw [if_neg q2, up2_i (by omega), up2_c (by decide), up2_c (by decide), hr _ (Or.inl (by omega)), hDq]
    · refine ok_bad h (-2) ?_ ?_
      · unfold fX11_door
        rw [bnd_s (isRoomX _ g0 (by omega)), hta, if_neg (by decide), bnd_s (isRoomX _ g0 (by omega)), hf, if_pos (by decide)]
        exact badX
      · unfold fX12_door
        rw [bnd_s (isRoomM _ r0' (by omega)), hta, if_neg (by decide), bnd_s (isRoomM _ r0' (by omega)), hf, if_pos (by decide)]
        exact badM
  · refine ok_bad h (-2) ?_ ?_
    · unfold fX11_door
      rw [bnd_s (isRoomX _ g0 (by omega)), hf, if_pos (by decide)]
      exact badX
    · unfold fX12_door
      rw [bnd_s (isRoomM _ r0' (by omega)), hf, if_pos (by decide)]
      exact badM
