/-! ===== what an item tells: a house (class), a row (model) ===== -/
theorem setb_or (m k : Nat) : setb m k true = m ||| 2 ^ k := by
  apply Nat.eq_of_testBit_eq
  intro j
  rw [setb_bit, Nat.testBit_or, Nat.testBit_two_pow]
  by_cases e : j = k
  · rw [if_pos e, decide_eq_true e.symm, Bool.or_true]
  · rw [if_neg e, decide_eq_false (fun q => e q.symm), Bool.or_false]
theorem GH.door {A : Nat → Nat} {w : Nat} {W : Nat → Int32} {a b : Nat} (h : GH A w W) (hab : a ≠ b) (ha : a < A 0) (hb : b < A 0) : GH (drA A (setD (fun q => A (5 + q)) a b true)) w W := by
  obtain ⟨a1, a2, a3, a4, a5, a6, a7, a8, a9, b1, b2, b3, b4, b5⟩ := h
  have hd : DG (A 0) (fun q => A (5 + q)) := ⟨a8, a9, b1, b2⟩
  obtain ⟨d1, d2, d3, d4⟩ := hd.set (v := true) hab ha hb
  have o : ∀ k, (k < 5 ∨ 10 ≤ k) → drA A (setD (fun q => A (5 + q)) a b true) k = A k := fun k hk => drA_o hk
  unfold GH WV
  rw [o 0 (by omega), o 1 (by omega), o 2 (by omega), o 3 (by omega), o 4 (by omega), o 44 (by omega), o 53 (by omega)]
  refine ⟨a1, a2, a3, a4, a5, a6, a7, fun q hq => ?_, fun q h1 h2 => ?_, fun x y hx hy => ?_, fun x hx => ?_, fun q hq => ?_, b4, b5⟩
  · rw [drA_d hq]; exact d1 q hq
  · rw [drA_d h2]; exact d2 q h1 h2
  · rw [drA_d hx, drA_d hy]; exact d3 x y hx hy
  · rw [drA_d hx]; exact d4 x hx
  · rw [o _ (by omega)]; exact b3 q hq
theorem HX.door {M : Mem} {A : Nat → Nat} {w : Nat} {W : Nat → Int32} {a b : Nat} (h : HX 9 M A w W) (hab : a ≠ b) (ha : a < 5) (hb : b < 5) : HX 9 (up2 (up2 M 10 a (nI (A (5 + a) ||| 2 ^ b))) 10 b (nI (A (5 + b) ||| 2 ^ a))) (drA A (setD (fun q => A (5 + q)) a b true)) w W := by
  obtain ⟨g, xd, xp, xt, xu, xw⟩ := h
  have o : ∀ k, (k < 5 ∨ 10 ≤ k) → drA A (setD (fun q => A (5 + q)) a b true) k = A k := fun k hk => drA_o hk
  unfold HX
  rw [o 0 (by omega), o 1 (by omega), o 3 (by omega), o 4 (by omega), up2_cc (show 9 ≠ 10 by decide), up2_cc (show 9 ≠ 10 by decide)]
  refine ⟨g, fun q hq => ?_, fun q hq => ?_, fun q hq => ?_, fun q hq => ?_, fun q hq => ?_⟩
  · show up2 (up2 M 10 a _) 10 b _ 10 q = _
    rw [drA_d hq, setD_at hab]
    by_cases e1 : q = b
    · rw [e1, up2_self, if_pos rfl, setb_or]
    · rw [up2_i e1, if_neg e1]
      by_cases e2 : q = a
      · rw [e2, up2_self, if_pos rfl, setb_or]
      · rw [up2_i e2, if_neg e2]; exact xd q hq
  · rw [up2_c (by decide), up2_c (by decide), o _ (by omega)]; exact xp q hq
  · rw [up2_c (by decide), up2_c (by decide)]; exact xt q hq
  · rw [up2_c (by decide), up2_c (by decide)]; exact xu q hq
  · rw [up2_c (by decide), up2_c (by decide)]; exact xw q hq
theorem lay85 {M : Mem} {a b : Nat} {x y : Nat} (ha : a < 5) (hb : b < 5) (hab : a ≠ b) (hx : M 10 a = nI x) (hy : M 10 b = nI y) : jX8_takeItem_85 9 (nI a) (nI b) M = some (up2 (up2 M 10 a (nI (x ||| 2 ^ b))) 10 b (nI (y ||| 2 ^ a))) := by
  unfold jX8_takeItem_85
  dsimp only [letb]
  rw [chk_t (inb_n ha (by decide)), chk_t (inb_n ha (by decide)), chk_t (inb_n hb (by decide)), chk_t (inb_n hb (by decide)), ix_n (by omega), ix_n (by omega), show M (9 + 1) a = nI x from hx, n_one (show b < 32 by omega), n_or, show up2 M (9 + 1) a (nI (x ||| 2 ^ b)) (9 + 1) b = nI y by rw [up2_i (fun q => hab q.symm)]; exact hy, n_one (show a < 32 by omega), n_or]
theorem lay85_f {M : Mem} {a b : Nat} (ha : a < 5) (hb : b < 5) : ∃ M2, jX8_takeItem_85 9 (nI a) (nI b) M = some M2 ∧ ∀ c, c ≠ 10 → M2 c = M c := by
  unfold jX8_takeItem_85
  dsimp only [letb]
  rw [chk_t (inb_n ha (by decide)), chk_t (inb_n ha (by decide)), chk_t (inb_n hb (by decide)), chk_t (inb_n hb (by decide))]
  exact ⟨_, rfl, fun c hc => by rw [up2_cc hc, up2_cc hc]⟩
theorem GH.upN {A : Nat → Nat} {w : Nat} {W : Nat → Int32} {k v : Nat} (h : GH A w W) (hk : (k = 1 ∧ v ≤ 4) ∨ (k = 4 ∧ v < 2 ^ A 0) ∨ (10 ≤ k ∧ k < 15 ∧ v ≤ 999)) : GH (updN A k v) w W := by
  obtain ⟨a1, a2, a3, a4, a5, a6, a7, a8, a9, b1, b2, b3, b4, b5⟩ := h
  have o : ∀ j, j ≠ k → updN A k v j = A j := fun j hj => updN_n hj
  unfold GH WV
  rw [o 0 (by omega), o 2 (by omega), o 3 (by omega), o 44 (by omega), o 53 (by omega)]
  refine ⟨a1, ?_, a3, a4, a5, a6, ?_, fun q hq => ?_, fun q h1 h2 => ?_, fun x y hx hy => ?_, fun x hx => ?_, fun q hq => ?_, b4, b5⟩
  · by_cases e : 1 = k
    · rw [← e, updN_s]; omega
    · rw [o 1 e]; exact a2
  · by_cases e : 4 = k
    · rw [← e, updN_s]
      rcases hk with q | q | q
      · omega
      · exact q.2
      · omega
    · rw [o 4 e]; exact a7
  · rw [o _ (by omega)]; exact a8 q hq
  · rw [o _ (by omega)]; exact a9 q h1 h2
  · rw [o _ (by omega), o _ (by omega)]; exact b1 x y hx hy
  · rw [o _ (by omega)]; exact b2 x hx
  · by_cases e : 10 + q = k
    · rw [e, updN_s]; omega
    · rw [o _ e]; exact b3 q hq
theorem HM.upN {K : Mem} {A : Nat → Nat} {w : Nat} {W : Nat → Int32} {k v : Nat} (h : HM K A w W) (hk : k < 15) (h3 : k ≠ 3) : HM (up2 K 75 k (nI v)) (updN A k v) w W := by
  obtain ⟨m0, mt, ma, mu, mw, m44, m53⟩ := h
  unfold HM
  rw [updN_n (show 3 ≠ k by omega)]
  refine ⟨fun j hj => ?_, fun q hq => by rw [up2_i (by omega)]; exact mt q hq, fun p hp => ?_, fun p hp => by rw [up2_i (by omega)]; exact mu p hp, fun i hi => by rw [up2_i (by omega)]; exact mw i hi, by rw [up2_i (by omega)]; exact m44, by rw [up2_i (by omega)]; exact m53⟩
  · by_cases e : j = k
    · rw [e, up2_self, updN_s]
    · rw [up2_i e, updN_n e]; exact m0 j hj
  · rw [up2_i (by omega)]; exact ma p hp
theorem HX.law {M : Mem} {A : Nat → Nat} {w : Nat} {W : Nat → Int32} {v : Nat} (h : HX 9 M A w W) : HX 9 (up2 M 9 4 (nI v)) (updN A 1 v) w W := by
  obtain ⟨⟨x0, x1, x2, x3, x4, x5, x6, x7⟩, xd, xp, xt, xu, xw⟩ := h
  unfold HX
  rw [updN_s, updN_n (show 0 ≠ 1 by decide), updN_n (show 4 ≠ 1 by decide), updN_n (show 3 ≠ 1 by decide)]
  refine ⟨⟨by rw [up2_i (by decide)]; exact x0, by rw [up2_i (by decide)]; exact x1, by rw [up2_i (by decide)]; exact x2, by rw [up2_i (by decide)]; exact x3, up2_self .., by rw [up2_i (by decide)]; exact x5, by rw [up2_i (by decide)]; exact x6, by rw [up2_i (by decide)]; exact x7⟩, fun q hq => by rw [up2_c (by decide), updN_n (by omega)]; exact xd q hq, fun q hq => by rw [up2_c (by decide), updN_n (by omega)]; exact xp q hq, fun q hq => by rw [up2_c (by decide)]; exact xt q hq, fun q hq => by rw [up2_c (by decide)]; exact xu q hq, fun q hq => by rw [up2_c (by decide)]; exact xw q hq⟩
theorem HX.cat {M : Mem} {A : Nat → Nat} {w : Nat} {W : Nat → Int32} {v : Nat} (h : HX 9 M A w W) : HX 9 (up2 M 9 1 (nI v)) (updN A 4 v) w W := by
  obtain ⟨⟨x0, x1, x2, x3, x4, x5, x6, x7⟩, xd, xp, xt, xu, xw⟩ := h
  unfold HX
  rw [updN_s, updN_n (show 0 ≠ 4 by decide), updN_n (show 1 ≠ 4 by decide), updN_n (show 3 ≠ 4 by decide)]
  refine ⟨⟨by rw [up2_i (by decide)]; exact x0, up2_self .., by rw [up2_i (by decide)]; exact x2, by rw [up2_i (by decide)]; exact x3, by rw [up2_i (by decide)]; exact x4, by rw [up2_i (by decide)]; exact x5, by rw [up2_i (by decide)]; exact x6, by rw [up2_i (by decide)]; exact x7⟩, fun q hq => by rw [up2_c (by decide), updN_n (by omega)]; exact xd q hq, fun q hq => by rw [up2_c (by decide), updN_n (by omega)]; exact xp q hq, fun q hq => by rw [up2_c (by decide)]; exact xt q hq, fun q hq => by rw [up2_c (by decide)]; exact xu q hq, fun q hq => by rw [up2_c (by decide)]; exact xw q hq⟩
theorem HX.sill {M : Mem} {A : Nat → Nat} {w : Nat} {W : Nat → Int32} {a v : Nat} (h : HX 9 M A w W) : HX 9 (up2 M 11 a (nI v)) (updN A (10 + a) v) w W := by
  obtain ⟨g, xd, xp, xt, xu, xw⟩ := h
  unfold HX
  rw [updN_n (show 0 ≠ 10 + a by omega), updN_n (show 1 ≠ 10 + a by omega), updN_n (show 3 ≠ 10 + a by omega), updN_n (show 4 ≠ 10 + a by omega), up2_cc (show 9 ≠ 11 by decide)]
  refine ⟨g, fun q hq => by rw [up2_c (by decide), updN_n (by omega)]; exact xd q hq, fun q hq => ?_, fun q hq => by rw [up2_c (by decide)]; exact xt q hq, fun q hq => by rw [up2_c (by decide)]; exact xu q hq, fun q hq => by rw [up2_c (by decide)]; exact xw q hq⟩
  show up2 M 11 a _ 11 q = _
  by_cases e : q = a
  · rw [e, up2_self, updN_s]
  · rw [up2_i e, updN_n (by omega)]; exact xp q hq
theorem HX.wish {M : Mem} {A : Nat → Nat} {w : Nat} {W : Nat → Int32} {i : Nat} {v : Int32} (h : HX 9 M A w W) : HX 9 (up2 M 14 i v) A w (upd W i v) := by
  obtain ⟨g, xd, xp, xt, xu, xw⟩ := h
  unfold HX
  rw [up2_cc (show 9 ≠ 14 by decide)]
  refine ⟨g, fun q hq => by rw [up2_c (by decide)]; exact xd q hq, fun q hq => by rw [up2_c (by decide)]; exact xp q hq, fun q hq => by rw [up2_c (by decide)]; exact xt q hq, fun q hq => by rw [up2_c (by decide)]; exact xu q hq, fun q hq => ?_⟩
  show up2 M 14 i v 14 q = _
  by_cases e : q = i
  · rw [e, up2_self]; exact (if_pos rfl).symm
  · rw [up2_i e, xw q hq]; exact (if_neg e).symm
theorem HM.wish {K : Mem} {A : Nat → Nat} {w : Nat} {W : Nat → Int32} {i : Nat} {v : Int32} (h : HM K A w W) (hi : i < 16) (h3 : A 3 ≤ 4) : HM (up2 K 75 (28 + i) v) A w (upd W i v) := by
  obtain ⟨m0, mt, ma, mu, mw, m44, m53⟩ := h
  refine ⟨fun j hj => by rw [up2_i (by omega)]; exact m0 j hj, fun q hq => by rw [up2_i (by omega)]; exact mt q hq, fun p hp => by rw [up2_i (by omega)]; exact ma p hp, fun p hp => by rw [up2_i (by omega)]; exact mu p hp, fun q hq => ?_, by rw [up2_i (by omega)]; exact m44, by rw [up2_i (by omega)]; exact m53⟩
  by_cases e : q = i
  · rw [e, up2_self]; exact (if_pos rfl).symm
  · rw [up2_i (by omega), mw q hq]; exact (if_neg e).symm
theorem GH.wish {A : Nat → Nat} {w : Nat} {W : Nat → Int32} {i r : Nat} (h : GH A w W) (hr : r < A 0) : GH A w (upd W i (nI r)) := by
  obtain ⟨a1, a2, a3, a4, a5, a6, a7, a8, a9, b1, b2, b3, b4, b5⟩ := h
  refine ⟨a1, a2, a3, a4, a5, a6, a7, a8, a9, b1, b2, b3, b4, fun q hq => ?_⟩
  by_cases e : q = i
  · rw [show upd W i (nI r) q = nI r from if_pos e]; exact Or.inr ⟨r, hr, rfl⟩
  · rw [show upd W i (nI r) q = W q from if_neg e]; exact b5 q hq
theorem GH.person {A : Nat → Nat} {w : Nat} {W : Nat → Int32} {r : Nat} (h : GH A w W) (h3 : A 3 ≤ 3) (hr : r < A 0) : GH (updN A 3 (A 3 + 1)) (w + r * 8 ^ A 3) W := by
  obtain ⟨a1, a2, a3, a4, a5, a6, a7, a8, a9, b1, b2, b3, b4, b5⟩ := h
  have o : ∀ j, j ≠ 3 → updN A 3 (A 3 + 1) j = A j := fun j hj => updN_n hj
  have hwv := b4.add (A2 := updN A 3 (A 3 + 1)) h3 hr a1.2 (o 0 (by decide)) (updN_s ..)
  unfold GH
  rw [o 0 (by decide), o 1 (by decide), o 2 (by decide), o 4 (by decide), o 44 (by decide), o 53 (by decide), updN_s]
  exact ⟨a1, a2, by omega, a4, a5, a6, a7, fun q hq => by rw [o _ (by omega)]; exact a8 q hq, fun q h1 h2 => by rw [o _ (by omega)]; exact a9 q h1 h2, fun x y hx hy => by rw [o _ (by omega), o _ (by omega)]; exact b1 x y hx hy, fun x hx => by rw [o _ (by omega)]; exact b2 x hx, fun q hq => by rw [o _ (by omega)]; exact b3 q hq, hwv, b5⟩
theorem HX.person {M : Mem} {A : Nat → Nat} {w : Nat} {W : Nat → Int32} {u : Nat} (h : HX 9 M A w W) : HX 9 (up2 (up2 (up2 M 9 3 (nI u)) 9 2 (nI (A 3 + 1))) 9 7 0) (updN A 3 (A 3 + 1)) u W := by
  obtain ⟨⟨x0, x1, x2, x3, x4, x5, x6, x7⟩, xd, xp, xt, xu, xw⟩ := h
  unfold HX
  rw [updN_s, updN_n (show 0 ≠ 3 by decide), updN_n (show 1 ≠ 3 by decide), updN_n (show 4 ≠ 3 by decide)]
  refine ⟨⟨?_, ?_, ?_, ?_, ?_, ?_, ?_, up2_self ..⟩, fun q hq => ?_, fun q hq => ?_, fun q hq => ?_, fun q hq => ?_, fun q hq => ?_⟩
  · rw [up2_i (by decide), up2_i (by decide), up2_i (by decide)]; exact x0
  · rw [up2_i (by decide), up2_i (by decide), up2_i (by decide)]; exact x1
  · rw [up2_i (by decide), up2_self]
  · rw [up2_i (by decide), up2_i (by decide), up2_self]
  · rw [up2_i (by decide), up2_i (by decide), up2_i (by decide)]; exact x4
  · rw [up2_i (by decide), up2_i (by decide), up2_i (by decide)]; exact x5
  · rw [up2_i (by decide), up2_i (by decide), up2_i (by decide)]; exact x6
  · rw [up2_c (by decide), up2_c (by decide), up2_c (by decide), updN_n (by omega)]; exact xd q hq
  · rw [up2_c (by decide), up2_c (by decide), up2_c (by decide), updN_n (by omega)]; exact xp q hq
  · rw [up2_c (by decide), up2_c (by decide), up2_c (by decide)]; exact xt q hq
  · rw [up2_c (by decide), up2_c (by decide), up2_c (by decide)]; exact xu q hq
  · rw [up2_c (by decide), up2_c (by decide), up2_c (by decide)]; exact xw q hq
theorem HM.person {K : Mem} {A : Nat → Nat} {w : Nat} {W : Nat → Int32} {r : Nat} (h : HM K A w W) (h3 : A 3 ≤ 3) (hw : w < 8 ^ A 3) (hr : r < 8) : HM (up2 (up2 (up2 (up2 K 75 (20 + A 3) (nI r)) 75 (24 + A 3) 0) 75 3 (nI (A 3 + 1))) 75 53 0) (updN A 3 (A 3 + 1)) (w + r * 8 ^ A 3) W := by
  obtain ⟨m0, mt, ma, mu, mw, m44, m53⟩ := h
  unfold HM
  rw [updN_s]
  refine ⟨fun j hj => ?_, fun q hq => ?_, fun p hp => ?_, fun p hp => ?_, fun i hi => ?_, ?_, up2_self ..⟩
  · rw [up2_i (by omega)]
    by_cases e : j = 3
    · rw [e, up2_self, updN_s]
    · rw [up2_i e, up2_i (by omega), up2_i (by omega), updN_n e]; exact m0 j hj
  · rw [up2_i (by omega), up2_i (by omega), up2_i (by omega), up2_i (by omega)]; exact mt q hq
  · rw [up2_i (by omega), up2_i (by omega), up2_i (by omega), dg_add hw hr]
    by_cases e : p = A 3
    · rw [e, up2_self, if_neg (Nat.lt_irrefl _), if_pos rfl]
    · rw [up2_i (by omega), if_pos (by omega)]; exact ma p (by omega)
  · rw [up2_i (by omega), up2_i (by omega)]
    by_cases e : p = A 3
    · rw [e, up2_self]
    · rw [up2_i (by omega), up2_i (by omega)]; exact mu p hp
  · rw [up2_i (by omega), up2_i (by omega), up2_i (by omega), up2_i (by omega)]; exact mw i hi
  · rw [up2_i (by omega), up2_i (by omega), up2_i (by omega), up2_i (by omega)]; exact m44
theorem HM.door {K : Mem} {A : Nat → Nat} {w : Nat} {W : Nat → Int32} {a b : Nat} (h : HM K A w W) (hab : a ≠ b) (ha : a < 5) (hb : b < 5) : HM (up2 (up2 K 75 (5 + a) (nI (setb (A (5 + a)) b true))) 75 (5 + b) (nI (setb (updN (fun q => A (5 + q)) a (setb (A (5 + a)) b true) b) a true))) (drA A (setD (fun q => A (5 + q)) a b true)) w W := by
  obtain ⟨m0, mt, ma, mu, mw, m44, m53⟩ := h
  unfold HM
  rw [drA_o (show 3 < 5 ∨ 10 ≤ 3 by omega)]
  refine ⟨fun j hj => ?_, fun q hq => by rw [up2_i (by omega), up2_i (by omega)]; exact mt q hq, fun p hp => by rw [up2_i (by omega), up2_i (by omega)]; exact ma p hp, fun p hp => by rw [up2_i (by omega), up2_i (by omega)]; exact mu p hp, fun i hi => by rw [up2_i (by omega), up2_i (by omega)]; exact mw i hi, by rw [up2_i (by omega), up2_i (by omega)]; exact m44, by rw [up2_i (by omega), up2_i (by omega)]; exact m53⟩
  by_cases c : 5 ≤ j ∧ j < 10
  · obtain ⟨q, rfl⟩ : ∃ q, j = 5 + q := ⟨j - 5, by omega⟩
    rw [drA_d (by omega)]
    unfold setD
    by_cases e1 : q = b
    · rw [e1, up2_self, updN_s]
    · rw [up2_i (by omega), updN_n e1]
      by_cases e2 : q = a
      · rw [e2, up2_self, updN_s]
      · rw [up2_i (by omega), updN_n e2]; exact m0 _ hj
  · rw [drA_o (by omega), up2_i (by omega), up2_i (by omega)]; exact m0 j hj
/-! ===== the model tells what it has read ===== -/
def telln : Nat → Mem → Option Mem
  | 0, K => some K
  | i + 1, K => bnd (telln i K) (fun K => fX12_tell (nI (4 * i)) K)
/-- telling m items of F makes the row so -/
def TSm (F : Nat → Int32) (m : Nat) (A : Nat → Nat) (w : Nat) (W : Nat → Int32) : Prop := ∀ K : Mem, (∀ x, x < 4 * m → K 79 x = F x) → (∃ K2, telln m K = some K2 ∧ HM K2 A w W ∧ (∀ k, 158 ≤ k → K2 75 k = K 75 k) ∧ ∀ c, c ≠ 75 → K2 c = K c) ∧ ∀ i, i ≤ m → ∃ K3, telln i K = some K3 ∧ ∀ c, c ≠ 75 → K3 c = K c
/-- what telling the item at m does -/
def TL (F : Nat → Int32) (m : Nat) (A : Nat → Nat) (w : Nat) (W : Nat → Int32) (A2 : Nat → Nat) (w2 : Nat) (W2 : Nat → Int32) : Prop := ∀ K : Mem, HM K A w W → (∀ x, x < 4 → K 79 (4 * m + x) = F (4 * m + x)) → ∃ K2, fX12_tell (nI (4 * m)) K = some K2 ∧ HM K2 A2 w2 W2 ∧ (∀ k, 158 ≤ k → K2 75 k = K 75 k) ∧ ∀ c, c ≠ 75 → K2 c = K c
theorem TSm.step {F F2 : Nat → Int32} {m : Nat} {A : Nat → Nat} {w : Nat} {W : Nat → Int32} {A2 : Nat → Nat} {w2 : Nat} {W2 : Nat → Int32} (h : TSm F m A w W) (hF : ∀ x, x < 4 * m → F2 x = F x) (ht : TL F2 m A w W A2 w2 W2) : TSm F2 (m + 1) A2 w2 W2 := fun K hK => by
  obtain ⟨⟨K2, a1, a2, a3, a4⟩, a5⟩ := h K (fun x hx => by rw [hK x (by omega)]; exact hF x hx)
  obtain ⟨K3, b1, b2, b3, b4⟩ := ht K2 a2 (fun x hx => by rw [a4 79 (by decide)]; exact hK _ (by omega))
  have e : telln (m + 1) K = some K3 := by
    rw [telln, bnd_s a1]
    exact b1
  refine ⟨⟨K3, e, b2, fun k hk => by rw [b3 k hk]; exact a3 k hk, fun c hc => by rw [b4 c hc]; exact a4 c hc⟩, fun i hi => ?_⟩
  by_cases c : i = m + 1
  · exact ⟨K3, by rw [c]; exact e, fun c hc => by rw [b4 c hc]; exact a4 c hc⟩
  · exact a5 i (by omega)
theorem tell_d {K : Mem} {m w a : Nat} {y : Int32} (hm : m ≤ 90) (h0 : K 79 (4 * m) = nI w) (h1 : K 79 (4 * m + 1) = nI a) (h2 : K 79 (4 * m + 2) = y) : fX12_tell (nI (4 * m)) K = if nI w = (0 : Int32) then bnd (fX12_clearAll (nI a) K) (fun I_8 => some I_8) else if nI w = (1 : Int32) then bnd (fX12_layDoor (nI a) (y) 1 K) (fun I_11 => some I_11) else if nI w = (2 : Int32) then some (up2 K 75 4 (K 75 4 ||| ((1 : Int32) <<< (nI a &&& 31)))) else if nI w = (3 : Int32) then chk (inb ((10 : Int32) + nI a) 632) (some (up2 K 75 (ix ((10 : Int32) + nI a)) (y))) else if nI w = (4 : Int32) then bnd2 (fX12_addPerson (nI a) K) (fun _ I_22 => some I_22) else if nI w = (5 : Int32) then chk (inb ((((28 : Int32) + ((4 : Int32) * nI a)) + y) - (1 : Int32)) 632) (some (up2 K 75 (ix ((((28 : Int32) + ((4 : Int32) * nI a)) + y) - (1 : Int32))) (K 79 (4 * m + 3)))) else some (up2 K 75 1 (nI a)) := by
  unfold fX12_tell
  dsimp only [letb]
  rw [show nI (4 * m) + (1 : Int32) = nI (4 * m + 1) from nI_add _ 1, show nI (4 * m) + (2 : Int32) = nI (4 * m + 2) from nI_add _ 2, show nI (4 * m) + (3 : Int32) = nI (4 * m + 3) from nI_add _ 3, chk_t (inb_n (show 4 * m + 1 < 400 by omega) (by decide)), ix_n (show 4 * m + 1 < 2 ^ 31 by omega), h1, chk_t (inb_n (show 4 * m + 2 < 400 by omega) (by decide)), ix_n (show 4 * m + 2 < 2 ^ 31 by omega), h2, chk_t (inb_n (show 4 * m < 400 by omega) (by decide)), ix_n (show 4 * m < 2 ^ 31 by omega), h0, chk_t (inb_n (show 4 * m + 3 < 400 by omega) (by decide)), ix_n (show 4 * m + 3 < 2 ^ 31 by omega)]
  rfl
theorem tl_door {F : Nat → Int32} {m : Nat} {A : Nat → Nat} {w : Nat} {W : Nat → Int32} {a b : Nat} (hm : m ≤ 90) (hg : GH A w W) (h0 : F (4 * m) = nI 1) (h1 : F (4 * m + 1) = nI a) (h2 : F (4 * m + 2) = nI b) (hab : a ≠ b) (ha : a < A 0) (hb : b < A 0) : TL F m A w W (drA A (setD (fun q => A (5 + q)) a b true)) w W := fun K hK hF => by
  have h05 := hg.1.2
  have h32 := pow_le32 h05
  have e := hK.door (a := a) (b := b) hab (by omega) (by omega)
  have hl := layDoor_n (v := true) (D := fun q => A (5 + q)) (I := K) (show a < 5 by omega) (show b < 5 by omega) (fun q hq => hK.1 _ (by omega)) (fun q hq => by have := hg.2.2.2.2.2.2.2.1 q hq; show A (5 + q) < 32; omega)
  refine ⟨_, ?_, e, fun k hk => by rw [up2_i (by omega), up2_i (by omega)], fun c hc => by rw [up2_cc hc, up2_cc hc]⟩
  rw [tell_d hm ((hF 0 (by omega)).trans h0) ((hF 1 (by omega)).trans h1) ((hF 2 (by omega)).trans h2), if_neg (by decide), if_pos (by decide), bnd_s (show fX12_layDoor (nI a) (nI b) 1 K = _ from hl)]
theorem tl_cat {F : Nat → Int32} {m : Nat} {A : Nat → Nat} {w : Nat} {W : Nat → Int32} {a : Nat} (hm : m ≤ 90) (h0 : F (4 * m) = nI 2) (h1 : F (4 * m + 1) = nI a) (ha : a < 5) : TL F m A w W (updN A 4 (A 4 ||| 2 ^ a)) w W := fun K hK hF => by
  refine ⟨up2 K 75 4 (nI (A 4 ||| 2 ^ a)), ?_, hK.upN (by omega) (by omega), fun k hk => by rw [up2_i (by omega)], fun c hc => by rw [up2_cc hc]⟩
  rw [tell_d hm ((hF 0 (by omega)).trans h0) ((hF 1 (by omega)).trans h1) rfl, if_neg (by decide), if_neg (by decide), if_pos (by decide), hK.1 4 (by omega), n_one (show a < 32 by omega), n_or]
theorem tl_sill {F : Nat → Int32} {m : Nat} {A : Nat → Nat} {w : Nat} {W : Nat → Int32} {a b : Nat} (hm : m ≤ 90) (h0 : F (4 * m) = nI 3) (h1 : F (4 * m + 1) = nI a) (h2 : F (4 * m + 2) = nI b) (ha : a < 5) : TL F m A w W (updN A (10 + a) b) w W := fun K hK hF => by
  refine ⟨up2 K 75 (10 + a) (nI b), ?_, hK.upN (by omega) (by omega), fun k hk => by rw [up2_i (by omega)], fun c hc => by rw [up2_cc hc]⟩
  rw [tell_d hm ((hF 0 (by omega)).trans h0) ((hF 1 (by omega)).trans h1) ((hF 2 (by omega)).trans h2), if_neg (by decide), if_neg (by decide), if_neg (by decide), if_pos (by decide), show (10 : Int32) = nI 10 from rfl, nI_add, chk_t (inb_n (by omega) (by decide)), ix_n (by omega)]
theorem tl_person {F : Nat → Int32} {m : Nat} {A : Nat → Nat} {w : Nat} {W : Nat → Int32} {a : Nat} (hm : m ≤ 90) (hg : GH A w W) (h0 : F (4 * m) = nI 4) (h1 : F (4 * m + 1) = nI a) (ha : a < A 0) (h3 : A 3 ≤ 3) : TL F m A w W (updN A 3 (A 3 + 1)) (w + a * 8 ^ A 3) W := fun K hK hF => by
  have h05 := hg.1.2
  have hw : w < 8 ^ A 3 := hg.2.2.2.2.2.2.2.2.2.2.2.2.1.1
  refine ⟨_, ?_, hK.person h3 hw (show a < 8 by omega), fun k hk => by rw [up2_i (by omega), up2_i (by omega), up2_i (by omega), up2_i (by omega)], fun c hc => by rw [up2_cc hc, up2_cc hc, up2_cc hc, up2_cc hc]⟩
  rw [tell_d hm ((hF 0 (by omega)).trans h0) ((hF 1 (by omega)).trans h1) rfl, if_neg (by decide), if_neg (by decide), if_neg (by decide), if_neg (by decide), if_pos (by decide), bnd2_s (addPerson_n (hK.1 3 (by omega)) h3)]
theorem tl_wish {F : Nat → Int32} {m : Nat} {A : Nat → Nat} {w : Nat} {W : Nat → Int32} {a b r : Nat} (hm : m ≤ 90) (hg : GH A w W) (h0 : F (4 * m) = nI 5) (h1 : F (4 * m + 1) = nI a) (h2 : F (4 * m + 2) = nI b) (hr : F (4 * m + 3) = nI r) (ha : a < A 3) (hb1 : 1 ≤ b) (hb : b ≤ 4) : TL F m A w W A w (upd W (4 * a + (b - 1)) (nI r)) := fun K hK hF => by
  have h34 := hg.2.2.1
  refine ⟨up2 K 75 (28 + (4 * a + (b - 1))) (nI r), ?_, hK.wish (by omega) h34, fun k hk => by rw [up2_i (by omega)], fun c hc => by rw [up2_cc hc]⟩
  have e : (((28 : Int32) + ((4 : Int32) * nI a)) + nI b) - (1 : Int32) = nI (28 + (4 * a + (b - 1))) := by
    rw [show (28 : Int32) = nI 28 from rfl, show (4 : Int32) = nI 4 from rfl, pk_mul, nI_add, nI_add, show (1 : Int32) = nI 1 from rfl, pk_sub (by omega)]
    congr 1
    omega
  rw [tell_d hm ((hF 0 (by omega)).trans h0) ((hF 1 (by omega)).trans h1) ((hF 2 (by omega)).trans h2), if_neg (by decide), if_neg (by decide), if_neg (by decide), if_neg (by decide), if_neg (by decide), if_pos (by decide), e, chk_t (inb_n (by omega) (by decide)), ix_n (by omega), (hF 3 (by omega)).trans hr]
theorem tl_law {F : Nat → Int32} {m : Nat} {A : Nat → Nat} {w : Nat} {W : Nat → Int32} {a : Nat} (hm : m ≤ 90) (h0 : F (4 * m) = nI 6) (h1 : F (4 * m + 1) = nI a) : TL F m A w W (updN A 1 a) w W := fun K hK hF => by
  refine ⟨up2 K 75 1 (nI a), ?_, hK.upN (by omega) (by omega), fun k hk => by rw [up2_i (by omega)], fun c hc => by rw [up2_cc hc]⟩
  rw [tell_d hm ((hF 0 (by omega)).trans h0) ((hF 1 (by omega)).trans h1) rfl, if_neg (by decide), if_neg (by decide), if_neg (by decide), if_neg (by decide), if_neg (by decide), if_neg (by decide)]
