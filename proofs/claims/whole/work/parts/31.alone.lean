/-! ===== who may go where, who is alone, who lays ===== -/
/-- one may be there behind a beat -/
def goP (D : Nat → Nat) (s t p : Nat) : Bool := (D (dg s p) ||| 2 ^ dg s p).testBit (dg t p)
theorem goP_eq (D : Nat → Nat) (s t p : Nat) : goP D s t p = ((dg s p == dg t p) || (D (dg s p)).testBit (dg t p)) := by
  unfold goP
  rw [Nat.testBit_or, Nat.testBit_two_pow, Bool.or_comm]
  rfl
theorem or_lt32 {a r : Nat} (ha : a < 32) (hr : r < 5) : a ||| 2 ^ r < 32 := by
  have h2 : 2 ^ r < 2 ^ 5 := Nat.pow_lt_pow_right (by decide) hr
  exact Nat.or_lt_two_pow (n := 5) ha h2
theorem reach_n {b r a : Nat} {I : Mem} (hr : r < 5) (h : I (b + 1) r = nI a) : fX4_reach b (nI r) I = some (nI (a ||| 2 ^ r)) := by
  unfold fX4_reach
  rw [chk_t (inb_n hr (by decide)), ix_n (by omega), h, n_one (by omega), n_or]
theorem canGo_n {b np s t : Nat} {D : Nat → Nat} {I : Mem} (h2 : I b 2 = nI np) (hnp : np ≤ 4) (hd : ∀ r, r < 5 → I (b + 1) r = nI (D r)) (hD : ∀ r, r < 5 → D r < 32) (hs : s < 2 ^ 31) (ht : t < 2 ^ 31) (hv : ∀ p, p < np → dg s p < 5) : fX4_canGo b (nI s) (nI t) I = some (b2i (allB (goP D s t) np)) := by
  unfold fX4_canGo
  refine iter_allF _ np (FU_lt (by omega)) (fun i hi => ?_) ?_
  · unfold sX4_canGo_2 bX4_canGo_2
    have hr := hv i hi
    rw [h2, if_neg (by rw [nI_leI (by omega) (by omega)]; omega), bnd_s (roomOf_n I hs (by omega)), bnd_s (reach_n hr (hd _ hr)), bnd_s (roomOf_n I ht (by omega)), bnd_s (has_n I (by have := or_lt32 (hD _ hr) hr; omega) (by have := dg_lt t i; omega)), show (D (dg s i) ||| 2 ^ dg s i).testBit (dg t i) = goP D s t i from rfl]
    cases goP D s t i
    · rfl
    · rw [if_neg (by decide), if_pos rfl, nI_1]
  · unfold sX4_canGo_2 bX4_canGo_2
    rw [h2, if_pos (by rw [nI_leI (by omega) (by omega)]; omega)]
theorem mayGo_n {np s t : Nat} {D : Nat → Nat} {I : Mem} (h2 : I 75 3 = nI np) (hnp : np ≤ 4) (hd : ∀ r, r < 5 → I 75 (5 + r) = nI (D r)) (hD : ∀ r, r < 5 → D r < 32) (hs : s < 2 ^ 31) (ht : t < 2 ^ 31) (hv : ∀ p, p < np → dg s p < 5) : fX12_mayGo (nI s) (nI t) I = some (b2i (allB (goP D s t) np)) := by
  unfold fX12_mayGo
  refine iter_go (fun i => (b2i (allB (goP D s t) i), nI i)) np (FU_lt (by omega)) ?_ (fun i hi => ?_)
  · unfold sX12_mayGo_5 bX12_mayGo_5
    rw [chk_t (by decide), show ix (3 : Int32) = 3 from rfl, h2]
    dsimp only
    rw [if_pos (by rw [nI_leI (by omega) (by omega)]; omega), chk_t (b2i_zb _)]
  · unfold sX12_mayGo_5 bX12_mayGo_5
    have hr := hv i hi
    rw [chk_t (by decide), show ix (3 : Int32) = 3 from rfl, h2]
    dsimp only
    rw [if_neg (by rw [nI_leI (by omega) (by omega)]; omega), bnd_s (roomIn_n I hs (by omega)), bnd_s (roomIn_n I ht (by omega)), allB, nI_1]
    by_cases c : allB (goP D s t) i = true
    · rw [c, if_neg (by decide), goP_eq]
      by_cases e : dg s i = dg t i
      · rw [if_pos (by rw [e]), e]
        simp [b2i]
      · have hlt := dg_lt t i
        rw [if_neg (by rw [nI_eq (by omega) (by omega)]; exact e), show (5 : Int32) = nI 5 from rfl, nI_add, chk_t (inb_n (by omega) (by decide)), ix_n (by omega), hd _ hr, bnd_s (hasM_n I (by have := hD _ hr; omega) (by omega))]
        have e2 : (dg s i == dg t i) = false := by rw [beq_eq_false_iff_ne]; exact e
        rw [e2]
        cases (D (dg s i)).testBit (dg t i) <;> rfl
    · have c2 : allB (goP D s t) i = false := by simpa using c
      rw [c2]
      rfl
/-- who is alone -/
def lonB (np ct s p : Nat) : Bool := !ct.testBit (dg s p) && allB (fun q => q == p || dg s q != dg s p) np
theorem isAlone_n {np ct s p : Nat} {I : Mem} (h2 : I 75 3 = nI np) (hnp : np ≤ 4) (h4 : I 75 4 = nI ct) (hct : ct < 32) (hs : s < 2 ^ 31) (hp : p ≤ 9) : fX12_isAlone (nI s) (nI p) I = some (b2i (lonB np ct s p)) := by
  have hlt := dg_lt s p
  have key : ∀ c : Bool, jX12_isAlone_24 (nI s) (nI p) (nI (dg s p)) (b2i c) I = some (b2i (c && allB (fun q => q == p || dg s q != dg s p) np)) := by
    intro c
    unfold jX12_isAlone_24
    have e0 : (b2i c, (0 : Int32)) = (fun i => (b2i (c && allB (fun q => q == p || dg s q != dg s p) i), nI i)) 0 := by
      show _ = (b2i (c && true), nI 0)
      rw [Bool.and_true]
      rfl
    rw [e0]
    refine iter_go (fun i => (b2i (c && allB (fun q => q == p || dg s q != dg s p) i), nI i)) np (FU_lt (by omega)) ?_ (fun i hi => ?_)
    · unfold sX12_isAlone_29 bX12_isAlone_29
      rw [chk_t (by decide), show ix (3 : Int32) = 3 from rfl, h2]
      dsimp only
      rw [if_pos (by rw [nI_leI (by omega) (by omega)]; omega), chk_t (b2i_zb _)]
    · unfold sX12_isAlone_29 bX12_isAlone_29
      rw [chk_t (by decide), show ix (3 : Int32) = 3 from rfl, h2]
      dsimp only
      rw [if_neg (by rw [nI_leI (by omega) (by omega)]; omega), allB, nI_1]
      by_cases c1 : (c && allB (fun q => q == p || dg s q != dg s p) i) = true
      · rw [c1, if_neg (by decide), ← Bool.and_assoc, c1, Bool.true_and]
        by_cases e : i = p
        · rw [if_pos (by rw [e]), e]
          simp [b2i]
        · have hl2 := dg_lt s i
          rw [if_neg (by rw [nI_eq (by omega) (by omega)]; exact e), bnd_s (roomIn_n I hs (by omega))]
          have e2 : (i == p) = false := by rw [beq_eq_false_iff_ne]; exact e
          rw [e2, Bool.false_or]
          by_cases e3 : dg s i = dg s p
          · rw [if_pos (by rw [e3]), e3]
            simp [b2i]
          · rw [if_neg (by rw [nI_eq (by omega) (by omega)]; exact e3)]
            have e4 : (dg s i != dg s p) = true := by rw [bne_iff_ne]; exact e3
            rw [e4]
            rfl
      · have c2 : (c && allB (fun q => q == p || dg s q != dg s p) i) = false := by simpa using c1
        rw [c2, ← Bool.and_assoc, c2]
        rfl
  unfold fX12_isAlone
  rw [bnd_s (roomIn_n I hs hp), chk_t (by decide), show ix (4 : Int32) = 4 from rfl, h4, bnd_s (hasM_n I (by omega) (by omega))]
  unfold lonB
  cases hb : ct.testBit (dg s p)
  · rw [if_pos (by decide)]
    exact key true
  · rw [if_neg (by decide)]
    exact key false
