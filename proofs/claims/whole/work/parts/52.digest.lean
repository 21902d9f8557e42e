/-! ===== digest ===== -/
def h1 (l : Int64) (x : Int32) : Int64 := 31 * l + x.toInt64
def hF (g : Nat → Int32) (l : Int64) : Nat → Int64
  | 0 => l
  | i + 1 => h1 (hF g l i) (g i)
def hP (u wi : Nat → Int32) (l : Int64) : Nat → Int64
  | 0 => l
  | p + 1 => hF (fun k => wi (4 * p + k)) (h1 (hP u wi l p) (u p)) 4
def hR (pe ca dr to : Nat → Int32) (l : Int64) : Nat → Int64
  | 0 => l
  | r + 1 => h1 (h1 (h1 (h1 (hR pe ca dr to l r) (pe r)) (ca r)) (dr r)) (to r)
theorem b2i_n (b : Bool) : nI (b2i b).toNatClampNeg = b2i b := by cases b <;> decide
theorem ok_digest {T : Nat} {I : Mem} (h : Sim T I) : ∃ v, fX11_digest I = some (v, I) ∧ fX12_digest I = some v := by
  obtain ⟨A, w, pw, hc, hv, hb, ⟨g0, g1, g2, g3, g4, g5, g6, g7⟩, gd, gp, hr⟩ := h.get
  obtain ⟨len, t1, t2, t3, t4⟩ := h.2.2.2.1
  have hn : A 0 ≤ 5 ∧ A 3 ≤ 4 ∧ A 44 ≤ 8 ∧ A 4 < 2 ^ A 0 := by unfold BA at hb; omega
  have h32 := pow_le32 hn.1
  have eu : ∀ p, p < 4 → I 5 p = I 75 (24 + p) := fun p hp => by
    have e2 := hc.at (k := 24 + p) (Or.inr (Or.inl (by omega)))
    rw [(lo_24 p hp).1, (lo_24 p hp).2] at e2
    exact e2
  have ew : ∀ p, p < 16 → I 6 p = I 75 (28 + p) := fun p hp => by
    have e2 := hc.at (k := 28 + p) (Or.inr (Or.inl (by omega)))
    rw [(lo_28 p hp).1, (lo_28 p hp).2] at e2
    exact e2
  have et : ∀ p, p < 5 → I 4 p = I 75 (15 + p) := fun p hp => by
    have e2 := hc.at (k := 15 + p) (Or.inl (by omega))
    rw [(lo_15 p hp).1, (lo_15 p hp).2] at e2
    exact e2
  have ep : ∀ p, p < A 44 → I 7 p = I 75 (45 + p) := fun p hp => by
    have e2 := hc.at (k := 45 + p) (Or.inr (Or.inr (Or.inl (by omega))))
    rw [(lo_45 p (by omega)).1, (lo_45 p (by omega)).2] at e2
    exact e2
  have ed : ∀ q, q < 5 → I 2 q = I 75 (5 + q) := fun q hq => by rw [gd q hq, hr _ (Or.inl (by omega))]
  have epe : ∀ q, q < 5 → I 3 q = I 75 (10 + q) := fun q hq => by rw [gp q hq, hr _ (Or.inl (by omega))]
  generalize hlc : hF (fun k => cvA A len k) 757 8 = lc
  generalize hl2 : h1 (h1 lc (nI (A 1))) (nI w) = l2
  generalize hl3 : hP (fun p => I 75 (24 + p)) (fun p => I 75 (28 + p)) l2 (A 3) = l3
  generalize hl4 : hR (fun p => I 75 (10 + p)) (fun r => b2i ((A 4).testBit r)) (fun p => I 75 (5 + p)) (fun p => I 75 (15 + p)) l3 (A 0) = l4
  generalize hl5 : hF (fun p => I 75 (45 + p)) l4 (A 44) = l5
  refine ⟨l5, ?_, ?_⟩
  · -- the class
    have s4 : iter (sX11_digest_233 I) FU (l4, (0 : Int32)) = some (l5, I) := by
      rw [← hl5]
      refine iter_go (fun i => (hF (fun p => I 75 (45 + p)) l4 i, nI i)) (A 44) (FU_lt (by omega)) ?_ (fun i hi => ?_)
      · unfold sX11_digest_233 bX11_digest_233
        dsimp only
        rw [g6, if_pos (by rw [nI_leI (by omega) (by omega)]; omega)]
      · unfold sX11_digest_233 bX11_digest_233
        dsimp only
        rw [g6, if_neg (by rw [nI_leI (by omega) (by omega)]; omega), chk_t (inb_n (by omega) (by decide)), ix_n (by omega), ep i hi, nI_1]
        rfl
    have s3 : iter (sX11_digest_136 I) FU (l3, (0 : Int32)) = some (l5, I) := by
      refine iter_go (fun i => (hR (fun p => I 75 (10 + p)) (fun r => b2i ((A 4).testBit r)) (fun p => I 75 (5 + p)) (fun p => I 75 (15 + p)) l3 i, nI i)) (A 0) (FU_lt (by omega)) ?_ (fun i hi => ?_)
      · unfold sX11_digest_136 bX11_digest_136
        dsimp only
        rw [g0, if_pos (by rw [nI_leI (by omega) (by omega)]; omega), hl4]
        exact inrO_s s4
      · unfold sX11_digest_136 bX11_digest_136
        dsimp only
        have hj : ∀ (u0 : Int32) (l : Int64), jX11_digest_188 (nI i) u0 (31 * l) I = some (.inl (h1 (h1 (h1 l u0) (I 75 (5 + i))) (I 75 (15 + i)), nI (i + 1))) := fun u0 l => by
          unfold jX11_digest_188
          dsimp only [letb]
          rw [chk_t (inb_n (by omega) (by decide)), chk_t (inb_n (by omega) (by decide)), ix_n (by omega), ed i (by omega), et i (by omega), nI_1]
          rfl
        rw [g0, if_neg (by rw [nI_leI (by omega) (by omega)]; omega), chk_t (inb_n (by omega) (by decide)), ix_n (by omega), epe i (by omega)]
        dsimp only [letb]
        rw [g1, bnd_s (has_n I (by omega) (by omega)), hj, hj, hR]
        cases (A 4).testBit i <;> rfl
    have s2 : iter (sX11_digest_63 I) FU (l2, (0 : Int32)) = some (l5, I) := by
      refine iter_go (fun i => (hP (fun p => I 75 (24 + p)) (fun p => I 75 (28 + p)) l2 i, nI i)) (A 3) (FU_lt (by omega)) ?_ (fun i hi => ?_)
      · unfold sX11_digest_63 bX11_digest_63
        dsimp only
        rw [g2, if_pos (by rw [nI_leI (by omega) (by omega)]; omega), hl3]
        exact inrO_s s3
      · unfold sX11_digest_63 bX11_digest_63
        dsimp only
        rw [g2, if_neg (by rw [nI_leI (by omega) (by omega)]; omega), chk_t (inb_n (by omega) (by decide)), ix_n (by omega), eu i (by omega)]
        dsimp only [letb]
        generalize hl : 31 * hP (fun p => I 75 (24 + p)) (fun p => I 75 (28 + p)) l2 i + (I 75 (24 + i)).toInt64 = l
        have e9 : hP (fun p => I 75 (24 + p)) (fun p => I 75 (28 + p)) l2 (i + 1) = hF (fun k => I 75 (28 + (4 * i + k))) l 4 := by rw [hP, ← hl]; rfl
        rw [e9]
        refine iter_go (fun k => (hF (fun k => I 75 (28 + (4 * i + k))) l k, nI (k + 1))) 4 (FU_lt (by omega)) ?_ (fun k hk => ?_)
        · unfold sX11_digest_94 bX11_digest_94
          dsimp only
          rw [if_pos (show (4 : Int32) < nI (4 + 1) by decide), nI_1]
        · unfold sX11_digest_94 bX11_digest_94
          dsimp only
          have ewp : fX11_wishPlace (nI i) (nI (k + 1)) I = some (nI (4 * i + k)) := by
            unfold fX11_wishPlace
            rw [show (4 : Int32) = nI 4 from rfl, pk_mul, nI_add, show (1 : Int32) = nI 1 from rfl, pk_sub (by omega)]
            congr 2
            omega
          rw [if_neg (show ¬ (4 : Int32) < nI (k + 1) from nI_nlt (a := 4) (by omega) (by decide)), bnd_s ewp, chk_t (inb_n (by omega) (by decide)), ix_n (by omega), ew _ (by omega), nI_1]
          rfl
    unfold fX11_digest
    refine iter_go (fun i => (hF (fun k => cvA A len k) 757 i, nI i, I)) 8 (FU_lt (by decide)) ?_ (fun i hi => ?_)
    · unfold sX11_digest_6 bX11_digest_6
      dsimp only
      rw [if_pos (show (8 : Int32) ≤ nI 8 by decide), hlc, g4, g3]
      dsimp only [letb]
      refine inrO_s ?_
      have : 31 * (31 * lc + (nI (A 1)).toInt64) + (nI w).toInt64 = l2 := hl2
      rw [this]
      exact s2
    · unfold sX11_digest_6 bX11_digest_6
      dsimp only
      rw [if_neg (show ¬ (8 : Int32) ≤ nI i from nI_ge (b := 8) hi (by decide)), bnd2_s (countX_n hb ⟨g0, g1, g2, g5, g6, g7⟩ gd t2 hi), nI_1]
      rfl
  · have s4 : iter (sX12_digest_217 I) FU (l4, (0 : Int32)) = some l5 := by
      rw [← hl5]
      refine iter_go (fun i => (hF (fun p => I 75 (45 + p)) l4 i, nI i)) (A 44) (FU_lt (by omega)) ?_ (fun i hi => ?_)
      · unfold sX12_digest_217 bX12_digest_217
        dsimp only
        rw [chk_t (by decide), show ix (44 : Int32) = 44 from rfl, hr 44 (Or.inr (Or.inl rfl)), if_pos (by rw [nI_leI (by omega) (by omega)]; omega)]
      · unfold sX12_digest_217 bX12_digest_217
        dsimp only
        rw [chk_t (by decide), show ix (44 : Int32) = 44 from rfl, hr 44 (Or.inr (Or.inl rfl)), if_neg (by rw [nI_leI (by omega) (by omega)]; omega), show (45 : Int32) = nI 45 from rfl, nI_add, chk_t (inb_n (by omega) (by decide)), ix_n (by omega), nI_1]
        rfl
    have s3 : iter (sX12_digest_131 I) FU (l3, (0 : Int32)) = some l5 := by
      refine iter_go (fun i => (hR (fun p => I 75 (10 + p)) (fun r => b2i ((A 4).testBit r)) (fun p => I 75 (5 + p)) (fun p => I 75 (15 + p)) l3 i, nI i)) (A 0) (FU_lt (by omega)) ?_ (fun i hi => ?_)
      · unfold sX12_digest_131 bX12_digest_131
        dsimp only
        rw [chk_t (by decide), show ix (0 : Int32) = 0 from rfl, hr 0 (Or.inl (by decide)), if_pos (by rw [nI_leI (by omega) (by omega)]; omega), hl4]
        exact inrO_s s4
      · unfold sX12_digest_131 bX12_digest_131
        dsimp only
        rw [chk_t (by decide), show ix (0 : Int32) = 0 from rfl, hr 0 (Or.inl (by decide)), if_neg (by rw [nI_leI (by omega) (by omega)]; omega), show (10 : Int32) = nI 10 from rfl, show (5 : Int32) = nI 5 from rfl, show (15 : Int32) = nI 15 from rfl, nI_add, nI_add, nI_add, chk_t (inb_n (by omega) (by decide)), ix_n (by omega), ix_n (by omega), ix_n (by omega)]
        dsimp only [letb]
        rw [chk_t (by decide), chk_t (inb_n (by omega) (by decide)), chk_t (inb_n (by omega) (by decide)), show ix (4 : Int32) = 4 from rfl, hr 4 (Or.inl (by decide)), bit_0 (by omega) (by omega), b2i_n, nI_1]
        rfl
    have s2 : iter (sX12_digest_59 I) FU (l2, (0 : Int32)) = some l5 := by
      refine iter_go (fun i => (hP (fun p => I 75 (24 + p)) (fun p => I 75 (28 + p)) l2 i, nI i)) (A 3) (FU_lt (by omega)) ?_ (fun i hi => ?_)
      · unfold sX12_digest_59 bX12_digest_59
        dsimp only
        rw [chk_t (by decide), show ix (3 : Int32) = 3 from rfl, hr 3 (Or.inl (by decide)), if_pos (by rw [nI_leI (by omega) (by omega)]; omega), hl3]
        exact inrO_s s3
      · unfold sX12_digest_59 bX12_digest_59
        dsimp only
        rw [chk_t (by decide), show ix (3 : Int32) = 3 from rfl, hr 3 (Or.inl (by decide)), if_neg (by rw [nI_leI (by omega) (by omega)]; omega), show (24 : Int32) = nI 24 from rfl, nI_add, chk_t (inb_n (by omega) (by decide)), ix_n (by omega)]
        dsimp only [letb]
        generalize hl : 31 * hP (fun p => I 75 (24 + p)) (fun p => I 75 (28 + p)) l2 i + (I 75 (24 + i)).toInt64 = l
        have e9 : hP (fun p => I 75 (24 + p)) (fun p => I 75 (28 + p)) l2 (i + 1) = hF (fun k => I 75 (28 + (4 * i + k))) l 4 := by rw [hP, ← hl]; rfl
        rw [e9]
        refine iter_go (fun k => (hF (fun k => I 75 (28 + (4 * i + k))) l k, nI k)) 4 (FU_lt (by omega)) ?_ (fun k hk => ?_)
        · unfold sX12_digest_89 bX12_digest_89
          dsimp only
          rw [if_pos (show (4 : Int32) ≤ nI 4 by decide), nI_1]
        · unfold sX12_digest_89 bX12_digest_89
          dsimp only
          have ewp : (28 : Int32) + (4 : Int32) * nI i + nI k = nI (28 + (4 * i + k)) := by
            rw [show (4 : Int32) = nI 4 from rfl, pk_mul, show (28 : Int32) = nI 28 from rfl, nI_add, nI_add, Nat.add_assoc]
          rw [if_neg (show ¬ (4 : Int32) ≤ nI k from nI_ge (b := 4) hk (by decide)), ewp, chk_t (inb_n (by omega) (by decide)), ix_n (by omega), nI_1]
          rfl
    unfold fX12_digest
    refine iter_go (fun i => (hF (fun k => cvA A len k) 757 i, nI i)) 8 (FU_lt (by decide)) ?_ (fun i hi => ?_)
    · unfold sX12_digest_6 bX12_digest_6
      dsimp only
      rw [if_pos (show (8 : Int32) ≤ nI 8 by decide), hlc, chk_t (by decide), show ix (1 : Int32) = 1 from rfl, hr 1 (Or.inl (by decide))]
      dsimp only [letb]
      rw [bnd_s (now_v hv)]
      refine inrO_s ?_
      have : 31 * (31 * lc + (nI (A 1)).toInt64) + (nI w).toInt64 = l2 := hl2
      rw [this]
      exact s2
    · unfold sX12_digest_6 bX12_digest_6
      dsimp only
      rw [if_neg (show ¬ (8 : Int32) ≤ nI i from nI_ge (b := 8) hi (by decide)), bnd_s (countOf_n hr (hb.dg.lt hn.1) (by omega) t3 hi), nI_1]
      rfl
