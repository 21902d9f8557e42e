/-! ===== least ===== -/
/-- the wishes of a row -/
def wfI (r : Nat → Int32) (p k : Nat) : Option Nat := if r (28 + (4 * p + (k - 1))) = -1 then none else some (r (28 + (4 * p + (k - 1)))).toNatClampNeg
theorem wfI_o {T : Nat} {r : Nat → Int32} {A : Nat → Nat} {w : Nat} {pw : Nat → Nat} (hv : VR T r A w pw) {p k : Nat} (hp : p < 4) (hk : k ≤ 4) (hk1 : 1 ≤ k) : r (28 + (4 * p + (k - 1))) = oI (wfI r p k) ∧ ∀ q, wfI r p k = some q → q < A 0 := by
  have hb : A 0 ≤ 5 := by have := hv.1; unfold BA at this; omega
  unfold wfI
  rcases hv.2.2.2.2.2.1 (4 * p + (k - 1)) (by omega) with e | ⟨q, hq, e⟩
  · rw [e]
    exact ⟨rfl, fun q hq => by cases hq⟩
  · rw [e, if_neg (n_ne1 (by omega)), nI_clamp (by omega)]
    exact ⟨rfl, fun q2 hq2 => by cases hq2; exact hq⟩
theorem Sim.hf {T : Nat} {I : Mem} {A : Nat → Nat} {w : Nat} {pw : Nat → Nat} (hT : T ≤ 1000) (hc : CV I 1 0 (A 44) (A 53) w pw) (hv : VR T (I 75) A w pw) (g : I 1 0 = nI (A 0) ∧ I 1 1 = nI (A 4) ∧ I 1 2 = nI (A 3) ∧ I 1 3 = nI w ∧ I 1 5 = nI (A 2)) (gd : ∀ q, q < 5 → I 2 q = nI (A (5 + q))) : HF I 1 (A 0) (A 3) (A 4) (A 1) (A 2) w (fun q => A (5 + q)) (wfI (I 75)) := by
  obtain ⟨c1, c2, c3, c4, c5, c6, c7, c8, c9, d1, d2, d3, d4⟩ := id hv.1
  have h32 := pow_le32 c1.2
  refine ⟨Or.inl rfl, c1, c3, by omega, c2, by omega, ⟨g.1, g.2.2.1, g.2.1, g.2.2.2.2, g.2.2.2.1⟩, enA_mem c1.2 hv.2.2.1.1 hv.2.2.1.2, gd, c9, fun p k hp hk1 hk => ?_, fun p k q hp hk1 hk hq => ?_⟩
  · have e := hc.at (k := 28 + (4 * p + (k - 1))) (Or.inr (Or.inl (by omega)))
    have l := lo_28 (4 * p + (k - 1)) (by omega)
    rw [l.1, l.2] at e
    exact e.trans (wfI_o hv (by omega) hk hk1).1
  · exact (wfI_o hv (show p < 4 by omega) hk hk1).2 q hq
theorem Sim.mf {T : Nat} {I J : Mem} {A : Nat → Nat} {w : Nat} {pw : Nat → Nat} (hT : T ≤ 1000) (hv : VR T (I 75) A w pw) (hj : J 75 = I 75) (hj2 : J 74 15 = -1) : MF J (A 0) (A 3) (A 4) (A 1) (A 2) 9 (fun q => A (5 + q)) (wfI (I 75)) := by
  obtain ⟨c1, c2, c3, c4, c5, c6, c7, c8, c9, d1, d2, d3, d4⟩ := id hv.1
  have h32 := pow_le32 c1.2
  have hr := hv.2.1
  refine ⟨c1, c3, by omega, c2, by omega, ⟨by rw [hj]; exact hr 0 (Or.inl (by decide)), by rw [hj]; exact hr 3 (Or.inl (by decide)), by rw [hj]; exact hr 4 (Or.inl (by decide)), by rw [hj]; exact hr 1 (Or.inl (by decide)), by rw [hj]; exact hr 2 (Or.inl (by decide))⟩, fun q hq => by rw [hj]; exact hr _ (Or.inl (by omega)), c9, fun p k hp hk1 hk => by rw [hj]; exact (wfI_o hv (by omega) hk hk1).1, fun p k q hp hk1 hk hq => (wfI_o hv (show p < 4 by omega) hk hk1).2 q hq, Or.inl ⟨hj2, rfl⟩⟩
theorem row_in {n np ct law B : Nat} {D : Nat → Nat} {wf : Nat → Nat → Option Nat} {h w : Nat} (hn : n ≤ 5) (hnp : np ≤ 4) (hh : h ≤ 4) (hw : w ∈ enA n np) (hne : UH n np ct law B D wf h h w ≠ NV) : ∀ i, i ≤ h → rowU n np ct law B D wf h w i ∈ enA n np ∧ UH n np ct law B D wf h (h - i) (rowU n np ct law B D wf h w i) ≠ NV
  | 0, _ => ⟨hw, hne⟩
  | i + 1, hi => by
    obtain ⟨a, c⟩ := row_in hn hnp hh hw hne i (by omega)
    rcases U_val (n := n) (np := np) (ct := ct) (law := law) (B := B) (D := D) (wf := wf) (h := h) (r := h - (i + 1)) (s := rowU n np ct law B D wf h w i) hn hnp hh (by omega) with ⟨-, q⟩ | ⟨u, -, q1, q2, -, -, q5⟩
    · rw [show h - (i + 1) + 1 = h - i by omega] at q
      exact absurd q c
    · have hku := (kpA_U (ct := ct) (law := law) (B := B) hn hnp hh (by omega) q1 q2).1
      have hNV : NV = 268435456 := rfl
      rw [show h - (h - (i + 1)) = i + 1 by omega] at q5
      have e : rowU n np ct law B D wf h w (i + 1) = u := by rw [rowU, q5]; rfl
      rw [e]
      exact ⟨q1, by omega⟩
theorem row_find {n np ct law B : Nat} {D : Nat → Nat} {wf : Nat → Nat → Option Nat} {h w i : Nat} (hn : n ≤ 5) (hnp : np ≤ 4) (hh : h ≤ 4) (hw : w ∈ enA n np) (hne : UH n np ct law B D wf h h w ≠ NV) (hi : i < h) : (enA n np).find? (fun t => byN (ecH np ct law B D wf (i + 1) (rowU n np ct law B D wf h w i) t) (UH n np ct law B D wf h (h - (i + 1)) t) == UH n np ct law B D wf h (h - i) (rowU n np ct law B D wf h w i)) = some (rowU n np ct law B D wf h w (i + 1)) := by
  obtain ⟨a, c⟩ := row_in hn hnp hh hw hne i (by omega)
  rcases U_val (n := n) (np := np) (ct := ct) (law := law) (B := B) (D := D) (wf := wf) (h := h) (r := h - (i + 1)) (s := rowU n np ct law B D wf h w i) hn hnp hh (by omega) with ⟨-, q⟩ | ⟨u, -, q1, q2, -, -, q5⟩
  · rw [show h - (i + 1) + 1 = h - i by omega] at q
    exact absurd q c
  · rw [show h - (h - (i + 1)) = i + 1 by omega] at q5
    have e : rowU n np ct law B D wf h w (i + 1) = u := by rw [rowU, q5]; rfl
    rw [e]
    rw [show h - (i + 1) + 1 = h - i by omega] at q5
    exact q5
theorem ok_least {T : Nat} {I : Mem} (h : Sim T I) (hT : T ≤ 1000) (x1 x2 : Int32) : OK T I (fX11_least x1 x2) (fX12_least x1 x2) := by
  obtain ⟨A, w, pw, hc, hv, hb, ⟨g0, g1, g2, g3, g4, g5, g6, g7⟩, gd, gp, hr⟩ := h.get
  have badX : jX11_least_19 I = some (-2, up2 I 0 10 (I 0 10 + 1)) := rfl
  have badM : jX12_least_23 (up2 I 0 10 (I 0 10 + 1)) = some (-2, up2 (up2 I 0 10 (I 0 10 + 1)) 78 0 (up2 I 0 10 (I 0 10 + 1) 78 0 + 1)) := rfl
  rcases rng x1 1 4 (by decide) with ⟨l, hl1, hl, rfl⟩ | hf
  · rcases rng x2 0 l (by omega) with ⟨k, -, hk, rfl⟩ | hf
    · have hF := Sim.hf hT hc hv ⟨g0, g1, g2, g3, g5⟩ gd
      have hn := hF.2.1
      have hnp := hF.2.2.1
      have hlaw := hF.2.2.2.2.1
      have hw := hF.2.2.2.2.2.2.2.1
      obtain ⟨J, j1, j2, j3⟩ := weigh_n hF hl1 hl
      have hMF : MF J (A 0) (A 3) (A 4) (A 1) (A 2) 9 (fun q => A (5 + q)) (wfI (I 75)) := Sim.mf hT hv (j3 75 (by omega)) (by rw [j3 74 (by omega)]; exact h.2.2.2.2.2)
      obtain ⟨K, k1, k2, k3⟩ := layCosts_n hMF hl1 hl
      rw [enJ_9 hn.2] at k2
      have hMK := hMF.congr (k3 75 (by decide)) (k3 74 (by decide))
      have hw2 := enA_2341 hn.2 hnp hw
      have hnow : fX12_now K = some (nI w) := by rw [now_cong (show K 75 = I 75 by rw [k3 75 (by decide), j3 75 (by omega)])]; exact now_v hv
      have hval := k2 0 (Nat.zero_le _) w hw
      rw [Nat.mul_zero, Nat.zero_add, Nat.sub_zero] at hval
      have hNV : NV = 268435456 := rfl
      generalize hU : UV (enA (A 0) (A 3)) (ecH (A 3) (A 4) (A 1) (A 2) (fun q => A (5 + q)) (wfI (I 75))) l l w = U at hval
      have hU2 : UH (A 0) (A 3) (A 4) (A 1) (A 2) (fun q => A (5 + q)) (wfI (I 75)) l l w = U := hU
      have hUb := UH_16 (n := A 0) (ct := A 4) (law := A 1) (B := A 2) (D := fun q => A (5 + q)) (wf := wfI (I 75)) (h := l) (s := w) hnp hl
      rw [hU2] at hUb j1 j2
      have hsim : Sim (T + 1) K := h.trial (fun c q1 q2 => by rw [k3 c (by omega), j3 c (by omega)])
      have hX : fX11_least (nI l) (nI k) I = if nI k = 0 then some (vI U, J) else if vI U = (-1 : Int32) then some (vI U, J) else some (J 46 k, J) := by
        unfold fX11_least
        rw [if_neg (show ¬ nI l < (1 : Int32) from nI_nlt (b := 1) hl1 (by omega)), if_neg (show ¬ (4 : Int32) < nI l from nI_nlt (a := 4) hl (by decide)), if_neg (nI_pos (by omega)), if_pos (nI_le hk (by omega)), g4, chk_t (inb_n (by omega) (by decide)), ix_n (by omega), bnd_s (asL_n (A 1) (by omega)), bnd2_s j1, chk_t (inb_n (by omega) (by decide)), ix_n (by omega)]
      have hM0 : fX12_least (nI l) (nI k) J = if nI U = nI NV then jX12_least_59 (nI U) K else if nI k = 0 then jX12_least_59 (nI U) K else iter (sX12_least_76 (nI k) K) FU (nI w, (0 : Int32)) := by
        unfold fX12_least
        rw [bnd_s (in_t (lo := 1) (hi := 4) rfl rfl hl1 hl (by omega)), if_neg (by decide), bnd_s (in_t (lo := 0) (hi := l) rfl (by rw [i64_toInt, nI_toInt (by omega)]) (by omega) hk (by omega)), if_neg (by decide), bnd_s k1, bnd_s hnow, chk_t (inb_n (by omega) (by decide)), ix_n (by omega), hval]
        rfl
      by_cases c0 : U = NV
      · refine ⟨-1, J, K, ?_, ?_, hsim⟩
        · have hvI : vI U = -1 := if_pos c0
          rw [hX, hvI, if_pos rfl]
          split <;> rfl
        · rw [hM0, if_pos (by rw [c0])]
          unfold jX12_least_59
          dsimp only [letb]
          rw [if_pos (by rw [c0]; rfl)]
      · have hvI : vI U = nI U := if_neg c0
        have hU16 : U ≤ 16 := by omega
        rw [hvI, if_neg (n_ne1 (by omega))] at hX
        rw [if_neg (by rw [nI_eq (by omega) (by omega)]; exact c0)] at hM0
        by_cases ck : k = 0
        · refine ⟨nI U, J, K, ?_, ?_, hsim⟩
          · rw [hX, if_pos (by rw [ck]; rfl)]
          · rw [hM0, if_pos (by rw [ck]; rfl)]
            unfold jX12_least_59
            dsimp only [letb]
            rw [if_neg (by rw [show (268435456 : Int32) = nI NV from rfl, nI_eq (by omega) (by omega)]; exact c0)]
        · have ck2 : ¬ nI k = 0 := nI_ne0 (by omega) (by omega)
          rw [if_neg ck2] at hX hM0
          refine ⟨J 46 k, J, K, hX, ?_, hsim⟩
          rw [hM0, j2 c0 k hk]
          have hne : UH (A 0) (A 3) (A 4) (A 1) (A 2) (fun q => A (5 + q)) (wfI (I 75)) l l w ≠ NV := by rw [hU2]; exact c0
          refine iter_go (fun i => (nI (rowU (A 0) (A 3) (A 4) (A 1) (A 2) (fun q => A (5 + q)) (wfI (I 75)) l w i), nI i)) k (FU_lt (by omega)) ?_ (fun i hi => ?_)
          · unfold sX12_least_76
            dsimp only
            unfold bX12_least_76
            rw [if_pos (by rw [nI_leI (by omega) (by omega)]; omega)]
          · unfold sX12_least_76
            dsimp only
            unfold bX12_least_76
            rw [if_neg (by rw [nI_leI (by omega) (by omega)]; omega), bnd_s (firstOf_n hMK hl (show i < l by omega) (row_in hn.2 hnp hl hw hne i (by omega)).1 k2 (row_find hn.2 hnp hl hw hne (by omega))), nI_1]
    · refine ok_bad h (-2) ?_ ?_
      · unfold fX11_least
        rw [if_neg (show ¬ nI l < (1 : Int32) from nI_nlt (b := 1) hl1 (by omega)), if_neg (show ¬ (4 : Int32) < nI l from nI_nlt (a := 4) hl (by decide))]
        by_cases c : x2 < 0
        · rw [if_pos c]; exact badX
        · rw [if_neg c, if_neg (by rw [x_le, nI_toInt (by omega)]; rw [x_lt, n_toInt0] at c; omega)]; exact badX
      · unfold fX12_least
        rw [bnd_s (in_t (lo := 1) (hi := 4) rfl rfl hl1 hl (by omega)), if_neg (by decide), bnd_s (in_f (lo := 0) (hi := l) rfl (by rw [i64_toInt, nI_toInt (by omega)]) hf), if_pos (by decide)]
        exact badM
  · refine ok_bad h (-2) ?_ ?_
    · unfold fX11_least
      by_cases c : x1 < (1 : Int32)
      · rw [if_pos c]; exact badX
      · rw [if_neg c, if_pos (by rw [x_lt, show (4 : Int32).toInt = 4 from rfl]; rw [x_lt, show (1 : Int32).toInt = 1 from rfl] at c; omega)]; exact badX
    · unfold fX12_least
      rw [bnd_s (in_f (lo := 1) (hi := 4) rfl rfl hf), if_pos (by decide)]
      exact badM
