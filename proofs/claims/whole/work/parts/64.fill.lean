/-! ===== the evening: rests filled, weighed ===== -/
/-- what the evening holds, keeping from k0 on, rests from r0 on -/
def EV2 (I0 M : Mem) (b n np ct law B : Nat) (D : Nat → Nat) (wf : Nat → Nat → Option Nat) (h k0 r0 : Nat) : Prop :=
  EH I0 M b n np ct law h ∧ (∀ j, k0 ≤ j → 1 ≤ j → j ≤ h → ∀ p, p < np → M (48 + j) p = nI (kpR n D wf h p (h - j))) ∧
  (∀ j, r0 ≤ j → 1 ≤ j → j < h → ∀ t, t ∈ enA n np → kpA n np D wf h (h - j) t = true → M (53 + j) t = nI (UH n np ct law B D wf h (h - j) t)) ∧
  ∀ j, r0 ≤ j → 1 ≤ j → j ≤ h → ∀ t, t ∈ enA n np → kpA n np D wf h (h - j) t = true → M 57 j ≤ nI (UH n np ct law B D wf h (h - j) t)
theorem EV2.congr {I0 M K : Mem} {b n np ct law B : Nat} {D : Nat → Nat} {wf : Nat → Nat → Option Nat} {h k0 r0 : Nat} (hV : EV2 I0 M b n np ct law B D wf h k0 r0) (hh : h ≤ 4) (h1 : ∀ i, i ≠ 4 → K 45 i = M 45 i) (h2 : ∀ c, (c < 45 ∨ 63 ≤ c) → K c = M c) (h3 : ∀ c, 48 ≤ c → c ≤ 58 → K c = M c) : EV2 I0 K b n np ct law B D wf h k0 r0 := by
  obtain ⟨a1, a2, a3, a4⟩ := hV
  refine ⟨a1.congr h1 h2 (h3 58 (by decide) (by decide)), fun j q1 q2 q3 p hp => ?_, fun j q1 q2 q3 t ht hk => ?_, fun j q1 q2 q3 t ht hk => ?_⟩
  · rw [h3 _ (by omega) (by omega)]; exact a2 j q1 q2 q3 p hp
  · rw [h3 _ (by omega) (by omega)]; exact a3 j q1 q2 q3 t ht hk
  · rw [h3 _ (by omega) (by omega)]; exact a4 j q1 q2 q3 t ht hk
/-- leastFrom in the evening -/
theorem lstV {I0 M : Mem} {b n np ct law B w : Nat} {D : Nat → Nat} {wf : Nat → Nat → Option Nat} {h k s k0 r0 : Nat} (hF : HF I0 b n np ct law B w D wf) (hh : h ≤ 4) (hV : EV2 I0 M b n np ct law B D wf h k0 r0) (hk0 : k0 ≤ k) (hr0 : r0 ≤ k) (hk1 : 1 ≤ k) (hk2 : k ≤ h) (hs : s ∈ enA n np) :
    ∃ M2, fX2_leastFrom (nI s) (nI k) M = some (vI (UH n np ct law B D wf h (h - k + 1) s), M2) ∧ (UH n np ct law B D wf h (h - k + 1) s ≠ NV → ∃ u, (enA n np).find? (fun t => byN (ecH np ct law B D wf k s t) (UH n np ct law B D wf h (h - k) t) == UH n np ct law B D wf h (h - k + 1) s) = some u ∧ u ∈ enA n np ∧ UH n np ct law B D wf h (h - k) u ≠ NV ∧ M2 45 4 = nI u) ∧ (∀ c, c ≠ 45 → c ≠ 61 → c ≠ 62 → M2 c = M c) ∧ (∀ i, i ≠ 4 → M2 45 i = M 45 i) ∧ EV2 I0 M2 b n np ct law B D wf h k0 r0 := by
  obtain ⟨M2, m1, m2, m3, m4⟩ := lstU hF hh hV.1 hk1 hk2 hs (hV.2.1 k hk0 hk1 hk2) (fun q => hV.2.2.1 k hr0 hk1 q) (hV.2.2.2 k hr0 hk1 hk2)
  exact ⟨M2, m1, m2, m3, m4, hV.congr hh m4 (fun c hc => m3 c (by omega) (by omega) (by omega)) (fun c q1 q2 => m3 c (by omega) (by omega) (by omega))⟩
theorem fillR_n {I0 M : Mem} {b n np ct law B w : Nat} {D : Nat → Nat} {wf : Nat → Nat → Option Nat} {h k : Nat} (hF : HF I0 b n np ct law B w D wf) (hh : h ≤ 4) (hV : EV2 I0 M b n np ct law B D wf h 1 (k + 1)) (hk1 : 1 ≤ k) (hk2 : k < h) :
    ∃ M2, fX2_fillRest (nI k) M = some M2 ∧ EV2 I0 M2 b n np ct law B D wf h 1 k := by
  obtain ⟨hb, hn, hnp, hct, hlaw, hB20, ⟨g0, g2, g1, g5, g3⟩, hw, gd, hD, -, -⟩ := id hF
  obtain ⟨e1, e2, e3, e4, e5⟩ := id hV.1
  have h32 := pow_le32 hn.2
  have h625 := pow_le625 hn.2 hnp
  have hb9 : b ≤ 9 := by omega
  have hMb0 : M b = I0 b := e4 b (by omega)
  obtain ⟨J, j1, j2, j3⟩ : ∃ J, fX10_among 59 b (48 + k) M = some (nI (enW (fun p => kpR n D wf h p (h - k)) np).length, J) ∧ WB M J 59 np (fun p => kpR n D wf h p (h - k)) := among_n (w0 := 59) (b := b) (a2 := 48 + k) (np := np) (R := fun p => kpR n D wf h p (h - k)) (I := M) (by omega) (ln_48 k (by omega)) (by rw [hMb0]; exact g2) hnp (hV.2.1 k hk1 hk1 (by omega)) (fun p _ => by have := kpR_lt n D wf h p (h - k); show kpR n D wf h p (h - k) < 32; omega)
  have hmem : ∀ t, t ∈ enW (fun p => kpR n D wf h p (h - k)) np ↔ (t ∈ enA n np ∧ kpA n np D wf h (h - k) t = true) := fun t => by
    rw [enW_fil hn.2 (fun p _ => kpR_lt n D wf h p (h - k)), List.mem_filter]
    exact Iff.rfl
  have hlenL : (enW (fun p => kpR n D wf h p (h - k)) np).length ≤ n ^ np := by
    rw [enW_fil hn.2 (fun p _ => kpR_lt n D wf h p (h - k)), ← enA_len n np]
    exact List.length_filter_le _ _
  have hm32 : ∀ p, p < 4 → (fun p => kpR n D wf h p (h - k)) p < 32 := fun p _ => by have := kpR_lt n D wf h p (h - k); show kpR n D wf h p (h - k) < 32; omega
  generalize hLe : enW (fun p => kpR n D wf h p (h - k)) np = L at j1 j2 hmem hlenL
  generalize hfe : UH n np ct law B D wf h (h - k) = f
  have hfb : ∀ t, t ∈ L → f t ≤ 16 ∧ f t ≠ NV := fun t ht => by
    obtain ⟨a, c⟩ := (hmem t).mp ht
    have q := (kpA_U (ct := ct) (law := law) (B := B) hn.2 hnp hh (by omega) a c).1
    have q2 : f t ≤ 4 * (h - k) := by rw [← hfe]; exact q
    have hNV : NV = 268435456 := rfl
    exact ⟨by omega, by omega⟩
  have key := iter_invF (s := sX2_fillRest_23 (nI k) (nI L.length)) (fun i x => (i = 0 → x.1 = -1) ∧ (0 < i → ∃ m, m ≤ 16 ∧ x.1 = nI m ∧ ∀ j, j < i → m ≤ f (L.getD j 0)) ∧ x.2.1 = nI i ∧ (i < L.length → WS x.2.2 59 np (fun p => kpR n D wf h p (h - k)) (L.getD i 0)) ∧ (∀ j, j < i → x.2.2 (53 + k) (L.getD j 0) = nI (f (L.getD j 0))) ∧ (∀ c, c ≠ 45 → c ≠ 53 + k → (c < 59 ∨ 62 < c) → x.2.2 c = M c) ∧ ∀ i, i ≠ 4 → x.2.2 45 i = M 45 i)
    (fun r => (∀ j, j < L.length → r (53 + k) (L.getD j 0) = nI (f (L.getD j 0))) ∧ (∀ j, j < L.length → r 57 k ≤ nI (f (L.getD j 0))) ∧ (∀ c, c ≠ 45 → c ≠ 53 + k → c ≠ 57 → (c < 59 ∨ 62 < c) → r c = M c) ∧ (∀ i, i ≠ 4 → r 45 i = M 45 i) ∧ ∀ i, i ≠ k → r 57 i = M 57 i) L.length (FU_lt (by omega)) (x := ((-1 : Int32), (0 : Int32), J)) ⟨fun _ => rfl, fun q => absurd q (Nat.lt_irrefl _), rfl, j2, fun j hj => absurd hj (Nat.not_lt_zero _), fun c q1 q2 q3 => j3 c (by omega) (by omega), fun i _ => by show J 45 i = _; rw [j3 45 (by decide) (by decide)]⟩ (fun i x hi hx => ?_) (fun x hx => ?_)
  · obtain ⟨M2, k1, k2, k3, k4, k5, k6⟩ := key
    refine ⟨M2, ?_, hV.1.congr k5 (fun c hc => k4 c (by omega) (by omega) (by omega) (by omega)) (k4 58 (by decide) (by omega) (by decide) (by omega)), fun j q1 q2 q3 p hp => ?_, fun j q1 q2 q3 t ht hk => ?_, fun j q1 q2 q3 t ht hk => ?_⟩
    · unfold fX2_fillRest
      rw [e1, bnd_s (asH_e hb), chk_t (inb_n (by omega) (by decide)), ix_n (by omega), bnd_s (asA_47 k (by omega)), bnd2_s j1, k1]
    · rw [k4 _ (by omega) (by omega) (by omega) (by omega)]; exact hV.2.1 j q1 q2 q3 p hp
    · by_cases e : j = k
      · subst e
        have : t ∈ L := (hmem t).mpr ⟨ht, hk⟩
        obtain ⟨i, hi, e⟩ := List.getElem_of_mem this
        have e2 : L.getD i 0 = t := by rw [List.getD_eq_getElem?_getD, List.getElem?_eq_getElem hi]; exact e
        have := k2 i hi
        rw [e2, ← hfe] at this
        exact this
      · rw [k4 _ (by omega) (by omega) (by omega) (by omega)]; exact hV.2.2.1 j (by omega) q2 q3 t ht hk
    · by_cases e : j = k
      · subst e
        have : t ∈ L := (hmem t).mpr ⟨ht, hk⟩
        obtain ⟨i, hi, e⟩ := List.getElem_of_mem this
        have e2 : L.getD i 0 = t := by rw [List.getD_eq_getElem?_getD, List.getElem?_eq_getElem hi]; exact e
        have := k3 i hi
        rw [e2, ← hfe] at this
        exact this
      · rw [k6 j e]; exact hV.2.2.2 j (by omega) q2 q3 t ht hk
  · obtain ⟨x3, x4, K⟩ := x
    dsimp only at hx
    obtain ⟨hz, hp, rfl, hws, hdone, hfr, h45⟩ := hx
    have hws := hws hi
    have ht := getD_mem hi
    generalize htd : L.getD i 0 = t at hws ht
    obtain ⟨ht1, ht2⟩ := (hmem t).mp ht
    have ht3 := enA_2341 hn.2 hnp ht1
    obtain ⟨hf1, hf2⟩ := hfb t ht
    have hVK : EV2 I0 K b n np ct law B D wf h 1 (k + 1) := by
      obtain ⟨a1, a2, a3, a4⟩ := hV
      refine ⟨a1.congr h45 (fun c hc => hfr c (by omega) (by omega) (by omega)) (hfr 58 (by decide) (by omega) (by omega)), fun j q1 q2 q3 p hp => ?_, fun j q1 q2 q3 t ht hk => ?_, fun j q1 q2 q3 t ht hk => ?_⟩
      · rw [hfr _ (by omega) (by omega) (by omega)]; exact a2 j q1 q2 q3 p hp
      · rw [hfr _ (by omega) (by omega) (by omega)]; exact a3 j q1 q2 q3 t ht hk
      · rw [hfr _ (by omega) (by omega) (by omega)]; exact a4 j q1 q2 q3 t ht hk
    obtain ⟨M2, m1, -, m3, m4, -⟩ := lstV (k := k + 1) (s := t) hF hh hVK (by omega) (by omega) (by omega) (by omega) ht1
    rw [show h - (k + 1) + 1 = h - k by omega, hfe] at m1
    have hv1 : vI (f t) = nI (f t) := by unfold vI; rw [if_neg hf2]
    rw [hv1] at m1
    have hws2 : WS (up2 M2 (53 + k) t (nI (f t))) 59 np (fun p => kpR n D wf h p (h - k)) t := hws.congr (by rw [up2_cc (by omega), m3 59 (by decide) (by decide) (by decide)]) (by rw [up2_cc (by omega), m3 60 (by decide) (by decide) (by decide)])
    obtain ⟨M3, s1, s2, s3⟩ := WS.step (m := fun p => kpR n D wf h p (h - k)) (i := i) (I := up2 M2 (53 + k) t (nI (f t))) (by rw [hLe, htd]; exact hws2) hm32 hnp (by rw [hLe]; exact hi)
    rw [hLe] at s2
    have hM59 : M2 59 0 = nI t := by rw [m3 59 (by decide) (by decide) (by decide)]; exact hws.1
    have fin : ∀ m, m ≤ 16 → (∀ j, j < i + 1 → m ≤ f (L.getD j 0)) → ∃ y, jX2_fillRest_79 (nI k) (nI L.length) (nI i) (nI m) (up2 M2 (53 + k) t (nI (f t))) = some (.inl y) ∧ (i + 1 = 0 → y.1 = -1) ∧ (0 < i + 1 → ∃ m, m ≤ 16 ∧ y.1 = nI m ∧ ∀ j, j < i + 1 → m ≤ f (L.getD j 0)) ∧ y.2.1 = nI (i + 1) ∧ (i + 1 < L.length → WS y.2.2 59 np (fun p => kpR n D wf h p (h - k)) (L.getD (i + 1) 0)) ∧ (∀ j, j < i + 1 → y.2.2 (53 + k) (L.getD j 0) = nI (f (L.getD j 0))) ∧ (∀ c, c ≠ 45 → c ≠ 53 + k → (c < 59 ∨ 62 < c) → y.2.2 c = M c) ∧ ∀ i, i ≠ 4 → y.2.2 45 i = M 45 i := fun m hm1 hm2 => by
      refine ⟨(nI m, nI (i + 1), M3), ?_, fun q => absurd q (Nat.succ_ne_zero i), fun _ => ⟨m, hm1, rfl, hm2⟩, rfl, s2, fun j hj => ?_, fun c q1 q2 q3 => ?_, fun q hq => ?_⟩
      · unfold jX2_fillRest_79
        rw [bnd_s s1, nI_1]
      · show M3 (53 + k) (L.getD j 0) = _
        rw [s3 (53 + k) (by omega)]
        by_cases e : L.getD j 0 = t
        · rw [e, up2_self]
        · rw [up2_i e, m3 (53 + k) (by omega) (by omega) (by omega)]
          refine hdone j ?_
          rcases Nat.lt_or_ge j i with q | q
          · exact q
          · exact absurd (by rw [← htd, show j = i by omega]) e
      · show M3 c = M c
        rw [s3 c (by omega), up2_cc q2, m3 c q1 (by omega) (by omega)]
        exact hfr c q1 q2 q3
      · show M3 45 q = M 45 q
        rw [s3 45 (by decide), up2_cc (by omega), m4 q hq]
        exact h45 q hq
    unfold sX2_fillRest_23
    dsimp only
    unfold bX2_fillRest_23
    rw [if_neg (by rw [nI_leI (by omega) (by omega)]; omega), hws.1, nI_1, bnd2_s m1, show nI k - (1 : Int32) = nI (k - 1) from pk_sub (b := 1) hk1, chk_t (inb_n (by omega) (by decide)), ix_n (by omega), bnd_s (asA_53 (k - 1) (by omega)), ln_54 (k - 1) (by omega), hM59, chk_t (inb_n ht3 (by decide)), ix_n (by omega), show 54 + (k - 1) = 53 + k by omega]
    dsimp only [letb]
    by_cases c0 : i = 0
    · rw [if_pos (hz c0)]
      refine fin (f t) hf1 (fun j hj => ?_)
      have : j = i := by omega
      rw [this, htd]
      exact Nat.le_refl _
    · obtain ⟨m, hm1, hm2, hm3⟩ := hp (by omega)
      rw [hm2, if_neg (n_ne1 (by omega))]
      by_cases c1 : f t < m
      · rw [if_pos (nI_lt c1 (by omega))]
        refine fin (f t) hf1 (fun j hj => ?_)
        by_cases e : j = i
        · rw [e, htd]; exact Nat.le_refl _
        · have := hm3 j (by omega); omega
      · rw [if_neg (nI_nlt (by omega) (by omega))]
        refine fin m hm1 (fun j hj => ?_)
        by_cases e : j = i
        · rw [e, htd]; omega
        · exact hm3 j (by omega)
  · obtain ⟨x3, x4, K⟩ := x
    dsimp only at hx
    obtain ⟨hz, hp, rfl, hws, hdone, hfr, h45⟩ := hx
    refine ⟨up2 K 57 k x3, ?_, fun j hj => ?_, fun j hj => ?_, fun c q1 q2 q3 q4 => ?_, fun q hq => ?_, fun q hq => ?_⟩
    · unfold sX2_fillRest_23
      dsimp only
      unfold bX2_fillRest_23
      rw [if_pos (by rw [nI_leI (by omega) (by omega)]; omega), chk_t (inb_n (by omega) (by decide)), ix_n (by omega)]
      rfl
    · rw [up2_c (by omega)]; exact hdone j hj
    · rw [up2_self]
      obtain ⟨m, hm1, hm2, hm3⟩ := hp (by omega)
      have h1 := hm3 j hj
      have h2 := (hfb _ (getD_mem hj)).1
      rw [hm2]
      exact nI_le h1 (by omega)
    · rw [up2_cc q3]; exact hfr c q1 q2 q4
    · rw [up2_c (by decide)]; exact h45 q hq
    · rw [up2_i hq]; rw [hfr 57 (by decide) (by omega) (by omega)]
/-- the evening's row -/
def rowU (n np ct law B : Nat) (D : Nat → Nat) (wf : Nat → Nat → Option Nat) (h w : Nat) : Nat → Nat
  | 0 => w
  | k + 1 => ((enA n np).find? (fun t => byN (ecH np ct law B D wf (k + 1) (rowU n np ct law B D wf h w k) t) (UH n np ct law B D wf h (h - (k + 1)) t) == UH n np ct law B D wf h (h - (k + 1) + 1) (rowU n np ct law B D wf h w k))).getD 0
/-- the row is told -/
theorem w102 {I0 M : Mem} {b n np ct law B w : Nat} {D : Nat → Nat} {wf : Nat → Nat → Option Nat} {h : Nat} (hF : HF I0 b n np ct law B w D wf) (hh : h ≤ 4) (hV : EV2 I0 M b n np ct law B D wf h 1 1) (h46 : M 46 0 = nI w) {v : Nat} (hv : v ≤ 16) (hne : UH n np ct law B D wf h h w ≠ NV) :
    ∃ M2, iter (sX2_weigh_102 (nI h) (nI v)) FU ((1 : Int32), M) = some (nI v, M2) ∧ (∀ j, j ≤ h → M2 46 j = nI (rowU n np ct law B D wf h w j)) ∧ ∀ c, (c < 45 ∨ 63 ≤ c) → M2 c = M c := by
  obtain ⟨hb, hn, hnp, hct, hlaw, hB20, -, hw, -⟩ := id hF
  have key := iter_invF (s := sX2_weigh_102 (nI h) (nI v)) (fun i x => x.1 = nI (i + 1) ∧ (∀ j, j ≤ i → x.2 46 j = nI (rowU n np ct law B D wf h w j)) ∧ rowU n np ct law B D wf h w i ∈ enA n np ∧ UH n np ct law B D wf h (h - i) (rowU n np ct law B D wf h w i) ≠ NV ∧ EV2 I0 x.2 b n np ct law B D wf h 1 1 ∧ ∀ c, (c < 45 ∨ 63 ≤ c) → x.2 c = M c)
    (fun r => r.1 = nI v ∧ (∀ j, j ≤ h → r.2 46 j = nI (rowU n np ct law B D wf h w j)) ∧ ∀ c, (c < 45 ∨ 63 ≤ c) → r.2 c = M c) h (FU_lt (by omega)) (x := ((1 : Int32), M)) ⟨rfl, fun j hj => by rw [show j = 0 by omega]; exact h46, hw, hne, hV, fun _ _ => rfl⟩ (fun i x hi hx => ?_) (fun x hx => ?_)
  · obtain ⟨⟨r1, M2⟩, k1, rfl, k3, k4⟩ := key
    exact ⟨M2, k1, k3, k4⟩
  · obtain ⟨x5, K⟩ := x
    dsimp only at hx
    obtain ⟨rfl, hrow, hmi, hni, hVK, hfr⟩ := hx
    obtain ⟨M2, m1, m2, m3, m4, m5⟩ := lstV (k := i + 1) hF hh hVK (by omega) (by omega) (by omega) (by omega) hmi
    rw [show h - (i + 1) + 1 = h - i by omega] at m1 m2
    obtain ⟨u, u1, u2, u3, u4⟩ := m2 hni
    have hru : rowU n np ct law B D wf h w (i + 1) = u := by
      rw [rowU, show h - (i + 1) + 1 = h - i by omega, u1]
      rfl
    have hrl := enA_2341 hn.2 hnp hmi
    refine ⟨(nI (i + 1 + 1), up2 M2 46 (i + 1) (nI u)), ?_, rfl, fun j hj => ?_, by rw [hru]; exact u2, by rw [hru]; exact u3, ?_, fun c hc => ?_⟩
    · unfold sX2_weigh_102
      dsimp only
      unfold bX2_weigh_102
      rw [if_neg (nI_nlt (by omega) (by omega)), if_neg (n_ne1 (by omega)), show nI (i + 1) - (1 : Int32) = nI i from nI_pred i, chk_t (inb_n (by omega) (by decide)), ix_n (by omega), hrow i (Nat.le_refl _), bnd2_s m1, chk_t (inb_n (by omega) (by decide)), ix_n (by omega), u4]
      dsimp only [letb]
      rw [nI_1]
    · show up2 M2 46 (i + 1) (nI u) 46 j = _
      by_cases e : j = i + 1
      · rw [e, up2_self, hru]
      · rw [up2_i e, m3 46 (by decide) (by decide) (by decide)]
        exact hrow j (by omega)
    · exact m5.congr hh (fun q _ => by show up2 M2 46 (i + 1) (nI u) 45 q = _; rw [up2_c (by decide)]) (fun c hc => by show up2 M2 46 (i + 1) (nI u) c = _; rw [up2_cc (by omega)]) (fun c q1 q2 => by show up2 M2 46 (i + 1) (nI u) c = _; rw [up2_cc (by omega)])
    · show up2 M2 46 (i + 1) (nI u) c = M c
      rw [up2_cc (by omega), m3 c (by omega) (by omega) (by omega)]
      exact hfr c hc
  · obtain ⟨x5, K⟩ := x
    dsimp only at hx
    obtain ⟨rfl, hrow, hmi, hni, hVK, hfr⟩ := hx
    refine ⟨(nI v, K), ?_, rfl, hrow, hfr⟩
    unfold sX2_weigh_102
    dsimp only
    unfold bX2_weigh_102
    rw [if_pos (nI_lt (by omega) (by omega))]
theorem UH_16 {n np ct law B : Nat} {D : Nat → Nat} {wf : Nat → Nat → Option Nat} {h r s : Nat} (hnp : np ≤ 4) (hr : r ≤ 4) : UH n np ct law B D wf h r s = NV ∨ UH n np ct law B D wf h r s ≤ 16 := by
  rcases UV_le (L := enA n np) (h := h) (ecH_le (ct := ct) (law := law) (B := B) (D := D) (wf := wf) hnp) r s with q | q
  · exact Or.inl q
  · exact Or.inr (by show UV (enA n np) (ecH np ct law B D wf) h r s ≤ 16; omega)
/-- the rests are filled, then it is weighed -/
theorem w60 {I0 M : Mem} {b n np ct law B w : Nat} {D : Nat → Nat} {wf : Nat → Nat → Option Nat} {h : Nat} (hF : HF I0 b n np ct law B w D wf) (hh1 : 1 ≤ h) (hh : h ≤ 4) (hV : EV2 I0 M b n np ct law B D wf h 1 h) :
    ∃ M2, iter (sX2_weigh_60 b (nI h)) FU (nI (h - 1), M) = some (vI (UH n np ct law B D wf h h w), M2) ∧ (UH n np ct law B D wf h h w ≠ NV → ∀ j, j ≤ h → M2 46 j = nI (rowU n np ct law B D wf h w j)) ∧ ∀ c, (c < 45 ∨ 63 ≤ c) → M2 c = M c := by
  obtain ⟨hb, hn, hnp, hct, hlaw, hB20, ⟨g0, g2, g1, g5, g3⟩, hw, -⟩ := id hF
  have hMI := hV.1.2.2.2.1
  have hb9 : b ≤ 9 := by omega
  have key := iter_invF (s := sX2_weigh_60 b (nI h)) (fun i x => x.1 = nI (h - 1 - i) ∧ EV2 I0 x.2 b n np ct law B D wf h 1 (h - i))
    (fun r => r.1 = vI (UH n np ct law B D wf h h w) ∧ (UH n np ct law B D wf h h w ≠ NV → ∀ j, j ≤ h → r.2 46 j = nI (rowU n np ct law B D wf h w j)) ∧ ∀ c, (c < 45 ∨ 63 ≤ c) → r.2 c = M c) (h - 1) (FU_lt (by omega)) (x := (nI (h - 1), M)) ⟨rfl, hV⟩ (fun i x hi hx => ?_) (fun x hx => ?_)
  · obtain ⟨⟨r1, M2⟩, k1, rfl, k3, k4⟩ := key
    exact ⟨M2, k1, k3, k4⟩
  · obtain ⟨x4, K⟩ := x
    dsimp only at hx
    obtain ⟨rfl, hVK⟩ := hx
    rw [show h - i = h - 1 - i + 1 by omega] at hVK
    obtain ⟨M2, m1, m2⟩ := fillR_n (k := h - 1 - i) hF hh hVK (by omega) (by omega)
    refine ⟨(nI (h - 1 - (i + 1)), M2), ?_, rfl, by rw [show h - (i + 1) = h - 1 - i by omega]; exact m2⟩
    unfold sX2_weigh_60
    dsimp only
    unfold bX2_weigh_60
    rw [if_neg (by rw [show (1 : Int32) = nI 1 from rfl]; exact nI_nlt (by omega) (by omega)), bnd_s m1, nI_sub1, show (1 : Int32) = nI 1 from rfl, pk_sub (by omega), show h - 1 - i - 1 = h - 1 - (i + 1) by omega]
  · obtain ⟨x4, K⟩ := x
    dsimp only at hx
    obtain ⟨rfl, hVK⟩ := hx
    rw [show h - (h - 1) = 1 by omega] at hVK
    have hKM : ∀ c, (c < 45 ∨ 63 ≤ c) → K c = M c := fun c hc => by rw [hVK.1.2.2.2.1 c hc, hMI c hc]
    obtain ⟨M2, m1, m2, m3, m4, m5⟩ := lstV (k := 1) hF hh hVK (by omega) (by omega) (by omega) hh1 hw
    rw [show h - 1 + 1 = h by omega] at m1 m2
    have hKb : K b = I0 b := hVK.1.2.2.2.1 b (by omega)
    have hM2b : M2 b 3 = nI w := by rw [m3 b (by omega) (by omega) (by omega), hKb]; exact g3
    have hV2 : EV2 I0 (up2 M2 46 0 (nI w)) b n np ct law B D wf h 1 1 := m5.congr hh (fun q _ => by rw [up2_c (by decide)]) (fun c hc => by rw [up2_cc (by omega)]) (fun c q1 q2 => by rw [up2_cc (by omega)])
    have hbody : ∀ r, iter (sX2_weigh_102 (nI h) (vI (UH n np ct law B D wf h h w))) FU ((1 : Int32), up2 M2 46 0 (nI w)) = some r → sX2_weigh_60 b (nI h) (nI (h - 1 - (h - 1)), K) = some (.inr r) := fun r hr => by
      unfold sX2_weigh_60
      dsimp only
      unfold bX2_weigh_60
      rw [show h - 1 - (h - 1) = 0 by omega, if_pos (show nI 0 < (1 : Int32) by decide), hKb, g3, show (1 : Int32) = nI 1 from rfl, bnd2_s m1, chk_t (by decide), hM2b, show ix (0 : Int32) = 0 from rfl]
      dsimp only [letb]
      exact inrO_s hr
    rcases UH_16 (n := n) (ct := ct) (law := law) (B := B) (D := D) (wf := wf) (h := h) (s := w) hnp hh with q | q
    · have hvI : vI (UH n np ct law B D wf h h w) = -1 := by unfold vI; rw [if_pos q]
      refine ⟨(-1, up2 M2 46 0 (nI w)), hbody _ ?_, hvI.symm, fun q2 => absurd q q2, fun c hc => ?_⟩
      · rw [hvI]
        refine iter_inr ?_
        unfold sX2_weigh_102
        dsimp only
        unfold bX2_weigh_102
        rw [if_neg (show ¬ nI h < (1 : Int32) from nI_nlt (b := 1) hh1 (by omega)), if_pos rfl]
      · show up2 M2 46 0 (nI w) c = M c
        rw [up2_cc (by omega), m3 c (by omega) (by omega) (by omega)]
        exact hKM c hc
    · have hNV : NV = 268435456 := rfl
      have hne : UH n np ct law B D wf h h w ≠ NV := by omega
      have hvI : vI (UH n np ct law B D wf h h w) = nI (UH n np ct law B D wf h h w) := by unfold vI; rw [if_neg hne]
      obtain ⟨M3, t1, t2, t3⟩ := w102 hF hh hV2 (up2_self ..) q hne
      refine ⟨(nI (UH n np ct law B D wf h h w), M3), hbody _ (by rw [hvI]; exact t1), hvI.symm, fun _ => t2, fun c hc => ?_⟩
      show M3 c = M c
      rw [t3 c hc, up2_cc (by omega), m3 c (by omega) (by omega) (by omega)]
      exact hKM c hc
/-- the least of an evening, and its row -/
theorem weigh_n {I : Mem} {b n np ct law B w : Nat} {D : Nat → Nat} {wf : Nat → Nat → Option Nat} {h : Nat} (hF : HF I b n np ct law B w D wf) (hh1 : 1 ≤ h) (hh : h ≤ 4) :
    ∃ J, fX2_weigh b (38 + law) (nI h) I = some (vI (UH n np ct law B D wf h h w), J) ∧ (UH n np ct law B D wf h h w ≠ NV → ∀ j, j ≤ h → J 46 j = nI (rowU n np ct law B D wf h w j)) ∧ ∀ c, (c < 45 ∨ 63 ≤ c) → J c = I c := by
  obtain ⟨hb, hn, hnp, hct, hlaw, hB20, ⟨g0, g2, g1, g5, g3⟩, hw, gd, hD, gw, hwf⟩ := id hF
  have hb9 : b ≤ 9 := by omega
  generalize hI3 : up2 (up2 (up2 I 45 1 (enc b)) 45 2 (enc (38 + law))) 45 3 (nI h) = I3
  have e1 : I3 45 1 = enc b := by rw [← hI3, up2_i (by decide), up2_i (by decide), up2_self]
  have e2 : I3 45 2 = enc (38 + law) := by rw [← hI3, up2_i (by decide), up2_self]
  have e3 : I3 45 3 = nI h := by rw [← hI3, up2_self]
  have ec : ∀ c, c ≠ 45 → I3 c = I c := fun c hc => by rw [← hI3, up2_cc hc, up2_cc hc, up2_cc hc]
  have e3b : I3 b = I b := ec b (by omega)
  obtain ⟨J, j1, j2, j3⟩ := markLone_n (b := b) (a1 := 58) (w0 := 61) (n := n) (np := np) (ct := ct) (I := I3) (by decide +kernel) (by decide +kernel) (by omega) (by rw [e3b]; exact g0) hn.2 (by rw [e3b]; exact g1) hct (by rw [e3b]; exact g2) hnp
  have hEJ : EH I J b n np ct law h := by
    have e45 : J 45 = I3 45 := j3 45 (by decide) (by decide) (by decide)
    exact ⟨by rw [e45]; exact e1, by rw [e45]; exact e2, by rw [e45]; exact e3, fun c hc => by rw [j3 c (by omega) (by omega) (by omega)]; exact ec c (by omega), j2⟩
  have key := iter_invF (s := sX2_weigh_30 b (nI h)) (fun i x => x.1 = nI (h - i) ∧ EH I x.2 b n np ct law h ∧ ∀ j, h - i < j → 1 ≤ j → j ≤ h → ∀ p, p < np → x.2 (48 + j) p = nI (kpR n D wf h p (h - j)))
    (fun r => r.1 = vI (UH n np ct law B D wf h h w) ∧ (UH n np ct law B D wf h h w ≠ NV → ∀ j, j ≤ h → r.2 46 j = nI (rowU n np ct law B D wf h w j)) ∧ ∀ c, (c < 45 ∨ 63 ≤ c) → r.2 c = I c) h (FU_lt (by omega)) (x := (nI h, J)) ⟨rfl, hEJ, fun j q1 q2 q3 => by omega⟩ (fun i x hi hx => ?_) (fun x hx => ?_)
  · obtain ⟨⟨r1, M2⟩, k1, rfl, k3, k4⟩ := key
    refine ⟨M2, ?_, k3, k4⟩
    unfold fX2_weigh
    dsimp only [letb]
    rw [hI3, bnd_s j1, k1]
  · obtain ⟨x4, K⟩ := x
    dsimp only at hx
    obtain ⟨rfl, hEK, hK⟩ := hx
    obtain ⟨M2, m1, m2, m3⟩ := markK_n (k := h - i) hF hh hEK (by omega) (by omega) (fun q => hK (h - i + 1) (by omega) (by omega) (by omega))
    refine ⟨(nI (h - (i + 1)), M2), ?_, rfl, hEK.congr (fun q _ => by show M2 45 q = K 45 q; rw [m3 45 (by omega)]) (fun c hc => m3 c (by omega)) (m3 58 (by omega)), fun j q1 q2 q3 p hp => ?_⟩
    · unfold sX2_weigh_30
      dsimp only
      unfold bX2_weigh_30
      rw [if_neg (by rw [show (1 : Int32) = nI 1 from rfl]; exact nI_nlt (by omega) (by omega)), bnd_s m1, nI_sub1, show (1 : Int32) = nI 1 from rfl, pk_sub (by omega), show h - i - 1 = h - (i + 1) by omega]
    · show M2 (48 + j) p = _
      by_cases e : j = h - i
      · rw [e]; exact m2 p hp
      · rw [m3 _ (by omega)]; exact hK j (by omega) q2 q3 p hp
  · obtain ⟨x4, K⟩ := x
    dsimp only at hx
    obtain ⟨rfl, hEK, hK⟩ := hx
    have hVK : EV2 I (up2 K 57 h (0 : Int32)) b n np ct law B D wf h 1 h := by
      refine ⟨hEK.congr (fun q _ => by rw [up2_c (by decide)]) (fun c hc => by rw [up2_cc (by omega)]) (up2_cc (by decide)), fun j q1 q2 q3 p hp => ?_, fun j q1 q2 q3 => by omega, fun j q1 q2 q3 t ht hk => ?_⟩
      · rw [up2_c (by omega)]; exact hK j (by omega) q2 q3 p hp
      · have : j = h := by omega
        rw [this, up2_self]
        exact nI_le (a := 0) (Nat.zero_le _) (by rw [Nat.sub_self]; exact (by decide : (0 : Nat) < 2 ^ 31))
    obtain ⟨M2, m1, m2, m3⟩ := w60 hF hh1 hh hVK
    refine ⟨(vI (UH n np ct law B D wf h h w), M2), ?_, rfl, m2, fun c hc => ?_⟩
    · unfold sX2_weigh_30
      dsimp only
      unfold bX2_weigh_30
      rw [Nat.sub_self, if_pos (show nI 0 < (1 : Int32) by decide), chk_t (inb_n (by omega) (by decide)), ix_n (by omega)]
      dsimp only [letb]
      rw [show (1 : Int32) = nI 1 from rfl, pk_sub hh1]
      exact inrO_s m1
    · show M2 c = I c
      rw [m3 c hc, up2_cc (by omega)]
      exact hEK.2.2.2.1 c hc
