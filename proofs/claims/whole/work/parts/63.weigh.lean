/-! ===== the evening weighed by the search ===== -/
theorem lstF {I0 M : Mem} {b n np ct law B w : Nat} {D : Nat → Nat} {wf : Nat → Nat → Option Nat} {h k s : Nat} (hF : HF I0 b n np ct law B w D wf) (hh : h ≤ 4) (hE : EH I0 M b n np ct law h) (hk1 : 1 ≤ k) (hk2 : k ≤ h) (hs : s ∈ enA n np)
    (hK : ∀ p, p < np → M (48 + k) p = nI (kpR n D wf h p (h - k)))
    (hR : k < h → ∀ t, t ∈ enA n np → kpA n np D wf h (h - k) t = true → M (53 + k) t = nI (UH n np ct law B D wf h (h - k) t))
    (hB : ∀ t, t ∈ enA n np → kpA n np D wf h (h - k) t = true → M 57 k ≤ nI (UH n np ct law B D wf h (h - k) t)) :
    ∃ M2, fX2_leastFrom (nI s) (nI k) M = some (oI (((enW (mkK n D wf h (h - k) s) np).foldl (bst (totF n np ct law B D wf h (h - k) s)) none).map (totF n np ct law B D wf h (h - k) s)), M2) ∧ (∀ u, (enW (mkK n D wf h (h - k) s) np).foldl (bst (totF n np ct law B D wf h (h - k) s)) none = some u → M2 45 4 = nI u) ∧ (∀ c, c ≠ 45 → c ≠ 61 → c ≠ 62 → M2 c = M c) ∧ ∀ i, i ≠ 4 → M2 45 i = M 45 i := by
  obtain ⟨hb, hn, hnp, hct, hlaw, hB20, ⟨g0, g2, g1, g5, g3⟩, hw, gd, hD, -, -⟩ := hF
  obtain ⟨e1, e2, e3, e4, e5⟩ := hE
  have h32 := pow_le32 hn.2
  have h625 := pow_le625 hn.2 hnp
  have hs2 := enA_2341 hn.2 hnp hs
  have hb9 : b ≤ 9 := by omega
  have hMb : ∀ j, j < 8 → M (b + j) = I0 (b + j) := fun j hj => e4 _ (by omega)
  have hMb0 : M b = I0 b := hMb 0 (by decide)
  obtain ⟨J, j1, j2, j3⟩ : ∃ J, fX10_onwardAmong 61 b (nI s) (48 + k) M = some (nI (enW (mkK n D wf h (h - k) s) np).length, J) ∧ WB M J 61 np (mkK n D wf h (h - k) s) := onwardAmong_n (w0 := 61) (b := b) (a3 := 48 + k) (np := np) (s := s) (D := D) (R := fun p => kpR n D wf h p (h - k)) (I := M) (by omega) (ln_48 k (by omega)) (by rw [hMb0]; exact g2) hnp (fun q hq => by rw [hMb 1 (by decide)]; exact gd q hq) (fun q hq => by have := hD q hq; omega) hK (by omega) (fun p _ => enA_dg5 hn.2 hs p)
  have hm32 : ∀ p, p < 4 → mkK n D wf h (h - k) s p < 32 := fun p _ => by have := mkK_lt (n := n) (D := D) (wf := wf) (h := h) (r := h - k) (s := s) (p := p); omega
  have hmem : ∀ t, t ∈ enW (mkK n D wf h (h - k) s) np → t ∈ enA n np ∧ kpA n np D wf h (h - k) t = true := fun t ht => by
    rw [mkK_fil hn.2, List.mem_filter, Bool.and_eq_true] at ht
    exact ⟨ht.1, ht.2.2⟩
  have hlenL : (enW (mkK n D wf h (h - k) s) np).length ≤ n ^ np := by
    rw [mkK_fil hn.2, ← enA_len n np]
    exact List.length_filter_le _ _
  generalize hLe : enW (mkK n D wf h (h - k) s) np = L at j1 j2 hmem hlenL ⊢
  generalize hfe : totF n np ct law B D wf h (h - k) s = f
  have hUb : ∀ t, t ∈ L → UH n np ct law B D wf h (h - k) t ≤ f t ∧ f t ≤ 20 ∧ f t = cnt (layB np ct law (B + k) s t) np + UH n np ct law B D wf h (h - k) t := fun t ht => by
    obtain ⟨a, c⟩ := hmem t ht
    have q := (kpA_U (ct := ct) (law := law) (B := B) hn.2 hnp hh (by omega) a c).1
    have q2 := cnt_le (layB np ct law (B + (h - (h - k))) s t) np
    have q3 : f t = cnt (layB np ct law (B + (h - (h - k))) s t) np + UH n np ct law B D wf h (h - k) t := by rw [← hfe]; rfl
    rw [show h - (h - k) = k by omega] at q2 q3
    have q4 : UH n np ct law B D wf h (h - k) t ≤ 4 * (h - k) := q
    refine ⟨?_, ?_, q3⟩ <;> rw [q3] <;> omega
  generalize hO : L.foldl (bst f) none = O
  have hOm : ∀ i u, (L.take i).foldl (bst f) none = some u → u ∈ L := fun i u hu => by
    rcases bst_mem _ _ _ hu with q | q
    · exact List.mem_of_mem_take q
    · cases q
  have key := iter_inv2F (s := sX2_leastFrom_25 (nI s) (nI k) (nI L.length)) (fun i x => x.1 = oI (((L.take i).foldl (bst f) none).map f) ∧ x.2.1 = nI i ∧ (i < L.length → WS x.2.2 61 np (mkK n D wf h (h - k) s) (L.getD i 0)) ∧ (∀ u, (L.take i).foldl (bst f) none = some u → x.2.2 45 4 = nI u) ∧ (∀ c, c ≠ 45 → c ≠ 61 → c ≠ 62 → x.2.2 c = M c) ∧ ∀ i, i ≠ 4 → x.2.2 45 i = M 45 i) (fun r => r.1 = oI (O.map f) ∧ (∀ u, O = some u → r.2 45 4 = nI u) ∧ (∀ c, c ≠ 45 → c ≠ 61 → c ≠ 62 → r.2 c = M c) ∧ ∀ i, i ≠ 4 → r.2 45 i = M 45 i) L.length (FU_lt (by omega)) (x := ((-1 : Int32), (0 : Int32), J)) ⟨rfl, rfl, j2, fun u hu => (by cases hu), fun c q1 q2 q3 => j3 c q2 q3, fun i _ => by show J 45 i = M 45 i; rw [j3 45 (by decide) (by decide)]⟩ (fun i x hi hx => ?_) (fun x hx => ?_)
  · obtain ⟨⟨r1, M2⟩, k1, k2, k3, k4, k5⟩ := key
    dsimp only at k2 k3 k4 k5
    refine ⟨M2, ?_, k3, k4, k5⟩
    unfold fX2_leastFrom
    rw [e1, bnd_s (asH_e hb), chk_t (inb_n (by omega) (by decide)), ix_n (by omega), bnd_s (asA_47 k (by omega)), bnd2_s j1, k1, k2]
  · obtain ⟨x4, x5, K⟩ := x
    dsimp only at hx
    obtain ⟨hx4, rfl, hws, hfi, hfr, h45⟩ := hx
    have hws := hws hi
    have ht := getD_mem hi
    generalize htd : L.getD i 0 = t at hws ht
    obtain ⟨ht1, ht2⟩ := hmem t ht
    have ht3 := enA_2341 hn.2 hnp ht1
    obtain ⟨hu1, hu2, hu3⟩ := hUb t ht
    have hKb : ∀ j, j < 8 → K (b + j) = I0 (b + j) := fun j hj => by rw [hfr _ (by omega) (by omega) (by omega)]; exact hMb j hj
    have hKb0 : K b = I0 b := hKb 0 (by decide)
    have hO2 : O = (L.drop i).foldl (bst f) ((L.take i).foldl (bst f) none) := by rw [← List.foldl_append, List.take_append_drop, hO]
    -- the step itself
    have stepOf : ∀ (x : Int32) (K2 : Mem), WS K2 61 np (mkK n D wf h (h - k) s) t → ∃ K3, jX2_leastFrom_149 (nI s) (nI k) (nI L.length) x (nI i) K2 = some (.inl (x, nI (i + 1), K3)) ∧ (i + 1 < L.length → WS K3 61 np (mkK n D wf h (h - k) s) (L.getD (i + 1) 0)) ∧ ∀ c, c ≠ 61 → K3 c = K2 c := fun x K2 hw2 => by
      obtain ⟨K3, m1, m2, m3⟩ := WS.step (m := mkK n D wf h (h - k) s) (i := i) (I := K2) (by rw [hLe, htd]; exact hw2) hm32 hnp (by rw [hLe]; exact hi)
      rw [hLe] at m2
      refine ⟨K3, ?_, m2, m3⟩
      unfold jX2_leastFrom_149
      rw [bnd_s m1, nI_1]
    have h48 : jX2_leastFrom_48 (nI s) (nI k) (nI L.length) x4 (nI i) K = jX2_leastFrom_123 (nI s) (nI k) (nI L.length) x4 (nI i) (nI t) (nI (UH n np ct law B D wf h (h - k) t)) (nI (cnt (layB np ct law (B + k) s t) np)) K := by
      unfold jX2_leastFrom_48
      dsimp only [letb]
      have hpl : pyb (layB np ct law (B + k) s t) np < 2 ^ 4 := Nat.lt_of_lt_of_le (pyb_lt _ _) (Nat.pow_le_pow_right (by decide) hnp)
      rw [hws.1, h45 1 (by decide), e1, bnd_s (asH_e hb), chk_t (inb_n hs2 (by decide)), chk_t (inb_n ht3 (by decide)), bnd_s (asH_e hb), h45 2 (by decide), e2, bnd_s (asL_e law hlaw), ix_n (by omega), ix_n (by omega), hfr 58 (by decide) (by decide) (by decide), e5 s hs, e5 t ht1, hKb0, g5, nI_add, bnd_s (payers_n (by rw [hKb0]; exact g2) hnp hlaw (by omega) (by omega) (by omega)), bnd_s (popc_n _ (by omega) _), countP_pyb _ np hnp, h45 3 (by decide), e3]
      by_cases ck : k = h
      · rw [if_pos (by rw [ck])]
        have : UH n np ct law B D wf h (h - k) t = 0 := by rw [ck, Nat.sub_self]; rfl
        rw [this]
        rfl
      · rw [if_neg (by rw [nI_eq (by omega) (by omega)]; exact ck), show (1 : Int32) = nI 1 from rfl, pk_sub hk1, chk_t (inb_n (by omega) (by decide)), ix_n (by omega), bnd_s (asA_53 (k - 1) (by omega)), ln_54 (k - 1) (by omega), chk_t (inb_n ht3 (by decide)), show 54 + (k - 1) = 53 + k by omega, hfr (53 + k) (by omega) (by omega) (by omega), hR (by omega) t ht1 ht2]
    have hcont : ∃ y, jX2_leastFrom_48 (nI s) (nI k) (nI L.length) x4 (nI i) K = some (.inl y) ∧ y.1 = oI (((L.take (i + 1)).foldl (bst f) none).map f) ∧ y.2.1 = nI (i + 1) ∧ (i + 1 < L.length → WS y.2.2 61 np (mkK n D wf h (h - k) s) (L.getD (i + 1) 0)) ∧ (∀ u, (L.take (i + 1)).foldl (bst f) none = some u → y.2.2 45 4 = nI u) ∧ (∀ c, c ≠ 45 → c ≠ 61 → c ≠ 62 → y.2.2 c = M c) ∧ ∀ i, i ≠ 4 → y.2.2 45 i = M 45 i := by
      rw [h48, takeS hi, htd, List.foldl_append, List.foldl_cons, List.foldl_nil]
      unfold jX2_leastFrom_123
      dsimp only [letb]
      rw [nI_add, ← hu3]
      have newb : ∃ y, jX2_leastFrom_139 (nI s) (nI k) (nI L.length) (nI i) (nI t) (nI (f t)) K = some (.inl y) ∧ y.1 = oI ((some t).map f) ∧ y.2.1 = nI (i + 1) ∧ (i + 1 < L.length → WS y.2.2 61 np (mkK n D wf h (h - k) s) (L.getD (i + 1) 0)) ∧ (∀ u, some t = some u → y.2.2 45 4 = nI u) ∧ (∀ c, c ≠ 45 → c ≠ 61 → c ≠ 62 → y.2.2 c = M c) ∧ ∀ i, i ≠ 4 → y.2.2 45 i = M 45 i := by
        unfold jX2_leastFrom_139
        dsimp only [letb]
        obtain ⟨K3, s1, s2, s3⟩ := stepOf (nI (f t)) (up2 K 45 4 (nI t)) (hws.congr (up2_cc (by decide)) (up2_cc (by decide)))
        refine ⟨_, s1, rfl, rfl, s2, fun u hu => ?_, fun c q1 q2 q3 => ?_, fun j hj => ?_⟩
        · cases hu
          show K3 45 4 = nI t
          rw [s3 45 (by decide), up2_self]
        · show K3 c = M c
          rw [s3 c q2, up2_cc q1]; exact hfr c q1 q2 q3
        · show K3 45 j = M 45 j
          rw [s3 45 (by decide), up2_i hj]; exact h45 j hj
      cases ho : (L.take i).foldl (bst f) none with
      | none =>
        rw [ho] at hx4
        rw [if_pos (show x4 = -1 from hx4)]
        exact newb
      | some u =>
        rw [ho] at hx4
        have hxu : x4 = nI (f u) := hx4
        have hum := hOm i u ho
        have hu20 := (hUb u hum).2.1
        rw [if_neg (by rw [hxu]; exact n_ne1 (by omega)), hxu]
        show ∃ y : Int32 × Int32 × Mem, _ ∧ y.1 = oI ((if f t < f u then some t else some u).map f) ∧ _ ∧ _ ∧ (∀ v, (if f t < f u then some t else some u) = some v → y.2.2 45 4 = nI v) ∧ _
        by_cases c : f t < f u
        · rw [if_pos c, if_neg (nI_ge c (by omega))]
          exact newb
        · rw [if_neg c, if_pos (nI_le (by omega) (by omega))]
          obtain ⟨K3, s1, s2, s3⟩ := stepOf (nI (f u)) K hws
          refine ⟨_, s1, rfl, rfl, s2, fun v hv => ?_, fun c q1 q2 q3 => ?_, fun j hj => ?_⟩
          · cases hv
            show K3 45 4 = nI u
            rw [s3 45 (by decide)]; exact hfi u ho
          · show K3 c = M c
            rw [s3 c q2]; exact hfr c q1 q2 q3
          · show K3 45 j = M 45 j
            rw [s3 45 (by decide)]; exact h45 j hj
    have hbody : sX2_leastFrom_25 (nI s) (nI k) (nI L.length) (x4, nI i, K) = if x4 = (-1 : Int32) then jX2_leastFrom_48 (nI s) (nI k) (nI L.length) x4 (nI i) K else if x4 ≤ M 57 k then some (.inr (x4, K)) else jX2_leastFrom_48 (nI s) (nI k) (nI L.length) x4 (nI i) K := by
      unfold sX2_leastFrom_25
      dsimp only
      unfold bX2_leastFrom_25
      rw [if_neg (by rw [nI_leI (by omega) (by omega)]; omega), chk_t (inb_n (by omega) (by decide)), ix_n (by omega), hfr 57 (by decide) (by decide) (by decide)]
    by_cases c1 : x4 = -1
    · left
      rw [hbody, if_pos c1]
      exact hcont
    · rw [hbody, if_neg c1]
      by_cases c2 : x4 ≤ M 57 k
      · right
        rw [if_pos c2]
        cases ho : (L.take i).foldl (bst f) none with
        | none => rw [ho] at hx4; exact absurd hx4 c1
        | some u =>
          rw [ho] at hx4 hO2
          have hxu : x4 = nI (f u) := hx4
          have hum := hOm i u ho
          have hu20 := (hUb u hum).2.1
          have hst : O = some u := by
            rw [hO2]
            refine bst_stop (lb := f u) (Nat.le_refl _) _ (fun y hy => ?_)
            have hy2 := List.mem_of_mem_drop hy
            obtain ⟨y1, y2⟩ := hmem y hy2
            have y3 := hB y y1 y2
            obtain ⟨y4, y5, -⟩ := hUb y hy2
            rw [hxu, x_le] at c2
            rw [x_le] at y3
            rw [nI_toInt (by omega)] at c2 y3
            omega
          refine ⟨(x4, K), rfl, by rw [hst]; exact hx4, fun v hv => ?_, hfr, h45⟩
          rw [hst] at hv
          cases hv
          exact hfi u ho
      · left
        rw [if_neg c2]
        exact hcont
  · obtain ⟨x4, x5, K⟩ := x
    dsimp only at hx
    obtain ⟨hx4, rfl, hws, hfi, hfr, h45⟩ := hx
    rw [List.take_length, hO] at hx4 hfi
    refine ⟨(x4, K), ?_, hx4, hfi, hfr, h45⟩
    unfold sX2_leastFrom_25
    dsimp only
    unfold bX2_leastFrom_25
    rw [if_pos (by rw [nI_leI (by omega) (by omega)]; omega)]
def vI (v : Nat) : Int32 := if v = NV then -1 else nI v
/-- leastFrom answers the least -/
theorem lstU {I0 M : Mem} {b n np ct law B w : Nat} {D : Nat → Nat} {wf : Nat → Nat → Option Nat} {h k s : Nat} (hF : HF I0 b n np ct law B w D wf) (hh : h ≤ 4) (hE : EH I0 M b n np ct law h) (hk1 : 1 ≤ k) (hk2 : k ≤ h) (hs : s ∈ enA n np)
    (hK : ∀ p, p < np → M (48 + k) p = nI (kpR n D wf h p (h - k)))
    (hR : k < h → ∀ t, t ∈ enA n np → kpA n np D wf h (h - k) t = true → M (53 + k) t = nI (UH n np ct law B D wf h (h - k) t))
    (hB : ∀ t, t ∈ enA n np → kpA n np D wf h (h - k) t = true → M 57 k ≤ nI (UH n np ct law B D wf h (h - k) t)) :
    ∃ M2, fX2_leastFrom (nI s) (nI k) M = some (vI (UH n np ct law B D wf h (h - k + 1) s), M2) ∧ (UH n np ct law B D wf h (h - k + 1) s ≠ NV → ∃ u, (enA n np).find? (fun t => byN (ecH np ct law B D wf k s t) (UH n np ct law B D wf h (h - k) t) == UH n np ct law B D wf h (h - k + 1) s) = some u ∧ u ∈ enA n np ∧ UH n np ct law B D wf h (h - k) u ≠ NV ∧ M2 45 4 = nI u) ∧ (∀ c, c ≠ 45 → c ≠ 61 → c ≠ 62 → M2 c = M c) ∧ ∀ i, i ≠ 4 → M2 45 i = M 45 i := by
  obtain ⟨M2, m1, m2, m3, m4⟩ := lstF hF hh hE hk1 hk2 hs hK hR hB
  have hn := hF.2.1.2
  have hnp := hF.2.2.1
  have hNV : NV = 268435456 := rfl
  refine ⟨M2, ?_, ?_, m3, m4⟩
  · rw [m1]
    rcases U_val (n := n) (np := np) (ct := ct) (law := law) (B := B) (D := D) (wf := wf) (h := h) (r := h - k) (s := s) hn hnp hh (by omega) with ⟨a, c⟩ | ⟨u, a, -, -, c, d, -⟩
    · rw [a, c]
      rfl
    · rw [a, c]
      unfold vI
      rw [if_neg (by omega)]
      rfl
  · intro hne
    rcases U_val (n := n) (np := np) (ct := ct) (law := law) (B := B) (D := D) (wf := wf) (h := h) (r := h - k) (s := s) hn hnp hh (by omega) with ⟨a, c⟩ | ⟨u, a, a1, a2, c, d, e⟩
    · exact absurd c hne
    · rw [show h - (h - k) = k by omega] at e
      have := (kpA_U (ct := ct) (law := law) (B := B) hn hnp hh (by omega) a1 a2).1
      exact ⟨u, e, a1, by omega, m2 u a⟩
theorem everywhere_n {b n : Nat} {I : Mem} (g0 : I b 0 = nI n) (hn : n ≤ 5) : fX4_everywhere b I = some (nI (2 ^ n - 1)) := by
  unfold fX4_everywhere
  have := Nat.pow_pos (n := n) (show 0 < 2 by decide)
  rw [g0, n_one (by omega), show (1 : Int32) = nI 1 from rfl, pk_sub (by omega)]
/-- the rooms from which a beat's wishes can be kept -/
theorem markK_n {I0 M : Mem} {b n np ct law B w : Nat} {D : Nat → Nat} {wf : Nat → Nat → Option Nat} {h k : Nat} (hF : HF I0 b n np ct law B w D wf) (hh : h ≤ 4) (hE : EH I0 M b n np ct law h) (hk1 : 1 ≤ k) (hk2 : k ≤ h) (hK : k < h → ∀ p, p < np → M (48 + (k + 1)) p = nI (kpR n D wf h p (h - (k + 1)))) :
    ∃ M2, fX2_markKeeping (nI k) M = some M2 ∧ (∀ p, p < np → M2 (48 + k) p = nI (kpR n D wf h p (h - k))) ∧ ∀ c, c ≠ 48 + k → M2 c = M c := by
  obtain ⟨hb, hn, hnp, hct, hlaw, hB20, ⟨g0, g2, g1, g5, g3⟩, hw, gd, hD, gw, hwf⟩ := hF
  obtain ⟨e1, e2, e3, e4, e5⟩ := hE
  have h32 := pow_le32 hn.2
  have hb9 : b ≤ 9 := by omega
  have key := iter_invF (s := sX2_markKeeping_2 (nI k)) (fun i x => x.1 = nI i ∧ (∀ p, p < i → x.2 (48 + k) p = nI (kpR n D wf h p (h - k))) ∧ ∀ c, c ≠ 48 + k → x.2 c = M c) (fun r => (∀ p, p < np → r (48 + k) p = nI (kpR n D wf h p (h - k))) ∧ ∀ c, c ≠ 48 + k → r c = M c) np (FU_lt (by omega)) (x := ((0 : Int32), M)) ⟨rfl, fun p hp => absurd hp (Nat.not_lt_zero _), fun _ _ => rfl⟩ (fun i x hi hx => ?_) (fun x hx => ?_)
  · obtain ⟨M2, k1, k2, k3⟩ := key
    exact ⟨M2, k1, k2, k3⟩
  · obtain ⟨x1, K⟩ := x
    dsimp only at hx
    obtain ⟨rfl, hdone, hf⟩ := hx
    have hKb : ∀ j, j < 8 → K (b + j) = I0 (b + j) := fun j hj => by rw [hf _ (by omega)]; exact e4 _ (by omega)
    have hKb0 : K b = I0 b := hKb 0 (by decide)
    have K45 : K 45 = M 45 := hf 45 (by omega)
    have hH : asH (dec (K 45 1)) = some b := by rw [K45, e1]; exact asH_e hb
    have hK2 : k < h → K (48 + (k + 1)) i = nI (kpR n D wf h i (h - (k + 1))) := fun q => by rw [hf _ (by omega)]; exact hK q i hi
    generalize hFq : (fun q => (if k = h then true else decide ((D q ||| 2 ^ q) &&& kpR n D wf h i (h - (k + 1)) ≠ 0)) && wq (wf i k) q) = F
    have hkp : kpR n D wf h i (h - k) = pyb F n := by
      by_cases c : k = h
      · rw [c, Nat.sub_self, kpR, ← hFq, c]
        congr 1
        funext q
        rw [if_pos rfl, Bool.true_and]
      · rw [show h - k = (h - (k + 1)) + 1 by omega, kpR, ← hFq, show h - (h - (k + 1) + 1) = k by omega]
        congr 1
        funext q
        rw [if_neg c]
    -- the inner loop
    have inner : ∀ wm : Nat, wm < 32 → (∀ q, q < n → wm.testBit q = wq (wf i k) q) → jX2_markKeeping_45 (nI k) (nI i) (nI wm) K = some (.inl (nI (i + 1), up2 K (48 + k) i (nI (pyb F n)))) := fun wm hwm hbit => by
      unfold jX2_markKeeping_45
      have e0 : ((0 : Int32), (0 : Int32)) = (fun j => (nI (pyb F j), nI j)) 0 := rfl
      rw [e0]
      refine iter_go (fun j => (nI (pyb F j), nI j)) n (FU_lt (by omega)) ?_ (fun j hj => ?_)
      · unfold sX2_markKeeping_53
        dsimp only
        unfold bX2_markKeeping_53
        rw [bnd_s hH, if_pos (by rw [hKb0, g0, nI_leI (by omega) (by omega)]; omega), chk_t (inb_n (by omega) (by decide)), ix_n (by omega), bnd_s (asA_47 k (by omega)), ln_48 k (by omega), chk_t (inb_n (by omega) (by decide)), ix_n (by omega)]
        dsimp only [letb]
        rw [nI_1]
      · have hFj : F j = ((if k = h then true else decide ((D j ||| 2 ^ j) &&& kpR n D wf h i (h - (k + 1)) ≠ 0)) && wq (wf i k) j) := by rw [← hFq]
        have h101 : ∀ g : Bool, F j = (g && wq (wf i k) j) → jX2_markKeeping_101 (nI k) (nI i) (nI wm) (nI (pyb F j)) (nI j) (b2i g) K = some (.inl (nI (pyb F (j + 1)), nI (j + 1))) := fun g hg => by
          unfold jX2_markKeeping_101
          rw [nI_1, pyb, hg]
          cases g with
          | false => rw [if_pos (by decide), Bool.false_and, if_neg (by decide)]
          | true =>
            rw [if_neg (by decide), bnd_s (has_n K (by omega) (by omega)), hbit j hj, Bool.true_and]
            cases wq (wf i k) j with
            | false => rw [if_pos (by decide), if_neg (by decide)]
            | true =>
              rw [if_neg (by decide), if_pos rfl]
              dsimp only [letb]
              rw [n_one (by omega), n_or]
        unfold sX2_markKeeping_53
        dsimp only
        unfold bX2_markKeeping_53
        rw [bnd_s hH, if_neg (by rw [hKb0, g0, nI_leI (by omega) (by omega)]; omega), K45, e3]
        by_cases c : k = h
        · rw [if_pos (by rw [c])]
          unfold jX2_markKeeping_96
          exact h101 true (by rw [hFj, if_pos c])
        · rw [if_neg (by rw [nI_eq (by omega) (by omega)]; exact c), e1, bnd_s (asH_e hb), bnd_s (reach_n (a := D j) (by omega) (by rw [hKb 1 (by decide)]; exact gd j (by omega))), nI_1, chk_t (inb_n (by omega) (by decide)), ix_n (by omega), bnd_s (asA_47 (k + 1) (by omega)), ln_48 (k + 1) (by omega), chk_t (inb_n (by omega) (by decide)), ix_n (by omega), hK2 (by omega), n_and]
          have hlt : (D j ||| 2 ^ j) &&& kpR n D wf h i (h - (k + 1)) < 32 := by have := kpR_lt n D wf h i (h - (k + 1)); exact Nat.lt_of_le_of_lt Nat.and_le_right (by omega)
          by_cases c2 : (D j ||| 2 ^ j) &&& kpR n D wf h i (h - (k + 1)) = 0
          · rw [if_pos (by rw [c2]; rfl)]
            exact h101 false (by rw [hFj, if_neg c, decide_eq_false (fun q => q c2)])
          · rw [if_neg (nI_ne0 (by omega) (by omega))]
            unfold jX2_markKeeping_96
            exact h101 true (by rw [hFj, if_neg c, decide_eq_true c2])
    refine ⟨(nI (i + 1), up2 K (48 + k) i (nI (pyb F n))), ?_, rfl, fun p hp => ?_, fun c hc => by show up2 K (48 + k) i (nI (pyb F n)) c = M c; rw [up2_cc hc]; exact hf c hc⟩
    · unfold sX2_markKeeping_2
      dsimp only
      unfold bX2_markKeeping_2
      have ew : fX11_wishPlace (nI i) (nI k) K = some (nI (4 * i + (k - 1))) := by
        unfold fX11_wishPlace
        rw [show (4 : Int32) = nI 4 from rfl, pk_mul, nI_add, show (1 : Int32) = nI 1 from rfl, pk_sub (by omega)]
        congr 2
        omega
      rw [bnd_s hH, if_neg (by rw [hKb0, g2, nI_leI (by omega) (by omega)]; omega), bnd_s hH, bnd_s ew, chk_t (inb_n (by omega) (by decide)), ix_n (by omega), hKb 5 (by decide), gw i k hi hk1 (by omega)]
      dsimp only [letb]
      have hpos := Nat.pow_pos (n := n) (show 0 < 2 by decide)
      cases ho : wf i k with
      | none =>
        rw [if_pos (show oI none = -1 from rfl), bnd_s hH, bnd_s (everywhere_n (by rw [hKb0]; exact g0) hn.2)]
        refine inner _ (by omega) (fun q hq => ?_)
        rw [ho, Nat.testBit_two_pow_sub_one, decide_eq_true hq]
        rfl
      | some r =>
        have hr := hwf i k r hi hk1 (by omega) ho
        rw [if_neg (show ¬ oI (some r) = -1 from n_ne1 (by omega)), show oI (some r) = nI r from rfl, n_one (by omega)]
        refine inner _ (show 2 ^ r < 2 ^ 5 from Nat.pow_lt_pow_right (by decide) (by omega)) (fun q hq => ?_)
        rw [ho, Nat.testBit_two_pow]
        unfold wq
        simp
        rfl
    · show up2 K (48 + k) i (nI (pyb F n)) (48 + k) p = _
      by_cases e : p = i
      · rw [e, up2_self, hkp]
      · rw [up2_i e]
        exact hdone p (by omega)
  · obtain ⟨x1, K⟩ := x
    dsimp only at hx
    obtain ⟨rfl, hdone, hf⟩ := hx
    refine ⟨K, ?_, hdone, hf⟩
    have hKb0 : K b = I0 b := by rw [hf _ (by omega)]; exact e4 _ (by omega)
    have K45 : K 45 = M 45 := hf 45 (by omega)
    unfold sX2_markKeeping_2
    dsimp only
    unfold bX2_markKeeping_2
    rw [bnd_s (show asH (dec (K 45 1)) = some b by rw [K45, e1]; exact asH_e hb), if_pos (by rw [hKb0, g2, nI_leI (by omega) (by omega)]; omega)]
