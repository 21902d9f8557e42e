/-! ===== join ===== -/
theorem mnS_fil {f : Nat → Nat} {p : Nat → Bool} : ∀ (L : List Nat) (v : Nat), v ≤ NV → (∀ t, t ∈ L → p t = false → NV ≤ f t) → (L.filter p).foldl (mnS f) v = L.foldl (mnS f) v
  | [], v, _, _ => rfl
  | x :: L, v, hv, h => by
    have hs : mnS f v x ≤ NV := by unfold mnS; split <;> omega
    cases hp : p x with
    | true =>
      rw [List.filter_cons_of_pos hp, List.foldl_cons, List.foldl_cons]
      exact mnS_fil L _ hs (fun t ht => h t (List.mem_cons_of_mem _ ht))
    | false =>
      have h1 := h x (List.mem_cons_self ..) hp
      have e : mnS f v x = v := by unfold mnS; rw [if_neg (by omega)]
      rw [List.filter_cons_of_neg (by rw [hp]; decide), List.foldl_cons, e]
      exact mnS_fil L v hv (fun t ht => h t (List.mem_cons_of_mem _ ht))
theorem mnS_cong {f g : Nat → Nat} : ∀ (L : List Nat) (v : Nat), (∀ t, t ∈ L → f t = g t) → L.foldl (mnS f) v = L.foldl (mnS g) v
  | [], v, _ => rfl
  | x :: L, v, h => by
    have e : mnS f v x = mnS g v x := by unfold mnS; rw [h x (List.mem_cons_self ..)]
    rw [List.foldl_cons, List.foldl_cons, e]
    exact mnS_cong L _ (fun t ht => h t (List.mem_cons_of_mem _ ht))
theorem UV_fil {L : List Nat} {p : Nat → Bool} {ec : Nat → Nat → Nat → Option Nat} {h : Nat} (hp : ∀ k s t, s ∈ L → p s = true → t ∈ L → p t = false → ec k s t = none) : ∀ r s, s ∈ L → p s = true → UV (L.filter p) ec h r s = UV L ec h r s
  | 0, _, _, _ => rfl
  | r + 1, s, hs, hps => by
    rw [UV, UV]
    unfold minL
    rw [mnS_cong (g := fun t => byN (ec (h - r) s t) (UV L ec h r t)) _ _ (fun t ht => by
      obtain ⟨t1, t2⟩ := List.mem_filter.mp ht
      show byN (ec (h - r) s t) (UV (L.filter p) ec h r t) = byN (ec (h - r) s t) (UV L ec h r t)
      rw [UV_fil hp r t t1 t2])]
    refine mnS_fil L NV (Nat.le_refl _) (fun t ht hpt => ?_)
    rw [hp (h - r) s t hs hps ht hpt]
    exact Nat.le_refl _
theorem goJ {D : Nat → Nat} {np a b s t : Nat} (hb : b < 5) (hs : okJ np b s = true) (hg : allB (goP (jD D a b) s t) np = true) : okJ np b t = true := by
  unfold okJ at hs ⊢
  rw [allB_iff] at hs hg ⊢
  intro p hp
  have h1 := hs p hp
  have h2 := hg p hp
  rw [bne_iff_ne] at h1 ⊢
  intro e
  rw [goP_eq, e, jD_bit hb, beq_eq_false_iff_ne.mpr h1, Bool.false_or] at h2
  unfold jM at h2
  rw [if_pos (Or.inr rfl)] at h2
  cases h2
/-- what an evening costs where two rooms are one -/
def VJ (n np ct law B : Nat) (D : Nat → Nat) (wf : Nat → Nat → Option Nat) (h w a b : Nat) : Nat := UH n np (tf2 a b ct) law B (jD D a b) (wfJ a b wf) h h (mgW a b w np)
theorem VJ_fil {n np ct law B : Nat} {D : Nat → Nat} {wf : Nat → Nat → Option Nat} {h w a b : Nat} (hn : n ≤ 5) (hnp : np ≤ 3) (hab : a < b) (hb : b < n) (hw : w ∈ enA n np) : mgW a b w np ∈ enJ n np b ∧ UV (enJ n np b) (ecH np (tf2 a b ct) law B (jD D a b) (wfJ a b wf)) h h (mgW a b w np) = VJ n np ct law B D wf h w a b := by
  obtain ⟨m1, m2, m3⟩ := mgW_en (b := b) hn hnp (show a < n by omega) hw
  have hok : okJ np b (mgW a b w np) = true := by
    unfold okJ
    rw [allB_iff]
    intro p hp
    rw [bne_iff_ne, m2 p hp]
    split <;> omega
  refine ⟨List.mem_filter.mpr ⟨m1, hok⟩, ?_⟩
  unfold enJ VJ
  refine UV_fil (fun k s t hs hps ht hpt => ?_) h _ m1 hok
  unfold ecH
  cases hg : allB (goP (jD D a b) s t) np with
  | false => rfl
  | true =>
    rw [goJ (by omega) hps hg] at hpt
    cases hpt
theorem leastBy_n {I : Mem} {n np ct law B bj h w : Nat} {D : Nat → Nat} {wf : Nat → Nat → Option Nat} (hM : MF I n np ct law B bj D wf) (hh1 : 1 ≤ h) (hh : h ≤ 4) (hw : w ∈ enJ n np bj) (hat : ∀ p, p < np → I 75 (20 + p) = nI (dg w p)) : ∃ J, fX12_leastBy (nI h) I = some (nI (UV (enJ n np bj) (ecH np ct law B D wf) h h w), J) ∧ ∀ c, c ≠ 82 → J c = I c := by
  obtain ⟨J, j1, j2, j3⟩ := layCosts_n hM hh1 hh
  have hn := hM.1
  have hnp := hM.2.1
  have hwA := (List.mem_filter.mp hw).1
  have hw2 := enA_2341 hn.2 hnp hwA
  have J75 : J 75 = I 75 := j3 75 (by decide)
  have hnow : fX12_now J = some (nI w) := now_n (np := np) (by rw [J75]; exact hM.2.2.2.2.2.1.2.1) hnp (enA_wv hn.2 hwA).1 (fun p hp => by rw [J75]; exact hat p hp)
  have hv := j2 0 (Nat.zero_le _) w hw
  rw [Nat.mul_zero, Nat.zero_add, Nat.sub_zero] at hv
  refine ⟨J, ?_, j3⟩
  unfold fX12_leastBy
  rw [bnd_s j1, bnd_s hnow, chk_t (inb_n (by omega) (by decide)), ix_n (by omega), hv]
def prC (n : Nat) : List (Nat × Nat) := (List.range n).flatMap (fun a => ((List.range n).filter (fun b => decide (a < b))).map (fun b => (a, b)))
def prM (n v : Nat) : List (Nat × Nat) := ((List.range v).filter (fun v => decide (v / 5 < v % 5) && decide (v % 5 < n))).map (fun v => (v / 5, v % 5))
theorem pr_eq : ∀ n, n < 6 → prM n 25 = prC n := by decide +kernel
/-- the better pair -/
def stJ (V : Nat → Nat → Nat) (x : Nat × Int32) (q : Nat × Nat) : Nat × Int32 := if V q.1 q.2 < x.1 then (V q.1 q.2, nI (10 * q.1 + q.2)) else x
def okN (v : Nat) : Prop := v = NV ∨ v ≤ 16
theorem stJ_ok {V : Nat → Nat → Nat} (hV : ∀ a b, okN (V a b)) : ∀ (L : List (Nat × Nat)) (x : Nat × Int32), okN x.1 → okN (L.foldl (stJ V) x).1
  | [], x, h => h
  | q :: L, x, h => by
    rw [List.foldl_cons]
    refine stJ_ok hV L _ ?_
    unfold stJ
    split
    · exact hV _ _
    · exact h
theorem VJ_ok {n np ct law B : Nat} {D : Nat → Nat} {wf : Nat → Nat → Option Nat} {h w : Nat} (hnp : np ≤ 4) (hh : h ≤ 4) (a b : Nat) : okN (VJ n np ct law B D wf h w a b) := UH_16 hnp hh
theorem HF.copied {I J : Mem} {n np ct law B w : Nat} {D : Nat → Nat} {wf : Nat → Nat → Option Nat} (hF : HF I 1 n np ct law B w D wf) (h : ∀ j, j < 8 → ∀ i, i < hlen j → J (9 + j) i = I (1 + j) i) : HF J 9 n np ct law B w D wf := by
  obtain ⟨-, hn, hnp, hct, hlaw, hB20, ⟨g0, g2, g1, g5, g3⟩, hw, gd, hD, gw, hwf⟩ := hF
  have h0 := h 0 (by decide)
  exact ⟨Or.inr rfl, hn, hnp, hct, hlaw, hB20, ⟨(h0 0 (by decide)).trans g0, (h0 2 (by decide)).trans g2, (h0 1 (by decide)).trans g1, (h0 5 (by decide)).trans g5, (h0 3 (by decide)).trans g3⟩, hw, fun q hq => (h 1 (by decide) q (by show q < 5; exact hq)).trans (gd q hq), hD, fun p k hp hk1 hk => (h 5 (by decide) _ (by show 4 * p + (k - 1) < 16; omega)).trans (gw p k hp hk1 hk), hwf⟩
theorem HF.congr {I J : Mem} {n np ct law B w : Nat} {D : Nat → Nat} {wf : Nat → Nat → Option Nat} (hF : HF I 1 n np ct law B w D wf) (h : ∀ c, c < 9 → J c = I c) : HF J 1 n np ct law B w D wf := by
  obtain ⟨-, hn, hnp, hct, hlaw, hB20, g, hw, gd, hD, gw, hwf⟩ := hF
  exact ⟨Or.inl rfl, hn, hnp, hct, hlaw, hB20, by rw [h 1 (by decide)]; exact g, hw, fun q hq => by rw [h (1 + 1) (by decide)]; exact gd q hq, hD, fun p k hp hk1 hk => by rw [h (1 + 5) (by decide)]; exact gw p k hp hk1 hk, hwf⟩
theorem j83 {I M : Mem} {n np ct law B w h a : Nat} {D : Nat → Nat} {wf : Nat → Nat → Option Nat} {X : Nat × Int32} (hF : HF I 1 n np ct law B w D wf) (g4 : I 1 4 = nI law) (hd : DG n D) (hnp : np ≤ 3) (hh1 : 1 ≤ h) (hh : h ≤ 4) (ha : a < n) (hX : okN X.1) (hM : ∀ c, (c < 9 ∨ (17 ≤ c ∧ c < 45) ∨ 63 ≤ c) → M c = I c) :
    ∃ M2, iter (sX11_join_83 (nI h) (nI a)) FU (vI X.1, X.2, nI (a + 1), M) = some (.inl (vI ((((List.range n).filter (fun b => decide (a < b))).map (fun b => (a, b))).foldl (stJ (VJ n np ct law B D wf h w)) X).1, ((((List.range n).filter (fun b => decide (a < b))).map (fun b => (a, b))).foldl (stJ (VJ n np ct law B D wf h w)) X).2, nI (a + 1), M2)) ∧ ∀ c, (c < 9 ∨ (17 ≤ c ∧ c < 45) ∨ 63 ≤ c) → M2 c = I c := by
  have hn := hF.2.1
  have hlaw := hF.2.2.2.2.1
  have hNV : NV = 268435456 := rfl
  have hV : ∀ a b, okN (VJ n np ct law B D wf h w a b) := VJ_ok hF.2.2.1 hh
  generalize hVe : VJ n np ct law B D wf h w = V at hV
  generalize hZ : (fun i => (((List.range i).filter (fun b => decide (a < b))).map (fun b => (a, b))).foldl (stJ V) X) = Z
  have hZn : (((List.range n).filter (fun b => decide (a < b))).map (fun b => (a, b))).foldl (stJ V) X = Z n := by rw [← hZ]
  have hZok : ∀ i, okN (Z i).1 := fun i => by rw [← hZ]; exact stJ_ok hV _ _ hX
  have hZ0 : Z (a + 1) = X := by
    rw [← hZ]
    dsimp only
    have : (List.range (a + 1)).filter (fun b => decide (a < b)) = [] := by
      rw [List.filter_eq_nil_iff]
      intro x hx
      have := List.mem_range.mp hx
      rw [decide_eq_true_iff]
      omega
    rw [this]
    rfl
  have hZs : ∀ i, a < i → Z (i + 1) = stJ V (Z i) (a, i) := fun i hi => by
    rw [← hZ]
    dsimp only
    rw [List.range_succ, List.filter_append, List.map_append, List.foldl_append, List.filter_cons, List.filter_nil, if_pos (decide_eq_true hi)]
    rfl
  rw [hZn]
  have key := iter_invF (s := sX11_join_83 (nI h) (nI a)) (fun i x => x.1 = vI (Z (a + 1 + i)).1 ∧ x.2.1 = (Z (a + 1 + i)).2 ∧ x.2.2.1 = nI (a + 1 + i) ∧ ∀ c, (c < 9 ∨ (17 ≤ c ∧ c < 45) ∨ 63 ≤ c) → x.2.2.2 c = I c)
    (fun r => ∃ M2, r = .inl (vI (Z n).1, (Z n).2, nI (a + 1), M2) ∧ ∀ c, (c < 9 ∨ (17 ≤ c ∧ c < 45) ∨ 63 ≤ c) → M2 c = I c) (n - (a + 1)) (FU_lt (by omega)) (x := (vI X.1, X.2, nI (a + 1), M)) ⟨by rw [Nat.add_zero, hZ0], by rw [Nat.add_zero, hZ0], rfl, hM⟩ (fun i x hi hx => ?_) (fun x hx => ?_)
  · obtain ⟨r, k1, M2, rfl, k2⟩ := key
    exact ⟨M2, k1, k2⟩
  · obtain ⟨x2, x3, x5, K⟩ := x
    dsimp only at hx
    obtain ⟨rfl, rfl, rfl, hf⟩ := hx
    generalize hbe : a + 1 + i = b at hf
    have hab : a < b := by omega
    have hbn : b < n := by omega
    have hFK : HF K 1 n np ct law B w D wf := hF.congr (fun c hc => hf c (by omega))
    obtain ⟨J, j1, j2, j3⟩ := copy_n (b0 := 9) (b1 := 1) K (by omega)
    have hFJ := hFK.copied j2
    obtain ⟨J2, m1, m2, m3⟩ := merge_n hFJ hd hab hbn hnp
    obtain ⟨J3, w1, -, w3⟩ := weigh_n m2 hh1 hh
    have hval : UH n np (tf2 a b ct) law B (jD D a b) (wfJ a b wf) h h (mgW a b w np) = V a b := by rw [← hVe]; rfl
    rw [hval] at w1
    have hJ3 : ∀ c, (c < 9 ∨ (17 ≤ c ∧ c < 45) ∨ 63 ≤ c) → J3 c = I c := fun c hc => by rw [w3 c (by omega), m3 c (by omega), j3 c (by omega)]; exact hf c hc
    have g14 : J2 1 4 = nI law := by rw [m3 1 (by omega), j3 1 (by omega), hf 1 (by omega)]; exact g4
    have hst := hZs b hab
    have hZb := hZok b
    have hVb := hV a b
    rw [show a + 1 + (i + 1) = b + 1 by omega]
    have hbody : sX11_join_83 (nI h) (nI a) (vI (Z b).1, (Z b).2, nI b, K) = if vI (V a b) = (-1 : Int32) then some (.inl (vI (Z b).1, (Z b).2, nI (b + 1), J3)) else if vI (Z b).1 = (-1 : Int32) then some (.inl (vI (V a b), nI (10 * a + b), nI (b + 1), J3)) else if vI (Z b).1 ≤ vI (V a b) then some (.inl (vI (Z b).1, (Z b).2, nI (b + 1), J3)) else some (.inl (vI (V a b), nI (10 * a + b), nI (b + 1), J3)) := by
      unfold sX11_join_83
      dsimp only
      unfold bX11_join_83
      rw [hf 1 (by omega), hF.2.2.2.2.2.2.1.1, if_neg (by rw [nI_leI (by omega) (by omega)]; omega), bnd_s j1, bnd_s m1, g14, chk_t (inb_n (by omega) (by decide)), ix_n (by omega), bnd_s (asL_n law (by omega)), bnd2_s w1]
      unfold jX11_join_160
      dsimp only [letb]
      rw [show (10 : Int32) = nI 10 from rfl, pk_mul, nI_add, nI_1]
    rw [hbody]
    have take : V a b < (Z b).1 → ∃ y, some (Sum.inl (vI (V a b), nI (10 * a + b), nI (b + 1), J3)) = (some (Sum.inl y) : Option ((Int32 × Int32 × Int32 × Mem) ⊕ ((Int32 × Int32 × Int32 × Mem) ⊕ (Int32 × Mem)))) ∧ y.1 = vI (Z (b + 1)).1 ∧ y.2.1 = (Z (b + 1)).2 ∧ y.2.2.1 = nI (b + 1) ∧ ∀ c, (c < 9 ∨ (17 ≤ c ∧ c < 45) ∨ 63 ≤ c) → y.2.2.2 c = I c := fun hlt => by
      have e : Z (b + 1) = (V a b, nI (10 * a + b)) := by rw [hst]; unfold stJ; rw [if_pos hlt]
      exact ⟨_, rfl, by rw [e], by rw [e], rfl, hJ3⟩
    have leave : ¬ V a b < (Z b).1 → ∃ y, some (Sum.inl (vI (Z b).1, (Z b).2, nI (b + 1), J3)) = (some (Sum.inl y) : Option ((Int32 × Int32 × Int32 × Mem) ⊕ ((Int32 × Int32 × Int32 × Mem) ⊕ (Int32 × Mem)))) ∧ y.1 = vI (Z (b + 1)).1 ∧ y.2.1 = (Z (b + 1)).2 ∧ y.2.2.1 = nI (b + 1) ∧ ∀ c, (c < 9 ∨ (17 ≤ c ∧ c < 45) ∨ 63 ≤ c) → y.2.2.2 c = I c := fun hlt => by
      have e : Z (b + 1) = Z b := by rw [hst]; unfold stJ; rw [if_neg hlt]
      exact ⟨_, rfl, by rw [e], by rw [e], rfl, hJ3⟩
    unfold okN at hZb hVb
    by_cases c1 : V a b = NV
    · rw [if_pos (show vI (V a b) = -1 from if_pos c1)]
      exact leave (by omega)
    · have v1 : vI (V a b) = nI (V a b) := if_neg c1
      rw [if_neg (by rw [v1]; exact n_ne1 (by omega))]
      by_cases c2 : (Z b).1 = NV
      · rw [if_pos (show vI (Z b).1 = -1 from if_pos c2)]
        exact take (by omega)
      · have v2 : vI (Z b).1 = nI (Z b).1 := if_neg c2
        rw [if_neg (by rw [v2]; exact n_ne1 (by omega))]
        by_cases c3 : (Z b).1 ≤ V a b
        · rw [if_pos (by rw [v1, v2, nI_leI (by omega) (by omega)]; exact c3)]
          exact leave (by omega)
        · rw [if_neg (by rw [v1, v2, nI_leI (by omega) (by omega)]; exact c3)]
          exact take (by omega)
  · obtain ⟨x2, x3, x5, K⟩ := x
    dsimp only at hx
    obtain ⟨rfl, rfl, rfl, hf⟩ := hx
    rw [show a + 1 + (n - (a + 1)) = n by omega]
    refine ⟨.inl (vI (Z n).1, (Z n).2, nI (a + 1), K), ?_, K, rfl, hf⟩
    unfold sX11_join_83
    dsimp only
    unfold bX11_join_83
    rw [hf 1 (by omega), hF.2.2.2.2.2.2.1.1, if_pos (by rw [nI_leI (by omega) (by omega)]; omega), nI_1]
theorem j65 {I M : Mem} {n np ct law B w h : Nat} {D : Nat → Nat} {wf : Nat → Nat → Option Nat} {X : Nat × Int32} (hF : HF I 1 n np ct law B w D wf) (g4 : I 1 4 = nI law) (hd : DG n D) (hnp : np ≤ 3) (hh1 : 1 ≤ h) (hh : h ≤ 4) (hX : okN X.1) (hM : ∀ c, (c < 9 ∨ (17 ≤ c ∧ c < 45) ∨ 63 ≤ c) → M c = I c) :
    ∃ M2, iter (sX11_join_65 (nI h)) FU (vI X.1, X.2, (0 : Int32), M) = some (((prC n).foldl (stJ (VJ n np ct law B D wf h w)) X).2, M2) ∧ ∀ c, (c < 9 ∨ (17 ≤ c ∧ c < 45) ∨ 63 ≤ c) → M2 c = I c := by
  have hn := hF.2.1
  have hV : ∀ a b, okN (VJ n np ct law B D wf h w a b) := VJ_ok hF.2.2.1 hh
  generalize hZ : (fun i => ((List.range i).flatMap (fun a => ((List.range n).filter (fun b => decide (a < b))).map (fun b => (a, b)))).foldl (stJ (VJ n np ct law B D wf h w)) X) = Z
  have hZn : (prC n).foldl (stJ (VJ n np ct law B D wf h w)) X = Z n := by rw [← hZ]; rfl
  have hZok : ∀ i, okN (Z i).1 := fun i => by rw [← hZ]; exact stJ_ok hV _ _ hX
  have hZ0 : Z 0 = X := by rw [← hZ]; rfl
  have hZs : ∀ i, Z (i + 1) = (((List.range n).filter (fun b => decide (i < b))).map (fun b => (i, b))).foldl (stJ (VJ n np ct law B D wf h w)) (Z i) := fun i => by
    rw [← hZ]
    dsimp only
    rw [List.range_succ, List.flatMap_append, List.foldl_append, List.flatMap_cons, List.flatMap_nil, List.append_nil]
  rw [hZn]
  have key := iter_invF (s := sX11_join_65 (nI h)) (fun i x => x.1 = vI (Z i).1 ∧ x.2.1 = (Z i).2 ∧ x.2.2.1 = nI i ∧ ∀ c, (c < 9 ∨ (17 ≤ c ∧ c < 45) ∨ 63 ≤ c) → x.2.2.2 c = I c)
    (fun r => r.1 = (Z n).2 ∧ ∀ c, (c < 9 ∨ (17 ≤ c ∧ c < 45) ∨ 63 ≤ c) → r.2 c = I c) n (FU_lt (by omega)) (x := (vI X.1, X.2, (0 : Int32), M)) ⟨by rw [hZ0], by rw [hZ0], rfl, hM⟩ (fun i x hi hx => ?_) (fun x hx => ?_)
  · obtain ⟨⟨r1, M2⟩, k1, rfl, k2⟩ := key
    exact ⟨M2, k1, k2⟩
  · obtain ⟨x2, x3, x4, K⟩ := x
    dsimp only at hx
    obtain ⟨rfl, rfl, rfl, hf⟩ := hx
    obtain ⟨M2, m1, m2⟩ := j83 (X := Z i) hF g4 hd hnp hh1 hh hi (hZok i) hf
    rw [← hZs i] at m1
    refine ⟨(vI (Z (i + 1)).1, (Z (i + 1)).2, nI (i + 1), M2), ?_, rfl, rfl, rfl, m2⟩
    unfold sX11_join_65
    dsimp only
    unfold bX11_join_65
    dsimp only [letb]
    rw [hf 1 (by omega), hF.2.2.2.2.2.2.1.1, if_neg (by rw [nI_leI (by omega) (by omega)]; omega), nI_1]
    exact m1
  · obtain ⟨x2, x3, x4, K⟩ := x
    dsimp only at hx
    obtain ⟨rfl, rfl, rfl, hf⟩ := hx
    refine ⟨((Z n).2, K), ?_, rfl, hf⟩
    unfold sX11_join_65
    dsimp only
    unfold bX11_join_65
    rw [hf 1 (by omega), hF.2.2.2.2.2.2.1.1, if_pos (by rw [nI_leI (by omega) (by omega)]; omega)]
theorem MF.congr2 {I J : Mem} {n np ct law B bj : Nat} {D : Nat → Nat} {wf : Nat → Nat → Option Nat} (h : MF I n np ct law B bj D wf) (h1 : ∀ k, k < 54 → J 75 k = I 75 k) (h2 : J 74 15 = I 74 15) : MF J n np ct law B bj D wf := by
  obtain ⟨hn, hnp, hct, hl, hB, ⟨r0, r3, r4, r1, r2⟩, rd, hD, hwI, hwf, hj⟩ := h
  refine ⟨hn, hnp, hct, hl, hB, ⟨by rw [h1 0 (by omega)]; exact r0, by rw [h1 3 (by omega)]; exact r3, by rw [h1 4 (by omega)]; exact r4, by rw [h1 1 (by omega)]; exact r1, by rw [h1 2 (by omega)]; exact r2⟩, fun q hq => by rw [h1 _ (by omega)]; exact rd q hq, hD, fun p k hp hk1 hk => by rw [h1 _ (by omega)]; exact hwI p k hp hk1 hk, hwf, ?_⟩
  unfold JN at hj ⊢
  rw [h2]
  exact hj
theorem j45 {I M : Mem} {n np ct law B w h : Nat} {D : Nat → Nat} {wf : Nat → Nat → Option Nat} {X : Nat × Int32} (hM : MF I n np ct law B 9 D wf) (hj : I 74 15 = -1) (hd : DG n D) (hnp : np ≤ 3) (hh1 : 1 ≤ h) (hh : h ≤ 4) (hw : w ∈ enA n np) (hat : ∀ p, p < np → I 75 (20 + p) = nI (dg w p)) (hX : okN X.1) (hf0 : (∀ k, k < 474 → M 75 k = I 75 k) ∧ (∀ i, M 74 i = I 74 i) ∧ ∀ c, c ≠ 74 → c ≠ 75 → c ≠ 82 → M c = I c) :
    ∃ M2, iter (sX12_join_45 (nI h)) FU (nI X.1, X.2, (0 : Int32), M) = some (((prM n 25).foldl (stJ (VJ n np ct law B D wf h w)) X).2, M2) ∧ (∀ k, k < 474 → M2 75 k = I 75 k) ∧ (∀ i, M2 74 i = I 74 i) ∧ ∀ c, c ≠ 74 → c ≠ 75 → c ≠ 82 → M2 c = I c := by
  have hn := hM.1
  have hNV : NV = 268435456 := rfl
  have hV : ∀ a b, okN (VJ n np ct law B D wf h w a b) := VJ_ok hM.2.1 hh
  generalize hVe : VJ n np ct law B D wf h w = V at hV
  generalize hZ : (fun i => (prM n i).foldl (stJ V) X) = Z
  have hZn : (prM n 25).foldl (stJ V) X = Z 25 := by rw [← hZ]
  have hZok : ∀ i, okN (Z i).1 := fun i => by rw [← hZ]; exact stJ_ok hV _ _ hX
  have hZ0 : Z 0 = X := by rw [← hZ]; rfl
  have hZs : ∀ i, Z (i + 1) = if (decide (i / 5 < i % 5) && decide (i % 5 < n)) = true then stJ V (Z i) (i / 5, i % 5) else Z i := fun i => by
    rw [← hZ]
    dsimp only
    unfold prM
    rw [List.range_succ, List.filter_append, List.map_append, List.foldl_append, List.filter_cons, List.filter_nil]
    split <;> rfl
  rw [hZn]
  have key := iter_invF (s := sX12_join_45 (nI h)) (fun i x => x.1 = nI (Z i).1 ∧ x.2.1 = (Z i).2 ∧ x.2.2.1 = nI i ∧ (∀ k, k < 474 → x.2.2.2 75 k = I 75 k) ∧ (∀ j, x.2.2.2 74 j = I 74 j) ∧ ∀ c, c ≠ 74 → c ≠ 75 → c ≠ 82 → x.2.2.2 c = I c)
    (fun r => r.1 = (Z 25).2 ∧ (∀ k, k < 474 → r.2 75 k = I 75 k) ∧ (∀ i, r.2 74 i = I 74 i) ∧ ∀ c, c ≠ 74 → c ≠ 75 → c ≠ 82 → r.2 c = I c) 25 (FU_lt (by decide)) (x := (nI X.1, X.2, (0 : Int32), M)) ⟨by rw [hZ0], by rw [hZ0], rfl, hf0⟩ (fun i x hi hx => ?_) (fun x hx => ?_)
  · obtain ⟨⟨r1, M2⟩, k1, rfl, k2⟩ := key
    exact ⟨M2, k1, k2⟩
  · obtain ⟨x2, x3, x4, K⟩ := x
    dsimp only at hx
    obtain ⟨rfl, rfl, rfl, hf1, hf2, hf3⟩ := hx
    have ea : nI i / (5 : Int32) = nI (i / 5) := pk_div (by omega) (by decide) (by decide)
    have eb : nI i - nI i / (5 : Int32) * (5 : Int32) = nI (i % 5) := pk_rem (by omega) (by decide) (by decide)
    have hbody0 : sX12_join_45 (nI h) (nI (Z i).1, (Z i).2, nI i, K) = if nI (i % 5) ≤ nI (i / 5) then some (.inl (nI (Z i).1, (Z i).2, nI (i + 1), K)) else bnd (fX12_isRoom (nI (i % 5)) K) (fun v_10 => if v_10 = 0 then some (.inl (nI (Z i).1, (Z i).2, nI (i + 1), K)) else bnd (fX12_copy (0 : Int32) (3 : Int32) K) (fun I_12 => bnd (fX12_joinTwo (nI (i / 5)) (nI (i % 5)) I_12) (fun I_14 => bnd2 (fX12_leastBy (nI h) I_14) (fun v_16 I_17 => if nI (Z i).1 ≤ v_16 then jX12_join_119 (nI h) (nI (Z i).1) (nI i) v_16 (Z i).2 I_17 else jX12_join_119 (nI h) (nI (Z i).1) (nI i) v_16 (nI (10 * (i / 5) + i % 5)) I_17)))) := by
      unfold sX12_join_45
      dsimp only
      unfold bX12_join_45
      dsimp only [letb]
      rw [if_neg (show ¬ (25 : Int32) ≤ nI i from nI_ge (b := 25) hi (by decide)), eb, ea, show (10 : Int32) = nI 10 from rfl, pk_mul, nI_add, nI_1]
    rw [hbody0, hZs i]
    have hleave : ∃ y, some (Sum.inl (nI (Z i).1, (Z i).2, nI (i + 1), K)) = (some (Sum.inl y) : Option ((Int32 × Int32 × Int32 × Mem) ⊕ (Int32 × Mem))) ∧ y.1 = nI (Z i).1 ∧ y.2.1 = (Z i).2 ∧ y.2.2.1 = nI (i + 1) ∧ (∀ k, k < 474 → y.2.2.2 75 k = I 75 k) ∧ (∀ j, y.2.2.2 74 j = I 74 j) ∧ ∀ c, c ≠ 74 → c ≠ 75 → c ≠ 82 → y.2.2.2 c = I c := ⟨_, rfl, rfl, rfl, rfl, hf1, hf2, hf3⟩
    have r0 : K 75 0 = nI n := by rw [hf1 0 (by omega)]; exact hM.2.2.2.2.2.1.1
    by_cases c1 : i % 5 ≤ i / 5
    · rw [if_pos (by rw [nI_leI (by omega) (by omega)]; exact c1), decide_eq_false (by omega), Bool.false_and, if_neg (by decide)]
      exact hleave
    · rw [if_neg (by rw [nI_leI (by omega) (by omega)]; exact c1), bnd_s (isRoomM _ r0 (by omega)), nI_toInt (by omega), decide_eq_true (show i / 5 < i % 5 by omega), Bool.true_and]
      by_cases c2 : i % 5 < n
      · rw [decide_eq_true (show (0 : Int) ≤ (i % 5 : Nat) ∧ ((i % 5 : Nat) : Int) < n by omega), if_neg (by decide), decide_eq_true c2, if_pos rfl]
        generalize hae : i / 5 = a at c1
        generalize hbe : i % 5 = b at c1 c2
        have hab : a < b := by omega
        -- the row is kept aside
        have hcp := copyM_n (a := 0) (c := 3) (I := K) (by omega) (by omega) (by omega)
        generalize hK1 : cpM K 75 75 (158 * 0) (158 * 3) 158 = K1 at hcp
        have K1k : ∀ k, k < 474 → K1 75 k = I 75 k := fun k hk => by
          rw [← hK1]
          unfold cpM
          rw [upA_self, cpA_out (by omega)]; exact hf1 k hk
        have K1s : ∀ k, k < 158 → K1 75 (474 + k) = I 75 k := fun k hk => by
          rw [← hK1]
          unfold cpM
          rw [upA_self, cpA_in (by omega) (by omega), show 158 * 0 + (474 + k - 158 * 3) = k by omega]; exact hf1 k (by omega)
        have K1c : ∀ c, c ≠ 75 → K1 c = K c := fun c hc => by rw [← hK1]; unfold cpM; rw [upA_c hc]
        have hM1 : MF K1 n np ct law B 9 D wf := hM.congr2 (fun k hk => K1k k (by omega)) (by rw [K1c 74 (by decide)]; exact hf2 15)
        obtain ⟨J, j1, j2, j3, j4, j5, j6⟩ := joinTwo_n (a := a) (b := b) hM1 hd hab c2 hnp hw (fun p hp => by rw [K1k _ (by omega)]; exact hat p hp)
        obtain ⟨v1, v2⟩ := VJ_fil (ct := ct) (law := law) (B := B) (D := D) (wf := wf) (h := h) hn.2 hnp hab c2 hw
        obtain ⟨J2, l1, l2⟩ := leastBy_n j2 hh1 hh v1 j3
        rw [v2, hVe] at l1
        have hcp2 := copyM_n (a := 3) (c := 0) (I := J2) (by omega) (by omega) (by omega)
        generalize hK3 : cpM J2 75 75 (158 * 3) (158 * 0) 158 = K3 at hcp2
        have J275 : J2 75 = J 75 := l2 75 (by decide)
        have K3k : ∀ k, k < 474 → K3 75 k = I 75 k := fun k hk => by
          rw [← hK3]
          unfold cpM
          rw [upA_self]
          by_cases c : k < 158
          · rw [cpA_in (by omega) (by omega), J275, show 158 * 3 + (k - 158 * 0) = 474 + k by omega, j4 _ (by omega)]; exact K1s k c
          · rw [cpA_out (by omega), J275, j4 _ (by omega)]; exact K1k k hk
        have K3c : ∀ c, c ≠ 75 → K3 c = J2 c := fun c hc => by rw [← hK3]; unfold cpM; rw [upA_c hc]
        have hfin : (∀ k, k < 474 → up2 K3 74 15 (-1) 75 k = I 75 k) ∧ (∀ j, up2 K3 74 15 (-1) 74 j = I 74 j) ∧ ∀ c, c ≠ 74 → c ≠ 75 → c ≠ 82 → up2 K3 74 15 (-1) c = I c := by
          refine ⟨fun k hk => by rw [up2_c (by decide)]; exact K3k k hk, fun j => ?_, fun c q1 q2 q3 => by rw [up2_cc q1, K3c c q2, l2 c q3, j5 c q1 q2, K1c c q2]; exact hf3 c q1 q2 q3⟩
          by_cases e : j = 15
          · rw [e, up2_self, hj]
          · rw [up2_i e, K3c 74 (by decide), l2 74 (by decide), j6 j e, K1c 74 (by decide)]; exact hf2 j
        have h132 : ∀ u x3 : Int32, jX12_join_132 (nI h) x3 (nI i) u J2 = some (.inl (u, x3, nI (i + 1), up2 K3 74 15 (-1))) := fun u x3 => by
          unfold jX12_join_132
          rw [bnd_s (show fX12_copy (3 : Int32) (0 : Int32) J2 = some K3 from hcp2), nI_1]
          rfl
        rw [bnd_s (show fX12_copy (0 : Int32) (3 : Int32) K = some K1 from hcp), bnd_s j1, bnd2_s l1]
        have hZb := hZok i
        have hVb := hV a b
        unfold okN at hZb hVb
        unfold jX12_join_119
        rw [h132, h132, h132, h132]
        show ∃ y, _ = (some (Sum.inl y) : Option ((Int32 × Int32 × Int32 × Mem) ⊕ (Int32 × Mem))) ∧ y.1 = nI (if V a b < (Z i).1 then (V a b, nI (10 * a + b)) else Z i).1 ∧ y.2.1 = (if V a b < (Z i).1 then (V a b, nI (10 * a + b)) else Z i).2 ∧ _
        by_cases c3 : (Z i).1 ≤ V a b
        · have c4 : nI (Z i).1 ≤ nI (V a b) := by rw [nI_leI (by omega) (by omega)]; exact c3
          rw [if_pos c4, if_pos c4, if_neg (by omega)]
          exact ⟨_, rfl, rfl, rfl, rfl, hfin⟩
        · have c4 : ¬ nI (Z i).1 ≤ nI (V a b) := by rw [nI_leI (by omega) (by omega)]; exact c3
          rw [if_neg c4, if_neg c4, if_pos (by omega)]
          exact ⟨_, rfl, rfl, rfl, rfl, hfin⟩
      · rw [decide_eq_false (show ¬ ((0 : Int) ≤ (i % 5 : Nat) ∧ ((i % 5 : Nat) : Int) < n) by omega), if_pos (by decide), decide_eq_false c2, if_neg (by decide)]
        exact hleave
  · obtain ⟨x2, x3, x4, K⟩ := x
    dsimp only at hx
    obtain ⟨rfl, rfl, rfl, hf⟩ := hx
    refine ⟨((Z 25).2, K), ?_, rfl, hf⟩
    unfold sX12_join_45
    dsimp only
    unfold bX12_join_45
    rw [if_pos (show (25 : Int32) ≤ nI 25 by decide)]
theorem ok_join {T : Nat} {I : Mem} (h : Sim T I) (hT : T ≤ 1000) (x1 : Int32) : OK T I (fX11_join x1) (fX12_join x1) := by
  obtain ⟨A, w, pw, hc, hv, hb, ⟨g0, g1, g2, g3, g4, g5, g6, g7⟩, gd, gp, hr⟩ := h.get
  have badX : jX11_join_10 I = some (-2, up2 I 0 10 (I 0 10 + 1)) := rfl
  obtain ⟨c1, c2, c3, c4, c5, c6, c7, c8, c9, d1, d2, d3, d4⟩ := id hb
  rcases rng x1 1 4 (by decide) with ⟨l, hl1, hl, rfl⟩ | hf
  · by_cases c : A 3 = 4
    · refine ok_no h (-3) ?_ ?_
      · unfold fX11_join
        rw [if_neg (show ¬ nI l < (1 : Int32) from nI_nlt (b := 1) hl1 (by omega)), if_pos (show nI l ≤ (4 : Int32) from nI_le (b := 4) hl (by decide)), g2, c, if_neg (by decide), refXn]
        rfl
      · unfold fX12_join
        rw [bnd_s (in_t (lo := 1) (hi := 4) rfl rfl hl1 hl (by omega)), if_neg (by decide), chk_t (by decide), show ix (3 : Int32) = 3 from rfl, up0_c (c := 75) (by decide), hr 3 (Or.inl (by decide)), c, if_pos (show nI 4 = (4 : Int32) from rfl), refMn]
        rfl
    · have hnp : A 3 ≤ 3 := by omega
      have hF := Sim.hf hT hc hv ⟨g0, g1, g2, g3, g5⟩ gd
      have hw := hF.2.2.2.2.2.2.2.1
      have hDG : DG (A 0) (fun q => A (5 + q)) := ⟨c9, d1, d2, d3⟩
      obtain ⟨J, j1, -, j3⟩ := weigh_n hF hl1 hl
      generalize hU : UH (A 0) (A 3) (A 4) (A 1) (A 2) (fun q => A (5 + q)) (wfI (I 75)) l l w = U at j1
      have hUok : okN U := by rw [← hU]; exact UH_16 c3 hl
      obtain ⟨M2, m1, m2⟩ := j65 (M := J) (X := (U, (-1 : Int32))) hF g4 hDG hnp hl1 hl hUok (fun c hc => j3 c (by omega))
      have M75 : M2 75 = I 75 := m2 75 (by omega)
      have M74 : M2 74 = I 74 := m2 74 (by omega)
      have hMF : MF M2 (A 0) (A 3) (A 4) (A 1) (A 2) 9 (fun q => A (5 + q)) (wfI (I 75)) := Sim.mf hT hv M75 (by rw [M74]; exact h.2.2.2.2.2)
      have hat : ∀ p, p < A 3 → M2 75 (20 + p) = nI (dg w p) := fun p hp => by rw [M75]; exact hv.2.2.2.1 p hp
      obtain ⟨K, k1, k2⟩ := leastBy_n hMF hl1 hl (by rw [enJ_9 c1.2]; exact hw) hat
      rw [enJ_9 c1.2, show UV (enA (A 0) (A 3)) (ecH (A 3) (A 4) (A 1) (A 2) (fun q => A (5 + q)) (wfI (I 75))) l l w = U from hU] at k1
      obtain ⟨K2, n1, n2, n3, n4⟩ := j45 (I := M2) (M := K) (X := (U, (-1 : Int32))) hMF (by rw [M74]; exact h.2.2.2.2.2) hDG hnp hl1 hl hw hat hUok ⟨fun k _ => by rw [k2 75 (by decide)], fun i => by rw [k2 74 (by decide)], fun c _ _ q => k2 c q⟩
      rw [pr_eq (A 0) (by omega)] at n1
      refine ⟨((prC (A 0)).foldl (stJ (VJ (A 0) (A 3) (A 4) (A 1) (A 2) (fun q => A (5 + q)) (wfI (I 75)) l w)) (U, (-1 : Int32))).2, M2, K2, ?_, ?_, ?_⟩
      · unfold fX11_join
        rw [if_neg (show ¬ nI l < (1 : Int32) from nI_nlt (b := 1) hl1 (by omega)), if_pos (show nI l ≤ (4 : Int32) from nI_le (b := 4) hl (by decide)), g2, if_pos (show nI (A 3) < (4 : Int32) from nI_lt (b := 4) (by omega) (by decide)), g4, chk_t (inb_n (by omega) (by decide)), ix_n (by omega), bnd_s (asL_n (A 1) (by omega)), bnd2_s j1]
        exact m1
      · unfold fX12_join
        rw [bnd_s (in_t (lo := 1) (hi := 4) rfl rfl hl1 hl (by omega)), if_neg (by decide), chk_t (by decide), show ix (3 : Int32) = 3 from rfl, M75, hr 3 (Or.inl (by decide)), if_neg (by rw [show (4 : Int32) = nI 4 from rfl, nI_eq (by omega) (by omega)]; exact c), bnd2_s k1]
        exact n1
      · have e : ∀ c, c ≠ 74 → c ≠ 75 → c ≠ 82 → (c < 9 ∨ (17 ≤ c ∧ c < 45) ∨ 63 ≤ c) → K2 c = I c := fun c q1 q2 q3 q4 => by rw [n4 c q1 q2 q3]; exact m2 c q4
        have e75 : ∀ k, k < 474 → K2 75 k = I 75 k := fun k hk => by rw [n2 k hk, M75]
        have e74 : ∀ i, K2 74 i = I 74 i := fun i => by rw [n3 i, M74]
        refine sim_frame h (by omega) ((h.1.mono (by omega)).congr (fun c hc => e _ (by omega) (by omega) (by omega) (by omega)) (fun k hk => e75 _ (by omega))) (fun q _ => by rw [e 0 (by decide) (by decide) (by decide) (by omega)]) (fun c q1 q2 => e c (by omega) (by omega) (by omega) (by omega)) (by rw [e 35 (by decide) (by decide) (by decide) (by omega)]) (e 36 (by decide) (by decide) (by decide) (by omega)) (e74 3) (e74 15) (fun k _ q => e75 k q) (e 76 (by decide) (by decide) (by decide) (by omega)) (e 77 (by decide) (by decide) (by decide) (by omega)) (e 78 (by decide) (by decide) (by decide) (by omega))
  · refine ok_bad h (-2) ?_ ?_
    · unfold fX11_join
      by_cases c : x1 < (1 : Int32)
      · rw [if_pos c]; exact badX
      · rw [if_neg c, if_neg (by rw [x_le, show (4 : Int32).toInt = 4 from rfl]; rw [x_lt, show (1 : Int32).toInt = 1 from rfl] at c; omega)]; exact badX
    · unfold fX12_join
      rw [bnd_s (in_f (lo := 1) (hi := 4) rfl rfl hf), if_pos (by decide), refM]
      rfl
