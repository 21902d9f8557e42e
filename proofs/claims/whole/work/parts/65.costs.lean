/-! ===== the model's evening: costs of all standings ===== -/
theorem keepsW_n {np k s : Nat} {wf : Nat → Nat → Option Nat} {I : Mem} (r3 : I 75 3 = nI np) (hnp : np ≤ 4) (hk1 : 1 ≤ k) (hk : k ≤ 4) (hw : ∀ p, p < np → I 75 (28 + (4 * p + (k - 1))) = oI (wf p k)) (hwf : ∀ p q, p < np → wf p k = some q → q < 8) (hs : s < 2 ^ 31) : fX12_keepsWishes (nI s) (nI k) I = some (b2i (okW np wf k s)) := by
  unfold fX12_keepsWishes okW
  refine iter_go (fun i => (b2i (allB (fun p => wq (wf p k) (dg s p)) i), nI i)) np (FU_lt (by omega)) ?_ (fun i hi => ?_)
  · unfold sX12_keepsWishes_5
    dsimp only
    unfold bX12_keepsWishes_5
    rw [chk_t (by decide), show ix (3 : Int32) = 3 from rfl, r3, if_pos (by rw [nI_leI (by omega) (by omega)]; omega), chk_t (b2i_zb _)]
  · unfold sX12_keepsWishes_5
    dsimp only
    unfold bX12_keepsWishes_5
    have hd := dg_lt s i
    have e : (28 : Int32) + (4 : Int32) * nI i + nI k - (1 : Int32) = nI (28 + (4 * i + (k - 1))) := by
      rw [show (28 : Int32) = nI 28 from rfl, show (4 : Int32) = nI 4 from rfl, pk_mul, nI_add, nI_add, show (1 : Int32) = nI 1 from rfl, pk_sub (by omega)]
      congr 1
      omega
    rw [chk_t (by decide), show ix (3 : Int32) = 3 from rfl, r3, if_neg (by rw [nI_leI (by omega) (by omega)]; omega), e, chk_t (inb_n (by omega) (by decide)), ix_n (by omega), hw i hi]
    dsimp only [letb]
    rw [allB, nI_1]
    cases allB (fun p => wq (wf p k) (dg s p)) i with
    | false => rfl
    | true =>
      rw [if_neg (by decide), Bool.true_and]
      cases ho : wf i k with
      | none =>
        rw [if_pos (show oI none = -1 from rfl)]
        rfl
      | some q =>
        have hq := hwf i q hi ho
        rw [if_neg (show ¬ oI (some q) = -1 from n_ne1 (by omega)), bnd_s (roomIn_n I hs (by omega)), show oI (some q) = nI q from rfl]
        by_cases c : q = dg s i
        · rw [if_pos (by rw [c]), c]
          simp [wq, b2i]
        · rw [if_neg (by rw [nI_eq (by omega) (by omega)]; exact c)]
          simp [wq, b2i, c]
/-- what the model's row holds; the room that was joined: 9 if none was -/
def MF (I : Mem) (n np ct law B bj : Nat) (D : Nat → Nat) (wf : Nat → Nat → Option Nat) : Prop := (1 ≤ n ∧ n ≤ 5) ∧ np ≤ 4 ∧ ct < 32 ∧ law ≤ 4 ∧ B < 2 ^ 20 ∧ (I 75 0 = nI n ∧ I 75 3 = nI np ∧ I 75 4 = nI ct ∧ I 75 1 = nI law ∧ I 75 2 = nI B) ∧ (∀ q, q < 5 → I 75 (5 + q) = nI (D q)) ∧ (∀ q, q < 5 → D q < 2 ^ n) ∧ (∀ p k, p < np → 1 ≤ k → k ≤ 4 → I 75 (28 + (4 * p + (k - 1))) = oI (wf p k)) ∧ (∀ p k q, p < np → 1 ≤ k → k ≤ 4 → wf p k = some q → q < n) ∧ JN I bj
theorem MF.congr {I J : Mem} {n np ct law B bj : Nat} {D : Nat → Nat} {wf : Nat → Nat → Option Nat} (h : MF I n np ct law B bj D wf) (h1 : J 75 = I 75) (h2 : J 74 = I 74) : MF J n np ct law B bj D wf := by
  unfold MF JN at h ⊢
  rw [h1, h2]
  exact h
theorem by_n {I : Mem} {n np ct law B bj g s t v : Nat} {D : Nat → Nat} {wf : Nat → Nat → Option Nat} (hM : MF I n np ct law B bj D wf) (hg : g < 4) (hs : s < 4096) (hsv : ∀ p, p < np → dg s p < 5) (ht : t < 4096) (hv : I 82 (4096 * (g + 1) + t) = nI v) (hvb : v = NV ∨ v ≤ 16) : fX12_by (nI g) (nI s) (nI t) I = some (nI (byN (ecH np ct law B D wf (g + 1) s t) v)) := by
  obtain ⟨hn, hnp, hct, hl, hB, ⟨r0, r3, r4, r1, r2⟩, hd, hD, hw, hwf, hj⟩ := hM
  have h32 := pow_le32 hn.2
  have hNV : NV = 268435456 := rfl
  unfold fX12_by
  dsimp only [letb]
  rw [if_neg (n_ne1 (by omega)), bnd_s (mayGo_n r3 hnp hd (fun r hr => by have := hD r hr; omega) (by omega) (by omega) hsv)]
  cases hgo : allB (goP D s t) np with
  | false =>
    have e : ecH np ct law B D wf (g + 1) s t = none := by unfold ecH; rw [hgo]; rfl
    rw [if_pos (by decide), e]
    rfl
  | true =>
    rw [if_neg (by decide), nI_1, bnd_s (keepsW_n (wf := wf) (k := g + 1) r3 hnp (by omega) (by omega) (fun p hp => hw p (g + 1) hp (by omega) (by omega)) (fun p q hp hq => by have := hwf p (g + 1) q hp (by omega) (by omega) hq; omega) (by omega))]
    cases hok : okW np wf (g + 1) t with
    | false =>
      have e : ecH np ct law B D wf (g + 1) s t = none := by unfold ecH; rw [hgo, hok]; rfl
      rw [if_pos (by decide), e]
      rfl
    | true =>
      have e : ecH np ct law B D wf (g + 1) s t = some (cnt (layB np ct law (B + (g + 1)) s t) np) := by unfold ecH; rw [hgo, hok]; rfl
      rw [if_neg (by decide), e, show (4096 : Int32) = nI 4096 from rfl, pk_mul, nI_add, chk_t (inb_n (by omega) (by decide)), ix_n (by omega), hv, show (268435456 : Int32) = nI NV from rfl]
      show _ = some (nI (if v = NV then NV else v + cnt (layB np ct law (B + (g + 1)) s t) np))
      by_cases c : v = NV
      · rw [if_pos (by rw [c]), if_pos c]
      · rw [if_neg (by rw [nI_eq (by omega) (by omega)]; exact c), if_neg c, chk_t (by decide), chk_t (by decide), show ix (1 : Int32) = 1 from rfl, show ix (2 : Int32) = 2 from rfl, r1, r2, nI_add, nI_1, Nat.add_assoc B g 1, bnd_s (laid_n r3 hnp r4 hct hl (by omega) (by omega) (by omega)), nI_add]
theorem by_none {I : Mem} (x1 x2 : Int32) : fX12_by x1 x2 (-1) I = some (nI NV) := rfl
/-- a standing without a room -/
def okJ (np bj s : Nat) : Bool := allB (fun p => dg s p != bj) np
def enJ (n np bj : Nat) : List Nat := (enA n np).filter (okJ np bj)
theorem hit_ok {n bj : Nat} (hn1 : 1 ≤ n) (hn : n ≤ 5) : ∀ k a, hitB n bj k a = !okJ k bj (stN n k a)
  | 0, _ => rfl
  | k + 1, a => by
    have hr : a % n < n := Nat.mod_lt _ hn1
    have hlt := stN_lt hn1 hn k (a / n)
    have ih := hit_ok (bj := bj) hn1 hn k (a / n)
    unfold okJ at ih ⊢
    have e1 : allB (fun p => dg (stN n (k + 1) a) p != bj) k = allB (fun p => dg (stN n k (a / n)) p != bj) k := allB_cong (fun p hp => by rw [stN, dg_add hlt (by omega), if_pos hp])
    have e2 : dg (stN n (k + 1) a) k = a % n := by rw [stN, dg_add hlt (by omega), if_neg (by omega), if_pos rfl]
    rw [hitB, ih, allB, e1, e2]
    have e3 : (a % n != bj) = !(a % n == bj) := rfl
    rw [e3]
    cases allB (fun p => dg (stN n k (a / n)) p != bj) k <;> cases (a % n == bj) <;> rfl
/-- the standings with a number below i -/
def ljL (n np bj i : Nat) : List Nat := ((List.range i).map (stN n np)).filter (okJ np bj)
theorem ljL_end {n np bj : Nat} (hn1 : 1 ≤ n) : ljL n np bj (n ^ np) = enJ n np bj := by
  unfold ljL enJ enA
  rw [ens_range hn1]
theorem ljL_s (n np bj i : Nat) : ljL n np bj (i + 1) = ljL n np bj i ++ (if okJ np bj (stN n np i) = true then [stN n np i] else []) := by
  unfold ljL
  rw [List.range_succ, List.map_append, List.filter_append, List.map_cons, List.map_nil, List.filter_cons, List.filter_nil]
theorem stN_en {n np i : Nat} (hn1 : 1 ≤ n) (hn : n ≤ 5) : stN n np i ∈ enA n np := enA_mem hn (stN_lt hn1 hn np i) (stN_dg hn1 hn np i)
theorem UJ_16 {L : List Nat} {np ct law B : Nat} {D : Nat → Nat} {wf : Nat → Nat → Option Nat} {h r s : Nat} (hnp : np ≤ 4) (hr : r ≤ 4) : UV L (ecH np ct law B D wf) h r s = NV ∨ UV L (ecH np ct law B D wf) h r s ≤ 16 := by
  rcases UV_le (L := L) (h := h) (ecH_le (ct := ct) (law := law) (B := B) (D := D) (wf := wf) hnp) r s with q | q
  · exact Or.inl q
  · exact Or.inr (by omega)
theorem lc65 {I : Mem} {n np ct law B bj g s a h : Nat} {D : Nat → Nat} {wf : Nat → Nat → Option Nat} (hM : MF I n np ct law B bj D wf) (hh : h ≤ 4) (hg : g < h) (hs : s ∈ enA n np) (hV : ∀ t, t ∈ enJ n np bj → I 82 (4096 * (g + 1) + t) = nI (UV (enJ n np bj) (ecH np ct law B D wf) h (h - (g + 1)) t)) : iter (sX12_layCosts_65 (nI (n ^ np)) (nI g) (nI a) (nI s) I) FU (nI NV, (0 : Int32)) = some (.inl (nI (a + 1), up2 I 82 (4096 * g + s) (nI (UV (enJ n np bj) (ecH np ct law B D wf) h (h - g) s)))) := by
  obtain ⟨hn, hnp, hct, hl, hB, ⟨r0, r3, r4, r1, r2⟩, hd, hD, hw, hwf, hj⟩ := id hM
  have h625 := pow_le625 hn.2 hnp
  have hNV : NV = 268435456 := rfl
  have hs2 := enA_2341 hn.2 hnp hs
  generalize hL : enJ n np bj = L at hV ⊢
  generalize hU : UV L (ecH np ct law B D wf) h (h - (g + 1)) = V at hV
  generalize hf : (fun t => byN (ecH np ct law B D wf (g + 1) s t) (V t)) = f
  have hUf : UV L (ecH np ct law B D wf) h (h - g) s = minL f L := by
    rw [show h - g = (h - (g + 1)) + 1 by omega, UV, ← hf, ← hU, show h - (h - (g + 1)) = g + 1 by omega]
  have hle : ∀ i, minL f (ljL n np bj i) ≤ NV := fun i => minL_NV _ _
  rw [hUf, ← hL, ← ljL_end hn.1]
  refine iter_go (fun i => (nI (minL f (ljL n np bj i)), nI i)) (n ^ np) (FU_lt (by omega)) ?_ (fun i hi => ?_)
  · unfold sX12_layCosts_65
    dsimp only
    unfold bX12_layCosts_65
    rw [if_pos (by rw [nI_leI (by omega) (by omega)]; omega)]
    refine inrO_s ?_
    unfold jX12_layCosts_114
    dsimp only [letb]
    rw [if_neg (n_ne1 (by omega)), show (4096 : Int32) = nI 4096 from rfl, pk_mul, nI_add, chk_t (inb_n (by omega) (by decide)), ix_n (by omega), nI_1]
  · unfold sX12_layCosts_65
    dsimp only
    unfold bX12_layCosts_65
    have hst := standingOf_n (a := i) r0 hn.1 hn.2 r3 hnp hj hi
    rw [hit_ok hn.1 hn.2] at hst
    rw [if_neg (by rw [nI_leI (by omega) (by omega)]; omega), if_neg (n_ne1 (by omega)), bnd_s hst, ljL_s]
    have hmi := hle i
    cases hok : okJ np bj (stN n np i) with
    | false =>
      rw [if_pos (show (!false) = true from rfl), bnd_s (by_none _ _), if_pos (nI_le hmi (by omega)), if_neg (by decide), List.append_nil, nI_1]
    | true =>
      have ht : stN n np i ∈ L := by rw [← hL]; exact List.mem_filter.mpr ⟨stN_en hn.1 hn.2, hok⟩
      have htl := stN_lt hn.1 hn.2 np i
      have h8 := pow8_le hnp
      have hft : f (stN n np i) ≤ NV := by
        rw [← hf]
        dsimp only
        have hc := ecH_le (ct := ct) (law := law) (B := B) (D := D) (wf := wf) hnp (g + 1) s (stN n np i)
        have hvb := UJ_16 (L := L) (np := np) (ct := ct) (law := law) (B := B) (D := D) (wf := wf) (h := h) (r := h - (g + 1)) (s := stN n np i) hnp (by omega)
        rw [hU] at hvb
        cases hec : ecH np ct law B D wf (g + 1) s (stN n np i) with
        | none => exact Nat.le_refl _
        | some c =>
          have := hc c hec
          show (if V (stN n np i) = NV then NV else V (stN n np i) + c) ≤ NV
          split <;> omega
      rw [if_neg (by decide), bnd_s (by_n (v := V (stN n np i)) hM (by omega) (by omega) (fun p _ => enA_dg5 hn.2 hs p) (by omega) (hV _ ht) (by rw [← hU]; exact UJ_16 hnp (by omega))), if_pos rfl]
      have hfe : byN (ecH np ct law B D wf (g + 1) s (stN n np i)) (V (stN n np i)) = f (stN n np i) := by rw [← hf]
      rw [hfe]
      unfold minL at hmi ⊢
      rw [List.foldl_append, List.foldl_cons, List.foldl_nil, nI_1]
      show _ = some (Sum.inl (nI (if f (stN n np i) < List.foldl (mnS f) NV (ljL n np bj i) then f (stN n np i) else List.foldl (mnS f) NV (ljL n np bj i)), nI (i + 1)))
      by_cases c : f (stN n np i) < List.foldl (mnS f) NV (ljL n np bj i)
      · rw [if_neg (nI_ge c (by omega)), if_pos c]
      · rw [if_pos (nI_le (by omega) (by omega)), if_neg c]
theorem lc44 {I : Mem} {n np ct law B bj g h : Nat} {D : Nat → Nat} {wf : Nat → Nat → Option Nat} (hM : MF I n np ct law B bj D wf) (hh : h ≤ 4) (hg : g < h) (hV : ∀ t, t ∈ enJ n np bj → I 82 (4096 * (g + 1) + t) = nI (UV (enJ n np bj) (ecH np ct law B D wf) h (h - (g + 1)) t)) : ∃ J, iter (sX12_layCosts_44 (nI (n ^ np)) (nI g)) FU ((0 : Int32), I) = some (.inl (nI g - 1, J)) ∧ (∀ t, t ∈ enJ n np bj → J 82 (4096 * g + t) = nI (UV (enJ n np bj) (ecH np ct law B D wf) h (h - g) t)) ∧ (∀ c, c ≠ 82 → J c = I c) ∧ ∀ x, 4096 * (g + 1) ≤ x → J 82 x = I 82 x := by
  obtain ⟨hn, hnp, hct, hl, hB, ⟨r0, r3, r4, r1, r2⟩, hd, hD, hw, hwf, hj⟩ := id hM
  have h625 := pow_le625 hn.2 hnp
  have key := iter_invF (s := sX12_layCosts_44 (nI (n ^ np)) (nI g)) (fun i x => x.1 = nI i ∧ (∀ j, j < i → okJ np bj (stN n np j) = true → x.2 82 (4096 * g + stN n np j) = nI (UV (enJ n np bj) (ecH np ct law B D wf) h (h - g) (stN n np j))) ∧ (∀ c, c ≠ 82 → x.2 c = I c) ∧ ∀ y, 4096 * (g + 1) ≤ y → x.2 82 y = I 82 y)
    (fun r => ∃ J, r = .inl (nI g - 1, J) ∧ (∀ t, t ∈ enJ n np bj → J 82 (4096 * g + t) = nI (UV (enJ n np bj) (ecH np ct law B D wf) h (h - g) t)) ∧ (∀ c, c ≠ 82 → J c = I c) ∧ ∀ x, 4096 * (g + 1) ≤ x → J 82 x = I 82 x) (n ^ np) (FU_lt (by omega)) (x := ((0 : Int32), I)) ⟨rfl, fun j hj => absurd hj (Nat.not_lt_zero _), fun _ _ => rfl, fun _ _ => rfl⟩ (fun i x hi hx => ?_) (fun x hx => ?_)
  · obtain ⟨r, k1, J, rfl, k2⟩ := key
    exact ⟨J, k1, k2⟩
  · obtain ⟨x4, K⟩ := x
    dsimp only at hx
    obtain ⟨rfl, hdone, hfr, hup⟩ := hx
    have hMK : MF K n np ct law B bj D wf := hM.congr (hfr 75 (by decide)) (hfr 74 (by decide))
    have hst := standingOf_n (a := i) (I := K) (b := bj) (by rw [hfr 75 (by decide)]; exact r0) hn.1 hn.2 (by rw [hfr 75 (by decide)]; exact r3) hnp hMK.2.2.2.2.2.2.2.2.2.2 hi
    rw [hit_ok hn.1 hn.2] at hst
    have hlt := stN_lt hn.1 hn.2 np i
    have h8 := pow8_le hnp
    unfold sX12_layCosts_44
    dsimp only
    unfold bX12_layCosts_44
    rw [if_neg (by rw [nI_leI (by omega) (by omega)]; omega), bnd_s hst]
    dsimp only [letb]
    cases hok : okJ np bj (stN n np i) with
    | false =>
      refine ⟨(nI (i + 1), K), ?_, rfl, fun j hj hj2 => ?_, hfr, hup⟩
      · rw [if_pos (show (!false) = true from rfl)]
        refine iter_inr ?_
        unfold sX12_layCosts_65
        dsimp only
        unfold bX12_layCosts_65
        have h0 : 0 < n ^ np := Nat.pow_pos (by omega)
        rw [if_neg (by rw [show (0 : Int32) = nI 0 from rfl, nI_leI (by omega) (by omega)]; omega), if_pos rfl]
        unfold jX12_layCosts_114
        rw [if_pos rfl, nI_1]
        rfl
      · by_cases e : j = i
        · rw [e, hok] at hj2; cases hj2
        · exact hdone j (by omega) hj2
    | true =>
      rw [if_neg (by decide), show (268435456 : Int32) = nI NV from rfl, lc65 hMK hh hg (stN_en hn.1 hn.2) (fun t ht => by
        have htl := enA_2341 hn.2 hnp (List.mem_filter.mp ht).1
        rw [hup _ (by omega)]; exact hV t ht)]
      refine ⟨_, rfl, rfl, fun j hj hj2 => ?_, fun c hc => ?_, fun y hy => ?_⟩
      · show up2 K 82 (4096 * g + stN n np i) _ 82 (4096 * g + stN n np j) = _
        by_cases e : stN n np j = stN n np i
        · rw [e, up2_self]
        · rw [up2_i (by omega)]
          refine hdone j ?_ hj2
          rcases Nat.lt_or_ge j i with q | q
          · exact q
          · exact absurd (by rw [show j = i by omega]) e
      · show up2 K 82 _ _ c = _
        rw [up2_cc hc]; exact hfr c hc
      · show up2 K 82 (4096 * g + stN n np i) _ 82 y = _
        rw [up2_i (by omega)]; exact hup y hy
  · obtain ⟨x4, K⟩ := x
    dsimp only at hx
    obtain ⟨rfl, hdone, hfr, hup⟩ := hx
    refine ⟨.inl (nI g - 1, K), ?_, K, rfl, fun t ht => ?_, hfr, hup⟩
    · unfold sX12_layCosts_44
      dsimp only
      unfold bX12_layCosts_44
      rw [if_pos (by rw [nI_leI (by omega) (by omega)]; omega), nI_sub1]
    · have ht2 := ht
      rw [← ljL_end hn.1] at ht2
      unfold ljL at ht2
      obtain ⟨q1, q2⟩ := List.mem_filter.mp ht2
      obtain ⟨j, q3, rfl⟩ := List.mem_map.mp q1
      exact hdone j (List.mem_range.mp q3) q2
theorem layCosts_n {I : Mem} {n np ct law B bj h : Nat} {D : Nat → Nat} {wf : Nat → Nat → Option Nat} (hM : MF I n np ct law B bj D wf) (hh1 : 1 ≤ h) (hh : h ≤ 4) : ∃ J, fX12_layCosts (nI h) I = some J ∧ (∀ g, g ≤ h → ∀ t, t ∈ enJ n np bj → J 82 (4096 * g + t) = nI (UV (enJ n np bj) (ecH np ct law B D wf) h (h - g) t)) ∧ ∀ c, c ≠ 82 → J c = I c := by
  obtain ⟨hn, hnp, hct, hl, hB, ⟨r0, r3, r4, r1, r2⟩, hd, hD, hw, hwf, hj⟩ := id hM
  have h625 := pow_le625 hn.2 hnp
  -- the beats, the last first
  have l37 : ∀ M : Mem, (∀ c, c ≠ 82 → M c = I c) → (∀ t, t < 4096 → M 82 (4096 * h + t) = 0) → ∃ J, iter (sX12_layCosts_37 (nI (n ^ np))) FU (nI h - 1, M) = some J ∧ (∀ g, g ≤ h → ∀ t, t ∈ enJ n np bj → J 82 (4096 * g + t) = nI (UV (enJ n np bj) (ecH np ct law B D wf) h (h - g) t)) ∧ ∀ c, c ≠ 82 → J c = I c := fun M hMf hM0 => by
    refine iter_invF (s := sX12_layCosts_37 (nI (n ^ np))) (fun i x => x.1 = nI (h - i) - 1 ∧ (∀ g, h - i ≤ g → g ≤ h → ∀ t, t ∈ enJ n np bj → x.2 82 (4096 * g + t) = nI (UV (enJ n np bj) (ecH np ct law B D wf) h (h - g) t)) ∧ ∀ c, c ≠ 82 → x.2 c = I c) (fun J => (∀ g, g ≤ h → ∀ t, t ∈ enJ n np bj → J 82 (4096 * g + t) = nI (UV (enJ n np bj) (ecH np ct law B D wf) h (h - g) t)) ∧ ∀ c, c ≠ 82 → J c = I c) h (FU_lt (by omega)) (x := (nI h - 1, M)) ⟨rfl, fun g q1 q2 t ht => ?_, hMf⟩ (fun i x hi hx => ?_) (fun x hx => ?_)
    · have e : g = h := by omega
      have htl := enA_2341 hn.2 hnp (List.mem_filter.mp ht).1
      show M 82 (4096 * g + t) = _
      rw [e, hM0 t (by omega), Nat.sub_self]
      rfl
    · obtain ⟨x3, K⟩ := x
      dsimp only at hx
      obtain ⟨rfl, hdone, hfr⟩ := hx
      have hMK : MF K n np ct law B bj D wf := hM.congr (hfr 75 (by decide)) (hfr 74 (by decide))
      obtain ⟨J, j1, j2, j3, j4⟩ := lc44 (g := h - i - 1) hMK hh (by omega) (fun t ht => hdone (h - i - 1 + 1) (by omega) (by omega) t ht)
      refine ⟨(nI (h - (i + 1)) - 1, J), ?_, rfl, fun g q1 q2 t ht => ?_, fun c hc => by show J c = I c; rw [j3 c hc]; exact hfr c hc⟩
      · unfold sX12_layCosts_37
        dsimp only
        unfold bX12_layCosts_37
        rw [show nI (h - i) - (1 : Int32) = nI (h - i - 1) by rw [show (1 : Int32) = nI 1 from rfl, pk_sub (by omega)], if_neg (nI_pos (by omega)), j1, show h - i - 1 = h - (i + 1) by omega]
      · show J 82 (4096 * g + t) = _
        by_cases e : g = h - i - 1
        · rw [e]; exact j2 t ht
        · rw [j4 _ (by omega)]; exact hdone g (by omega) q2 t ht
    · obtain ⟨x3, K⟩ := x
      dsimp only at hx
      obtain ⟨rfl, hdone, hfr⟩ := hx
      refine ⟨K, ?_, fun g q => hdone g (by omega) q, hfr⟩
      unfold sX12_layCosts_37
      dsimp only
      unfold bX12_layCosts_37
      rw [Nat.sub_self, if_pos (by decide)]
  unfold fX12_layCosts
  rw [bnd_s (standings_n r0 r3 hnp)]
  refine iter_invF (s := sX12_layCosts_7 (nI h) (nI (n ^ np))) (fun i x => x.1 = nI i ∧ (∀ t, t < i → x.2 82 (4096 * h + t) = 0) ∧ ∀ c, c ≠ 82 → x.2 c = I c) _ 4096 (FU_lt (by omega)) (x := ((0 : Int32), I)) ⟨rfl, fun t ht => absurd ht (Nat.not_lt_zero _), fun _ _ => rfl⟩ (fun i x hi hx => ?_) (fun x hx => ?_)
  · obtain ⟨x3, K⟩ := x
    dsimp only at hx
    obtain ⟨rfl, hdone, hfr⟩ := hx
    refine ⟨(nI (i + 1), up2 K 82 (4096 * h + i) 0), ?_, rfl, fun t ht => ?_, fun c hc => by show up2 K 82 _ _ c = _; rw [up2_cc hc]; exact hfr c hc⟩
    · unfold sX12_layCosts_7
      dsimp only
      unfold bX12_layCosts_7
      rw [show (4096 : Int32) = nI 4096 from rfl, if_neg (by rw [nI_leI (by omega) (by omega)]; omega), pk_mul, nI_add, chk_t (inb_n (by omega) (by decide)), ix_n (by omega)]
      dsimp only [letb]
      rw [nI_1]
    · show up2 K 82 (4096 * h + i) 0 82 (4096 * h + t) = 0
      by_cases e : t = i
      · rw [e, up2_self]
      · rw [up2_i (by omega)]; exact hdone t (by omega)
  · obtain ⟨x3, K⟩ := x
    dsimp only at hx
    obtain ⟨rfl, hdone, hfr⟩ := hx
    obtain ⟨J, j1, j2⟩ := l37 K hfr hdone
    refine ⟨J, ?_, j2⟩
    unfold sX12_layCosts_7
    dsimp only
    unfold bX12_layCosts_7
    rw [if_pos (show (4096 : Int32) ≤ nI 4096 by decide)]
    dsimp only [letb]
    exact inrO_s j1
theorem enJ_9 {n np : Nat} (hn : n ≤ 5) : enJ n np 9 = enA n np := by
  unfold enJ
  rw [List.filter_eq_self]
  intro s hs
  unfold okJ
  rw [allB_iff]
  intro p hp
  have := enA_dg5 hn hs p
  rw [bne_iff_ne]
  omega
theorem find_split {p : Nat → Bool} {u : Nat} : ∀ {L : List Nat}, L.find? p = some u → ∃ N, N < L.length ∧ L.getD N 0 = u ∧ p u = true ∧ ∀ i, i < N → p (L.getD i 0) = false
  | [], h => by cases h
  | x :: L, h => by
    rw [List.find?_cons] at h
    cases hp : p x with
    | true =>
      rw [hp] at h
      cases h
      exact ⟨0, Nat.succ_pos _, rfl, hp, fun i hi => absurd hi (Nat.not_lt_zero _)⟩
    | false =>
      rw [hp] at h
      obtain ⟨N, a, b, c, d⟩ := find_split h
      refine ⟨N + 1, Nat.succ_lt_succ a, b, c, fun i hi => ?_⟩
      cases i with
      | zero => exact hp
      | succ i => exact d i (by omega)
theorem enA_getD {n np i : Nat} (hn1 : 1 ≤ n) (hi : i < n ^ np) : (enA n np).getD i 0 = stN n np i := by
  unfold enA
  rw [← ens_range hn1, List.getD_eq_getElem?_getD, List.getElem?_map, List.getElem?_range hi]
  rfl
theorem firstOf_n {I : Mem} {n np ct law B g s u h : Nat} {D : Nat → Nat} {wf : Nat → Nat → Option Nat} (hM : MF I n np ct law B 9 D wf) (hh : h ≤ 4) (hg : g < h) (hs : s ∈ enA n np) (hV : ∀ g, g ≤ h → ∀ t, t ∈ enA n np → I 82 (4096 * g + t) = nI (UH n np ct law B D wf h (h - g) t)) (hu : (enA n np).find? (fun t => byN (ecH np ct law B D wf (g + 1) s t) (UH n np ct law B D wf h (h - (g + 1)) t) == UH n np ct law B D wf h (h - g) s) = some u) : fX12_firstOf (nI g) (nI s) I = some (nI u) := by
  obtain ⟨hn, hnp, hct, hl, hB, ⟨r0, r3, r4, r1, r2⟩, hd, hD, hw, hwf, hj⟩ := id hM
  have h625 := pow_le625 hn.2 hnp
  have hNV : NV = 268435456 := rfl
  have hs2 := enA_2341 hn.2 hnp hs
  obtain ⟨N, n1, n2, n3, n4⟩ := find_split hu
  rw [enA_len] at n1
  have hUb : ∀ r t, r ≤ 4 → UH n np ct law B D wf h r t = NV ∨ UH n np ct law B D wf h r t ≤ 16 := fun r t hr => UH_16 hnp hr
  have step : ∀ i, i < n ^ np → sX12_firstOf_2 (nI g) (nI s) I (nI i) = if (byN (ecH np ct law B D wf (g + 1) s ((enA n np).getD i 0)) (UH n np ct law B D wf h (h - (g + 1)) ((enA n np).getD i 0)) == UH n np ct law B D wf h (h - g) s) = true then some (.inr (nI ((enA n np).getD i 0))) else some (.inl (nI (i + 1))) := fun i hi => by
    have hst := standingOf_n (a := i) r0 hn.1 hn.2 r3 hnp hj hi
    rw [hit_9 hn.1 hn.2, if_neg (by decide)] at hst
    rw [enA_getD hn.1 hi]
    have hm := stN_en (np := np) (i := i) hn.1 hn.2
    have hm2 := enA_2341 hn.2 hnp hm
    have b1 := hUb (h - (g + 1)) (stN n np i) (by omega)
    have b2 := hUb (h - g) s (by omega)
    have hby := by_n (v := UH n np ct law B D wf h (h - (g + 1)) (stN n np i)) hM (show g < 4 by omega) (show s < 4096 by omega) (fun p _ => enA_dg5 hn.2 hs p) (show stN n np i < 4096 by omega) (hV (g + 1) (by omega) _ hm) b1
    have b3 : byN (ecH np ct law B D wf (g + 1) s (stN n np i)) (UH n np ct law B D wf h (h - (g + 1)) (stN n np i)) ≤ NV := by
      have hc := ecH_le (ct := ct) (law := law) (B := B) (D := D) (wf := wf) hnp (g + 1) s (stN n np i)
      cases hec : ecH np ct law B D wf (g + 1) s (stN n np i) with
      | none => exact Nat.le_refl _
      | some c =>
        have := hc c hec
        show (if UH n np ct law B D wf h (h - (g + 1)) (stN n np i) = NV then NV else UH n np ct law B D wf h (h - (g + 1)) (stN n np i) + c) ≤ NV
        split <;> omega
    unfold sX12_firstOf_2 bX12_firstOf_2
    rw [bnd_s hst, bnd_s hby, show (4096 : Int32) = nI 4096 from rfl, pk_mul, nI_add, chk_t (inb_n (by omega) (by decide)), ix_n (by omega), hV g (by omega) s hs, bnd_s hst, nI_1]
    by_cases c : byN (ecH np ct law B D wf (g + 1) s (stN n np i)) (UH n np ct law B D wf h (h - (g + 1)) (stN n np i)) = UH n np ct law B D wf h (h - g) s
    · rw [if_pos (by rw [c]), if_pos (by rw [beq_iff_eq]; exact c)]
    · rw [if_neg (by rw [nI_eq (by omega) (by omega)]; exact c), if_neg (by rw [beq_iff_eq]; exact c)]
  unfold fX12_firstOf
  refine iter_go (fun i => nI i) N (FU_lt (by omega)) ?_ (fun i hi => ?_)
  · rw [step N n1, n2, if_pos n3]
  · rw [step i (by omega), if_neg (by rw [n4 i hi]; decide)]
