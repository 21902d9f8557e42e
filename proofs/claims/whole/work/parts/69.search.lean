/-! ===== the search in breadth (class) ===== -/
def sdC (law B d : Nat) : Nat := if law = 3 then (B + d) % 2 else 0
theorem sdC_lt (law B d : Nat) : sdC law B d < 2 := by
  unfold sdC
  split
  · exact Nat.mod_lt _ (by decide)
  · decide
abbrev edE (np ct law B : Nat) (D : Nat → Nat) (d s t : Nat) : Bool := edB np ct law D (B + (d + 1)) s t
theorem edE_sd {np ct law B : Nat} {D : Nat → Nat} (x y s t : Nat) (h : sdC law B x = sdC law B y) : edE np ct law B D x s t = edE np ct law B D y s t := by
  unfold edE edB
  unfold sdC at h
  by_cases c : law = 3
  · rw [if_pos c, if_pos c] at h
    rw [layB_par (x := B + (x + 1)) (y := B + (y + 1)) (by omega)]
  · rw [layB_no3 (x := B + (x + 1)) (y := B + (y + 1)) c]
theorem sdC_1 {law B : Nat} (x y : Nat) (h : sdC law B x = sdC law B y) : sdC law B (x + 1) = sdC law B (y + 1) := by
  unfold sdC at h ⊢
  by_cases c : law = 3
  · rw [if_pos c, if_pos c] at h
    rw [if_pos c, if_pos c]
    omega
  · rw [if_neg c, if_neg c]
/-- the house, as the search sees it -/
def SHs (I0 M : Mem) (n np ct law B : Nat) (D : Nat → Nat) : Prop := (1 ≤ n ∧ n ≤ 5) ∧ np ≤ 4 ∧ ct < 32 ∧ law ≤ 4 ∧ B < 2 ^ 20 ∧ (I0 1 0 = nI n ∧ I0 1 2 = nI np ∧ I0 1 1 = nI ct ∧ I0 1 5 = nI B) ∧ (∀ q, q < 5 → I0 2 q = nI (D q)) ∧ (∀ q, q < 5 → D q < 2 ^ n) ∧ M 63 0 = enc 1 ∧ M 63 1 = enc (38 + law) ∧ (∀ c, (c < 63 ∨ 71 ≤ c) → M c = I0 c) ∧ ∀ s, s ∈ enA n np → M 68 s = nI (loneN np ct s)
theorem SHs.congr {I0 M K : Mem} {n np ct law B : Nat} {D : Nat → Nat} (h : SHs I0 M n np ct law B D) (h1 : K 63 0 = M 63 0) (h2 : K 63 1 = M 63 1) (h3 : ∀ c, (c < 63 ∨ 71 ≤ c) → K c = M c) (h4 : K 68 = M 68) : SHs I0 K n np ct law B D := by
  obtain ⟨a1, a2, a3, a4, a5, a6, a7, a8, b1, b2, b3, b4⟩ := h
  exact ⟨a1, a2, a3, a4, a5, a6, a7, a8, by rw [h1]; exact b1, by rw [h2]; exact b2, fun c hc => by rw [h3 c hc]; exact b3 c hc, fun s hs => by rw [h4]; exact b4 s hs⟩
/-- the row in the search's cells -/
def QC (M : Mem) (sd a d : Nat → Nat) (N : Nat) : Prop := M 63 4 = nI N ∧ (∀ j, j < N → M 67 j = nI (2 * a j + sd (d j))) ∧ (∀ j, j < N → M (65 + sd (d j)) (a j) = nI (d j)) ∧ ∀ t y, t < 2341 → y < 2 → ¬ mkd sd a d N t y → M (65 + y) t = -1
theorem QC.congr {M K : Mem} {sd a d : Nat → Nat} {N : Nat} (h : QC M sd a d N) (hsd : ∀ x, sd x < 2) (h1 : K 63 4 = M 63 4) (h2 : ∀ c, 65 ≤ c → c ≤ 67 → K c = M c) : QC K sd a d N := by
  obtain ⟨a1, a2, a3, a4⟩ := h
  refine ⟨by rw [h1]; exact a1, fun j hj => by rw [h2 67 (by decide) (by decide)]; exact a2 j hj, fun j hj => ?_, fun t y ht hy hm => ?_⟩
  · have := hsd (d j)
    rw [h2 _ (by omega) (by omega)]; exact a3 j hj
  · rw [h2 _ (by omega) (by omega)]; exact a4 t y ht hy hm
theorem minds_n : ∀ law, law ≤ 4 → ∀ I : Mem, fD_mindsBeats (38 + law) I = some (if law = 3 then 1 else 0) := by
  intro law h I
  rcases (show law = 0 ∨ law = 1 ∨ law = 2 ∨ law = 3 ∨ law = 4 by omega) with rfl | rfl | rfl | rfl | rfl <;> rfl
theorem sideOf_n {I0 M : Mem} {n np ct law B x : Nat} {D : Nat → Nat} (h : SHs I0 M n np ct law B D) (hx : x < 2 ^ 20) : fX6_sideOf (nI x) M = some (nI (sdC law B x)) := by
  obtain ⟨a1, a2, a3, a4, a5, a6, a7, a8, b1, b2, b3, b4⟩ := h
  unfold fX6_sideOf sdC
  rw [b2, bnd_s (asL_e law a4), bnd_s (minds_n law a4 M)]
  by_cases c : law = 3
  · rw [if_pos c, if_neg (by decide), b1, bnd_s (asH_e (Or.inl rfl)), b3 1 (by omega), a6.2.2.2, nI_add, n_and1 (by omega), if_pos c]
  · rw [if_neg c, if_pos rfl, if_neg c]
    rfl
theorem asA_64 : ∀ k, k < 2 → asA (fin 64 k) = some (65 + k) := by decide +kernel
theorem ln_65 : ∀ k, k < 2 → ln (65 + k) = 2341 := by decide +kernel
theorem reachS_n {I0 M : Mem} {n np ct law B t x N : Nat} {D a d : Nat → Nat} (h : SHs I0 M n np ct law B D) (hq : QC M (sdC law B) a d N) (hN : N < 1250) (ht : t < 2341) (hx : x < 2 ^ 20) (hat : ∀ j, j < N → a j < 2341) (hm : ¬ mkd (sdC law B) a d N t (sdC law B x)) : ∃ M2, fX6_reach (nI t) (nI x) M = some M2 ∧ QC M2 (sdC law B) (updN a N t) (updN d N x) (N + 1) ∧ SHs I0 M2 n np ct law B D ∧ ∀ c, (c < 63 ∨ 67 < c) → M2 c = M c := by
  obtain ⟨q1, q2, q3, q4⟩ := id hq
  have hsx := sdC_lt law B x
  generalize hI6 : up2 M (65 + sdC law B x) t (nI x) = I6
  have e63 : I6 63 = M 63 := by rw [← hI6, up2_cc (by omega)]
  have e67 : I6 67 = M 67 := by rw [← hI6, up2_cc (by omega)]
  have ec : ∀ c, c ≠ 65 + sdC law B x → I6 c = M c := fun c hc => by rw [← hI6, up2_cc hc]
  have h6 : SHs I0 I6 n np ct law B D := h.congr (by rw [e63]) (by rw [e63]) (fun c hc => ec c (by omega)) (ec 68 (by omega))
  refine ⟨up2 (up2 I6 67 N (nI (2 * t + sdC law B x))) 63 4 (nI (N + 1)), ?_, ⟨up2_self .., fun j hj => ?_, fun j hj => ?_, fun u y hu hy hmm => ?_⟩, ?_, fun c hc => ?_⟩
  · unfold fX6_reach
    rw [q1, if_neg (by rw [nI_leI (by omega) (by omega)]; omega), bnd_s (sideOf_n h hx), chk_t (inb_n hsx (by decide)), ix_n (by omega), bnd_s (asA_64 _ hsx), ln_65 _ hsx, chk_t (inb_n ht (by decide)), ix_n (by omega)]
    dsimp only [letb]
    rw [hI6, bnd_s (sideOf_n h6 hx), e63, q1, chk_t (inb_n hN (by decide)), ix_n (by omega), show (2 : Int32) = nI 2 from rfl, pk_mul, nI_add, up2_c (a := 63) (c := 67) (by decide), e63, q1, nI_1]
  · rw [up2_c (by decide)]
    by_cases e : j = N
    · rw [e, up2_self, updN_s, updN_s]
    · rw [up2_i e, e67, updN_n e, updN_n e]; exact q2 j (by omega)
  · have hs1 := sdC_lt law B (updN d N x j)
    rw [up2_c (by omega), up2_c (by omega), ← hI6]
    by_cases e : j = N
    · rw [e, updN_s, updN_s, up2_self]
    · rw [updN_n e, updN_n e]
      by_cases e2 : sdC law B (d j) = sdC law B x
      · have e3 : a j ≠ t := fun e3 => hm ⟨j, by omega, e3, e2⟩
        rw [up2_i e3]; exact q3 j (by omega)
      · rw [up2_c (by omega)]; exact q3 j (by omega)
  · rw [up2_c (by omega), up2_c (by omega), ← hI6]
    have hn1 : ¬ mkd (sdC law B) a d N u y := fun ⟨k, k1, k2, k3⟩ => hmm ⟨k, by omega, by rw [updN_n (by omega)]; exact k2, by rw [updN_n (by omega)]; exact k3⟩
    have hn2 : ¬ (u = t ∧ y = sdC law B x) := fun ⟨z1, z2⟩ => hmm ⟨N, by omega, by rw [updN_s, z1], by rw [updN_s, z2]⟩
    by_cases e2 : y = sdC law B x
    · rw [e2, up2_i (fun e3 => hn2 ⟨e3, e2⟩), ← e2]; exact q4 u y hu hy hn1
    · rw [up2_c (by omega)]; exact q4 u y hu hy hn1
  · exact h6.congr (by rw [up2_i (by decide), up2_c (by decide)]) (by rw [up2_i (by decide), up2_c (by decide)]) (fun c hc => by rw [up2_cc (by omega), up2_cc (by omega)]) (by rw [up2_cc (by decide), up2_cc (by decide)])
  · rw [up2_cc (by omega), up2_cc (by omega), ec c (by omega)]
theorem pyb_cnt0 {f : Nat → Bool} {n : Nat} : pyb f n = 0 ↔ cnt f n = 0 := by
  rw [pyb_0]
  induction n with
  | zero => simp [allB, cnt]
  | succ k ih =>
    rw [allB, cnt, Bool.and_eq_true, ih]
    cases f k <;> simp
theorem spread_n {I0 M : Mem} {n np ct law B w N i : Nat} {D a d : Nat → Nat} (h : SHs I0 M n np ct law B D) (hw : w ∈ enA n np) (hq : QC M (sdC law B) a d N) (hb : BB (enA n np) (edE np ct law B D) w (sdC law B) a d N) (hi : i < N) (hu : ∀ k, k < N → d k ≤ d i + 1) (hc : BC (enA n np) (edE np ct law B D) (sdC law B) a d N 999 i) : ∃ M2 a2 d2 N2, fX6_spread (nI (a i)) (nI (d i + 1)) M = some M2 ∧ QC M2 (sdC law B) a2 d2 N2 ∧ SHs I0 M2 n np ct law B D ∧ BB (enA n np) (edE np ct law B D) w (sdC law B) a2 d2 N2 ∧ (∀ k, k < N2 → d2 k ≤ d i + 1) ∧ N ≤ N2 ∧ (∀ j, j < N → a2 j = a j ∧ d2 j = d j) ∧ (∀ j, N ≤ j → j < N2 → d2 j = d i + 1) ∧ BC (enA n np) (edE np ct law B D) (sdC law B) a2 d2 N2 999 (i + 1) := by
  obtain ⟨hn, hnp, hct, hl, hB, ⟨g0, g2, g1, g5⟩, gd, hD, b1, b2, b3, b4⟩ := id h
  have h32 := pow_le32 hn.2
  have h625 := pow_le625 hn.2 hnp
  have hlen := hb.len hw (sdC_lt law B)
  rw [enA_len] at hlen
  have hdi := hb.2.2.2.2.2.2 i hi
  have hsE : a i ∈ enA n np := REd_mem hw (hb.2.2.2.1 i hi)
  have hs2 := enA_2341 hn.2 hnp hsE
  have hsx := sdC_lt law B (d i + 1)
  by_cases c9 : d i + 1 ≤ 999
  · obtain ⟨J, j1, j2, j3⟩ := onward_n (w0 := 69) (b := 1) (np := np) (s := a i) (D := D) (I := M) (by decide) (by rw [b3 1 (by omega)]; exact g2) hnp (fun q hq => by show M 2 q = _; rw [b3 2 (by omega)]; exact gd q hq) (fun q hq => by have := hD q hq; omega) (by omega) (fun p _ => enA_dg5 hn.2 hsE p)
    have hfil : enW (fun p => D (dg (a i) p) ||| 2 ^ dg (a i) p) np = (enA n np).filter (fun t => allB (goP D (a i) t) np) := by
      have hDn : ∀ p, p < np → (D (dg (a i) p) ||| 2 ^ dg (a i) p) < 2 ^ n := fun p hp => Nat.or_lt_two_pow (hD _ (enA_dg5 hn.2 hsE p)) (Nat.pow_lt_pow_right (by decide) ((enA_wv hn.2 hsE).2 p hp))
      rw [enW_fil hn.2 hDn]
      rfl
    have hm32 : ∀ p, p < 4 → (fun p => D (dg (a i) p) ||| 2 ^ dg (a i) p) p < 32 := fun p _ => or_lt32 (by have := hD _ (enA_dg5 hn.2 hsE p); omega) (enA_dg5 hn.2 hsE p)
    have hmem : ∀ t, t ∈ enW (fun p => D (dg (a i) p) ||| 2 ^ dg (a i) p) np ↔ (t ∈ enA n np ∧ allB (goP D (a i) t) np = true) := fun t => by rw [hfil, List.mem_filter]
    have hlenL : (enW (fun p => D (dg (a i) p) ||| 2 ^ dg (a i) p) np).length ≤ n ^ np := by
      rw [hfil, ← enA_len n np]
      exact List.length_filter_le _ _
    generalize hLe : enW (fun p => D (dg (a i) p) ||| 2 ^ dg (a i) p) np = L at j1 j2 hmem hlenL
    have key := iter_invF (s := sX6_spread_39 (65 + sdC law B (d i + 1)) (nI (a i)) (nI (d i + 1)) (nI L.length)) (fun k x => x.1 = nI k ∧ (k < L.length → WS x.2 69 np (fun p => D (dg (a i) p) ||| 2 ^ dg (a i) p) (L.getD k 0)) ∧ SHs I0 x.2 n np ct law B D ∧ ∃ a2 d2 N2, QC x.2 (sdC law B) a2 d2 N2 ∧ SPR (enA n np) (edE np ct law B D) w (sdC law B) 999 a d N i a2 d2 N2 (fun u => ∃ j, j < k ∧ L.getD j 0 = u))
      (fun r => SHs I0 r n np ct law B D ∧ ∃ a2 d2 N2, QC r (sdC law B) a2 d2 N2 ∧ SPR (enA n np) (edE np ct law B D) w (sdC law B) 999 a d N i a2 d2 N2 (fun u => ∃ j, j < L.length ∧ L.getD j 0 = u)) L.length (FU_lt (by omega)) (x := ((0 : Int32), J)) ⟨rfl, j2, h.congr (by show J 63 0 = M 63 0; rw [j3 63 (by decide) (by decide)]) (by show J 63 1 = M 63 1; rw [j3 63 (by decide) (by decide)]) (fun c hc => j3 c (by omega) (by omega)) (j3 68 (by decide) (by decide)), a, d, N, hq.congr (sdC_lt law B) (by show J 63 4 = M 63 4; rw [j3 63 (by decide) (by decide)]) (fun c q1 q2 => j3 c (by omega) (by omega)), (SPR.start hb hu hc).mono (fun t ⟨j, hj, _⟩ => absurd hj (Nat.not_lt_zero _))⟩ (fun k x hk hx => ?_) (fun x hx => ?_)
    · obtain ⟨M2, k1, k2, a2, d2, N2, k3, k4⟩ := key
      obtain ⟨f1, f2, f3, f4, f5, f6⟩ := k4.fin hi (fun _ t ht hE => by
        have hE2 : allB (goP D (a i) t) np = true := by
          have hE3 : (allB (goP D (a i) t) np && decide (cnt (layB np ct law (B + (d i + 1)) (a i) t) np = 0)) = true := hE
          rw [Bool.and_eq_true] at hE3
          exact hE3.1
        have : t ∈ L := (hmem t).mpr ⟨ht, hE2⟩
        obtain ⟨j, hj, e⟩ := List.getElem_of_mem this
        exact ⟨j, hj, by rw [List.getD_eq_getElem?_getD, List.getElem?_eq_getElem hj]; exact e⟩)
      refine ⟨M2, a2, d2, N2, ?_, k3, k2, f1, f2, f3, f4, f5, f6⟩
      unfold fX6_spread
      rw [bnd_s (sideOf_n h (by omega)), chk_t (inb_n hsx (by decide)), ix_n (by omega), bnd_s (asA_64 _ hsx), if_pos (show nI (d i + 1) ≤ (999 : Int32) from nI_le (b := 999) c9 (by decide)), b1, bnd_s (asH_e (Or.inl rfl)), bnd2_s j1]
      exact k1
    · obtain ⟨x5, K⟩ := x
      dsimp only at hx
      obtain ⟨rfl, hws, hSK, a2, d2, N2, hQK, hSP⟩ := hx
      have hws := hws hk
      have ht := getD_mem hk
      have hdone : ∀ {a3 d3 N3}, SPR (enA n np) (edE np ct law B D) w (sdC law B) 999 a d N i a3 d3 N3 (fun u => (∃ j, j < k ∧ L.getD j 0 = u) ∨ u = L.getD k 0) → SPR (enA n np) (edE np ct law B D) w (sdC law B) 999 a d N i a3 d3 N3 (fun u => ∃ j, j < k + 1 ∧ L.getD j 0 = u) := fun hh => hh.mono (fun u ⟨j, hj, e⟩ => by
        by_cases c : j = k
        · rw [c] at e; exact Or.inr e.symm
        · exact Or.inl ⟨j, by omega, e⟩)
      generalize htd : L.getD k 0 = t at hws ht hdone
      obtain ⟨ht1, ht2⟩ := (hmem t).mp ht
      have ht3 := enA_2341 hn.2 hnp ht1
      have h109 : ∀ K2 : Mem, SHs I0 K2 n np ct law B D → (∃ a2 d2 N2, QC K2 (sdC law B) a2 d2 N2 ∧ SPR (enA n np) (edE np ct law B D) w (sdC law B) 999 a d N i a2 d2 N2 (fun u => ∃ j, j < k + 1 ∧ L.getD j 0 = u)) → (∀ c, 67 < c → K2 c = K c) → ∃ y, jX6_spread_109 (65 + sdC law B (d i + 1)) (nI (a i)) (nI (d i + 1)) (nI L.length) (nI k) K2 = some (.inl y) ∧ y.1 = nI (k + 1) ∧ (k + 1 < L.length → WS y.2 69 np (fun p => D (dg (a i) p) ||| 2 ^ dg (a i) p) (L.getD (k + 1) 0)) ∧ SHs I0 y.2 n np ct law B D ∧ ∃ a2 d2 N2, QC y.2 (sdC law B) a2 d2 N2 ∧ SPR (enA n np) (edE np ct law B D) w (sdC law B) 999 a d N i a2 d2 N2 (fun u => ∃ j, j < k + 1 ∧ L.getD j 0 = u) := fun K2 hS2 ⟨a3, d3, N3, hQ3, hP3⟩ hfr => by
        obtain ⟨M3, s1, s2, s3⟩ := WS.step (m := fun p => D (dg (a i) p) ||| 2 ^ dg (a i) p) (i := k) (I := K2) (by rw [hLe, htd]; exact hws.congr (hfr 69 (by decide)) (hfr 70 (by decide))) hm32 hnp (by rw [hLe]; exact hk)
        rw [hLe] at s2
        refine ⟨(nI (k + 1), M3), ?_, rfl, s2, hS2.congr (by show M3 63 0 = _; rw [s3 63 (by decide)]) (by show M3 63 1 = _; rw [s3 63 (by decide)]) (fun c hc => s3 c (by omega)) (s3 68 (by decide)), a3, d3, N3, hQ3.congr (sdC_lt law B) (by show M3 63 4 = _; rw [s3 63 (by decide)]) (fun c q1 q2 => s3 c (by omega)), hP3⟩
        unfold jX6_spread_109
        rw [bnd_s s1, nI_1]
      obtain ⟨c1, c2, c3, c4, c5, c6, c7, c8, e1, e2, e3, e4⟩ := id hSK
      have hedge : edE np ct law B D (d i) (a i) t = decide (pyb (layB np ct law (B + (d i + 1)) (a i) t) np = 0) := by
        unfold edE edB
        rw [ht2, Bool.true_and, decide_eq_decide]
        exact pyb_cnt0.symm
      have hpl : pyb (layB np ct law (B + (d i + 1)) (a i) t) np < 2 ^ 4 := Nat.lt_of_lt_of_le (pyb_lt _ _) (Nat.pow_le_pow_right (by decide) hnp)
      have hbody : sX6_spread_39 (65 + sdC law B (d i + 1)) (nI (a i)) (nI (d i + 1)) (nI L.length) (nI k, K) = if K (65 + sdC law B (d i + 1)) t = (-1 : Int32) then (if nI (pyb (layB np ct law (B + (d i + 1)) (a i) t) np) = 0 then bnd (fX6_reach (nI t) (nI (d i + 1)) K) (fun I_21 => jX6_spread_109 (65 + sdC law B (d i + 1)) (nI (a i)) (nI (d i + 1)) (nI L.length) (nI k) I_21) else jX6_spread_109 (65 + sdC law B (d i + 1)) (nI (a i)) (nI (d i + 1)) (nI L.length) (nI k) K) else jX6_spread_109 (65 + sdC law B (d i + 1)) (nI (a i)) (nI (d i + 1)) (nI L.length) (nI k) K := by
        unfold sX6_spread_39
        dsimp only
        unfold bX6_spread_39
        dsimp only [letb]
        rw [if_neg (by rw [nI_leI (by omega) (by omega)]; omega), hws.1, ln_65 _ hsx, chk_t (inb_n ht3 (by decide)), ix_n (show t < 2 ^ 31 by omega), e1, bnd_s (asH_e (Or.inl rfl)), chk_t (inb_n hs2 (by decide)), chk_t (inb_n ht3 (by decide)), bnd_s (asH_e (Or.inl rfl)), e2, bnd_s (asL_e law hl), ix_n (show a i < 2 ^ 31 by omega), e4 _ hsE, e4 _ ht1, e3 1 (by omega), g5, nI_add, bnd_s (payers_n (by rw [e3 1 (by omega)]; exact g2) hnp hl (by omega) (by omega) (by omega))]
      rw [hbody]
      by_cases cm : mkd (sdC law B) a2 d2 N2 t (sdC law B (d i + 1))
      · obtain ⟨u, u1, u2, u3⟩ := id cm
        have hv := hQK.2.2.1 u u1
        rw [u3, u2] at hv
        have hub := hSP.2.1 u u1
        rw [if_neg (by rw [hv]; exact n_ne1 (by omega))]
        exact h109 K hSK ⟨a2, d2, N2, hQK, by rw [← htd] at cm; exact hdone ((hSP.skip t (Or.inr (by rw [← htd]; exact cm))))⟩ (fun _ _ => rfl)
      · rw [if_pos (hQK.2.2.2 t _ ht3 hsx cm)]
        by_cases ce : pyb (layB np ct law (B + (d i + 1)) (a i) t) np = 0
        · have hE : edE np ct law B D (d i) (a i) t = true := by rw [hedge]; exact decide_eq_true ce
          have hnew := hSP.push hi ht1 hE cm
          have hlen2 := hnew.1.len hw (sdC_lt law B)
          rw [enA_len] at hlen2
          obtain ⟨M2, m1, m2, m3, m4⟩ := reachS_n (x := d i + 1) (t := t) hSK hQK (by omega) ht3 (by omega) (fun j hj => enA_2341 hn.2 hnp (REd_mem hw (hSP.1.2.2.2.1 j hj))) cm
          rw [if_pos (by rw [ce]; rfl), bnd_s m1]
          exact h109 M2 m3 ⟨_, _, _, m2, hdone hnew⟩ (fun c hc => m4 c (Or.inr hc))
        · have hE : edE np ct law B D (d i) (a i) t = false := by rw [hedge]; exact decide_eq_false ce
          rw [if_neg (nI_ne0 (by omega) (by omega))]
          exact h109 K hSK ⟨a2, d2, N2, hQK, hdone (hSP.skip t (Or.inl hE))⟩ (fun _ _ => rfl)
    · obtain ⟨x5, K⟩ := x
      dsimp only at hx
      obtain ⟨rfl, hws, hSK, hrest⟩ := hx
      refine ⟨K, ?_, hSK, hrest⟩
      unfold sX6_spread_39
      dsimp only
      unfold bX6_spread_39
      rw [if_pos (by rw [nI_leI (by omega) (by omega)]; omega)]
  · obtain ⟨f1, f2, f3, f4, f5, f6⟩ := (SPR.start (lim := 999) hb hu hc).fin hi (fun q => absurd q c9)
    refine ⟨M, a, d, N, ?_, hq, h, f1, f2, f3, f4, f5, f6⟩
    unfold fX6_spread
    rw [bnd_s (sideOf_n h (by omega)), chk_t (inb_n hsx (by decide)), ix_n (by omega), bnd_s (asA_64 _ hsx), if_neg (show ¬ nI (d i + 1) ≤ (999 : Int32) from nI_ge (a := 999) (by omega) (by omega))]
    unfold jX6_spread_34
    refine iter_inr ?_
    unfold sX6_spread_39
    dsimp only
    unfold bX6_spread_39
    rw [if_pos (by decide)]
/-- the search finds the fewest beats -/
theorem beatsTo_n {I : Mem} {n np ct law B w g : Nat} {D : Nat → Nat} (hn : 1 ≤ n ∧ n ≤ 5) (hnp : np ≤ 4) (hct : ct < 32) (hl : law ≤ 4) (hB : B < 2 ^ 20) (g0 : I 1 0 = nI n) (g2 : I 1 2 = nI np) (g1 : I 1 1 = nI ct) (g5 : I 1 5 = nI B) (g3 : I 1 3 = nI w) (gd : ∀ q, q < 5 → I 2 q = nI (D q)) (hD : ∀ q, q < 5 → D q < 2 ^ n) (hw : w ∈ enA n np) (hg : g ∈ enA n np) : ∃ v J, fX6_beatsTo 1 (38 + law) (nI g) I = some (v, J) ∧ FW (enA n np) (edE np ct law B D) w g v ∧ ∀ c, (c < 63 ∨ 71 ≤ c) → J c = I c := by
  have h32 := pow_le32 hn.2
  have h625 := pow_le625 hn.2 hnp
  have hw2 := enA_2341 hn.2 hnp hw
  have hg2 := enA_2341 hn.2 hnp hg
  generalize hI2 : up2 (up2 I 63 0 (enc 1)) 63 1 (enc (38 + law)) = I2
  have e0 : I2 63 0 = enc 1 := by rw [← hI2, up2_i (by decide), up2_self]
  have e1 : I2 63 1 = enc (38 + law) := by rw [← hI2, up2_self]
  have ec : ∀ c, c ≠ 63 → I2 c = I c := fun c hc => by rw [← hI2, up2_cc hc, up2_cc hc]
  obtain ⟨J, j1, j2, j3⟩ := markLone_n (b := 1) (a1 := 68) (w0 := 69) (n := n) (np := np) (ct := ct) (I := I2) (by decide +kernel) (by decide +kernel) (by decide) (by rw [ec 1 (by decide)]; exact g0) hn.2 (by rw [ec 1 (by decide)]; exact g1) hct (by rw [ec 1 (by decide)]; exact g2) hnp
  generalize hK : up2 (upA (upA J 65 (flA (J 65) (-1) 2341)) 66 (flA (upA J 65 (flA (J 65) (-1) 2341) 66) (-1) 2341)) 63 4 (0 : Int32) = K
  have k65 : ∀ t y, t < 2341 → y < 2 → K (65 + y) t = -1 := fun t y ht hy => by
    rw [← hK, up2_c (by omega)]
    rcases (show y = 0 ∨ y = 1 by omega) with rfl | rfl
    · rw [upA_c (by decide), upA_self]
      exact if_pos ht
    · rw [upA_self]
      exact if_pos ht
  have k63 : K 63 4 = 0 := by rw [← hK, up2_self]
  have kc : ∀ c, c ≠ 63 → c ≠ 65 → c ≠ 66 → K c = J c := fun c q1 q2 q3 => by rw [← hK, up2_cc q1, upA_c q3, upA_c q2]
  have k63i : ∀ i, i ≠ 4 → K 63 i = J 63 i := fun i hi => by rw [← hK, up2_i hi, upA_c (by decide), upA_c (by decide)]
  have hJ63 : J 63 = I2 63 := j3 63 (by decide) (by decide) (by decide)
  have hSK : SHs I K n np ct law B D := ⟨hn, hnp, hct, hl, hB, ⟨g0, g2, g1, g5⟩, gd, hD, by rw [k63i 0 (by decide), hJ63]; exact e0, by rw [k63i 1 (by decide), hJ63]; exact e1, fun c hc => by rw [kc c (by omega) (by omega) (by omega), j3 c (by omega) (by omega) (by omega)]; exact ec c (by omega), fun s hs => by rw [kc 68 (by decide) (by decide) (by decide)]; exact j2 s hs⟩
  have hQ0 : QC K (sdC law B) (fun _ => w) (fun _ => 0) 0 := ⟨k63, fun j hj => absurd hj (Nat.not_lt_zero _), fun j hj => absurd hj (Nat.not_lt_zero _), fun t y ht hy _ => k65 t y ht hy⟩
  obtain ⟨R, r1, r2, r3, r4⟩ := reachS_n (t := w) (x := 0) hSK hQ0 (by decide) hw2 (by decide) (fun j hj => absurd hj (Nat.not_lt_zero _)) (fun ⟨k, k1, _⟩ => absurd k1 (Nat.not_lt_zero _))
  have hfw : updN (fun _ => w) 0 w = fun _ => w := by funext j; unfold updN; split <;> rfl
  have hf0 : updN (fun _ => 0) 0 0 = fun _ => 0 := by funext j; unfold updN; split <;> rfl
  rw [hfw, hf0] at r2
  have key := iter_inv2F (s := sX6_beatsTo_59 (nI g)) (fun i x => x.1 = nI i ∧ SHs I x.2 n np ct law B D ∧ ∃ a d N, QC x.2 (sdC law B) a d N ∧ BB (enA n np) (edE np ct law B D) w (sdC law B) a d N ∧ i ≤ N ∧ (i < N → ∀ k, k < N → d k ≤ d i + 1) ∧ BC (enA n np) (edE np ct law B D) (sdC law B) a d N 999 i ∧ ((∀ j, j < N → a j ≠ g) ∨ (i < N ∧ ∃ e, e ≤ 999 ∧ (∀ j, j < N → a j = g → d j = e) ∧ (∃ j, j < N ∧ a j = g) ∧ ∀ k, k < e → ¬ REd (enA n np) (edE np ct law B D) w k g)))
    (fun r => FW (enA n np) (edE np ct law B D) w g r.1 ∧ ∀ c, (c < 63 ∨ 71 ≤ c) → r.2 c = I c) 1250 (FU_lt (by decide)) (x := ((0 : Int32), R)) ⟨rfl, r3, fun _ => w, fun _ => 0, 1, r2, BB.first (sdC law B), by omega, fun _ k _ => Nat.zero_le _, fun j hj => absurd hj (Nat.not_lt_zero _), by
      by_cases c : w = g
      · exact Or.inr ⟨by omega, 0, by omega, fun _ _ _ => rfl, ⟨0, by omega, c⟩, fun k hk => absurd hk (Nat.not_lt_zero _)⟩
      · exact Or.inl (fun _ _ => c)⟩ (fun i x hi hx => ?_) (fun x hx => ?_)
  · obtain ⟨⟨v, J2⟩, k1, k2, k3⟩ := key
    refine ⟨v, J2, ?_, k2, k3⟩
    unfold fX6_beatsTo
    dsimp only [letb]
    have hr : K 1 3 = nI w := by rw [kc 1 (by decide) (by decide) (by decide), j3 1 (by decide) (by decide) (by decide), ec 1 (by decide)]; exact g3
    rw [hI2, bnd_s j1, chk_t (by decide), show ix (0 : Int32) = 0 from rfl, bnd_s (asA_64 0 (by decide)), bnd_s (fill_n (ln_65 0 (by decide)) (by decide)), chk_t (by decide), show ix (1 : Int32) = 1 from rfl, bnd_s (asA_64 1 (by decide)), bnd_s (fill_n (ln_65 1 (by decide)) (by decide))]
    show bnd (fX6_reach (up2 (upA (upA J 65 (flA (J 65) (-1) 2341)) 66 (flA (upA J 65 (flA (J 65) (-1) 2341) 66) (-1) 2341)) 63 4 (0 : Int32) 1 3) (0 : Int32) (up2 (upA (upA J 65 (flA (J 65) (-1) 2341)) 66 (flA (upA J 65 (flA (J 65) (-1) 2341) 66) (-1) 2341)) 63 4 (0 : Int32))) (fun I_15 => iter (sX6_beatsTo_59 (nI g)) FU ((0 : Int32), I_15)) = _
    rw [hK, hr, show (0 : Int32) = nI 0 from rfl, bnd_s r1]
    exact k1
  · obtain ⟨x4, M⟩ := x
    dsimp only at hx
    obtain ⟨rfl, hS, a, d, N, hQ, hBB, hiN, hu, hC, hG⟩ := hx
    have hlen := hBB.len hw (sdC_lt law B)
    rw [enA_len] at hlen
    have hfr := hS.2.2.2.2.2.2.2.2.2.2.1
    by_cases cN : N ≤ i
    · right
      refine ⟨((-1 : Int32), M), ?_, ?_, hfr⟩
      · unfold sX6_beatsTo_59
        dsimp only
        unfold bX6_beatsTo_59
        rw [hQ.1, if_pos (by rw [nI_leI (by omega) (by omega)]; exact cN)]
      · rcases hG with hG | ⟨q, -⟩
        · refine Or.inr ⟨rfl, fun k hk hR => ?_⟩
          rcases hBB.gen hC edE_sd sdC_1 k hk g hR with ⟨j, j1, j2, -⟩ | ⟨q, -⟩
          · exact hG j j1 j2
          · omega
        · omega
    · have hiN2 : i < N := by omega
      have hbody : sX6_beatsTo_59 (nI g) (nI i, M) = (letb (if M 65 g < M 66 g then M 66 g else M 65 g) fun x5 => if x5 = (-1 : Int32) then bnd (fX6_spread (nI (a i)) (nI (d i + 1)) M) (fun I_30 => some (.inl (nI (i + 1), I_30))) else some (.inr (x5, M))) := by
        have hsx := sdC_lt law B (d i)
        have hai := enA_2341 hn.2 hnp (REd_mem hw (hBB.2.2.2.1 i hiN2))
        have er : M 67 i = nI (2 * a i + sdC law B (d i)) := hQ.2.1 i hiN2
        have e1 : M 67 i &&& (1 : Int32) = nI (sdC law B (d i)) := by rw [er, n_and1 (by omega)]; congr 1; omega
        have e2 : M 67 i >>> ((1 : Int32) &&& 31) = nI (a i) := by
          rw [er, show (1 : Int32) = nI 1 from rfl, n_shr (by omega) (by decide)]
          congr 1
          rw [Nat.pow_one]
          omega
        unfold sX6_beatsTo_59
        dsimp only
        unfold bX6_beatsTo_59
        rw [hQ.1, if_neg (by rw [nI_leI (by omega) (by omega)]; omega), if_neg (by rw [nI_leI (by omega) (by omega)]; omega), chk_t (by decide), show ix (0 : Int32) = 0 from rfl, bnd_s (asA_64 0 (by decide)), ln_65 0 (by decide), chk_t (inb_n hg2 (by decide)), chk_t (by decide), show ix (1 : Int32) = 1 from rfl, bnd_s (asA_64 1 (by decide)), ln_65 1 (by decide), chk_t (inb_n hg2 (by decide)), ix_n (show g < 2 ^ 31 by omega), ix_n (show i < 2 ^ 31 by omega), chk_t (inb_n hi (by decide)), chk_t (inb_n hi (by decide)), e1, chk_t (inb_n hsx (by decide)), ix_n (show sdC law B (d i) < 2 ^ 31 by omega), bnd_s (asA_64 _ hsx), chk_t (inb_n hi (by decide)), e2, ln_65 _ hsx, chk_t (inb_n hai (by decide)), ix_n (show a i < 2 ^ 31 by omega), hQ.2.2.1 i hiN2, nI_1, nI_1]
      rw [hbody]
      dsimp only [letb]
      rcases hG with hG | ⟨-, e, he, hG1, ⟨j, hj1, hj2⟩, hG3⟩
      · left
        have z0 : M 65 g = -1 := hQ.2.2.2 g 0 hg2 (by decide) (fun ⟨k, k1, k2, _⟩ => hG k k1 k2)
        have z1 : M 66 g = -1 := hQ.2.2.2 g 1 hg2 (by decide) (fun ⟨k, k1, k2, _⟩ => hG k k1 k2)
        obtain ⟨M2, a2, d2, N2, m1, m2, m3, m4, m5, m6, m7, m8, m9⟩ := spread_n hS hw hQ hBB hiN2 (hu hiN2) hC
        refine ⟨(nI (i + 1), M2), ?_, rfl, m3, a2, d2, N2, m2, m4, by omega, fun q k hk => ?_, m9, ?_⟩
        · rw [z0, z1, show (if (-1 : Int32) < -1 then (-1 : Int32) else -1) = -1 from rfl, if_pos rfl, bnd_s m1]
        · have h1 := m5 k hk
          have h2 := m4.2.2.2.2.1 i (i + 1) (by omega) q
          rw [(m7 i hiN2).2] at h2
          omega
        · by_cases cg : ∃ j, j < N2 ∧ a2 j = g
          · right
            obtain ⟨j, hj1, hj2⟩ := cg
            have hjN : N ≤ j := by
              rcases Nat.lt_or_ge j N with q | q
              · exact absurd (by rw [← (m7 j q).1]; exact hj2) (hG j q)
              · exact q
            have hdi : d i + 1 ≤ 999 := by
              rcases Nat.lt_or_ge (d i + 1) 1000 with q | q
              · omega
              · exfalso
                -- nothing new behind the last beat that counts
                have hR := m4.2.2.2.1 j hj1
                have hnew := m8 j hjN hj1
                -- the row has nothing of more than 999 steps but by a spread that is none
                obtain ⟨M3, hM3⟩ : ∃ M3, fX6_spread (nI (a i)) (nI (d i + 1)) M = some M3 := ⟨_, m1⟩
                have hsame : fX6_spread (nI (a i)) (nI (d i + 1)) M = some M := by
                  have hsx := sdC_lt law B (d i + 1)
                  have hdi2 := hBB.2.2.2.2.2.2 i hiN2
                  unfold fX6_spread
                  rw [bnd_s (sideOf_n hS (by omega)), chk_t (inb_n hsx (by decide)), ix_n (by omega), bnd_s (asA_64 _ hsx), if_neg (show ¬ nI (d i + 1) ≤ (999 : Int32) from nI_ge (a := 999) (by omega) (by omega))]
                  unfold jX6_spread_34
                  refine iter_inr ?_
                  unfold sX6_spread_39
                  dsimp only
                  unfold bX6_spread_39
                  rw [if_pos (by decide)]
                rw [hsame] at m1
                have hMM : M = M2 := Option.some.inj m1
                have c1 := hQ.1
                rw [hMM, m2.1] at c1
                have hlen2 := m4.len hw (sdC_lt law B)
                rw [enA_len] at hlen2
                rw [nI_eq (by omega) (by omega)] at c1
                omega
            refine ⟨by omega, d i + 1, hdi, fun k hk hk2 => ?_, ⟨j, hj1, hj2⟩, fun k hk hR => ?_⟩
            · rcases Nat.lt_or_ge k N with q | q
              · exact absurd (by rw [← (m7 k q).1]; exact hk2) (hG k q)
              · exact m8 k q hk
            · rcases hBB.gen hC edE_sd sdC_1 k (by omega) g hR with ⟨u, u1, u2, -⟩ | ⟨-, q⟩
              · exact hG u u1 u2
              · omega
          · left
            exact fun j h1 h2 => cg ⟨j, h1, h2⟩
      · right
        have hsx := sdC_lt law B e
        have hje := hG1 j hj1 hj2
        have hv := hQ.2.2.1 j hj1
        rw [hj2, hje] at hv
        have hR := hBB.2.2.2.1 j hj1
        rw [hj2, hje] at hR
        have hother : ∀ y, y < 2 → y ≠ sdC law B e → M (65 + y) g = -1 := fun y hy hne => hQ.2.2.2 g y hg2 hy (fun ⟨k, k1, k2, k3⟩ => hne (by rw [← k3, hG1 k k1 k2]))
        have hmax : (if M 65 g < M 66 g then M 66 g else M 65 g) = nI e := by
          rcases (show sdC law B e = 0 ∨ sdC law B e = 1 by omega) with q | q
          · rw [q] at hv
            have := hother 1 (by decide) (by omega)
            rw [show M 66 g = -1 from this, show M 65 g = nI e from hv, if_neg (by rw [x_lt, nI_toInt (by omega), show (-1 : Int32).toInt = -1 from rfl]; omega)]
          · rw [q] at hv
            have := hother 0 (by decide) (by omega)
            rw [show M 65 g = -1 from this, show M 66 g = nI e from hv, if_pos (by rw [x_lt, nI_toInt (by omega), show (-1 : Int32).toInt = -1 from rfl]; omega)]
        refine ⟨(nI e, M), ?_, Or.inl ⟨e, he, rfl, hR, hG3⟩, hfr⟩
        rw [hmax, if_neg (n_ne1 (by omega))]
  · obtain ⟨x4, M⟩ := x
    dsimp only at hx
    obtain ⟨rfl, hS, a, d, N, hQ, hBB, hiN, hu, hC, hG⟩ := hx
    have hlen := hBB.len hw (sdC_lt law B)
    rw [enA_len] at hlen
    refine ⟨((-1 : Int32), M), ?_, ?_, hS.2.2.2.2.2.2.2.2.2.2.1⟩
    · unfold sX6_beatsTo_59
      dsimp only
      unfold bX6_beatsTo_59
      rw [hQ.1, if_pos (by rw [nI_leI (by omega) (by omega)]; omega)]
    · rcases hG with hG | ⟨q, -⟩
      · refine Or.inr ⟨rfl, fun k hk hR => ?_⟩
        rcases hBB.gen hC edE_sd sdC_1 k hk g hR with ⟨j, j1, j2, -⟩ | ⟨q, -⟩
        · exact hG j j1 j2
        · omega
      · omega
