/-! ===== fewest (model) ===== -/
def sdM (B d : Nat) : Nat := (B + d + 1) % 2
theorem sdM_lt (B d : Nat) : sdM B d < 2 := Nat.mod_lt _ (by decide)
theorem edE_sdM {np ct law B : Nat} {D : Nat → Nat} (x y s t : Nat) (h : sdM B x = sdM B y) : edE np ct law B D x s t = edE np ct law B D y s t := by
  unfold edE edB
  unfold sdM at h
  rw [layB_par (x := B + (x + 1)) (y := B + (y + 1)) (by omega)]
theorem sdM_1 {B : Nat} (x y : Nat) (h : sdM B x = sdM B y) : sdM B (x + 1) = sdM B (y + 1) := by
  unfold sdM at h ⊢
  omega
/-- the row in the model's cells -/
def QM (M : Mem) (sd a d : Nat → Nat) (N : Nat) : Prop := (∀ j, j < N → M 84 j = nI (2 * a j + sd (d j))) ∧ (∀ j, j < N → M 83 (2 * a j + sd (d j)) = nI (d j)) ∧ ∀ t y, t < 4096 → y < 2 → ¬ mkd sd a d N t y → M 83 (2 * t + y) = -1
theorem QM.push {M : Mem} {B : Nat} {a d : Nat → Nat} {N t x : Nat} (h : QM M (sdM B) a d N) (hm : ¬ mkd (sdM B) a d N t (sdM B x)) : QM (up2 (up2 M 83 (2 * t + sdM B x) (nI x)) 84 N (nI (2 * t + sdM B x))) (sdM B) (updN a N t) (updN d N x) (N + 1) := by
  obtain ⟨q2, q3, q4⟩ := h
  have hx := sdM_lt B x
  refine ⟨fun j hj => ?_, fun j hj => ?_, fun u y hu hy hmm => ?_⟩
  · by_cases e : j = N
    · rw [e, up2_self, updN_s, updN_s]
    · rw [up2_i e, up2_c (by decide), updN_n e, updN_n e]; exact q2 j (by omega)
  · rw [up2_c (by decide)]
    by_cases e : j = N
    · rw [e, updN_s, updN_s, up2_self]
    · rw [updN_n e, updN_n e]
      have h2 := sdM_lt B (d j)
      rw [up2_i (fun e2 => hm ⟨j, by omega, by omega, by omega⟩)]
      exact q3 j (by omega)
  · rw [up2_c (by decide)]
    have hn1 : ¬ mkd (sdM B) a d N u y := fun ⟨k, k1, k2, k3⟩ => hmm ⟨k, by omega, by rw [updN_n (by omega)]; exact k2, by rw [updN_n (by omega)]; exact k3⟩
    rw [up2_i (fun e2 => hmm ⟨N, by omega, by rw [updN_s]; omega, by rw [updN_s]; omega⟩)]
    exact q4 u y hu hy hn1
theorem few153 {I M : Mem} {n np ct law B w N i : Nat} {D a d : Nat → Nat} {x1 : Int32} (hn : 1 ≤ n ∧ n ≤ 5) (hnp : np ≤ 4) (hct : ct < 32) (hl : law ≤ 4) (hB : B < 2 ^ 20) (r0 : I 75 0 = nI n) (r3 : I 75 3 = nI np) (r4 : I 75 4 = nI ct) (r1 : I 75 1 = nI law) (rd : ∀ q, q < 5 → I 75 (5 + q) = nI (D q)) (hD : ∀ q, q < 5 → D q < 2 ^ n) (hj : I 74 15 = -1) (hw : w ∈ enA n np) (hfr : ∀ c, c ≠ 83 → c ≠ 84 → M c = I c) (hq : QM M (sdM B) a d N) (hb : BB (enA n np) (edE np ct law B D) w (sdM B) a d N) (hi : i < N) (hu : ∀ k, k < N → d k ≤ d i + 1) (hc : BC (enA n np) (edE np ct law B D) (sdM B) a d N 2000 i) : ∃ M2 a2 d2 N2, iter (sX12_fewest_153 x1 (nI i) (nI (a i)) (nI (2 - sdM B (d i)))) FU (nI N, (0 : Int32), M) = some (.inl (nI N2, nI (i + 1), M2)) ∧ QM M2 (sdM B) a2 d2 N2 ∧ (∀ c, c ≠ 83 → c ≠ 84 → M2 c = I c) ∧ BB (enA n np) (edE np ct law B D) w (sdM B) a2 d2 N2 ∧ (∀ k, k < N2 → d2 k ≤ d i + 1) ∧ N ≤ N2 ∧ (∀ j, j < N → a2 j = a j ∧ d2 j = d j) ∧ BC (enA n np) (edE np ct law B D) (sdM B) a2 d2 N2 2000 (i + 1) := by
  have h32 := pow_le32 hn.2
  have h625 := pow_le625 hn.2 hnp
  have hdi := hb.2.2.2.2.2.2 i hi
  have hsE : a i ∈ enA n np := REd_mem hw (hb.2.2.2.1 i hi)
  have hs2 := enA_2341 hn.2 hnp hsE
  have hlen := hb.len hw (sdM_lt B)
  rw [enA_len] at hlen
  have hsi := sdM_lt B (d i)
  have hsd1 : sdM B (d i + 1) = 1 - sdM B (d i) := by unfold sdM; omega
  have key := iter_invF (s := sX12_fewest_153 x1 (nI i) (nI (a i)) (nI (2 - sdM B (d i)))) (fun k x => x.2.1 = nI k ∧ (∀ c, c ≠ 83 → c ≠ 84 → x.2.2 c = I c) ∧ ∃ a2 d2 N2, x.1 = nI N2 ∧ QM x.2.2 (sdM B) a2 d2 N2 ∧ SPR (enA n np) (edE np ct law B D) w (sdM B) 2000 a d N i a2 d2 N2 (fun u => ∃ j, j < k ∧ stN n np j = u))
    (fun r => ∃ M2 a2 d2 N2, r = .inl (nI N2, nI (i + 1), M2) ∧ (∀ c, c ≠ 83 → c ≠ 84 → M2 c = I c) ∧ QM M2 (sdM B) a2 d2 N2 ∧ SPR (enA n np) (edE np ct law B D) w (sdM B) 2000 a d N i a2 d2 N2 (fun u => ∃ j, j < n ^ np ∧ stN n np j = u)) (n ^ np) (FU_lt (by omega)) (x := (nI N, (0 : Int32), M)) ⟨rfl, hfr, a, d, N, rfl, hq, (SPR.start hb hu hc).mono (fun t ⟨j, hj, _⟩ => absurd hj (Nat.not_lt_zero _))⟩ (fun k x hk hx => ?_) (fun x hx => ?_)
  · obtain ⟨r, k1, M2, a2, d2, N2, rfl, k2, k3, k4⟩ := key
    obtain ⟨f1, f2, f3, f4, f5, f6⟩ := k4.fin hi (fun _ t ht _ => by
      unfold enA at ht
      rw [← ens_range hn.1] at ht
      obtain ⟨j, q3, q4⟩ := List.mem_map.mp ht
      exact ⟨j, List.mem_range.mp q3, q4⟩)
    exact ⟨M2, a2, d2, N2, k1, k3, k2, f1, f2, f3, f4, f6⟩
  · obtain ⟨x2, x7, K⟩ := x
    dsimp only at hx
    obtain ⟨rfl, hfK, a2, d2, N2, rfl, hQK, hSP⟩ := hx
    have hdone : ∀ {a3 d3 N3}, SPR (enA n np) (edE np ct law B D) w (sdM B) 2000 a d N i a3 d3 N3 (fun u => (∃ j, j < k ∧ stN n np j = u) ∨ u = stN n np k) → SPR (enA n np) (edE np ct law B D) w (sdM B) 2000 a d N i a3 d3 N3 (fun u => ∃ j, j < k + 1 ∧ stN n np j = u) := fun hh => hh.mono (fun u ⟨j, hj, e⟩ => by
      by_cases c : j = k
      · rw [c] at e; exact Or.inr e.symm
      · exact Or.inl ⟨j, by omega, e⟩)
    have ht1 := stN_en (np := np) (i := k) hn.1 hn.2
    generalize htd : stN n np k = t at ht1 hdone
    have ht3 := enA_2341 hn.2 hnp ht1
    have K75 : K 75 = I 75 := hfK 75 (by decide) (by decide)
    have hsp := hSP.2.2.2.1 i hi
    have hN2 := hSP.2.2.1
    have hw84 : K 84 i = nI (2 * a i + sdM B (d i)) := by have := hQK.1 i (by omega); rw [hsp.1, hsp.2] at this; exact this
    have hw83 : K 83 (2 * a i + sdM B (d i)) = nI (d i) := by have := hQK.2.1 i (by omega); rw [hsp.1, hsp.2] at this; exact this
    have hlen3 := hSP.1.len hw (sdM_lt B)
    rw [enA_len] at hlen3
    have hst : fX12_standingOf (nI k) K = some (nI t) := by
      rw [← htd]
      exact standingOf_9 (by rw [K75]; exact r0) hn.1 hn.2 (by rw [K75]; exact r3) hnp (by rw [hfK 74 (by decide) (by decide)]; exact hj) hk
    have hnx : (2 : Int32) * nI t + (1 : Int32) - (K 84 i - K 84 i / (2 : Int32) * (2 : Int32)) = nI (2 * t + sdM B (d i + 1)) := by
      rw [hw84, show (2 : Int32) = nI 2 from rfl, pk_rem (by omega) (by decide) (by decide), pk_mul, show (1 : Int32) = nI 1 from rfl, nI_add, show (2 * a i + sdM B (d i)) % 2 = sdM B (d i) by omega, pk_sub (by omega), hsd1]
      congr 1
      omega
    have hsx := sdM_lt B (d i + 1)
    have hbody : sX12_fewest_153 x1 (nI i) (nI (a i)) (nI (2 - sdM B (d i))) (nI N2, nI k, K) = if K 83 (2 * t + sdM B (d i + 1)) = (-1 : Int32) then (if b2i (allB (goP D (a i) t) np) = 0 then some (.inl (nI N2, nI (k + 1), K)) else if nI (cnt (layB np ct law (B + (d i + 1)) (a i) t) np) = 0 then some (.inl (nI (N2 + 1), nI (k + 1), up2 (up2 K 83 (2 * t + sdM B (d i + 1)) (nI (d i + 1))) 84 N2 (nI (2 * t + sdM B (d i + 1))))) else some (.inl (nI N2, nI (k + 1), K))) else some (.inl (nI N2, nI (k + 1), K)) := by
      have hpar : layB np ct law (2 - sdM B (d i)) (a i) t = layB np ct law (B + (d i + 1)) (a i) t := layB_par (by unfold sdM; omega) _ _
      unfold sX12_fewest_153
      dsimp only
      unfold bX12_fewest_153
      dsimp only [letb]
      rw [bnd_s (standings_n (by rw [K75]; exact r0) (by rw [K75]; exact r3) hnp), if_neg (by rw [nI_leI (by omega) (by omega)]; omega), bnd_s hst, chk_t (inb_n (show i < 8192 by omega) (by decide)), ix_n (show i < 2 ^ 31 by omega), hnx, chk_t (inb_n (show 2 * t + sdM B (d i + 1) < 8192 by omega) (by decide)), ix_n (show 2 * t + sdM B (d i + 1) < 2 ^ 31 by omega), bnd_s (mayGo_n (D := D) (by rw [K75]; exact r3) hnp (fun q hq => by rw [K75]; exact rd q hq) (fun q hq => by have := hD q hq; omega) (by omega) (by omega) (fun p _ => enA_dg5 hn.2 hsE p)), chk_t (by decide), show ix (1 : Int32) = 1 from rfl, K75, r1, bnd_s (laid_n (ct := ct) (by rw [K75]; exact r3) hnp (by rw [K75]; exact r4) hct hl (by omega) (by omega) (by omega)), hpar, chk_t (inb_n (show i < 8192 by omega) (by decide)), hw84, chk_t (inb_n (show 2 * a i + sdM B (d i) < 8192 by omega) (by decide)), ix_n (show 2 * a i + sdM B (d i) < 2 ^ 31 by omega), chk_t (inb_n (show 2 * t + sdM B (d i + 1) < 8192 by omega) (by decide)), hw83, nI_1, chk_t (inb_n (show N2 < 8192 by omega) (by decide)), ix_n (show N2 < 2 ^ 31 by omega), nI_1, nI_1]
    have hedge : edE np ct law B D (d i) (a i) t = (allB (goP D (a i) t) np && decide (cnt (layB np ct law (B + (d i + 1)) (a i) t) np = 0)) := rfl
    have hskip : edE np ct law B D (d i) (a i) t = false ∨ mkd (sdM B) a2 d2 N2 t (sdM B (d i + 1)) → ∃ y, some (.inl (nI N2, nI (k + 1), K)) = (some (.inl y) : Option ((Int32 × Int32 × Mem) ⊕ ((Int32 × Int32 × Mem) ⊕ (Int32 × Mem)))) ∧ y.2.1 = nI (k + 1) ∧ (∀ c, c ≠ 83 → c ≠ 84 → y.2.2 c = I c) ∧ ∃ a2 d2 N2, y.1 = nI N2 ∧ QM y.2.2 (sdM B) a2 d2 N2 ∧ SPR (enA n np) (edE np ct law B D) w (sdM B) 2000 a d N i a2 d2 N2 (fun u => ∃ j, j < k + 1 ∧ stN n np j = u) := fun hs => ⟨_, rfl, rfl, hfK, a2, d2, N2, rfl, hQK, hdone (hSP.skip t hs)⟩
    rw [hbody]
    by_cases cm : mkd (sdM B) a2 d2 N2 t (sdM B (d i + 1))
    · obtain ⟨u, u1, u2, u3⟩ := id cm
      have hv := hQK.2.1 u u1
      rw [u3, u2] at hv
      have hub := hSP.2.1 u u1
      rw [if_neg (by rw [hv]; exact n_ne1 (by omega))]
      exact hskip (Or.inr cm)
    · rw [if_pos (hQK.2.2 t _ (by omega) hsx cm)]
      cases hgo : allB (goP D (a i) t) np with
      | false =>
        rw [if_pos (by decide)]
        exact hskip (Or.inl (by rw [hedge, hgo]; rfl))
      | true =>
        rw [if_neg (by decide)]
        have hcl := cnt_le (layB np ct law (B + (d i + 1)) (a i) t) np
        by_cases ce : cnt (layB np ct law (B + (d i + 1)) (a i) t) np = 0
        · have hE : edE np ct law B D (d i) (a i) t = true := by rw [hedge, hgo, decide_eq_true ce]; rfl
          rw [if_pos (by rw [ce]; rfl)]
          exact ⟨_, rfl, rfl, fun c q1 q2 => by show up2 (up2 K 83 _ _) 84 _ _ c = _; rw [up2_cc q2, up2_cc q1]; exact hfK c q1 q2, _, _, _, rfl, hQK.push cm, hdone (hSP.push hi ht1 hE cm)⟩
        · rw [if_neg (nI_ne0 (by omega) (by omega))]
          exact hskip (Or.inl (by rw [hedge, hgo, decide_eq_false ce]; rfl))
  · obtain ⟨x2, x7, K⟩ := x
    dsimp only at hx
    obtain ⟨rfl, hfK, a2, d2, N2, rfl, hQK, hSP⟩ := hx
    refine ⟨.inl (nI N2, nI (i + 1), K), ?_, K, a2, d2, N2, rfl, hfK, hQK, hSP⟩
    have K75 : K 75 = I 75 := hfK 75 (by decide) (by decide)
    unfold sX12_fewest_153
    dsimp only
    unfold bX12_fewest_153
    rw [bnd_s (standings_n (by rw [K75]; exact r0) (by rw [K75]; exact r3) hnp), if_pos (by rw [nI_leI (by omega) (by omega)]; omega), nI_1]
theorem few79 {I M : Mem} {n np ct law B w g : Nat} {D : Nat → Nat} (hn : 1 ≤ n ∧ n ≤ 5) (hnp : np ≤ 4) (hct : ct < 32) (hl : law ≤ 4) (hB : B < 2 ^ 20) (r0 : I 75 0 = nI n) (r3 : I 75 3 = nI np) (r4 : I 75 4 = nI ct) (r1 : I 75 1 = nI law) (rd : ∀ q, q < 5 → I 75 (5 + q) = nI (D q)) (hD : ∀ q, q < 5 → D q < 2 ^ n) (hj : I 74 15 = -1) (hw : w ∈ enA n np) (hg : g ∈ enA n np) (hfr : ∀ c, c ≠ 83 → c ≠ 84 → M c = I c) (hq : QM M (sdM B) (fun _ => w) (fun _ => 0) 1) : ∃ v J, iter (sX12_fewest_79 (nI g)) FU ((1 : Int32), (0 : Int32), M) = some (v, J) ∧ FW (enA n np) (edE np ct law B D) w g v ∧ ∀ c, c ≠ 83 → c ≠ 84 → J c = I c := by
  have h625 := pow_le625 hn.2 hnp
  have hg2 := enA_2341 hn.2 hnp hg
  have key := iter_inv2F (s := sX12_fewest_79 (nI g)) (fun i x => x.2.1 = nI i ∧ (∀ c, c ≠ 83 → c ≠ 84 → x.2.2 c = I c) ∧ ∃ a d N, x.1 = nI N ∧ QM x.2.2 (sdM B) a d N ∧ BB (enA n np) (edE np ct law B D) w (sdM B) a d N ∧ i ≤ N ∧ (i < N → ∀ k, k < N → d k ≤ d i + 1) ∧ BC (enA n np) (edE np ct law B D) (sdM B) a d N 2000 i ∧ ∀ j, j < i → a j ≠ g)
    (fun r => FW (enA n np) (edE np ct law B D) w g r.1 ∧ ∀ c, c ≠ 83 → c ≠ 84 → r.2 c = I c) 1250 (FU_lt (by decide)) (x := ((1 : Int32), (0 : Int32), M)) ⟨rfl, hfr, fun _ => w, fun _ => 0, 1, rfl, hq, BB.first (sdM B), by omega, fun _ k _ => Nat.zero_le _, fun j hj => absurd hj (Nat.not_lt_zero _), fun j hj => absurd hj (Nat.not_lt_zero _)⟩ (fun i x hi hx => ?_) (fun x hx => ?_)
  · obtain ⟨⟨v, J⟩, k1, k2, k3⟩ := key
    exact ⟨v, J, k1, k2, k3⟩
  · obtain ⟨x2, x4, K⟩ := x
    dsimp only at hx
    obtain ⟨rfl, hfK, a, d, N, rfl, hQ, hBB, hiN, hu, hC, hG⟩ := hx
    have hlen := hBB.len hw (sdM_lt B)
    rw [enA_len] at hlen
    by_cases cN : N ≤ i
    · right
      refine ⟨((-1 : Int32), K), ?_, Or.inr ⟨rfl, fun k hk hR => ?_⟩, hfK⟩
      · unfold sX12_fewest_79
        dsimp only
        unfold bX12_fewest_79
        rw [if_pos (by rw [nI_leI (by omega) (by omega)]; exact cN)]
      · rcases hBB.gen hC edE_sdM sdM_1 k (by omega) g hR with ⟨j, j1, j2, -⟩ | ⟨q, -⟩
        · exact hG j (by omega) j2
        · omega
    · have hiN2 : i < N := by omega
      have hsx := sdM_lt B (d i)
      have hai := enA_2341 hn.2 hnp (REd_mem hw (hBB.2.2.2.1 i hiN2))
      have hdi := hBB.2.2.2.2.2.2 i hiN2
      have er : K 84 i = nI (2 * a i + sdM B (d i)) := hQ.1 i hiN2
      have e1 : K 84 i / (2 : Int32) = nI (a i) := by
        rw [er, show (2 : Int32) = nI 2 from rfl, pk_div (by omega) (by decide) (by decide)]
        congr 1
        omega
      have e2 : (2 : Int32) - (K 84 i - K 84 i / (2 : Int32) * (2 : Int32)) = nI (2 - sdM B (d i)) := by
        rw [er, show (2 : Int32) = nI 2 from rfl, pk_rem (by omega) (by decide) (by decide), show (2 * a i + sdM B (d i)) % 2 = sdM B (d i) by omega, pk_sub (by omega)]
      have hbody : sX12_fewest_79 (nI g) (nI N, nI i, K) = if nI (a i) = nI g then (if nI (d i) ≤ (999 : Int32) then some (.inr (nI (d i), K)) else some (.inr ((-1 : Int32), K))) else iter (sX12_fewest_153 (nI g) (nI i) (nI (a i)) (nI (2 - sdM B (d i)))) FU (nI N, (0 : Int32), K) := by
        unfold sX12_fewest_79
        dsimp only
        unfold bX12_fewest_79
        dsimp only [letb]
        rw [if_neg (by rw [nI_leI (by omega) (by omega)]; omega), ix_n (show i < 2 ^ 31 by omega), e2, e1, er, ix_n (show 2 * a i + sdM B (d i) < 2 ^ 31 by omega), hQ.2.1 i hiN2]
        simp only [chk_t (inb_n (show i < 8192 by omega) (by decide)), chk_t (inb_n (show 2 * a i + sdM B (d i) < 8192 by omega) (by decide))]
      rw [hbody]
      by_cases cg : a i = g
      · right
        rw [if_pos (by rw [cg])]
        have hno : ∀ k, k < d i → k ≤ 2000 → ¬ REd (enA n np) (edE np ct law B D) w k g := fun k hk hk2 hR => by
          rcases hBB.gen hC edE_sdM sdM_1 k hk2 g hR with ⟨j, j1, j2, j3, -⟩ | ⟨-, q⟩
          · rcases Nat.lt_or_ge j i with q | q
            · exact hG j q j2
            · have := hBB.2.2.2.2.1 i j q j1
              omega
          · omega
        by_cases c9 : d i ≤ 999
        · refine ⟨(nI (d i), K), by rw [if_pos (show nI (d i) ≤ (999 : Int32) from nI_le (b := 999) c9 (by decide))], Or.inl ⟨d i, c9, rfl, ?_, fun k hk => hno k hk (by omega)⟩, hfK⟩
          have := hBB.2.2.2.1 i hiN2
          rw [cg] at this
          exact this
        · exact ⟨((-1 : Int32), K), by rw [if_neg (show ¬ nI (d i) ≤ (999 : Int32) from nI_ge (a := 999) (by omega) (by omega))], Or.inr ⟨rfl, fun k hk => hno k (by omega) (by omega)⟩, hfK⟩
      · left
        obtain ⟨M2, a2, d2, N2, m1, m2, m3, m4, m5, m6, m7, m8⟩ := few153 (x1 := nI g) hn hnp hct hl hB r0 r3 r4 r1 rd hD hj hw hfK hQ hBB hiN2 (hu hiN2) hC
        refine ⟨(nI N2, nI (i + 1), M2), by rw [if_neg (by rw [nI_eq (by omega) (by omega)]; exact cg)]; exact m1, rfl, m3, a2, d2, N2, rfl, m2, m4, by omega, fun q k hk => ?_, m8, fun j hj => ?_⟩
        · have h1 := m5 k hk
          have h2 := m4.2.2.2.2.1 i (i + 1) (by omega) q
          rw [(m7 i hiN2).2] at h2
          omega
        · rw [(m7 j (by omega)).1]
          by_cases e : j = i
          · rw [e]; exact cg
          · exact hG j (by omega)
  · obtain ⟨x2, x4, K⟩ := x
    dsimp only at hx
    obtain ⟨rfl, hfK, a, d, N, rfl, hQ, hBB, hiN, hu, hC, hG⟩ := hx
    have hlen := hBB.len hw (sdM_lt B)
    rw [enA_len] at hlen
    refine ⟨((-1 : Int32), K), ?_, Or.inr ⟨rfl, fun k hk hR => ?_⟩, hfK⟩
    · unfold sX12_fewest_79
      dsimp only
      unfold bX12_fewest_79
      rw [if_pos (by rw [nI_leI (by omega) (by omega)]; omega)]
    · rcases hBB.gen hC edE_sdM sdM_1 k (by omega) g hR with ⟨j, j1, j2, -⟩ | ⟨q, -⟩
      · exact hG j (by omega) j2
      · omega
theorem ok_fewest {T : Nat} {I : Mem} (h : Sim T I) (hT : T ≤ 1000) (x1 : Int32) : OK T I (fX11_fewest x1) (fX12_fewest x1) := by
  obtain ⟨A, w, pw, hc, hv, hb, ⟨g0, g1, g2, g3, g4, g5, g6, g7⟩, gd, gp, hr⟩ := h.get
  obtain ⟨c1, c2, c3, c4, c5, c6, c7, c8, c9, d1, d2, d3, d4⟩ := id hb
  have h32 := pow_le32 c1.2
  have h8 := pow8_le c3
  have r0 := hr 0 (Or.inl (by decide))
  have r3 := hr 3 (Or.inl (by decide))
  have hw : w ∈ enA (A 0) (A 3) := enA_mem c1.2 hv.2.2.1.1 hv.2.2.1.2
  cases hs : stdB (A 3) (A 0) x1 with
  | false =>
    refine ok_bad h (-2) ?_ ?_
    · unfold fX11_fewest
      rw [bnd_s (stdX _ g0 c1.2 g2 c3), hs, if_pos (by decide), refX]
      rfl
    · unfold fX12_fewest
      rw [bnd_s (stdM _ (by rw [up0_c (by decide)]; exact r0) c1.2 (by rw [up0_c (by decide)]; exact r3) c3), hs, if_pos (by decide), refM]
      rfl
  | true =>
    obtain ⟨g, rfl, hgw⟩ := std_get hs c3
    have hg : g ∈ enA (A 0) (A 3) := enA_mem c1.2 hgw.1 hgw.2
    obtain ⟨v, J, j1, j2, j3⟩ := beatsTo_n (law := A 1) (g := g) (D := fun q => A (5 + q)) c1 c3 (show A 4 < 32 by omega) c2 (show A 2 < 2 ^ 20 by omega) g0 g2 g1 g5 g3 gd c9 hw hg
    have J75 : J 75 = I 75 := j3 75 (by omega)
    have J74 : J 74 = I 74 := j3 74 (by omega)
    have hX : fX11_fewest (nI g) I = some (v, J) := by
      unfold fX11_fewest
      rw [bnd_s (stdX _ g0 c1.2 g2 c3), hs, if_neg (by decide), g4, chk_t (inb_n (by omega) (by decide)), ix_n (by omega), bnd_s (asL_n (A 1) (by omega)), bnd2_s j1]
    have hnow : ∀ K : Mem, K 75 = I 75 → fX12_now K = some (nI w) := fun K hK => by rw [now_cong hK]; exact now_v hv
    have hw2 := enA_2341 c1.2 c3 hw
    have key := iter_invF (s := sX12_fewest_17 (nI g)) (fun i x => x.1 = nI i ∧ (∀ t, t < i → x.2 83 t = -1) ∧ ∀ c, c ≠ 83 → c ≠ 84 → x.2 c = J c) (fun r => FW (enA (A 0) (A 3)) (edE (A 3) (A 4) (A 1) (A 2) (fun q => A (5 + q))) w g r.1 ∧ ∀ c, c ≠ 83 → c ≠ 84 → r.2 c = J c) 8192 (FU_lt (by decide)) (x := ((0 : Int32), J)) ⟨rfl, fun t ht => absurd ht (Nat.not_lt_zero _), fun _ _ _ => rfl⟩ (fun i x hi hx => ?_) (fun x hx => ?_)
    · obtain ⟨⟨u, K⟩, k1, k2, k3⟩ := key
      dsimp only at k2 k3
      refine ⟨v, J, K, hX, ?_, h.trial (fun c q1 q2 => by rw [k3 c (by omega) (by omega), j3 c (by omega)])⟩
      unfold fX12_fewest
      rw [bnd_s (stdM _ (by rw [J75]; exact r0) c1.2 (by rw [J75]; exact r3) c3), hs, if_neg (by decide), k1, FW.uni j2 k2]
    · obtain ⟨x2, K⟩ := x
      dsimp only at hx
      obtain ⟨rfl, hdone, hf⟩ := hx
      refine ⟨(nI (i + 1), up2 K 83 i (-1)), ?_, rfl, fun t ht => ?_, fun c q1 q2 => by show up2 K 83 _ _ c = _; rw [up2_cc q1]; exact hf c q1 q2⟩
      · unfold sX12_fewest_17
        dsimp only
        unfold bX12_fewest_17
        rw [if_neg (show ¬ (8192 : Int32) ≤ nI i from nI_ge (b := 8192) hi (by decide)), chk_t (inb_n hi (by decide)), ix_n (by omega)]
        dsimp only [letb]
        rw [nI_1]
      · show up2 K 83 i (-1) 83 t = -1
        by_cases e : t = i
        · rw [e, up2_self]
        · rw [up2_i e]; exact hdone t (by omega)
    · obtain ⟨x2, K⟩ := x
      dsimp only at hx
      obtain ⟨rfl, hdone, hf⟩ := hx
      have K75 : K 75 = I 75 := by rw [hf 75 (by decide) (by decide)]; exact J75
      have hodd := sdM_lt (A 2) 0
      generalize hK2 : up2 (up2 K 84 0 (nI (2 * w + sdM (A 2) 0))) 83 (2 * w + sdM (A 2) 0) (0 : Int32) = K2
      have hfK2 : ∀ c, c ≠ 83 → c ≠ 84 → K2 c = J c := fun c q1 q2 => by rw [← hK2, up2_cc q1, up2_cc q2]; exact hf c q1 q2
      have hQ : QM K2 (sdM (A 2)) (fun _ => w) (fun _ => 0) 1 := by
        refine ⟨fun j hj => ?_, fun j hj => ?_, fun t y ht hy hm => ?_⟩
        · rw [← hK2, up2_c (by decide), show j = 0 by omega, up2_self]
        · rw [← hK2, up2_self]; rfl
        · rw [← hK2, up2_i (fun e => hm ⟨0, by omega, (show w = t by omega), (show sdM (A 2) 0 = y by omega)⟩), up2_c (by decide)]
          exact hdone _ (by omega)
      obtain ⟨u, K3, q1, q2, q3⟩ := few79 (I := J) (M := K2) (law := A 1) (B := A 2) (g := g) (D := fun q => A (5 + q)) c1 c3 (show A 4 < 32 by omega) c2 (by omega) (by rw [J75]; exact r0) (by rw [J75]; exact r3) (by rw [J75]; exact hr 4 (Or.inl (by decide))) (by rw [J75]; exact hr 1 (Or.inl (by decide))) (fun q hq => by rw [J75]; exact hr _ (Or.inl (by omega))) c9 (by rw [J74]; exact h.2.2.2.2.2) hw hg hfK2 hQ
      refine ⟨(u, K3), ?_, q2, q3⟩
      have hbt : K 75 2 = nI (A 2) := by rw [K75]; exact hr 2 (Or.inl (by decide))
      have eo : nI (A 2) + (1 : Int32) - (nI (A 2) + (1 : Int32)) / (2 : Int32) * (2 : Int32) = nI (sdM (A 2) 0) := by
        rw [nI_1, show (2 : Int32) = nI 2 from rfl, pk_rem (by omega) (by decide) (by decide)]
        rfl
      unfold sX12_fewest_17
      dsimp only
      unfold bX12_fewest_17
      rw [if_pos (show (8192 : Int32) ≤ nI 8192 by decide), chk_t (by decide), show ix (2 : Int32) = 2 from rfl, hbt, eo]
      dsimp only [letb]
      rw [bnd_s (hnow K K75), chk_t (by decide), show ix (0 : Int32) = 0 from rfl, show (2 : Int32) = nI 2 from rfl, pk_mul, nI_add, chk_t (by decide), up2_self, chk_t (inb_n (show 2 * w + sdM (A 2) 0 < 8192 by omega) (by decide)), ix_n (show 2 * w + sdM (A 2) 0 < 2 ^ 31 by omega), hK2]
      exact inrO_s q1
