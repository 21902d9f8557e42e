theorem up2_comm {I : Mem} {c c2 i j : Nat} {v u : Int32} (h : c ≠ c2) : up2 (up2 I c i v) c2 j u = up2 (up2 I c2 j u) c i v := by
  funext a
  by_cases e : a = c
  · subst e
    rw [up2_cc h]
    funext k
    by_cases ek : k = i
    · subst ek; rw [up2_self, up2_self]
    · rw [up2_i ek, up2_i ek, up2_c h]
  · by_cases e2 : a = c2
    · subst e2
      rw [up2_cc (c := c) (fun q => e q)]
      funext k
      by_cases ek : k = j
      · subst ek; rw [up2_self, up2_self]
      · rw [up2_i ek, up2_i ek, up2_c e]
    · rw [up2_cc e2, up2_cc e, up2_cc e, up2_cc e2]
theorem CV.setG {I : Mem} {b o pl pl2 ps w : Nat} {pw : Nat → Nat} {k0 : Nat} {v : Int32} (h : CV I b o pl ps w pw) (hk0 : SK pl2 k0) (hsub : ∀ k, SK pl2 k → k = k0 ∨ SK pl k) (hb : b + 7 < 74) : CV (up2 (up2 I (b + lo k0) (lsl k0) v) 75 (o + k0) v) b o pl2 ps w pw := by
  obtain ⟨a1, a2, a3⟩ := h
  have m6 := lo_6 hk0
  have m54 := SK_lt hk0
  refine ⟨fun k hk => ?_, ?_, fun j hj => ⟨?_, fun q hq => ?_, fun p hp2 => ?_⟩⟩
  · have l6 := lo_6 hk
    have l54 := SK_lt hk
    rw [up2_c (by omega)]
    by_cases e : k = k0
    · subst e
      rw [up2_self, up2_self]
    · have hk1 : SK pl k := (hsub k hk).resolve_left e
      rw [up2_i (c := 75) (by omega), up2_c (a := 75) (by omega), ← a1 k hk1]
      by_cases e2 : lo k = lo k0
      · rw [up2_i]
        intro e3
        exact e (lo_inj k l54 k0 m54 e2 e3)
      · rw [up2_c (by omega)]
  · rw [up2_c (by omega)]
    by_cases e2 : lo k0 = 0
    · rw [up2_i]
      · exact a2
      · intro e3
        exact lo_w k0 m54 ⟨e2, e3.symm⟩
    · rw [up2_c (by omega)]
      exact a2
  · rw [up2_c (by omega), up2_c (by omega)]
    exact (a3 j hj).1
  · rw [up2_c (by omega), up2_c (by omega), up2_i (by omega), up2_c (by omega)]
    exact (a3 j hj).2.1 q hq
  · rw [up2_c (by omega), up2_c (by omega), up2_i (by omega), up2_c (by omega)]
    exact (a3 j hj).2.2 p hp2
theorem ok_plan {T : Nat} {I : Mem} (h : Sim T I) (x1 : Int32) : OK T I (fX11_plan x1) (fX12_plan x1) := by
  obtain ⟨A, w, pw, hc, hv, hb, ⟨g0, g1, g2, g3, g4, g5, g6, g7⟩, gd, gp, hr⟩ := h.get
  have hn : 1 ≤ A 0 ∧ A 0 ≤ 5 ∧ A 3 ≤ 4 ∧ A 44 ≤ 8 := by unfold BA at hb; omega
  have r0 := hr 0 (Or.inl (by decide))
  have r3 := hr 3 (Or.inl (by decide))
  have r44 := hr 44 (Or.inr (Or.inl rfl))
  cases hs : stdB (A 3) (A 0) x1 with
  | false =>
    refine ok_bad h (-2) ?_ ?_
    · unfold fX11_plan
      rw [bnd_s (stdX x1 g0 hn.2.1 g2 hn.2.2.1), hs, if_pos (by decide), refX]
      rfl
    · unfold fX12_plan
      rw [bnd_s (stdM x1 (by rw [up0_c (by decide)]; exact r0) hn.2.1 (by rw [up0_c (by decide)]; exact r3) hn.2.2.1), hs, if_pos (by decide), refM]
      rfl
  | true =>
    obtain ⟨s, rfl, hw⟩ := std_get hs hn.2.2.1
    by_cases e8 : A 44 = 8
    · refine ok_full h (-4) ?_ ?_
      · unfold fX11_plan
        rw [bnd_s (stdX _ g0 hn.2.1 g2 hn.2.2.1), hs, if_neg (by decide), g6, if_neg (show ¬ nI (A 44) < 8 from nI_nlt (b := 8) (by omega) (by omega)), refXf]
        rfl
      · unfold fX12_plan
        rw [bnd_s (stdM _ (by rw [up0_c (by decide)]; exact r0) hn.2.1 (by rw [up0_c (by decide)]; exact r3) hn.2.2.1), hs, if_neg (by decide), chk_t (by decide), show ix (44 : Int32) = 44 from rfl, up0_c (c := 75) (by decide), r44, e8, if_pos (show nI 8 = 8 from rfl), refMf]
        rfl
    · have hl : A 44 < 8 := by omega
      have e1 := lo_45 (A 44) hl
      have c1 := hc.setG (k0 := 45 + A 44) (v := nI s) (pl2 := A 44 + 1) (Or.inr (Or.inr (Or.inl (by omega)))) (fun k hk => by unfold SK at hk ⊢; omega) (by decide)
      have c2 := c1.set (k0 := 44) (v := nI (A 44 + 1)) (Or.inr (Or.inl (by decide))) (by decide)
      rw [e1.1, e1.2, Nat.zero_add, Nat.zero_add, show lo 44 = 0 from rfl, show lsl 44 = 6 from rfl, show 1 + 6 = 7 from rfl, show 1 + 0 = 1 from rfl, up2_comm (c := 75) (c2 := 1) (by decide)] at c2
      refine ⟨nI (A 44 + 1), up2 (up2 I 7 (A 44) (nI s)) 1 6 (nI (A 44 + 1)), up2 (up2 (up2 (up2 I 7 (A 44) (nI s)) 1 6 (nI (A 44 + 1))) 75 (45 + A 44) (nI s)) 75 44 (nI (A 44 + 1)), ?_, ?_, ?_⟩
      · unfold fX11_plan
        rw [bnd_s (stdX _ g0 hn.2.1 g2 hn.2.2.1), hs, if_neg (by decide), g6, if_pos (show nI (A 44) < 8 from nI_lt (b := 8) hl (by decide)), chk_t (inb_n hl (by decide)), ix_n (by omega)]
        dsimp only [letb]
        rw [up2_c (a := 1) (c := 7) (by decide), g6, nI_1, up2_self]
      · unfold fX12_plan
        have f75 : ∀ k, up2 (up2 I 7 (A 44) (nI s)) 1 6 (nI (A 44 + 1)) 75 k = I 75 k := fun k => by rw [up2_c (by decide), up2_c (by decide)]
        rw [bnd_s (stdM _ (by rw [f75]; exact r0) hn.2.1 (by rw [f75]; exact r3) hn.2.2.1), hs, if_neg (by decide), chk_t (by decide), show ix (44 : Int32) = 44 from rfl, f75, r44, if_neg (show ¬ nI (A 44) = 8 from fun q => e8 ((nI_eq (a := A 44) (b := 8) (by omega) (by decide)).mp q)), chk_t (by decide), show (45 : Int32) = nI 45 from rfl, nI_add, chk_t (inb_n (by omega) (by decide)), ix_n (by omega)]
        dsimp only [letb]
        have e44 : up2 (up2 (up2 I 7 (A 44) (nI s)) 1 6 (nI (A 44 + 1))) 75 (45 + A 44) (nI s) 75 44 = nI (A 44) := by rw [up2_i (by omega), f75, r44]
        rw [chk_t (by decide), chk_t (by decide), chk_t (by decide), e44, nI_1, up2_self]
      · have e : ∀ c, c ≠ 1 → c ≠ 7 → c ≠ 75 → up2 (up2 (up2 (up2 I 7 (A 44) (nI s)) 1 6 (nI (A 44 + 1))) 75 (45 + A 44) (nI s)) 75 44 (nI (A 44 + 1)) c = I c := fun c h0 h1 h2 => by rw [up2_cc h2, up2_cc h2, up2_cc h0, up2_cc h1]
        have e75 : ∀ k, k ≠ 44 → k ≠ 45 + A 44 → up2 (up2 (up2 (up2 I 7 (A 44) (nI s)) 1 6 (nI (A 44 + 1))) 75 (45 + A 44) (nI s)) 75 44 (nI (A 44 + 1)) 75 k = I 75 k := fun k hk hk2 => by rw [up2_i hk, up2_i hk2, up2_c (by decide), up2_c (by decide)]
        refine sim_frame h (by omega) ⟨updN A 44 (A 44 + 1), w, pw, ?_, ?_⟩ (fun q _ => by rw [e 0 (by decide) (by decide) (by decide)]) (fun c _ _ => e c (by omega) (by omega) (by omega)) (by rw [e 35 (by decide) (by decide) (by decide)]) (e _ (by decide) (by decide) (by decide)) (by rw [e 74 (by decide) (by decide) (by decide)]) (by rw [e 74 (by decide) (by decide) (by decide)]) (fun k _ _ => e75 k (by omega) (by omega)) (e _ (by decide) (by decide) (by decide)) (e _ (by decide) (by decide) (by decide)) (e _ (by decide) (by decide) (by decide))
        · rw [updN_s, updN_n (by decide)]; exact c2
        · refine (hv.mono (T2 := T + 1) (by omega)).set44 (by omega) ?_ (fun k hk hk2 => ?_) (fun i hi => ?_)
          · rw [Nat.zero_add, up2_self]
          · rw [Nat.zero_add]; exact e75 k hk (by omega)
          · rw [Nat.zero_add]
            by_cases ei : i = A 44
            · subst ei
              refine ⟨s, by rw [up2_i (by omega), up2_self], hw.lt hn.2.2.1, fun p _ => hw.dg hn.1 p⟩
            · obtain ⟨s2, q1, q2⟩ := hv.2.2.2.2.2.2.1 i (by omega)
              exact ⟨s2, by rw [e75 _ (by omega) (by omega)]; exact q1, q2⟩
/-! ===== judge ===== -/
/-- loops that go through the same places and end alike answer the same -/
theorem iter_ex {σ ρ : Type} (st : Nat → σ) (N : Nat) (ok : Nat → Bool) (e : ρ) (r : Nat → ρ) : ∀ (m i : Nat), i ≤ N → N - i = m → ∃ v : ρ, (v = e ∧ (∀ j, i ≤ j → j < N → ok j = true) ∨ ∃ j, i ≤ j ∧ j < N ∧ v = r j) ∧ ∀ (s : σ → Option (σ ⊕ ρ)), (∀ j, j < N → s (st j) = if ok j = true then some (.inl (st (j + 1))) else some (.inr (r j))) → s (st N) = some (.inr e) → ∀ n, m < n → iter s n (st i) = some v
  | 0, i, hi, hm => by
    refine ⟨e, Or.inl ⟨rfl, fun j h1 h2 => by omega⟩, fun s _ he n hn => ?_⟩
    obtain ⟨n, rfl⟩ : ∃ k, n = k + 1 := ⟨n - 1, by omega⟩
    rw [show i = N by omega]
    exact iter_inr he
  | m + 1, i, hi, hm => by
    by_cases c : ok i = true
    · obtain ⟨v, hv, hall⟩ := iter_ex st N ok e r m (i + 1) (by omega) (by omega)
      refine ⟨v, ?_, fun s hs he n hn => ?_⟩
      · rcases hv with ⟨h1, h2⟩ | ⟨j, h1, h2, h3⟩
        · refine Or.inl ⟨h1, fun j q1 q2 => ?_⟩
          by_cases ej : j = i
          · rw [ej]; exact c
          · exact h2 j (by omega) q2
        · exact Or.inr ⟨j, by omega, h2, h3⟩
      · obtain ⟨n, rfl⟩ : ∃ k, n = k + 1 := ⟨n - 1, by omega⟩
        have h1 := hs i (by omega)
        rw [if_pos c] at h1
        rw [iter_inl h1]
        exact hall s hs he n (by omega)
    · refine ⟨r i, Or.inr ⟨i, Nat.le_refl _, by omega, rfl⟩, fun s hs he n hn => ?_⟩
      obtain ⟨n, rfl⟩ : ∃ k, n = k + 1 := ⟨n - 1, by omega⟩
      have h1 := hs i (by omega)
      rw [if_neg c] at h1
      exact iter_inr h1
/-- where all are ahead of the i-th beat of the plan -/
def frN (w : Nat) (P : Nat → Nat) : Nat → Nat
  | 0 => w
  | i + 1 => P i
theorem judge_both {T : Nat} {I : Mem} {A : Nat → Nat} {w : Nat} {pw : Nat → Nat} (hc : CV I 1 0 (A 44) (A 53) w pw) (hv : VR T (I 75) A w pw) : ∃ P : Nat → Nat, (∀ i, i < A 44 → I 75 (45 + i) = nI (P i) ∧ I 7 i = nI (P i) ∧ P i < 4096 ∧ ∀ p, p < 4 → dg (P i) p < A 0) ∧ ∃ v : Int32, (v = -1 ∧ (∀ j, j < A 44 → allB (goP (fun q => A (5 + q)) (frN w P j) (P j)) (A 3) = true) ∨ ∃ j, j < A 44 ∧ v = nI j) ∧ fX11_judge I = some v ∧ fX12_firstWrong I = some v := by
  obtain ⟨a1, a2, a3, a4, a5, a6, a7, a8⟩ := hv
  have hn : 1 ≤ A 0 ∧ A 0 ≤ 5 ∧ A 3 ≤ 4 ∧ A 44 ≤ 8 ∧ (∀ q, q < 5 → A (5 + q) < 2 ^ A 0) := by unfold BA at a1; exact ⟨by omega, by omega, by omega, by omega, a1.2.2.2.2.2.2.2.2.1⟩
  have h32 := pow_le32 hn.2.1
  have hplan : ∀ i, ∃ s, i < A 44 → I 75 (45 + i) = nI s ∧ s < 4096 ∧ ∀ p, p < 4 → dg s p < A 0 := fun i => by
    by_cases hi : i < A 44
    · obtain ⟨s, hs⟩ := a7 i hi
      exact ⟨s, fun _ => hs⟩
    · exact ⟨0, fun q => absurd q hi⟩
  obtain ⟨P, hP⟩ := Classical.axiomOfChoice hplan
  have hP2 : ∀ i, i < A 44 → I 75 (45 + i) = nI (P i) ∧ I 7 i = nI (P i) ∧ P i < 4096 ∧ ∀ p, p < 4 → dg (P i) p < A 0 := fun i hi => by
    have e1 := lo_45 i (by omega)
    have e2 := hc.at (k := 45 + i) (Or.inr (Or.inr (Or.inl (by omega))))
    rw [e1.1, e1.2] at e2
    exact ⟨(hP i hi).1, e2.trans (hP i hi).1, (hP i hi).2⟩
  refine ⟨P, hP2, ?_⟩
  have hfr : ∀ i, i ≤ A 44 → frN w P i < 4096 ∧ ∀ p, p < A 3 → dg (frN w P i) p < 5 := fun i hi => by
    cases i with
    | zero => exact ⟨a3.lt hn.2.2.1, fun p hp => by have := a3.2 p hp; show dg w p < 5; omega⟩
    | succ i =>
      obtain ⟨-, -, q1, q2⟩ := hP2 i (by omega)
      exact ⟨q1, fun p hp => by have := q2 p (by omega); show dg (P i) p < 5; omega⟩
  obtain ⟨v, hv1, hv2⟩ := iter_ex (fun i => (nI (frN w P i), nI i)) (A 44) (fun j => allB (goP (fun q => A (5 + q)) (frN w P j) (P j)) (A 3)) (-1 : Int32) (fun j => nI j) (A 44) 0 (Nat.zero_le _) (by omega)
  refine ⟨v, ?_, ?_, ?_⟩
  · rcases hv1 with ⟨q1, q2⟩ | ⟨j, q1, q2, q3⟩
    · exact Or.inl ⟨q1, fun j hj => q2 j (Nat.zero_le _) hj⟩
    · exact Or.inr ⟨j, q2, q3⟩
  · unfold fX11_judge
    dsimp only [letb]
    rw [hc.2.1]
    have g2 : I 1 2 = nI (A 3) := (hc.at (k := 3) (Or.inl (by decide))).trans (a2 3 (Or.inl (by decide)))
    have g6 : I 1 6 = nI (A 44) := (hc.at (k := 44) (Or.inr (Or.inl (by decide)))).trans (a2 44 (Or.inr (Or.inl rfl)))
    have gd : ∀ q, q < 5 → I (1 + 1) q = nI (A (5 + q)) := fun q hq => by
      have e1 := lo_5 q hq
      have e2 := hc.at (k := 5 + q) (Or.inl (by omega))
      rw [e1.1, e1.2] at e2
      exact e2.trans (a2 _ (Or.inl (by omega)))
    refine hv2 (sX11_judge_10 I) (fun j hj => ?_) ?_ FU (FU_lt (by omega))
    · obtain ⟨p1, p2, p3, p4⟩ := hP2 j hj
      obtain ⟨f1, f2⟩ := hfr j (by omega)
      unfold sX11_judge_10 bX11_judge_10
      rw [g6]
      dsimp only
      rw [if_neg (by rw [nI_leI (by omega) (by omega)]; omega), chk_t (inb_n (by omega) (by decide)), ix_n (by omega), p2, bnd_s (canGo_n g2 hn.2.2.1 gd (fun q hq => by have := hn.2.2.2.2 q hq; omega) (by omega) (by omega) f2), nI_1]
      cases allB (goP (fun q => A (5 + q)) (frN w P j) (P j)) (A 3)
      · rw [if_pos (by decide), if_neg (by decide)]
      · rw [if_neg (by decide), if_pos rfl, chk_t (inb_n (by omega) (by decide))]
        rfl
    · unfold sX11_judge_10 bX11_judge_10
      rw [g6]
      dsimp only
      rw [if_pos (by rw [nI_leI (by omega) (by omega)]; omega)]
  · unfold fX12_firstWrong
    rw [bnd_s (now_n (a2 3 (Or.inl (by decide))) hn.2.2.1 a3.1 a4)]
    have r44 := a2 44 (Or.inr (Or.inl rfl))
    refine hv2 (sX12_firstWrong_7 I) (fun j hj => ?_) ?_ FU (FU_lt (by omega))
    · obtain ⟨p1, p2, p3, p4⟩ := hP2 j hj
      obtain ⟨f1, f2⟩ := hfr j (by omega)
      unfold sX12_firstWrong_7 bX12_firstWrong_7
      rw [chk_t (by decide), show ix (44 : Int32) = 44 from rfl, r44]
      dsimp only
      rw [if_neg (by rw [nI_leI (by omega) (by omega)]; omega), show (45 : Int32) = nI 45 from rfl, nI_add, chk_t (inb_n (by omega) (by decide)), ix_n (by omega), p1, bnd_s (mayGo_n (a2 3 (Or.inl (by decide))) hn.2.2.1 (fun q hq => a2 _ (Or.inl (by omega))) (fun q hq => by have := hn.2.2.2.2 q hq; omega) (by omega) (by omega) f2), nI_1]
      cases allB (goP (fun q => A (5 + q)) (frN w P j) (P j)) (A 3)
      · rw [if_pos (by decide), if_neg (by decide)]
      · rw [if_neg (by decide), if_pos rfl, chk_t (inb_n (by omega) (by decide))]
        rfl
    · unfold sX12_firstWrong_7 bX12_firstWrong_7
      rw [chk_t (by decide), show ix (44 : Int32) = 44 from rfl, r44]
      dsimp only
      rw [if_pos (by rw [nI_leI (by omega) (by omega)]; omega)]
theorem ok_judge {T : Nat} {I : Mem} (h : Sim T I) : ∃ v, fX11_judge I = some v ∧ fX12_judge I = some v := by
  obtain ⟨A, w, pw, hc, hv, -⟩ := h.get
  obtain ⟨P, -, v, -, h1, h2⟩ := judge_both hc hv
  refine ⟨v, h1, ?_⟩
  unfold fX12_judge
  rw [bnd_s h2]
