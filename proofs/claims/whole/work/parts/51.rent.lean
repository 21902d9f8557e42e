/-! ===== rent ===== -/
theorem cnt_true {f : Nat → Bool} : ∀ {n : Nat}, (∀ i, i < n → f i = true) → cnt f n = n
  | 0, _ => rfl
  | n + 1, h => by rw [cnt, cnt_true (fun i hi => h i (by omega)), h n (by omega)]; rfl
theorem cnt_false {f : Nat → Bool} : ∀ {n : Nat}, (∀ i, i < n → f i = false) → cnt f n = 0
  | 0, _ => rfl
  | n + 1, h => by rw [cnt, cnt_false (fun i hi => h i (by omega)), h n (by omega)]; rfl
theorem cnt_odd (bt : Nat) : ∀ n, cnt (fun j => decide ((bt + (j + 1)) % 2 = 1)) n = (bt + n + 1) / 2 - (bt + 1) / 2
  | 0 => by rw [cnt, Nat.add_zero, Nat.sub_self]
  | n + 1 => by
    rw [cnt, cnt_odd bt n]
    by_cases c : (bt + (n + 1)) % 2 = 1
    · rw [decide_eq_true c, if_pos rfl]; omega
    · rw [decide_eq_false c, if_neg (by decide)]; omega
theorem cnt_first {f : Nat → Bool} (h : ∀ i, 1 ≤ i → f i = false) : ∀ n, cnt f (n + 1) = if f 0 = true then 1 else 0
  | 0 => by rw [cnt, cnt]; omega
  | n + 1 => by rw [cnt, cnt_first h n, h (n + 1) (by omega), if_neg (c := false = true) (by decide)]; omega
theorem ok_rent {T : Nat} {I : Mem} (h : Sim T I) (hT : T ≤ 1000) (x1 x2 : Int32) : OK T I (fX11_rent x1 x2) (fX12_rent x1 x2) := by
  obtain ⟨A, w, pw, hc, hv, hb, ⟨g0, g1, g2, g3, g4, g5, g6, g7⟩, gd, gp, hr⟩ := h.get
  have hn : A 1 ≤ 4 ∧ A 2 ≤ T := by unfold BA at hb; omega
  have r1 := hr 1 (Or.inl (by decide))
  have r2 := hr 2 (Or.inl (by decide))
  have badX : jX11_rent_19 I = some (-2, up2 I 0 10 (I 0 10 + 1)) := rfl
  have badM : jX12_rent_22 (up2 I 0 10 (I 0 10 + 1)) = some (-2, up2 (up2 I 0 10 (I 0 10 + 1)) 78 0 (up2 I 0 10 (I 0 10 + 1) 78 0 + 1)) := rfl
  rcases rng x1 0 99 (by decide) with ⟨k, -, hk, rfl⟩ | hf
  · have c1 : ¬ nI k < 0 := nI_pos (by omega)
    have c2 : ¬ (99 : Int32) < nI k := nI_nlt (a := 99) hk (by decide)
    rcases rng x2 0 1 (by decide) with ⟨a, -, ha, rfl⟩ | hf
    · generalize hfv : (fun j => layK (A 1) true (decide (1 ≤ j) || decide (a = 1)) (A 2 + (j + 1))) = f
      have hX : fX11_rent (nI k) (nI a) I = some (nI (cnt f k), I) := by
        unfold fX11_rent
        rw [if_neg c1, if_neg c2, if_neg (nI_pos (by omega)), if_pos (show nI a ≤ 1 by rw [show (1 : Int32) = nI 1 from rfl, nI_leI (by omega) (by omega)]; exact ha), g4, chk_t (inb_n (by omega) (by decide)), ix_n (by omega), bnd_s (asL_n _ (by omega))]
        refine iter_go (fun i => (nI (cnt f i), nI (i + 1))) k (FU_lt (by omega)) ?_ (fun i hi => ?_)
        · unfold sX11_rent_45 bX11_rent_45
          dsimp only
          rw [if_pos (nI_lt (by omega) (by omega))]
        · have hj : ∀ wa : Bool, f i = layK (A 1) true wa (A 2 + (i + 1)) → jX11_rent_69 (38 + A 1) (nI k) (nI a) (nI (cnt f i)) (nI (i + 1)) (b2i wa) 1 I = some (.inl (nI (cnt f (i + 1)), nI (i + 1 + 1))) := by
            intro wa hwa
            unfold jX11_rent_69
            rw [g5, nI_add, bnd_s (show fD_lays (38 + A 1) 1 (b2i wa) (nI (A 2 + (i + 1))) I = some (b2i (layK (A 1) true wa (A 2 + (i + 1)))) from laysD_n (st := true) hn.1 wa (by omega)), ← hwa, cnt, nI_1]
            cases f i
            · rw [if_pos (by decide)]; rfl
            · rw [if_neg (by decide), nI_1]; rfl
          unfold sX11_rent_45 bX11_rent_45
          dsimp only
          rw [if_neg (nI_nlt (by omega) (by omega))]
          by_cases z : 1 ≤ i
          · rw [if_pos (show (1 : Int32) < nI (i + 1) from nI_lt (a := 1) (by omega) (by omega))]
            unfold jX11_rent_64
            refine hj true ?_
            rw [← hfv]
            dsimp only
            rw [decide_eq_true z]
            rfl
          · rw [if_neg (show ¬ (1 : Int32) < nI (i + 1) from nI_nlt (a := 1) (by omega) (by decide))]
            by_cases z2 : a = 1
            · rw [if_pos (show nI a = 1 by rw [z2]; rfl)]
              unfold jX11_rent_64
              refine hj true ?_
              rw [← hfv]
              dsimp only
              rw [decide_eq_true z2, Bool.or_true]
            · rw [if_neg (show ¬ nI a = 1 from fun q => z2 ((nI_eq (b := 1) (by omega) (by decide)).mp q))]
              refine hj false ?_
              rw [← hfv]
              dsimp only
              rw [decide_eq_false z, decide_eq_false z2]
              rfl
      refine ok_same h (nI (cnt f k)) hX ?_
      unfold fX12_rent
      have eo : (nI (A 2) + nI k + 1) / 2 - (nI (A 2) + 1) / 2 = nI ((A 2 + k + 1) / 2 - (A 2 + 1) / 2) := by
        rw [nI_add, nI_1, nI_1, show (2 : Int32) = nI 2 from rfl, pk_div (by omega) (by decide) (by decide), pk_div (by omega) (by decide) (by decide), pk_sub (by omega)]
      rw [bnd_s (in_t (lo := 0) (hi := 99) rfl rfl (by omega) hk (by omega)), if_neg (by decide), bnd_s (in_t (lo := 0) (hi := 1) rfl rfl (by omega) ha (by omega)), if_neg (by decide), chk_t (by decide), chk_t (by decide), show ix (2 : Int32) = 2 from rfl, r2, eo]
      dsimp only [letb]
      rw [chk_t (by decide), show ix (1 : Int32) = 1 from rfl, r1]
      by_cases l1 : A 1 = 1
      · rw [if_pos (show nI (A 1) = 1 by rw [l1]; rfl), cnt_true (fun i hi => by rw [← hfv, l1]; rfl)]
      rw [if_neg (show ¬ nI (A 1) = 1 from fun q => l1 ((nI_eq (b := 1) (by omega) (by decide)).mp q)), chk_t (by decide)]
      by_cases l3 : A 1 = 3
      · rw [if_pos (show nI (A 1) = 3 by rw [l3]; rfl)]
        have : f = fun j => decide ((A 2 + (j + 1)) % 2 = 1) := by rw [← hfv, l3]; rfl
        rw [this, cnt_odd]
      rw [if_neg (show ¬ nI (A 1) = 3 from fun q => l3 ((nI_eq (b := 3) (by omega) (by decide)).mp q)), chk_t (by decide)]
      by_cases l4 : A 1 = 4
      · rw [if_pos (show nI (A 1) = 4 by rw [l4]; rfl), cnt_false (fun i hi => by rw [← hfv, l4]; rfl)]
        rfl
      rw [if_neg (show ¬ nI (A 1) = 4 from fun q => l4 ((nI_eq (b := 4) (by omega) (by decide)).mp q))]
      have hfi : ∀ i, f i = !(decide (1 ≤ i) || decide (a = 1)) := fun i => by
        rw [← hfv]
        dsimp only
        unfold layK
        rw [if_neg l1, if_neg l3, if_neg l4]
        rfl
      by_cases z2 : a = 1
      · rw [if_pos (show nI a = 1 by rw [z2]; rfl), cnt_false (fun i hi => by rw [hfi, decide_eq_true z2, Bool.or_true]; rfl)]
        rfl
      rw [if_neg (show ¬ nI a = 1 from fun q => z2 ((nI_eq (b := 1) (by omega) (by decide)).mp q))]
      by_cases z0 : k = 0
      · rw [if_pos (show nI k = 0 by rw [z0]; rfl), z0]
        rfl
      rw [if_neg (nI_ne0 (by omega) (by omega))]
      obtain ⟨k', rfl⟩ : ∃ k', k = k' + 1 := ⟨k - 1, by omega⟩
      rw [cnt_first (fun i hi => by rw [hfi, decide_eq_true hi]; rfl) k', if_pos (by rw [hfi, decide_eq_false z2]; rfl)]
      rfl
    · refine ok_bad h (-2) ?_ ?_
      · unfold fX11_rent
        rw [if_neg c1, if_neg c2]
        by_cases c : x2 < 0
        · rw [if_pos c]; exact badX
        · rw [if_neg c, if_neg (by rw [x_le, show (1 : Int32).toInt = 1 from rfl]; rw [x_lt, n_toInt0] at c; omega)]; exact badX
      · unfold fX12_rent
        rw [bnd_s (in_t (lo := 0) (hi := 99) rfl rfl (by omega) hk (by omega)), if_neg (by decide), bnd_s (in_f (lo := 0) (hi := 1) rfl rfl hf), if_pos (by decide)]
        exact badM
  · refine ok_bad h (-2) ?_ ?_
    · unfold fX11_rent
      by_cases c : x1 < 0
      · rw [if_pos c]; exact badX
      · rw [if_neg c, if_pos (by rw [x_lt, show (99 : Int32).toInt = 99 from rfl]; rw [x_lt, n_toInt0] at c; omega)]; exact badX
    · unfold fX12_rent
      rw [bnd_s (in_f (lo := 0) (hi := 99) rfl rfl hf), if_pos (by decide)]
      exact badM
/-! ===== cost ===== -/
theorem sum_le (g : Nat → Nat) (h : ∀ i, g i ≤ 4) : ∀ n, (List.range n).foldl (fun a i => a + g i) 0 ≤ 4 * n
  | 0 => by simp
  | n + 1 => by
    rw [List.range_succ, List.foldl_append]
    have := sum_le g h n
    have := h n
    simp only [List.foldl_cons, List.foldl_nil]
    omega
def sumN (g : Nat → Nat) : Nat → Nat
  | 0 => 0
  | i + 1 => sumN g i + g i
/-- what a trial's house keeps while it is tried -/
def TR (I J : Mem) (A : Nat → Nat) (s bt : Nat) : Prop := J 9 0 = nI (A 0) ∧ J 9 1 = nI (A 4) ∧ J 9 2 = nI (A 3) ∧ J 9 3 = nI s ∧ J 9 5 = nI bt ∧ ∀ c, (c < 9 ∨ 17 ≤ c) → J c = I c
theorem TR.go {I J : Mem} {A : Nat → Nat} {s bt t law : Nat} (h : TR I J A s bt) (h0 : A 0 ≤ 5) (h3 : A 3 ≤ 4) (h4 : A 4 < 32) (hb : bt < 2 ^ 30) (hl : law ≤ 4) (hs : s < 2 ^ 31) (ht : t < 2 ^ 31) (hv : ∀ p, p < A 3 → dg t p < 5) : ∃ K, fX4_go 9 (nI t) (38 + law) J = some (nI (cnt (layB (A 3) (A 4) law (bt + 1) s t) (A 3)), K) ∧ TR I K A t (bt + 1) := by
  obtain ⟨t0, t1, t2, t3, t5, tc⟩ := h
  refine ⟨_, go_n (b := 9) t0 h0 t2 h3 t1 h4 t3 t5 hb hl hs ht hv, ?_, ?_, ?_, ?_, ?_, fun c hc => ?_⟩
  · rw [GM_c (by decide) (by decide), up2_i (by decide), up2_i (by decide)]; exact t0
  · rw [GM_c (by decide) (by decide), up2_i (by decide), up2_i (by decide)]; exact t1
  · rw [GM_c (by decide) (by decide), up2_i (by decide), up2_i (by decide)]; exact t2
  · rw [GM_c (by decide) (by decide), up2_self]
  · rw [GM_c (by decide) (by decide), up2_i (by decide), up2_self]
  · rw [GM_c (by omega) (by omega), up2_cc (by omega), up2_cc (by omega)]; exact tc c hc
theorem Sim.trial {T : Nat} {I J : Mem} (h : Sim T I) (hj : ∀ c, (c < 9 ∨ 17 ≤ c) → c < 43 ∨ (74 ≤ c ∧ c < 79) → J c = I c) : Sim (T + 1) J := by
  have h1 := h.1
  refine sim_frame h (by omega) ((h1.congr (fun c hc => hj _ (by omega) (by omega)) (fun k _ => by rw [hj 75 (by omega) (by omega)])).mono (by omega)) (fun q _ => by rw [hj 0 (by omega) (by omega)]) (fun c q1 q2 => hj c (by omega) (by omega)) (by rw [hj 35 (by omega) (by omega)]) (hj _ (by omega) (by omega)) (by rw [hj 74 (by omega) (by omega)]) (by rw [hj 74 (by omega) (by omega)]) (fun k _ _ => by rw [hj 75 (by omega) (by omega)]) (hj _ (by omega) (by omega)) (hj _ (by omega) (by omega)) (hj _ (by omega) (by omega))
theorem copyT {I : Mem} {A : Nat → Nat} {w : Nat} (g : I 1 0 = nI (A 0) ∧ I 1 1 = nI (A 4) ∧ I 1 2 = nI (A 3) ∧ I 1 3 = nI w ∧ I 1 4 = nI (A 1) ∧ I 1 5 = nI (A 2)) : ∃ J, fX4_copy 9 1 I = some J ∧ TR I J A w (A 2) ∧ J 9 4 = nI (A 1) ∧ ∀ j, j < 8 → ∀ i, i < hlen j → J (9 + j) i = I (1 + j) i := by
  obtain ⟨g0, g1, g2, g3, g4, g5⟩ := g
  obtain ⟨J, j1, j2, j3⟩ := copy_n (b0 := 9) (b1 := 1) I (by omega)
  have e : ∀ i, i < 8 → J 9 i = I 1 i := fun i hi => j2 0 (by decide) i hi
  exact ⟨J, j1, ⟨by rw [e 0 (by decide)]; exact g0, by rw [e 1 (by decide)]; exact g1, by rw [e 2 (by decide)]; exact g2, by rw [e 3 (by decide)]; exact g3, by rw [e 5 (by decide)]; exact g5, fun c hc => j3 c (by omega)⟩, by rw [e 4 (by decide)]; exact g4, j2⟩
theorem now_cong {I J : Mem} (h : J 75 = I 75) : fX12_now J = fX12_now I := by
  unfold fX12_now
  have e : sX12_now_4 J = sX12_now_4 I := by
    funext x
    unfold sX12_now_4 bX12_now_4
    rw [h]
  rw [e]
theorem mayGo_cong {I J : Mem} (x y : Int32) (h : J 75 = I 75) : fX12_mayGo x y J = fX12_mayGo x y I := by
  unfold fX12_mayGo
  have e : sX12_mayGo_5 x y J = sX12_mayGo_5 x y I := by
    funext z
    unfold sX12_mayGo_5 bX12_mayGo_5 fX12_roomIn fX12_has
    rw [h]
  rw [e]
theorem fw_cong {I J : Mem} (h : J 75 = I 75) : fX12_firstWrong J = fX12_firstWrong I := by
  unfold fX12_firstWrong
  have e : sX12_firstWrong_7 J = sX12_firstWrong_7 I := by
    funext z
    unfold sX12_firstWrong_7 bX12_firstWrong_7
    rw [h]
    simp only [mayGo_cong _ _ h]
  rw [e, now_cong h]
theorem canGo_cong {I J : Mem} (x y : Int32) (h : ∀ c, c < 9 → J c = I c) : fX4_canGo 1 x y J = fX4_canGo 1 x y I := by
  unfold fX4_canGo
  have e : sX4_canGo_2 1 x y J = sX4_canGo_2 1 x y I := by
    funext z
    unfold sX4_canGo_2 bX4_canGo_2 fX11_roomOf fX4_reach fX11_has
    rw [h 1 (by decide), h (1 + 1) (by decide)]
  rw [e]
theorem judge_cong {I J : Mem} (h : ∀ c, c < 9 → J c = I c) : fX11_judge J = fX11_judge I := by
  unfold fX11_judge
  have e : sX11_judge_10 J = sX11_judge_10 I := by
    funext z
    unfold sX11_judge_10 bX11_judge_10
    rw [h 1 (by decide), h 7 (by decide)]
    simp only [canGo_cong _ _ h]
  rw [e, h 1 (by decide)]
theorem ok_cost {T : Nat} {I : Mem} (h : Sim T I) (hT : T ≤ 1000) (x1 : Int32) : OK T I (fX11_cost x1) (fX12_cost x1) := by
  obtain ⟨A, w, pw, hc, hv, hb, ⟨g0, g1, g2, g3, g4, g5, g6, g7⟩, gd, gp, hr⟩ := h.get
  have hn : (1 ≤ A 0 ∧ A 0 ≤ 5) ∧ A 3 ≤ 4 ∧ A 2 ≤ T ∧ A 44 ≤ 8 ∧ A 4 < 2 ^ A 0 := by unfold BA at hb; omega
  have h32 := pow_le32 hn.1.2
  have hw := hv.2.2.1
  have hwl := hw.lt hn.2.1
  rcases rng x1 0 4 (by decide) with ⟨law, -, hl, rfl⟩ | hf
  · have lX : fX11_isLaw (nI law) I = some 1 := by
      rw [isLawX, decide_eq_true (by rw [nI_toInt (by omega)]; omega)]; rfl
    obtain ⟨P, hP, v, hvv, jX, jM⟩ := judge_both hc hv
    rcases hvv with ⟨rfl, hgo⟩ | ⟨j, hj, rfl⟩
    · obtain ⟨J, j1, jt, -, -⟩ := copyT (I := I) (A := A) (w := w) ⟨g0, g1, g2, g3, g4, g5⟩
      generalize hG : (fun i => cnt (layB (A 3) (A 4) law (A 2 + (i + 1)) (frN w P i) (P i)) (A 3)) = G2
      have hfr : ∀ i, i ≤ A 44 → frN w P i < 4096 := fun i hi => by
        unfold frN
        cases i with
        | zero => exact hwl
        | succ i => exact (hP i (by omega)).2.2.1
      have key := iter_invF (s := sX11_cost_45 (nI law)) (fun i x => x.1 = nI (sumN G2 i) ∧ x.2.1 = nI i ∧ TR I x.2.2 A (frN w P i) (A 2 + i)) (fun r => r.1 = nI (sumN G2 (A 44)) ∧ TR I r.2 A (frN w P (A 44)) (A 2 + A 44)) (A 44) (FU_lt (by omega)) (x := ((0 : Int32), (0 : Int32), J)) ⟨rfl, rfl, jt⟩ (fun i x hi hx => ?_) (fun x hx => ?_)
      · obtain ⟨r, k1, k2, k3⟩ := key
        obtain ⟨r1, rJ⟩ := r
        dsimp only at k2 k3
        have rc := k3.2.2.2.2.2
        refine ⟨nI (sumN G2 (A 44)), rJ, rJ, ?_, ?_, h.trial (fun c q1 _ => rc c q1)⟩
        · unfold fX11_cost
          rw [bnd_s lX, if_neg (by decide), bnd_s jX, if_pos rfl, bnd_s j1, k1, k2]
        · have r75 : rJ 75 = I 75 := rc 75 (by omega)
          have hvJ : VR T (rJ 75) A w pw := by rw [r75]; exact hv
          have hcJ : CV rJ 1 0 (A 44) (A 53) w pw := hc.congr (fun c hc2 => rc _ (by omega)) (by unfold BA at hb; omega) (fun k _ => by rw [r75])
          obtain ⟨P2, -, v2, -, jX2, jM2⟩ := judge_both hcJ hvJ
          have jeq : fX12_firstWrong rJ = some (-1) := by
            have e1 : fX11_judge rJ = fX11_judge I := judge_cong (fun c hc2 => rc c (by omega))
            rw [jM2, ← jX2, e1, jX]
          unfold fX12_cost
          rw [bnd_s (in_t (lo := 0) (hi := 4) rfl rfl (by omega) hl (by omega)), if_neg (by decide), bnd_s jeq, if_pos rfl, bnd_s (now_v hvJ)]
          refine iter_go (fun i => (nI (frN w P i), nI (sumN G2 i), nI i)) (A 44) (FU_lt (by omega)) ?_ (fun i hi => ?_)
          · unfold sX12_cost_42 bX12_cost_42
            dsimp only
            rw [chk_t (by decide), show ix (44 : Int32) = 44 from rfl, r75, hr 44 (Or.inr (Or.inl rfl)), if_pos (by rw [nI_leI (by omega) (by omega)]; omega)]
          · unfold sX12_cost_42 bX12_cost_42
            dsimp only
            obtain ⟨p1, p2, p3, p4⟩ := hP i hi
            have hfl := hfr i (by omega)
            rw [chk_t (by decide), show ix (44 : Int32) = 44 from rfl, r75, hr 44 (Or.inr (Or.inl rfl)), if_neg (by rw [nI_leI (by omega) (by omega)]; omega), chk_t (by decide), show ix (2 : Int32) = 2 from rfl, hr 2 (Or.inl (by decide)), show (45 : Int32) = nI 45 from rfl, nI_add, chk_t (inb_n (by omega) (by decide)), ix_n (by omega), p1, nI_1, nI_add, bnd_s (laid_n (np := A 3) (ct := A 4) (by rw [r75]; exact hr 3 (Or.inl (by decide))) hn.2.1 (by rw [r75]; exact hr 4 (Or.inl (by decide))) (by omega) hl (by omega) (by omega) (by omega))]
            dsimp only [letb]
            rw [chk_t (inb_n (by omega) (by decide)), nI_add, nI_1]
            congr 4
            · rw [sumN, ← hG]
              dsimp only
              rw [show A 2 + 1 + i = A 2 + (i + 1) by omega]
      · obtain ⟨x2, x3, M⟩ := x
        dsimp only at hx
        obtain ⟨rfl, rfl, ht⟩ := hx
        obtain ⟨p1, p2, p3, p4⟩ := hP i hi
        have hfl := hfr i (by omega)
        have mc := ht.2.2.2.2.2
        obtain ⟨K, q1, q2⟩ := ht.go (t := P i) (law := law) hn.1.2 hn.2.1 (by omega) (by omega) hl (by omega) (by omega) (fun p hp => by have := p4 p (by omega); omega)
        refine ⟨(nI (sumN G2 (i + 1)), nI (i + 1), K), ?_, rfl, rfl, q2⟩
        unfold sX11_cost_45 bX11_cost_45
        dsimp only
        rw [if_neg (by rw [mc 1 (by omega), g6, nI_leI (by omega) (by omega)]; omega), chk_t (inb_n (by omega) (by decide)), chk_t (inb_n (by omega) (by decide)), ix_n (by omega), ix_n (by omega), bnd_s (asL_n _ (by omega)), mc 7 (by omega), p2, bnd2_s q1]
        dsimp only [letb]
        rw [nI_add, nI_1, sumN, ← hG]
        dsimp only
        rw [show A 2 + i + 1 = A 2 + (i + 1) by omega]
      · obtain ⟨x2, x3, M⟩ := x
        dsimp only at hx
        obtain ⟨rfl, rfl, ht⟩ := hx
        refine ⟨(nI (sumN G2 (A 44)), M), ?_, rfl, ht⟩
        unfold sX11_cost_45 bX11_cost_45
        dsimp only
        rw [if_pos (by rw [ht.2.2.2.2.2 1 (by omega), g6, nI_leI (by omega) (by omega)]; omega)]
    · refine ok_no h (-3) ?_ ?_
      · unfold fX11_cost
        rw [bnd_s lX, if_neg (by decide), bnd_s jX, if_neg (n_ne1 (by omega)), refXn]
        rfl
      · have jM' : fX12_firstWrong (up2 I 0 11 (I 0 11 + 1)) = some (nI j) := by
          rw [← jM]
          exact fw_cong (up0_c (by decide))
        unfold fX12_cost
        rw [bnd_s (in_t (lo := 0) (hi := 4) rfl rfl (by omega) hl (by omega)), if_neg (by decide), bnd_s jM', if_neg (n_ne1 (by omega)), refMn]
        rfl
  · refine ok_bad h (-2) ?_ ?_
    · unfold fX11_cost
      rw [bnd_s (isLawX _ _), show decide ((0 : Int) ≤ x1.toInt ∧ x1.toInt ≤ (4 : Nat)) = false from decide_eq_false hf, if_pos (by decide), refX]
      rfl
    · unfold fX12_cost
      rw [bnd_s (in_f (lo := 0) (hi := 4) rfl rfl hf), if_pos (by decide), refM]
      rfl
