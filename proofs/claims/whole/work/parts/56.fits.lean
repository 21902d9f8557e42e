/-! ===== what was told of sills ===== -/
theorem iter_all2 {ρ : Type} {s : (Int32 × Int32) → Option ((Int32 × Int32) ⊕ ρ)} (R : Int32 → ρ) (ok : Nat → Bool) (N : Nat) (hs : ∀ i, i < N → s (1, nI i) = some (.inl (b2i (ok i), nI (i + 1)))) (h0 : ∀ i, i ≤ N → s (0, nI i) = some (.inr (R 0))) (h1 : s (1, nI N) = some (.inr (R 1))) : ∀ (n i : Nat), i ≤ N → N - i + 1 < n → allB ok i = true → iter s n (1, nI i) = some (R (b2i (allB ok N)))
  | 0, i, _, h, _ => by omega
  | 1, i, _, h, _ => by omega
  | n + 2, i, hi, h, ha => by
    by_cases e : i = N
    · subst e
      rw [iter_inr h1, ha]
      rfl
    · rw [iter_inl (hs i (by omega))]
      cases c : ok i with
      | true => exact iter_all2 R ok N hs h0 h1 (n + 1) (i + 1) (by omega) (by omega) (by rw [allB, ha, c]; rfl)
      | false =>
        have h2 : allB ok N = false := by
          cases h3 : allB ok N with
          | false => rfl
          | true => rw [allB_iff.mp h3 i (by omega)] at c; exact absurd c (by decide)
        rw [show b2i false = 0 from rfl, iter_inr (h0 (i + 1) (by omega)), h2]
        rfl
/-- the sills behind a beat -/
def pnF (A : Nat → Nat) (w : Nat) (P3 P5 : Nat → Int32) (t : Nat) : (Nat → Int32) × (Nat → Int32) := gatR (A 3) (A 1) w t (pyP (layB (A 3) (A 4) (A 1) (A 2 + 1) w t) t P3 (A 3), pyU (layB (A 3) (A 4) (A 1) (A 2 + 1) w t) P5 (A 3)) (A 0)
def SOb (A : Nat → Nat) (w : Nat) (P3 P5 P4 : Nat → Int32) (t : Nat) : Bool := allB (fun r => decide ((pnF A w P3 P5 t).1 r = P4 r)) (A 0)
/-- the trial's house while beats are tried and undone -/
def TF (I M : Mem) (A : Nat → Nat) (w : Nat) : Prop := M 9 0 = nI (A 0) ∧ M 9 1 = nI (A 4) ∧ M 9 2 = nI (A 3) ∧ M 9 3 = nI w ∧ M 9 5 = nI (A 2) ∧ (∃ x, x ≤ 8 ∧ M 9 7 = nI x) ∧ (∀ q, q < 5 → M 11 q = I 3 q) ∧ (∀ p, p < 4 → M 13 p = I 5 p) ∧ (∀ q, q < 5 → M 12 q = I 4 q) ∧ ∀ c, (c < 9 ∨ 17 ≤ c) → c ≠ 43 → c ≠ 44 → M c = I c
theorem isAsTold_n {b n : Nat} {I : Mem} (g0 : I b 0 = nI n) (hn : n ≤ 5) : fX4_isAsTold b I = some (b2i (allB (fun r => decide (I (b + 2) r = I (b + 3) r)) n)) := by
  unfold fX4_isAsTold
  refine iter_allF _ n (FU_lt (by omega)) (fun i hi => ?_) ?_
  · unfold sX4_isAsTold_2 bX4_isAsTold_2
    rw [g0, if_neg (by rw [nI_leI (by omega) (by omega)]; omega), chk_t (inb_n (by omega) (by decide)), chk_t (inb_n (by omega) (by decide)), ix_n (by omega), nI_1]
    by_cases c : I (b + 2) i = I (b + 3) i
    · rw [if_pos c, if_pos (decide_eq_true c)]
    · rw [if_neg c, if_neg (by rw [decide_eq_true_iff]; exact c)]
  · unfold sX4_isAsTold_2 bX4_isAsTold_2
    rw [g0, if_pos (by rw [nI_leI (by omega) (by omega)]; omega)]
theorem isAloneIn_n {b np ct t p r : Nat} {I : Mem} (g2 : I b 2 = nI np) (hnp : np ≤ 4) (g1 : I b 1 = nI ct) (hct : ct < 32) (g3 : I b 3 = nI t) (ht : t < 2 ^ 31) (hp : p < np) (hr : r < 8) : fX4_isAloneIn b (nI p) (nI r) I = some (b2i (decide (dg t p = r) && lonB np ct t p)) := by
  unfold fX4_isAloneIn
  have hd := dg_lt t p
  have hL : loneN np ct t < 2 ^ 4 := Nat.lt_of_lt_of_le (pyb_lt _ _) (Nat.pow_le_pow_right (by decide) hnp)
  have hbit : (loneN np ct t).testBit p = lonB np ct t p := by
    unfold loneN
    rw [pyb_bit, decide_eq_true hp, Bool.true_and]
  rw [g3, bnd_s (roomOf_n I ht (by omega))]
  by_cases c : dg t p = r
  · rw [if_pos (by rw [c]), bnd_s (lone_n g2 hnp g1 hct ht), bnd_s (has_n I (by omega) (by omega)), hbit, decide_eq_true c, Bool.true_and]
    cases lonB np ct t p <;> rfl
  · rw [if_neg (by rw [nI_eq (by omega) (by omega)]; exact c), decide_eq_false c]
    rfl
theorem TF.try {I M : Mem} {A : Nat → Nat} {w t : Nat} (h : TF I M A w) (h0 : A 0 ≤ 5) (h3 : A 3 ≤ 4) (h4 : A 4 < 32) (hl : A 1 ≤ 4) (hb : A 2 < 2 ^ 30) (hw : w < 2 ^ 31) (ht : t < 2 ^ 31) (hv : ∀ p, p < A 3 → dg t p < 5) : ∃ M1 v M2 M3, fX4_remember 9 M = some M1 ∧ M1 1 = I 1 ∧ M1 43 = M 43 ∧ fX4_go 9 (nI t) (38 + A 1) M1 = some (v, M2) ∧ fX4_isAsTold 9 M2 = some (b2i (SOb A w (I 3) (I 5) (I 4) t)) ∧ (∀ p r, p < A 3 → r < 8 → fX4_isAloneIn 9 (nI p) (nI r) M2 = some (b2i (decide (dg t p = r) && lonB (A 3) (A 4) t p))) ∧ fX4_goBack 9 M2 = some M3 ∧ TF I M3 A w ∧ M3 43 = M 43 ∧ M3 44 = M 44 := by
  obtain ⟨t0, t1, t2, t3, t5, ⟨x, hx, t7⟩, tp, tu, tt, tc⟩ := h
  obtain ⟨M1, j1, j2, j3, j4, j5, j6, j7, j8⟩ := remember_n (b := 9) t7 hx
  have psl_le : psl x ≤ 7 := by
    unfold psl
    by_cases e : x = 8
    · rw [if_pos e]; omega
    · rw [if_neg e]; omega
  have hgo := go_n (b := 9) (np := A 3) (n := A 0) (ct := A 4) (law := A 1) (bt := A 2) (s := w) (t := t) (I := M1) (by rw [j3 0 (by decide)]; exact t0) h0 (by rw [j3 2 (by decide)]; exact t2) h3 (by rw [j3 1 (by decide)]; exact t1) h4 (by rw [j3 3 (by decide)]; exact t3) (by rw [j3 5 (by decide)]; exact t5) hb hl hw ht hv
  generalize hF : layB (A 3) (A 4) (A 1) (A 2 + 1) w t = F at hgo
  rw [show (9 : Nat) + 2 = 11 from rfl, show (9 : Nat) + 4 = 13 from rfl, j8 11 (by decide) (by decide), j8 13 (by decide) (by decide)] at hgo
  generalize hq : gatR (A 3) (A 1) w t (pyP F t (M 11) (A 3), pyU F (M 13) (A 3)) (A 0) = q at hgo
  generalize hM2 : GM (up2 (up2 M1 9 5 (nI (A 2 + 1))) 9 3 (nI t)) 11 13 q.1 q.2 = M2 at hgo
  have hag : AG (A 3) q (pnF A w (I 3) (I 5) t) := by
    rw [← hq]
    unfold pnF
    rw [hF]
    refine gatR_ag ⟨fun r hr => pyP_ag tp (A 3) hv r hr, fun p hp => ?_⟩ (A 0) h0
    show pyU F (M 13) (A 3) p = pyU F (I 5) (A 3) p
    rw [pyU_at, pyU_at, tu p (by omega)]
  have M2c : ∀ c, c ≠ 9 → c ≠ 11 → c ≠ 13 → M2 c = M1 c := fun c q1 q2 q3 => by rw [← hM2, GM_c q2 q3, up2_cc q1, up2_cc q1]
  have M29 : ∀ i, i ≠ 3 → i ≠ 5 → M2 9 i = M1 9 i := fun i q1 q2 => by rw [← hM2, GM_c (by decide) (by decide), up2_i q1, up2_i q2]
  have M293 : M2 9 3 = nI t := by rw [← hM2, GM_c (by decide) (by decide), up2_self]
  have M295 : M2 9 5 = nI (A 2 + 1) := by rw [← hM2, GM_c (by decide) (by decide), up2_i (by decide), up2_self]
  have M211 : M2 11 = q.1 := by rw [← hM2, GM_1 (by decide)]
  have M212 : ∀ r, r < 5 → M2 12 r = I 4 r := fun r hr => by rw [M2c 12 (by decide) (by decide) (by decide), j8 12 (by decide) (by decide), tt r hr]
  obtain ⟨M3, k1, k2, k3, k4, k5, k6, k7, k8⟩ := goBack_n (b := 9) (ps := psl x) (I := M2) (by rw [M29 7 (by decide) (by decide), j2]) psl_le
  rw [show (9 : Nat) + 7 = 16 from rfl] at j4 j5 j6 j7 k4 k6 k7
  rw [M2c 16 (by decide) (by decide) (by decide)] at k4 k6 k7
  refine ⟨M1, _, M2, M3, j1, ?_, ?_, hgo, ?_, fun p r hp hr => ?_, k1, ⟨?_, ?_, ?_, ?_, ?_, ⟨psl x, by omega, k2⟩, fun r hr => ?_, fun p hp => ?_, fun r hr => ?_, fun c hc q1 q2 => ?_⟩, ?_, ?_⟩
  · rw [j8 1 (by decide) (by decide), tc 1 (by omega) (by decide) (by decide)]
  · exact j8 43 (by decide) (by decide)
  · rw [isAsTold_n (b := 9) (n := A 0) (by rw [M29 0 (by decide) (by decide), j3 0 (by decide)]; exact t0) h0]
    unfold SOb
    rw [allB_cong (fun r hr => ?_)]
    rw [show (9 : Nat) + 2 = 11 from rfl, show (9 : Nat) + 3 = 12 from rfl, M211, M212 r (by omega), hag.1 r (by omega)]
  · exact isAloneIn_n (b := 9) (by rw [M29 2 (by decide) (by decide), j3 2 (by decide)]; exact t2) h3 (by rw [M29 1 (by decide) (by decide), j3 1 (by decide)]; exact t1) h4 M293 ht hp hr
  · rw [k5 0 (by decide) (by decide) (by decide), M29 0 (by decide) (by decide), j3 0 (by decide)]; exact t0
  · rw [k5 1 (by decide) (by decide) (by decide), M29 1 (by decide) (by decide), j3 1 (by decide)]; exact t1
  · rw [k5 2 (by decide) (by decide) (by decide), M29 2 (by decide) (by decide), j3 2 (by decide)]; exact t2
  · rw [k4, j4, t3]
  · rw [k3, M295]; exact nI_pred _
  · have := k6 r hr
    rw [show (9 : Nat) + 2 = 11 from rfl] at this
    rw [this, j5 r hr]; exact tp r hr
  · have := k7 p hp
    rw [show (9 : Nat) + 4 = 13 from rfl] at this
    rw [this, j6 p hp]; exact tu p hp
  · rw [k8 12 (by decide) (by decide) (by decide)]; exact M212 r hr
  · rw [k8 c (by omega) (by omega) (by omega), M2c c (by omega) (by omega) (by omega), j8 c (by omega) (by omega), tc c hc q1 q2]
  · rw [k8 43 (by decide) (by decide) (by decide), M2c 43 (by decide) (by decide) (by decide), j8 43 (by decide) (by decide)]
  · rw [k8 44 (by decide) (by decide) (by decide), M2c 44 (by decide) (by decide) (by decide), j8 44 (by decide) (by decide)]
/-- the model's -/
theorem isSoBy_n {I K : Mem} {A : Nat → Nat} {w t : Nat} (hr : ∀ k, (k < 15 ∨ k = 44 ∨ k = 53) → K 75 k = nI (A k)) (h01 : 1 ≤ A 0) (h0 : A 0 ≤ 5) (h3 : A 3 ≤ 4) (h4 : A 4 < 32) (hl : A 1 ≤ 4) (hb : A 2 < 2 ^ 30) (hD : ∀ q, q < 5 → A (5 + q) < 32) (hw : w < 2 ^ 31) (hwv : ∀ p, p < A 3 → dg w p < 5) (ht : t < 2 ^ 31) (hv : ∀ p, p < A 3 → dg t p < 5) (e3 : ∀ q, q < 5 → I 3 q = K 75 (10 + q)) (e5 : ∀ p, p < 4 → I 5 p = K 75 (24 + p)) (e4 : ∀ q, q < 5 → I 4 q = K 75 (15 + q)) : ∃ K2, fX12_isSoBy (nI w) (nI t) K = some (b2i (allB (goP (fun q => A (5 + q)) w t) (A 3) && SOb A w (I 3) (I 5) (I 4) t), K2) ∧ ∀ c, c ≠ 80 → c ≠ 81 → K2 c = K c := by
  have hgo := mayGo_n (D := fun q => A (5 + q)) (I := K) (hr 3 (Or.inl (by decide))) h3 (fun q hq => hr _ (Or.inl (by omega))) hD hw ht hwv
  unfold fX12_isSoBy
  rw [bnd_s hgo]
  cases hg : allB (goP (fun q => A (5 + q)) w t) (A 3) with
  | false =>
    refine ⟨K, ?_, fun c _ _ => rfl⟩
    rw [if_pos (by decide)]
    unfold jX12_isSoBy_18
    refine iter_inr (n := FU - 1) ?_
    unfold sX12_isSoBy_21 bX12_isSoBy_21
    dsimp only
    rw [chk_t (by decide), show ix (0 : Int32) = 0 from rfl, hr 0 (Or.inl (by decide)), if_neg (show ¬ nI (A 0) ≤ 0 by rw [show (0 : Int32) = nI 0 from rfl, nI_leI (by omega) (by omega)]; omega), if_pos (by decide), chk_t (by decide)]
    rfl
  | true =>
    have htry := tryBeat_n (np := A 3) (n := A 0) (ct := A 4) (law := A 1) (bt := A 2) (s := w) (t := t) (I := K) (hr 0 (Or.inl (by decide))) h0 (hr 3 (Or.inl (by decide))) h3 (hr 4 (Or.inl (by decide))) h4 (hr 1 (Or.inl (by decide))) hl (hr 2 (Or.inl (by decide))) hb hw ht hv
    generalize hF : layB (A 3) (A 4) (A 1) (A 2 + 1) w t = F at htry
    generalize hq : gatR (A 3) (A 1) w t (pyP F t (cpA (K 75) (K 80) 10 0 5) (A 3), puM F (K 75) (K 81) (A 3)) (A 0) = q at htry
    generalize hK2 : GM K 80 81 q.1 q.2 = K2 at htry
    have K2c : ∀ c, c ≠ 80 → c ≠ 81 → K2 c = K c := fun c q1 q2 => by rw [← hK2, GM_c q1 q2]
    have K280 : K2 80 = q.1 := by rw [← hK2, GM_1 (by decide)]
    have hag : AG (A 3) (pnF A w (I 3) (I 5) t) q := by
      rw [← hq]
      unfold pnF
      rw [hF]
      refine gatR_ag ⟨fun r hr => pyP_ag (fun r hr => ?_) (A 3) hv r hr, fun p hp => ?_⟩ (A 0) h0
      · rw [cpA_in (by omega) (by omega), Nat.sub_zero]; exact e3 r hr
      · show pyU F (I 5) (A 3) p = puM F (K 75) (K 81) (A 3) p
        rw [pyU_at, puM_at, if_pos hp, if_pos hp, e5 p (by omega)]
    refine ⟨K2, ?_, K2c⟩
    rw [if_neg (by decide), bnd2_s htry]
    unfold jX12_isSoBy_18
    have hr0 : K2 75 0 = nI (A 0) := by rw [K2c 75 (by decide) (by decide)]; exact hr 0 (Or.inl (by decide))
    have key := iter_all2 (s := sX12_isSoBy_21 K2) (fun v => (v, K2)) (fun r => decide ((pnF A w (I 3) (I 5) t).1 r = I 4 r)) (A 0) (fun i hi => ?_) (fun i hi => ?_) ?_ FU 0 (Nat.zero_le _) (by have := @FU_lt (A 0 + 1) (by omega); omega) rfl
    · rw [Bool.true_and]
      exact key
    · unfold sX12_isSoBy_21 bX12_isSoBy_21
      dsimp only
      rw [chk_t (by decide), show ix (0 : Int32) = 0 from rfl, hr0, if_neg (by rw [nI_leI (by omega) (by omega)]; omega), if_neg (by decide), chk_t (inb_n (by omega) (by decide)), show (15 : Int32) = nI 15 from rfl, nI_add, chk_t (inb_n (by omega) (by decide)), ix_n (by omega), ix_n (by omega), K280, K2c 75 (by decide) (by decide), nI_1, ← e4 i (by omega), ← hag.1 i (by omega)]
      by_cases c : (pnF A w (I 3) (I 5) t).1 i = I 4 i
      · rw [if_pos c, decide_eq_true c]; rfl
      · rw [if_neg c, decide_eq_false c]; rfl
    · unfold sX12_isSoBy_21 bX12_isSoBy_21
      dsimp only
      rw [chk_t (by decide), show ix (0 : Int32) = 0 from rfl, hr0]
      by_cases c : nI (A 0) ≤ nI i
      · rw [if_pos c, chk_t (by decide)]
      · rw [if_neg c, if_pos rfl, chk_t (by decide)]
    · unfold sX12_isSoBy_21 bX12_isSoBy_21
      dsimp only
      rw [chk_t (by decide), show ix (0 : Int32) = 0 from rfl, hr0, if_pos (by rw [nI_leI (by omega) (by omega)]; omega), chk_t (by decide)]
/-- one named, or nobody -/
def whoB (A : Nat → Nat) (o : Option (Nat × Nat)) (t : Nat) : Bool := match o with
  | none => true
  | some (p, r) => decide (dg t p = r) && lonB (A 3) (A 4) t p
def whoI (o : Option (Nat × Nat)) : Int32 × Int32 := match o with
  | none => (-1, -1)
  | some (p, r) => (nI p, nI r)
theorem nI_p0 (k : Nat) : nI k + (0 : Int32) = nI k := nI_add k 0
theorem countFits_n {T : Nat} {I : Mem} {A : Nat → Nat} {w : Nat} {pw : Nat → Nat} (hT : T ≤ 1000) (hc : CV I 1 0 (A 44) (A 53) w pw) (hv : VR T (I 75) A w pw) (g : I 1 0 = nI (A 0) ∧ I 1 1 = nI (A 4) ∧ I 1 2 = nI (A 3) ∧ I 1 3 = nI w ∧ I 1 4 = nI (A 1) ∧ I 1 5 = nI (A 2) ∧ I 1 7 = nI (A 53)) (gd : ∀ q, q < 5 → I 2 q = nI (A (5 + q))) (o : Option (Nat × Nat)) (ho : ∀ p r, o = some (p, r) → p < A 3 ∧ r < A 0) : ∃ J, fX11_countFits (whoI o).1 (whoI o).2 I = some (nI ((enA (A 0) (A 3)).countP (fun s => allB (goP (fun q => A (5 + q)) w s) (A 3) && (SOb A w (I 3) (I 5) (I 4) s && whoB A o s))), J) ∧ ∀ c, (c < 9 ∨ 17 ≤ c) → c ≠ 43 → c ≠ 44 → J c = I c := by
  obtain ⟨g0, g1, g2, g3, g4, g5, g7⟩ := g
  have hb := hv.1
  have hn : (1 ≤ A 0 ∧ A 0 ≤ 5) ∧ A 3 ≤ 4 ∧ A 4 < 2 ^ A 0 ∧ A 1 ≤ 4 ∧ A 2 ≤ T ∧ A 53 ≤ 8 := by unfold BA at hb; omega
  have h32 := pow_le32 hn.1.2
  have h8 := pow8_le hn.2.1
  have hdg := hb.dg
  have hlt := hdg.lt hn.1.2
  have hw := hv.2.2.1
  have hwl := hw.lt hn.2.1
  have hwd : ∀ p, p < 4 → dg w p < 5 := fun p hp => by have := hw.dg hn.1.1 p; omega
  obtain ⟨J0, a1, a2, a4, aj⟩ := copyT (I := I) (A := A) (w := w) ⟨g0, g1, g2, g3, g4, g5⟩
  have tf0 : TF I J0 A w := by
    obtain ⟨t0, t1, t2, t3, t5, tc⟩ := a2
    refine ⟨t0, t1, t2, t3, t5, ⟨A 53, hn.2.2.2.2.2, ?_⟩, fun q hq => ?_, fun p hp => ?_, fun q hq => ?_, fun c hc _ _ => tc c hc⟩
    · have := aj 0 (by decide) 7 (by decide)
      exact this.trans g7
    · exact aj 2 (by decide) q hq
    · exact aj 4 (by decide) p hp
    · exact aj 3 (by decide) q hq
  have J0c := tf0.2.2.2.2.2.2.2.2.2
  generalize hD : (fun q => A (5 + q)) = D at hdg
  have hDq : ∀ q, A (5 + q) = D q := fun q => by rw [← hD]
  obtain ⟨J, j1, j2, j3⟩ := onward_n (w0 := 43) (b := 1) (np := A 3) (s := w) (D := D) (I := J0) (by decide) (by rw [J0c 1 (by omega) (by decide) (by decide)]; exact g2) hn.2.1 (fun q hq => by rw [J0c 2 (by omega) (by decide) (by decide), gd q hq, hDq]) (fun q hq => by rw [← hDq]; exact hlt q hq) (by omega) hwd
  generalize hm : (fun p => D (dg w p) ||| 2 ^ dg w p) = m at j1 j2
  have hm2n : ∀ p, p < A 3 → m p < 2 ^ A 0 := fun p hp => by
    have hdp := hw.2 p hp
    rw [← hm]
    exact Nat.or_lt_two_pow (hdg.1 _ (by omega)) (Nat.pow_lt_pow_right (by decide) hdp)
  have hm32 : ∀ p, p < 4 → m p < 32 := fun p hp => by
    rw [← hm]
    exact or_lt32 (by rw [← hDq]; exact hlt _ (hwd p hp)) (hwd p hp)
  have hfil := enW_fil (n := A 0) hn.1.2 (np := A 3) hm2n
  have hcnt : ∀ Q : Nat → Bool, (enW m (A 3)).countP Q = (enA (A 0) (A 3)).countP (fun s => allB (goP D w s) (A 3) && Q s) := fun Q => by
    rw [hfil, List.countP_filter]
    congr 1
    funext s
    rw [Bool.and_comm]
    congr 1
    refine allB_cong (fun p _ => ?_)
    rw [← hm]
    rfl
  have hlen : (enW m (A 3)).length ≤ 625 := by
    rw [hfil]
    have := List.length_filter_le (fun s => allB (fun p => (m p).testBit (dg s p)) (A 3)) (enA (A 0) (A 3))
    rw [enA_len] at this
    have := pow_le625 hn.1.2 hn.2.1
    omega
  have hmem : ∀ i, i < (enW m (A 3)).length → (enW m (A 3)).getD i 0 < 4096 ∧ ∀ p, p < A 3 → dg ((enW m (A 3)).getD i 0) p < 5 := fun i hi => by
    have := getD_mem hi
    rw [hfil] at this
    have := enA_wv hn.1.2 (List.mem_filter.mp this).1
    rw [← hfil] at this
    exact ⟨by omega, fun p hp => by have := this.2 p hp; omega⟩
  generalize hL : enW m (A 3) = L at j1 j2 hcnt hlen hmem
  generalize hQ : (fun s => SOb A w (I 3) (I 5) (I 4) s && whoB A o s) = Q
  have key := iter_invF (s := sX11_countFits_36 (whoI o).1 (whoI o).2 (nI L.length)) (fun i x => x.1 = nI (cnt (fun i => Q (L.getD i 0)) i) ∧ x.2.1 = nI i ∧ (i < L.length → WS x.2.2 43 (A 3) m (L.getD i 0)) ∧ TF I x.2.2 A w) (fun r => r.1 = nI (cnt (fun i => Q (L.getD i 0)) L.length) ∧ ∀ c, (c < 9 ∨ 17 ≤ c) → c ≠ 43 → c ≠ 44 → r.2 c = I c) L.length (FU_lt (by omega)) (x := ((0 : Int32), (0 : Int32), J)) ⟨rfl, rfl, j2, ?_⟩ (fun i x hi hx => ?_) (fun x hx => ?_)
  · obtain ⟨⟨r1, rJ⟩, k1, k2, k3⟩ := key
    dsimp only at k2 k3
    refine ⟨rJ, ?_, k3⟩
    unfold fX11_countFits
    rw [bnd_s a1, J0c 1 (by omega) (by decide) (by decide), g3, bnd2_s j1, k1, k2, cnt_list, hcnt, ← hQ]
  · obtain ⟨t0, t1, t2, t3, t5, t7, tp, tu, tt, tc⟩ := tf0
    refine ⟨?_, ?_, ?_, ?_, ?_, ?_, ?_, ?_, ?_, fun c hc q1 q2 => ?_⟩
    · show J 9 0 = _; rw [j3 9 (by decide) (by decide)]; exact t0
    · show J 9 1 = _; rw [j3 9 (by decide) (by decide)]; exact t1
    · show J 9 2 = _; rw [j3 9 (by decide) (by decide)]; exact t2
    · show J 9 3 = _; rw [j3 9 (by decide) (by decide)]; exact t3
    · show J 9 5 = _; rw [j3 9 (by decide) (by decide)]; exact t5
    · show ∃ x, x ≤ 8 ∧ J 9 7 = nI x; rw [j3 9 (by decide) (by decide)]; exact t7
    · show ∀ q, q < 5 → J 11 q = _; rw [j3 11 (by decide) (by decide)]; exact tp
    · show ∀ q, q < 4 → J 13 q = _; rw [j3 13 (by decide) (by decide)]; exact tu
    · show ∀ q, q < 5 → J 12 q = _; rw [j3 12 (by decide) (by decide)]; exact tt
    · show J c = I c; rw [j3 c q1 q2]; exact tc c hc q1 q2
  · obtain ⟨x4, x5, M⟩ := x
    dsimp only at hx
    obtain ⟨rfl, rfl, hws, htf⟩ := hx
    have hws := hws hi
    obtain ⟨hsl, hsd⟩ := hmem i hi
    obtain ⟨M1, v, M2, M3, q1, q2, q3, q4, q5, q6, q7, q8, q9, q10⟩ := htf.try (t := L.getD i 0) hn.1.2 hn.2.1 (by omega) hn.2.2.2.1 (by omega) (by omega) (by omega) hsd
    obtain ⟨M4, m1, m2, m3⟩ := WS.step (m := m) (i := i) (I := M3) (by rw [hL]; exact hws.congr q9 q10) hm32 hn.2.1 (by rw [hL]; exact hi)
    rw [hL] at m2
    have tf4 : TF I M4 A w := by
      obtain ⟨t0, t1, t2, t3, t5, t7, tp, tu, tt, tc⟩ := q8
      refine ⟨?_, ?_, ?_, ?_, ?_, ?_, ?_, ?_, ?_, fun c hc q1 q2 => ?_⟩
      · rw [m3 9 (by decide)]; exact t0
      · rw [m3 9 (by decide)]; exact t1
      · rw [m3 9 (by decide)]; exact t2
      · rw [m3 9 (by decide)]; exact t3
      · rw [m3 9 (by decide)]; exact t5
      · rw [m3 9 (by decide)]; exact t7
      · rw [m3 11 (by decide)]; exact tp
      · rw [m3 13 (by decide)]; exact tu
      · rw [m3 12 (by decide)]; exact tt
      · rw [m3 c q1]; exact tc c hc q1 q2
    refine ⟨(nI (cnt (fun i => Q (L.getD i 0)) (i + 1)), nI (i + 1), M4), ?_, rfl, rfl, m2, tf4⟩
    have hj : ∀ x : Int32, jX11_countFits_106 (whoI o).1 (whoI o).2 (nI L.length) x (nI i) M2 = some (.inl (x, nI (i + 1), M4)) := fun x => by
      unfold jX11_countFits_106
      rw [bnd_s q7, bnd_s m1, nI_1]
    unfold sX11_countFits_36 bX11_countFits_36
    dsimp only
    rw [if_neg (by rw [nI_leI (by omega) (by omega)]; omega), bnd_s q1, q2, g4, chk_t (inb_n (by omega) (by decide)), ix_n (by omega), bnd_s (asL_n _ (by omega)), q3, hws.1, bnd2_s q4, bnd_s q5, cnt, show Q (L.getD i 0) = (SOb A w (I 3) (I 5) (I 4) (L.getD i 0) && whoB A o (L.getD i 0)) by rw [← hQ]]
    cases hso : SOb A w (I 3) (I 5) (I 4) (L.getD i 0) with
    | false =>
      rw [if_pos (by decide), hj]
      rfl
    | true =>
      rw [if_neg (by decide), Bool.true_and]
      cases o with
      | none =>
        rw [if_pos (show (whoI none).1 = -1 from rfl)]
        unfold jX11_countFits_103
        rw [hj, nI_1]
        rfl
      | some pr =>
        obtain ⟨p, r⟩ := pr
        obtain ⟨hp, hr⟩ := ho p r rfl
        rw [if_neg (show ¬ (whoI (some (p, r))).1 = -1 from n_ne1 (by omega)), bnd_s (show fX4_isAloneIn 9 (whoI (some (p, r))).1 (whoI (some (p, r))).2 M2 = some (b2i (decide (dg (L.getD i 0) p = r) && lonB (A 3) (A 4) (L.getD i 0) p)) from q6 p r hp (by omega))]
        unfold jX11_countFits_103
        rw [hj, hj, nI_1]
        show _ = some (Sum.inl (nI (cnt (fun i => Q (L.getD i 0)) i + if (decide (dg (L.getD i 0) p = r) && lonB (A 3) (A 4) (L.getD i 0) p) = true then 1 else 0), _))
        cases (decide (dg (L.getD i 0) p = r) && lonB (A 3) (A 4) (L.getD i 0) p) <;> rfl
  · obtain ⟨x4, x5, M⟩ := x
    dsimp only at hx
    obtain ⟨rfl, rfl, hw, hf⟩ := hx
    refine ⟨(nI (cnt (fun i => Q (L.getD i 0)) L.length), M), ?_, rfl, hf.2.2.2.2.2.2.2.2.2⟩
    unfold sX11_countFits_36 bX11_countFits_36
    dsimp only
    rw [if_pos (by rw [nI_leI (by omega) (by omega)]; omega)]
/-- the relation behind calls that only try -/
theorem Sim.tries {T : Nat} {I J : Mem} (h : Sim T I) (hj : ∀ c, (c < 9 ∨ 17 ≤ c) → c < 43 ∨ (74 ≤ c ∧ c < 79) → J c = I c) : Sim (T + 1) J := h.trial hj
/-- the model counts -/
theorem cntM_n {T : Nat} {I J : Mem} {A : Nat → Nat} {w : Nat} {pw : Nat → Nat} (hT : T ≤ 1000) (h : Sim T I) (hc : CV I 1 0 (A 44) (A 53) w pw) (hv : VR T (I 75) A w pw) (g : ∀ q, q < 5 → I 3 q = nI (A (10 + q))) (hJ : ∀ c, (c < 9 ∨ 17 ≤ c) → c ≠ 43 → c ≠ 44 → J c = I c) (o : Option (Nat × Nat)) (ho : ∀ p r, o = some (p, r) → p < A 3 ∧ r < A 0) (R : Nat → Bool) (hR : ∀ s, R s = (allB (goP (fun q => A (5 + q)) w s) (A 3) && (SOb A w (I 3) (I 5) (I 4) s && whoB A o s))) (st : Int32 × Int32 × Mem → Option ((Int32 × Int32 × Mem) ⊕ (Int32 × Mem))) (hst : ∀ (i : Nat) (x : Int32) (K : Mem), i < A 0 ^ A 3 → (∀ c, c ≠ 80 → c ≠ 81 → K c = J c) → fX12_standings K = some (nI (A 0 ^ A 3)) → fX12_standingOf (nI i) K = some (nI (stN (A 0) (A 3) i)) → (∃ K2, fX12_isSoBy (nI w) (nI (stN (A 0) (A 3) i)) K = some (b2i (allB (goP (fun q => A (5 + q)) w (stN (A 0) (A 3) i)) (A 3) && SOb A w (I 3) (I 5) (I 4) (stN (A 0) (A 3) i)), K2) ∧ ∀ c, c ≠ 80 → c ≠ 81 → K2 c = K c) → ∃ K2, st (x, nI i, K) = some (.inl (x + b2i (R (stN (A 0) (A 3) i)), nI (i + 1), K2)) ∧ ∀ c, c ≠ 80 → c ≠ 81 → K2 c = K c) (hen : ∀ (x : Int32) (K : Mem), (∀ c, c ≠ 80 → c ≠ 81 → K c = J c) → fX12_standings K = some (nI (A 0 ^ A 3)) → st (x, nI (A 0 ^ A 3), K) = some (.inr (x, K))) : ∃ K, iter st FU ((0 : Int32), (0 : Int32), J) = some (nI ((enA (A 0) (A 3)).countP R), K) ∧ Sim (T + 1) K := by
  have hb := hv.1
  have hn : (1 ≤ A 0 ∧ A 0 ≤ 5) ∧ A 3 ≤ 4 ∧ A 4 < 2 ^ A 0 ∧ A 1 ≤ 4 ∧ A 2 ≤ T ∧ A 53 ≤ 8 := by unfold BA at hb; omega
  have h32 := pow_le32 hn.1.2
  have h8 := pow8_le hn.2.1
  have h625 := pow_le625 hn.1.2 hn.2.1
  have hlt := hb.dg.lt hn.1.2
  have hw := hv.2.2.1
  have hwl := hw.lt hn.2.1
  have hwd : ∀ p, p < A 3 → dg w p < 5 := fun p hp => by have := hw.2 p hp; omega
  have eu : ∀ p, p < 4 → I 5 p = I 75 (24 + p) := fun p hp => by
    have e2 := hc.at (k := 24 + p) (Or.inr (Or.inl (by omega)))
    rw [(lo_24 p hp).1, (lo_24 p hp).2] at e2
    exact e2
  have et : ∀ p, p < 5 → I 4 p = I 75 (15 + p) := fun p hp => by
    have e2 := hc.at (k := 15 + p) (Or.inl (by omega))
    rw [(lo_15 p hp).1, (lo_15 p hp).2] at e2
    exact e2
  have key := iter_invF (s := st) (fun i x => x.1 = nI (cnt (fun a => R (stN (A 0) (A 3) a)) i) ∧ x.2.1 = nI i ∧ ∀ c, c ≠ 80 → c ≠ 81 → x.2.2 c = J c) (fun r => r.1 = nI (cnt (fun a => R (stN (A 0) (A 3) a)) (A 0 ^ A 3)) ∧ ∀ c, c ≠ 80 → c ≠ 81 → r.2 c = J c) (A 0 ^ A 3) (FU_lt (by omega)) (x := ((0 : Int32), (0 : Int32), J)) ⟨rfl, rfl, fun c _ _ => rfl⟩ (fun i x hi hx => ?_) (fun x hx => ?_)
  · obtain ⟨⟨r1, K⟩, k1, k2, k3⟩ := key
    dsimp only at k2 k3
    refine ⟨K, ?_, h.trial (fun c q1 q2 => by rw [k3 c (by omega) (by omega), hJ c q1 (by omega) (by omega)])⟩
    rw [k1, k2, cnt_range (A 0) (A 3) (by omega) R]
    rfl
  · obtain ⟨x2, x3, K⟩ := x
    dsimp only at hx
    obtain ⟨rfl, rfl, hf⟩ := hx
    have K75 : K 75 = I 75 := by rw [hf 75 (by decide) (by decide), hJ 75 (by omega) (by decide) (by decide)]
    have K74 : K 74 = I 74 := by rw [hf 74 (by decide) (by decide), hJ 74 (by omega) (by decide) (by decide)]
    have hr : ∀ k, (k < 15 ∨ k = 44 ∨ k = 53) → K 75 k = nI (A k) := fun k hk => by rw [K75]; exact hv.2.1 k hk
    have hsl := stN_lt hn.1.1 hn.1.2 (A 3) i
    obtain ⟨K2, q1, q2⟩ := hst i (nI (cnt (fun a => R (stN (A 0) (A 3) a)) i)) K hi hf (standings_n (hr 0 (Or.inl (by decide))) (hr 3 (Or.inl (by decide))) hn.2.1) (standingOf_9 (hr 0 (Or.inl (by decide))) hn.1.1 hn.1.2 (hr 3 (Or.inl (by decide))) hn.2.1 (by rw [K74]; exact h.2.2.2.2.2) hi) (isSoBy_n hr hn.1.1 hn.1.2 hn.2.1 (by omega) hn.2.2.2.1 (by omega) hlt (by omega) hwd (by omega) (fun p hp => by have := stN_dg hn.1.1 hn.1.2 (A 3) i p hp; omega) (fun q hq => by rw [g q hq, hr _ (Or.inl (by omega))]) (fun p hp => by rw [K75]; exact eu p hp) (fun p hp => by rw [K75]; exact et p hp))
    refine ⟨_, q1, ?_, rfl, fun c c1 c2 => by show K2 c = J c; rw [q2 c c1 c2]; exact hf c c1 c2⟩
    show nI (cnt (fun a => R (stN (A 0) (A 3) a)) i) + b2i (R (stN (A 0) (A 3) i)) = nI (cnt (fun a => R (stN (A 0) (A 3) a)) (i + 1))
    rw [cnt]
    cases R (stN (A 0) (A 3) i)
    · rw [b2i_f, nI_p0]; rfl
    · rw [b2i_t, nI_1]; rfl
  · obtain ⟨x2, x3, K⟩ := x
    dsimp only at hx
    obtain ⟨rfl, rfl, hf⟩ := hx
    have K75 : K 75 = I 75 := by rw [hf 75 (by decide) (by decide), hJ 75 (by omega) (by decide) (by decide)]
    exact ⟨_, hen _ K hf (standings_n (by rw [K75]; exact hv.2.1 0 (Or.inl (by decide))) (by rw [K75]; exact hv.2.1 3 (Or.inl (by decide))) hn.2.1), rfl, hf⟩
theorem ok_fits {T : Nat} {I : Mem} (h : Sim T I) (hT : T ≤ 1000) : OK T I fX11_fits fX12_fits := by
  obtain ⟨A, w, pw, hc, hv, hb, ⟨g0, g1, g2, g3, g4, g5, g6, g7⟩, gd, gp, hr⟩ := h.get
  have hn : (1 ≤ A 0 ∧ A 0 ≤ 5) ∧ A 3 ≤ 4 := by unfold BA at hb; omega
  have h625 := pow_le625 hn.1.2 hn.2
  obtain ⟨J, j1, j2⟩ := countFits_n hT hc hv ⟨g0, g1, g2, g3, g4, g5, g7⟩ gd none (fun p r e => by cases e)
  have key := cntM_n hT h hc hv gp j2 none (fun p r e => by cases e) _ (fun s => rfl) (sX12_fits_9 (nI w)) (fun i x K hi hK s1 s2 s3 => ?_) (fun x K hK s1 => ?_)
  · obtain ⟨K, k1, k2⟩ := key
    refine ⟨nI ((enA (A 0) (A 3)).countP (fun s => allB (goP (fun q => A (5 + q)) w s) (A 3) && (SOb A w (I 3) (I 5) (I 4) s && whoB A none s))), J, K, ?_, ?_, k2⟩
    · unfold fX11_fits
      rw [bnd2_s (show fX11_countFits (-1) (-1) I = _ from j1)]
    · unfold fX12_fits
      rw [bnd_s (show fX12_now J = some (nI w) from now_v (T := T) (pw := pw) (A := A) (by rw [j2 75 (by omega) (by decide) (by decide)]; exact hv)), k1]
  · obtain ⟨K2, q1, q2⟩ := s3
    refine ⟨K2, ?_, q2⟩
    unfold sX12_fits_9 bX12_fits_9
    dsimp only
    rw [bnd_s s1, if_neg (by rw [nI_leI (by omega) (by omega)]; omega), bnd_s s2, bnd2_s q1, nI_1, show whoB A none (stN (A 0) (A 3) i) = true from rfl, Bool.and_true]
    cases (allB (goP (fun q => A (5 + q)) w (stN (A 0) (A 3) i)) (A 3) && SOb A w (I 3) (I 5) (I 4) (stN (A 0) (A 3) i)) <;> rfl
  · unfold sX12_fits_9 bX12_fits_9
    dsimp only
    rw [bnd_s s1, if_pos (by rw [nI_leI (by omega) (by omega)]; omega)]
theorem ok_was {T : Nat} {I : Mem} (h : Sim T I) (hT : T ≤ 1000) (x1 x2 : Int32) : OK T I (fX11_was x1 x2) (fX12_was x1 x2) := by
  obtain ⟨A, w, pw, hc, hv, hb, ⟨g0, g1, g2, g3, g4, g5, g6, g7⟩, gd, gp, hr⟩ := h.get
  have hn : (1 ≤ A 0 ∧ A 0 ≤ 5) ∧ A 3 ≤ 4 ∧ A 4 < 2 ^ A 0 := by unfold BA at hb; omega
  have h32 := pow_le32 hn.1.2
  have h8 := pow8_le hn.2.1
  have h625 := pow_le625 hn.1.2 hn.2.1
  have r0 := hr 0 (Or.inl (by decide))
  have r3 := hr 3 (Or.inl (by decide))
  have r0' : up2 I 0 10 (I 0 10 + 1) 75 0 = nI (A 0) := by rw [up0_c (by decide)]; exact r0
  have r3' : up2 I 0 10 (I 0 10 + 1) 75 3 = nI (A 3) := by rw [up0_c (by decide)]; exact r3
  have badX : jX11_was_16 I = some (-2, up2 I 0 10 (I 0 10 + 1)) := rfl
  have badM : jX12_was_16 (up2 I 0 10 (I 0 10 + 1)) = some (-2, up2 (up2 I 0 10 (I 0 10 + 1)) 78 0 (up2 I 0 10 (I 0 10 + 1) 78 0 + 1)) := rfl
  rcases rng0 x1 (A 3) (by omega) with ⟨p, hp, rfl, ht⟩ | hf
  · rcases rng0 x2 (A 0) (by omega) with ⟨r, hrr, rfl, ht2⟩ | hf
    · have ho : ∀ p2 r2, some (p, r) = some (p2, r2) → p2 < A 3 ∧ r2 < A 0 := fun p2 r2 e => by cases e; exact ⟨hp, hrr⟩
      obtain ⟨J, j1, j2⟩ := countFits_n hT hc hv ⟨g0, g1, g2, g3, g4, g5, g7⟩ gd (some (p, r)) ho
      have key := cntM_n hT h hc hv gp j2 (some (p, r)) ho _ (fun s => rfl) (sX12_was_34 (nI p) (nI r) (nI w)) (fun i x K hi hK s1 s2 s3 => ?_) (fun x K hK s1 => ?_)
      · obtain ⟨K, k1, k2⟩ := key
        refine ⟨nI ((enA (A 0) (A 3)).countP (fun s => allB (goP (fun q => A (5 + q)) w s) (A 3) && (SOb A w (I 3) (I 5) (I 4) s && whoB A (some (p, r)) s))), J, K, ?_, ?_, k2⟩
        · unfold fX11_was
          rw [bnd_s (isPersonX _ g2 (by omega)), ht, if_neg (by decide), bnd_s (isRoomX _ g0 (by omega)), ht2, if_neg (by decide), bnd2_s (show fX11_countFits (nI p) (nI r) I = _ from j1)]
        · have J75 := j2 75 (by omega) (by decide) (by decide)
          unfold fX12_was
          rw [bnd_s (isPersonM _ (by rw [J75]; exact r3) (by omega)), ht, if_neg (by decide), bnd_s (isRoomM _ (by rw [J75]; exact r0) (by omega)), ht2, if_neg (by decide), bnd_s (show fX12_now J = some (nI w) from now_v (T := T) (pw := pw) (A := A) (by rw [J75]; exact hv)), k1]
      · obtain ⟨K2, q1, q2⟩ := s3
        have hsl := stN_lt hn.1.1 hn.1.2 (A 3) i
        have hd := dg_lt (stN (A 0) (A 3) i) p
        have K75 : K 75 = I 75 := by rw [hK 75 (by decide) (by decide), j2 75 (by omega) (by decide) (by decide)]
        have hal := isAlone_n (np := A 3) (ct := A 4) (s := stN (A 0) (A 3) i) (p := p) (I := K) (by rw [K75]; exact r3) hn.2.1 (by rw [K75]; exact hr 4 (Or.inl (by decide))) (by omega) (by omega) (by omega)
        have hwho : whoB A (some (p, r)) (stN (A 0) (A 3) i) = (decide (dg (stN (A 0) (A 3) i) p = r) && lonB (A 3) (A 4) (stN (A 0) (A 3) i) p) := rfl
        have hb1 : sX12_was_34 (nI p) (nI r) (nI w) (x, nI i, K) = if nI (dg (stN (A 0) (A 3) i) p) = nI r then (if b2i (lonB (A 3) (A 4) (stN (A 0) (A 3) i) p) = 0 then some (.inl (x + 0, nI (i + 1), K)) else (if b2i (allB (goP (fun q => A (5 + q)) w (stN (A 0) (A 3) i)) (A 3) && SOb A w (I 3) (I 5) (I 4) (stN (A 0) (A 3) i)) = 0 then some (.inl (x + 0, nI (i + 1), K2)) else some (.inl (x + 1, nI (i + 1), K2)))) else some (.inl (x + 0, nI (i + 1), K)) := by
          unfold sX12_was_34 bX12_was_34
          dsimp only
          rw [bnd_s s1, if_neg (by rw [nI_leI (by omega) (by omega)]; omega), bnd_s s2, bnd_s (roomIn_n _ (by omega) (by omega)), bnd_s hal, bnd2_s q1, nI_1]
          rfl
        rw [hb1, hwho]
        by_cases c : dg (stN (A 0) (A 3) i) p = r
        · rw [if_pos (by rw [c]), decide_eq_true c]
          cases lonB (A 3) (A 4) (stN (A 0) (A 3) i) p
          · refine ⟨K, ?_, fun c _ _ => rfl⟩
            rw [if_pos (by decide), Bool.and_false, Bool.and_false, Bool.and_false]
            rfl
          · refine ⟨K2, ?_, q2⟩
            rw [if_neg (by decide), Bool.and_true, Bool.and_true]
            cases (allB (goP (fun q => A (5 + q)) w (stN (A 0) (A 3) i)) (A 3) && SOb A w (I 3) (I 5) (I 4) (stN (A 0) (A 3) i)) <;> rfl
        · refine ⟨K, ?_, fun c _ _ => rfl⟩
          rw [if_neg (by rw [nI_eq (by omega) (by omega)]; exact c), decide_eq_false c, Bool.false_and, Bool.and_false, Bool.and_false]
          rfl
      · unfold sX12_was_34 bX12_was_34
        dsimp only
        rw [bnd_s s1, if_pos (by rw [nI_leI (by omega) (by omega)]; omega)]
    · refine ok_bad h (-2) ?_ ?_
      · unfold fX11_was
        rw [bnd_s (isPersonX _ g2 (by omega)), ht, if_neg (by decide), bnd_s (isRoomX _ g0 (by omega)), hf, if_pos (by decide)]
        exact badX
      · unfold fX12_was
        rw [bnd_s (isPersonM _ r3' (by omega)), ht, if_neg (by decide), bnd_s (isRoomM _ r0' (by omega)), hf, if_pos (by decide)]
        exact badM
  · refine ok_bad h (-2) ?_ ?_
    · unfold fX11_was
      rw [bnd_s (isPersonX _ g2 (by omega)), hf, if_pos (by decide)]
      exact badX
    · unfold fX12_was
      rw [bnd_s (isPersonM _ r3' (by omega)), hf, if_pos (by decide)]
      exact badM
