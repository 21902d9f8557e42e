/-! ===== items, and the whole text ===== -/
def FrI (K K2 : Mem) : Prop := (∀ i, (i < 5 ∨ 11 < i) → K2 74 i = K 74 i) ∧ ∀ c, c ≠ 74 → c ≠ 79 → K2 c = K c
theorem FrI.rfl' (K : Mem) : FrI K K := ⟨fun _ _ => rfl, fun _ _ _ => rfl⟩
theorem FrI.trans {K K1 K2 : Mem} (h : FrI K K1) (g : FrI K1 K2) : FrI K K2 := ⟨fun i hi => by rw [g.1 i hi]; exact h.1 i hi, fun c q1 q2 => by rw [g.2 c q1 q2]; exact h.2 c q1 q2⟩
theorem FrM.toI {m : Nat} {K K2 : Mem} (h : FrM m K K2) : FrI K K2 := ⟨fun i hi => h.2.1 i (by omega), h.2.2⟩
theorem rd49 {K : Mem} {t : Nat → Nat} {len j m wd : Nat} (hK : MX K t len j m) (hj : j ≤ len) (hm : m ≤ 80) (hwd : wd ≤ 6) : ∃ K6, MX K6 t len (nxT t len j) m ∧ K6 79 (4 * m) = nI wd ∧ (∀ x, x < 4 * m → K6 79 x = K 79 x) ∧ (∀ i, (i < 5 ∨ 7 < i) → K6 74 i = K 74 i) ∧ (∀ c, c ≠ 74 → c ≠ 79 → K6 c = K c) ∧
    (∀ K9, fX12_readsRest (nI wd) K6 = some (0, K9) → jX12_readsItem_49 (nI wd) K = some (0, K9)) ∧
    ∀ K9 j9, fX12_readsRest (nI wd) K6 = some (1, K9) → MX K9 t len j9 m → j9 ≤ len → (kd t len (skp t len j9) ≠ 3 → jX12_readsItem_49 (nI wd) K = some (0, K9)) ∧ (kd t len (skp t len j9) = 3 → ∀ n2 np, (if wd = 0 then K9 79 (4 * m + 1) else K9 74 10) = nI n2 → K9 74 11 = nI np → ∃ K2, jX12_readsItem_49 (nI wd) K = some (1, K2) ∧ MX K2 t len (nxT t len j9) (m + 1) ∧ K2 74 10 = nI n2 ∧ K2 74 11 = nI (np + (if wd = 4 then 1 else 0)) ∧ FrI K9 K2 ∧ K2 79 = K9 79) := by
  obtain ⟨hT, h6, h5, h7, h9⟩ := id hK
  have hnx := nx_le (t := t) hj
  obtain ⟨K4, z1, z2, z3, z4, z5, z6⟩ := token_n hT h5 hnx.2.1
  have h94 : K4 74 9 = nI m := by rw [z5 9 (by omega)]; exact h9
  have hX4 : MX K4 t len (nxT t len j) m := ⟨hT.congr (z5 3 (by omega)) (z6 77 (by decide)), z2, z3, z4, h94⟩
  refine ⟨up2 K4 79 (4 * m) (nI wd), hX4.congr (up2_cc (by decide)) (up2_cc (by decide)), up2_self .., fun x hx => by rw [up2_i (by omega), z6 79 (by decide)], fun i hi => by rw [up2_c (by decide)]; exact z5 i hi, fun c q1 q2 => by rw [up2_cc q2]; exact z6 c q1, ?_⟩
  have hbody : ∀ v K9, fX12_readsRest (nI wd) (up2 K4 79 (4 * m) (nI wd)) = some (v, K9) → jX12_readsItem_49 (nI wd) K = if v = 0 then some (0, K9) else if K9 74 6 = K9 74 3 then some (0, K9) else chk (inb (K9 74 6) 200) (if K9 77 (ix (K9 74 6)) = (59 : Int32) then (if nI wd = 0 then chk (inb ((4 : Int32) * K9 74 9 + (1 : Int32)) 400) (jX12_readsItem_125 (nI wd) (K9 79 (ix ((4 : Int32) * K9 74 9 + (1 : Int32)))) K9) else jX12_readsItem_125 (nI wd) (K9 74 10) K9) else some (0, K9)) := fun v K9 hv => by
    unfold jX12_readsItem_49
    rw [bnd_s z1, h94, show (4 : Int32) * nI m = nI (4 * m) from pk_mul 4 m, chk_t (inb_n (show 4 * m < 400 by omega) (by decide)), ix_n (show 4 * m < 2 ^ 31 by omega)]
    dsimp only [letb]
    rw [bnd2_s hv]
  refine ⟨fun K9 hv => by rw [hbody 0 K9 hv, if_pos rfl], fun K9 j9 hv hK9 hj9 => ?_⟩
  obtain ⟨⟨c1, c2, c3, c4⟩, g6, g5, g7, g9⟩ := id hK9
  have hsk := skp_le (t := t) hj9
  have hnx9 := nx_le (t := t) hj9
  rw [hbody 1 K9 hv, if_neg (by decide), g6, c3]
  refine ⟨fun hk => ?_, fun hk n2 np hn2 hnp => ?_⟩
  · by_cases q0 : skp t len j9 = len
    · rw [if_pos (by rw [q0])]
    · have q1 : skp t len j9 < len := by omega
      have hb := c2 _ q1
      rw [if_neg (by rw [nI_eq (by omega) (by omega)]; exact q0), chk_t (inb_n (by omega) (by decide)), ix_n (by omega), c4 _ q1, if_neg]
      rw [show (59 : Int32) = nI 59 from rfl, nI_eq (by omega) (by decide)]
      exact fun q => hk (kd_3.mpr ⟨q1, q⟩)
  · obtain ⟨q1, q2⟩ := kd_3.mp hk
    have hb := c2 _ q1
    have h125 : ∃ K2, jX12_readsItem_125 (nI wd) (nI n2) K9 = some (1, K2) ∧ MX K2 t len (nxT t len j9) (m + 1) ∧ K2 74 10 = nI n2 ∧ K2 74 11 = nI (np + (if wd = 4 then 1 else 0)) ∧ FrI K9 K2 ∧ K2 79 = K9 79 := by
      generalize hB : up2 (up2 (up2 K9 74 10 (nI n2)) 74 11 (nI (np + (if wd = 4 then 1 else 0)))) 74 9 (nI (m + 1)) = B
      have b10 : B 74 10 = nI n2 := by rw [← hB, up2_i (by decide), up2_i (by decide), up2_self]
      have b11 : B 74 11 = nI (np + (if wd = 4 then 1 else 0)) := by rw [← hB, up2_i (by decide), up2_self]
      have b9 : B 74 9 = nI (m + 1) := by rw [← hB, up2_self]
      have bi : ∀ i, i ≠ 9 → i ≠ 10 → i ≠ 11 → B 74 i = K9 74 i := fun i q1 q2 q3 => by rw [← hB, up2_i q1, up2_i q3, up2_i q2]
      have bc : ∀ c, c ≠ 74 → B c = K9 c := fun c q => by rw [← hB, up2_cc q, up2_cc q, up2_cc q]
      have hTB : MT B t len := hK9.1.congr (bi 3 (by decide) (by decide) (by decide)) (bc 77 (by decide))
      obtain ⟨K2, y1, y2, y3, y4, y5, y6⟩ := token_n hTB (show B 74 5 = nI (nxT t len j9) by rw [bi 5 (by decide) (by decide) (by decide)]; exact g5) hnx9.2.1
      refine ⟨K2, ?_, ⟨hTB.congr (y5 3 (by omega)) (y6 77 (by decide)), y2, y3, y4, by rw [y5 9 (by omega)]; exact b9⟩, by rw [y5 10 (by omega)]; exact b10, by rw [y5 11 (by omega)]; exact b11, ⟨fun i hi => by rw [y5 i (by omega)]; exact bi i (by omega) (by omega) (by omega), fun c w1 w2 => by rw [y6 c w1]; exact bc c w1⟩, by rw [y6 79 (by decide)]; exact bc 79 (by decide)⟩
      have h143 : ∀ u : Nat, u = (if wd = 4 then 1 else 0) → jX12_readsItem_143 (nI u) (up2 K9 74 10 (nI n2) 74 11) (up2 K9 74 10 (nI n2)) = some (1, K2) := fun u hu => by
        unfold jX12_readsItem_143
        dsimp only [letb]
        rw [up2_i (show 11 ≠ 10 by decide), hnp, nI_add, up2_i (show 9 ≠ 11 by decide), up2_i (show 9 ≠ 10 by decide), g9, nI_1, hu, hB, bnd_s y1]
      unfold jX12_readsItem_125
      dsimp only [letb]
      by_cases c : wd = 4
      · rw [if_pos (show nI wd = (4 : Int32) by rw [c]; rfl)]
        exact h143 1 (by rw [if_pos c])
      · rw [if_neg (by rw [show (4 : Int32) = nI 4 from rfl, nI_eq (by omega) (by decide)]; exact c)]
        exact h143 0 (by rw [if_neg c])
    rw [if_neg (by rw [nI_eq (by omega) (by omega)]; omega), chk_t (inb_n (by omega) (by decide)), ix_n (by omega), c4 _ q1, if_pos (by rw [q2]; rfl), g9, show (4 : Int32) * nI m + (1 : Int32) = nI (4 * m + 1) by rw [show (4 : Int32) = nI 4 from rfl, pk_mul, nI_1], chk_t (inb_n (show 4 * m + 1 < 400 by omega) (by decide)), ix_n (show 4 * m + 1 < 2 ^ 31 by omega)]
    by_cases c : wd = 0
    · rw [if_pos c] at hn2
      rw [if_pos (show nI wd = 0 by rw [c]; rfl), hn2]
      exact h125
    · rw [if_neg c] at hn2
      rw [if_neg (nI_ne0 (by omega) (by omega)), hn2]
      exact h125
/-- one item behind the first -/
theorem item_n {M : Mem} {t : Nat → Nat} {len j m : Nat} {A : Nat → Nat} {w : Nat} {W : Nat → Int32} (hc : CT M t len) (h4 : M 35 4 = nI j) (hj : j ≤ len) (h6 : M 35 6 = -1) (hX : HX 9 M A w W) (hG : GH A w W) (hm : 3 * m ≤ j) (hm1 : 1 ≤ m) (hp : skp t len j < len) :
    ∃ M1 M2 M3, fX8_advance M = some M1 ∧ ¬ M1 35 2 = 0 ∧ fX8_takeItem 9 M1 = some M2 ∧ fX8_takeStop M2 = some M3 ∧ FrC M M3 ∧
    ((∃ p, p ≤ 200 ∧ M3 35 6 = nI p ∧ ∀ K, MX K t len j m → K 74 10 = nI (A 0) → K 74 11 = nI (A 3) → ∃ K2, fX12_readsItem K = some (0, K2) ∧ K2 74 6 = nI p ∧ FrI K K2) ∨
     ∃ (j2 : Nat) (A2 : Nat → Nat) (w2 : Nat) (W2 : Nat → Int32), j + 3 ≤ j2 ∧ j2 ≤ len ∧ M3 35 6 = -1 ∧ M3 35 4 = nI j2 ∧ HX 9 M3 A2 w2 W2 ∧ GH A2 w2 W2 ∧ ∀ K, MX K t len j m → K 74 10 = nI (A 0) → K 74 11 = nI (A 3) → TSm (K 79) m A w W → ∃ K2, fX12_readsItem K = some (1, K2) ∧ MX K2 t len j2 (m + 1) ∧ K2 74 10 = nI (A2 0) ∧ K2 74 11 = nI (A2 3) ∧ TSm (K2 79) (m + 1) A2 w2 W2 ∧ FrI K K2) := by
  have hl := hc.1
  have hnx := nx_le (t := t) hj
  have hsk := skp_le (t := t) hj
  obtain ⟨M1, a1, a2, a3, a4, a5, a6, a7⟩ := advance_n hc h4 hj
  have hc1 : CT M1 t len := hc.of (a6 0 (by omega)) a7
  have h61 : M1 35 6 = -1 := by rw [a6 6 (by omega)]; exact h6
  have hX1 := hX.of a7
  have hwl := wIx_le t (skp t len j) (nxT t len j)
  have hm80 : m ≤ 80 := by omega
  generalize hwd : wIx t (skp t len j) (nxT t len j) = wd at hwl
  -- the model's word
  have hword : ∀ K, MX K t len j m → fX12_wordOf K = some (if wd = 7 then -1 else nI wd) := fun K hK => by
    rw [← hwd]
    exact wordOf_n hK.1 hK.2.1 hK.2.2.2.1 (show skp t len j ≤ nxT t len j from (nd_le hsk.2).1) hnx.2.1
  -- a fault at the word itself
  have hflt : fX8_takeItem 9 M1 = some (up2 M1 35 6 (M1 35 3)) → ¬ M1 35 2 = 0 → (∀ K, MX K t len j m → K 74 10 = nI (A 0) → K 74 11 = nI (A 3) → fX12_readsItem K = some (0, K)) → ∃ M1 M2 M3, fX8_advance M = some M1 ∧ ¬ M1 35 2 = 0 ∧ fX8_takeItem 9 M1 = some M2 ∧ fX8_takeStop M2 = some M3 ∧ FrC M M3 ∧ ((∃ p, p ≤ 200 ∧ M3 35 6 = nI p ∧ ∀ K, MX K t len j m → K 74 10 = nI (A 0) → K 74 11 = nI (A 3) → ∃ K2, fX12_readsItem K = some (0, K2) ∧ K2 74 6 = nI p ∧ FrI K K2) ∨ ∃ (j2 : Nat) (A2 : Nat → Nat) (w2 : Nat) (W2 : Nat → Int32), j + 3 ≤ j2 ∧ j2 ≤ len ∧ M3 35 6 = -1 ∧ M3 35 4 = nI j2 ∧ HX 9 M3 A2 w2 W2 ∧ GH A2 w2 W2 ∧ ∀ K, MX K t len j m → K 74 10 = nI (A 0) → K 74 11 = nI (A 3) → TSm (K 79) m A w W → ∃ K2, fX12_readsItem K = some (1, K2) ∧ MX K2 t len j2 (m + 1) ∧ K2 74 10 = nI (A2 0) ∧ K2 74 11 = nI (A2 3) ∧ TSm (K2 79) (m + 1) A2 w2 W2 ∧ FrI K K2) := fun ht h0 hr => by
    have e6 : up2 M1 35 6 (M1 35 3) 35 6 = nI (skp t len j) := by rw [up2_self]; exact a2
    refine ⟨M1, _, _, a1, h0, ht, takeStop_f (by rw [e6]; exact n_ne1 (by omega)), ⟨fun c q1 q2 => by rw [up2_cc q1]; exact a7 c q1, by rw [up2_i (by decide)]; exact a6 0 (by omega)⟩, Or.inl ⟨skp t len j, by omega, e6, fun K hK h10 h11 => ⟨K, hr K hK h10 h11, hK.2.1, FrI.rfl' K⟩⟩⟩
  by_cases c7 : wd = 7
  · -- a word that is none
    have hk3 := kd_7 (len := len) (show wIx t (skp t len j) (nd t len (skp t len j)) = 7 by rw [← c7, ← hwd]; rfl)
    have hk1 : 1 ≤ kd t len (skp t len j) := by
      unfold kd
      rw [if_pos hp]
      repeat' split
      all_goals omega
    refine hflt ?_ (by rw [a4]; exact nI_ne0 (by omega) (by omega)) (fun K hK h10 h11 => ?_)
    · unfold fX8_takeItem
      dsimp only [letb]
      rw [a4, if_neg (by rw [show (5 : Int32) = nI 5 from rfl, nI_eq (by omega) (by decide)]; omega), if_neg (by rw [show (6 : Int32) = nI 6 from rfl, nI_eq (by omega) (by decide)]; omega), if_neg (by rw [show (7 : Int32) = nI 7 from rfl, nI_eq (by omega) (by decide)]; omega), if_neg (by rw [show (8 : Int32) = nI 8 from rfl, nI_eq (by omega) (by decide)]; omega), if_neg (by rw [show (9 : Int32) = nI 9 from rfl, nI_eq (by omega) (by decide)]; omega), if_neg (by rw [show (10 : Int32) = nI 10 from rfl, nI_eq (by omega) (by decide)]; omega)]
    · unfold fX12_readsItem
      rw [bnd_s (hword K hK), if_pos c7, if_pos rfl]
  · have hk := (kd_w (len := len) (show wIx t (skp t len j) (nd t len (skp t len j)) ≠ 7 by rw [show wIx t (skp t len j) (nd t len (skp t len j)) = wd from hwd]; exact c7)).1
    rw [show wIx t (skp t len j) (nd t len (skp t len j)) = wd from hwd] at hk
    rw [hk] at a4
    have hne0 : ¬ M1 35 2 = 0 := by rw [a4]; exact nI_ne0 (by omega) (by omega)
    by_cases c0 : wd = 0
    · -- rooms again
      refine hflt ?_ hne0 (fun K hK h10 h11 => ?_)
      · unfold fX8_takeItem
        dsimp only [letb]
        rw [a4, c0, if_neg (by decide), if_neg (by decide), if_neg (by decide), if_neg (by decide), if_neg (by decide), if_neg (by decide)]
      · unfold fX12_readsItem
        rw [bnd_s (hword K hK), if_neg c7, c0, if_neg (by decide), if_pos (by decide)]
        unfold jX12_readsItem_19 jX12_readsItem_31
        rw [hK.2.2.2.2, if_neg (nI_ne0 (by omega) (by omega)), if_neg (by decide)]
    · by_cases c4 : wd = 4 ∧ A 3 = 4
      · -- a fifth person
        refine hflt ?_ hne0 (fun K hK h10 h11 => ?_)
        · unfold fX8_takeItem
          dsimp only [letb]
          rw [a4, c4.1, if_neg (by decide), if_neg (by decide), if_neg (by decide), if_pos (by decide), show M1 9 2 = nI (A 3) from hX1.1.2.2.1, c4.2, if_neg (by decide)]
        · unfold fX12_readsItem
          rw [bnd_s (hword K hK), if_neg c7, c4.1, if_neg (by decide), if_neg (by decide)]
          unfold jX12_readsItem_19 jX12_readsItem_31
          rw [hK.2.2.2.2, if_neg (nI_ne0 (by omega) (by omega)), if_pos rfl, if_pos (by decide), h11, c4.2, if_pos (by decide)]
      · have hA3 := hG.2.2.1
        have hnxl := hnx.2.1
        have hrst : RST t len wd M1 (nxT t len j) m A w W := by
          rcases (show wd = 1 ∨ wd = 2 ∨ wd = 3 ∨ wd = 4 ∨ wd = 5 ∨ wd = 6 by omega) with q | q | q | q | q | q
          · rw [q] at a4 ⊢; exact r_door hc1 a3 hnxl h61 a4 hX1 hG hm80
          · rw [q] at a4 ⊢; exact r_cat hc1 a3 hnxl h61 a4 hX1 hG hm80
          · rw [q] at a4 ⊢; exact r_sill hc1 a3 hnxl h61 a4 hX1 hG hm80
          · rw [q] at a4 ⊢; exact r_person hc1 a3 hnxl h61 a4 hX1 hG hm80 (by omega)
          · rw [q] at a4 ⊢; exact r_wish hc1 a3 hnxl h61 a4 hX1 hG hm80
          · rw [q] at a4 ⊢; exact r_law hc1 a3 hnxl h61 a4 hX1 hG hm80
        have hri : ∀ K, MX K t len j m → K 74 11 = nI (A 3) → fX12_readsItem K = jX12_readsItem_49 (nI wd) K := fun K hK h11 => by
          unfold fX12_readsItem
          rw [bnd_s (hword K hK), if_neg c7, if_neg (n_ne1 (by omega)), if_neg (nI_ne0 (by omega) (by omega))]
          unfold jX12_readsItem_19 jX12_readsItem_31
          rw [hK.2.2.2.2, if_neg (nI_ne0 (by omega) (by omega)), if_pos rfl]
          by_cases q4 : wd = 4
          · rw [if_pos (by rw [q4]; rfl), h11, if_neg (by rw [show (4 : Int32) = nI 4 from rfl, nI_eq (by omega) (by decide)]; omega)]
          · rw [if_neg (by rw [show (4 : Int32) = nI 4 from rfl, nI_eq (by omega) (by decide)]; exact q4)]
        obtain ⟨M2, m1, ⟨m2, m2'⟩, hcase⟩ := hrst
        have hFr : FrC M M2 := ⟨fun c q1 q2 => by rw [m2 c q1 q2]; exact a7 c q1, by rw [m2']; exact a6 0 (by omega)⟩
        rcases hcase with ⟨p, p1, p2, p3⟩ | ⟨j9, A2, w2, W2, q1, q2, q3, q4, q5, q6, q7, q8, q9⟩
        · refine ⟨M1, M2, M2, a1, hne0, m1, takeStop_f (by rw [p2]; exact n_ne1 (by omega)), hFr, Or.inl ⟨p, p1, p2, fun K hK h10 h11 => ?_⟩⟩
          obtain ⟨K6, k1, k2, k3, k4, k5, k6, -⟩ := rd49 (wd := wd) hK hj hm80 (by omega)
          obtain ⟨K9, n1, n2, n3⟩ := p3 K6 k1 (by rw [k4 10 (by omega)]; exact h10) (by rw [k4 11 (by omega)]; exact h11)
          exact ⟨K9, by rw [hri K hK h11]; exact k6 K9 n1, n2, FrI.trans ⟨fun i hi => k4 i (by omega), k5⟩ n3.toI⟩
        · have hc2 : CT M2 t len := hc1.congr m2' (m2 36 (by decide) (by omega))
          obtain ⟨M3, s1, s2, s3, s4, s5, s6⟩ := takeStop_n hc2 q4 q2 q3
          have hFr3 : FrC M M3 := ⟨fun c r1 r2 => by rw [s6 c r1]; exact hFr.1 c r1 r2, by rw [s5]; exact hFr.2⟩
          have hn9 := nx_le (t := t) q2
          by_cases ck : kd t len (skp t len j9) = 3
          · have hp9 := (kd_3.mp ck).1
            have hjj := hnx.2.2 hp
            refine ⟨M1, M2, M3, a1, hne0, m1, s1, hFr3, Or.inr ⟨nxT t len j9, A2, w2, W2, by have := hn9.2.2 hp9; omega, hn9.2.1, s2 ck, s4, q5.of s6, q6, fun K hK h10 h11 hTS => ?_⟩⟩
            obtain ⟨K6, k1, k2, k3, k4, k5, -, k7⟩ := rd49 (wd := wd) hK hj hm80 (by omega)
            have h10' : K6 74 10 = nI (A 0) := by rw [k4 10 (by omega)]; exact h10
            have h11' : K6 74 11 = nI (A 3) := by rw [k4 11 (by omega)]; exact h11
            obtain ⟨K9, n1, n2, n3, n4⟩ := q9 K6 k1 h10' h11' k2
            obtain ⟨K2, o1, o2, o3, o4, o5, o6⟩ := (k7 K9 j9 n1 n2 q2).2 ck (A2 0) (A 3) (by rw [if_neg c0, n3.2.1 10 (by omega), h10', q7]) (by rw [n3.2.1 11 (by omega)]; exact h11')
            refine ⟨K2, by rw [hri K hK h11]; exact o1, o2, o3, by rw [q8]; exact o4, ?_, FrI.trans ⟨fun i hi => k4 i (by omega), k5⟩ (FrI.trans n3.toI o5)⟩
            rw [o6]
            exact hTS.step (fun x hx => by rw [n3.1 x (by omega)]; exact k3 x hx) n4
          · have hs9 := sk200 (t := t) hl q2
            refine ⟨M1, M2, M3, a1, hne0, m1, s1, hFr3, Or.inl ⟨skp t len j9, hs9, s3 ck, fun K hK h10 h11 => ?_⟩⟩
            obtain ⟨K6, k1, k2, k3, k4, k5, -, k7⟩ := rd49 (wd := wd) hK hj hm80 (by omega)
            obtain ⟨K9, n1, n2, n3, n4⟩ := q9 K6 k1 (by rw [k4 10 (by omega)]; exact h10) (by rw [k4 11 (by omega)]; exact h11) k2
            exact ⟨K9, by rw [hri K hK h11]; exact (k7 K9 j9 n1 n2 q2).1 ck, n2.2.1, FrI.trans ⟨fun i hi => k4 i (by omega), k5⟩ n3.toI⟩
/-- both go through the items behind the first -/
theorem loop_n {t : Nat → Nat} {len : Nat} : ∀ (f j i m : Nat) (M : Mem) (A : Nat → Nat) (w : Nat) (W : Nat → Int32), CT M t len → M 35 4 = nI j → M 35 6 = -1 → HX 9 M A w W → GH A w W → j ≤ len → 3 * (i + 1) ≤ j → 3 * m ≤ j → 1 ≤ m → len - j < f →
    ∃ v M2, (∀ n, f ≤ n → iter (sX8_parse_43 9) n (nI i, M) = some (v, M2)) ∧ FrC M M2 ∧
    ((v = -1 ∧ ∃ (m2 : Nat) (A2 : Nat → Nat) (w2 : Nat) (W2 : Nat → Int32), HX 9 M2 A2 w2 W2 ∧ GH A2 w2 W2 ∧ m2 ≤ 80 ∧ ∀ K, MX K t len j m → K 74 10 = nI (A 0) → K 74 11 = nI (A 3) → TSm (K 79) m A w W → ∃ K2, (∀ n, f ≤ n → iter sX12_fault_26 n (b2i (decide (skp t len j < len)), K) = some (-1, K2)) ∧ K2 74 9 = nI m2 ∧ TSm (K2 79) m2 A2 w2 W2 ∧ FrI K K2) ∨
     ∃ p, p ≤ 200 ∧ v = nI p ∧ ∀ K, MX K t len j m → K 74 10 = nI (A 0) → K 74 11 = nI (A 3) → TSm (K 79) m A w W → ∃ K2, (∀ n, f ≤ n → iter sX12_fault_26 n (b2i (decide (skp t len j < len)), K) = some (nI p, K2)) ∧ FrI K K2)
  | 0, j, i, m, M, A, w, W, _, _, _, _, _, _, _, _, _, hf => by omega
  | f + 1, j, i, m, M, A, w, W, hc, h4, h6, hX, hG, hj, hi, hm, hm1, hf => by
    have hl := hc.1
    have hsk := skp_le (t := t) hj
    have c3 := hc.2.2.1
    by_cases hp : skp t len j < len
    · obtain ⟨M1, M2, M3, a1, a2, a3, a4, a5, hcase⟩ := item_n hc h4 hj h6 hX hG hm hm1 hp
      have hst : sX8_parse_43 9 (nI i, M) = some (.inl (nI (i + 1), M3)) := by
        unfold sX8_parse_43
        dsimp only
        unfold bX8_parse_43
        rw [c3, if_neg (by rw [nI_leI (by omega) (by omega)]; omega), if_pos h6, bnd_s a1, if_neg a2, bnd_s a3, bnd_s a4, nI_1]
      have hd : b2i (decide (skp t len j < len)) = 1 := by rw [decide_eq_true hp]; rfl
      rcases hcase with ⟨p, p1, p2, p3⟩ | ⟨j2, A2, w2, W2, q1, q2, q3, q4, q5, q6, q7⟩
      · refine ⟨nI p, M3, fun n hn => ?_, a5, Or.inr ⟨p, p1, rfl, fun K hK h10 h11 _ => ?_⟩⟩
        · obtain ⟨n1, rfl⟩ : ∃ n1, n = n1 + 2 := ⟨n - 2, by omega⟩
          rw [iter_inl hst]
          refine iter_inr ?_
          unfold sX8_parse_43
          dsimp only
          unfold bX8_parse_43
          rw [if_neg (show ¬ M3 35 6 = -1 by rw [p2]; exact n_ne1 (by omega)), p2]
          split <;> rfl
        · obtain ⟨K2, k1, k2, k3⟩ := p3 K hK h10 h11
          refine ⟨K2, fun n hn => ?_, k3⟩
          obtain ⟨n1, rfl⟩ : ∃ n1, n = n1 + 1 := ⟨n - 1, by omega⟩
          refine iter_inr ?_
          unfold sX12_fault_26
          dsimp only
          unfold bX12_fault_26
          rw [hd, if_neg (by decide), bnd2_s k1, if_pos rfl, k2]
      · obtain ⟨v, M4, b1, b2, b3⟩ := loop_n f j2 (i + 1) (m + 1) M3 A2 w2 W2 (hc.congr a5.2 (a5.1 36 (by decide) (by omega))) q4 q3 q5 q6 q2 (by omega) (by omega) (by omega) (by omega)
        have hmstep : ∀ K K2, fX12_readsItem K = some (1, K2) → MX K2 t len j2 (m + 1) → sX12_fault_26 (b2i (decide (skp t len j < len)), K) = some (.inl (b2i (decide (skp t len j2 < len)), K2)) := fun K K2 k1 k2 => by
          have hsk2 := skp_le (t := t) q2
          unfold sX12_fault_26
          dsimp only
          unfold bX12_fault_26
          rw [hd, if_neg (by decide), bnd2_s k1, if_neg (by decide), k2.1.2.2.1, k2.2.1]
          by_cases c : skp t len j2 < len
          · rw [if_neg (by rw [nI_leI (by omega) (by omega)]; omega), decide_eq_true c]; rfl
          · rw [if_pos (by rw [nI_leI (by omega) (by omega)]; omega), decide_eq_false c]; rfl
        refine ⟨v, M4, fun n hn => ?_, ⟨fun c r1 r2 => by rw [b2.1 c r1 r2]; exact a5.1 c r1 r2, by rw [b2.2]; exact a5.2⟩, ?_⟩
        · obtain ⟨n1, rfl⟩ : ∃ n1, n = n1 + 1 := ⟨n - 1, by omega⟩
          rw [iter_inl hst]
          exact b1 n1 (by omega)
        · rcases b3 with ⟨rfl, m2, A3, w3, W3, d1, d2, d3, d4⟩ | ⟨p, p1, rfl, p3⟩
          · refine Or.inl ⟨rfl, m2, A3, w3, W3, d1, d2, d3, fun K hK h10 h11 hTS => ?_⟩
            obtain ⟨K2, k1, k2, k3, k4, k5, k6⟩ := q7 K hK h10 h11 hTS
            obtain ⟨K3, l1, l2, l3, l4⟩ := d4 K2 k2 k3 k4 k5
            refine ⟨K3, fun n hn => ?_, l2, l3, k6.trans l4⟩
            obtain ⟨n1, rfl⟩ : ∃ n1, n = n1 + 1 := ⟨n - 1, by omega⟩
            rw [iter_inl (hmstep K K2 k1 k2)]
            exact l1 n1 (by omega)
          · refine Or.inr ⟨p, p1, rfl, fun K hK h10 h11 hTS => ?_⟩
            obtain ⟨K2, k1, k2, k3, k4, k5, k6⟩ := q7 K hK h10 h11 hTS
            obtain ⟨K3, l1, l2⟩ := p3 K2 k2 k3 k4 k5
            refine ⟨K3, fun n hn => ?_, k6.trans l2⟩
            obtain ⟨n1, rfl⟩ : ∃ n1, n = n1 + 1 := ⟨n - 1, by omega⟩
            rw [iter_inl (hmstep K K2 k1 k2)]
            exact l1 n1 (by omega)
    · -- the text ends
      obtain ⟨M1, a1, a2, a3, a4, a5, a6, a7⟩ := advance_n hc h4 hj
      have hk0 : kd t len (skp t len j) = 0 := by unfold kd; rw [if_neg hp]
      refine ⟨-1, M1, fun n hn => ?_, ⟨fun c r1 _ => a7 c r1, a6 0 (by omega)⟩, Or.inl ⟨rfl, m, A, w, W, hX.of a7, hG, by omega, fun K hK h10 h11 hTS => ⟨K, fun n hn => ?_, hK.2.2.2.2, hTS, FrI.rfl' K⟩⟩⟩
      · obtain ⟨n1, rfl⟩ : ∃ n1, n = n1 + 1 := ⟨n - 1, by omega⟩
        refine iter_inr ?_
        unfold sX8_parse_43
        dsimp only
        unfold bX8_parse_43
        rw [c3, if_neg (by rw [nI_leI (by omega) (by omega)]; omega), if_pos h6, bnd_s a1, a4, hk0, if_pos (by decide)]
      · obtain ⟨n1, rfl⟩ : ∃ n1, n = n1 + 1 := ⟨n - 1, by omega⟩
        refine iter_inr ?_
        unfold sX12_fault_26
        dsimp only
        unfold bX12_fault_26
        rw [decide_eq_false hp, if_pos (by decide)]
/-- the whole text: parsed by the class, faulted by the model -/
theorem parse_n {I : Mem} {t : Nat → Nat} {len : Nat} (hc : CT I t len) :
    ∃ v M2, fX8_parse 9 I = some (v, M2) ∧ FrC I M2 ∧
    ((v = -1 ∧ ∃ (m2 : Nat) (A2 : Nat → Nat) (w2 : Nat) (W2 : Nat → Int32), HX 9 M2 A2 w2 W2 ∧ GH A2 w2 W2 ∧ m2 ≤ 80 ∧ ∀ K, MT K t len → ∃ K2, fX12_fault K = some (-1, K2) ∧ K2 74 9 = nI m2 ∧ TSm (K2 79) m2 A2 w2 W2 ∧ FrI K K2) ∨
     ∃ p, p ≤ 200 ∧ v = nI p ∧ ∀ K, MT K t len → ∃ K2, fX12_fault K = some (nI p, K2) ∧ FrI K K2) := by
  have hl := hc.1
  generalize hI2 : up2 (up2 I 35 4 (0 : Int32)) 35 6 (-1 : Int32) = I2
  have e4 : I2 35 4 = nI 0 := by rw [← hI2, up2_i (by decide), up2_self]; rfl
  have e6 : I2 35 6 = -1 := by rw [← hI2, up2_self]
  have e0 : I2 35 0 = I 35 0 := by rw [← hI2, up2_i (by decide), up2_i (by decide)]
  have ec : ∀ c, c ≠ 35 → I2 c = I c := fun c q => by rw [← hI2, up2_cc q, up2_cc q]
  have hc2 : CT I2 t len := hc.of e0 ec
  obtain ⟨M1, a1, a2, a3, a4, a5, a6, a7⟩ := advance_n hc2 e4 (Nat.zero_le _)
  have hsk := skp_le (t := t) (Nat.zero_le len)
  have hnx := nx_le (t := t) (Nat.zero_le len)
  have hc1 : CT M1 t len := hc2.of (a6 0 (by omega)) a7
  have h61 : M1 35 6 = -1 := by rw [a6 6 (by omega)]; exact e6
  have hfr1 : FrC I M1 := ⟨fun c q1 _ => by rw [a7 c q1]; exact ec c q1, by rw [a6 0 (by omega)]; exact e0⟩
  have hwl := wIx_le t (skp t len 0) (nxT t len 0)
  generalize hwd : wIx t (skp t len 0) (nxT t len 0) = wd at hwl
  -- the model's start
  have hstart : ∀ K, MT K t len → ∃ K6, MX K6 t len 0 0 ∧ K6 74 11 = nI 0 ∧ FrI K K6 ∧ fX12_wordOf K6 = some (if wd = 7 then -1 else nI wd) ∧ fX12_fault K = iter sX12_fault_26 FU ((1 : Int32), K6) := fun K hT => by
    generalize hB : up2 (up2 (up2 (up2 K 74 5 (0 : Int32)) 74 9 (0 : Int32)) 74 10 (0 : Int32)) 74 11 (0 : Int32) = B
    have b5 : B 74 5 = nI 0 := by rw [← hB, up2_i (by decide), up2_i (by decide), up2_i (by decide), up2_self]; rfl
    have b9 : B 74 9 = nI 0 := by rw [← hB, up2_i (by decide), up2_i (by decide), up2_self]; rfl
    have b11 : B 74 11 = nI 0 := by rw [← hB, up2_self]; rfl
    have bi : ∀ i, i ≠ 5 → i ≠ 9 → i ≠ 10 → i ≠ 11 → B 74 i = K 74 i := fun i q1 q2 q3 q4 => by rw [← hB, up2_i q4, up2_i q3, up2_i q2, up2_i q1]
    have bc : ∀ c, c ≠ 74 → B c = K c := fun c q => by rw [← hB, up2_cc q, up2_cc q, up2_cc q, up2_cc q]
    have hTB : MT B t len := hT.congr (bi 3 (by decide) (by decide) (by decide) (by decide)) (bc 77 (by decide))
    obtain ⟨K6, y1, y2, y3, y4, y5, y6⟩ := token_n hTB b5 (Nat.zero_le _)
    have hX6 : MX K6 t len 0 0 := ⟨hTB.congr (y5 3 (by omega)) (y6 77 (by decide)), y2, y3, y4, by rw [y5 9 (by omega)]; exact b9⟩
    refine ⟨K6, hX6, by rw [y5 11 (by omega)]; exact b11, ⟨fun i hi => by rw [y5 i (by omega)]; exact bi i (by omega) (by omega) (by omega) (by omega), fun c q1 _ => by rw [y6 c q1]; exact bc c q1⟩, ?_, ?_⟩
    · rw [← hwd]
      exact wordOf_n hX6.1 hX6.2.1 hX6.2.2.2.1 (show skp t len 0 ≤ nxT t len 0 from (nd_le hsk.2).1) hnx.2.1
    · unfold fX12_fault
      dsimp only [letb]
      rw [hB, bnd_s y1]
  have hmf : ∀ K6 K9 p, fX12_readsItem K6 = some (0, K9) → K9 74 6 = nI p → iter sX12_fault_26 FU ((1 : Int32), K6) = some (nI p, K9) := fun K6 K9 p k1 k2 => by
    refine iter_inr (n := 999999) ?_
    unfold sX12_fault_26
    dsimp only
    unfold bX12_fault_26
    rw [if_neg (by decide), bnd2_s k1, if_pos rfl, k2]
  have hparse0 : fX8_parse 9 I = if M1 35 2 = (4 : Int32) then (bnd2 (fX8_takeNumber (1 : Int32) (5 : Int32) M1) fun v_6 I_7 => bnd (fX4_empty 9 v_6 I_7) fun I_9 => bnd (fX8_takeStop I_9) fun I_11 => iter (sX8_parse_43 9) FU ((0 : Int32), I_11)) else some (M1 35 3, M1) := by
    unfold fX8_parse
    dsimp only [letb]
    rw [hI2, bnd_s a1]
  rw [hparse0]
  by_cases c0 : wd = 0
  · have hw7 : wIx t (skp t len 0) (nd t len (skp t len 0)) = wd := hwd
    obtain ⟨hk, hp⟩ := kd_w (len := len) (show wIx t (skp t len 0) (nd t len (skp t len 0)) ≠ 7 by rw [hw7]; omega)
    rw [hw7, c0] at hk
    rw [hk] at a4
    rw [if_pos (by rw [a4]; rfl)]
    have hn0 := hnx.2.2 hp
    obtain ⟨M2, b1, b2, b3, b4, b5, b6⟩ := takeNum_n (lo := 1) (hb := 6) (x2 := 5) hc1 a3 hnx.2.1 h61 (by decide) (by decide)
    have hrd := fun (K : Mem) (hK : MX K t len (nxT t len 0) 0) => reads_n (k := 0) (lo := 1) (hb := 6) (x3 := 5) (u := -1) hK hnx.2.1 (by omega) (by omega) (by decide) (by decide)
    have hfr2 : FrC I M2 := ⟨fun c q1 q2 => by rw [b6 c q1]; exact hfr1.1 c q1 q2, by rw [b5]; exact hfr1.2⟩
    have hri : ∀ K6, MX K6 t len 0 0 → fX12_wordOf K6 = some (if wd = 7 then -1 else nI wd) → fX12_readsItem K6 = jX12_readsItem_49 (nI 0) K6 := fun K6 hK6 hw6 => by
      have hw6' : fX12_wordOf K6 = some (nI 0) := by rw [hw6, if_neg (show ¬ wd = 7 by omega), c0]
      unfold fX12_readsItem
      rw [bnd_s hw6', if_neg (by decide), if_pos (by decide)]
      unfold jX12_readsItem_19 jX12_readsItem_31
      rw [hK6.2.2.2.2, if_pos (by decide), if_pos rfl, if_neg (by decide)]
    have hmr : ∀ K : Mem, ∀ z K2, fX12_reads (nI 0) (nI 1) 5 (-1) K = some (b2i z, K2) → fX12_readsRest (nI 0) K = some (b2i z, K2) := fun K z K2 hz => by
      unfold fX12_readsRest
      dsimp only [letb]
      rw [if_pos (by decide), bnd2_s (show fX12_reads (0 : Int32) (1 : Int32) 5 (-1) K = some (b2i z, K2) from hz), chk_t (b2i_zb z)]
    -- a fault is told by the loop's first look
    have hend : ∀ M3 p, p ≤ 200 → M3 35 6 = nI p → iter (sX8_parse_43 9) FU ((0 : Int32), M3) = some (nI p, M3) := fun M3 p hp2 h6 => by
      refine iter_inr (n := 999999) ?_
      unfold sX8_parse_43
      dsimp only
      unfold bX8_parse_43
      rw [if_neg (show ¬ M3 35 6 = -1 by rw [h6]; exact n_ne1 (by omega)), h6]
      split <;> rfl
    cases hnm : nmO t len (nxT t len 0) 1 6 with
    | none =>
      obtain ⟨d1, d2⟩ := b2 hnm
      obtain ⟨M3, f1, f2, f3⟩ := empty_hx (b := 9) (n := 1) M2 (Or.inr rfl)
      have hs2 := sk200 (t := t) hl hnx.2.1
      have g6 : M3 35 6 = nI (skp t len (nxT t len 0)) := by rw [f3 35 (by omega)]; exact d2
      refine ⟨nI (skp t len (nxT t len 0)), M3, ?_, ⟨fun c q1 q2 => by rw [f3 c (by omega)]; exact hfr2.1 c q1 q2, by rw [f3 35 (by omega)]; exact hfr2.2⟩, Or.inr ⟨_, hs2, rfl, fun K hT => ?_⟩⟩
      · rw [bnd2_s (show fX8_takeNumber (1 : Int32) (5 : Int32) M1 = some (nI 1, M2) from d1), bnd_s f1, bnd_s (takeStop_f (by rw [g6]; exact n_ne1 (by omega)))]
        exact hend M3 _ hs2 g6
      · obtain ⟨K6, k1, k2, k3, k4, k5⟩ := hstart K hT
        obtain ⟨K7, l1, l2, l3, l4, l5, l6, -⟩ := rd49 (wd := 0) k1 (Nat.zero_le _) (by omega) (by omega)
        refine ⟨K7, ?_, k3.trans ⟨fun i hi => l4 i (by omega), l5⟩⟩
        rw [k5]
        exact hmf K6 K7 _ (by rw [hri K6 k1 k4]; exact l6 K7 (hmr K7 false K7 ((hrd K7 l1).1 hnm))) l1.2.1
    | some v =>
      obtain ⟨d1, d2⟩ := b1 v hnm
      obtain ⟨n1, n2, n3, n4⟩ := nmO_some hnm
      have hadv := nm_adv hnx.2.1 hnm
      obtain ⟨M3, f1, f2, f3⟩ := empty_hx (b := 9) (n := v) M2 (Or.inr rfl)
      have M35 : M3 35 = M2 35 := f3 35 (by omega)
      have hc3 : CT M3 t len := (hc1.of b5 b6).congr (by rw [M35]) (f3 36 (by omega))
      obtain ⟨M4, s1, s2, s3, s4, s5, s6⟩ := takeStop_n hc3 (show M3 35 4 = nI (nxT t len (nxT t len 0)) by rw [M35]; exact b4) hadv.2 (by rw [M35]; exact d2)
      have hfr4 : FrC I M4 := ⟨fun c q1 q2 => by rw [s6 c q1, f3 c (by omega)]; exact hfr2.1 c q1 q2, by rw [s5, M35]; exact hfr2.2⟩
      rw [bnd2_s (show fX8_takeNumber (1 : Int32) (5 : Int32) M1 = some (nI v, M2) from d1), bnd_s f1, bnd_s s1]
      have hs9 := nx_le (t := t) hadv.2
      by_cases ck : kd t len (skp t len (nxT t len (nxT t len 0))) = 3
      · have hp9 := (kd_3.mp ck).1
        have hs9' := hs9.2.2 hp9
        obtain ⟨u, M5, g1, g2, g3⟩ := loop_n 300 (nxT t len (nxT t len (nxT t len 0))) 0 1 M4 (newA v) 0 (fun _ => -1) (hc3.of s5 s6) s4 (s2 ck) (f2.of s6) (gh_new n3 (by omega)) hs9.2.1 (by omega) (by omega) (by omega) (by omega)
        -- the model's first item
        have hm1 : ∀ K, MT K t len → ∃ K7, MX K7 t len (nxT t len (nxT t len (nxT t len 0))) 1 ∧ K7 74 10 = nI (newA v 0) ∧ K7 74 11 = nI (newA v 3) ∧ TSm (K7 79) 1 (newA v) 0 (fun _ => -1) ∧ FrI K K7 ∧ ∀ u K8, iter sX12_fault_26 999999 (b2i (decide (skp t len (nxT t len (nxT t len (nxT t len 0))) < len)), K7) = some (u, K8) → fX12_fault K = some (u, K8) := fun K hT => by
          obtain ⟨K6, k1, k2, k3, k4, k5⟩ := hstart K hT
          obtain ⟨K7, l1, l2, l3, l4, l5, -, l7⟩ := rd49 (wd := 0) k1 (Nat.zero_le _) (by omega) (by omega)
          obtain ⟨K9, r1, r2, r3, r4, r5, r6⟩ := ((hrd K7 l1).2 v hnm).2 (n_ne1 (by omega))
          obtain ⟨K2, o1, o2, o3, o4, o5, o6⟩ := (l7 K9 _ (hmr K7 true K9 r1) r2 hadv.2).2 ck v 0 (by rw [if_pos rfl]; exact r3) (by rw [r5 11 (by omega), l4 11 (by omega)]; exact k2)
          refine ⟨K2, o2, o3, o4, ?_, k3.trans (FrI.trans ⟨fun i hi => l4 i (by omega), l5⟩ (FrI.trans ⟨fun i hi => r5 i (by omega), r6⟩ o5)), fun u K8 hu => ?_⟩
          · rw [o6]
            intro N hN
            have q0 : N 79 (4 * 0) = nI 0 := by rw [hN _ (by omega), r4 _ (by omega)]; exact l2
            have q1 : N 79 (4 * 0 + 1) = nI v := by rw [hN _ (by omega)]; exact r3
            obtain ⟨N2, w1, w2, w3, w4⟩ := clear_hm (n := v) N
            have e : telln 1 N = some N2 := by
              rw [telln]
              show fX12_tell (nI (4 * 0)) N = some N2
              rw [tell_d (by omega) q0 q1 rfl, if_pos (by decide), bnd_s w1]
            refine ⟨⟨N2, e, w2, w3, w4⟩, fun i hi => ?_⟩
            rcases (show i = 0 ∨ i = 1 by omega) with rfl | rfl
            · exact ⟨N, rfl, fun _ _ => rfl⟩
            · exact ⟨N2, e, w4⟩
          · rw [k5, show FU = 999999 + 1 from rfl, iter_inl (show sX12_fault_26 ((1 : Int32), K6) = some (.inl (b2i (decide (skp t len (nxT t len (nxT t len (nxT t len 0))) < len)), K2)) from ?_)]
            · exact hu
            · have hsk2 := skp_le (t := t) hs9.2.1
              unfold sX12_fault_26
              dsimp only
              unfold bX12_fault_26
              rw [if_neg (by decide), bnd2_s (show fX12_readsItem K6 = some (1, K2) by rw [hri K6 k1 k4]; exact o1), if_neg (by decide), o2.1.2.2.1, o2.2.1]
              by_cases c : skp t len (nxT t len (nxT t len (nxT t len 0))) < len
              · rw [if_neg (by rw [nI_leI (by omega) (by omega)]; omega), decide_eq_true c]; rfl
              · rw [if_pos (by rw [nI_leI (by omega) (by omega)]; omega), decide_eq_false c]; rfl
        refine ⟨u, M5, g1 FU (by decide), ⟨fun c q1 q2 => by rw [g2.1 c q1 q2]; exact hfr4.1 c q1 q2, by rw [g2.2]; exact hfr4.2⟩, ?_⟩
        rcases g3 with ⟨rfl, m2, A2, w2, W2, i1, i2, i3, i4⟩ | ⟨p, p1, rfl, p3⟩
        · refine Or.inl ⟨rfl, m2, A2, w2, W2, i1, i2, i3, fun K hT => ?_⟩
          obtain ⟨K7, l1, l2, l3, l4, l5, l6⟩ := hm1 K hT
          obtain ⟨K8, o1, o2, o3, o4⟩ := i4 K7 l1 l2 l3 l4
          exact ⟨K8, l6 _ K8 (o1 999999 (by decide)), o2, o3, l5.trans o4⟩
        · refine Or.inr ⟨p, p1, rfl, fun K hT => ?_⟩
          obtain ⟨K7, l1, l2, l3, l4, l5, l6⟩ := hm1 K hT
          obtain ⟨K8, o1, o2⟩ := p3 K7 l1 l2 l3 l4
          exact ⟨K8, l6 _ K8 (o1 999999 (by decide)), l5.trans o2⟩
      · have hs3 := sk200 (t := t) hl hadv.2
        refine ⟨nI (skp t len (nxT t len (nxT t len 0))), M4, hend M4 _ hs3 (s3 ck), hfr4, Or.inr ⟨_, hs3, rfl, fun K hT => ?_⟩⟩
        obtain ⟨K6, k1, k2, k3, k4, k5⟩ := hstart K hT
        obtain ⟨K7, l1, l2, l3, l4, l5, -, l7⟩ := rd49 (wd := 0) k1 (Nat.zero_le _) (by omega) (by omega)
        obtain ⟨K9, r1, r2, r3, r4, r5, r6⟩ := ((hrd K7 l1).2 v hnm).2 (n_ne1 (by omega))
        refine ⟨K9, ?_, k3.trans (FrI.trans ⟨fun i hi => l4 i (by omega), l5⟩ ⟨fun i hi => r5 i (by omega), r6⟩)⟩
        rw [k5]
        exact hmf K6 K9 _ (by rw [hri K6 k1 k4]; exact (l7 K9 _ (hmr K7 true K9 r1) r2 hadv.2).1 ck) r2.2.1
  · -- no rooms ahead
    have hk4 : kd t len (skp t len 0) ≠ 4 := by
      by_cases c7 : wd = 7
      · have := kd_7 (len := len) (show wIx t (skp t len 0) (nd t len (skp t len 0)) = 7 by rw [← c7, ← hwd]; rfl)
        omega
      · have hw7 : wIx t (skp t len 0) (nd t len (skp t len 0)) = wd := hwd
        have := (kd_w (len := len) (show wIx t (skp t len 0) (nd t len (skp t len 0)) ≠ 7 by rw [hw7]; exact c7)).1
        rw [hw7] at this
        omega
    have hkd : kd t len (skp t len 0) < 2 ^ 31 := by
      unfold kd
      have := wIx_le t (skp t len 0) (nd t len (skp t len 0))
      repeat' split
      all_goals omega
    rw [if_neg (by rw [a4, show (4 : Int32) = nI 4 from rfl, nI_eq hkd (by decide)]; exact hk4), a2]
    refine ⟨nI (skp t len 0), M1, rfl, hfr1, Or.inr ⟨skp t len 0, by omega, rfl, fun K hT => ?_⟩⟩
    obtain ⟨K6, k1, k2, k3, k4, k5⟩ := hstart K hT
    refine ⟨K6, ?_, k3⟩
    rw [k5]
    refine hmf K6 K6 _ ?_ k1.2.1
    unfold fX12_readsItem
    rw [bnd_s k4]
    by_cases c7 : wd = 7
    · rw [if_pos c7, if_pos rfl]
    · rw [if_neg c7, if_neg (n_ne1 (by omega)), if_neg (nI_ne0 (by omega) (by omega))]
      unfold jX12_readsItem_19 jX12_readsItem_31
      rw [k1.2.2.2.2, if_pos (by decide), if_neg (by decide)]
theorem ok_read {T : Nat} {I : Mem} (h : Sim T I) : OK T I fX11_read fX12_read := by
  obtain ⟨len, x1, x2, x3, x4⟩ := id h.2.2.2.1
  generalize ht : (fun j => (I 36 j).toNatClampNeg) = t
  have htx : ∀ j, j < len → I 36 j = nI (t j) ∧ t j < 256 := fun j hj => by
    obtain ⟨-, x, hx, e⟩ := x4 j hj
    rw [← ht]
    dsimp only
    rw [e, nI_clamp (by omega)]
    exact ⟨rfl, hx⟩
  have hc : CT I t len := ⟨x1, fun x hx => (htx x hx).2, x2, fun x hx => (htx x hx).1⟩
  obtain ⟨v, M2, a1, ⟨a2, a2'⟩, hcase⟩ := parse_n hc
  have h36 : M2 36 = I 36 := a2 36 (by decide) (by omega)
  rcases hcase with ⟨rfl, m2, A2, w2, W2, b1, b2, b3, b4⟩ | ⟨p, p1, rfl, p3⟩
  · obtain ⟨J, j1, j2, j3⟩ := copy_n (b0 := 1) (b1 := 9) M2 (by omega)
    have hXJ : HX 1 J A2 w2 W2 := by
      obtain ⟨⟨y0, y1, y2, y3, y4, y5, y6, y7⟩, xd, xp, xt, xu, xw⟩ := b1
      have z0 := j2 0 (by decide)
      refine ⟨⟨(z0 0 (by decide)).trans y0, (z0 1 (by decide)).trans y1, (z0 2 (by decide)).trans y2, (z0 3 (by decide)).trans y3, (z0 4 (by decide)).trans y4, (z0 5 (by decide)).trans y5, (z0 6 (by decide)).trans y6, (z0 7 (by decide)).trans y7⟩, fun q hq => (j2 1 (by decide) q hq).trans (xd q hq), fun q hq => (j2 2 (by decide) q hq).trans (xp q hq), fun q hq => (j2 3 (by decide) q hq).trans (xt q hq), fun q hq => (j2 4 (by decide) q hq).trans (xu q hq), fun q hq => (j2 5 (by decide) q hq).trans (xw q hq)⟩
    have eJ : ∀ c, c ≠ 35 → (c = 0 ∨ 17 ≤ c) → J c = I c := fun c q1 q2 => by rw [j3 c (by omega)]; exact a2 c q1 (by omega)
    have hTJ : MT J t len := ⟨x1, fun x hx => (htx x hx).2, by rw [eJ 74 (by decide) (by omega)]; exact x3, fun x hx => by rw [eJ 77 (by decide) (by omega), ← (x4 x hx).1]; exact (htx x hx).1⟩
    obtain ⟨K2, k1, k2, k3, k4⟩ := b4 J hTJ
    obtain ⟨⟨K3, l1, l2, l3, l4⟩, l5⟩ := k3 K2 (fun _ _ => rfl)
    have hloop : iter sX12_read_17 FU ((0 : Int32), K2) = some (nI (A2 3), K3) := by
      have key := iter_invF (s := sX12_read_17) (fun i x => x.1 = nI i ∧ telln i K2 = some x.2) (fun r => r = (nI (A2 3), K3)) m2 (FU_lt (by omega)) (x := ((0 : Int32), K2)) ⟨rfl, rfl⟩ (fun i x hi hx => ?_) (fun x hx => ?_)
      · obtain ⟨r, r1, rfl⟩ := key
        exact r1
      · obtain ⟨y2, N⟩ := x
        dsimp only at hx
        obtain ⟨rfl, hN⟩ := hx
        obtain ⟨N1, n1, n2⟩ := l5 i (by omega)
        rw [hN] at n1
        cases n1
        obtain ⟨N2, n3, n4⟩ := l5 (i + 1) (by omega)
        refine ⟨(nI (i + 1), N2), ?_, rfl, n3⟩
        rw [telln, bnd_s hN] at n3
        unfold sX12_read_17
        dsimp only
        unfold bX12_read_17
        rw [n2 74 (by decide), k2, if_neg (by rw [nI_leI (by omega) (by omega)]; omega), show (4 : Int32) * nI i = nI (4 * i) from pk_mul 4 i, bnd_s n3, nI_1]
      · obtain ⟨y2, N⟩ := x
        dsimp only at hx
        obtain ⟨rfl, hN⟩ := hx
        rw [l1] at hN
        cases hN
        refine ⟨_, ?_, rfl⟩
        unfold sX12_read_17
        dsimp only
        unfold bX12_read_17
        rw [l4 74 (by decide), k2, if_pos (by rw [nI_leI (by omega) (by omega)]; omega), chk_t (by decide), show ix (3 : Int32) = 3 from rfl, l2.1 3 (by omega)]
    have e : ∀ c, c ≠ 35 → c ≠ 74 → c ≠ 75 → c ≠ 79 → (c = 0 ∨ 17 ≤ c) → K3 c = I c := fun c q1 q2 q3 q4 q5 => by rw [l4 c q3, k4.2 c q2 q4]; exact eJ c q1 q5
    have e74 : ∀ i, (i < 5 ∨ 11 < i) → K3 74 i = I 74 i := fun i hi => by rw [l4 74 (by decide), k4.1 i hi, eJ 74 (by decide) (by omega)]
    refine ⟨nI (A2 3), J, K3, ?_, ?_, ?_⟩
    · unfold fX11_read
      rw [bnd2_s a1, if_pos rfl, bnd_s j1, show J 1 2 = nI (A2 3) from hXJ.1.2.2.1]
    · unfold fX12_read
      rw [bnd2_s k1, if_pos rfl]
      exact hloop
    · refine sim_frame h (by omega) (hs_told (hXJ.congr (fun c q1 q2 => by rw [l4 c (by omega), k4.2 c (by omega) (by omega)])) l2 b2) (fun q _ => by rw [e 0 (by decide) (by decide) (by decide) (by decide) (by omega)]) (fun c q1 q2 => e c (by omega) (by omega) (by omega) (by omega) (by omega)) ?_ ?_ (e74 3 (by omega)) (e74 15 (by omega)) (fun k q1 q2 => by rw [l3 k q1, k4.2 75 (by decide) (by decide), eJ 75 (by decide) (by omega)]) (e 76 (by decide) (by decide) (by decide) (by decide) (by omega)) (e 77 (by decide) (by decide) (by decide) (by decide) (by omega)) (e 78 (by decide) (by decide) (by decide) (by decide) (by omega))
      · rw [l4 35 (by decide), k4.2 35 (by decide) (by decide), j3 35 (by omega)]; exact a2'
      · exact e 36 (by decide) (by decide) (by decide) (by decide) (by omega)
  · have hTM : MT M2 t len := ⟨x1, fun x hx => (htx x hx).2, by rw [a2 74 (by decide) (by omega)]; exact x3, fun x hx => by rw [a2 77 (by decide) (by omega), ← (x4 x hx).1]; exact (htx x hx).1⟩
    obtain ⟨K2, k1, k2⟩ := p3 M2 hTM
    have e : ∀ c, c ≠ 35 → c ≠ 74 → c ≠ 79 → (c < 9 ∨ 17 ≤ c) → K2 c = I c := fun c q1 q2 q3 q4 => by rw [k2.2 c q2 q3]; exact a2 c q1 q4
    have e74 : ∀ i, (i < 5 ∨ 11 < i) → K2 74 i = I 74 i := fun i hi => by rw [k2.1 i hi, a2 74 (by decide) (by omega)]
    have hn1 : ¬ nI p = -1 := n_ne1 (by omega)
    refine ⟨(-10 : Int32) - nI p, M2, K2, ?_, ?_, ?_⟩
    · unfold fX11_read
      rw [bnd2_s a1, if_neg hn1]
    · unfold fX12_read
      rw [bnd2_s k1, if_neg hn1]
    · refine sim_frame h (by omega) ((h.1.mono (by omega)).congr (fun c hc => e _ (by omega) (by omega) (by omega) (by omega)) (fun k hk => by rw [e 75 (by decide) (by decide) (by decide) (by omega)])) (fun q _ => by rw [e 0 (by decide) (by decide) (by decide) (by omega)]) (fun c q1 q2 => e c (by omega) (by omega) (by omega) (by omega)) ?_ (e 36 (by decide) (by decide) (by decide) (by omega)) (e74 3 (by omega)) (e74 15 (by omega)) (fun k _ _ => by rw [e 75 (by decide) (by decide) (by decide) (by omega)]) (e 76 (by decide) (by decide) (by decide) (by omega)) (e 77 (by decide) (by decide) (by decide) (by omega)) (e 78 (by decide) (by decide) (by decide) (by omega))
      rw [k2.2 35 (by decide) (by decide)]; exact a2'
