/-! ===== numbers and stops, read by both ===== -/
def nxT (t : Nat → Nat) (len j : Nat) : Nat := nd t len (skp t len j)
def nvT (t : Nat → Nat) (len j : Nat) : Nat := nvF t (skp t len j) (nxT t len j - skp t len j)
/-- the number that stands there, if it is as told -/
def nmO (t : Nat → Nat) (len j lo hb : Nat) : Option Nat := if kd t len (skp t len j) = 2 ∧ lo ≤ nvT t len j ∧ nvT t len j < hb then some (nvT t len j) else none
theorem nmO_some {t : Nat → Nat} {len j lo hb v : Nat} (h : nmO t len j lo hb = some v) : kd t len (skp t len j) = 2 ∧ v = nvT t len j ∧ lo ≤ v ∧ v < hb := by
  unfold nmO at h
  split at h
  · rename_i c
    cases h
    exact ⟨c.1, rfl, c.2⟩
  · cases h
theorem kd_2 {t : Nat → Nat} {len p : Nat} : kd t len p = 2 ↔ (p < len ∧ srt (t p) = 2 ∧ nd t len p - p ≤ 3) := by
  have hw := wIx_le t p (nd t len p)
  unfold kd
  by_cases c : p < len
  · rw [if_pos c]
    by_cases s1 : srt (t p) = 1
    · rw [if_pos s1]
      constructor
      · intro q
        split at q <;> omega
      · omega
    · rw [if_neg s1]
      by_cases s2 : srt (t p) = 2
      · rw [if_pos s2]
        constructor
        · intro q
          split at q
          · exact ⟨c, s2, by assumption⟩
          · omega
        · intro q
          rw [if_pos q.2.2]
      · rw [if_neg s2]
        constructor
        · intro q
          split at q <;> omega
        · intro q
          exact absurd q.2.1 s2
  · rw [if_neg c]
    constructor <;> omega
theorem kd_3 {t : Nat → Nat} {len p : Nat} : kd t len p = 3 ↔ (p < len ∧ t p = 59) := by
  have hw := wIx_le t p (nd t len p)
  unfold kd
  by_cases c : p < len
  · rw [if_pos c]
    by_cases s1 : srt (t p) = 1
    · rw [if_pos s1]
      constructor
      · intro q
        split at q <;> omega
      · intro q
        rw [q.2] at s1
        exact absurd s1 (by decide)
    · rw [if_neg s1]
      by_cases s2 : srt (t p) = 2
      · rw [if_pos s2]
        constructor
        · intro q
          split at q <;> omega
        · intro q
          rw [q.2] at s2
          exact absurd s2 (by decide)
      · rw [if_neg s2]
        constructor
        · intro q
          split at q
          · exact ⟨c, by assumption⟩
          · omega
        · intro q
          rw [if_pos q.2]
  · rw [if_neg c]
    constructor <;> omega
theorem kd_w {t : Nat → Nat} {len p : Nat} (h : wIx t p (nd t len p) ≠ 7) : kd t len p = 4 + wIx t p (nd t len p) ∧ p < len := by
  have hs : srt (t p) = 1 ∧ p < nd t len p := by
    by_cases c1 : srt (t p) = 1
    · by_cases c2 : nd t len p ≤ p
      · exact absurd (wIx_7 (Or.inr c2)) h
      · exact ⟨c1, by omega⟩
    · exact absurd (wIx_7 (Or.inl c1)) h
  have hp : p < len := by
    rcases Nat.lt_or_ge p len with q | q
    · exact q
    · have : nd t len p = p := by unfold nd; rw [if_neg (by omega)]
      omega
  unfold kd
  rw [if_pos hp, if_pos hs.1, if_neg h]
  exact ⟨rfl, hp⟩
theorem kd_7 {t : Nat → Nat} {len p : Nat} (h : wIx t p (nd t len p) = 7) : kd t len p ≤ 3 := by
  unfold kd
  rw [h]
  repeat' split
  all_goals omega
theorem nv_1000 {t : Nat → Nat} {len j : Nat} (h : kd t len (skp t len j) = 2) : nvT t len j < 1000 := by
  obtain ⟨h1, h2, h3⟩ := kd_2.mp h
  have hl := nvF_lt (t := t) (p := skp t len j) (k := nxT t len j - skp t len j) (fun x hx => srt_2 (by rw [nd_run h1 (by omega) (skp t len j + x) (by omega) (by unfold nxT at hx; omega)]; exact h2))
  have h10 : 10 ^ (nxT t len j - skp t len j) ≤ 10 ^ 3 := Nat.pow_le_pow_right (by decide) h3
  unfold nvT
  omega
theorem takeNum_f {M : Mem} {x1 x2 : Int32} (h : ¬ M 35 6 = -1) : fX8_takeNumber x1 x2 M = some (x1, M) := by
  unfold fX8_takeNumber
  rw [if_neg h]
theorem takeNum_n {M : Mem} {t : Nat → Nat} {len j lo hb : Nat} {x2 : Int32} (hc : CT M t len) (h4 : M 35 4 = nI j) (hj : j ≤ len) (h6 : M 35 6 = -1) (hlo : lo < 1000) (hx2 : x2.toInt = (hb : Int) - 1) : ∃ M2, (∀ v, nmO t len j lo hb = some v → fX8_takeNumber (nI lo) x2 M = some (nI v, M2) ∧ M2 35 6 = -1) ∧ (nmO t len j lo hb = none → fX8_takeNumber (nI lo) x2 M = some (nI lo, M2) ∧ M2 35 6 = nI (skp t len j)) ∧ M2 35 3 = nI (skp t len j) ∧ M2 35 4 = nI (nxT t len j) ∧ M2 35 0 = M 35 0 ∧ ∀ c, c ≠ 35 → M2 c = M c := by
  have hsk := skp_le (t := t) hj
  have hl := hc.1
  obtain ⟨M1, a1, a2, a3, a4, a5, a6, a7⟩ := advance_n hc h4 hj
  have hkd : kd t len (skp t len j) < 2 ^ 31 := by
    unfold kd
    have := wIx_le t (skp t len j) (nd t len (skp t len j))
    repeat' split
    all_goals omega
  cases hnm : nmO t len j lo hb with
  | some v =>
    obtain ⟨b1, b2, b3, b4⟩ := nmO_some hnm
    have hv1 := nv_1000 b1
    refine ⟨M1, fun u hu => ?_, fun q => (by cases q), a2, a3, a6 0 (by omega), a7⟩
    cases hu
    refine ⟨?_, by rw [a6 6 (by omega)]; exact h6⟩
    have e5 : M1 35 5 = nI v := by rw [a5 b1, b2]; rfl
    unfold fX8_takeNumber
    rw [if_pos h6, bnd_s a1, if_pos (by rw [a4, b1]; rfl), e5, if_neg (nI_nlt b3 (by omega)), if_pos (by rw [x_le, nI_toInt (by omega), hx2]; omega)]
  | none =>
    refine ⟨up2 M1 35 6 (nI (skp t len j)), fun v hv => (by cases hv), fun _ => ⟨?_, up2_self ..⟩, by rw [up2_i (by decide)]; exact a2, by rw [up2_i (by decide)]; exact a3, by rw [up2_i (by decide)]; exact a6 0 (by omega), fun c hc => by rw [up2_cc hc]; exact a7 c hc⟩
    unfold fX8_takeNumber
    dsimp only [letb]
    rw [if_pos h6, bnd_s a1, a2]
    by_cases c1 : kd t len (skp t len j) = 2
    · have hv1 := nv_1000 c1
      have e5 : M1 35 5 = nI (nvT t len j) := by rw [a5 c1]; rfl
      rw [if_pos (by rw [a4, c1]; rfl)]
      by_cases c2 : nvT t len j < lo
      · rw [if_pos (by rw [e5]; exact nI_lt c2 (by omega))]
      · rw [if_neg (by rw [e5]; exact nI_nlt (by omega) (by omega)), if_neg]
        rw [e5, x_le, nI_toInt (by omega), hx2]
        intro q
        unfold nmO at hnm
        rw [if_pos ⟨c1, by omega, by omega⟩] at hnm
        cases hnm
    · rw [if_neg (by rw [a4, show (2 : Int32) = nI 2 from rfl, nI_eq hkd (by decide)]; exact c1)]
theorem takeStop_n {M : Mem} {t : Nat → Nat} {len j : Nat} (hc : CT M t len) (h4 : M 35 4 = nI j) (hj : j ≤ len) (h6 : M 35 6 = -1) : ∃ M2, fX8_takeStop M = some M2 ∧ (kd t len (skp t len j) = 3 → M2 35 6 = -1) ∧ (kd t len (skp t len j) ≠ 3 → M2 35 6 = nI (skp t len j)) ∧ M2 35 4 = nI (nxT t len j) ∧ M2 35 0 = M 35 0 ∧ ∀ c, c ≠ 35 → M2 c = M c := by
  have hsk := skp_le (t := t) hj
  have hl := hc.1
  obtain ⟨M1, a1, a2, a3, a4, a5, a6, a7⟩ := advance_n hc h4 hj
  have hkd : kd t len (skp t len j) < 2 ^ 31 := by
    unfold kd
    have := wIx_le t (skp t len j) (nd t len (skp t len j))
    repeat' split
    all_goals omega
  unfold fX8_takeStop
  dsimp only [letb]
  rw [if_pos h6, bnd_s a1]
  by_cases c : kd t len (skp t len j) = 3
  · rw [if_pos (by rw [a4, c]; rfl)]
    exact ⟨M1, rfl, fun _ => by rw [a6 6 (by omega)]; exact h6, fun q => absurd c q, a3, a6 0 (by omega), a7⟩
  · rw [if_neg (by rw [a4, show (3 : Int32) = nI 3 from rfl, nI_eq hkd (by decide)]; exact c)]
    exact ⟨_, rfl, fun q => absurd q c, fun _ => by rw [up2_self]; exact a2, by rw [up2_i (by decide)]; exact a3, by rw [up2_i (by decide)]; exact a6 0 (by omega), fun c hc => by rw [up2_cc hc]; exact a7 c hc⟩
theorem takeStop_f {M : Mem} (h : ¬ M 35 6 = -1) : fX8_takeStop M = some M := by
  unfold fX8_takeStop
  rw [if_neg h]
/-- the model at a token, m items read -/
def MX (K : Mem) (t : Nat → Nat) (len j m : Nat) : Prop := MT K t len ∧ K 74 6 = nI (skp t len j) ∧ K 74 5 = nI (nxT t len j) ∧ K 74 7 = nI (nxT t len j) ∧ K 74 9 = nI m
theorem MX.congr {K K2 : Mem} {t : Nat → Nat} {len j m : Nat} (h : MX K t len j m) (h1 : K2 74 = K 74) (h2 : K2 77 = K 77) : MX K2 t len j m := by
  obtain ⟨a1, a2, a3, a4, a5⟩ := h
  exact ⟨a1.congr (by rw [h1]) h2, by rw [h1]; exact a2, by rw [h1]; exact a3, by rw [h1]; exact a4, by rw [h1]; exact a5⟩
theorem reads_n {K : Mem} {t : Nat → Nat} {len j m k lo hb : Nat} {x3 u : Int32} (hK : MX K t len j m) (hj : j ≤ len) (hm : m ≤ 80) (hk : k ≤ 2) (hlo : lo < 1000) (hx3 : x3.toInt = (hb : Int) - 1) :
    (nmO t len j lo hb = none → fX12_reads (nI k) (nI lo) x3 u K = some (0, K)) ∧ ∀ v, nmO t len j lo hb = some v → (nI v = u → fX12_reads (nI k) (nI lo) x3 u K = some (0, K)) ∧ (¬ nI v = u → ∃ K2, fX12_reads (nI k) (nI lo) x3 u K = some (1, K2) ∧ MX K2 t len (nxT t len j) m ∧ K2 79 (4 * m + 1 + k) = nI v ∧ (∀ x, x ≠ 4 * m + 1 + k → K2 79 x = K 79 x) ∧ (∀ i, (i < 5 ∨ 7 < i) → K2 74 i = K 74 i) ∧ ∀ c, c ≠ 74 → c ≠ 79 → K2 c = K c) := by
  obtain ⟨hT, h6, h5, h7, h9⟩ := id hK
  obtain ⟨c1, c2, c3, c4⟩ := id hT
  have hsk := skp_le (t := t) hj
  have hnd := nd_le (t := t) hsk.2
  have hnx : nxT t len j ≤ len := hnd.2.1
  -- what the call comes to
  have hv : kd t len (skp t len j) = 2 → ∀ K2, fX12_token (up2 K 79 (4 * m + 1 + k) (nI (nvT t len j))) = some K2 → fX12_reads (nI k) (nI lo) x3 u K = some (if (decide ((lo : Int) ≤ (nvT t len j : Int) ∧ (nvT t len j : Int) ≤ x3.toInt)) = true then (if nI (nvT t len j) = u then ((0 : Int32), K) else (1, K2)) else (0, K)) := fun hkd K2 z1 => by
    obtain ⟨q1, q2, q3⟩ := kd_2.mp hkd
    have hv1 := nv_1000 hkd
    have hb1 := c2 _ q1
    unfold fX12_reads
    dsimp only [letb]
    rw [h6, h7, c3, if_neg (by rw [nI_eq (by omega) (by omega)]; omega), chk_t (inb_n (by omega) (by decide)), ix_n (by omega), c4 _ q1, bnd_s (sort_n hb1), q2, if_pos (show nI 2 = (2 : Int32) from rfl), pk_sub (show skp t len j ≤ nxT t len j from hnd.1), if_pos (show nI (nxT t len j - skp t len j) ≤ (3 : Int32) from nI_le (b := 3) q3 (by decide))]
    refine iter_go (fun i => (nI (nvF t (skp t len j) i), nI (skp t len j + i))) (nxT t len j - skp t len j) (FU_lt (by omega)) ?_ (fun i hi => ?_)
    · unfold sX12_reads_51
      dsimp only
      unfold bX12_reads_51
      have hnxs : skp t len j ≤ nxT t len j := hnd.1
      rw [h7, if_pos (by rw [nI_leI (by omega) (by omega)]; omega), bnd_s (in_i _ _ _ K), i64_toInt, i64_toInt, i64_toInt, show nvF t (skp t len j) (nxT t len j - skp t len j) = nvT t len j from rfl, nI_toInt (by omega), nI_toInt (by omega)]
      dsimp only [letb]
      rw [h9, show (4 : Int32) = nI 4 from rfl, pk_mul, nI_1, nI_add, chk_t (inb_n (show 4 * m + 1 + k < 400 by omega) (by decide)), ix_n (show 4 * m + 1 + k < 2 ^ 31 by omega)]
      rw [bnd_s z1]
      cases decide ((lo : Int) ≤ (nvT t len j : Int) ∧ (nvT t len j : Int) ≤ x3.toInt) with
      | false => rw [if_pos (by decide), if_neg (by decide)]
      | true =>
        rw [if_neg (by decide), if_pos rfl]
        by_cases cu : nI (nvT t len j) = u
        · rw [if_pos cu, if_pos cu]
        · rw [if_neg cu, if_neg cu]
    · unfold sX12_reads_51
      dsimp only
      unfold bX12_reads_51
      have hd := srt_2 (show srt (t (skp t len j + i)) = 2 by rw [nd_run q1 (by omega) (skp t len j + i) (by omega) (by unfold nxT at hi; omega)]; exact q2)
      rw [h7, if_neg (by rw [nI_leI (by omega) (by omega)]; omega), chk_t (inb_n (by omega) (by decide)), ix_n (by omega), c4 _ (by omega), nv_step hd.1]
      dsimp only [letb]
      rw [nI_1, Nat.add_assoc]
  refine ⟨fun hnm => ?_, fun v hnm => ?_⟩
  · by_cases hkd : kd t len (skp t len j) = 2
    · obtain ⟨K2, z1, -⟩ := token_n (K := up2 K 79 (4 * m + 1 + k) (nI (nvT t len j))) (hT.congr (up2_c (by decide)) (up2_cc (by decide))) (show up2 K 79 (4 * m + 1 + k) (nI (nvT t len j)) 74 5 = nI (nxT t len j) by rw [up2_c (by decide)]; exact h5) hnx
      rw [hv hkd K2 z1, decide_eq_false, if_neg (by decide)]
      intro q
      rw [hx3] at q
      unfold nmO at hnm
      rw [if_pos ⟨hkd, by omega, by omega⟩] at hnm
      cases hnm
    · unfold fX12_reads
      rw [h6, h7, c3]
      by_cases q0 : skp t len j = len
      · rw [if_pos (by rw [q0])]
      · have q1 : skp t len j < len := by omega
        have hb1 := c2 _ q1
        have hsr : srt (t (skp t len j)) ≤ 2 := by
          unfold srt
          repeat' split
          all_goals omega
        rw [if_neg (by rw [nI_eq (by omega) (by omega)]; exact q0), chk_t (inb_n (by omega) (by decide)), ix_n (by omega), c4 _ q1, bnd_s (sort_n hb1)]
        by_cases q2 : srt (t (skp t len j)) = 2
        · rw [if_pos (by rw [q2]; rfl), pk_sub (show skp t len j ≤ nxT t len j from hnd.1)]
          by_cases q3 : nxT t len j - skp t len j ≤ 3
          · exact absurd (kd_2.mpr ⟨q1, q2, q3⟩) hkd
          · rw [if_neg (show ¬ nI (nxT t len j - skp t len j) ≤ (3 : Int32) from nI_ge (a := 3) (by omega) (by omega))]
        · rw [if_neg (by rw [show (2 : Int32) = nI 2 from rfl, nI_eq (by omega) (by omega)]; exact q2)]
  · obtain ⟨b1, b2, b3, b4⟩ := nmO_some hnm
    have hv1 := nv_1000 b1
    have hin : decide ((lo : Int) ≤ (nvT t len j : Int) ∧ (nvT t len j : Int) ≤ x3.toInt) = true := by
      rw [decide_eq_true_iff, hx3]
      omega
    obtain ⟨K2, z1, z2, z3, z4, z5, z6⟩ := token_n (K := up2 K 79 (4 * m + 1 + k) (nI v)) (hT.congr (up2_c (by decide)) (up2_cc (by decide))) (show up2 K 79 (4 * m + 1 + k) (nI v) 74 5 = nI (nxT t len j) by rw [up2_c (by decide)]; exact h5) hnx
    have e74 : ∀ i, (i < 5 ∨ 7 < i) → K2 74 i = K 74 i := fun i hi => by rw [z5 i hi, up2_c (by decide)]
    rw [hv b1 K2 (by rw [← b2]; exact z1), hin, if_pos rfl, ← b2]
    refine ⟨fun q => by rw [if_pos q], fun q => ?_⟩
    rw [if_neg q]
    refine ⟨K2, rfl, ⟨hT.congr (e74 3 (by omega)) (by rw [z6 77 (by decide), up2_cc (by decide)]), z2, z3, z4, by rw [e74 9 (by omega)]; exact h9⟩, by rw [z6 79 (by decide), up2_self], fun x hx => by rw [z6 79 (by decide), up2_i hx], e74, fun c q1 q2 => by rw [z6 c q1, up2_cc q2]⟩
theorem nx_le {t : Nat → Nat} {len j : Nat} (hj : j ≤ len) : j ≤ nxT t len j ∧ nxT t len j ≤ len ∧ (skp t len j < len → j < nxT t len j) := by
  have h1 := skp_le (t := t) hj
  have h2 := nd_le (t := t) h1.2
  unfold nxT
  omega
