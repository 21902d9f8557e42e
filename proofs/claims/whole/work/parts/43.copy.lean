/-! ===== a house copied ===== -/
def hlen (j : Nat) : Nat := [8, 5, 5, 5, 4, 16, 8, 80].getD j 0
theorem cpA_0 {f g : Nat → Int32} {n k : Nat} (h : k < n) : cpA f g 0 0 n k = f k := by
  rw [cpA_in (by omega) (by omega)]
  congr 1
  omega
theorem copy_n {b0 b1 : Nat} (I : Mem) (hd : b0 + 8 ≤ b1 ∨ b1 + 8 ≤ b0) : ∃ J, fX4_copy b0 b1 I = some J ∧ (∀ j, j < 8 → ∀ i, i < hlen j → J (b0 + j) i = I (b1 + j) i) ∧ ∀ c, (c < b0 ∨ b0 + 8 ≤ c) → J c = I c := by
  unfold fX4_copy
  dsimp only [letb]
  rw [chk_t (by decide), chk_t (by decide), chk_t (by decide), chk_t (by decide), chk_t (by decide), chk_t (by decide), chk_t (by decide)]
  simp only [show ix (0 : Int32) = 0 from rfl, show ix (5 : Int32) = 5 from rfl, show ix (4 : Int32) = 4 from rfl, show ix (16 : Int32) = 16 from rfl, show ix (8 : Int32) = 8 from rfl, show ix (80 : Int32) = 80 from rfl]
  refine ⟨_, rfl, fun j hj i hi => ?_, fun c hc => ?_⟩
  · rcases (show j = 0 ∨ j = 1 ∨ j = 2 ∨ j = 3 ∨ j = 4 ∨ j = 5 ∨ j = 6 ∨ j = 7 by omega) with rfl | rfl | rfl | rfl | rfl | rfl | rfl | rfl
    · have h8 : i < 8 := hi
      rcases (show i = 0 ∨ i = 1 ∨ i = 2 ∨ i = 3 ∨ i = 4 ∨ i = 5 ∨ i = 6 ∨ i = 7 by omega) with rfl | rfl | rfl | rfl | rfl | rfl | rfl | rfl <;> simp (disch := omega) only [Nat.add_zero, upA_c, up2_self, up2_i, up2_c]
    · have h8 : i < 5 := hi
      simp (disch := omega) only [upA_c, upA_self, cpA_0, up2_cc]
    · have h8 : i < 5 := hi
      simp (disch := omega) only [upA_c, upA_self, cpA_0, up2_cc]
    · have h8 : i < 5 := hi
      simp (disch := omega) only [upA_c, upA_self, cpA_0, up2_cc]
    · have h8 : i < 4 := hi
      simp (disch := omega) only [upA_c, upA_self, cpA_0, up2_cc]
    · have h8 : i < 16 := hi
      simp (disch := omega) only [upA_c, upA_self, cpA_0, up2_cc]
    · have h8 : i < 8 := hi
      simp (disch := omega) only [upA_c, upA_self, cpA_0, up2_cc]
    · have h8 : i < 80 := hi
      simp (disch := omega) only [upA_c, upA_self, cpA_0, up2_cc]
  · simp (disch := omega) only [upA_c, up2_cc]
theorem lsl_lt : ∀ k, k < 54 → ¬ (20 ≤ k ∧ k < 24) → lsl k < hlen (lo k) := by decide +kernel
/-- a copy is as what it was copied from -/
theorem CV.copied {I J : Mem} {b0 b1 o pl ps w : Nat} {pw : Nat → Nat} (h : CV I b1 o pl ps w pw) (hps : ps ≤ 8) (h1 : ∀ j, j < 8 → ∀ i, i < hlen j → J (b0 + j) i = I (b1 + j) i) (h2 : ∀ k, k < 158 → J 75 (o + k) = I 75 (o + k)) : CV J b0 o pl ps w pw := by
  obtain ⟨a1, a2, a3⟩ := h
  refine ⟨fun k hk => ?_, ?_, fun j hj => ⟨?_, fun q hq => ?_, fun p hp => ?_⟩⟩
  · have l6 := lo_6 hk
    have l54 := SK_lt hk
    rw [h1 _ (by omega) _ (lsl_lt k l54 (by unfold SK at hk; omega)), h2 _ (by omega)]
    exact a1 k hk
  · have := h1 0 (by decide) 3 (by decide)
    rw [Nat.add_zero, Nat.add_zero] at this
    rw [this]
    exact a2
  · have h80 : ∀ i, i < 80 → J (b0 + 7) i = I (b1 + 7) i := fun i hi => h1 7 (by decide) i hi
    rw [h80 _ (by omega)]
    exact (a3 j hj).1
  · have h80 : ∀ i, i < 80 → J (b0 + 7) i = I (b1 + 7) i := fun i hi => h1 7 (by decide) i hi
    rw [h80 _ (by omega), h2 _ (by omega)]
    exact (a3 j hj).2.1 q hq
  · have h80 : ∀ i, i < 80 → J (b0 + 7) i = I (b1 + 7) i := fun i hi => h1 7 (by decide) i hi
    rw [h80 _ (by omega), h2 _ (by omega)]
    exact (a3 j hj).2.2 p hp
/-! ===== images ===== -/
theorem copyM_n {a c : Nat} {I : Mem} (ha : a ≤ 3) (hc : c ≤ 3) (hac : a ≠ c) : fX12_copy (nI a) (nI c) I = some (cpM I 75 75 (158 * a) (158 * c) 158) := by
  unfold fX12_copy
  refine iter_copy 75 75 (158 * a) (158 * c) 158 I (FU_lt (by decide)) (by omega) (fun i hi => ?_) ?_
  · unfold sX12_copy_2 bX12_copy_2
    dsimp only
    rw [if_neg (show ¬ (158 : Int32) ≤ nI i from nI_ge (b := 158) hi (by decide)), show (158 : Int32) = nI 158 from rfl, pk_mul, pk_mul, nI_add, nI_add, chk_t (inb_n (by omega) (by decide)), chk_t (inb_n (by omega) (by decide)), ix_n (by omega), ix_n (by omega), nI_1]
    rfl
  · unfold sX12_copy_2 bX12_copy_2
    dsimp only
    rw [if_pos (show (158 : Int32) ≤ nI 158 from by decide)]
theorem asH_n : ∀ i, i < 2 → asH (fin 17 i) = some (18 + 8 * i) := by decide +kernel
theorem ok_image {T : Nat} {I : Mem} (h : Sim T I) (x1 : Int32) : OK T I (fX11_image x1) (fX12_image x1) := by
  rcases rng x1 0 1 (by decide) with ⟨v, -, hv2, rfl⟩ | hf
  · obtain ⟨A, w, pw, hc, hv⟩ := h.1
    have hps : A 53 ≤ 8 := by have := hv.1; unfold BA at this; omega
    obtain ⟨J, hJ, hJ1, hJ2⟩ := copy_n (b0 := 18 + 8 * v) (b1 := 1) I (by omega)
    have J75 : J 75 = I 75 := hJ2 75 (by omega)
    refine ⟨1, up2 J 34 v 1, up2 (cpM (up2 J 34 v 1) 75 75 (158 * 0) (158 * (1 + v)) 158) 76 v 1, ?_, ?_, ?_⟩
    · unfold fX11_image
      rw [if_neg (nI_pos (by omega)), if_pos (show nI v < 2 from nI_lt (b := 2) (by omega) (by decide)), chk_t (inb_n (by omega) (by decide)), ix_n (by omega), bnd_s (asH_n v (by omega)), bnd_s hJ, chk_t (inb_n (by omega) (by decide))]
      rfl
    · unfold fX12_image
      rw [bnd_s (in_t (lo := 0) (hi := 1) rfl rfl (by omega) hv2 (by omega)), if_neg (by decide), show (0 : Int32) = nI 0 from rfl, show (1 : Int32) = nI 1 from rfl, nI_add, bnd_s (copyM_n (by omega) (by omega) (by omega)), chk_t (inb_n (by omega) (by decide)), ix_n (by omega)]
      rfl
    · generalize hK : up2 (cpM (up2 J 34 v 1) 75 75 (158 * 0) (158 * (1 + v)) 158) 76 v 1 = K
      have ec : ∀ c, c ≠ 34 → c ≠ 75 → c ≠ 76 → K c = J c := fun c q1 q2 q3 => by
        rw [← hK, up2_cc q3]
        unfold cpM
        rw [upA_c q2, up2_cc q1]
      have e34 : ∀ i, i ≠ v → K 34 i = I 34 i := fun i hi => by
        rw [← hK, up2_c (by decide)]
        unfold cpM
        rw [upA_c (by decide), up2_i hi, hJ2 34 (by omega)]
      have e34v : K 34 v = 1 := by
        rw [← hK, up2_c (by decide)]
        unfold cpM
        rw [upA_c (by decide), up2_self]
      have e76 : ∀ i, i ≠ v → K 76 i = I 76 i := fun i hi => by
        rw [← hK, up2_i hi]
        unfold cpM
        rw [upA_c (by decide), up2_c (by decide), hJ2 76 (by omega)]
      have e76v : K 76 v = 1 := by rw [← hK, up2_self]
      have e75 : ∀ k, K 75 k = if 158 * (1 + v) ≤ k ∧ k < 158 * (1 + v) + 158 then I 75 (k - 158 * (1 + v)) else I 75 k := fun k => by
        rw [← hK, up2_c (by decide)]
        unfold cpM
        rw [upA_self, up2_cc (by decide), J75]
        by_cases q : 158 * (1 + v) ≤ k ∧ k < 158 * (1 + v) + 158
        · rw [if_pos q, cpA_in q.1 q.2, Nat.mul_zero, Nat.zero_add]
        · rw [if_neg q, cpA_out (by omega)]
      have e75o : ∀ k, (k < 158 * (1 + v) ∨ 158 * (1 + v) + 158 ≤ k) → K 75 k = I 75 k := fun k hk => by rw [e75, if_neg (by omega)]
      have eI : ∀ c, (c < 18 + 8 * v ∨ 18 + 8 * v + 8 ≤ c) → c ≠ 34 → c ≠ 75 → c ≠ 76 → K c = I c := fun c q0 q1 q2 q3 => by rw [ec c q1 q2 q3, hJ2 c q0]
      -- the image that is made
      have himg : HS (T + 1) K (18 + 8 * v) (158 * (v + 1)) := by
        refine ⟨A, w, pw, ?_, ?_⟩
        · have hcop : CV J (18 + 8 * v) 0 (A 44) (A 53) w pw := hc.copied hps (fun j hj i hi => hJ1 j hj i hi) (fun k _ => by rw [J75])
          obtain ⟨a1, a2, a3⟩ := hcop
          have er : ∀ k, k < 158 → K 75 (158 * (v + 1) + k) = J 75 (0 + k) := fun k hk => by
            rw [e75, if_pos (by omega), J75]
            congr 1
            omega
          refine ⟨fun k hk => ?_, ?_, fun j hj => ⟨?_, fun q hq => ?_, fun p hp => ?_⟩⟩
          · have l6 := lo_6 hk
            have l54 := SK_lt hk
            rw [ec _ (by omega) (by omega) (by omega), er k (by omega)]
            exact a1 k hk
          · rw [ec _ (by omega) (by omega) (by omega)]; exact a2
          · rw [ec _ (by omega) (by omega) (by omega)]; exact (a3 j hj).1
          · rw [ec _ (by omega) (by omega) (by omega), er _ (by omega)]; exact (a3 j hj).2.1 q hq
          · rw [ec _ (by omega) (by omega) (by omega), er _ (by omega)]; exact (a3 j hj).2.2 p hp
        · refine (hv.mono (by omega)).congr (fun k hk => ?_)
          rw [e75, if_pos (by omega)]
          congr 1
          omega
      have hother : ∀ i, i < 2 → i ≠ v → IM T I i → IM (T + 1) K i := by
        intro i hi hne hI
        rcases hI with ⟨b1, b2⟩ | ⟨b1, b2, b3⟩
        · exact Or.inl ⟨by rw [e34 i hne]; exact b1, by rw [e76 i hne]; exact b2⟩
        · exact Or.inr ⟨by rw [e34 i hne]; exact b1, by rw [e76 i hne]; exact b2, (b3.congr (fun c hc2 => eI _ (by omega) (by omega) (by omega) (by omega)) (fun k hk => e75o _ (by omega))).mono (by omega)⟩
      have him : ∀ i, i < 2 → IM T I i → IM (T + 1) K i := by
        intro i hi hI
        by_cases e : i = v
        · subst e
          exact Or.inr ⟨e34v, e76v, himg⟩
        · exact hother i hi e hI
      refine ⟨(h.1.congr (fun c hc2 => eI _ (by omega) (by omega) (by omega) (by omega)) (fun k hk => e75o _ (by omega))).mono (by omega), him 0 (by decide) h.2.1, him 1 (by decide) h.2.2.1, h.2.2.2.1.congr (by rw [eI 35 (by omega) (by decide) (by decide) (by decide)]) (eI _ (by omega) (by decide) (by decide) (by decide)) (by rw [eI 74 (by omega) (by decide) (by decide) (by decide)]) (eI _ (by omega) (by decide) (by decide) (by decide)), h.2.2.2.2.1.congr (fun q _ => by rw [eI 0 (by omega) (by decide) (by decide) (by decide)]) (eI _ (by omega) (by decide) (by decide) (by decide)), by rw [eI 74 (by omega) (by decide) (by decide) (by decide)]; exact h.2.2.2.2.2⟩
  · refine ok_bad h (-2) ?_ ?_
    · unfold fX11_image jX11_image_9
      by_cases c : x1 < 0
      · rw [if_pos c, refX]; rfl
      · rw [if_neg c, if_neg (by rw [x_lt, show (2 : Int32).toInt = 2 from rfl]; rw [x_lt, n_toInt0] at c; omega), refX]; rfl
    · unfold fX12_image
      rw [bnd_s (in_f (lo := 0) (hi := 1) rfl rfl hf), if_pos (by decide), refM]
      rfl
theorem ok_from {T : Nat} {I : Mem} (h : Sim T I) (x1 : Int32) : OK T I (fX11_from x1) (fX12_from x1) := by
  rcases rng x1 0 1 (by decide) with ⟨v, -, hv2, rfl⟩ | hf
  · have hI : IM T I v := by
      rcases (show v = 0 ∨ v = 1 by omega) with rfl | rfl
      · exact h.2.1
      · exact h.2.2.1
    rcases hI with ⟨b1, b2⟩ | ⟨b1, b2, b3⟩
    · refine ok_no h (-3) ?_ ?_
      · unfold fX11_from
        rw [if_neg (nI_pos (by omega)), if_pos (show nI v < 2 from nI_lt (b := 2) (by omega) (by decide)), chk_t (inb_n (by omega) (by decide)), ix_n (by omega), b1, if_pos rfl, refXn]
        rfl
      · unfold fX12_from
        rw [bnd_s (in_t (lo := 0) (hi := 1) rfl rfl (by omega) hv2 (by omega)), if_neg (by decide), chk_t (inb_n (by omega) (by decide)), ix_n (by omega), up2_c (a := 76) (by decide), b2, if_pos rfl, refMn]
        rfl
    · obtain ⟨A, w, pw, hc, hv⟩ := b3
      have hps : A 53 ≤ 8 := by have := hv.1; unfold BA at this; omega
      obtain ⟨J, hJ, hJ1, hJ2⟩ := copy_n (b0 := 1) (b1 := 18 + 8 * v) I (by omega)
      have J75 : J 75 = I 75 := hJ2 75 (by omega)
      refine ⟨1, J, cpM J 75 75 (158 * (1 + v)) (158 * 0) 158, ?_, ?_, ?_⟩
      · unfold fX11_from
        rw [if_neg (nI_pos (by omega)), if_pos (show nI v < 2 from nI_lt (b := 2) (by omega) (by decide)), chk_t (inb_n (by omega) (by decide)), ix_n (by omega), b1, if_neg (by decide), chk_t (inb_n (by omega) (by decide)), bnd_s (asH_n v (by omega)), bnd_s hJ]
      · unfold fX12_from
        rw [bnd_s (in_t (lo := 0) (hi := 1) rfl rfl (by omega) hv2 (by omega)), if_neg (by decide), chk_t (inb_n (by omega) (by decide)), ix_n (by omega), hJ2 76 (by omega), b2, if_neg (by decide), show (1 : Int32) = nI 1 from rfl, show (0 : Int32) = nI 0 from rfl, nI_add, bnd_s (copyM_n (by omega) (by omega) (by omega))]
      · generalize hK : cpM J 75 75 (158 * (1 + v)) (158 * 0) 158 = K
        have ec : ∀ c, c ≠ 75 → K c = J c := fun c q => by rw [← hK]; unfold cpM; rw [upA_c q]
        have e75 : ∀ k, K 75 k = if k < 158 then I 75 (158 * (1 + v) + k) else I 75 k := fun k => by
          rw [← hK]
          unfold cpM
          rw [upA_self, J75]
          by_cases q : k < 158
          · rw [if_pos q, cpA_in (by omega) (by omega), Nat.mul_zero, Nat.sub_zero]
          · rw [if_neg q, cpA_out (by omega)]
        have eI : ∀ c, 9 ≤ c → c ≠ 75 → K c = I c := fun c q0 q1 => by rw [ec c q1, hJ2 c (by omega)]
        have eI0 : K 0 = I 0 := by rw [ec 0 (by decide), hJ2 0 (by omega)]
        have er : ∀ k, k < 158 → K 75 (0 + k) = I 75 (158 * (v + 1) + k) := fun k hk => by
          rw [Nat.zero_add, e75, if_pos hk, Nat.add_comm 1 v]
        refine sim_frame h (by omega) ⟨A, w, pw, ?_, ?_⟩ (fun q _ => by rw [eI0]) (fun c q1 q2 => eI c (by omega) (by omega)) (by rw [eI 35 (by omega) (by decide)]) (eI _ (by omega) (by decide)) (by rw [eI 74 (by omega) (by decide)]) (by rw [eI 74 (by omega) (by decide)]) (fun k q1 q2 => by rw [e75, if_neg (by omega)]) (eI _ (by omega) (by decide)) (eI _ (by omega) (by decide)) (eI _ (by omega) (by decide))
        · have hcop : CV J 1 (158 * (v + 1)) (A 44) (A 53) w pw := hc.copied hps (fun j hj i hi => hJ1 j hj i hi) (fun k _ => by rw [J75])
          obtain ⟨a1, a2, a3⟩ := hcop
          have er2 : ∀ k, k < 158 → K 75 (0 + k) = J 75 (158 * (v + 1) + k) := fun k hk => by rw [er k hk, J75]
          refine ⟨fun k hk => ?_, ?_, fun j hj => ⟨?_, fun q hq => ?_, fun p hp => ?_⟩⟩
          · have l6 := lo_6 hk
            have l54 := SK_lt hk
            rw [ec _ (by omega), er2 k (by omega)]
            exact a1 k hk
          · rw [ec _ (by omega)]; exact a2
          · rw [ec _ (by omega)]; exact (a3 j hj).1
          · rw [ec _ (by omega), er2 _ (by omega)]; exact (a3 j hj).2.1 q hq
          · rw [ec _ (by omega), er2 _ (by omega)]; exact (a3 j hj).2.2 p hp
        · exact (hv.mono (by omega)).congr (fun k hk => er k hk)
  · refine ok_bad h (-2) ?_ ?_
    · unfold fX11_from jX11_from_9
      by_cases c : x1 < 0
      · rw [if_pos c, refX]; rfl
      · rw [if_neg c, if_neg (by rw [x_lt, show (2 : Int32).toInt = 2 from rfl]; rw [x_lt, n_toInt0] at c; omega), refX]; rfl
    · unfold fX12_from
      rw [bnd_s (in_f (lo := 0) (hi := 1) rfl rfl hf), if_pos (by decide), refM]
      rfl
