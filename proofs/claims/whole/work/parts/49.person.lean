/-! ===== one comes ===== -/
theorem dg_add {w r n : Nat} (hw : w < 8 ^ n) (hr : r < 8) (p : Nat) : dg (w + r * 8 ^ n) p = if p < n then dg w p else if p = n then r else 0 := by
  unfold dg
  by_cases c : p < n
  · rw [if_pos c]
    obtain ⟨d, rfl⟩ : ∃ d, n = p + 1 + d := ⟨n - p - 1, by omega⟩
    have e : r * 8 ^ (p + 1 + d) = 8 ^ p * (8 * (r * 8 ^ d)) := by rw [Nat.pow_add, Nat.pow_add, Nat.pow_one]; simp only [Nat.mul_assoc, Nat.mul_comm, Nat.mul_left_comm]
    rw [e, Nat.add_mul_div_left _ _ (Nat.pow_pos (by decide)), Nat.add_mul_mod_self_left]
  · rw [if_neg c]
    by_cases c2 : p = n
    · rw [if_pos c2, c2, Nat.add_mul_div_right _ _ (Nat.pow_pos (by decide)), Nat.div_eq_of_lt hw]
      omega
    · rw [if_neg c2]
      have h1 : w + r * 8 ^ n < 8 ^ (n + 1) := by
        rw [Nat.pow_succ]
        have : r * 8 ^ n ≤ 7 * 8 ^ n := Nat.mul_le_mul_right _ (by omega)
        omega
      rw [Nat.div_eq_of_lt (Nat.lt_of_lt_of_le h1 (Nat.pow_le_pow_right (by decide) (by omega)))]
theorem add_lt8 {w r n : Nat} (hw : w < 8 ^ n) (hr : r < 8) : w + r * 8 ^ n < 8 ^ (n + 1) := by
  rw [Nat.pow_succ]
  have : r * 8 ^ n ≤ 7 * 8 ^ n := Nat.mul_le_mul_right _ (by omega)
  omega
theorem or_add8 {w r n : Nat} (hw : w < 8 ^ n) : w ||| r * 2 ^ (3 * n) = w + r * 8 ^ n := by
  have h8 : (8 : Nat) ^ n = 2 ^ (3 * n) := by rw [Nat.pow_mul]
  rw [h8] at hw ⊢
  rw [Nat.or_comm, Nat.mul_comm, ← Nat.two_pow_add_eq_or_of_lt hw, Nat.add_comm]
theorem enter_n {b np w r : Nat} {I : Mem} (g2 : I b 2 = nI np) (hnp : np ≤ 3) (g3 : I b 3 = nI w) (hw : w < 8 ^ np) (hr : r < 8) : fX4_enter b (nI r) I = some (up2 (up2 (up2 I b 3 (nI (w + r * 8 ^ np))) b 2 (nI (np + 1))) b 7 0) := by
  unfold fX4_enter
  dsimp only [letb]
  have hb : r * 2 ^ (3 * np) < 2 ^ 32 := by
    have h1 : 2 ^ (3 * np) ≤ 2 ^ 9 := Nat.pow_le_pow_right (by decide) (by omega)
    have h2 : r * 2 ^ (3 * np) ≤ 7 * 2 ^ 9 := Nat.mul_le_mul (by omega) h1
    omega
  rw [up2_i (j := 2) (i := 3) (by decide), g2, g3, show (3 : Int32) = nI 3 from rfl, pk_mul, n_shl (by omega) hb, n_or, or_add8 hw, nI_1]
theorem addPerson_n {np : Nat} {x : Int32} {I : Mem} (r3 : I 75 3 = nI np) (hnp : np ≤ 3) : fX12_addPerson x I = some (nI np, up2 (up2 (up2 (up2 I 75 (20 + np) x) 75 (24 + np) 0) 75 3 (nI (np + 1))) 75 53 0) := by
  unfold fX12_addPerson
  rw [chk_t (by decide), show ix (3 : Int32) = 3 from rfl, r3]
  dsimp only [letb]
  rw [show (20 : Int32) = nI 20 from rfl, show (24 : Int32) = nI 24 from rfl, nI_add, nI_add, chk_t (inb_n (by omega) (by decide)), chk_t (inb_n (by omega) (by decide)), chk_t (by decide), chk_t (by decide), chk_t (by decide), ix_n (by omega), ix_n (by omega), up2_i (by omega), up2_i (by omega), r3, nI_1]
  rfl
theorem WV.add {A A2 : Nat → Nat} {w r : Nat} (h : WV A w) (hp : A 3 ≤ 3) (hr : r < A 0) (h0 : A 0 ≤ 5) (e0 : A2 0 = A 0) (e3 : A2 3 = A 3 + 1) : WV A2 (w + r * 8 ^ A 3) := by
  unfold WV
  rw [e0, e3]
  refine ⟨add_lt8 h.1 (by omega), fun p hp2 => ?_⟩
  rw [dg_add h.1 (by omega)]
  by_cases c : p < A 3
  · rw [if_pos c]; exact h.2 p c
  · rw [if_neg c, if_pos (by omega)]; exact hr
theorem ok_person {T : Nat} {I : Mem} (h : Sim T I) (x1 : Int32) : OK T I (fX11_person x1) (fX12_person x1) := by
  obtain ⟨A, w, pw, hc, hv, hb, ⟨g0, g1, g2, g3, g4, g5, g6, g7⟩, gd, gp, hr⟩ := h.get
  have hb' := hb
  unfold BA at hb'
  obtain ⟨b1, b2, b3, b4, b5, b6, b7, b8, b9, b10, b11, b12, b13⟩ := hb'
  have r0 := hr 0 (Or.inl (by decide))
  have r3 := hr 3 (Or.inl (by decide))
  rcases rng0 x1 (A 0) (by omega) with ⟨r, hrr, rfl, ht⟩ | hf
  · by_cases c4 : A 3 = 4
    · refine ok_full h (-4) ?_ ?_
      · unfold fX11_person
        rw [bnd_s (isRoomX _ g0 (by omega)), ht, if_neg (by decide), g2, c4, if_neg (show ¬ nI 4 < 4 by decide), refXf]
        rfl
      · unfold fX12_person
        rw [bnd_s (isRoomM _ (by rw [up0_c (by decide)]; exact r0) (by omega)), ht, if_neg (by decide), chk_t (by decide), show ix (3 : Int32) = 3 from rfl, up0_c (c := 75) (by decide), r3, c4, if_pos (show nI 4 = 4 from rfl), refMf]
        rfl
    · have hw := hv.2.2.1
      have hen := enter_n (b := 1) (np := A 3) (w := w) (r := r) (I := I) g2 (by omega) g3 hw.1 (by omega)
      generalize hJ : up2 (up2 (up2 I 1 3 (nI (w + r * 8 ^ A 3))) 1 2 (nI (A 3 + 1))) 1 7 0 = J at hen
      have J75 : J 75 = I 75 := by rw [← hJ, up2_cc (by decide), up2_cc (by decide), up2_cc (by decide)]
      have had := addPerson_n (np := A 3) (x := nI r) (I := J) (by rw [J75]; exact r3) (by omega)
      generalize hK : up2 (up2 (up2 (up2 J 75 (20 + A 3) (nI r)) 75 (24 + A 3) 0) 75 3 (nI (A 3 + 1))) 75 53 0 = K at had
      have J12 : J 1 2 = nI (A 3 + 1) := by rw [← hJ, up2_i (by decide), up2_self]
      have KI : ∀ c, c ≠ 1 → c ≠ 75 → K c = I c := fun c q1 q2 => by rw [← hK, up2_cc q2, up2_cc q2, up2_cc q2, up2_cc q2, ← hJ, up2_cc q1, up2_cc q1, up2_cc q1]
      have K1 : ∀ i, i ≠ 2 → i ≠ 3 → i ≠ 7 → K 1 i = I 1 i := fun i q1 q2 q3 => by rw [← hK, up2_c (by decide), up2_c (by decide), up2_c (by decide), up2_c (by decide), ← hJ, up2_i q3, up2_i q1, up2_i q2]
      have K13 : K 1 3 = nI (w + r * 8 ^ A 3) := by rw [← hK, up2_c (by decide), up2_c (by decide), up2_c (by decide), up2_c (by decide), ← hJ, up2_i (by decide), up2_i (by decide), up2_self]
      have K12 : K 1 2 = nI (A 3 + 1) := by rw [← hK, up2_c (by decide), up2_c (by decide), up2_c (by decide), up2_c (by decide), J12]
      have K17 : K 1 7 = 0 := by rw [← hK, up2_c (by decide), up2_c (by decide), up2_c (by decide), up2_c (by decide), ← hJ, up2_self]
      have K753 : K 75 3 = nI (A 3 + 1) := by rw [← hK, up2_i (by decide), up2_self]
      have K7553 : K 75 53 = 0 := by rw [← hK, up2_self]
      have Ka : K 75 (20 + A 3) = nI r := by rw [← hK, up2_i (by omega), up2_i (by omega), up2_i (by omega), up2_self]
      have Ku : K 75 (24 + A 3) = 0 := by rw [← hK, up2_i (by omega), up2_i (by omega), up2_self]
      have K75 : ∀ k, k ≠ 3 → k ≠ 53 → k ≠ 20 + A 3 → k ≠ 24 + A 3 → K 75 k = I 75 k := fun k q1 q2 q3 q4 => by rw [← hK, up2_i q2, up2_i q1, up2_i q4, up2_i q3, J75]
      obtain ⟨v1, v2, v3, v4, v5, v6, v7, v8⟩ := hv
      have Kf : ∀ k, k ≠ 3 → k ≠ 53 → k ≠ 20 + A 3 → K 75 k = I 75 k := fun k q1 q2 q3 => by
        by_cases q4 : k = 24 + A 3
        · rw [q4, Ku, v5 (A 3) (by omega) (by omega)]
        · exact K75 k q1 q2 q3 q4
      refine ⟨nI (A 3), J, K, ?_, ?_, ?_⟩
      · unfold fX11_person
        rw [bnd_s (isRoomX _ g0 (by omega)), ht, if_neg (by decide), g2, if_pos (show nI (A 3) < 4 from nI_lt (b := 4) (by omega) (by decide)), bnd_s hen, J12, show nI (A 3 + 1) - 1 = nI (A 3) from nI_pred _]
      · unfold fX12_person
        rw [bnd_s (isRoomM _ (by rw [J75]; exact r0) (by omega)), ht, if_neg (by decide), chk_t (by decide), show ix (3 : Int32) = 3 from rfl, J75, r3, if_neg (show ¬ nI (A 3) = 4 from fun q => c4 ((nI_eq (b := 4) (by omega) (by decide)).mp q)), bnd2_s had]
      · have a0 : updN (updN A 3 (A 3 + 1)) 53 0 0 = A 0 := rfl
        have a3 : updN (updN A 3 (A 3 + 1)) 53 0 3 = A 3 + 1 := rfl
        have a53 : updN (updN A 3 (A 3 + 1)) 53 0 53 = 0 := rfl
        have ao : ∀ k, k ≠ 3 → k ≠ 53 → updN (updN A 3 (A 3 + 1)) 53 0 k = A k := fun k q1 q2 => by rw [updN_n q2, updN_n q1]
        refine sim_frame h (by omega) ⟨updN (updN A 3 (A 3 + 1)) 53 0, w + r * 8 ^ A 3, pw, ?_, ?_⟩ (fun q _ => by rw [KI 0 (by decide) (by decide)]) (fun c q1 q2 => KI c (by omega) (by omega)) (by rw [KI 35 (by decide) (by decide)]) (KI _ (by decide) (by decide)) (by rw [KI 74 (by decide) (by decide)]) (by rw [KI 74 (by decide) (by decide)]) (fun k q1 q2 => Kf k (by omega) (by omega) (by omega)) (KI _ (by decide) (by decide)) (KI _ (by decide) (by decide)) (KI _ (by decide) (by decide))
        · rw [a53, ao 44 (by decide) (by decide)]
          refine ⟨fun k hk => ?_, K13, fun j hj => by omega⟩
          have l54 := SK_lt hk
          have base := hc.at hk
          rw [Nat.zero_add]
          by_cases k3 : k = 3
          · subst k3; exact K12.trans K753.symm
          by_cases k53 : k = 53
          · subst k53; exact K17.trans K7553.symm
          have l6 := lo_6 hk
          rw [Kf k k3 k53 (by unfold SK at hk; omega), ← base]
          by_cases z : lo k = 0
          · have hl : ∀ k, k < 54 → ¬ (lo k = 0 ∧ ¬ k = 3 ∧ ¬ k = 53 ∧ (lsl k = 2 ∨ lsl k = 3 ∨ lsl k = 7)) := by decide +kernel
            rw [z, Nat.add_zero]
            exact K1 _ (fun y => hl k l54 ⟨z, k3, k53, Or.inl y⟩) (fun y => hl k l54 ⟨z, k3, k53, Or.inr (Or.inl y)⟩) (fun y => hl k l54 ⟨z, k3, k53, Or.inr (Or.inr y)⟩)
          · rw [KI _ (by omega) (by omega)]
        · refine ⟨⟨b1, b2, ?_, ?_, ?_, b6, ?_, b8, fun q hq => ?_, fun q q1 q2 => ?_, fun a c q1 q2 => ?_, fun a q1 => ?_, fun q hq => ?_⟩, fun k hk => ?_, ?_, fun p hp => ?_, fun p q1 q2 => ?_, fun i hi => ?_, fun i hi => ?_, fun j hj => by rw [a53] at hj; omega⟩
          · rw [a3]; omega
          · rw [a53]; omega
          · show A 2 ≤ T + 1; omega
          · rw [a53]; omega
          · rw [ao _ (by omega) (by omega)]; exact b9 q hq
          · rw [ao _ (by omega) (by omega)]; exact b10 q q1 q2
          · rw [ao _ (by omega) (by omega), ao _ (by omega) (by omega)]; exact b11 a c q1 q2
          · rw [ao _ (by omega) (by omega)]; exact b12 a q1
          · rw [ao _ (by omega) (by omega)]; have := b13 q hq; omega
          · dsimp only
            rw [Nat.zero_add]
            by_cases k3 : k = 3
            · rw [k3, K753]; rfl
            by_cases k53 : k = 53
            · rw [k53, K7553]; rfl
            rw [Kf k k3 k53 (by omega), ao k k3 k53]
            exact hr k hk
          · exact hw.add (by omega) hrr b1.2 a0 a3
          · rw [a3] at hp
            dsimp only
            rw [Nat.zero_add, dg_add hw.1 (by omega)]
            by_cases c : p < A 3
            · rw [if_pos c, Kf _ (by omega) (by omega) (by omega)]; exact v4 p c
            · rw [if_neg c, if_pos (by omega), show p = A 3 by omega]; exact Ka
          · rw [a3] at q1
            dsimp only
            rw [Nat.zero_add, Kf _ (by omega) (by omega) (by omega)]; exact v5 p (by omega) q2
          · dsimp only
            rw [Nat.zero_add, Kf _ (by omega) (by omega) (by omega), a0]; exact v6 i hi
          · rw [ao 44 (by decide) (by decide)] at hi
            dsimp only
            rw [Nat.zero_add, Kf _ (by omega) (by omega) (by omega), a0]; exact v7 i hi
  · refine ok_bad h (-2) ?_ ?_
    · unfold fX11_person
      rw [bnd_s (isRoomX _ g0 (by omega)), hf, if_pos (by decide), refX]
      rfl
    · unfold fX12_person
      rw [bnd_s (isRoomM _ (by rw [up0_c (by decide)]; exact r0) (by omega)), hf, if_pos (by decide), refM]
      rfl
/-! ===== what there is ===== -/
def pc (m : Nat) : Nat := (List.range 6).countP (fun i => m.testBit i)
theorem popc {m : Nat} (I : Mem) (h : m < 32) : fJ6_bitCount_0f7a4 (nI m) I = some (nI (pc m)) := popc_n m (by omega) I
theorem iter_more {σ ρ : Type} {s : σ → Option (σ ⊕ ρ)} {r : ρ} : ∀ {n m : Nat} {x : σ}, iter s n x = some r → n ≤ m → iter s m x = some r
  | 0, m, x, h, _ => by unfold iter at h; exact absurd h (by simp)
  | n + 1, 0, x, _, h2 => by omega
  | n + 1, m + 1, x, h, h2 => by
    unfold iter at h ⊢
    cases e : s x with
    | none => rw [e] at h; exact h
    | some y =>
      cases y with
      | inl y => rw [e] at h; exact iter_more h (by omega)
      | inr y => rw [e] at h; exact h
theorem bits_n {m : Nat} (I : Mem) (hm : m < 32) : fX12_bits (nI m) I = some (nI (pc m)) := by
  have h : ∀ m, m < 32 → iter (sX12_bits_4 (nI m) (fun _ _ => 0)) 6 ((0 : Int32), (0 : Int32)) = some (nI (pc m)) := by decide +kernel
  have h2 := h m hm
  unfold fX12_bits
  have h3 : ∀ x, sX12_bits_4 (nI m) I x = sX12_bits_4 (nI m) (fun _ _ => 0) x := fun x => rfl
  have h4 : sX12_bits_4 (nI m) I = sX12_bits_4 (nI m) (fun _ _ => 0) := funext h3
  rw [h4]
  exact iter_more h2 (by decide)
def dsum (D : Nat → Nat) : Nat → Nat
  | 0 => 0
  | i + 1 => dsum D i + pc (D i)
theorem pc_0 : pc 0 = 0 := by decide
theorem dsum_rest {D : Nat → Nat} {n : Nat} (h : ∀ q, n ≤ q → q < 5 → D q = 0) : ∀ i, n ≤ i → i ≤ 5 → dsum D i = dsum D n
  | 0, h1, _ => by rw [show n = 0 by omega]
  | i + 1, h1, h2 => by
    by_cases c : n = i + 1
    · rw [c]
    · rw [show dsum D (i + 1) = dsum D i + pc (D i) from rfl, dsum_rest h i (by omega) (by omega), h i (by omega) (by omega), pc_0]
      rfl
theorem doorCount_n {b n : Nat} {D : Nat → Nat} {I : Mem} (g0 : I b 0 = nI n) (hn : n ≤ 5) (gd : ∀ q, q < 5 → I (b + 1) q = nI (D q)) (hD : ∀ q, q < 5 → D q < 32) : fX4_doorCount b I = some (nI (dsum D n) / 2) := by
  unfold fX4_doorCount
  refine iter_go (fun i => (nI (dsum D i), nI i)) n (FU_lt (by omega)) ?_ (fun i hi => ?_)
  · unfold sX4_doorCount_4 bX4_doorCount_4
    dsimp only
    rw [g0, if_pos (by rw [nI_leI (by omega) (by omega)]; omega)]
  · unfold sX4_doorCount_4 bX4_doorCount_4
    dsimp only
    rw [g0, if_neg (by rw [nI_leI (by omega) (by omega)]; omega), chk_t (inb_n (by omega) (by decide)), ix_n (by omega), gd i (by omega), bnd_s (popc _ (hD i (by omega)))]
    dsimp only [letb]
    rw [nI_add, nI_1, dsum]
/-- the answers of count -/
def cvA (A : Nat → Nat) (len k : Nat) : Int32 := if k = 0 then nI (A 0) else if k = 1 then nI (A 3) else if k = 2 then nI (dsum (fun q => A (5 + q)) 5) / 2 else if k = 3 then nI (pc (A 4)) else if k = 4 then nI (A 2) else if k = 5 then nI (A 44) else if k = 6 then nI (A 53) else nI len
theorem countOf_n {A : Nat → Nat} {len k : Nat} {I : Mem} (hr : ∀ k, (k < 15 ∨ k = 44 ∨ k = 53) → I 75 k = nI (A k)) (hD : ∀ q, q < 5 → A (5 + q) < 32) (h4 : A 4 < 32) (hl : I 74 3 = nI len) (hk : k < 8) : fX12_countOf (nI k) I = some (cvA A len k) := by
  unfold fX12_countOf
  refine iter_go (fun i => (nI (dsum (fun q => A (5 + q)) i), nI i)) 5 (FU_lt (by omega)) ?_ (fun i hi => ?_)
  · unfold sX12_countOf_4 bX12_countOf_4
    dsimp only
    rw [if_pos (show (5 : Int32) ≤ nI 5 by decide)]
    rcases (show k = 0 ∨ k = 1 ∨ k = 2 ∨ k = 3 ∨ k = 4 ∨ k = 5 ∨ k = 6 ∨ k = 7 by omega) with rfl | rfl | rfl | rfl | rfl | rfl | rfl | rfl
    · rw [if_pos (by decide), chk_t (by decide), show ix (0 : Int32) = 0 from rfl, hr 0 (Or.inl (by decide))]; rfl
    · rw [if_neg (by decide), if_pos (by decide), chk_t (by decide), show ix (3 : Int32) = 3 from rfl, hr 3 (Or.inl (by decide))]; rfl
    · rw [if_neg (by decide), if_neg (by decide), if_pos (by decide)]; rfl
    · rw [if_neg (by decide), if_neg (by decide), if_neg (by decide), if_pos (by decide), chk_t (by decide), show ix (4 : Int32) = 4 from rfl, hr 4 (Or.inl (by decide)), bnd_s (bits_n _ h4)]; rfl
    · rw [if_neg (by decide), if_neg (by decide), if_neg (by decide), if_neg (by decide), if_pos (by decide), chk_t (by decide), show ix (2 : Int32) = 2 from rfl, hr 2 (Or.inl (by decide))]; rfl
    · rw [if_neg (by decide), if_neg (by decide), if_neg (by decide), if_neg (by decide), if_neg (by decide), if_pos (by decide), chk_t (by decide), show ix (44 : Int32) = 44 from rfl, hr 44 (Or.inr (Or.inl rfl))]; rfl
    · rw [if_neg (by decide), if_neg (by decide), if_neg (by decide), if_neg (by decide), if_neg (by decide), if_neg (by decide), if_pos (by decide), chk_t (by decide), show ix (53 : Int32) = 53 from rfl, hr 53 (Or.inr (Or.inr rfl))]; rfl
    · rw [if_neg (by decide), if_neg (by decide), if_neg (by decide), if_neg (by decide), if_neg (by decide), if_neg (by decide), if_neg (by decide), hl]; rfl
  · unfold sX12_countOf_4 bX12_countOf_4
    dsimp only
    rw [if_neg (show ¬ (5 : Int32) ≤ nI i from nI_ge (b := 5) hi (by decide)), show (5 : Int32) = nI 5 from rfl, nI_add, chk_t (inb_n (by omega) (by decide)), ix_n (by omega), hr _ (Or.inl (by omega)), bnd_s (bits_n _ (hD i hi))]
    dsimp only [letb]
    rw [nI_add, nI_1, dsum]
theorem countX_n {T : Nat} {I : Mem} {A : Nat → Nat} {len k : Nat} (hb : BA T A) (g : I 1 0 = nI (A 0) ∧ I 1 1 = nI (A 4) ∧ I 1 2 = nI (A 3) ∧ I 1 5 = nI (A 2) ∧ I 1 6 = nI (A 44) ∧ I 1 7 = nI (A 53)) (gd : ∀ q, q < 5 → I 2 q = nI (A (5 + q))) (hl : I 35 0 = nI len) (hk : k < 8) : fX11_count (nI k) I = some (cvA A len k, I) := by
  obtain ⟨g0, g1, g2, g5, g6, g7⟩ := g
  have hn : A 0 ≤ 5 ∧ A 4 < 2 ^ A 0 := by unfold BA at hb; omega
  have h32 := pow_le32 hn.1
  have hdg := hb.dg
  have hlt := hdg.lt hn.1
  unfold fX11_count
  rcases (show k = 0 ∨ k = 1 ∨ k = 2 ∨ k = 3 ∨ k = 4 ∨ k = 5 ∨ k = 6 ∨ k = 7 by omega) with rfl | rfl | rfl | rfl | rfl | rfl | rfl | rfl
  · rw [if_pos (by decide), g0]; rfl
  · rw [if_neg (by decide), if_pos (by decide), g2]; rfl
  · rw [if_neg (by decide), if_neg (by decide), if_pos (by decide), bnd_s (doorCount_n (b := 1) g0 hn.1 gd hlt), ← dsum_rest hdg.2.1 5 hn.1 (by decide)]; rfl
  · rw [if_neg (by decide), if_neg (by decide), if_neg (by decide), if_pos (by decide), g1, bnd_s (popc _ (by omega))]; rfl
  · rw [if_neg (by decide), if_neg (by decide), if_neg (by decide), if_neg (by decide), if_pos (by decide), g5]; rfl
  · rw [if_neg (by decide), if_neg (by decide), if_neg (by decide), if_neg (by decide), if_neg (by decide), if_pos (by decide), g6]; rfl
  · rw [if_neg (by decide), if_neg (by decide), if_neg (by decide), if_neg (by decide), if_neg (by decide), if_neg (by decide), if_pos (by decide), g7]; rfl
  · rw [if_neg (by decide), if_neg (by decide), if_neg (by decide), if_neg (by decide), if_neg (by decide), if_neg (by decide), if_neg (by decide), if_pos (by decide), hl]; rfl
theorem ok_count {T : Nat} {I : Mem} (h : Sim T I) (x1 : Int32) : OK T I (fX11_count x1) (fX12_count x1) := by
  obtain ⟨A, w, pw, hc, hv, hb, ⟨g0, g1, g2, g3, g4, g5, g6, g7⟩, gd, gp, hr⟩ := h.get
  obtain ⟨len, t1, t2, t3, t4⟩ := h.2.2.2.1
  have hn : A 0 ≤ 5 ∧ A 4 < 2 ^ A 0 := by unfold BA at hb; omega
  have h32 := pow_le32 hn.1
  rcases rng x1 0 7 (by decide) with ⟨k, -, hk, rfl⟩ | hf
  · refine ok_same h (cvA A len k) (countX_n hb ⟨g0, g1, g2, g5, g6, g7⟩ gd t2 (by omega)) ?_
    unfold fX12_count
    rw [bnd_s (in_t (lo := 0) (hi := 7) rfl rfl (by omega) hk (by omega)), if_neg (by decide), bnd_s (countOf_n hr (hb.dg.lt hn.1) (by omega) t3 (by omega))]
  · refine ok_bad h (-2) ?_ ?_
    · unfold fX11_count
      rw [if_neg (fun e => hf (by rw [e]; decide)), if_neg (fun e => hf (by rw [e]; decide)), if_neg (fun e => hf (by rw [e]; decide)), if_neg (fun e => hf (by rw [e]; decide)), if_neg (fun e => hf (by rw [e]; decide)), if_neg (fun e => hf (by rw [e]; decide)), if_neg (fun e => hf (by rw [e]; decide)), if_neg (fun e => hf (by rw [e]; decide)), refX]
      rfl
    · unfold fX12_count
      rw [bnd_s (in_f (lo := 0) (hi := 7) rfl rfl hf), if_pos (by decide), refM]
      rfl
