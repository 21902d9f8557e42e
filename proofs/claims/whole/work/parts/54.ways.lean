/-! ===== Ways ===== -/
/-- the rooms of a mask -/
def bl (m : Nat) : List Nat := (List.range 5).filter (fun r => m.testBit r)
theorem bl_lt {m r : Nat} (h : r ∈ bl m) : r < 5 ∧ m.testBit r = true := by
  unfold bl at h
  rw [List.mem_filter, List.mem_range] at h
  exact h
theorem bl_lt8 (m : Nat → Nat) : ∀ k r, r ∈ bl (m k) → r < 8 := fun k r h => by have := (bl_lt h).1; omega
theorem bl_len : ∀ m, m < 32 → pc m = (bl m).length := by decide +kernel
def hiI (m r : Nat) : Int32 := nI m &&& ((-2 : Int32) <<< (nI r &&& 31))
def mkOk (m i : Nat) : Bool := if i + 1 < (bl m).length then decide (hiI m ((bl m).getD i 0) ≠ 0) && decide (fJ6_numberOfTrailingZeros_0f7a4 (hiI m ((bl m).getD i 0)) (fun _ _ => 0) = some (nI ((bl m).getD (i + 1) 0))) else decide (hiI m ((bl m).getD i 0) = 0) && decide (fJ6_numberOfTrailingZeros_0f7a4 (nI m) (fun _ _ => 0) = some (nI ((bl m).getD 0 0)))
theorem mk_all : ((List.range 32).all fun m => (List.range (bl m).length).all fun i => mkOk m i) = true := by decide +kernel
theorem mk_hi (m : Nat) (hm : m < 32) (i : Nat) (hi : i < (bl m).length) : (i + 1 < (bl m).length → hiI m ((bl m).getD i 0) ≠ 0 ∧ fJ6_numberOfTrailingZeros_0f7a4 (hiI m ((bl m).getD i 0)) (fun _ _ => 0) = some (nI ((bl m).getD (i + 1) 0))) ∧ (i + 1 = (bl m).length → hiI m ((bl m).getD i 0) = 0 ∧ fJ6_numberOfTrailingZeros_0f7a4 (nI m) (fun _ _ => 0) = some (nI ((bl m).getD 0 0))) := by
  have h := mk_all
  rw [List.all_eq_true] at h
  have h2 := h m (List.mem_range.mpr hm)
  rw [List.all_eq_true] at h2
  have h3 := h2 i (List.mem_range.mpr hi)
  unfold mkOk at h3
  refine ⟨fun c => ?_, fun c => ?_⟩
  · rw [if_pos c, Bool.and_eq_true, decide_eq_true_iff, decide_eq_true_iff] at h3
    exact h3
  · rw [if_neg (by omega), Bool.and_eq_true, decide_eq_true_iff, decide_eq_true_iff] at h3
    exact h3
theorem mk_lo : ∀ m, m < 32 → (fJ6_numberOfTrailingZeros_0f7a4 (nI m) (fun _ _ => 0)).map (fun v => v &&& 7) = some (nI ((bl m).getD 0 0)) := by decide +kernel
theorem ntz_I (x : Int32) (I : Mem) : fJ6_numberOfTrailingZeros_0f7a4 x I = fJ6_numberOfTrailingZeros_0f7a4 x (fun _ _ => 0) := rfl
theorem bl_len5 (m : Nat) : (bl m).length ≤ 5 := by
  unfold bl
  have := List.length_filter_le (fun r => m.testBit r) (List.range 5)
  rwa [List.length_range] at this
theorem getD_lt5 (m i : Nat) : (bl m).getD i 0 < 5 := by
  by_cases h : i < (bl m).length
  · exact (bl_lt (getD_mem h)).1
  · simp only [List.getD_eq_getElem?_getD]
    rw [List.getElem?_eq_none (by omega)]
    decide
/-- a figure replaced -/
def setdg (s p r : Nat) : Nat := s / 8 ^ (p + 1) * 8 ^ (p + 1) + (r * 8 ^ p + s % 8 ^ p)
theorem setdg_n {s p r : Nat} (hs : s < 2 ^ 12) (hr : r < 8) : (s &&& (7 * 2 ^ (3 * p) ^^^ (2 ^ 32 - 1))) ||| r * 2 ^ (3 * p) = setdg s p r := by
  have e8 : ∀ k, (8 : Nat) ^ k = 2 ^ (3 * k) := fun k => by rw [Nat.pow_mul]
  have hm : s % 2 ^ (3 * p) < 2 ^ (3 * p) := Nat.mod_lt _ (Nat.pow_pos (by decide))
  have hlow : 2 ^ (3 * p) * r + s % 2 ^ (3 * p) < 2 ^ (3 * (p + 1)) := by
    rw [show 3 * (p + 1) = 3 * p + 3 by omega, Nat.pow_add]
    have : 2 ^ (3 * p) * r ≤ 2 ^ (3 * p) * 7 := Nat.mul_le_mul_left _ (by omega)
    omega
  have e : setdg s p r = 2 ^ (3 * (p + 1)) * (s / 2 ^ (3 * (p + 1))) + (2 ^ (3 * p) * r + s % 2 ^ (3 * p)) := by
    unfold setdg
    rw [e8, e8, Nat.mul_comm, Nat.mul_comm r]
  rw [e]
  apply Nat.eq_of_testBit_eq
  intro j
  rw [Nat.testBit_two_pow_mul_add _ hlow, Nat.testBit_two_pow_mul_add _ hm, Nat.testBit_or, Nat.testBit_and, Nat.testBit_xor, Nat.testBit_two_pow_sub_one, Nat.testBit_mul_two_pow, Nat.testBit_mul_two_pow, Nat.testBit_mod_two_pow, Nat.testBit_div_two_pow]
  by_cases c1 : j < 3 * p
  · rw [if_pos (by omega), if_pos c1, decide_eq_false (p := 3 * p ≤ j) (by omega), decide_eq_true c1]
    by_cases c0 : j < 12
    · rw [decide_eq_true (p := j < 32) (by omega)]
      simp
    · rw [show s.testBit j = false from Nat.testBit_lt_two_pow (Nat.lt_of_lt_of_le hs (Nat.pow_le_pow_right (by decide) (by omega)))]
      simp
  · by_cases c2 : j < 3 * (p + 1)
    · rw [if_pos c2, if_neg c1, decide_eq_true (p := 3 * p ≤ j) (by omega), show (7 : Nat) = 2 ^ 3 - 1 from rfl, Nat.testBit_two_pow_sub_one, decide_eq_true (p := j - 3 * p < 3) (by omega)]
      by_cases c0 : j < 12
      · rw [decide_eq_true (p := j < 32) (by omega)]
        simp
      · rw [show s.testBit j = false from Nat.testBit_lt_two_pow (Nat.lt_of_lt_of_le hs (Nat.pow_le_pow_right (by decide) (by omega)))]
        simp
    · rw [if_neg c2, show (7 : Nat) = 2 ^ 3 - 1 from rfl, Nat.testBit_two_pow_sub_one, decide_eq_false (p := j - 3 * p < 3) (by omega), show r.testBit (j - 3 * p) = false from Nat.testBit_lt_two_pow (Nat.lt_of_lt_of_le (show r < 2 ^ 3 from hr) (Nat.pow_le_pow_right (by decide) (by omega))), show j - 3 * (p + 1) + 3 * (p + 1) = j by omega]
      by_cases c0 : j < 12
      · rw [decide_eq_true (p := j < 32) (by omega)]
        simp
      · rw [show s.testBit j = false from Nat.testBit_lt_two_pow (Nat.lt_of_lt_of_le hs (Nat.pow_le_pow_right (by decide) (by omega)))]
        simp
theorem setdg_i {s p r : Nat} (hs : s < 4096) (hp : p < 4) (hr : r < 8) : (nI s &&& (((7 : Int32) <<< (nI (3 * p) &&& 31)) ^^^ (-1 : Int32))) ||| (nI r <<< (nI (3 * p) &&& 31)) = nI (setdg s p r) := by
  have h1 : 2 ^ (3 * p) ≤ 2 ^ 9 := Nat.pow_le_pow_right (by decide) (by omega)
  have h2 : 7 * 2 ^ (3 * p) ≤ 7 * 2 ^ 9 := Nat.mul_le_mul_left _ h1
  have h3 : r * 2 ^ (3 * p) ≤ 7 * 2 ^ 9 := Nat.mul_le_mul (by omega) h1
  rw [show (7 : Int32) = nI 7 from rfl, n_shl (by omega) (by omega), n_shl (by omega) (by omega), show (-1 : Int32) = nI (2 ^ 32 - 1) from rfl, n_xor, n_and, n_or, setdg_n hs hr]
theorem sp_dg {u r c k : Nat} (hu : u < 8 ^ k) (hr : r < 8) : dg (u + r * 8 ^ k + c * 8 ^ (k + 1)) k = r := by
  unfold dg
  rw [show u + r * 8 ^ k + c * 8 ^ (k + 1) = 8 ^ k * (r + 8 * c) + u by rw [Nat.pow_succ, Nat.mul_add]; simp only [Nat.mul_assoc, Nat.mul_comm, Nat.mul_left_comm]; omega, Nat.mul_add_div (Nat.pow_pos (by decide)), Nat.div_eq_of_lt hu]
  omega
theorem sp_set {u r c k r2 : Nat} (hu : u < 8 ^ k) (hr : r < 8) : setdg (u + r * 8 ^ k + c * 8 ^ (k + 1)) k r2 = u + r2 * 8 ^ k + c * 8 ^ (k + 1) := by
  unfold setdg
  have a1 := add_lt8 hu hr
  have e1 : (u + r * 8 ^ k + c * 8 ^ (k + 1)) / 8 ^ (k + 1) = c := by
    rw [Nat.add_mul_div_right _ _ (Nat.pow_pos (by decide)), Nat.div_eq_of_lt a1, Nat.zero_add]
  have e2 : (u + r * 8 ^ k + c * 8 ^ (k + 1)) % 8 ^ k = u := by
    rw [show u + r * 8 ^ k + c * 8 ^ (k + 1) = u + 8 ^ k * (r + 8 * c) by rw [Nat.pow_succ, Nat.mul_add]; simp only [Nat.mul_assoc, Nat.mul_comm, Nat.mul_left_comm]; omega, Nat.add_mul_mod_self_left, Nat.mod_eq_of_lt hu]
  rw [e1, e2]
  omega
theorem up2_up2 {I : Mem} {c i : Nat} {v u : Int32} : up2 (up2 I c i v) c i u = up2 I c i u := by
  unfold up2
  rw [upA_upA, upA_self]
  congr 1
  funext k
  unfold upd
  by_cases e : k = i
  · rw [if_pos e, if_pos e]
  · rw [if_neg e, if_neg e, if_neg e]
theorem up2_same (I : Mem) (c i : Nat) : up2 I c i (I c i) = I := by
  unfold up2
  rw [upd_same, upA_same]
theorem nI_sub1 (x : Int32) : x + (-1 : Int32) = x - 1 := by
  rw [Int32.sub_eq_add_neg]
/-- the standings of masks -/
def enW (m : Nat → Nat) (k : Nat) : List Nat := ens (fun p => bl (m p)) k
theorem enW_lt (m : Nat → Nat) (k : Nat) : ∀ s, s ∈ enW m k → s < 8 ^ k := ens_lt (bl_lt8 m) k
theorem enW_len (m : Nat → Nat) (k : Nat) : (enW m (k + 1)).length = (enW m k).length * (bl (m k)).length := ens_len _ k
theorem enW_at {m : Nat → Nat} {k q t : Nat} (hq : q < (enW m k).length) (ht : t < (bl (m k)).length) : (enW m (k + 1)).getD (q * (bl (m k)).length + t) 0 = (enW m k).getD q 0 + (bl (m k)).getD t 0 * 8 ^ k := ens_at hq ht
theorem step_k {w0 : Nat} {m : Nat → Nat} (hm : ∀ p, p < 4 → m p < 32) : ∀ (k i c n : Nat) (I : Mem), k ≤ 4 → i < (enW m k).length → (enW m k).getD i 0 + c * 8 ^ k < 4096 → c * 8 ^ k < 4096 ∧ c < 8 ^ (4 - k) → (∀ p, p < k → I (w0 + 1) p = nI (m p)) → I w0 0 = nI ((enW m k).getD i 0 + c * 8 ^ k) → k < n → iter (sX10_step_7 w0) n (nI k - 1, I) = some (up2 I w0 0 (nI ((enW m k).getD ((i + 1) % (enW m k).length) 0 + c * 8 ^ k)))
  | 0, i, c, 0, I, _, _, _, _, _, _, hn => by omega
  | 0, i, c, n + 1, I, _, hi, _, _, _, h0, _ => by
    have hl : (enW m 0).length = 1 := rfl
    refine iter_inr ?_
    unfold sX10_step_7 bX10_step_7
    dsimp only
    rw [if_pos (by decide), hl]
    rw [hl] at hi
    rw [show i = 0 by omega] at h0
    rw [show (i + 1) % 1 = 0 by omega, ← h0, up2_same]
  | k + 1, i, c, 0, I, _, _, _, _, _, _, hn => by omega
  | k + 1, i, c, n + 1, I, hk, hi, hs, hc, hI, h0, hn => by
    have hlen := enW_len m k
    generalize hl : (bl (m k)).length = l at hlen
    have hl0 : 0 < l := by
      rcases Nat.eq_zero_or_pos l with z | z
      · rw [hlen, z] at hi; omega
      · exact z
    have hl5 : l ≤ 5 := by rw [← hl]; exact bl_len5 _
    have hq : i / l < (enW m k).length := by rw [hlen] at hi; exact Nat.div_lt_of_lt_mul (by rw [Nat.mul_comm]; exact hi)
    have ht : i % l < l := Nat.mod_lt _ hl0
    have hd : i / l * l + i % l = i := by rw [Nat.mul_comm]; exact Nat.div_add_mod i l
    have hat := enW_at (m := m) hq (by rw [hl]; exact ht)
    rw [hl, hd] at hat
    have hu := enW_lt m k _ (getD_mem hq)
    have hr5 := getD_lt5 (m k) (i % l)
    have hmk := mk_hi (m k) (hm k (by omega)) (i % l) (by omega)
    rw [hl] at hmk
    generalize hU : (enW m k).getD (i / l) 0 = u at hat hu
    generalize hR : (bl (m k)).getD (i % l) 0 = r at hat hr5 hmk
    rw [hat] at h0 hs
    have hroom : fX11_roomOf (I w0 0) (nI k) I = some (nI r) := by
      rw [h0, roomOf_n I (by omega) (by omega), sp_dg hu (by omega)]
    have hj : ∀ (u0 x3 : Int32) (r2 : Nat), r2 < 5 → fJ6_numberOfTrailingZeros_0f7a4 u0 (fun _ _ => 0) = some (nI r2) → jX10_step_48 w0 (nI k) (nI (3 * k)) x3 u0 I = if x3 = 0 then some (.inl (nI k + (-1 : Int32), up2 I w0 0 (nI (u + r2 * 8 ^ k + c * 8 ^ (k + 1))))) else some (.inr (up2 I w0 0 (nI (u + r2 * 8 ^ k + c * 8 ^ (k + 1))))) := by
      intro u0 x3 r2 hr2 hz
      unfold jX10_step_48
      rw [bnd_s (by rw [ntz_I]; exact hz), n_and7 (by omega), Nat.mod_eq_of_lt (by omega), h0, setdg_i hs (by omega) (by omega), sp_set hu (by omega)]
      rfl
    have hstep : sX10_step_7 w0 (nI (k + 1) - 1, I) = if hiI (m k) r = 0 then jX10_step_48 w0 (nI k) (nI (3 * k)) (hiI (m k) r) (nI (m k)) I else jX10_step_48 w0 (nI k) (nI (3 * k)) (hiI (m k) r) (hiI (m k) r) I := by
      unfold sX10_step_7 bX10_step_7
      dsimp only
      rw [show nI (k + 1) - 1 = nI k from nI_pred k, if_neg (nI_pos (by omega)), show (3 : Int32) = nI 3 from rfl, pk_mul]
      dsimp only [letb]
      rw [chk_t (inb_n (by omega) (by decide)), bnd_s hroom, ix_n (by omega), hI k (by omega), chk_t (inb_n (by omega) (by decide))]
      rfl
    by_cases ct : i % l + 1 < l
    · have h1 := hmk.1 ct
      refine iter_inr ?_
      rw [hstep, if_neg h1.1, hj _ _ _ (getD_lt5 _ _) h1.2, if_neg h1.1]
      have e1 : (i + 1) % (enW m (k + 1)).length = i / l * l + (i % l + 1) := by
        rw [show i / l * l + (i % l + 1) = i + 1 by omega]
        refine Nat.mod_eq_of_lt ?_
        rw [hlen]
        have : (i / l + 1) * l ≤ (enW m k).length * l := Nat.mul_le_mul_right _ hq
        rw [Nat.succ_mul] at this
        omega
      have hat2 := enW_at (m := m) hq (t := i % l + 1) (by rw [hl]; exact ct)
      rw [hl] at hat2
      rw [e1, hat2, hU]
    · have h1 := hmk.2 (by omega)
      have hz5 := getD_lt5 (m k) 0
      have hb : (8 : Nat) ^ (k + 1) = 8 ^ k * 8 := Nat.pow_succ ..
      have e3 : ∀ x z : Nat, x + z * 8 ^ k + c * 8 ^ (k + 1) = x + (z + 8 * c) * 8 ^ k := fun x z => by
        rw [hb, Nat.add_mul, Nat.mul_assoc 8 c, Nat.mul_comm (8 ^ k) 8, Nat.mul_left_comm c 8]
        omega
      have hst : sX10_step_7 w0 (nI (k + 1) - 1, I) = some (.inl (nI k - 1, up2 I w0 0 (nI (u + ((bl (m k)).getD 0 0 + 8 * c) * 8 ^ k)))) := by
        rw [hstep, if_pos h1.1, hj _ _ _ hz5 h1.2, if_pos h1.1, nI_sub1, e3]
      rw [iter_inl hst]
      have hc2 : ((bl (m k)).getD 0 0 + 8 * c) < 8 ^ (4 - k) := by
        have : 8 ^ (4 - k) = 8 * 8 ^ (4 - (k + 1)) := by rw [← Nat.pow_succ', show (4 - (k + 1)).succ = 4 - k by omega]
        have := hc.2
        omega
      have hc3 : ∀ x, x < 8 ^ k → x + ((bl (m k)).getD 0 0 + 8 * c) * 8 ^ k < 4096 := fun x hx => by
        have h4 : 8 ^ (4 - k) * 8 ^ k = 4096 := by rw [← Nat.pow_add, show 4 - k + k = 4 by omega]
        have h5 : ((bl (m k)).getD 0 0 + 8 * c + 1) * 8 ^ k ≤ 8 ^ (4 - k) * 8 ^ k := Nat.mul_le_mul_right _ hc2
        rw [h4, Nat.succ_mul] at h5
        omega
      have ih := step_k (w0 := w0) hm k (i / l) ((bl (m k)).getD 0 0 + 8 * c) n (up2 I w0 0 (nI (u + ((bl (m k)).getD 0 0 + 8 * c) * 8 ^ k))) (by omega) hq (by rw [hU]; exact hc3 u hu) ⟨by have := hc3 0 (Nat.pow_pos (by decide)); omega, hc2⟩ (fun p hp => by rw [up2_c (by omega)]; exact hI p (by omega)) (by rw [up2_self, hU]) (by omega)
      rw [ih, up2_up2]
      have e1 : (i + 1) % (enW m (k + 1)).length = (i / l + 1) % (enW m k).length * l + 0 := by
        rw [hlen, show i + 1 = (i / l + 1) * l by rw [Nat.succ_mul]; omega, Nat.mul_mod_mul_right]
        rfl
      have hq2 : (i / l + 1) % (enW m k).length < (enW m k).length := Nat.mod_lt _ (Nat.lt_of_le_of_lt (Nat.zero_le _) hq)
      have hat2 := enW_at (m := m) hq2 (t := 0) (by rw [hl]; exact hl0)
      rw [hl] at hat2
      rw [e1, hat2, e3]
/-- one step of Ways -/
theorem step_n {w0 np i : Nat} {m : Nat → Nat} {I : Mem} (hm : ∀ p, p < 4 → m p < 32) (hnp : np ≤ 4) (hi : i < (enW m np).length) (h0 : I w0 0 = nI ((enW m np).getD i 0)) (h1 : I w0 1 = nI np) (hI : ∀ p, p < np → I (w0 + 1) p = nI (m p)) : fX10_step w0 I = some (up2 I w0 0 (nI ((enW m np).getD ((i + 1) % (enW m np).length) 0))) := by
  unfold fX10_step
  dsimp only [letb]
  have hlt := enW_lt m np _ (getD_mem hi)
  have h8 := pow8_le hnp
  have := step_k (w0 := w0) hm np i 0 FU I hnp hi (by omega) ⟨by omega, Nat.pow_pos (by decide)⟩ hI (by rw [h0, Nat.zero_mul, Nat.add_zero]) (FU_lt (by omega))
  rw [h1, this, Nat.zero_mul, Nat.add_zero]
def at0 (m : Nat → Nat) : Nat → Nat
  | 0 => 0
  | k + 1 => at0 m k + (bl (m k)).getD 0 0 * 8 ^ k
theorem at0_lt (m : Nat → Nat) : ∀ k, at0 m k < 8 ^ k
  | 0 => Nat.one_pos
  | k + 1 => add_lt8 (at0_lt m k) (by have := getD_lt5 (m k) 0; omega)
theorem at0_eq (m : Nat → Nat) : ∀ k, 0 < (enW m k).length → (enW m k).getD 0 0 = at0 m k
  | 0, _ => rfl
  | k + 1, h => by
    rw [enW_len] at h
    have h1 : 0 < (enW m k).length := by
      rcases Nat.eq_zero_or_pos (enW m k).length with z | z
      · rw [z] at h; omega
      · exact z
    have h2 : 0 < (bl (m k)).length := by
      rcases Nat.eq_zero_or_pos (bl (m k)).length with z | z
      · rw [z] at h; omega
      · exact z
    have := enW_at (m := m) h1 h2
    rw [Nat.zero_mul, Nat.zero_add] at this
    rw [this, at0_eq m k h1, at0]
theorem begin_n {w0 np : Nat} {m : Nat → Nat} {I : Mem} (hm : ∀ p, p < 4 → m p < 32) (hnp : np ≤ 4) (h1 : I w0 1 = nI np) (hI : ∀ p, p < np → I (w0 + 1) p = nI (m p)) : fX10_begin w0 I = some (nI (enW m np).length, up2 I w0 0 (nI (at0 m np))) := by
  unfold fX10_begin
  dsimp only [letb]
  have e0 : ((1 : Int32), (0 : Int32), up2 I w0 0 0) = (fun i => (nI (enW m i).length, nI i, up2 I w0 0 (nI (at0 m i)))) 0 := rfl
  rw [e0]
  refine iter_go (fun i => (nI (enW m i).length, nI i, up2 I w0 0 (nI (at0 m i)))) np (FU_lt (by omega)) ?_ (fun i hi => ?_)
  · unfold sX10_begin_9 bX10_begin_9
    dsimp only
    rw [if_pos (by rw [up2_i (by decide), h1, nI_leI (by omega) (by omega)]; omega)]
  · unfold sX10_begin_9 bX10_begin_9
    dsimp only
    have hmi := hm i (by omega)
    obtain ⟨v, hv1, hv2⟩ : ∃ v, fJ6_numberOfTrailingZeros_0f7a4 (nI (m i)) (up2 I w0 0 (nI (at0 m i))) = some v ∧ v &&& 7 = nI ((bl (m i)).getD 0 0) := by
      have := mk_lo (m i) hmi
      rw [Option.map_eq_some_iff] at this
      obtain ⟨v, a, b⟩ := this
      exact ⟨v, by rw [ntz_I]; exact a, b⟩
    have h5 := getD_lt5 (m i) 0
    have hb : (bl (m i)).getD 0 0 * 2 ^ (3 * i) < 2 ^ 32 := by
      have h1 : 2 ^ (3 * i) ≤ 2 ^ 9 := Nat.pow_le_pow_right (by decide) (by omega)
      have h2 : (bl (m i)).getD 0 0 * 2 ^ (3 * i) ≤ 7 * 2 ^ 9 := Nat.mul_le_mul (by omega) h1
      omega
    rw [if_neg (by rw [up2_i (by decide), h1, nI_leI (by omega) (by omega)]; omega), chk_t (inb_n (by omega) (by decide)), ix_n (by omega), up2_c (a := w0 + 1) (by omega), hI i hi, bnd_s (popc _ hmi)]
    dsimp only [letb]
    rw [chk_t (inb_n (by omega) (by decide)), bnd_s hv1, hv2, up2_self, show (3 : Int32) = nI 3 from rfl, pk_mul, pk_mul, n_shl (by omega) hb, n_or, or_add8 (at0_lt m i), nI_1, bl_len _ hmi, ← enW_len, up2_up2, at0]
/-- what Ways holds: it stands at s, of these masks -/
def WS (I : Mem) (w0 np : Nat) (m : Nat → Nat) (s : Nat) : Prop := I w0 0 = nI s ∧ I w0 1 = nI np ∧ ∀ p, p < np → I (w0 + 1) p = nI (m p)
theorem WS.congr {I J : Mem} {w0 np : Nat} {m : Nat → Nat} {s : Nat} (h : WS I w0 np m s) (e0 : J w0 = I w0) (e1 : J (w0 + 1) = I (w0 + 1)) : WS J w0 np m s := by
  unfold WS
  rw [e0, e1]
  exact h
theorem WS.step {I : Mem} {w0 np : Nat} {m : Nat → Nat} {i : Nat} (h : WS I w0 np m ((enW m np).getD i 0)) (hm : ∀ p, p < 4 → m p < 32) (hnp : np ≤ 4) (hi : i < (enW m np).length) : ∃ J, fX10_step w0 I = some J ∧ (i + 1 < (enW m np).length → WS J w0 np m ((enW m np).getD (i + 1) 0)) ∧ (∀ c, c ≠ w0 → J c = I c) := by
  refine ⟨_, step_n hm hnp hi h.1 h.2.1 h.2.2, fun hi2 => ?_, fun c hc => up2_cc hc⟩
  rw [Nat.mod_eq_of_lt hi2]
  exact ⟨up2_self .., by rw [up2_i (by decide)]; exact h.2.1, fun p hp => by rw [up2_c (by omega)]; exact h.2.2 p hp⟩
/-- what the ones that begin leave -/
def WB (I J : Mem) (w0 np : Nat) (m : Nat → Nat) : Prop := (0 < (enW m np).length → WS J w0 np m ((enW m np).getD 0 0)) ∧ ∀ c, c ≠ w0 → c ≠ w0 + 1 → J c = I c
theorem wb_begin {w0 np : Nat} {m : Nat → Nat} {I I0 : Mem} (hm : ∀ p, p < 4 → m p < 32) (hnp : np ≤ 4) (h1 : I w0 1 = nI np) (hI : ∀ p, p < np → I (w0 + 1) p = nI (m p)) (hc : ∀ c, c ≠ w0 → c ≠ w0 + 1 → I c = I0 c) : ∃ J, fX10_begin w0 I = some (nI (enW m np).length, J) ∧ WB I0 J w0 np m := by
  refine ⟨_, begin_n hm hnp h1 hI, fun hl => ⟨?_, ?_, fun p hp => ?_⟩, fun c q1 q2 => ?_⟩
  · rw [up2_self, at0_eq m np hl]
  · rw [up2_i (by decide)]; exact h1
  · rw [up2_c (by omega)]; exact hI p hp
  · rw [up2_cc q1]; exact hc c q1 q2
theorem enW_cong {m m2 : Nat → Nat} : ∀ {k : Nat}, (∀ p, p < k → m p = m2 p) → enW m k = enW m2 k
  | 0, _ => rfl
  | k + 1, h => by
    show (enW m k).flatMap _ = (enW m2 k).flatMap _
    rw [enW_cong (fun p hp => h p (by omega))]
    dsimp only
    rw [h k (by omega)]
theorem all_n {w0 b n np : Nat} {I : Mem} (hl : ln (w0 + 1) = 4) (hwb : b ≠ w0) (g0 : I b 0 = nI n) (hn : n ≤ 5) (g2 : I b 2 = nI np) (hnp : np ≤ 4) : ∃ J, fX10_all w0 b I = some (nI (enW (fun _ => 2 ^ n - 1) np).length, J) ∧ WB I J w0 np (fun _ => 2 ^ n - 1) := by
  unfold fX10_all
  dsimp only [letb]
  have h32 := pow_le32 hn
  have hpos : 0 < 2 ^ n := Nat.pow_pos (by decide)
  have he : fX4_everywhere b (up2 I w0 1 (I b 2)) = some (nI (2 ^ n - 1)) := by
    unfold fX4_everywhere
    rw [up2_c hwb, g0, n_one (by omega), show (1 : Int32) = nI 1 from rfl, pk_sub (by omega)]
  rw [bnd_s he, bnd_s (fill_n hl (by decide))]
  obtain ⟨J, j1, j2⟩ := wb_begin (w0 := w0) (np := np) (m := fun _ => 2 ^ n - 1) (I := upA (up2 I w0 1 (I b 2)) (w0 + 1) (flA (up2 I w0 1 (I b 2) (w0 + 1)) (nI (2 ^ n - 1)) 4)) (I0 := I) (fun p _ => by omega) hnp (by rw [upA_c (by omega), up2_self]; exact g2) (fun p hp => by rw [upA_self]; exact if_pos (by omega)) (fun c q1 q2 => by rw [upA_c q2, up2_cc q1])
  exact ⟨J, by rw [bnd2_s j1], j2⟩
/-- masks laid one by one -/
def mkA (f : Nat → Int32) (m : Nat → Nat) (i : Nat) : Nat → Int32 := fun k => if k < i then nI (m k) else f k
theorem mkA_0 (f : Nat → Int32) (m : Nat → Nat) : mkA f m 0 = f := by
  funext k
  exact if_neg (by omega)
theorem mkA_s (f : Nat → Int32) (m : Nat → Nat) (i : Nat) : upd (mkA f m i) i (nI (m i)) = mkA f m (i + 1) := by
  funext k
  by_cases c : k = i
  · rw [show upd (mkA f m i) i (nI (m i)) k = nI (m i) from if_pos c]
    unfold mkA
    rw [if_pos (by omega), c]
  · rw [show upd (mkA f m i) i (nI (m i)) k = mkA f m i k from if_neg c]
    unfold mkA
    by_cases q : k < i
    · rw [if_pos q, if_pos (by omega)]
    · rw [if_neg q, if_neg (by omega)]
theorem onward_n {w0 b np s : Nat} {D : Nat → Nat} {I : Mem} (hb : w0 ≠ b ∧ w0 ≠ b + 1 ∧ w0 + 1 ≠ b + 1) (g2 : I b 2 = nI np) (hnp : np ≤ 4) (hd : ∀ q, q < 5 → I (b + 1) q = nI (D q)) (hD : ∀ q, q < 5 → D q < 32) (hs : s < 2 ^ 31) (hv : ∀ p, p < 4 → dg s p < 5) : ∃ J, fX10_onward w0 b (nI s) I = some (nI (enW (fun p => D (dg s p) ||| 2 ^ dg s p) np).length, J) ∧ WB I J w0 np (fun p => D (dg s p) ||| 2 ^ dg s p) := by
  have hm : ∀ p, p < 4 → D (dg s p) ||| 2 ^ dg s p < 32 := fun p hp => or_lt32 (hD _ (hv p hp)) (hv p hp)
  generalize hM : (fun p => D (dg s p) ||| 2 ^ dg s p) = m
  have hm2 : ∀ p, p < 4 → m p < 32 := fun p hp => by rw [← hM]; exact hm p hp
  unfold fX10_onward
  dsimp only [letb]
  rw [g2]
  generalize hI1 : up2 I w0 1 (nI np) = I1
  obtain ⟨J, j1, j2⟩ := wb_begin (w0 := w0) (np := np) (m := m) (I := upA I1 (w0 + 1) (mkA (I1 (w0 + 1)) m np)) (I0 := I) hm2 hnp (by rw [upA_c (by omega), ← hI1, up2_self]) (fun p hp => by rw [upA_self]; exact if_pos hp) (fun c q1 q2 => by rw [upA_c q2, ← hI1, up2_cc q1])
  refine ⟨J, ?_, j2⟩
  have e0 : ((0 : Int32), I1) = (fun i => (nI i, upA I1 (w0 + 1) (mkA (I1 (w0 + 1)) m i))) 0 := by
    show _ = (nI 0, upA I1 (w0 + 1) (mkA (I1 (w0 + 1)) m 0))
    rw [mkA_0, upA_same]
    rfl
  rw [e0]
  have ew : ∀ i, upA I1 (w0 + 1) (mkA (I1 (w0 + 1)) m i) w0 1 = nI np := fun i => by rw [upA_c (by omega), ← hI1, up2_self]
  refine iter_go (fun i => (nI i, upA I1 (w0 + 1) (mkA (I1 (w0 + 1)) m i))) np (FU_lt (by omega)) ?_ (fun i hi => ?_)
  · unfold sX10_onward_10 bX10_onward_10
    dsimp only
    rw [if_pos (by rw [ew, nI_leI (by omega) (by omega)]; omega), bnd2_s j1]
  · unfold sX10_onward_10 bX10_onward_10
    dsimp only
    have hvi := hv i (by omega)
    rw [if_neg (by rw [ew, nI_leI (by omega) (by omega)]; omega), bnd_s (roomOf_n _ hs (by omega)), bnd_s (reach_n hvi (a := D (dg s i)) (by rw [upA_c (by omega), ← hI1, up2_c (by omega)]; exact hd _ hvi)), chk_t (inb_n (by omega) (by decide)), ix_n (by omega), nI_1]
    dsimp only [letb]
    rw [up2_upA, show D (dg s i) ||| 2 ^ dg s i = m i by rw [← hM], mkA_s]
theorem onwardAmong_n {w0 b a3 np s : Nat} {D R : Nat → Nat} {I : Mem} (hb : w0 ≠ b ∧ w0 ≠ b + 1 ∧ w0 + 1 ≠ b + 1 ∧ a3 ≠ w0 ∧ a3 ≠ w0 + 1) (hla : ln a3 = 4) (g2 : I b 2 = nI np) (hnp : np ≤ 4) (hd : ∀ q, q < 5 → I (b + 1) q = nI (D q)) (hD : ∀ q, q < 5 → D q < 32) (hR : ∀ p, p < np → I a3 p = nI (R p)) (hs : s < 2 ^ 31) (hv : ∀ p, p < 4 → dg s p < 5) : ∃ J, fX10_onwardAmong w0 b (nI s) a3 I = some (nI (enW (fun p => (D (dg s p) ||| 2 ^ dg s p) &&& R p) np).length, J) ∧ WB I J w0 np (fun p => (D (dg s p) ||| 2 ^ dg s p) &&& R p) := by
  have hm : ∀ p, p < 4 → (D (dg s p) ||| 2 ^ dg s p) &&& R p < 32 := fun p hp => Nat.lt_of_le_of_lt Nat.and_le_left (or_lt32 (hD _ (hv p hp)) (hv p hp))
  generalize hM : (fun p => (D (dg s p) ||| 2 ^ dg s p) &&& R p) = m
  have hm2 : ∀ p, p < 4 → m p < 32 := fun p hp => by rw [← hM]; exact hm p hp
  unfold fX10_onwardAmong
  dsimp only [letb]
  rw [g2]
  generalize hI1 : up2 I w0 1 (nI np) = I1
  obtain ⟨J, j1, j2⟩ := wb_begin (w0 := w0) (np := np) (m := m) (I := upA I1 (w0 + 1) (mkA (I1 (w0 + 1)) m np)) (I0 := I) hm2 hnp (by rw [upA_c (by omega), ← hI1, up2_self]) (fun p hp => by rw [upA_self]; exact if_pos hp) (fun c q1 q2 => by rw [upA_c q2, ← hI1, up2_cc q1])
  refine ⟨J, ?_, j2⟩
  have e0 : ((0 : Int32), I1) = (fun i => (nI i, upA I1 (w0 + 1) (mkA (I1 (w0 + 1)) m i))) 0 := by
    show _ = (nI 0, upA I1 (w0 + 1) (mkA (I1 (w0 + 1)) m 0))
    rw [mkA_0, upA_same]
    rfl
  rw [e0]
  have ew : ∀ i, upA I1 (w0 + 1) (mkA (I1 (w0 + 1)) m i) w0 1 = nI np := fun i => by rw [upA_c (by omega), ← hI1, up2_self]
  refine iter_go (fun i => (nI i, upA I1 (w0 + 1) (mkA (I1 (w0 + 1)) m i))) np (FU_lt (by omega)) ?_ (fun i hi => ?_)
  · unfold sX10_onwardAmong_11 bX10_onwardAmong_11
    dsimp only
    rw [if_pos (by rw [ew, nI_leI (by omega) (by omega)]; omega), bnd2_s j1]
  · unfold sX10_onwardAmong_11 bX10_onwardAmong_11
    dsimp only
    have hvi := hv i (by omega)
    rw [if_neg (by rw [ew, nI_leI (by omega) (by omega)]; omega), bnd_s (roomOf_n _ hs (by omega)), bnd_s (reach_n hvi (a := D (dg s i)) (by rw [upA_c (by omega), ← hI1, up2_c (by omega)]; exact hd _ hvi)), hla, chk_t (inb_n (by omega) (by decide)), chk_t (inb_n (by omega) (by decide)), ix_n (by omega), nI_1, upA_c (a := a3) (by omega), show I1 a3 i = nI (R i) by rw [← hI1, up2_c (by omega)]; exact hR i hi, n_and]
    dsimp only [letb]
    rw [up2_upA, show (D (dg s i) ||| 2 ^ dg s i) &&& R i = m i by rw [← hM], mkA_s]
theorem among_n {w0 b a2 np : Nat} {R : Nat → Nat} {I : Mem} (hb : a2 ≠ w0 ∧ a2 ≠ w0 + 1) (hla : ln a2 = 4) (g2 : I b 2 = nI np) (hnp : np ≤ 4) (hR : ∀ p, p < np → I a2 p = nI (R p)) (hR2 : ∀ p, p < 4 → R p < 32) : ∃ J, fX10_among w0 b a2 I = some (nI (enW R np).length, J) ∧ WB I J w0 np R := by
  unfold fX10_among
  dsimp only [letb]
  rw [g2, hla, chk_t (by decide)]
  simp only [show ix (0 : Int32) = 0 from rfl, show ix (4 : Int32) = 4 from rfl]
  generalize hI1 : up2 I w0 1 (nI np) = I1
  obtain ⟨J, j1, j2⟩ := wb_begin (w0 := w0) (np := np) (m := R) (I := upA I1 (w0 + 1) (cpA (I1 a2) (I1 (w0 + 1)) 0 0 4)) (I0 := I) hR2 hnp (by rw [upA_c (by omega), ← hI1, up2_self]) (fun p hp => by rw [upA_self, cpA_0 (by omega), ← hI1, up2_c (by omega)]; exact hR p hp) (fun c q1 q2 => by rw [upA_c q2, ← hI1, up2_cc q1])
  exact ⟨J, by rw [bnd2_s j1], j2⟩
