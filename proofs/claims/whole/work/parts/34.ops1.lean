/-! ===== numbers of the calls ===== -/
theorem i64_toInt (x : Int32) : x.toInt64.toInt = x.toInt := by simp
theorem lg_lt {x y : Int64} : lg_cmp x y < 0 ↔ x.toInt < y.toInt := by
  unfold lg_cmp
  by_cases h : x > y
  · have h2 : y.toInt < x.toInt := Int64.lt_iff_toInt_lt.mp h
    rw [if_pos h]
    constructor
    · intro q; exact absurd q (by decide)
    · intro q; omega
  · rw [if_neg h]
    by_cases e : x = y
    · rw [if_pos e, e]
      constructor
      · intro q; exact absurd q (by decide)
      · intro q; omega
    · rw [if_neg e]
      have h2 : ¬ y.toInt < x.toInt := fun q => h (Int64.lt_iff_toInt_lt.mpr q)
      have h3 : x.toInt ≠ y.toInt := fun q => e (Int64.toInt_inj.mp q)
      constructor
      · intro _; omega
      · intro _; decide
theorem lg_gt {x y : Int64} : 0 < lg_cmp x y ↔ y.toInt < x.toInt := by
  unfold lg_cmp
  by_cases h : x > y
  · rw [if_pos h]
    exact ⟨fun _ => Int64.lt_iff_toInt_lt.mp h, fun _ => by decide⟩
  · rw [if_neg h]
    have h2 : ¬ y.toInt < x.toInt := fun q => h (Int64.lt_iff_toInt_lt.mpr q)
    by_cases e : x = y
    · rw [if_pos e]
      exact ⟨fun q => absurd q (by decide), fun q => absurd q h2⟩
    · rw [if_neg e]
      exact ⟨fun q => absurd q (by decide), fun q => absurd q h2⟩
theorem in_i (a b c : Int64) (I : Mem) : fX12_in a b c I = some (b2i (decide (b.toInt ≤ a.toInt ∧ a.toInt ≤ c.toInt))) := by
  unfold fX12_in
  by_cases h : a.toInt < b.toInt
  · rw [if_pos (lg_lt.mpr h), decide_eq_false (by omega)]
    rfl
  · rw [if_neg (fun q => h (lg_lt.mp q))]
    by_cases h2 : c.toInt < a.toInt
    · rw [if_pos (lg_gt.mpr h2), decide_eq_false (by omega)]
      rfl
    · rw [if_neg (fun q => h2 (lg_gt.mp q)), decide_eq_true (by omega)]
      rfl
theorem in_x {lo hi : Nat} (x : Int32) (I : Mem) (hlo : lo < 2 ^ 31) (hhi : hi < 2 ^ 31) : fX12_in x.toInt64 (lN lo) (lN hi) I = some (b2i (decide ((lo : Int) ≤ x.toInt ∧ x.toInt ≤ hi))) := by
  rw [in_i, i64_toInt, lN_toInt hlo, lN_toInt hhi]
/-- a number is as told, or not -/
theorem rng (x : Int32) (lo hi : Nat) (hhi : hi < 2 ^ 31) : (∃ k, lo ≤ k ∧ k ≤ hi ∧ x = nI k) ∨ ¬ ((lo : Int) ≤ x.toInt ∧ x.toInt ≤ hi) := by
  by_cases h : (lo : Int) ≤ x.toInt ∧ x.toInt ≤ hi
  · left
    refine ⟨x.toInt.toNat, by omega, by omega, ?_⟩
    apply Int32.toInt_inj.mp
    rw [nI_toInt (by omega)]
    omega
  · exact Or.inr h
theorem x_lt {x y : Int32} : x < y ↔ x.toInt < y.toInt := Int32.lt_iff_toInt_lt
theorem x_le {x y : Int32} : x ≤ y ↔ x.toInt ≤ y.toInt := Int32.le_iff_toInt_le
theorem n_toInt0 : (0 : Int32).toInt = 0 := rfl
theorem isRoomX {n : Nat} {I : Mem} (x : Int32) (h : I 1 0 = nI n) (hn : n < 2 ^ 30) : fX11_isRoom x I = some (b2i (decide (0 ≤ x.toInt ∧ x.toInt < n))) := by
  unfold fX11_isRoom
  rw [h]
  simp only [x_lt, x_le, nI_toInt (show n < 2 ^ 31 by omega), n_toInt0]
  by_cases h1 : x.toInt < 0
  · rw [if_pos h1, decide_eq_false (by omega)]; rfl
  · rw [if_neg h1]
    by_cases h2 : (n : Int) ≤ x.toInt
    · rw [if_pos h2, decide_eq_false (by omega)]; rfl
    · rw [if_neg h2, decide_eq_true (by omega)]; rfl
theorem isPersonX {n : Nat} {I : Mem} (x : Int32) (h : I 1 2 = nI n) (hn : n < 2 ^ 30) : fX11_isPerson x I = some (b2i (decide (0 ≤ x.toInt ∧ x.toInt < n))) := by
  unfold fX11_isPerson
  rw [h]
  simp only [x_lt, x_le, nI_toInt (show n < 2 ^ 31 by omega), n_toInt0]
  by_cases h1 : x.toInt < 0
  · rw [if_pos h1, decide_eq_false (by omega)]; rfl
  · rw [if_neg h1]
    by_cases h2 : (n : Int) ≤ x.toInt
    · rw [if_pos h2, decide_eq_false (by omega)]; rfl
    · rw [if_neg h2, decide_eq_true (by omega)]; rfl
theorem n_m1 {n : Nat} (hn : n < 2 ^ 30) : (nI n - 1).toInt = (n : Int) - 1 := pk_sub_toInt (b := 1) hn (by decide)
theorem isRoomM {n : Nat} {I : Mem} (x : Int32) (h : I 75 0 = nI n) (hn : n < 2 ^ 30) : fX12_isRoom x I = some (b2i (decide (0 ≤ x.toInt ∧ x.toInt < n))) := by
  unfold fX12_isRoom
  rw [chk_t (by decide), show ix (0 : Int32) = 0 from rfl, h, bnd_s (in_i _ _ _ I), i64_toInt, i64_toInt, n_m1 hn, show (0 : Int64).toInt = 0 from rfl, chk_t (b2i_zb _)]
  congr 2
  rw [decide_eq_decide]
  omega
theorem isPersonM {n : Nat} {I : Mem} (x : Int32) (h : I 75 3 = nI n) (hn : n < 2 ^ 30) : fX12_isPerson x I = some (b2i (decide (0 ≤ x.toInt ∧ x.toInt < n))) := by
  unfold fX12_isPerson
  rw [chk_t (by decide), show ix (3 : Int32) = 3 from rfl, h, bnd_s (in_i _ _ _ I), i64_toInt, i64_toInt, n_m1 hn, show (0 : Int64).toInt = 0 from rfl, chk_t (b2i_zb _)]
  congr 2
  rw [decide_eq_decide]
  omega
/-- one of n, or not -/
theorem rng0 (x : Int32) (n : Nat) (hn : n < 2 ^ 31) : (∃ k, k < n ∧ x = nI k ∧ decide (0 ≤ x.toInt ∧ x.toInt < n) = true) ∨ decide (0 ≤ x.toInt ∧ x.toInt < n) = false := by
  by_cases h : 0 ≤ x.toInt ∧ x.toInt < n
  · left
    refine ⟨x.toInt.toNat, by omega, ?_, decide_eq_true h⟩
    apply Int32.toInt_inj.mp
    rw [nI_toInt (by omega)]
    omega
  · exact Or.inr (decide_eq_false h)
/-! ===== refusals ===== -/
theorem refX {I : Mem} : fX11_refuse (-2) I = some (-2, up2 I 0 10 (I 0 10 + 1)) := rfl
theorem refXn {I : Mem} : fX11_refuse (-3) I = some (-3, up2 I 0 11 (I 0 11 + 1)) := rfl
theorem refXf {I : Mem} : fX11_refuse (-4) I = some (-4, up2 I 0 12 (I 0 12 + 1)) := rfl
theorem refM {I : Mem} (x : Int32) : fX12_bad x I = some (x, up2 I 78 0 (I 78 0 + 1)) := rfl
theorem refMn {I : Mem} : fX12_no I = some (-3, up2 I 78 1 (I 78 1 + 1)) := rfl
theorem refMf {I : Mem} : fX12_full I = some (-4, up2 I 78 2 (I 78 2 + 1)) := rfl
theorem IM.congr {T : Nat} {I J : Mem} {i : Nat} (h : IM T I i) (hi : i < 2) (h1 : ∀ c, 18 ≤ c → c < 35 → J c = I c) (h2 : J 76 = I 76) (h3 : ∀ k, 158 ≤ k → k < 474 → J 75 k = I 75 k) : IM T J i := by
  rcases h with ⟨a, b⟩ | ⟨a, b, c⟩
  · exact Or.inl ⟨by rw [h1 34 (by omega) (by omega)]; exact a, by rw [h2]; exact b⟩
  · exact Or.inr ⟨by rw [h1 34 (by omega) (by omega)]; exact a, by rw [h2]; exact b, c.congr (fun c hc => h1 _ (by omega) (by omega)) (fun k hk => h3 _ (by omega) (by omega))⟩
theorem IM.mono {T T2 : Nat} {I : Mem} {i : Nat} (h : IM T I i) (hT : T ≤ T2) : IM T2 I i := by
  rcases h with h | ⟨a, b, c⟩
  · exact Or.inl h
  · exact Or.inr ⟨a, b, c.mono hT⟩
theorem TX.congr {I J : Mem} (h : TX I) (h1 : J 35 0 = I 35 0) (h2 : J 36 = I 36) (h3 : J 74 3 = I 74 3) (h4 : J 77 = I 77) : TX J := by
  obtain ⟨n, a, b, c, d⟩ := h
  exact ⟨n, a, by rw [h1]; exact b, by rw [h3]; exact c, fun j hj => by rw [h2, h4]; exact d j hj⟩
theorem RF.congr {I J : Mem} (h : RF I) (h1 : ∀ q, 10 ≤ q → J 0 q = I 0 q) (h2 : J 78 = I 78) : RF J := by
  unfold RF
  rw [h1 10 (by omega), h1 11 (by omega), h1 12 (by omega), h2]
  exact h
/-- what a refusal leaves -/
theorem sim_ref {T : Nat} {I : Mem} (h : Sim T I) (q : Nat) (hq : q < 3) : Sim (T + 1) (up2 (up2 I 0 (10 + q) (I 0 (10 + q) + 1)) 78 q (up2 I 0 (10 + q) (I 0 (10 + q) + 1) 78 q + 1)) := by
  obtain ⟨a1, a2, a3, a4, a5, a6⟩ := h
  have e : ∀ c, c ≠ 0 → c ≠ 78 → up2 (up2 I 0 (10 + q) (I 0 (10 + q) + 1)) 78 q (up2 I 0 (10 + q) (I 0 (10 + q) + 1) 78 q + 1) c = I c := fun c h0 h1 => by rw [up2_cc h1, up2_cc h0]
  refine ⟨(a1.congr (fun c hc => e _ (by omega) (by omega)) (fun k hk => by rw [e 75 (by decide) (by decide)])).mono (by omega), (a2.congr (by omega) (fun c h0 h1 => e _ (by omega) (by omega)) (e _ (by decide) (by decide)) (fun k _ _ => by rw [e 75 (by decide) (by decide)])).mono (by omega), (a3.congr (by omega) (fun c h0 h1 => e _ (by omega) (by omega)) (e _ (by decide) (by decide)) (fun k _ _ => by rw [e 75 (by decide) (by decide)])).mono (by omega), a4.congr (by rw [e 35 (by decide) (by decide)]) (e _ (by decide) (by decide)) (by rw [e 74 (by decide) (by decide)]) (e _ (by decide) (by decide)), ?_, by rw [e 74 (by decide) (by decide)]; exact a6⟩
  obtain ⟨r0, r1, r2⟩ := a5
  rcases (show q = 0 ∨ q = 1 ∨ q = 2 by omega) with rfl | rfl | rfl
  · refine ⟨?_, ?_, ?_⟩
    · rw [up2_c (by decide), up2_self, up2_self, up2_c (by decide), r0]
    · rw [up2_c (by decide), up2_i (by decide), up2_i (by decide), up2_c (by decide), r1]
    · rw [up2_c (by decide), up2_i (by decide), up2_i (by decide), up2_c (by decide), r2]
  · refine ⟨?_, ?_, ?_⟩
    · rw [up2_c (by decide), up2_i (by decide), up2_i (by decide), up2_c (by decide), r0]
    · rw [up2_c (by decide), up2_self, up2_self, up2_c (by decide), r1]
    · rw [up2_c (by decide), up2_i (by decide), up2_i (by decide), up2_c (by decide), r2]
  · refine ⟨?_, ?_, ?_⟩
    · rw [up2_c (by decide), up2_i (by decide), up2_i (by decide), up2_c (by decide), r0]
    · rw [up2_c (by decide), up2_i (by decide), up2_i (by decide), up2_c (by decide), r1]
    · rw [up2_c (by decide), up2_self, up2_self, up2_c (by decide), r2]
theorem Sim.mono {T T2 : Nat} {I : Mem} (h : Sim T I) (hT : T ≤ T2) : Sim T2 I := ⟨h.1.mono hT, h.2.1.mono hT, h.2.2.1.mono hT, h.2.2.2⟩
/-- both answer the same, and the relation holds behind -/
def OK (T : Nat) (I : Mem) (fx fm : Mem → Option (Int32 × Mem)) : Prop := ∃ v J K, fx I = some (v, J) ∧ fm J = some (v, K) ∧ Sim (T + 1) K
theorem ok_bad {T : Nat} {I : Mem} {fx fm : Mem → Option (Int32 × Mem)} (h : Sim T I) (v : Int32) (h1 : fx I = some (v, up2 I 0 10 (I 0 10 + 1))) (h2 : fm (up2 I 0 10 (I 0 10 + 1)) = some (v, up2 (up2 I 0 10 (I 0 10 + 1)) 78 0 (up2 I 0 10 (I 0 10 + 1) 78 0 + 1))) : OK T I fx fm := ⟨v, _, _, h1, h2, sim_ref h 0 (by decide)⟩
theorem ok_no {T : Nat} {I : Mem} {fx fm : Mem → Option (Int32 × Mem)} (h : Sim T I) (v : Int32) (h1 : fx I = some (v, up2 I 0 11 (I 0 11 + 1))) (h2 : fm (up2 I 0 11 (I 0 11 + 1)) = some (v, up2 (up2 I 0 11 (I 0 11 + 1)) 78 1 (up2 I 0 11 (I 0 11 + 1) 78 1 + 1))) : OK T I fx fm := ⟨v, _, _, h1, h2, sim_ref h 1 (by decide)⟩
theorem ok_full {T : Nat} {I : Mem} {fx fm : Mem → Option (Int32 × Mem)} (h : Sim T I) (v : Int32) (h1 : fx I = some (v, up2 I 0 12 (I 0 12 + 1))) (h2 : fm (up2 I 0 12 (I 0 12 + 1)) = some (v, up2 (up2 I 0 12 (I 0 12 + 1)) 78 2 (up2 I 0 12 (I 0 12 + 1) 78 2 + 1))) : OK T I fx fm := ⟨v, _, _, h1, h2, sim_ref h 2 (by decide)⟩
theorem ok_same {T : Nat} {I : Mem} {fx fm : Mem → Option (Int32 × Mem)} (h : Sim T I) (v : Int32) (h1 : fx I = some (v, I)) (h2 : fm I = some (v, I)) : OK T I fx fm := ⟨v, _, _, h1, h2, h.mono (by omega)⟩
/-- the model's memory behind the class's refusal, where it matters -/
theorem up0_c {I : Mem} {q c : Nat} {v : Int32} (h : c ≠ 0) : up2 I 0 q v c = I c := up2_cc h
/-! ===== one int of the house is set ===== -/
def updN (A : Nat → Nat) (k a : Nat) : Nat → Nat := fun j => if j = k then a else A j
theorem updN_s (A : Nat → Nat) (k a : Nat) : updN A k a k = a := if_pos rfl
theorem updN_n {A : Nat → Nat} {k a j : Nat} (h : j ≠ k) : updN A k a j = A j := if_neg h
theorem sim_set {T : Nat} {I : Mem} {A A2 : Nat → Nat} {w : Nat} {pw : Nat → Nat} {k0 : Nat} {v : Int32} (h : Sim T I) (hc : CV I 1 0 (A 44) (A 53) w pw) (hk0 : SK (A 44) k0) (h44 : A2 44 = A 44) (h53 : A2 53 = A 53) (hv : VR (T + 1) (upd (I 75) k0 v) A2 w pw) : Sim (T + 1) (up2 (up2 I (1 + lo k0) (lsl k0) v) 75 k0 v) := by
  obtain ⟨-, a2, a3, a4, a5, a6⟩ := h
  have l6 := lo_6 hk0
  have l54 := SK_lt hk0
  have e : ∀ c, 8 < c → c ≠ 75 → up2 (up2 I (1 + lo k0) (lsl k0) v) 75 k0 v c = I c := fun c h0 h1 => by rw [up2_cc h1, up2_cc (by omega)]
  have e0 : up2 (up2 I (1 + lo k0) (lsl k0) v) 75 k0 v 0 = I 0 := by rw [up2_cc (by decide), up2_cc (by omega)]
  have e75 : ∀ k, k ≠ k0 → up2 (up2 I (1 + lo k0) (lsl k0) v) 75 k0 v 75 k = I 75 k := fun k hk => by rw [up2_i hk, up2_c (by omega)]
  refine ⟨⟨A2, w, pw, ?_, ?_⟩, (a2.congr (by omega) (fun c h0 h1 => e _ (by omega) (by omega)) (e _ (by decide) (by decide)) (fun k h1 _ => e75 k (by omega))).mono (by omega), (a3.congr (by omega) (fun c h0 h1 => e _ (by omega) (by omega)) (e _ (by decide) (by decide)) (fun k h1 _ => e75 k (by omega))).mono (by omega), a4.congr (by rw [e 35 (by decide) (by decide)]) (e _ (by decide) (by decide)) (by rw [e 74 (by decide) (by decide)]) (e _ (by decide) (by decide)), a5.congr (fun q _ => by rw [e0]) (e _ (by decide) (by decide)), by rw [e 74 (by decide) (by decide)]; exact a6⟩
  · rw [h44, h53]
    have := hc.set (k0 := k0) (v := v) hk0 (by decide)
    rw [Nat.zero_add] at this
    exact this
  · refine hv.congr (fun k _ => ?_)
    rw [Nat.zero_add]
    by_cases q : k = k0
    · rw [q, up2_self]
      exact (if_pos rfl).symm
    · rw [e75 k q]
      exact (if_neg q).symm
