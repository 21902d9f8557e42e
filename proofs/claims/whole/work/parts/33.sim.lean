/-! ===== memory ===== -/
theorem up2_c {I : Mem} {c i a j : Nat} {v : Int32} (h : a ≠ c) : up2 I c i v a j = I a j := by unfold up2 upA; rw [if_neg h]
theorem up2_cc {I : Mem} {c i a : Nat} {v : Int32} (h : a ≠ c) : up2 I c i v a = I a := by unfold up2 upA; rw [if_neg h]
theorem up2_i {I : Mem} {c i a j : Nat} {v : Int32} (h : j ≠ i) : up2 I c i v a j = I a j := by
  unfold up2 upA
  by_cases e : a = c
  · subst e
    rw [if_pos rfl]
    exact if_neg h
  · rw [if_neg e]
theorem upA_c {I : Mem} {c a : Nat} {f : Nat → Int32} (h : a ≠ c) : upA I c f a = I a := if_neg h
theorem cpA_in {f g : Nat → Int32} {sp dp n k : Nat} (h1 : dp ≤ k) (h2 : k < dp + n) : cpA f g sp dp n k = f (sp + (k - dp)) := if_pos ⟨h1, h2⟩
theorem cpA_out {f g : Nat → Int32} {sp dp n k : Nat} (h : k < dp ∨ dp + n ≤ k) : cpA f g sp dp n k = g k := if_neg (by omega)
/-- a part of a row copied, int by int -/
def cpM (I : Mem) (c c2 sp dp n : Nat) : Mem := upA I c (cpA (I c2) (I c) sp dp n)
theorem cpM_0 (I : Mem) (c c2 sp dp : Nat) : cpM I c c2 sp dp 0 = I := by
  funext a k
  unfold cpM
  by_cases e : a = c
  · subst e
    rw [upA_self, cpA_out (by omega)]
  · rw [upA_c e]
theorem cpM_s (I : Mem) (c c2 sp dp n : Nat) (h : c2 ≠ c ∨ dp ≤ sp ∨ sp + n < dp) : up2 (cpM I c c2 sp dp n) c (dp + n) (cpM I c c2 sp dp n c2 (sp + n)) = cpM I c c2 sp dp (n + 1) := by
  have e1 : cpM I c c2 sp dp n c2 (sp + n) = I c2 (sp + n) := by
    unfold cpM
    by_cases e : c2 = c
    · subst e
      rw [upA_self, cpA_out (by omega)]
    · rw [upA_c e]
  rw [e1]
  funext a k
  by_cases e : a = c
  · subst e
    by_cases ek : k = dp + n
    · subst ek
      rw [up2_self]
      unfold cpM
      rw [upA_self, cpA_in (by omega) (by omega)]
      congr 1
      omega
    · rw [up2_i ek]
      unfold cpM
      rw [upA_self, upA_self]
      by_cases h1 : dp ≤ k ∧ k < dp + n
      · rw [cpA_in h1.1 h1.2, cpA_in h1.1 (by omega)]
      · rw [cpA_out (by omega), cpA_out (by omega)]
  · rw [up2_c e]
    unfold cpM
    rw [upA_c e, upA_c e]
/-- a loop that copies -/
theorem iter_copy {ρ : Type} {s : (Int32 × Mem) → Option ((Int32 × Mem) ⊕ ρ)} (c c2 sp dp N : Nat) (I : Mem) {r : ρ} (hN : N < FU) (hov : c2 ≠ c ∨ dp ≤ sp ∨ sp + N ≤ dp)
    (hs : ∀ i, i < N → s (nI i, cpM I c c2 sp dp i) = some (.inl (nI (i + 1), up2 (cpM I c c2 sp dp i) c (dp + i) (cpM I c c2 sp dp i c2 (sp + i))))) (he : s (nI N, cpM I c c2 sp dp N) = some (.inr r)) : iter s FU ((0 : Int32), I) = some r := by
  have e0 : ((0 : Int32), I) = (fun i => (nI i, cpM I c c2 sp dp i)) 0 := by
    show _ = (nI 0, cpM I c c2 sp dp 0)
    rw [cpM_0]
    rfl
  rw [e0]
  refine iter_go (fun i => (nI i, cpM I c c2 sp dp i)) N hN he (fun i hi => ?_)
  rw [hs i hi, cpM_s I c c2 sp dp i (by omega)]
/-! ===== the relation between the class's cells and the model's ===== -/
def loL : List Nat := [0, 0, 0, 0, 0, 1, 1, 1, 1, 1, 2, 2, 2, 2, 2, 3, 3, 3, 3, 3, 9, 9, 9, 9, 4, 4, 4, 4, 5, 5, 5, 5, 5, 5, 5, 5, 5, 5, 5, 5, 5, 5, 5, 5, 0, 6, 6, 6, 6, 6, 6, 6, 6, 0]
def lsL : List Nat := [0, 4, 5, 2, 1, 0, 1, 2, 3, 4, 0, 1, 2, 3, 4, 0, 1, 2, 3, 4, 0, 1, 2, 3, 0, 1, 2, 3, 0, 1, 2, 3, 4, 5, 6, 7, 8, 9, 10, 11, 12, 13, 14, 15, 6, 0, 1, 2, 3, 4, 5, 6, 7, 7]
/-- where a House has what the row has at k: cell, slot -/
def lo (k : Nat) : Nat := loL.getD k 9
def lsl (k : Nat) : Nat := lsL.getD k 99
def SK (pl k : Nat) : Prop := k < 20 ∨ (24 ≤ k ∧ k < 45) ∨ (45 ≤ k ∧ k < 45 + pl ∧ k < 53) ∨ k = 53
theorem SK_lt {pl k : Nat} (h : SK pl k) : k < 54 := by unfold SK at h; omega
theorem lo_inj : ∀ k, k < 54 → ∀ k2, k2 < 54 → lo k = lo k2 → lsl k = lsl k2 → k = k2 := by decide +kernel
theorem lo_w : ∀ k, k < 54 → ¬ (lo k = 0 ∧ lsl k = 3) := by decide +kernel
theorem lo_7 : ∀ k, k < 54 → lo k ≠ 7 ∧ lo k ≤ 9 := by decide +kernel
theorem lo_6 {pl k : Nat} (h : SK pl k) : lo k ≤ 6 := by
  have hd : ∀ k, k < 54 → ¬ (20 ≤ k ∧ k < 24) → lo k ≤ 6 := by decide +kernel
  refine hd k (SK_lt h) ?_
  unfold SK at h
  omega
/-- the House at b is as the row at o says; it stands w; its pasts stand pw -/
def CV (I : Mem) (b o pl ps w : Nat) (pw : Nat → Nat) : Prop :=
  (∀ k, SK pl k → I (b + lo k) (lsl k) = I 75 (o + k)) ∧ I b 3 = nI w ∧
  ∀ j, j < ps → I (b + 7) (10 * j) = nI (pw j) ∧ (∀ q, q < 5 → I (b + 7) (10 * j + 1 + q) = I 75 (o + (54 + 13 * j + q))) ∧ ∀ p, p < 4 → I (b + 7) (10 * j + 6 + p) = I 75 (o + (54 + 13 * j + 5 + p))
theorem CV.congr {I J : Mem} {b o pl ps w : Nat} {pw : Nat → Nat} (h : CV I b o pl ps w pw) (h1 : ∀ c, c < 8 → J (b + c) = I (b + c)) (hp : ps ≤ 8) (h2 : ∀ k, k < 158 → J 75 (o + k) = I 75 (o + k)) : CV J b o pl ps w pw := by
  obtain ⟨a1, a2, a3⟩ := h
  refine ⟨fun k hk => ?_, ?_, fun j hj => ⟨?_, fun q hq => ?_, fun p hp2 => ?_⟩⟩
  · have l6 := lo_6 hk
    have l54 := SK_lt hk
    rw [h1 _ (by omega), h2 _ (by omega)]
    exact a1 k hk
  · have := h1 0 (by omega)
    rw [Nat.add_zero] at this
    rw [this]
    exact a2
  · rw [h1 7 (by omega)]
    exact (a3 j hj).1
  · rw [h1 7 (by omega), h2 _ (by omega)]
    exact (a3 j hj).2.1 q hq
  · rw [h1 7 (by omega), h2 _ (by omega)]
    exact (a3 j hj).2.2 p hp2
/-- one int of a House and of the row is set -/
theorem CV.set {I : Mem} {b o pl ps w : Nat} {pw : Nat → Nat} {k0 : Nat} {v : Int32} (h : CV I b o pl ps w pw) (hk0 : SK pl k0) (hb : b + 7 < 74) : CV (up2 (up2 I (b + lo k0) (lsl k0) v) 75 (o + k0) v) b o pl ps w pw := by
  obtain ⟨a1, a2, a3⟩ := h
  have m6 := lo_6 hk0
  have m54 := SK_lt hk0
  refine ⟨fun k hk => ?_, ?_, fun j hj => ⟨?_, fun q hq => ?_, fun p hp2 => ?_⟩⟩
  · have l6 := lo_6 hk
    have l54 := SK_lt hk
    rw [up2_c (by omega)]
    by_cases e : k = k0
    · subst e
      rw [up2_self, up2_self]
    · rw [up2_i (c := 75) (by omega), up2_c (a := 75) (by omega), ← a1 k hk]
      by_cases e2 : lo k = lo k0
      · rw [up2_i]
        intro e3
        exact e (lo_inj k l54 k0 m54 e2 e3)
      · rw [up2_c (by omega)]
  · rw [up2_c (by omega)]
    by_cases e2 : lo k0 = 0
    · rw [up2_i]
      · exact a2
      · intro e3
        exact lo_w k0 m54 ⟨e2, e3.symm⟩
    · rw [up2_c (by omega)]
      exact a2
  · rw [up2_c (by omega), up2_c (by omega)]
    exact (a3 j hj).1
  · rw [up2_c (by omega), up2_c (by omega), up2_i (by omega), up2_c (by omega)]
    exact (a3 j hj).2.1 q hq
  · rw [up2_c (by omega), up2_c (by omega), up2_i (by omega), up2_c (by omega)]
    exact (a3 j hj).2.2 p hp2
/-- a standing of the house's people in its rooms -/
def WV (A : Nat → Nat) (w : Nat) : Prop := w < 8 ^ A 3 ∧ ∀ p, p < A 3 → dg w p < A 0
/-- the numbers of a row -/
def BA (T : Nat) (A : Nat → Nat) : Prop :=
  (1 ≤ A 0 ∧ A 0 ≤ 5) ∧ A 1 ≤ 4 ∧ A 3 ≤ 4 ∧ A 53 ≤ A 2 ∧ A 2 ≤ T ∧ A 44 ≤ 8 ∧ A 53 ≤ 8 ∧ A 4 < 2 ^ A 0 ∧ (∀ q, q < 5 → A (5 + q) < 2 ^ A 0) ∧ (∀ q, A 0 ≤ q → q < 5 → A (5 + q) = 0) ∧
  (∀ a b, a < 5 → b < 5 → (A (5 + a)).testBit b = (A (5 + b)).testBit a) ∧ (∀ a, a < 5 → (A (5 + a)).testBit a = false) ∧ ∀ q, q < 5 → A (10 + q) ≤ 1000 + 4 * T
def VR (T : Nat) (r : Nat → Int32) (A : Nat → Nat) (w : Nat) (pw : Nat → Nat) : Prop :=
  BA T A ∧ (∀ k, (k < 15 ∨ k = 44 ∨ k = 53) → r k = nI (A k)) ∧ WV A w ∧ (∀ p, p < A 3 → r (20 + p) = nI (dg w p)) ∧ (∀ p, A 3 ≤ p → p < 4 → r (24 + p) = 0) ∧
  (∀ i, i < 16 → r (28 + i) = -1 ∨ ∃ q, q < A 0 ∧ r (28 + i) = nI q) ∧ (∀ i, i < A 44 → ∃ s, r (45 + i) = nI s ∧ s < 4096 ∧ ∀ p, p < 4 → dg s p < A 0) ∧
  ∀ j, j < A 53 → WV A (pw j) ∧ (∀ p, p < A 3 → r (54 + 13 * j + 9 + p) = nI (dg (pw j) p)) ∧ (∀ p, A 3 ≤ p → p < 4 → r (54 + 13 * j + 5 + p) = 0) ∧ ∀ q, q < 5 → ∃ m, m ≤ 1000 + 4 * T ∧ r (54 + 13 * j + q) = nI m
theorem VR.congr {T : Nat} {r r2 : Nat → Int32} {A : Nat → Nat} {w : Nat} {pw : Nat → Nat} (h : VR T r A w pw) (hr : ∀ k, k < 158 → r2 k = r k) : VR T r2 A w pw := by
  obtain ⟨a1, a2, a3, a4, a5, a6, a7, a8⟩ := h
  have hb : A 0 ≤ 5 ∧ A 3 ≤ 4 ∧ A 44 ≤ 8 ∧ A 53 ≤ 8 := by unfold BA at a1; omega
  refine ⟨a1, fun k hk => ?_, a3, fun p hp => ?_, fun p h1 h2 => ?_, fun i hi => ?_, fun i hi => ?_, fun j hj => ?_⟩
  · rw [hr k (by omega)]; exact a2 k hk
  · rw [hr _ (by omega)]; exact a4 p hp
  · rw [hr _ (by omega)]; exact a5 p h1 h2
  · rw [hr _ (by omega)]; exact a6 i hi
  · rw [hr _ (by omega)]; exact a7 i hi
  · obtain ⟨b1, b2, b3, b4⟩ := a8 j hj
    refine ⟨b1, fun p hp => ?_, fun p h1 h2 => ?_, fun q hq => ?_⟩
    · rw [hr _ (by omega)]; exact b2 p hp
    · rw [hr _ (by omega)]; exact b3 p h1 h2
    · rw [hr _ (by omega)]; exact b4 q hq
theorem BA.mono {T T2 : Nat} {A : Nat → Nat} (h : BA T A) (hT : T ≤ T2) : BA T2 A := by
  obtain ⟨a1, a2, a3, a4, a5, a6, a7, a8, a9, b1, b2, b3, b4⟩ := h
  exact ⟨a1, a2, a3, a4, by omega, a6, a7, a8, a9, b1, b2, b3, fun q hq => by have := b4 q hq; omega⟩
theorem VR.mono {T T2 : Nat} {r : Nat → Int32} {A : Nat → Nat} {w : Nat} {pw : Nat → Nat} (h : VR T r A w pw) (hT : T ≤ T2) : VR T2 r A w pw := by
  obtain ⟨a1, a2, a3, a4, a5, a6, a7, a8⟩ := h
  refine ⟨a1.mono hT, a2, a3, a4, a5, a6, a7, fun j hj => ?_⟩
  obtain ⟨b1, b2, b3, b4⟩ := a8 j hj
  refine ⟨b1, b2, b3, fun q hq => ?_⟩
  obtain ⟨m, h1, h2⟩ := b4 q hq
  exact ⟨m, by omega, h2⟩
/-- a house and its row -/
def HS (T : Nat) (I : Mem) (b o : Nat) : Prop := ∃ (A : Nat → Nat) (w : Nat) (pw : Nat → Nat), CV I b o (A 44) (A 53) w pw ∧ VR T (fun k => I 75 (o + k)) A w pw
theorem HS.congr {T : Nat} {I J : Mem} {b o : Nat} (h : HS T I b o) (h1 : ∀ c, c < 8 → J (b + c) = I (b + c)) (h2 : ∀ k, k < 158 → J 75 (o + k) = I 75 (o + k)) : HS T J b o := by
  obtain ⟨A, w, pw, a, b2⟩ := h
  have hb : A 53 ≤ 8 := by have := b2.1; unfold BA at this; omega
  exact ⟨A, w, pw, a.congr h1 hb h2, b2.congr h2⟩
theorem HS.mono {T T2 : Nat} {I : Mem} {b o : Nat} (h : HS T I b o) (hT : T ≤ T2) : HS T2 I b o := by
  obtain ⟨A, w, pw, a, b2⟩ := h
  exact ⟨A, w, pw, a, b2.mono hT⟩
/-- an image, kept or not -/
def IM (T : Nat) (I : Mem) (i : Nat) : Prop := (I 34 i = 0 ∧ I 76 i = 0) ∨ (I 34 i = 1 ∧ I 76 i = 1 ∧ HS T I (18 + 8 * i) (158 * (i + 1)))
/-- the text -/
def TX (I : Mem) : Prop := ∃ n, n ≤ 200 ∧ I 35 0 = nI n ∧ I 74 3 = nI n ∧ ∀ j, j < n → I 36 j = I 77 j ∧ ∃ x, x < 256 ∧ I 36 j = nI x
/-- what was refused -/
def RF (I : Mem) : Prop := I 0 10 = I 78 0 ∧ I 0 11 = I 78 1 ∧ I 0 12 = I 78 2
/-- BEFORE AND BEHIND EVERY CALL -/
def Sim (T : Nat) (I : Mem) : Prop := HS T I 1 0 ∧ IM T I 0 ∧ IM T I 1 ∧ TX I ∧ RF I ∧ I 74 15 = -1
