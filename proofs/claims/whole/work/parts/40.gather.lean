/-! ===== two rows of a memory: pennies and purses ===== -/
def GM (M : Mem) (c1 c2 : Nat) (pen pur : Nat → Int32) : Mem := upA (upA M c1 pen) c2 pur
theorem GM_1 {M : Mem} {c1 c2 : Nat} {pen pur : Nat → Int32} (h : c1 ≠ c2) : GM M c1 c2 pen pur c1 = pen := by unfold GM; rw [upA_c h, upA_self]
theorem GM_2 {M : Mem} {c1 c2 : Nat} {pen pur : Nat → Int32} : GM M c1 c2 pen pur c2 = pur := by unfold GM; rw [upA_self]
theorem GM_c {M : Mem} {c1 c2 a : Nat} {pen pur : Nat → Int32} (h1 : a ≠ c1) (h2 : a ≠ c2) : GM M c1 c2 pen pur a = M a := by unfold GM; rw [upA_c h2, upA_c h1]
theorem GM_p {M : Mem} {c1 c2 k : Nat} {pen pur : Nat → Int32} {v : Int32} : up2 (GM M c1 c2 pen pur) c2 k v = GM M c1 c2 pen (upd pur k v) := by
  funext a
  by_cases e : a = c2
  · subst e
    unfold up2
    rw [upA_self, GM_2, GM_2]
  · rw [up2_cc e]
    unfold GM
    rw [upA_c e, upA_c e]
theorem GM_n {M : Mem} {c1 c2 k : Nat} {pen pur : Nat → Int32} {v : Int32} (h : c1 ≠ c2) : up2 (GM M c1 c2 pen pur) c1 k v = GM M c1 c2 (upd pen k v) pur := by
  funext a
  by_cases e : a = c1
  · subst e
    unfold up2
    rw [upA_self, GM_1 h, GM_1 h]
  · rw [up2_cc e]
    unfold GM
    by_cases e2 : a = c2
    · subst e2; rw [upA_self, upA_self]
    · rw [upA_c e2, upA_c e2, upA_c e, upA_c e]
theorem GM_self (M : Mem) (c1 c2 : Nat) : GM M c1 c2 (M c1) (M c2) = M := by
  funext a
  unfold GM
  by_cases e2 : a = c2
  · subst e2; rw [upA_self]
  · rw [upA_c e2]
    by_cases e : a = c1
    · subst e; rw [upA_self]
    · rw [upA_c e]
/-! ===== who gathers ===== -/
/-- the first of k from i on for whom it is so -/
def fstF (P : Nat → Bool) : Nat → Nat → Option Nat
  | 0, _ => none
  | k + 1, i => if P i = true then some i else fstF P k (i + 1)
/-- the second -/
def secF (P : Nat → Bool) : Nat → Nat → Option Nat
  | 0, _ => none
  | k + 1, i => if P i = true then fstF P k (i + 1) else secF P k (i + 1)
def oi (o : Option Nat) : Int32 := match o with
  | none => -1
  | some p => nI p
theorem fstF_lt {P : Nat → Bool} : ∀ {k i p : Nat}, fstF P k i = some p → i ≤ p ∧ p < i + k ∧ P p = true
  | 0, i, p, h => by cases h
  | k + 1, i, p, h => by
    unfold fstF at h
    split at h
    · cases h; exact ⟨by omega, by omega, by assumption⟩
    · have := fstF_lt h; exact ⟨by omega, by omega, this.2.2⟩
theorem secF_lt {P : Nat → Bool} : ∀ {k i p : Nat}, secF P k i = some p → i ≤ p ∧ p < i + k ∧ P p = true
  | 0, i, p, h => by cases h
  | k + 1, i, p, h => by
    unfold secF at h
    split at h
    · have := fstF_lt h; exact ⟨by omega, by omega, this.2.2⟩
    · have := secF_lt h; exact ⟨by omega, by omega, this.2.2⟩
theorem fstF_cong {P Q : Nat → Bool} : ∀ {k i : Nat}, (∀ p, i ≤ p → p < i + k → P p = Q p) → fstF P k i = fstF Q k i
  | 0, i, h => rfl
  | k + 1, i, h => by unfold fstF; rw [h i (by omega) (by omega), fstF_cong (fun p h1 h2 => h p (by omega) (by omega))]
/-- the first but for a -/
theorem fst_but {Q : Nat → Bool} {a : Nat} (ha : Q a = true) : ∀ {k i : Nat}, i ≤ a → a < i + k → fstF (fun p => p != a && Q p) k i = if fstF Q k i = some a then secF Q k i else fstF Q k i
  | 0, i, h1, h2 => by omega
  | k + 1, i, h1, h2 => by
    by_cases e : i = a
    · subst e
      have hno : fstF (fun p => p != i && Q p) k (i + 1) = fstF Q k (i + 1) := fstF_cong (fun p q1 q2 => by
        have : (p != i) = true := by rw [bne_iff_ne]; omega
        rw [this, Bool.true_and])
      have hb : (i != i && Q i) = false := by simp
      unfold fstF secF
      rw [hb, if_neg (by decide), ha, if_pos rfl, if_pos rfl, if_pos rfl, hno]
    · have hb : (i != a) = true := by rw [bne_iff_ne]; exact e
      unfold fstF secF
      rw [hb, Bool.true_and]
      by_cases c : Q i = true
      · rw [if_pos c, if_pos c, if_pos c, if_neg (by intro q; cases q; exact e rfl)]
      · rw [if_neg c, if_neg c, if_neg c]
        exact fst_but ha (by omega) (by omega)
theorem sec_none {Q : Nat → Bool} {a : Nat} (ha : Q a = true) {k i : Nat} (h1 : i ≤ a) (h2 : a < i + k) : secF Q k i = none ↔ fstF (fun p => p != a && Q p) k i = none := by
  have hex : ∀ {k i : Nat}, i ≤ a → a < i + k → ∃ b, fstF Q k i = some b := by
    intro k
    induction k with
    | zero => intro i q1 q2; omega
    | succ k ih =>
      intro i q1 q2
      unfold fstF
      by_cases c : Q i = true
      · exact ⟨i, if_pos c⟩
      · rw [if_neg c]
        by_cases e : i = a
        · rw [e] at c; exact absurd ha c
        · exact ih (by omega) (by omega)
  rw [fst_but ha h1 h2]
  by_cases c : fstF Q k i = some a
  · rw [if_pos c]
  · rw [if_neg c]
    obtain ⟨b, hb⟩ := hex h1 h2
    constructor
    · intro hs
      exfalso
      have : ∀ {k i : Nat}, i ≤ a → a < i + k → secF Q k i = none → fstF Q k i = some a := by
        intro k
        induction k with
        | zero => intro i q1 q2; omega
        | succ k ih =>
          intro i q1 q2 hs
          unfold secF at hs
          unfold fstF
          by_cases c : Q i = true
          · rw [if_pos c] at hs ⊢
            by_cases e : i = a
            · rw [e]
            · obtain ⟨b, hb⟩ := hex (k := k) (i := i + 1) (by omega) (by omega)
              rw [hb] at hs; cases hs
          · rw [if_neg c] at hs ⊢
            have e : i ≠ a := fun q => c (by rw [q]; exact ha)
            exact ih (by omega) (by omega) hs
      exact c (this h1 h2 hs)
    · intro hn
      rw [hn] at hb; cases hb
/-- what gathering in a room does: taker, other one, the law's share -/
def gatF (np law s t r : Nat) (q : (Nat → Int32) × (Nat → Int32)) : (Nat → Int32) × (Nat → Int32) :=
  match fstF (fun p => decide (dg t p = r) && decide (dg s p ≠ r)) np 0 with
  | none => q
  | some a => match fstF (fun p => p != a && decide (dg t p = r)) np 0 with
    | none => q
    | some c => (upd q.1 r 0, upd (upd q.2 a (q.2 a + (q.1 r - (if law = 2 ∨ law = 4 then q.1 r / 2 else 0)))) c (upd q.2 a (q.2 a + (q.1 r - (if law = 2 ∨ law = 4 then q.1 r / 2 else 0))) c + (if law = 2 ∨ law = 4 then q.1 r / 2 else 0)))
theorem share_n {law : Nat} {x : Int32} {I : Mem} (hl : law ≤ 4) : fD_share (38 + law) x I = some (if law = 2 ∨ law = 4 then x / 2 else 0) := by
  rcases (show law = 0 ∨ law = 1 ∨ law = 2 ∨ law = 3 ∨ law = 4 by omega) with rfl | rfl | rfl | rfl | rfl <;> rfl
theorem gatherX {b np law s t r : Nat} {M : Mem} {pen pur : Nat → Int32} (h2 : M b 2 = nI np) (hnp : np ≤ 4) (h3 : M b 3 = nI t) (hl : law ≤ 4) (hs : s < 2 ^ 31) (ht : t < 2 ^ 31) (hr : r < 5) : fX4_gather b (nI r) (nI s) (38 + law) (GM M (b + 2) (b + 4) pen pur) = some (GM M (b + 2) (b + 4) (gatF np law s t r (pen, pur)).1 (gatF np law s t r (pen, pur)).2) := by
  have ne : b + 2 ≠ b + 4 := by omega
  have m2 : GM M (b + 2) (b + 4) pen pur b 2 = nI np := by rw [GM_c (by omega) (by omega)]; exact h2
  have m3 : GM M (b + 2) (b + 4) pen pur b 3 = nI t := by rw [GM_c (by omega) (by omega)]; exact h3
  -- the end: with taker a, other c
  have fin9 : ∀ a c : Nat, a < 4 → c < 4 → jX4_gather_95 b (38 + law) (nI r) (nI a) (nI c) (GM M (b + 2) (b + 4) pen pur) = some (GM M (b + 2) (b + 4) (upd pen r 0) (upd (upd pur a (pur a + (pen r - (if law = 2 ∨ law = 4 then pen r / 2 else 0)))) c (upd pur a (pur a + (pen r - (if law = 2 ∨ law = 4 then pen r / 2 else 0))) c + (if law = 2 ∨ law = 4 then pen r / 2 else 0)))) := by
    intro a c ha hc
    unfold jX4_gather_95
    rw [chk_t (inb_n hr (by decide)), bnd_s (share_n hl), chk_t (inb_n ha (by decide)), chk_t (inb_n hr (by decide)), chk_t (inb_n ha (by decide)), ix_n (by omega), ix_n (by omega), ix_n (by omega), GM_1 ne, GM_2]
    dsimp only [letb]
    rw [GM_p, chk_t (inb_n hc (by decide)), chk_t (inb_n hc (by decide)), GM_2, GM_p, chk_t (inb_n hr (by decide)), GM_n ne]
  unfold fX4_gather
  dsimp only [letb]
  rw [m2]
  generalize hQ : (fun p => decide (dg t p = r)) = Q
  generalize hC : (fun p => decide (dg t p = r) && decide (dg s p ≠ r)) = P
  have hPQ : ∀ p, P p = true → Q p = true := fun p hp => by
    rw [← hC] at hp
    rw [← hQ]
    exact (Bool.and_eq_true _ _ ▸ hp).1
  have key : ∀ (i n : Nat), i ≤ np → i < n → iter (sX4_gather_17 b (38 + law) (nI r) (nI s) (GM M (b + 2) (b + 4) pen pur)) n (oi (fstF P (np - i) i), oi (fstF Q (np - i) i), oi (secF Q (np - i) i), nI i - 1) = some (GM M (b + 2) (b + 4) (gatF np law s t r (pen, pur)).1 (gatF np law s t r (pen, pur)).2) := by
    intro i
    induction i with
    | zero =>
      intro n _ hn
      obtain ⟨n, rfl⟩ : ∃ k, n = k + 1 := ⟨n - 1, by omega⟩
      refine iter_inr ?_
      unfold sX4_gather_17 bX4_gather_17
      dsimp only
      rw [if_pos (by decide), Nat.sub_zero]
      unfold gatF
      rw [hC]
      cases hf : fstF P np 0 with
      | none =>
        by_cases c : oi (secF Q np 0) = -1
        · rw [if_pos c]
        · rw [if_neg c, if_pos (show oi none = -1 from rfl)]
      | some a =>
        have ha := fstF_lt hf
        have haQ := hPQ a ha.2.2
        have hb := fst_but haQ (k := np) (i := 0) (by omega) (by omega)
        have hn2 := sec_none haQ (k := np) (i := 0) (by omega) (by omega)
        rw [← hQ] at hb hn2 ⊢
        dsimp only
        cases ho : fstF (fun p => p != a && decide (dg t p = r)) np 0 with
        | none =>
          rw [if_pos (by rw [hn2.mpr ho]; rfl)]
        | some c =>
          have hc := fstF_lt ho
          rw [ho] at hb
          have hsec : ¬ oi (secF (fun p => decide (dg t p = r)) np 0) = -1 := by
            cases hq : secF (fun p => decide (dg t p = r)) np 0 with
            | none => rw [hn2.mp hq] at ho; cases ho
            | some z =>
              have hz := secF_lt hq
              exact n_ne1 (by omega)
          rw [if_neg hsec, if_neg (show ¬ oi (some a) = -1 from n_ne1 (by omega))]
          by_cases ce : fstF (fun p => decide (dg t p = r)) np 0 = some a
          · rw [if_pos ce] at hb
            rw [ce, if_pos rfl, ← hb]
            rw [show oi (some a) = nI a from rfl, show oi (some c) = nI c from rfl, inrO_s (fin9 a c (by omega) (by omega))]
          · rw [if_neg ce] at hb
            rw [← hb, if_neg (show ¬ oi (some a) = oi (some c) from fun q => ce (by rw [← hb]; congr 1; exact ((nI_eq (by omega) (by omega)).mp q).symm))]
            rw [show oi (some a) = nI a from rfl, show oi (some c) = nI c from rfl, inrO_s (fin9 a c (by omega) (by omega))]
    | succ i ih =>
      intro n hi hn
      obtain ⟨n, rfl⟩ : ∃ k, n = k + 1 := ⟨n - 1, by omega⟩
      have e1 : nI (i + 1) - 1 = nI i := nI_pred i
      have e2 : np - i = (np - (i + 1)) + 1 := by omega
      have l1 := dg_lt t i
      have l2 := dg_lt s i
      have h := ih n (by omega) (by omega)
      rw [e2] at h
      unfold fstF secF at h
      refine (iter_inl ?_).trans h
      unfold sX4_gather_17 bX4_gather_17
      dsimp only
      rw [e1, if_neg (nI_pos (by omega)), m3, bnd_s (roomOf_n _ ht (by omega)), bnd_s (roomOf_n _ hs (by omega)), show nI i + -1 = nI i - 1 from (Int32.sub_eq_add_neg ..).symm, ← hC, ← hQ]
      dsimp only
      by_cases c1 : dg t i = r
      · rw [if_pos (show nI (dg t i) = nI r by rw [c1]), if_pos (decide_eq_true c1), if_pos (decide_eq_true c1)]
        by_cases c2 : dg s i = r
        · rw [if_pos (show nI (dg s i) = nI r by rw [c2]), if_neg (show ¬ (decide (dg t i = r) && decide (dg s i ≠ r)) = true by simp [c2])]
          rfl
        · rw [if_neg (show ¬ nI (dg s i) = nI r by rw [nI_eq (by omega) (by omega)]; exact c2), if_pos (show (decide (dg t i = r) && decide (dg s i ≠ r)) = true by simp [c1, c2])]
          rfl
      · rw [if_neg (show ¬ nI (dg t i) = nI r by rw [nI_eq (by omega) (by omega)]; exact c1), if_neg (show ¬ (decide (dg t i = r) && decide (dg s i ≠ r)) = true by simp [c1]), if_neg (show ¬ decide (dg t i = r) = true by simp [c1]), if_neg (show ¬ decide (dg t i = r) = true by simp [c1])]
  have := key np FU (Nat.le_refl _) (FU_lt (by omega))
  rw [Nat.sub_self] at this
  exact this
