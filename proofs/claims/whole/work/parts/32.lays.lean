/-! ===== who is alone, by bits; who lays a penny ===== -/
def onc (s : Nat) : Nat → Nat
  | 0 => 0
  | i + 1 => onc s i ||| 2 ^ dg s i
def shd (ct s : Nat) : Nat → Nat
  | 0 => ct
  | i + 1 => shd ct s i ||| (onc s i &&& 2 ^ dg s i)
/-- the bits of those for whom it is so -/
def pyb (f : Nat → Bool) : Nat → Nat
  | 0 => 0
  | i + 1 => if f i = true then pyb f i ||| 2 ^ i else pyb f i
theorem onc_lt (s : Nat) : ∀ i, onc s i < 256
  | 0 => by simp [onc]
  | i + 1 => by
    have h2 : 2 ^ dg s i < 2 ^ 8 := Nat.pow_lt_pow_right (by decide) (dg_lt s i)
    exact Nat.or_lt_two_pow (n := 8) (onc_lt s i) h2
theorem shd_lt {ct : Nat} (hc : ct < 256) (s : Nat) : ∀ i, shd ct s i < 256
  | 0 => hc
  | i + 1 => Nat.or_lt_two_pow (n := 8) (shd_lt hc s i) (Nat.lt_of_le_of_lt Nat.and_le_left (onc_lt s i))
theorem pyb_lt (f : Nat → Bool) : ∀ i, pyb f i < 2 ^ i
  | 0 => by simp [pyb]
  | i + 1 => by
    have h := pyb_lt f i
    have h1 : 2 ^ i < 2 ^ (i + 1) := Nat.pow_lt_pow_right (by decide) (by omega)
    unfold pyb
    split
    · exact Nat.or_lt_two_pow (by omega) h1
    · omega
theorem pyb_bit (f : Nat → Bool) (p : Nat) : ∀ i, (pyb f i).testBit p = (decide (p < i) && f p)
  | 0 => by simp [pyb]
  | i + 1 => by
    have ih := pyb_bit f p i
    unfold pyb
    by_cases e : p = i
    · subst e
      have hn : decide (p < p) = false := by simp
      rw [hn, Bool.false_and] at ih
      split
      · rename_i h
        rw [Nat.testBit_or, Nat.testBit_two_pow, ih, h]
        simp
      · rename_i h
        rw [ih]
        simp at h
        simp [h]
    · have h1 : decide (p < i + 1) = decide (p < i) := by
        by_cases h : p < i <;> simp [h] <;> omega
      rw [h1]
      split
      · rw [Nat.testBit_or, Nat.testBit_two_pow, ih]
        have : decide (i = p) = false := by simp; omega
        rw [this, Bool.or_false]
      · exact ih
theorem pyb_cong {f g : Nat → Bool} : ∀ {n : Nat}, (∀ i, i < n → f i = g i) → pyb f n = pyb g n
  | 0, _ => rfl
  | n + 1, h => by unfold pyb; rw [pyb_cong (fun i hi => h i (by omega)), h n (by omega)]
theorem onc_bit (s r : Nat) : ∀ i, (onc s i).testBit r = true ↔ ∃ q, q < i ∧ dg s q = r
  | 0 => by simp [onc]
  | i + 1 => by
    rw [onc, Nat.testBit_or, Nat.testBit_two_pow, Bool.or_eq_true, onc_bit s r i, decide_eq_true_iff]
    constructor
    · rintro (⟨q, h1, h2⟩ | h)
      · exact ⟨q, by omega, h2⟩
      · exact ⟨i, by omega, h⟩
    · rintro ⟨q, h1, h2⟩
      by_cases e : q = i
      · exact Or.inr (by rw [← e]; exact h2)
      · exact Or.inl ⟨q, by omega, h2⟩
theorem shd_bit (ct s r : Nat) : ∀ i, (shd ct s i).testBit r = true ↔ ct.testBit r = true ∨ ∃ q q2, q < q2 ∧ q2 < i ∧ dg s q = r ∧ dg s q2 = r
  | 0 => by
    rw [shd]
    constructor
    · exact Or.inl
    · rintro (h | ⟨q, q2, h1, h2, -⟩)
      · exact h
      · omega
  | i + 1 => by
    rw [shd, Nat.testBit_or, Nat.testBit_and, Nat.testBit_two_pow, Bool.or_eq_true, shd_bit ct s r i, Bool.and_eq_true, onc_bit, decide_eq_true_iff]
    constructor
    · rintro ((h | ⟨q, q2, h1, h2, h3⟩) | ⟨⟨q, h1, h2⟩, h3⟩)
      · exact Or.inl h
      · exact Or.inr ⟨q, q2, h1, by omega, h3⟩
      · exact Or.inr ⟨q, i, h1, by omega, h2, h3⟩
    · rintro (h | ⟨q, q2, h1, h2, h3, h4⟩)
      · exact Or.inl (Or.inl h)
      · by_cases e : q2 = i
        · exact Or.inr ⟨⟨q, by omega, h3⟩, by rw [← e]; exact h4⟩
        · exact Or.inl (Or.inr ⟨q, q2, h1, by omega, h3, h4⟩)
theorem lon_shd {np ct s p : Nat} (hp : p < np) : (!(shd ct s np).testBit (dg s p)) = lonB np ct s p := by
  unfold lonB
  rw [Bool.eq_iff_iff, Bool.and_eq_true, Bool.not_eq_true', Bool.not_eq_true', allB_iff, ← Bool.not_eq_true, ← Bool.not_eq_true, shd_bit]
  constructor
  · intro h
    refine ⟨fun z => h (Or.inl z), fun q hq => ?_⟩
    by_cases e : q = p
    · simp [e]
    · rw [Bool.or_eq_true]
      right
      rw [bne_iff_ne]
      intro z
      rcases Nat.lt_or_gt_of_ne e with l | l
      · exact h (Or.inr ⟨q, p, l, hp, z, rfl⟩)
      · exact h (Or.inr ⟨p, q, l, hq, rfl, z⟩)
  · rintro ⟨h1, h2⟩ (h | ⟨q, q2, l1, l2, e1, e2⟩)
    · exact h1 h
    · have a1 := h2 q (by omega)
      have a2 := h2 q2 l2
      rw [Bool.or_eq_true, beq_iff_eq, bne_iff_ne] at a1 a2
      rcases a1 with a1 | a1
      · rcases a2 with a2 | a2
        · omega
        · exact a2 e2
      · exact a1 e1
/-- the bits of who is alone -/
def loneN (np ct s : Nat) : Nat := pyb (fun p => lonB np ct s p) np
theorem lone_n {b np ct s : Nat} {I : Mem} (h2 : I b 2 = nI np) (hnp : np ≤ 4) (h1 : I b 1 = nI ct) (hct : ct < 32) (hs : s < 2 ^ 31) : fX4_lone b (nI s) I = some (nI (loneN np ct s)) := by
  have hsh := shd_lt (show ct < 256 by omega) s np
  have inner : iter (sX4_lone_53 b (nI s) (nI (shd ct s np)) I) FU ((0 : Int32), (0 : Int32)) = some (nI (loneN np ct s)) := by
    refine iter_go (fun i => (nI (pyb (fun p => lonB np ct s p) i), nI i)) np (FU_lt (by omega)) ?_ (fun i hi => ?_)
    · unfold sX4_lone_53 bX4_lone_53
      rw [h2]
      dsimp only
      rw [if_pos (by rw [nI_leI (by omega) (by omega)]; omega)]
      rfl
    · unfold sX4_lone_53 bX4_lone_53
      rw [h2]
      dsimp only
      rw [if_neg (by rw [nI_leI (by omega) (by omega)]; omega), bnd_s (roomOf_n I hs (by omega)), bnd_s (has_n I (by omega) (by have := dg_lt s i; omega)), nI_1]
      have e := lon_shd (ct := ct) (s := s) hi
      rw [pyb]
      cases hb : (shd ct s np).testBit (dg s i)
      · rw [hb] at e
        rw [if_pos (by decide), if_pos (show lonB np ct s i = true from e.symm)]
        dsimp only [letb]
        rw [n_one (by omega), n_or]
      · rw [hb] at e
        rw [if_neg (by decide), if_neg (by rw [← e]; decide)]
  unfold fX4_lone
  dsimp only [letb]
  rw [h1]
  have e0 : ((0 : Int32), nI ct, (0 : Int32)) = (fun i => (nI (onc s i), nI (shd ct s i), nI i)) 0 := rfl
  rw [e0]
  refine iter_go (fun i => (nI (onc s i), nI (shd ct s i), nI i)) np (FU_lt (by omega)) ?_ (fun i hi => ?_)
  · unfold sX4_lone_10 bX4_lone_10
    rw [h2]
    dsimp only
    rw [if_pos (by rw [nI_leI (by omega) (by omega)]; omega), inrO_s inner]
  · unfold sX4_lone_10 bX4_lone_10
    rw [h2]
    dsimp only
    rw [if_neg (by rw [nI_leI (by omega) (by omega)]; omega), bnd_s (roomOf_n I hs (by omega))]
    dsimp only [letb]
    rw [n_one (by have := dg_lt s i; omega), n_and, n_or, n_or, nI_1]
    rfl
/-- whether one who is alone behind a beat lays, by the law -/
def layK (law : Nat) (st wa : Bool) (bt : Nat) : Bool := if law = 1 then true else if law = 3 then decide (bt % 2 = 1) else if law = 4 then !st else !(st && wa)
theorem laysD_n {law bt : Nat} {I : Mem} (hl : law ≤ 4) (st wa : Bool) (hb : bt < 2 ^ 31) : fD_lays (38 + law) (b2i st) (b2i wa) (nI bt) I = some (b2i (layK law st wa bt)) := by
  rcases (show law = 0 ∨ law = 1 ∨ law = 2 ∨ law = 3 ∨ law = 4 by omega) with rfl | rfl | rfl | rfl | rfl
  · cases st <;> cases wa <;> rfl
  · cases st <;> cases wa <;> rfl
  · cases st <;> cases wa <;> rfl
  · show fX7_lays (b2i st) (b2i wa) (nI bt) I = some (b2i (decide (bt % 2 = 1)))
    unfold fX7_lays
    rw [n_and1 (by omega)]
    rcases Nat.mod_two_eq_zero_or_one bt with e | e <;> rw [e] <;> rfl
  · cases st <;> cases wa <;> rfl
/-- who lays a penny in a beat -/
def layB (np ct law bt s t p : Nat) : Bool := lonB np ct t p && layK law (dg s p == dg t p) (lonB np ct s p) bt
theorem laysM_n {np ct law bt s t p : Nat} {I : Mem} (h2 : I 75 3 = nI np) (hnp : np ≤ 4) (h4 : I 75 4 = nI ct) (hct : ct < 32) (hl : law ≤ 4) (hb : bt < 2 ^ 31) (hs : s < 2 ^ 31) (ht : t < 2 ^ 31) (hp : p ≤ 9) : fX12_lays (nI law) (nI bt) (nI s) (nI t) (nI p) I = some (b2i (layB np ct law bt s t p)) := by
  have l1 := dg_lt s p
  have l2 := dg_lt t p
  have A1 := isAlone_n (p := p) h2 hnp h4 hct hs hp
  have A2 := isAlone_n (p := p) h2 hnp h4 hct ht hp
  have hrem : nI bt - nI bt / 2 * 2 = nI (bt % 2) := pk_rem hb (by decide) (by decide)
  have key : jX12_lays_21 (nI law) (nI bt) (nI s) (nI t) (nI p) (b2i (dg s p == dg t p)) I = some (b2i (layB np ct law bt s t p)) := by
    unfold jX12_lays_21 jX12_lays_45 jX12_lays_57
    rw [bnd_s A2, bnd_s A1, hrem]
    unfold layB layK
    generalize lonB np ct t p = a
    generalize lonB np ct s p = c
    generalize (dg s p == dg t p) = e
    rcases (show law = 0 ∨ law = 1 ∨ law = 2 ∨ law = 3 ∨ law = 4 by omega) with rfl | rfl | rfl | rfl | rfl
    · cases a <;> cases c <;> cases e <;> rfl
    · cases a <;> cases c <;> cases e <;> rfl
    · cases a <;> cases c <;> cases e <;> rfl
    · rcases Nat.mod_two_eq_zero_or_one bt with q | q <;> rw [q] <;> cases a <;> cases c <;> cases e <;> rfl
    · cases a <;> cases c <;> cases e <;> rfl
  unfold fX12_lays
  rw [bnd_s (roomIn_n I hs hp), bnd_s (roomIn_n I ht hp)]
  by_cases e : dg s p = dg t p
  · rw [if_pos (by rw [e])]
    have e2 : (dg s p == dg t p) = true := by rw [beq_iff_eq]; exact e
    rw [e2] at key
    exact key
  · rw [if_neg (by rw [nI_eq (by omega) (by omega)]; exact e)]
    have e2 : (dg s p == dg t p) = false := by rw [beq_eq_false_iff_ne]; exact e
    rw [e2] at key
    exact key
/-- how many -/
def cnt (f : Nat → Bool) : Nat → Nat
  | 0 => 0
  | i + 1 => cnt f i + (if f i = true then 1 else 0)
theorem cnt_le (f : Nat → Bool) : ∀ i, cnt f i ≤ i
  | 0 => Nat.le_refl _
  | i + 1 => by have := cnt_le f i; unfold cnt; split <;> omega
theorem cnt_cong {f g : Nat → Bool} : ∀ {n : Nat}, (∀ i, i < n → f i = g i) → cnt f n = cnt g n
  | 0, _ => rfl
  | n + 1, h => by unfold cnt; rw [cnt_cong (fun i hi => h i (by omega)), h n (by omega)]
theorem laid_n {np ct law bt s t : Nat} {I : Mem} (h2 : I 75 3 = nI np) (hnp : np ≤ 4) (h4 : I 75 4 = nI ct) (hct : ct < 32) (hl : law ≤ 4) (hb : bt < 2 ^ 31) (hs : s < 2 ^ 31) (ht : t < 2 ^ 31) : fX12_laid (nI law) (nI bt) (nI s) (nI t) I = some (nI (cnt (layB np ct law bt s t) np)) := by
  unfold fX12_laid
  refine iter_go (fun i => (nI (cnt (layB np ct law bt s t) i), nI i)) np (FU_lt (by omega)) ?_ (fun i hi => ?_)
  · unfold sX12_laid_6 bX12_laid_6
    rw [chk_t (by decide), show ix (3 : Int32) = 3 from rfl, h2]
    dsimp only
    rw [if_pos (by rw [nI_leI (by omega) (by omega)]; omega)]
  · unfold sX12_laid_6 bX12_laid_6
    rw [chk_t (by decide), show ix (3 : Int32) = 3 from rfl, h2]
    dsimp only
    rw [if_neg (by rw [nI_leI (by omega) (by omega)]; omega), bnd_s (laysM_n h2 hnp h4 hct hl hb hs ht (by omega)), cnt, nI_1]
    dsimp only [letb]
    cases layB np ct law bt s t i
    · rw [if_pos (by decide), if_neg (by decide), Int32.add_zero]
      rfl
    · rw [if_neg (by decide), if_pos rfl, nI_1]
/-- the payers' bits -/
theorem iter_inl {σ ρ : Type} {s : σ → Option (σ ⊕ ρ)} {n : Nat} {x y : σ} (h : s x = some (.inl y)) : iter s (n + 1) x = iter s n y := by
  rw [iter, h]
theorem iter_inr {σ ρ : Type} {s : σ → Option (σ ⊕ ρ)} {n : Nat} {x : σ} {r : ρ} (h : s x = some (.inr r)) : iter s (n + 1) x = some r := by
  rw [iter, h]
theorem payers_n {b np ct law bt s t : Nat} {I : Mem} (h2 : I b 2 = nI np) (hnp : np ≤ 4) (hl : law ≤ 4) (hb : bt < 2 ^ 31) (hs : s < 2 ^ 31) (ht : t < 2 ^ 31) : fX4_payers b (nI s) (nI t) (nI (loneN np ct s)) (nI (loneN np ct t)) (nI bt) (38 + law) I = some (nI (pyb (layB np ct law bt s t) np)) := by
  have hL1 : loneN np ct s < 2 ^ np := pyb_lt _ _
  have hL2 : loneN np ct t < 2 ^ np := pyb_lt _ _
  have h16 : 2 ^ np ≤ 2 ^ 4 := Nat.pow_le_pow_right (by decide) hnp
  have main : ∀ (n i : Nat), i ≤ np → np - i < n → iter (sX4_payers_6 b (38 + law) (nI s) (nI t) (nI (loneN np ct s)) (nI (loneN np ct t)) (nI bt) I) n (nI (pyb (layB np ct law bt s t) i), nI i) = some (nI (pyb (layB np ct law bt s t) np)) := by
    intro n
    induction n with
    | zero => intro i _ h; omega
    | succ n ih =>
      intro i hi h
      by_cases e : i = np
      · subst e
        refine iter_inr ?_
        unfold sX4_payers_6 bX4_payers_6
        rw [h2]
        dsimp only
        rw [if_pos (by rw [nI_leI (by omega) (by omega)]; omega)]
      · have hlt : i < np := by omega
        by_cases z : loneN np ct t / 2 ^ i = 0
        · refine iter_inr ?_
          unfold sX4_payers_6 bX4_payers_6
          rw [h2]
          dsimp only
          rw [if_neg (by rw [nI_leI (by omega) (by omega)]; omega), n_shr (by omega) (by omega), if_pos (by rw [z]; rfl)]
          have hno : ∀ j, i ≤ j → layB np ct law bt s t j = false ∨ np ≤ j := by
            intro j hj
            by_cases hjn : j < np
            · left
              have hb0 : (loneN np ct t).testBit j = false := by
                rw [Nat.testBit_eq_decide_div_mod_eq]
                have hd : loneN np ct t / 2 ^ j = 0 := by
                  have hlt2 : loneN np ct t < 2 ^ i := by
                    rcases Nat.lt_or_ge (loneN np ct t) (2 ^ i) with q | q
                    · exact q
                    · have := Nat.div_pos q (Nat.two_pow_pos i); omega
                  exact Nat.div_eq_of_lt (Nat.lt_of_lt_of_le hlt2 (Nat.pow_le_pow_right (by decide) hj))
                rw [hd]
                rfl
              unfold loneN at hb0
              rw [pyb_bit] at hb0
              have hdec : decide (j < np) = true := by simpa using hjn
              rw [hdec, Bool.true_and] at hb0
              unfold layB
              rw [hb0, Bool.false_and]
            · exact Or.inr (by omega)
          have hsame : ∀ k, i + k ≤ np → pyb (layB np ct law bt s t) (i + k) = pyb (layB np ct law bt s t) i := by
            intro k
            induction k with
            | zero => intro _; rfl
            | succ k ihk =>
              intro hk
              rw [← Nat.add_assoc, pyb]
              rcases hno (i + k) (by omega) with q | q
              · rw [q, if_neg (by decide)]
                exact ihk (by omega)
              · omega
          have := hsame (np - i) (by omega)
          rw [show i + (np - i) = np by omega] at this
          rw [this]
        · refine (iter_inl (y := (nI (pyb (layB np ct law bt s t) (i + 1)), nI (i + 1))) ?_).trans (ih (i + 1) (by omega) (by omega))
          unfold sX4_payers_6 bX4_payers_6
          rw [h2]
          dsimp only
          rw [if_neg (by rw [nI_leI (by omega) (by omega)]; omega), n_shr (by omega) (by omega), if_neg (by rw [show (0 : Int32) = nI 0 from rfl, nI_eq (by have := Nat.div_le_self (loneN np ct t) (2 ^ i); omega) (by omega)]; exact z), bnd_s (roomOf_n I hs (by omega)), bnd_s (roomOf_n I ht (by omega))]
          have l1 := dg_lt s i
          have l2 := dg_lt t i
          have hdec : decide (i < np) = true := by simpa using hlt
          have key : jX4_payers_43 b (38 + law) (nI s) (nI t) (nI (loneN np ct s)) (nI (loneN np ct t)) (nI bt) (nI (pyb (layB np ct law bt s t) i)) (nI i) (b2i (dg s i == dg t i)) I = some (.inl (nI (pyb (layB np ct law bt s t) (i + 1)), nI (i + 1))) := by
            unfold jX4_payers_43
            rw [bnd_s (has_n I (by omega) (by omega)), bnd_s (has_n I (by omega) (by omega)), bnd_s (laysD_n hl _ _ hb), nI_1]
            unfold loneN
            rw [pyb_bit, pyb_bit, hdec, Bool.true_and, Bool.true_and, pyb]
            unfold layB
            cases lonB np ct t i
            · rfl
            · rw [if_neg (by decide), Bool.true_and]
              cases layK law (dg s i == dg t i) (lonB np ct s i) bt
              · rfl
              · rw [if_neg (by decide), if_pos rfl]
                dsimp only [letb]
                rw [n_one (by omega), n_or]
          by_cases e1 : dg s i = dg t i
          · rw [if_pos (by rw [e1])]
            have e2 : (dg s i == dg t i) = true := by rw [beq_iff_eq]; exact e1
            rw [e2] at key
            exact key
          · rw [if_neg (by rw [nI_eq (by omega) (by omega)]; exact e1)]
            have e2 : (dg s i == dg t i) = false := by rw [beq_eq_false_iff_ne]; exact e1
            rw [e2] at key
            exact key
  unfold fX4_payers
  exact main FU 0 (Nat.zero_le _) (FU_lt (by omega))
