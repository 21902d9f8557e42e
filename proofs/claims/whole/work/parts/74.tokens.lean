/-! ===== the text's tokens ===== -/
def runF (P : Nat → Bool) (len : Nat) : Nat → Nat → Nat
  | 0, j => j
  | f + 1, j => if j < len ∧ P j = true then runF P len f (j + 1) else j
theorem runF_le (P : Nat → Bool) (len : Nat) : ∀ f j, j ≤ len → j ≤ runF P len f j ∧ runF P len f j ≤ len
  | 0, j, h => ⟨Nat.le_refl _, h⟩
  | f + 1, j, h => by
    rw [runF]
    by_cases c : j < len ∧ P j = true
    · rw [if_pos c]
      have := runF_le P len f (j + 1) (by omega)
      omega
    · rw [if_neg c]
      omega
theorem runF_in (P : Nat → Bool) (len : Nat) : ∀ f j x, j ≤ x → x < runF P len f j → P x = true
  | 0, j, x, h1, h2 => by rw [runF] at h2; omega
  | f + 1, j, x, h1, h2 => by
    rw [runF] at h2
    by_cases c : j < len ∧ P j = true
    · rw [if_pos c] at h2
      by_cases e : x = j
      · rw [e]; exact c.2
      · exact runF_in P len f (j + 1) x (by omega) h2
    · rw [if_neg c] at h2; omega
theorem runF_fuel (P : Nat → Bool) (len : Nat) : ∀ f g j, len - j ≤ f → len - j ≤ g → runF P len f j = runF P len g j
  | 0, 0, j, _, _ => rfl
  | 0, g + 1, j, h1, _ => by rw [runF, runF, if_neg (by omega)]
  | f + 1, 0, j, _, h2 => by rw [runF, runF, if_neg (by omega)]
  | f + 1, g + 1, j, h1, h2 => by
    rw [runF, runF]
    by_cases c : j < len ∧ P j = true
    · rw [if_pos c, if_pos c]
      exact runF_fuel P len f g (j + 1) (by omega) (by omega)
    · rw [if_neg c, if_neg c]
theorem runF_cong {P Q : Nat → Bool} {len : Nat} : ∀ f j, (∀ x, j ≤ x → x < len → P x = Q x) → runF P len f j = runF Q len f j
  | 0, j, _ => rfl
  | f + 1, j, h => by
    rw [runF, runF]
    by_cases c : j < len
    · rw [h j (Nat.le_refl _) c, runF_cong f (j + 1) (fun x h1 h2 => h x (by omega) h2)]
    · rw [if_neg (fun z => c z.1), if_neg (fun z => c z.1)]
theorem iter_runF {σ ρ : Type} {s : σ → Option (σ ⊕ ρ)} (st : Nat → σ) {P : Nat → Bool} {len : Nat} (r : Nat → ρ) (hs : ∀ j, j < len → P j = true → s (st j) = some (.inl (st (j + 1)))) (he : ∀ j, j ≤ len → ¬ (j < len ∧ P j = true) → s (st j) = some (.inr (r j))) : ∀ f n j, j ≤ len → len - j ≤ f → f < n → iter s n (st j) = some (r (runF P len f j))
  | f, 0, j, _, _, h => by omega
  | 0, n + 1, j, h0, h1, _ => by
    rw [runF]
    exact iter_inr (he j h0 (by omega))
  | f + 1, n + 1, j, h0, h1, h2 => by
    rw [runF]
    by_cases c : j < len ∧ P j = true
    · rw [if_pos c, iter_inl (hs j c.1 c.2)]
      exact iter_runF st r hs he f n (j + 1) (by omega) (by omega) (by omega)
    · rw [if_neg c]
      exact iter_inr (he j h0 c)
theorem iter_runG {σ ρ : Type} {s : σ → Option (σ ⊕ ρ)} (st : Nat → σ) {P : Nat → Bool} {len : Nat} (r : Nat → ρ) (j0 : Nat) (hs : ∀ j, j0 ≤ j → j < len → P j = true → s (st j) = some (.inl (st (j + 1)))) (he : ∀ j, j0 ≤ j → j ≤ len → ¬ (j < len ∧ P j = true) → s (st j) = some (.inr (r j))) : ∀ f n j, j0 ≤ j → j ≤ len → len - j ≤ f → f < n → iter s n (st j) = some (r (runF P len f j))
  | f, 0, j, _, _, _, h => by omega
  | 0, n + 1, j, hj, h0, h1, _ => by
    rw [runF]
    exact iter_inr (he j hj h0 (by omega))
  | f + 1, n + 1, j, hj, h0, h1, h2 => by
    rw [runF]
    by_cases c : j < len ∧ P j = true
    · rw [if_pos c, iter_inl (hs j hj c.1 c.2)]
      exact iter_runG st r j0 hs he f n (j + 1) (by omega) (by omega) (by omega) (by omega)
    · rw [if_neg c]
      exact iter_inr (he j hj h0 c)
def srt (c : Nat) : Nat := if 97 ≤ c ∧ c ≤ 122 then 1 else if 48 ≤ c ∧ c ≤ 57 then 2 else 0
def skp (t : Nat → Nat) (len j : Nat) : Nat := runF (fun x => t x == 32) len 200 j
def nd (t : Nat → Nat) (len p : Nat) : Nat := if p < len then (if srt (t p) = 0 then p + 1 else runF (fun x => srt (t x) == srt (t p)) len 200 (p + 1)) else p
theorem skp_le {t : Nat → Nat} {len j : Nat} (h : j ≤ len) : j ≤ skp t len j ∧ skp t len j ≤ len := runF_le _ _ _ _ h
theorem nd_le {t : Nat → Nat} {len p : Nat} (h : p ≤ len) : p ≤ nd t len p ∧ nd t len p ≤ len ∧ (p < len → p < nd t len p) := by
  unfold nd
  by_cases c : p < len
  · rw [if_pos c]
    by_cases c2 : srt (t p) = 0
    · rw [if_pos c2]; omega
    · rw [if_neg c2]
      have := runF_le (fun x => srt (t x) == srt (t p)) len 200 (p + 1) (by omega)
      omega
  · rw [if_neg c]; omega
/-! words -/
def lenW (i : Nat) : Nat := strN.getD i 0
def chW (i k : Nat) : Nat := ((strB.getD i []).getD k 0).toNatClampNeg
def cdW (i : Nat) : Int32 := [(20364786 : Int32), 605668, 20515, 405811, 486131888, 281911, 23596].getD i 0
theorem lenW_b : ∀ i, i < 7 → 3 ≤ lenW i ∧ lenW i ≤ 6 := by decide +kernel
theorem chW_b : ∀ i, i < 7 → ∀ k, k < lenW i → 97 ≤ chW i k ∧ chW i k ≤ 122 := by decide +kernel
theorem sln_n : ∀ i, i < 7 → sln i = nI (lenW i) := by decide +kernel
theorem sch_n : ∀ i, i < 7 → ∀ k, k < lenW i → sch i (nI k) = nI (chW i k) := by decide +kernel
theorem cdW_n : ∀ i, i < 7 → ∀ k, k < lenW i → (96 : Int32) + ((cdW i >>> (((5 : Int32) * nI k) &&& 31)) &&& (31 : Int32)) = nI (chW i k) := by decide +kernel
def mtW (t : Nat → Nat) (i p e : Nat) : Bool := decide (e - p = lenW i) && allB (fun k => decide (t (p + k) = chW i k)) (lenW i)
def wIx (t : Nat → Nat) (p e : Nat) : Nat := if mtW t 0 p e = true then 0 else if mtW t 1 p e = true then 1 else if mtW t 2 p e = true then 2 else if mtW t 3 p e = true then 3 else if mtW t 4 p e = true then 4 else if mtW t 5 p e = true then 5 else if mtW t 6 p e = true then 6 else 7
theorem wIx_le (t : Nat → Nat) (p e : Nat) : wIx t p e ≤ 7 := by
  unfold wIx
  repeat' split
  all_goals omega
theorem mtW_at {t : Nat → Nat} {i p e : Nat} (hi : i < 7) (h : mtW t i p e = true) : p + 3 ≤ e ∧ srt (t p) = 1 := by
  unfold mtW at h
  rw [Bool.and_eq_true, decide_eq_true_iff, allB_iff] at h
  have hl := lenW_b i hi
  have h0 := of_decide_eq_true (h.2 0 (by omega))
  rw [Nat.add_zero] at h0
  have hc := chW_b i hi 0 (by omega)
  refine ⟨by omega, ?_⟩
  unfold srt
  rw [if_pos (by rw [h0]; exact hc)]
theorem wIx_7 {t : Nat → Nat} {p e : Nat} (h : srt (t p) ≠ 1 ∨ e ≤ p) : wIx t p e = 7 := by
  have hm : ∀ i, i < 7 → ¬ mtW t i p e = true := fun i hi q => by
    have := mtW_at hi q
    rcases h with h | h
    · exact h this.2
    · omega
  unfold wIx
  rw [if_neg (hm 0 (by decide)), if_neg (hm 1 (by decide)), if_neg (hm 2 (by decide)), if_neg (hm 3 (by decide)), if_neg (hm 4 (by decide)), if_neg (hm 5 (by decide)), if_neg (hm 6 (by decide))]
/-- the class's text -/
def CT (M : Mem) (t : Nat → Nat) (len : Nat) : Prop := len ≤ 200 ∧ (∀ x, x < len → t x < 256) ∧ M 35 0 = nI len ∧ ∀ x, x < len → M 36 x = nI (t x)
/-- the model's text -/
def MT (K : Mem) (t : Nat → Nat) (len : Nat) : Prop := len ≤ 200 ∧ (∀ x, x < len → t x < 256) ∧ K 74 3 = nI len ∧ ∀ x, x < len → K 77 x = nI (t x)
theorem spells_n {M : Mem} {t : Nat → Nat} {len i p e : Nat} (hc : CT M t len) (hi : i < 7) (h3 : M 35 3 = nI p) (h4 : M 35 4 = nI e) (hpe : p ≤ e) (he : e ≤ len) : fX8_spells i M = some (b2i (mtW t i p e)) := by
  obtain ⟨c1, c2, c3, c4⟩ := hc
  have hl := lenW_b i hi
  unfold fX8_spells mtW
  have hlen : fS_length i M = some (nI (lenW i)) := by unfold fS_length; rw [sln_n i hi]
  rw [bnd_s hlen, h4, h3, pk_sub hpe]
  by_cases c : e - p = lenW i
  · rw [if_pos (by rw [c]), decide_eq_true c, Bool.true_and]
    refine iter_allF _ (lenW i) (FU_lt (by omega)) (fun k hk => ?_) ?_
    · unfold sX8_spells_20
      unfold bX8_spells_20
      have hch : fS_charAt i (nI k) M = some (nI (chW i k)) := by
        unfold fS_charAt
        rw [if_pos ⟨inb_n hk (by have : lenW i ≤ 6 := hl.2; show lenW i < 2 ^ 31; omega), nI_pos (by omega), nI_lt hk (by have : lenW i ≤ 6 := hl.2; show lenW i < 2 ^ 31; omega)⟩, sch_n i hi k hk]
      have hcb := chW_b i hi k hk
      have htb := c2 (p + k) (by omega)
      rw [bnd_s hlen, if_neg (by rw [nI_leI (by omega) (by omega)]; omega), h3, nI_add, chk_t (inb_n (by omega) (by decide)), ix_n (by omega), bnd_s hch, c4 _ (by omega), nI_1]
      by_cases c5 : t (p + k) = chW i k
      · rw [if_pos (by rw [c5]), if_pos (decide_eq_true c5)]
      · rw [if_neg (by rw [nI_eq (by omega) (by omega)]; exact c5), if_neg (by rw [decide_eq_false c5]; decide)]
    · unfold sX8_spells_20
      unfold bX8_spells_20
      rw [bnd_s hlen, if_pos (by rw [nI_leI (by omega) (by omega)]; omega)]
  · rw [if_neg (by rw [nI_eq (by omega) (by omega)]; exact c), decide_eq_false c, Bool.false_and]
    rfl
theorem wordToken_n {M : Mem} {t : Nat → Nat} {len p e : Nat} (hc : CT M t len) (h3 : M 35 3 = nI p) (h4 : M 35 4 = nI e) (hpe : p ≤ e) (he : e ≤ len) : fX8_wordToken M = some (if wIx t p e = 7 then 1 else nI (4 + wIx t p e)) := by
  unfold fX8_wordToken wIx
  rw [bnd_s (spells_n hc (show 0 < 7 by decide) h3 h4 hpe he), bnd_s (spells_n hc (show 1 < 7 by decide) h3 h4 hpe he), bnd_s (spells_n hc (show 2 < 7 by decide) h3 h4 hpe he), bnd_s (spells_n hc (show 3 < 7 by decide) h3 h4 hpe he), bnd_s (spells_n hc (show 4 < 7 by decide) h3 h4 hpe he), bnd_s (spells_n hc (show 5 < 7 by decide) h3 h4 hpe he), bnd_s (spells_n hc (show 6 < 7 by decide) h3 h4 hpe he)]
  cases mtW t 0 p e with
  | true => rfl
  | false =>
    cases mtW t 1 p e with
    | true => rfl
    | false =>
      cases mtW t 2 p e with
      | true => rfl
      | false =>
        cases mtW t 3 p e with
        | true => rfl
        | false =>
          cases mtW t 4 p e with
          | true => rfl
          | false =>
            cases mtW t 5 p e with
            | true => rfl
            | false => cases mtW t 6 p e <;> rfl
theorem isWord_n {K : Mem} {t : Nat → Nat} {len i p e : Nat} (hc : MT K t len) (hi : i < 7) (h6 : K 74 6 = nI p) (h7 : K 74 7 = nI e) (hpe : p ≤ e) (he : e ≤ len) : fX12_isWord (cdW i) (nI (lenW i)) K = some (b2i (mtW t i p e)) := by
  obtain ⟨c1, c2, c3, c4⟩ := hc
  have hl := lenW_b i hi
  unfold fX12_isWord mtW
  rw [h7, h6, pk_sub hpe]
  by_cases c : e - p = lenW i
  · rw [if_pos (by rw [c]), decide_eq_true c, Bool.true_and]
    unfold jX12_isWord_18
    have key : ∀ (m k : Nat), k ≤ lenW i → lenW i - k + 1 < m → allB (fun k => decide (t (p + k) = chW i k)) k = true → iter (sX12_isWord_22 (cdW i) (nI (lenW i)) K) m ((1 : Int32), nI k) = some (b2i (allB (fun k => decide (t (p + k) = chW i k)) (lenW i))) := by
      intro m k h1 h2 h3
      refine iter_all2 (fun x => x) (fun k => decide (t (p + k) = chW i k)) (lenW i) (fun k hk => ?_) (fun k hk => ?_) ?_ m k h1 h2 h3
      · unfold sX12_isWord_22
        dsimp only
        unfold bX12_isWord_22
        have hcb := chW_b i hi k hk
        have htb := c2 (p + k) (by omega)
        rw [if_neg (by decide), if_neg (by rw [nI_leI (by omega) (by omega)]; omega), h6, nI_add, chk_t (inb_n (by omega) (by decide)), ix_n (by omega), c4 _ (by omega), cdW_n i hi k hk, nI_1]
        by_cases c5 : t (p + k) = chW i k
        · rw [if_pos (by rw [c5]), decide_eq_true c5]; rfl
        · rw [if_neg (by rw [nI_eq (by omega) (by omega)]; exact c5), decide_eq_false c5]; rfl
      · unfold sX12_isWord_22
        dsimp only
        unfold bX12_isWord_22
        rw [if_pos rfl, chk_t (by decide)]
      · unfold sX12_isWord_22
        dsimp only
        unfold bX12_isWord_22
        rw [if_neg (by decide), if_pos (by rw [nI_leI (by omega) (by omega)]; omega), chk_t (by decide)]
    exact key FU 0 (Nat.zero_le _) (FU_lt (by omega)) rfl
  · rw [if_neg (by rw [nI_eq (by omega) (by omega)]; exact c), decide_eq_false c, Bool.false_and]
    unfold jX12_isWord_18
    refine iter_inr ?_
    unfold sX12_isWord_22
    dsimp only
    unfold bX12_isWord_22
    rw [if_pos rfl, chk_t (by decide)]
    rfl
theorem wordOf_n {K : Mem} {t : Nat → Nat} {len p e : Nat} (hc : MT K t len) (h6 : K 74 6 = nI p) (h7 : K 74 7 = nI e) (hpe : p ≤ e) (he : e ≤ len) : fX12_wordOf K = some (if wIx t p e = 7 then -1 else nI (wIx t p e)) := by
  unfold fX12_wordOf wIx
  dsimp only [letb]
  rw [bnd_s (show fX12_isWord (20364786 : Int32) (5 : Int32) K = _ from isWord_n hc (show 0 < 7 by decide) h6 h7 hpe he), bnd_s (show fX12_isWord (605668 : Int32) (4 : Int32) K = _ from isWord_n hc (show 1 < 7 by decide) h6 h7 hpe he), bnd_s (show fX12_isWord (20515 : Int32) (3 : Int32) K = _ from isWord_n hc (show 2 < 7 by decide) h6 h7 hpe he), bnd_s (show fX12_isWord (405811 : Int32) (4 : Int32) K = _ from isWord_n hc (show 3 < 7 by decide) h6 h7 hpe he), bnd_s (show fX12_isWord (486131888 : Int32) (6 : Int32) K = _ from isWord_n hc (show 4 < 7 by decide) h6 h7 hpe he), bnd_s (show fX12_isWord (281911 : Int32) (4 : Int32) K = _ from isWord_n hc (show 5 < 7 by decide) h6 h7 hpe he), bnd_s (show fX12_isWord (23596 : Int32) (3 : Int32) K = _ from isWord_n hc (show 6 < 7 by decide) h6 h7 hpe he)]
  cases mtW t 0 p e with
  | true => rfl
  | false =>
    cases mtW t 1 p e with
    | true => rfl
    | false =>
      cases mtW t 2 p e with
      | true => rfl
      | false =>
        cases mtW t 3 p e with
        | true => rfl
        | false =>
          cases mtW t 4 p e with
          | true => rfl
          | false =>
            cases mtW t 5 p e with
            | true => rfl
            | false => cases mtW t 6 p e <;> rfl
/-! numbers -/
def nvF (t : Nat → Nat) (p : Nat) : Nat → Nat
  | 0 => 0
  | k + 1 => 10 * nvF t p k + t (p + k) - 48
theorem nvF_lt {t : Nat → Nat} {p : Nat} : ∀ {k : Nat}, (∀ x, x < k → 48 ≤ t (p + x) ∧ t (p + x) ≤ 57) → nvF t p k < 10 ^ k
  | 0, _ => Nat.one_pos
  | k + 1, h => by
    have ih := nvF_lt (k := k) (fun x hx => h x (by omega))
    have hk := h k (by omega)
    rw [nvF, Nat.pow_succ]
    omega
theorem nv_step {t : Nat → Nat} {p k : Nat} (h : 48 ≤ t (p + k)) : ((10 : Int32) * nI (nvF t p k) + nI (t (p + k))) - (48 : Int32) = nI (nvF t p (k + 1)) := by
  rw [show (10 : Int32) = nI 10 from rfl, pk_mul, nI_add, show (48 : Int32) = nI 48 from rfl, pk_sub (by omega), nvF]
theorem srt_2 {c : Nat} (h : srt c = 2) : 48 ≤ c ∧ c ≤ 57 := by
  unfold srt at h
  by_cases c1 : 97 ≤ c ∧ c ≤ 122
  · rw [if_pos c1] at h; omega
  · rw [if_neg c1] at h
    by_cases c2 : 48 ≤ c ∧ c ≤ 57
    · exact c2
    · rw [if_neg c2] at h; omega
theorem nd_run {t : Nat → Nat} {len p : Nat} (hp : p < len) (h : srt (t p) ≠ 0) : ∀ x, p ≤ x → x < nd t len p → srt (t x) = srt (t p) := fun x h1 h2 => by
  unfold nd at h2
  rw [if_pos hp, if_neg h] at h2
  by_cases e : x = p
  · rw [e]
  · have := runF_in _ _ _ _ x (by omega) h2
    exact beq_iff_eq.mp this
/-- the class's token -/
def kd (t : Nat → Nat) (len p : Nat) : Nat := if p < len then (if srt (t p) = 1 then (if wIx t p (nd t len p) = 7 then 1 else 4 + wIx t p (nd t len p)) else if srt (t p) = 2 then (if nd t len p - p ≤ 3 then 2 else 1) else if t p = 59 then 3 else 1) else 0
theorem within_n {M : Mem} {t : Nat → Nat} {len x lo hi : Nat} (hc : CT M t len) (hx : x < len) (hlo : lo < 300) (hhi : hi < 300) : fX8_isWithin (nI x) (nI lo) (nI hi) M = some (b2i (decide (lo ≤ t x ∧ t x ≤ hi))) := by
  obtain ⟨c1, c2, c3, c4⟩ := hc
  have htb := c2 x hx
  unfold fX8_isWithin
  rw [chk_t (inb_n (by omega) (by decide)), ix_n (by omega), c4 x hx]
  by_cases h1 : t x < lo
  · rw [if_pos (nI_lt h1 (by omega)), decide_eq_false (by omega)]; rfl
  · rw [if_neg (nI_nlt (by omega) (by omega)), chk_t (inb_n (by omega) (by decide))]
    by_cases h2 : hi < t x
    · rw [if_pos (nI_lt h2 (by omega)), decide_eq_false (by omega)]; rfl
    · rw [if_neg (nI_nlt (by omega) (by omega)), decide_eq_true (by omega)]; rfl
theorem endOf_n {M : Mem} {t : Nat → Nat} {len p lo hi : Nat} (hc : CT M t len) (h3 : M 35 3 = nI p) (hp : p ≤ len) (hlo : lo < 300) (hhi : hi < 300) : fX8_endOf (nI lo) (nI hi) M = some (nI (runF (fun x => decide (lo ≤ t x ∧ t x ≤ hi)) len 200 p)) := by
  have hl := hc.1
  unfold fX8_endOf
  dsimp only [letb]
  rw [h3]
  refine iter_runF (fun j => nI j) (fun j => nI j) (fun j hj hP => ?_) (fun j hj hP => ?_) 200 FU p hp (by omega) (FU_lt (by decide))
  · unfold sX8_endOf_5
    unfold bX8_endOf_5
    rw [hc.2.2.1, if_neg (by rw [nI_leI (by omega) (by omega)]; omega), bnd_s (within_n hc hj hlo hhi), hP, if_neg (by decide), nI_1]
  · unfold sX8_endOf_5
    unfold bX8_endOf_5
    rw [hc.2.2.1]
    by_cases c : len ≤ j
    · rw [if_pos (by rw [nI_leI (by omega) (by omega)]; exact c)]
    · rw [if_neg (by rw [nI_leI (by omega) (by omega)]; exact c), bnd_s (within_n hc (by omega) hlo hhi)]
      cases hb : decide (lo ≤ t j ∧ t j ≤ hi) with
      | false => rw [if_pos (by decide)]
      | true => exact absurd ⟨by omega, hb⟩ hP
theorem run_nd {t : Nat → Nat} {len p s : Nat} {P : Nat → Bool} (hl : len ≤ 200) (hp : p < len) (hs : srt (t p) = s) (h0 : s ≠ 0) (hP : ∀ x, P x = (srt (t x) == s)) : runF P len 200 p = nd t len p := by
  unfold nd
  rw [if_pos hp, if_neg (by rw [hs]; exact h0), hs, runF, if_pos ⟨hp, by rw [hP p, hs]; exact beq_self_eq_true s⟩, runF_cong 199 (p + 1) (fun x _ _ => hP x)]
  exact runF_fuel _ _ _ _ _ (by omega) (by omega)
theorem srt_a (c : Nat) : decide (97 ≤ c ∧ c ≤ 122) = (srt c == 1) := by
  unfold srt
  by_cases h : 97 ≤ c ∧ c ≤ 122
  · rw [if_pos h, decide_eq_true h]; rfl
  · rw [if_neg h, decide_eq_false h]
    split <;> rfl
theorem srt_d (c : Nat) : decide (48 ≤ c ∧ c ≤ 57) = (srt c == 2) := by
  unfold srt
  by_cases h : 97 ≤ c ∧ c ≤ 122
  · rw [if_pos h, decide_eq_false (by omega)]; rfl
  · rw [if_neg h]
    by_cases h2 : 48 ≤ c ∧ c ≤ 57
    · rw [if_pos h2, decide_eq_true h2]; rfl
    · rw [if_neg h2, decide_eq_false h2]; rfl
theorem CT.congr {M K : Mem} {t : Nat → Nat} {len : Nat} (h : CT M t len) (h1 : K 35 0 = M 35 0) (h2 : K 36 = M 36) : CT K t len := ⟨h.1, h.2.1, by rw [h1]; exact h.2.2.1, fun x hx => by rw [h2]; exact h.2.2.2 x hx⟩
theorem MT.congr {M K : Mem} {t : Nat → Nat} {len : Nat} (h : MT M t len) (h1 : K 74 3 = M 74 3) (h2 : K 77 = M 77) : MT K t len := ⟨h.1, h.2.1, by rw [h1]; exact h.2.2.1, fun x hx => by rw [h2]; exact h.2.2.2 x hx⟩
theorem numTok_n {M : Mem} {t : Nat → Nat} {len p e : Nat} (hc : CT M t len) (h3 : M 35 3 = nI p) (h4 : M 35 4 = nI e) (hpe : p ≤ e) (he : e ≤ len) (hd : ∀ x, p ≤ x → x < e → 48 ≤ t x ∧ t x ≤ 57) : ∃ M2, fX8_numberToken M = some (if e - p ≤ 3 then 2 else 1, M2) ∧ (e - p ≤ 3 → M2 35 5 = nI (nvF t p (e - p))) ∧ (∀ i, i ≠ 5 → M2 35 i = M 35 i) ∧ ∀ c, c ≠ 35 → M2 c = M c := by
  obtain ⟨c1, c2, c3, c4⟩ := hc
  unfold fX8_numberToken
  rw [h4, h3, pk_sub hpe]
  by_cases c : e - p ≤ 3
  · rw [if_pos (show nI (e - p) ≤ (3 : Int32) from nI_le (b := 3) c (by decide)), if_pos c]
    dsimp only [letb]
    rw [up2_i (show 3 ≠ 5 by decide), h3]
    have key := iter_invF (s := sX8_numberToken_25) (fun k x => x.1 = nI (p + k) ∧ x.2 35 5 = nI (nvF t p k) ∧ (∀ i, i ≠ 5 → x.2 35 i = M 35 i) ∧ ∀ c, c ≠ 35 → x.2 c = M c) (fun r => r.1 = 2 ∧ r.2 35 5 = nI (nvF t p (e - p)) ∧ (∀ i, i ≠ 5 → r.2 35 i = M 35 i) ∧ ∀ c, c ≠ 35 → r.2 c = M c) (e - p) (FU_lt (by omega)) (x := (nI p, up2 M 35 5 (0 : Int32))) ⟨rfl, by show up2 M 35 5 (0 : Int32) 35 5 = nI 0; rw [up2_self]; rfl, fun i hi => by show up2 M 35 5 0 35 i = _; rw [up2_i hi], fun c hc => by show up2 M 35 5 0 c = _; rw [up2_cc hc]⟩ (fun k x hk hx => ?_) (fun x hx => ?_)
    · obtain ⟨⟨r1, M2⟩, k1, rfl, k2, k3, k4⟩ := key
      exact ⟨M2, k1, fun _ => k2, k3, k4⟩
    · obtain ⟨x1, K⟩ := x
      dsimp only at hx
      obtain ⟨rfl, hv, h5, hcc⟩ := hx
      refine ⟨(nI (p + (k + 1)), up2 K 35 5 (nI (nvF t p (k + 1)))), ?_, rfl, (show up2 K 35 5 (nI (nvF t p (k + 1))) 35 5 = _ from up2_self ..), fun i hi => by show up2 K 35 5 _ 35 i = _; rw [up2_i hi]; exact h5 i hi, fun c hc => by show up2 K 35 5 _ c = _; rw [up2_cc hc]; exact hcc c hc⟩
      unfold sX8_numberToken_25
      dsimp only
      unfold bX8_numberToken_25
      rw [h5 4 (by decide), h4, if_neg (by rw [nI_leI (by omega) (by omega)]; omega), chk_t (inb_n (by omega) (by decide)), ix_n (by omega), hcc 36 (by decide), c4 _ (by omega), hv, nv_step (hd (p + k) (by omega) (by omega)).1]
      dsimp only [letb]
      rw [nI_1, Nat.add_assoc]
    · obtain ⟨x1, K⟩ := x
      dsimp only at hx
      obtain ⟨rfl, hv, h5, hcc⟩ := hx
      refine ⟨((2 : Int32), K), ?_, rfl, hv, h5, hcc⟩
      unfold sX8_numberToken_25
      dsimp only
      unfold bX8_numberToken_25
      rw [h5 4 (by decide), h4, if_pos (by rw [nI_leI (by omega) (by omega)]; omega)]
  · rw [if_neg (show ¬ nI (e - p) ≤ (3 : Int32) from nI_ge (a := 3) (by omega) (by omega)), if_neg c]
    exact ⟨M, rfl, fun q => absurd q c, fun _ _ => rfl, fun _ _ => rfl⟩
/-- the class goes on to the next token -/
theorem advance_n {M : Mem} {t : Nat → Nat} {len j : Nat} (hc : CT M t len) (h4 : M 35 4 = nI j) (hj : j ≤ len) : ∃ M2, fX8_advance M = some M2 ∧ M2 35 3 = nI (skp t len j) ∧ M2 35 4 = nI (nd t len (skp t len j)) ∧ M2 35 2 = nI (kd t len (skp t len j)) ∧ (kd t len (skp t len j) = 2 → M2 35 5 = nI (nvF t (skp t len j) (nd t len (skp t len j) - skp t len j))) ∧ (∀ i, (i < 2 ∨ 5 < i) → M2 35 i = M 35 i) ∧ ∀ c, c ≠ 35 → M2 c = M c := by
  obtain ⟨c1, c2, c3, c4⟩ := id hc
  have hsk := skp_le (t := t) hj
  -- behind the blanks
  have hskip : ∀ p, p ≤ len → ∃ M2, jX8_advance_38 (up2 M 35 4 (nI p)) = some M2 ∧ M2 35 3 = nI p ∧ M2 35 4 = nI (nd t len p) ∧ M2 35 2 = nI (kd t len p) ∧ (kd t len p = 2 → M2 35 5 = nI (nvF t p (nd t len p - p))) ∧ (∀ i, (i < 2 ∨ 5 < i) → M2 35 i = M 35 i) ∧ ∀ c, c ≠ 35 → M2 c = M c := fun p hp => by
    have hnd := nd_le (t := t) hp
    generalize hI1 : up2 (up2 M 35 4 (nI p)) 35 3 (nI p) = I1
    have e4 : I1 35 4 = nI p := by rw [← hI1, up2_i (by decide), up2_self]
    have e3 : I1 35 3 = nI p := by rw [← hI1, up2_self]
    have ei : ∀ i, i ≠ 3 → i ≠ 4 → I1 35 i = M 35 i := fun i q1 q2 => by rw [← hI1, up2_i q1, up2_i q2]
    have ec : ∀ c, c ≠ 35 → I1 c = M c := fun c q => by rw [← hI1, up2_cc q, up2_cc q]
    have hc1 : CT I1 t len := hc.congr (ei 0 (by decide) (by decide)) (ec 36 (by decide))
    unfold jX8_advance_38
    dsimp only [letb]
    rw [up2_self (I := M), hI1, e4, ei 0 (by decide) (by decide), c3]
    unfold kd
    by_cases c : p < len
    · have htb := c2 p c
      rw [if_pos (nI_lt c (by omega)), if_pos c, show (97 : Int32) = nI 97 from rfl, show (122 : Int32) = nI 122 from rfl, bnd_s (within_n hc1 c (by decide) (by decide)), srt_a]
      by_cases s1 : srt (t p) = 1
      · rw [if_pos s1, s1, if_neg (by decide), bnd_s (endOf_n hc1 e3 hp (by decide) (by decide)), run_nd c1 c s1 (by decide) (fun x => srt_a (t x))]
        have hw := wordToken_n (M := up2 I1 35 4 (nI (nd t len p))) (hc1.congr (up2_i (by decide)) (up2_cc (by decide))) (show up2 I1 35 4 (nI (nd t len p)) 35 3 = nI p by rw [up2_i (by decide)]; exact e3) (up2_self ..) hnd.1 hnd.2.1
        rw [bnd_s hw]
        refine ⟨_, rfl, by rw [up2_i (by decide), up2_i (by decide)]; exact e3, by rw [up2_i (by decide), up2_self], ?_, fun q => ?_, fun i hi => by rw [up2_i (by omega), up2_i (by omega)]; exact ei i (by omega) (by omega), fun c hc => by rw [up2_cc hc, up2_cc hc]; exact ec c hc⟩
        · rw [up2_self]
          split <;> rfl
        · have := wIx_le t p (nd t len p)
          split at q <;> omega
      · have hb1 : (srt (t p) == 1) = false := beq_eq_false_iff_ne.mpr s1
        rw [if_neg s1, hb1, if_pos (by decide), show (48 : Int32) = nI 48 from rfl, show (57 : Int32) = nI 57 from rfl, bnd_s (within_n hc1 c (by decide) (by decide)), srt_d]
        by_cases s2 : srt (t p) = 2
        · rw [if_pos s2, s2, if_neg (by decide), bnd_s (endOf_n hc1 e3 hp (by decide) (by decide)), run_nd c1 c s2 (by decide) (fun x => srt_d (t x))]
          obtain ⟨M2, n1, n2, n3, n4⟩ := numTok_n (M := up2 I1 35 4 (nI (nd t len p))) (hc1.congr (up2_i (by decide)) (up2_cc (by decide))) (show up2 I1 35 4 (nI (nd t len p)) 35 3 = nI p by rw [up2_i (by decide)]; exact e3) (up2_self ..) hnd.1 hnd.2.1 (fun x h1 h2 => srt_2 (by rw [nd_run c (by omega) x h1 h2]; exact s2))
          rw [bnd2_s n1]
          refine ⟨_, rfl, by rw [up2_i (by decide), n3 3 (by decide), up2_i (by decide)]; exact e3, by rw [up2_i (by decide), n3 4 (by decide), up2_self], ?_, fun q => ?_, fun i hi => by rw [up2_i (by omega), n3 i (by omega), up2_i (by omega)]; exact ei i (by omega) (by omega), fun c hc => by rw [up2_cc hc, n4 c hc, up2_cc hc]; exact ec c hc⟩
          · rw [up2_self]
            split <;> rfl
          · rw [up2_i (by decide)]
            refine n2 ?_
            by_cases c9 : nd t len p - p ≤ 3
            · exact c9
            · rw [if_neg c9] at q; omega
        · have hb2 : (srt (t p) == 2) = false := beq_eq_false_iff_ne.mpr s2
          have hnd1 : nd t len p = p + 1 := by
            have h0 : srt (t p) = 0 := by
              unfold srt at s1 s2 ⊢
              by_cases q1 : 97 ≤ t p ∧ t p ≤ 122
              · rw [if_pos q1] at s1; exact absurd rfl s1
              · rw [if_neg q1] at s2 ⊢
                by_cases q2 : 48 ≤ t p ∧ t p ≤ 57
                · rw [if_pos q2] at s2; exact absurd rfl s2
                · rw [if_neg q2]
            unfold nd
            rw [if_pos c, if_pos h0]
          have h161 : ∀ u : Nat, u ≠ 2 → ∃ M2, jX8_advance_161 (nI u) I1 = some M2 ∧ M2 35 3 = nI p ∧ M2 35 4 = nI (nd t len p) ∧ M2 35 2 = nI u ∧ (u = 2 → M2 35 5 = nI (nvF t p (nd t len p - p))) ∧ (∀ i, (i < 2 ∨ 5 < i) → M2 35 i = M 35 i) ∧ ∀ c, c ≠ 35 → M2 c = M c := fun u hu => by
            unfold jX8_advance_161
            dsimp only [letb]
            refine ⟨_, rfl, by rw [up2_i (by decide), up2_i (by decide)]; exact e3, by rw [up2_self, up2_i (by decide), e4, nI_1, hnd1], by rw [up2_i (by decide), up2_self], fun q => absurd q hu, fun i hi => by rw [up2_i (by omega), up2_i (by omega)]; exact ei i (by omega) (by omega), fun c hc => by rw [up2_cc hc, up2_cc hc]; exact ec c hc⟩
          rw [if_neg s2, hb2, if_pos (by decide), chk_t (inb_n (by omega) (by decide)), ix_n (by omega), ec 36 (by decide), c4 p c]
          by_cases s3 : t p = 59
          · rw [if_pos s3, if_pos (by rw [s3]; rfl)]
            exact h161 3 (by decide)
          · rw [if_neg s3, if_neg (by rw [show (59 : Int32) = nI 59 from rfl, nI_eq (by omega) (by omega)]; exact s3)]
            exact h161 1 (by decide)
    · rw [if_neg (nI_nlt (by omega) (by omega)), if_neg c]
      have hnd0 : nd t len p = p := by unfold nd; rw [if_neg c]
      refine ⟨_, rfl, by rw [up2_i (by decide)]; exact e3, by rw [up2_i (by decide), e4, hnd0], up2_self .., fun q => by omega, fun i hi => by rw [up2_i (by omega)]; exact ei i (by omega) (by omega), fun c hc => by rw [up2_cc hc]; exact ec c hc⟩
  obtain ⟨M2, m1, m2⟩ := hskip (skp t len j) hsk.2
  refine ⟨M2, ?_, m2⟩
  unfold fX8_advance
  have e0 : up2 M 35 4 (nI j) = M := by rw [← h4, up2_same]
  have key := iter_runF (s := sX8_advance_0) (fun j => up2 M 35 4 (nI j)) (P := fun x => t x == 32) (len := len) (fun j => (jX8_advance_38 (up2 M 35 4 (nI j))).getD M) (fun x hx hP => ?_) (fun x hx hP => ?_) 200 FU j hj (by omega) (FU_lt (by decide))
  · rw [e0] at key
    rw [key]
    show some ((jX8_advance_38 (up2 M 35 4 (nI (skp t len j)))).getD M) = some M2
    rw [m1]
    rfl
  · have htb := c2 x hx
    unfold sX8_advance_0
    unfold bX8_advance_0
    rw [up2_i (show 0 ≠ 4 by decide), c3, up2_self, if_neg (by rw [nI_leI (by omega) (by omega)]; omega), chk_t (inb_n (by omega) (by decide)), ix_n (by omega), up2_c (by decide), c4 x hx, if_pos (by rw [show t x = 32 from beq_iff_eq.mp hP]; rfl)]
    dsimp only [letb]
    rw [up2_up2, nI_1]
  · obtain ⟨M3, q1, -⟩ := hskip x hx
    unfold sX8_advance_0
    unfold bX8_advance_0
    rw [up2_i (show 0 ≠ 4 by decide), c3, up2_self, q1]
    by_cases c : len ≤ x
    · rw [if_pos (by rw [nI_leI (by omega) (by omega)]; exact c)]
      rfl
    · have htb := c2 x (by omega)
      have h32 : ¬ t x = 32 := fun q => hP ⟨by omega, by rw [beq_iff_eq]; exact q⟩
      rw [if_neg (by rw [nI_leI (by omega) (by omega)]; exact c), chk_t (inb_n (by omega) (by decide)), ix_n (by omega), up2_c (by decide), c4 x (by omega), if_neg (by rw [show (32 : Int32) = nI 32 from rfl, nI_eq (by omega) (by omega)]; exact h32)]
      rfl
theorem sort_n {K : Mem} {c : Nat} (hc : c < 256) : fX12_sort (nI c) K = some (nI (srt c)) := by
  unfold fX12_sort jX12_sort_16 srt
  by_cases h1 : 97 ≤ c ∧ c ≤ 122
  · rw [if_neg (show ¬ nI c < (97 : Int32) from nI_nlt (b := 97) h1.1 (by omega)), if_neg (show ¬ (122 : Int32) < nI c from nI_nlt (a := 122) h1.2 (by decide)), if_pos h1]
    rfl
  · have key : (if nI c < (48 : Int32) then some (0 : Int32) else if (57 : Int32) < nI c then some 0 else some 2) = some (nI (if 48 ≤ c ∧ c ≤ 57 then 2 else 0)) := by
      by_cases h2 : 48 ≤ c ∧ c ≤ 57
      · rw [if_neg (show ¬ nI c < (48 : Int32) from nI_nlt (b := 48) h2.1 (by omega)), if_neg (show ¬ (57 : Int32) < nI c from nI_nlt (a := 57) h2.2 (by decide)), if_pos h2]
        rfl
      · rw [if_neg h2]
        by_cases h3 : c < 48
        · rw [if_pos (show nI c < (48 : Int32) from nI_lt (b := 48) h3 (by decide))]; rfl
        · rw [if_neg (show ¬ nI c < (48 : Int32) from nI_nlt (b := 48) (by omega) (by omega)), if_pos (show (57 : Int32) < nI c from nI_lt (a := 57) (by omega) (by omega))]; rfl
    rw [if_neg h1]
    by_cases h4 : c < 97
    · rw [if_pos (show nI c < (97 : Int32) from nI_lt (b := 97) h4 (by decide))]
      exact key
    · rw [if_neg (show ¬ nI c < (97 : Int32) from nI_nlt (b := 97) (by omega) (by omega)), if_pos (show (122 : Int32) < nI c from nI_lt (a := 122) (by omega) (by omega))]
      exact key
/-- the model goes on to the next token -/
theorem token_n {K : Mem} {t : Nat → Nat} {len j : Nat} (hc : MT K t len) (h5 : K 74 5 = nI j) (hj : j ≤ len) : ∃ K2, fX12_token K = some K2 ∧ K2 74 6 = nI (skp t len j) ∧ K2 74 5 = nI (nd t len (skp t len j)) ∧ K2 74 7 = nI (nd t len (skp t len j)) ∧ (∀ i, (i < 5 ∨ 7 < i) → K2 74 i = K 74 i) ∧ ∀ c, c ≠ 74 → K2 c = K c := by
  obtain ⟨c1, c2, c3, c4⟩ := id hc
  have hsk := skp_le (t := t) hj
  have h38 : ∀ p, p ≤ len → jX12_token_38 (up2 K 74 5 (nI p)) = some (up2 (up2 (up2 (up2 K 74 5 (nI p)) 74 6 (nI p)) 74 5 (nI (nd t len p))) 74 7 (nI (nd t len p))) := fun p hp => by
    generalize hB : up2 (up2 K 74 5 (nI p)) 74 6 (nI p) = B
    have b6 : B 74 6 = nI p := by rw [← hB, up2_self]
    have b3 : B 74 3 = nI len := by rw [← hB, up2_i (by decide), up2_i (by decide)]; exact c3
    have b5 : B 74 5 = nI p := by rw [← hB, up2_i (by decide), up2_self]
    have b77 : B 77 = K 77 := by rw [← hB, up2_cc (by decide), up2_cc (by decide)]
    unfold jX12_token_38
    dsimp only [letb]
    rw [up2_self (I := K), hB, b3, b5]
    unfold jX12_token_67
    dsimp only [letb]
    have loop : ∀ q, p ≤ q → q ≤ len → (p < len → p < q) → iter sX12_token_71 FU (up2 B 74 5 (nI q)) = some (up2 (up2 B 74 5 (nI (runF (fun x => decide (p < len ∧ srt (t p) ≠ 0) && (srt (t x) == srt (t p))) len 200 q))) 74 7 (nI (runF (fun x => decide (p < len ∧ srt (t p) ≠ 0) && (srt (t x) == srt (t p))) len 200 q))) := fun q h1 h2 h3 => by
      refine iter_runG (s := sX12_token_71) (fun j => up2 B 74 5 (nI j)) (fun j => up2 (up2 B 74 5 (nI j)) 74 7 (nI j)) p (fun x hpx hx hP => ?_) (fun x hpx hx hP => ?_) 200 FU q h1 h2 (by omega) (FU_lt (by decide))
      · rw [Bool.and_eq_true, decide_eq_true_iff, beq_iff_eq] at hP
        have hb1 := c2 x hx
        have hb2 := c2 p hP.1.1
        have hsr : srt (t p) ≤ 2 := by unfold srt; repeat' split
                                       all_goals omega
        unfold sX12_token_71
        unfold bX12_token_71
        rw [up2_i (show 3 ≠ 5 by decide), up2_i (show 6 ≠ 5 by decide), up2_self, up2_cc (show 77 ≠ 74 by decide), b3, b6, b77, if_neg (by rw [nI_leI (by omega) (by omega)]; omega), chk_t (inb_n (by omega) (by decide)), ix_n (show p < 2 ^ 31 by omega), c4 p hP.1.1, bnd_s (sort_n hb2), if_neg (show ¬ nI (srt (t p)) ≤ 0 from nI_ge (a := 0) (by omega) (by omega)), chk_t (inb_n (by omega) (by decide)), ix_n (show x < 2 ^ 31 by omega), c4 x hx, bnd_s (sort_n hb1), chk_t (inb_n (by omega) (by decide)), bnd_s (sort_n hb2), if_pos (by rw [hP.2])]
        dsimp only [letb]
        rw [up2_up2, nI_1]
      · unfold sX12_token_71
        unfold bX12_token_71
        dsimp only [letb]
        rw [up2_i (show 3 ≠ 5 by decide), up2_i (show 6 ≠ 5 by decide), up2_self, up2_cc (show 77 ≠ 74 by decide), b3, b6, b77]
        by_cases cx : len ≤ x
        · rw [if_pos (by rw [nI_leI (by omega) (by omega)]; exact cx)]
        · rw [if_neg (by rw [nI_leI (by omega) (by omega)]; exact cx)]
          have hx2 : x < len := by omega
          by_cases cp : p < len
          · have hb1 := c2 x hx2
            have hb2 := c2 p cp
            have hsr : srt (t p) ≤ 2 := by unfold srt; repeat' split
                                           all_goals omega
            have hsx : srt (t x) ≤ 2 := by unfold srt; repeat' split
                                           all_goals omega
            rw [chk_t (inb_n (show p < 200 by omega) (by decide)), ix_n (show p < 2 ^ 31 by omega), c4 p cp, bnd_s (sort_n hb2)]
            by_cases c0 : srt (t p) = 0
            · rw [if_pos (by rw [c0]; decide)]
            · rw [if_neg (show ¬ nI (srt (t p)) ≤ 0 from nI_ge (a := 0) (by omega) (by omega)), chk_t (inb_n (show x < 200 by omega) (by decide)), ix_n (show x < 2 ^ 31 by omega), c4 x hx2, bnd_s (sort_n hb1), chk_t (inb_n (show p < 200 by omega) (by decide)), bnd_s (sort_n hb2), if_neg]
              rw [nI_eq (by omega) (by omega)]
              intro q
              refine hP ⟨hx2, ?_⟩
              rw [Bool.and_eq_true, decide_eq_true_iff, beq_iff_eq]
              exact ⟨⟨cp, c0⟩, q⟩
          · omega
    by_cases c : p < len
    · rw [if_neg (by rw [nI_leI (by omega) (by omega)]; omega), nI_1, loop (p + 1) (by omega) (by omega) (fun _ => by omega)]
      have hr : runF (fun x => decide (p < len ∧ srt (t p) ≠ 0) && (srt (t x) == srt (t p))) len 200 (p + 1) = nd t len p := by
        unfold nd
        rw [if_pos c]
        by_cases c0 : srt (t p) = 0
        · rw [if_pos c0, runF, if_neg]
          rintro ⟨-, q⟩
          rw [decide_eq_false (fun z => z.2 c0), Bool.false_and] at q
          cases q
        · rw [if_neg c0]
          refine runF_cong 200 (p + 1) (fun x _ _ => ?_)
          rw [decide_eq_true ⟨c, c0⟩, Bool.true_and]
      rw [hr]
    · rw [if_pos (by rw [nI_leI (by omega) (by omega)]; omega), show nI p + (0 : Int32) = nI p from nI_add p 0, loop p (Nat.le_refl _) hp (fun q => absurd q c)]
      have hr : runF (fun x => decide (p < len ∧ srt (t p) ≠ 0) && (srt (t x) == srt (t p))) len 200 p = nd t len p := by
        unfold nd
        rw [if_neg c, runF, if_neg (fun z => c z.1)]
      rw [hr]
  refine ⟨up2 (up2 (up2 (up2 K 74 5 (nI (skp t len j))) 74 6 (nI (skp t len j))) 74 5 (nI (nd t len (skp t len j)))) 74 7 (nI (nd t len (skp t len j))), ?_, by rw [up2_i (by decide), up2_i (by decide), up2_self], by rw [up2_i (by decide), up2_self], up2_self .., fun i hi => by rw [up2_i (by omega), up2_i (by omega), up2_i (by omega), up2_i (by omega)], fun c hc => by rw [up2_cc hc, up2_cc hc, up2_cc hc, up2_cc hc]⟩
  unfold fX12_token
  have e0 : up2 K 74 5 (nI j) = K := by rw [← h5, up2_same]
  have key := iter_runF (s := sX12_token_0) (fun j => up2 K 74 5 (nI j)) (P := fun x => t x == 32) (len := len) (fun p => up2 (up2 (up2 (up2 K 74 5 (nI p)) 74 6 (nI p)) 74 5 (nI (nd t len p))) 74 7 (nI (nd t len p))) (fun x hx hP => ?_) (fun x hx hP => ?_) 200 FU j hj (by omega) (FU_lt (by decide))
  · rw [e0] at key
    exact key
  · have htb := c2 x hx
    unfold sX12_token_0
    unfold bX12_token_0
    rw [up2_i (show 3 ≠ 5 by decide), c3, up2_self, if_neg (by rw [nI_leI (by omega) (by omega)]; omega), chk_t (inb_n (by omega) (by decide)), ix_n (by omega), up2_c (by decide), c4 x hx, if_pos (by rw [show t x = 32 from beq_iff_eq.mp hP]; rfl)]
    dsimp only [letb]
    rw [up2_up2, nI_1]
  · unfold sX12_token_0
    unfold bX12_token_0
    rw [up2_i (show 3 ≠ 5 by decide), c3, up2_self, h38 x hx]
    by_cases c : len ≤ x
    · rw [if_pos (by rw [nI_leI (by omega) (by omega)]; exact c)]
      rfl
    · have htb := c2 x (by omega)
      have h32 : ¬ t x = 32 := fun q => hP ⟨by omega, by rw [beq_iff_eq]; exact q⟩
      rw [if_neg (by rw [nI_leI (by omega) (by omega)]; exact c), chk_t (inb_n (by omega) (by decide)), ix_n (by omega), up2_c (by decide), c4 x (by omega), if_neg (by rw [show (32 : Int32) = nI 32 from rfl, nI_eq (by omega) (by omega)]; exact h32)]
      rfl
