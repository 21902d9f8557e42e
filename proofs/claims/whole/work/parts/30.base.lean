/-! ===== numbers: small naturals as ints ===== -/
/-- a figure of a standing -/
def dg (s p : Nat) : Nat := s / 8 ^ p % 8
def b2i (b : Bool) : Int32 := if b = true then 1 else 0
theorem b2i_t : b2i true = 1 := rfl
theorem b2i_f : b2i false = 0 := rfl
theorem b2i_0 {b : Bool} : b2i b = 0 ↔ b = false := by cases b <;> decide
theorem b2i_1 {b : Bool} : b2i b = 1 ↔ b = true := by cases b <;> decide
theorem b2i_n0 {b : Bool} : ¬ b2i b = 0 ↔ b = true := by cases b <;> decide
theorem b2i_zb (b : Bool) : zb (b2i b) = true := by cases b <;> decide
theorem chk_t {α : Type} {b : Bool} {x : Option α} (h : b = true) : chk b x = x := by unfold chk; rw [if_pos h]
theorem bnd_s {α β : Type} {x : Option α} {f : α → Option β} {a : α} (h : x = some a) : bnd x f = f a := by rw [h]; rfl
theorem bnd2_s {α β γ : Type} {x : Option (α × β)} {f : α → β → Option γ} {a : α} {b : β} (h : x = some (a, b)) : bnd2 x f = f a b := by rw [h]; rfl
theorem inrO_s {σ ρ : Type} {x : Option ρ} {z : ρ} (h : x = some z) : (inrO x : Option (σ ⊕ ρ)) = some (.inr z) := by rw [h]; rfl
theorem smod_nI {k : Nat} (h : k < 32) : ((nI k &&& 31 : Int32).toBitVec.smod 32).toNat = k := by
  have h2 : ∀ k, k < 32 → ((nI k &&& 31 : Int32).toBitVec.smod 32).toNat = k := by decide +kernel
  exact h2 k h
theorem n_shl {a k : Nat} (hk : k < 32) (h : a * 2 ^ k < 2 ^ 32) : nI a <<< (nI k &&& 31) = nI (a * 2 ^ k) := pk_shlN _ k (smod_nI hk) h
theorem n_one {k : Nat} (hk : k < 32) : (1 : Int32) <<< (nI k &&& 31) = nI (2 ^ k) := by
  have h : 2 ^ k < 2 ^ 32 := Nat.pow_lt_pow_right (by decide) hk
  have h2 := n_shl (a := 1) hk (by omega)
  rw [Nat.one_mul] at h2
  exact h2
theorem n_shr {a k : Nat} (ha : a < 2 ^ 31) (hk : k < 32) : nI a >>> (nI k &&& 31) = nI (a / 2 ^ k) := pk_shrN ha _ k (smod_nI hk)
theorem n_and7 {a : Nat} (h : a < 2 ^ 32) : nI a &&& 7 = nI (a % 8) := pk_andN h 3 rfl
theorem n_and1 {a : Nat} (h : a < 2 ^ 32) : nI a &&& 1 = nI (a % 2) := pk_andN h 1 rfl
theorem n_or (a b : Nat) : nI a ||| nI b = nI (a ||| b) := by
  apply Int32.toBitVec_inj.1
  show BitVec.ofNat 32 a ||| BitVec.ofNat 32 b = BitVec.ofNat 32 (a ||| b)
  apply BitVec.eq_of_toNat_eq
  simp [BitVec.toNat_or, BitVec.toNat_ofNat, Nat.or_mod_two_pow]
theorem n_and (a b : Nat) : nI a &&& nI b = nI (a &&& b) := by
  apply Int32.toBitVec_inj.1
  show BitVec.ofNat 32 a &&& BitVec.ofNat 32 b = BitVec.ofNat 32 (a &&& b)
  apply BitVec.eq_of_toNat_eq
  simp [BitVec.toNat_and, BitVec.toNat_ofNat, Nat.and_mod_two_pow]
theorem n_xor (a b : Nat) : nI a ^^^ nI b = nI (a ^^^ b) := by
  apply Int32.toBitVec_inj.1
  show BitVec.ofNat 32 a ^^^ BitVec.ofNat 32 b = BitVec.ofNat 32 (a ^^^ b)
  apply BitVec.eq_of_toNat_eq
  simp [BitVec.toNat_xor, BitVec.toNat_ofNat, Nat.xor_mod_two_pow]
theorem inb_n {i n : Nat} (h : i < n) (hn : n < 2 ^ 31) : inb (nI i) n = true := by
  have h1 : i < 2 ^ 31 := by omega
  unfold inb
  rw [nI_clamp h1]
  simp [nI_pos h1, h]
theorem ix_n {i : Nat} (h : i < 2 ^ 31) : ix (nI i) = i := nI_clamp h
theorem dg_shift (s p : Nat) : s / 2 ^ (3 * p) % 8 = dg s p := by unfold dg; rw [Nat.pow_mul]
theorem dg_lt (s p : Nat) : dg s p < 8 := Nat.mod_lt _ (by decide)
/-! ===== loops ===== -/
theorem iter_run {σ ρ : Type} {s : σ → Option (σ ⊕ ρ)} (st : Nat → σ) {r : ρ} (N : Nat) (he : s (st N) = some (.inr r)) (hs : ∀ i, i < N → s (st i) = some (.inl (st (i + 1)))) : ∀ (n i : Nat), i ≤ N → N - i < n → iter s n (st i) = some r
  | 0, i, _, h => by omega
  | n + 1, i, hi, h => by
    unfold iter
    by_cases e : i = N
    · subst e
      rw [he]
    · rw [hs i (by omega)]
      exact iter_run st N he hs n (i + 1) (by omega) (by omega)
theorem iter_go {σ ρ : Type} {s : σ → Option (σ ⊕ ρ)} (st : Nat → σ) {r : ρ} (N : Nat) (hN : N < FU) (he : s (st N) = some (.inr r)) (hs : ∀ i, i < N → s (st i) = some (.inl (st (i + 1)))) : iter s FU (st 0) = some r := iter_run st N he hs FU 0 (Nat.zero_le _) (by omega)
/-- a loop that ends early at the first that is not so -/
def allB (ok : Nat → Bool) : Nat → Bool
  | 0 => true
  | n + 1 => allB ok n && ok n
theorem allB_iff {ok : Nat → Bool} : ∀ {n : Nat}, allB ok n = true ↔ ∀ i, i < n → ok i = true
  | 0 => by simp [allB]
  | n + 1 => by
    rw [allB, Bool.and_eq_true, allB_iff]
    constructor
    · intro h i hi
      by_cases e : i = n
      · rw [e]; exact h.2
      · exact h.1 i (by omega)
    · intro h
      exact ⟨fun i hi => h i (by omega), h n (by omega)⟩
theorem allB_cong {f g : Nat → Bool} : ∀ {n : Nat}, (∀ i, i < n → f i = g i) → allB f n = allB g n
  | 0, _ => rfl
  | n + 1, h => by rw [allB, allB, allB_cong (fun i hi => h i (by omega)), h n (by omega)]
theorem iter_all {s : Int32 → Option (Int32 ⊕ Int32)} (ok : Nat → Bool) (N : Nat) (hs : ∀ i, i < N → s (nI i) = if ok i = true then some (.inl (nI (i + 1))) else some (.inr 0)) (he : s (nI N) = some (.inr 1)) : ∀ (n i : Nat), i ≤ N → N - i < n → allB ok i = true → iter s n (nI i) = some (b2i (allB ok N))
  | 0, i, _, h, _ => by omega
  | n + 1, i, hi, h, ha => by
    unfold iter
    by_cases e : i = N
    · subst e
      rw [he, ha]
      rfl
    · rw [hs i (by omega)]
      by_cases c : ok i = true
      · rw [if_pos c]
        exact iter_all ok N hs he n (i + 1) (by omega) (by omega) (by rw [allB, ha, c]; rfl)
      · rw [if_neg c]
        have h2 : allB ok N = false := by
          cases h3 : allB ok N with
          | false => rfl
          | true => exact absurd (allB_iff.mp h3 i (by omega)) c
        rw [h2]
        rfl
theorem iter_allF {s : Int32 → Option (Int32 ⊕ Int32)} (ok : Nat → Bool) (N : Nat) (hN : N < FU) (hs : ∀ i, i < N → s (nI i) = if ok i = true then some (.inl (nI (i + 1))) else some (.inr 0)) (he : s (nI N) = some (.inr 1)) : iter s FU 0 = some (b2i (allB ok N)) := iter_all ok N hs he FU 0 (Nat.zero_le _) (by omega) rfl
theorem FU_lt {n : Nat} (h : n < 1000000) : n < FU := h
/-! ===== the small methods ===== -/
theorem roomOf_n {s p : Nat} (I : Mem) (hs : s < 2 ^ 31) (hp : p ≤ 9) : fX11_roomOf (nI s) (nI p) I = some (nI (dg s p)) := by
  unfold fX11_roomOf
  rw [show (3 : Int32) = nI 3 from rfl, pk_mul, n_shr hs (by omega), n_and7 (by have := Nat.div_le_self s (2 ^ (3 * p)); omega), dg_shift]
theorem roomIn_n {s p : Nat} (I : Mem) (hs : s < 2 ^ 31) (hp : p ≤ 9) : fX12_roomIn (nI s) (nI p) I = some (nI (dg s p)) := by
  unfold fX12_roomIn
  rw [show (3 : Int32) = nI 3 from rfl, pk_mul, n_shr hs (by omega), n_and7 (by have := Nat.div_le_self s (2 ^ (3 * p)); omega), dg_shift]
theorem bit_0 {m k : Nat} (hm : m < 2 ^ 31) (hk : k < 32) : (nI m >>> (nI k &&& 31)) &&& 1 = nI (b2i (m.testBit k)).toNatClampNeg := by
  have h : m / 2 ^ k < 2 ^ 32 := by have := Nat.div_le_self m (2 ^ k); omega
  rw [n_shr hm hk, n_and1 h, Nat.testBit_eq_decide_div_mod_eq]
  rcases Nat.mod_two_eq_zero_or_one (m / 2 ^ k) with e | e <;> rw [e] <;> decide
theorem has_n {m k : Nat} (I : Mem) (hm : m < 2 ^ 31) (hk : k < 32) : fX11_has (nI m) (nI k) I = some (b2i (m.testBit k)) := by
  unfold fX11_has
  rw [bit_0 hm hk]
  cases m.testBit k <;> rfl
theorem hasM_n {m k : Nat} (I : Mem) (hm : m < 2 ^ 31) (hk : k < 32) : fX12_has (nI m) (nI k) I = some (b2i (m.testBit k)) := by
  unfold fX12_has
  rw [bit_0 hm hk]
  cases m.testBit k <;> rfl
