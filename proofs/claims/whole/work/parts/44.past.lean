/-! ===== what is remembered ===== -/
theorem up2_upA {I : Mem} {c k : Nat} {f : Nat → Int32} {v : Int32} : up2 (upA I c f) c k v = upA I c (upd f k v) := by
  funext a
  unfold up2
  rw [upA_self]
  by_cases e : a = c
  · subst e; rw [upA_self, upA_self]
  · rw [upA_c e, upA_c e, upA_c e]
theorem upA_upA {I : Mem} {c : Nat} {f g : Nat → Int32} : upA (upA I c f) c g = upA I c g := by
  funext a
  by_cases e : a = c
  · subst e; rw [upA_self, upA_self]
  · rw [upA_c e, upA_c e, upA_c e]
theorem upA_same (I : Mem) (c : Nat) : upA I c (I c) = I := by
  funext a
  by_cases e : a = c
  · subst e; rw [upA_self]
  · rw [upA_c e]
theorem cpok_n {sp dp n n0 n1 : Nat} (h1 : sp + n ≤ n0) (h2 : dp + n ≤ n1) (h3 : n0 < 2 ^ 31) (h4 : n1 < 2 ^ 31) : cpok (nI sp) (nI dp) (nI n) n0 n1 = true := by
  unfold cpok
  rw [ix_n (by omega), ix_n (by omega), ix_n (by omega)]
  simp [nI_pos (show sp < 2 ^ 31 by omega), nI_pos (show dp < 2 ^ 31 by omega), nI_pos (show n < 2 ^ 31 by omega), h1, h2]
/-- a row of the past, laid at place ps -/
theorem rem35 {b ps : Nat} {I : Mem} (g7 : I b 7 = nI ps) (hp : ps ≤ 7) : ∃ J, jX4_remember_35 b I = some J ∧ J b 7 = nI (ps + 1) ∧ (∀ i, i ≠ 7 → J b i = I b i) ∧ J (b + 7) (10 * ps) = I b 3 ∧ (∀ q, q < 5 → J (b + 7) (10 * ps + 1 + q) = I (b + 2) q) ∧ (∀ p, p < 4 → J (b + 7) (10 * ps + 6 + p) = I (b + 4) p) ∧ (∀ x, x < 10 * ps → J (b + 7) x = I (b + 7) x) ∧ ∀ c, c ≠ b → c ≠ b + 7 → J c = I c := by
  unfold jX4_remember_35
  dsimp only [letb]
  have e1 : I b 7 * 10 = nI (10 * ps) := by rw [g7, show (10 : Int32) = nI 10 from rfl, pk_mul, Nat.mul_comm]
  have e2 : nI (10 * ps) + 1 = nI (10 * ps + 1) := nI_1 _
  have e3 : nI (10 * ps + 1) + 5 = nI (10 * ps + 6) := by rw [show (5 : Int32) = nI 5 from rfl, nI_add]
  rw [e1, e2, e3, chk_t (inb_n (by omega) (by decide)), chk_t (show cpok 0 (nI (10 * ps + 1)) 5 5 80 = true from cpok_n (sp := 0) (n := 5) (by omega) (by omega) (by decide) (by decide)), chk_t (show cpok 0 (nI (10 * ps + 6)) 4 4 80 = true from cpok_n (sp := 0) (n := 4) (by omega) (by omega) (by decide) (by decide)), ix_n (by omega), ix_n (by omega), ix_n (by omega)]
  simp only [show ix (0 : Int32) = 0 from rfl, show ix (5 : Int32) = 5 from rfl, show ix (4 : Int32) = 4 from rfl]
  refine ⟨_, rfl, ?_, fun i hi => ?_, ?_, fun q hq => ?_, fun p hp2 => ?_, fun x hx => ?_, fun c h1 h2 => ?_⟩
  · rw [up2_self, upA_c (by omega), upA_c (by omega), up2_c (by omega), g7, nI_1]
  · rw [up2_i hi, upA_c (by omega), upA_c (by omega), up2_c (by omega)]
  · rw [up2_c (by omega), upA_self, cpA_out (by omega), upA_self, cpA_out (by omega), up2_self]
  · rw [up2_c (by omega), upA_self, cpA_out (by omega), upA_self, cpA_in (by omega) (by omega), up2_c (by omega)]
    congr 1
    omega
  · rw [up2_c (by omega), upA_self, cpA_in (by omega) (by omega), upA_c (by omega), up2_c (by omega)]
    congr 1
    omega
  · rw [up2_c (by omega), upA_self, cpA_out (by omega), upA_self, cpA_out (by omega), up2_i (by omega)]
  · rw [up2_cc h1, upA_c h2, upA_c h2, up2_cc h2]
/-- how many pasts are left when one more is to come, and by how many they move -/
def psl (ps : Nat) : Nat := if ps = 8 then 7 else ps
def psd (ps : Nat) : Nat := if ps = 8 then 1 else 0
theorem remember_n {b ps : Nat} {I : Mem} (g7 : I b 7 = nI ps) (hp : ps ≤ 8) : ∃ J, fX4_remember b I = some J ∧ J b 7 = nI (psl ps + 1) ∧ (∀ i, i ≠ 7 → J b i = I b i) ∧ J (b + 7) (10 * psl ps) = I b 3 ∧ (∀ q, q < 5 → J (b + 7) (10 * psl ps + 1 + q) = I (b + 2) q) ∧ (∀ p, p < 4 → J (b + 7) (10 * psl ps + 6 + p) = I (b + 4) p) ∧ (∀ x, x < 10 * psl ps → J (b + 7) x = I (b + 7) (10 * psd ps + x)) ∧ ∀ c, c ≠ b → c ≠ b + 7 → J c = I c := by
  unfold fX4_remember
  by_cases e : ps = 8
  · subst e
    have hpl : psl 8 = 7 := rfl
    have hpd : psd 8 = 1 := rfl
    rw [if_pos (by rw [g7]; rfl), chk_t (by decide)]
    dsimp only [letb]
    simp only [show ix (0 : Int32) = 0 from rfl, show ix (10 : Int32) = 10 from rfl, show ix (70 : Int32) = 70 from rfl]
    obtain ⟨J, h1, h2, h3, h4, h5, h6, h7, h8⟩ := rem35 (b := b) (ps := 7) (I := up2 (upA I (b + 7) (cpA (I (b + 7)) (I (b + 7)) 10 0 70)) b 7 (upA I (b + 7) (cpA (I (b + 7)) (I (b + 7)) 10 0 70) b 7 - 1)) (by rw [up2_self, upA_c (by omega), g7]; rfl) (by decide)
    refine ⟨J, h1, h2, fun i hi => ?_, ?_, fun q hq => ?_, fun p hp2 => ?_, fun x hx => ?_, fun c c1 c2 => ?_⟩
    · rw [h3 i hi, up2_i hi, upA_c (by omega)]
    · rw [hpl, h4, up2_i (by decide), upA_c (by omega)]
    · rw [hpl, h5 q hq, up2_c (by omega), upA_c (by omega)]
    · rw [hpl, h6 p hp2, up2_c (by omega), upA_c (by omega)]
    · rw [hpl] at hx
      rw [h7 x hx, up2_c (by omega), upA_self, cpA_in (by omega) (by omega), hpd]
      congr 1
    · rw [h8 c c1 c2, up2_cc c1, upA_c c2]
  · have hpl : psl ps = ps := if_neg e
    have hpd : psd ps = 0 := if_neg e
    rw [if_neg (by rw [g7]; exact fun q => e ((nI_eq (b := 8) (by omega) (by decide)).mp q)), hpl, hpd]
    obtain ⟨J, h1, h2, h3, h4, h5, h6, h7, h8⟩ := rem35 (b := b) g7 (by omega)
    exact ⟨J, h1, h2, h3, h4, h5, h6, fun x hx => by rw [h7 x hx]; congr 1; omega, h8⟩
theorem goBack_n {b ps : Nat} {I : Mem} (g7 : I b 7 = nI (ps + 1)) (hp : ps ≤ 7) : ∃ J, fX4_goBack b I = some J ∧ J b 7 = nI ps ∧ J b 5 = I b 5 - 1 ∧ J b 3 = I (b + 7) (10 * ps) ∧ (∀ i, i ≠ 7 → i ≠ 5 → i ≠ 3 → J b i = I b i) ∧ (∀ q, q < 5 → J (b + 2) q = I (b + 7) (10 * ps + 1 + q)) ∧ (∀ p, p < 4 → J (b + 4) p = I (b + 7) (10 * ps + 6 + p)) ∧ ∀ c, c ≠ b → c ≠ b + 2 → c ≠ b + 4 → J c = I c := by
  unfold fX4_goBack
  rw [if_neg (by rw [g7]; exact nI_ne0 (by omega) (by omega))]
  dsimp only [letb]
  have e0 : I b 7 - 1 = nI ps := by rw [g7]; exact nI_pred ps
  have e1 : up2 (up2 I b 7 (nI ps)) b 5 (up2 I b 7 (nI ps) b 5 - 1) b 7 * 10 = nI (10 * ps) := by rw [up2_i (by decide), up2_self, show (10 : Int32) = nI 10 from rfl, pk_mul, Nat.mul_comm]
  have e2 : nI (10 * ps) + 1 = nI (10 * ps + 1) := nI_1 _
  have e3 : nI (10 * ps + 1) + 5 = nI (10 * ps + 6) := by rw [show (5 : Int32) = nI 5 from rfl, nI_add]
  rw [e0, e1, e2, e3, chk_t (inb_n (by omega) (by decide)), chk_t (show cpok (nI (10 * ps + 1)) 0 5 80 5 = true from cpok_n (dp := 0) (n := 5) (by omega) (by omega) (by decide) (by decide)), chk_t (show cpok (nI (10 * ps + 6)) 0 4 80 4 = true from cpok_n (dp := 0) (n := 4) (by omega) (by omega) (by decide) (by decide)), ix_n (by omega), ix_n (by omega), ix_n (by omega)]
  simp only [show ix (0 : Int32) = 0 from rfl, show ix (5 : Int32) = 5 from rfl, show ix (4 : Int32) = 4 from rfl]
  refine ⟨_, rfl, ?_, ?_, ?_, fun i h1 h2 h3 => ?_, fun q hq => ?_, fun p hp2 => ?_, fun c h1 h2 h3 => ?_⟩
  · rw [upA_c (by omega), upA_c (by omega), up2_i (by decide), up2_i (by decide), up2_self]
  · rw [upA_c (by omega), upA_c (by omega), up2_i (by decide), up2_self, up2_i (by decide)]
  · rw [upA_c (by omega), upA_c (by omega), up2_self, up2_c (by omega), up2_c (by omega)]
  · rw [upA_c (by omega), upA_c (by omega), up2_i h3, up2_i h2, up2_i h1]
  · rw [upA_c (by omega), upA_self, cpA_in (by omega) (by omega), up2_c (by omega), up2_c (by omega), up2_c (by omega)]
    congr 1
  · rw [upA_self, cpA_in (by omega) (by omega), upA_c (by omega), up2_c (by omega), up2_c (by omega), up2_c (by omega)]
    congr 1
  · rw [upA_c h3, upA_c h2, up2_cc h1, up2_cc h1, up2_cc h1]
/-! ===== the model's ===== -/
def cp2 (f : Nat → Int32) (s1 d1 s2 d2 i : Nat) : Nat → Int32 := fun k => if d1 ≤ k ∧ k < d1 + i then f (s1 + (k - d1)) else if d2 ≤ k ∧ k < d2 + i then f (s2 + (k - d2)) else f k
theorem cp2_0 (f : Nat → Int32) (s1 d1 s2 d2 : Nat) : cp2 f s1 d1 s2 d2 0 = f := by
  funext k
  unfold cp2
  rw [if_neg (by omega), if_neg (by omega)]
theorem cp2_s {f : Nat → Int32} {s1 d1 s2 d2 i N : Nat} (hi : i < N) (h1 : d1 + N ≤ d2 ∨ d2 + N ≤ d1) (h2 : s1 + N ≤ d1 ∨ d1 + N ≤ s1) (h3 : s1 + N ≤ d2 ∨ d2 + N ≤ s1) (h4 : s2 + N ≤ d1 ∨ d1 + N ≤ s2) (h5 : s2 + N ≤ d2 ∨ d2 + N ≤ s2) : upd (upd (cp2 f s1 d1 s2 d2 i) (d1 + i) (cp2 f s1 d1 s2 d2 i (s1 + i))) (d2 + i) (upd (cp2 f s1 d1 s2 d2 i) (d1 + i) (cp2 f s1 d1 s2 d2 i (s1 + i)) (s2 + i)) = cp2 f s1 d1 s2 d2 (i + 1) := by
  have a1 : cp2 f s1 d1 s2 d2 i (s1 + i) = f (s1 + i) := by unfold cp2; rw [if_neg (by omega), if_neg (by omega)]
  have a2 : upd (cp2 f s1 d1 s2 d2 i) (d1 + i) (f (s1 + i)) (s2 + i) = f (s2 + i) := by
    rw [show upd (cp2 f s1 d1 s2 d2 i) (d1 + i) (f (s1 + i)) (s2 + i) = cp2 f s1 d1 s2 d2 i (s2 + i) from if_neg (by omega)]
    unfold cp2
    rw [if_neg (by omega), if_neg (by omega)]
  rw [a1, a2]
  funext k
  by_cases c2 : k = d2 + i
  · rw [show upd (upd (cp2 f s1 d1 s2 d2 i) (d1 + i) (f (s1 + i))) (d2 + i) (f (s2 + i)) k = f (s2 + i) from if_pos c2]
    unfold cp2
    rw [if_neg (by omega), if_pos (by omega)]
    congr 1
    omega
  · rw [show upd (upd (cp2 f s1 d1 s2 d2 i) (d1 + i) (f (s1 + i))) (d2 + i) (f (s2 + i)) k = upd (cp2 f s1 d1 s2 d2 i) (d1 + i) (f (s1 + i)) k from if_neg c2]
    by_cases c1 : k = d1 + i
    · rw [show upd (cp2 f s1 d1 s2 d2 i) (d1 + i) (f (s1 + i)) k = f (s1 + i) from if_pos c1]
      unfold cp2
      rw [if_pos (by omega)]
      congr 1
      omega
    · rw [show upd (cp2 f s1 d1 s2 d2 i) (d1 + i) (f (s1 + i)) k = cp2 f s1 d1 s2 d2 i k from if_neg c1]
      unfold cp2
      by_cases q1 : d1 ≤ k ∧ k < d1 + i
      · rw [if_pos q1, if_pos (show d1 ≤ k ∧ k < d1 + (i + 1) by omega)]
      · rw [if_neg q1, if_neg (show ¬ (d1 ≤ k ∧ k < d1 + (i + 1)) by omega)]
        by_cases q2 : d2 ≤ k ∧ k < d2 + i
        · rw [if_pos q2, if_pos (show d2 ≤ k ∧ k < d2 + (i + 1) by omega)]
        · rw [if_neg q2, if_neg (show ¬ (d2 ≤ k ∧ k < d2 + (i + 1)) by omega)]
theorem keep69 {ps : Nat} {I : Mem} {u1 u0 : Int32} (hu : u1 - u0 = nI ps) (hp : ps ≤ 7) : ∃ K, jX12_keepPast_69 u0 u1 53 I = some K ∧ (∀ c, c ≠ 75 → K c = I c) ∧ K 75 53 = nI (ps + 1) ∧ (∀ q, q < 5 → K 75 (54 + 13 * ps + q) = I 75 (10 + q)) ∧ (∀ p, p < 4 → K 75 (54 + 13 * ps + 5 + p) = I 75 (24 + p)) ∧ (∀ p, p < 4 → K 75 (54 + 13 * ps + 9 + p) = I 75 (20 + p)) ∧ ∀ k, k ≠ 53 → (k < 54 + 13 * ps ∨ 54 + 13 * ps + 13 ≤ k) → K 75 k = I 75 k := by
  unfold jX12_keepPast_69
  rw [hu, chk_t (by decide), show ix (53 : Int32) = 53 from rfl]
  dsimp only [letb]
  rw [chk_t (by decide), up2_self, show (13 : Int32) = nI 13 from rfl, pk_mul, show (54 : Int32) = nI 54 from rfl, nI_add]
  generalize hb : 54 + 13 * ps = base
  have hb2 : 54 ≤ base ∧ base ≤ 145 := by omega
  -- the first copy
  have h2 : ∀ M : Mem, M 75 53 = nI ps → iter (sX12_keepPast_117 (nI base)) FU ((0 : Int32), M) = some (up2 (upA M 75 (cp2 (M 75) 24 (base + 5) 20 (base + 9) 4)) 75 53 (nI (ps + 1))) := by
    intro M hM
    have e0 : ((0 : Int32), M) = (fun i => (nI i, upA M 75 (cp2 (M 75) 24 (base + 5) 20 (base + 9) i))) 0 := by
      show _ = (nI 0, upA M 75 (cp2 (M 75) 24 (base + 5) 20 (base + 9) 0))
      rw [cp2_0, upA_same]
      rfl
    rw [e0]
    refine iter_go (fun i => (nI i, upA M 75 (cp2 (M 75) 24 (base + 5) 20 (base + 9) i))) 4 (FU_lt (by decide)) ?_ (fun i hi => ?_)
    · unfold sX12_keepPast_117 bX12_keepPast_117
      dsimp only
      rw [if_pos (show (4 : Int32) ≤ nI 4 from by decide), chk_t (by decide), chk_t (by decide), show ix (53 : Int32) = 53 from rfl]
      have e53 : upA M 75 (cp2 (M 75) 24 (base + 5) 20 (base + 9) 4) 75 53 = nI ps := by
        rw [upA_self]
        unfold cp2
        rw [if_neg (by omega), if_neg (by omega)]
        exact hM
      dsimp only [letb]
      rw [e53, nI_1]
    · unfold sX12_keepPast_117 bX12_keepPast_117
      dsimp only
      have a5 : nI base + 5 + nI i = nI (base + 5 + i) := by rw [show (5 : Int32) = nI 5 from rfl, nI_add, nI_add]
      have a9 : nI base + 9 + nI i = nI (base + 9 + i) := by rw [show (9 : Int32) = nI 9 from rfl, nI_add, nI_add]
      rw [if_neg (show ¬ (4 : Int32) ≤ nI i from nI_ge (b := 4) hi (by decide)), a5, a9, show (24 : Int32) = nI 24 from rfl, show (20 : Int32) = nI 20 from rfl, nI_add, nI_add, chk_t (inb_n (by omega) (by decide)), chk_t (inb_n (by omega) (by decide)), ix_n (by omega), ix_n (by omega)]
      dsimp only [letb]
      rw [chk_t (inb_n (by omega) (by decide)), chk_t (inb_n (by omega) (by decide)), ix_n (by omega), ix_n (by omega), nI_1, upA_self, up2_upA, upA_self, up2_upA, cp2_s hi (by omega) (by omega) (by omega) (by omega) (by omega)]
  have h1 : iter (sX12_keepPast_87 (nI base)) FU ((0 : Int32), up2 I 75 53 (nI ps)) = some (up2 (upA (cpM (up2 I 75 53 (nI ps)) 75 75 10 base 5) 75 (cp2 (cpM (up2 I 75 53 (nI ps)) 75 75 10 base 5 75) 24 (base + 5) 20 (base + 9) 4)) 75 53 (nI (ps + 1))) := by
    refine iter_copy 75 75 10 base 5 (up2 I 75 53 (nI ps)) (FU_lt (by decide)) (by omega) (fun i hi => ?_) ?_
    · unfold sX12_keepPast_87 bX12_keepPast_87
      dsimp only
      rw [if_neg (show ¬ (5 : Int32) ≤ nI i from nI_ge (b := 5) hi (by decide)), show (10 : Int32) = nI 10 from rfl, nI_add, nI_add, chk_t (inb_n (by omega) (by decide)), chk_t (inb_n (by omega) (by decide)), ix_n (by omega), ix_n (by omega), nI_1]
      rfl
    · unfold sX12_keepPast_87 bX12_keepPast_87
      dsimp only
      rw [if_pos (show (5 : Int32) ≤ nI 5 from by decide)]
      refine inrO_s (h2 _ ?_)
      unfold cpM
      rw [upA_self, cpA_out (by omega), up2_self]
  have pt : ∀ k, cpM (up2 I 75 53 (nI ps)) 75 75 10 base 5 75 k = if base ≤ k ∧ k < base + 5 then I 75 (10 + (k - base)) else if k = 53 then nI ps else I 75 k := by
    intro k
    unfold cpM
    rw [upA_self]
    by_cases c : base ≤ k ∧ k < base + 5
    · rw [if_pos c, cpA_in c.1 c.2, up2_i (by omega)]
    · rw [if_neg c, cpA_out (by omega)]
      by_cases c2 : k = 53
      · rw [if_pos c2, c2, up2_self]
      · rw [if_neg c2, up2_i c2]
  refine ⟨_, h1, fun c hc => ?_, ?_, fun q hq => ?_, fun p hp2 => ?_, fun p hp2 => ?_, fun k hk hk2 => ?_⟩
  · rw [up2_cc hc, upA_c hc]
    unfold cpM
    rw [upA_c hc, up2_cc hc]
  · rw [up2_self]
  · rw [up2_i (by omega), upA_self]
    unfold cp2
    rw [if_neg (by omega), if_neg (by omega), pt, if_pos (by omega)]
    congr 1
    omega
  · rw [up2_i (by omega), upA_self]
    unfold cp2
    rw [if_pos (by omega), pt, if_neg (by omega), if_neg (by omega)]
    congr 1
    omega
  · rw [up2_i (by omega), upA_self]
    unfold cp2
    rw [if_neg (by omega), if_pos (by omega), pt, if_neg (by omega), if_neg (by omega)]
    congr 1
    omega
  · rw [up2_i hk, upA_self]
    unfold cp2
    rw [if_neg (by omega), if_neg (by omega), pt, if_neg (by omega), if_neg hk]
theorem keepPast_n {ps : Nat} {I : Mem} (r53 : I 75 53 = nI ps) (hp : ps ≤ 8) : ∃ K, fX12_keepPast I = some K ∧ (∀ c, c ≠ 75 → K c = I c) ∧ K 75 53 = nI (psl ps + 1) ∧ (∀ q, q < 5 → K 75 (54 + 13 * psl ps + q) = I 75 (10 + q)) ∧ (∀ p, p < 4 → K 75 (54 + 13 * psl ps + 5 + p) = I 75 (24 + p)) ∧ (∀ p, p < 4 → K 75 (54 + 13 * psl ps + 9 + p) = I 75 (20 + p)) ∧ (∀ x, x < 13 * psl ps → K 75 (54 + x) = I 75 (54 + 13 * psd ps + x)) ∧ ∀ k, k ≠ 53 → (k < 54 ∨ 158 ≤ k) → K 75 k = I 75 k := by
  have h44 : ∀ M : Mem, M 75 53 = nI ps → jX12_keepPast_44 M = if ps = 8 then jX12_keepPast_69 1 (nI 8) 53 M else jX12_keepPast_69 0 (nI ps) 53 M := by
    intro M hM
    unfold jX12_keepPast_44
    rw [chk_t (by decide), chk_t (by decide), show ix (53 : Int32) = 53 from rfl, hM]
    by_cases e : ps = 8
    · rw [if_pos e, e, if_pos (show nI 8 = 8 from rfl)]
    · rw [if_neg e, if_neg (show ¬ nI ps = 8 from fun q => e ((nI_eq (b := 8) (by omega) (by decide)).mp q))]
  unfold fX12_keepPast
  by_cases e : ps = 8
  · subst e
    have hpl : psl 8 = 7 := rfl
    have hpd : psd 8 = 1 := rfl
    obtain ⟨K, k1, k2, k3, k4, k5, k6, k7⟩ := keep69 (ps := 7) (I := cpM I 75 75 67 54 91) (u1 := nI 8) (u0 := 1) rfl (by decide)
    have c53 : ∀ i, i ≤ 91 → cpM I 75 75 67 54 i 75 53 = nI 8 := fun i _ => by unfold cpM; rw [upA_self, cpA_out (by omega)]; exact r53
    refine ⟨K, ?_, fun c hc => ?_, k3, fun q hq => ?_, fun p hp2 => ?_, fun p hp2 => ?_, fun x hx => ?_, fun k hk hk2 => ?_⟩
    · refine iter_copy 75 75 67 54 91 I (FU_lt (by decide)) (by omega) (fun i hi => ?_) ?_
      · unfold sX12_keepPast_2 bX12_keepPast_2
        dsimp only
        rw [if_neg (show ¬ (91 : Int32) ≤ nI i from nI_ge (b := 91) hi (by decide)), chk_t (by decide), if_pos (by rw [show ix (53 : Int32) = 53 from rfl, c53 i (by omega)]; rfl), show (67 : Int32) = nI 67 from rfl, show (54 : Int32) = nI 54 from rfl, nI_add, nI_add, chk_t (inb_n (by omega) (by decide)), chk_t (inb_n (by omega) (by decide)), ix_n (by omega), ix_n (by omega), nI_1]
        rfl
      · unfold sX12_keepPast_2 bX12_keepPast_2
        dsimp only
        rw [if_pos (show (91 : Int32) ≤ nI 91 from by decide), h44 _ (c53 91 (by omega)), if_pos rfl, inrO_s k1]
    · rw [k2 c hc]; unfold cpM; rw [upA_c hc]
    · rw [hpl, k4 q hq]; unfold cpM; rw [upA_self, cpA_out (by omega)]
    · rw [hpl, k5 p hp2]; unfold cpM; rw [upA_self, cpA_out (by omega)]
    · rw [hpl, k6 p hp2]; unfold cpM; rw [upA_self, cpA_out (by omega)]
    · rw [hpl] at hx
      rw [hpd, k7 _ (by omega) (by omega)]
      unfold cpM
      rw [upA_self, cpA_in (by omega) (by omega)]
      congr 1
      omega
    · rw [k7 k hk (by omega)]; unfold cpM; rw [upA_self, cpA_out (by omega)]
  · have hpl : psl ps = ps := if_neg e
    have hpd : psd ps = 0 := if_neg e
    obtain ⟨K, k1, k2, k3, k4, k5, k6, k7⟩ := keep69 (ps := ps) (I := I) (u1 := nI ps) (u0 := 0) (Int32.sub_zero _) (by omega)
    rw [hpl, hpd]
    refine ⟨K, ?_, k2, k3, k4, k5, k6, fun x hx => ?_, fun k hk hk2 => k7 k hk (by omega)⟩
    · refine (iter_inr (n := FU - 1) ?_ : iter sX12_keepPast_2 (FU - 1 + 1) ((0 : Int32), I) = some K)
      unfold sX12_keepPast_2 bX12_keepPast_2
      dsimp only
      rw [if_neg (by decide), chk_t (by decide), if_neg (by rw [show ix (53 : Int32) = 53 from rfl, r53]; exact fun q => e ((nI_eq (b := 8) (by omega) (by decide)).mp q)), h44 I r53, if_neg e, inrO_s k1]
    · rw [k7 _ (by omega) (by omega)]
