/-! ===== a loop with what holds before every turn ===== -/
theorem iter_inv {σ ρ : Type} {s : σ → Option (σ ⊕ ρ)} (P : Nat → σ → Prop) (Q : ρ → Prop) (N : Nat) (hs : ∀ i x, i < N → P i x → ∃ y, s x = some (.inl y) ∧ P (i + 1) y) (he : ∀ x, P N x → ∃ r, s x = some (.inr r) ∧ Q r) : ∀ (n i : Nat) (x : σ), i ≤ N → N - i < n → P i x → ∃ r, iter s n x = some r ∧ Q r
  | 0, i, x, _, h, _ => by omega
  | n + 1, i, x, hi, h, hp => by
    by_cases e : i = N
    · obtain ⟨r, h1, h2⟩ := he x (by rw [← e]; exact hp)
      exact ⟨r, iter_inr h1, h2⟩
    · obtain ⟨y, h1, h2⟩ := hs i x (by omega) hp
      rw [iter_inl h1]
      exact iter_inv P Q N hs he n (i + 1) y (by omega) (by omega) h2
theorem iter_invF {σ ρ : Type} {s : σ → Option (σ ⊕ ρ)} (P : Nat → σ → Prop) (Q : ρ → Prop) (N : Nat) (hN : N < FU) {x : σ} (h0 : P 0 x) (hs : ∀ i x, i < N → P i x → ∃ y, s x = some (.inl y) ∧ P (i + 1) y) (he : ∀ x, P N x → ∃ r, s x = some (.inr r) ∧ Q r) : ∃ r, iter s FU x = some r ∧ Q r := iter_inv P Q N hs he FU 0 x (Nat.zero_le _) (by omega) h0
/-! ===== type ===== -/
theorem and255 (y : Int32) : ∃ x, x < 256 ∧ y &&& 255 = nI x := by
  refine ⟨y.toBitVec.toNat % 256, Nat.mod_lt _ (by decide), ?_⟩
  apply Int32.toBitVec_inj.1
  apply BitVec.eq_of_toNat_eq
  show (y.toBitVec &&& 255#32).toNat = (BitVec.ofNat 32 (y.toBitVec.toNat % 256)).toNat
  rw [BitVec.toNat_and, BitVec.toNat_ofNat, BitVec.toNat_ofNat, show 255 % 2 ^ 32 = 2 ^ 8 - 1 from rfl, Nat.and_two_pow_sub_one_eq_mod]
  omega
theorem byte_eq (l : Int64) : (l &&& 255).toInt32 = l.toInt32 &&& 255 := by
  rw [Int64.toInt32_and]
  rfl
/-- the byte that is typed -/
def byt (l : Int64) (x4 : Int32) : Int32 := (l >>> (Int32.toInt64 ((8 : Int32) * x4) &&& 63)).toInt32 &&& 255
theorem neg1 : (nI 0 + (-1 : Int32)) < 0 := by decide
theorem nI_m1 (k : Nat) : nI (k + 1) + (-1 : Int32) = nI k := by
  have := nI_pred k
  rw [← this]
  apply Int32.toBitVec_inj.1
  simp [Int32.sub_eq_add_neg]
def tyA (f : Nat → Int32) (l : Int64) (m n i : Nat) : Nat → Int32 := fun k => if m ≤ k ∧ k < m + i then byt l (nI (n - 1 - (k - m))) else f k
theorem tyA_s {f : Nat → Int32} {l : Int64} {m n i : Nat} : upd (tyA f l m n i) (m + i) (byt l (nI (n - 1 - i))) = tyA f l m n (i + 1) := by
  funext k
  by_cases c : k = m + i
  · rw [show upd (tyA f l m n i) (m + i) (byt l (nI (n - 1 - i))) k = byt l (nI (n - 1 - i)) from if_pos c]
    unfold tyA
    rw [if_pos (by omega), c, show m + i - m = i by omega]
  · rw [show upd (tyA f l m n i) (m + i) (byt l (nI (n - 1 - i))) k = tyA f l m n i k from if_neg c]
    unfold tyA
    by_cases q1 : m ≤ k ∧ k < m + i
    · rw [if_pos q1, if_pos (show m ≤ k ∧ k < m + (i + 1) by omega)]
    · rw [if_neg q1, if_neg (show ¬ (m ≤ k ∧ k < m + (i + 1)) by omega)]
theorem tyA_0 (f : Nat → Int32) (l : Int64) (m n : Nat) : tyA f l m n 0 = f := by
  funext k
  exact if_neg (by omega)
def tyM (I : Mem) (cl ct sl : Nat) (l : Int64) (m n i : Nat) : Mem := upA (up2 I cl sl (nI (m + i))) ct (tyA (I ct) l m n i)
theorem tyM_0 {I : Mem} {cl ct sl : Nat} {l : Int64} {m n : Nat} (h : I cl sl = nI m) : tyM I cl ct sl l m n 0 = I := by
  unfold tyM
  rw [tyA_0, Nat.add_zero, ← h]
  have e : up2 I cl sl (I cl sl) = I := by
    unfold up2
    rw [upd_same, upA_same]
  rw [e, upA_same]
theorem tyM_s {I : Mem} {cl ct sl : Nat} {l : Int64} {m n i : Nat} (h : cl ≠ ct) : up2 (up2 (tyM I cl ct sl l m n i) ct (m + i) (byt l (nI (n - 1 - i)))) cl sl (nI (m + i + 1)) = tyM I cl ct sl l m n (i + 1) := by
  unfold tyM
  rw [up2_upA, tyA_s]
  funext a k
  by_cases e : a = ct
  · rw [e, up2_cc (fun q => h q.symm), upA_self, upA_self]
  · by_cases e2 : a = cl
    · rw [e2]
      by_cases e3 : k = sl
      · rw [e3, up2_self, upA_c h, up2_self, Nat.add_assoc]
      · rw [up2_i e3, upA_c h, upA_c h, up2_i e3, up2_i e3]
    · rw [up2_cc e2, upA_c e, upA_c e, up2_cc e2, up2_cc e2]
theorem ty_ev {n' i : Nat} (hi : i < n' + 1) : nI (n' - i) + (-1 : Int32) = nI (n' - (i + 1)) - (if i + 1 = n' + 1 then 1 else 0) := by
  by_cases c : i + 1 = n' + 1
  · rw [if_pos c, show n' - i = 0 by omega, show n' - (i + 1) = 0 by omega]
    decide
  · rw [if_neg c, show n' - i = (n' - (i + 1)) + 1 by omega, nI_m1]
    simp
theorem add_n {l : Int64} {m n : Nat} {I : Mem} (h : I 35 0 = nI m) (h1 : 1 ≤ n) (h8 : n ≤ 8) (hm : m + n ≤ 200) : fX8_add l (nI n) I = some (tyM I 35 36 0 l m n n) := by
  unfold fX8_add
  dsimp only [letb]
  obtain ⟨n', rfl⟩ : ∃ n', n = n' + 1 := ⟨n - 1, by omega⟩
  rw [show nI (n' + 1) - 1 = nI n' from nI_pred n']
  have e0 : (nI n', I) = (fun i => (nI (n' - i) - (if i = n' + 1 then 1 else 0), tyM I 35 36 0 l m (n' + 1) i)) 0 := by
    show _ = (nI (n' - 0) - (if 0 = n' + 1 then 1 else 0), tyM I 35 36 0 l m (n' + 1) 0)
    rw [tyM_0 h, if_neg (by omega), Nat.sub_zero]
    simp
  rw [e0]
  have e35 : ∀ i, tyM I 35 36 0 l m (n' + 1) i 35 0 = nI (m + i) := fun i => by unfold tyM; rw [upA_c (by decide), up2_self]
  refine iter_go (fun i => (nI (n' - i) - (if i = n' + 1 then 1 else 0), tyM I 35 36 0 l m (n' + 1) i)) (n' + 1) (FU_lt (by omega)) ?_ (fun i hi => ?_)
  · unfold sX8_add_5 bX8_add_5
    dsimp only
    rw [if_pos rfl, show n' - (n' + 1) = 0 by omega, if_pos (by decide)]
  · unfold sX8_add_5 bX8_add_5
    dsimp only
    rw [if_neg (show ¬ i = n' + 1 by omega), show nI (n' - i) - (0 : Int32) = nI (n' - i) by simp, if_neg (show ¬ nI (n' - i) < 0 from nI_nlt (b := 0) (by omega) (by omega)), if_neg (by rw [e35]; exact nI_ge (b := 200) (by omega) (by decide)), e35, chk_t (inb_n (by omega) (by decide)), ix_n (by omega)]
    dsimp only [letb]
    rw [show (l >>> (Int32.toInt64 ((8 : Int32) * nI (n' - i)) &&& 63)).toInt32 &&& 255 = byt l (nI (n' + 1 - 1 - i)) by rw [show n' + 1 - 1 - i = n' - i by omega]; rfl, up2_c (a := 35) (by decide), e35, nI_1, tyM_s (by decide)]
    rw [ty_ev hi]
theorem typeM_n {l : Int64} {m n : Nat} {I : Mem} (h : I 74 3 = nI m) (h1 : 1 ≤ n) (h8 : n ≤ 8) (hm : m + n ≤ 200) : iter (sX12_type_41 l) FU (nI n - 1, I) = some (nI (m + n), tyM I 74 77 3 l m n n) := by
  obtain ⟨n', rfl⟩ : ∃ n', n = n' + 1 := ⟨n - 1, by omega⟩
  rw [show nI (n' + 1) - 1 = nI n' from nI_pred n']
  have e0 : (nI n', I) = (fun i => (nI (n' - i) - (if i = n' + 1 then 1 else 0), tyM I 74 77 3 l m (n' + 1) i)) 0 := by
    show _ = (nI (n' - 0) - (if 0 = n' + 1 then 1 else 0), tyM I 74 77 3 l m (n' + 1) 0)
    rw [tyM_0 h, if_neg (by omega), Nat.sub_zero]
    simp
  rw [e0]
  have e35 : ∀ i, tyM I 74 77 3 l m (n' + 1) i 74 3 = nI (m + i) := fun i => by unfold tyM; rw [upA_c (by decide), up2_self]
  refine iter_go (fun i => (nI (n' - i) - (if i = n' + 1 then 1 else 0), tyM I 74 77 3 l m (n' + 1) i)) (n' + 1) (FU_lt (by omega)) ?_ (fun i hi => ?_)
  · unfold sX12_type_41 bX12_type_41
    dsimp only
    rw [if_pos rfl, show n' - (n' + 1) = 0 by omega, if_pos (by decide), e35]
  · unfold sX12_type_41 bX12_type_41
    dsimp only
    rw [if_neg (show ¬ i = n' + 1 by omega), show nI (n' - i) - (0 : Int32) = nI (n' - i) by simp, if_neg (show ¬ nI (n' - i) < 0 from nI_nlt (b := 0) (by omega) (by omega)), e35, chk_t (inb_n (by omega) (by decide)), ix_n (by omega)]
    dsimp only [letb]
    rw [byte_eq, show (l >>> (Int32.toInt64 ((8 : Int32) * nI (n' - i)) &&& 63)).toInt32 &&& 255 = byt l (nI (n' + 1 - 1 - i)) by rw [show n' + 1 - 1 - i = n' - i by omega]; rfl, up2_c (a := 74) (by decide), e35, nI_1, tyM_s (by decide)]
    rw [ty_ev hi]
theorem ok_type {T : Nat} {I : Mem} (h : Sim T I) (l : Int64) (x3 : Int32) : OK T I (fX11_type l x3) (fX12_type l x3) := by
  obtain ⟨a1, a2, a3, ⟨m, t1, t2, t3, t4⟩, a5, a6⟩ := h
  have hS : Sim T I := ⟨a1, a2, a3, ⟨m, t1, t2, t3, t4⟩, a5, a6⟩
  rcases rng x3 1 8 (by decide) with ⟨n, h1, h8, rfl⟩ | hf
  · have c1 : ¬ nI n < 1 := nI_nlt (b := 1) h1 (by omega)
    have c2 : nI n ≤ 8 := by rw [show (8 : Int32) = nI 8 from rfl, nI_leI (by omega) (by omega)]; exact h8
    by_cases c : m + n ≤ 200
    · have c3 : nI (m + n) ≤ 200 := by rw [show (200 : Int32) = nI 200 from rfl, nI_leI (by omega) (by omega)]; exact c
      refine ⟨nI (m + n), tyM I 35 36 0 l m n n, tyM (tyM I 35 36 0 l m n n) 74 77 3 l m n n, ?_, ?_, ?_⟩
      · unfold fX11_type
        rw [if_neg c1, if_pos c2, t2, nI_add, if_pos c3, bnd_s (add_n t2 h1 h8 c)]
        rfl
      · have e74 : tyM I 35 36 0 l m n n 74 3 = nI m := by unfold tyM; rw [upA_c (by decide), up2_c (by decide)]; exact t3
        unfold fX12_type
        rw [bnd_s (in_t (lo := 1) (hi := 8) rfl rfl h1 h8 (by omega)), if_neg (by decide), e74, nI_add, if_pos c3]
        dsimp only [letb]
        exact typeM_n e74 h1 h8 c
      · generalize hJ : tyM I 35 36 0 l m n n = J
        have jc : ∀ c, c ≠ 35 → c ≠ 36 → J c = I c := fun c q1 q2 => by rw [← hJ]; unfold tyM; rw [upA_c q2, up2_cc q1]
        have j35 : J 35 0 = nI (m + n) := by rw [← hJ]; unfold tyM; rw [upA_c (by decide), up2_self]
        have j36 : J 36 = tyA (I 36) l m n n := by rw [← hJ]; unfold tyM; rw [upA_self]
        generalize hK : tyM J 74 77 3 l m n n = K
        have kc : ∀ c, c ≠ 74 → c ≠ 77 → K c = J c := fun c q1 q2 => by rw [← hK]; unfold tyM; rw [upA_c q2, up2_cc q1]
        have k74 : K 74 3 = nI (m + n) := by rw [← hK]; unfold tyM; rw [upA_c (by decide), up2_self]
        have k7415 : K 74 15 = I 74 15 := by rw [← hK]; unfold tyM; rw [upA_c (by decide), up2_i (by decide), jc 74 (by decide) (by decide)]
        have k77 : K 77 = tyA (I 77) l m n n := by rw [← hK]; unfold tyM; rw [upA_self, jc 77 (by decide) (by decide)]
        have e : ∀ c, c ≠ 35 → c ≠ 36 → c ≠ 74 → c ≠ 77 → K c = I c := fun c q1 q2 q3 q4 => by rw [kc c q3 q4, jc c q1 q2]
        refine ⟨(a1.congr (fun c hc => e _ (by omega) (by omega) (by omega) (by omega)) (fun k hk => by rw [e 75 (by decide) (by decide) (by decide) (by decide)])).mono (by omega), (a2.congr (by omega) (fun c h0 h1 => e _ (by omega) (by omega) (by omega) (by omega)) (e _ (by decide) (by decide) (by decide) (by decide)) (fun k _ _ => by rw [e 75 (by decide) (by decide) (by decide) (by decide)])).mono (by omega), (a3.congr (by omega) (fun c h0 h1 => e _ (by omega) (by omega) (by omega) (by omega)) (e _ (by decide) (by decide) (by decide) (by decide)) (fun k _ _ => by rw [e 75 (by decide) (by decide) (by decide) (by decide)])).mono (by omega), ⟨m + n, c, by rw [kc 35 (by decide) (by decide)]; exact j35, k74, fun j hj => ?_⟩, a5.congr (fun q _ => by rw [e 0 (by decide) (by decide) (by decide) (by decide)]) (e _ (by decide) (by decide) (by decide) (by decide)), by rw [k7415]; exact a6⟩
        rw [kc 36 (by decide) (by decide), j36, k77]
        unfold tyA
        by_cases c9 : m ≤ j ∧ j < m + n
        · rw [if_pos c9, if_pos c9]
          exact ⟨rfl, and255 _⟩
        · rw [if_neg c9, if_neg c9]
          exact t4 j (by omega)
    · have c3 : ¬ nI (m + n) ≤ 200 := by rw [show (200 : Int32) = nI 200 from rfl, nI_leI (by omega) (by omega)]; exact c
      refine ok_full hS (-4) ?_ ?_
      · unfold fX11_type
        rw [if_neg c1, if_pos c2, t2, nI_add, if_neg c3, refXf]
        rfl
      · unfold fX12_type
        rw [bnd_s (in_t (lo := 1) (hi := 8) rfl rfl h1 h8 (by omega)), if_neg (by decide), up0_c (c := 74) (by decide), t3, nI_add, if_neg c3, refMf]
        rfl
  · refine ok_bad hS (-2) ?_ ?_
    · unfold fX11_type
      by_cases c : x3 < 1
      · rw [if_pos c]; rfl
      · rw [if_neg c, if_neg (by rw [x_le, show (8 : Int32).toInt = 8 from rfl]; rw [x_lt, show (1 : Int32).toInt = 1 from rfl] at c; omega)]; rfl
    · unfold fX12_type
      rw [bnd_s (in_f (lo := 1) (hi := 8) rfl rfl hf), if_pos (by decide), refM]
      rfl
