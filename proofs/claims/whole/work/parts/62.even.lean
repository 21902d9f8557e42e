theorem fnd_fil {p q q2 : Nat → Bool} : ∀ (L : List Nat), (∀ t, t ∈ L → q2 t = (p t && q t)) → (L.filter p).find? q = L.find? q2
  | [], _ => rfl
  | x :: L, h => by
    have hx := h x (List.mem_cons_self ..)
    have ih := fnd_fil (p := p) (q := q) (q2 := q2) L (fun t ht => h t (List.mem_cons_of_mem _ ht))
    cases hp : p x with
    | true =>
      rw [hp, Bool.true_and] at hx
      rw [List.filter_cons_of_pos hp, List.find?_cons, List.find?_cons, hx, ih]
    | false =>
      rw [hp, Bool.false_and] at hx
      rw [List.filter_cons_of_neg (by rw [hp]; decide), ih, List.find?_cons, hx]
/-- what a step costs in all -/
def totF (n np ct law B : Nat) (D : Nat → Nat) (wf : Nat → Nat → Option Nat) (h r s t : Nat) : Nat := cnt (layB np ct law (B + (h - r)) s t) np + UV (enA n np) (ecH np ct law B D wf) h r t
abbrev UH (n np ct law B : Nat) (D : Nat → Nat) (wf : Nat → Nat → Option Nat) (h r s : Nat) : Nat := UV (enA n np) (ecH np ct law B D wf) h r s
theorem kpA_U {n np ct law B : Nat} {D : Nat → Nat} {wf : Nat → Nat → Option Nat} {h r t : Nat} (hn : n ≤ 5) (hnp : np ≤ 4) (hh : h ≤ 4) (hr : r ≤ h) (ht : t ∈ enA n np) (hk : kpA n np D wf h r t = true) : UH n np ct law B D wf h r t ≤ 4 * r ∧ okW np wf (h - r) t = true := by
  have hf := feas (ct := ct) (law := law) (B := B) (D := D) (wf := wf) (h := h) hn hnp hh r hr t ht
  rw [hk, Bool.and_eq_true, decide_eq_true_iff] at hf
  refine ⟨?_, hf.1⟩
  rcases UV_le (L := enA n np) (h := h) (ecH_le (ct := ct) (law := law) (B := B) (D := D) (wf := wf) hnp) r t with q | q
  · exact absurd q hf.2
  · exact q
/-- a step's value where it can be, NV else -/
theorem by_val {n np ct law B : Nat} {D : Nat → Nat} {wf : Nat → Nat → Option Nat} {h r s t : Nat} (hn : n ≤ 5) (hnp : np ≤ 4) (hh : h ≤ 4) (hr : r ≤ h) (ht : t ∈ enA n np) : byN (ecH np ct law B D wf (h - r) s t) (UH n np ct law B D wf h r t) = if (allB (goP D s t) np && kpA n np D wf h r t) = true then totF n np ct law B D wf h r s t else NV := by
  have hf := feas (ct := ct) (law := law) (B := B) (D := D) (wf := wf) (h := h) hn hnp hh r hr t ht
  have e : ecH np ct law B D wf (h - r) s t = if (allB (goP D s t) np && okW np wf (h - r) t) = true then some (cnt (layB np ct law (B + (h - r)) s t) np) else none := rfl
  rw [← hf, e]
  cases allB (goP D s t) np with
  | false => rfl
  | true =>
    cases okW np wf (h - r) t with
    | false => rfl
    | true =>
      show (if UH n np ct law B D wf h r t = NV then NV else UH n np ct law B D wf h r t + _) = _
      by_cases c : UH n np ct law B D wf h r t = NV
      · rw [if_pos c, if_neg (by rw [decide_eq_false (fun q => q c)]; decide)]
      · rw [if_neg c, if_pos (by rw [decide_eq_true c]; rfl)]
        unfold totF
        rw [Nat.add_comm]
/-- the least, and the first step for it -/
theorem U_val {n np ct law B : Nat} {D : Nat → Nat} {wf : Nat → Nat → Option Nat} {h r s : Nat} (hn : n ≤ 5) (hnp : np ≤ 4) (hh : h ≤ 4) (hr : r + 1 ≤ h) : ((enW (mkK n D wf h r s) np).foldl (bst (totF n np ct law B D wf h r s)) none = none ∧ UH n np ct law B D wf h (r + 1) s = NV) ∨ ∃ u, (enW (mkK n D wf h r s) np).foldl (bst (totF n np ct law B D wf h r s)) none = some u ∧ u ∈ enA n np ∧ kpA n np D wf h r u = true ∧ UH n np ct law B D wf h (r + 1) s = totF n np ct law B D wf h r s u ∧ totF n np ct law B D wf h r s u ≤ 4 * r + 4 ∧ (enA n np).find? (fun t => byN (ecH np ct law B D wf (h - r) s t) (UH n np ct law B D wf h r t) == UH n np ct law B D wf h (r + 1) s) = some u := by
  have hNV : NV = 268435456 := rfl
  have hbv : ∀ t, t ∈ enA n np → byN (ecH np ct law B D wf (h - r) s t) (UH n np ct law B D wf h r t) = if (allB (goP D s t) np && kpA n np D wf h r t) = true then totF n np ct law B D wf h r s t else NV := fun t ht => by_val hn hnp hh (by omega) ht
  rw [mkK_fil hn]
  generalize hL : (enA n np).filter (fun t => allB (goP D s t) np && kpA n np D wf h r t) = L
  by_cases c : L = []
  · left
    refine ⟨by rw [c]; rfl, ?_⟩
    rcases Nat.lt_or_ge (UH n np ct law B D wf h (r + 1) s) NV with q | q
    · exfalso
      obtain ⟨t, t1, t2⟩ := minL_at (f := fun t => byN (ecH np ct law B D wf (h - r) s t) (UH n np ct law B D wf h r t)) (L := enA n np) (show UH n np ct law B D wf h (r + 1) s ≠ NV by omega)
      have t3 : UH n np ct law B D wf h (r + 1) s = byN (ecH np ct law B D wf (h - r) s t) (UH n np ct law B D wf h r t) := t2
      rw [hbv t t1] at t3
      by_cases c2 : (allB (goP D s t) np && kpA n np D wf h r t) = true
      · have : t ∈ L := by rw [← hL]; exact List.mem_filter.mpr ⟨t1, c2⟩
        rw [c] at this
        cases this
      · rw [if_neg c2] at t3
        omega
    · have := minL_NV (fun t => byN (ecH np ct law B D wf (h - r) s t) (UH n np ct law B D wf h r t)) (enA n np)
      have h2 : UH n np ct law B D wf h (r + 1) s ≤ NV := this
      omega
  · right
    obtain ⟨u, u1, u2, u3, u4⟩ := bst_all (f := totF n np ct law B D wf h r s) c
    have hu : u ∈ enA n np ∧ (allB (goP D s u) np && kpA n np D wf h r u) = true := by rw [← hL] at u2; exact List.mem_filter.mp u2
    have hku : kpA n np D wf h r u = true := by have := hu.2; rw [Bool.and_eq_true] at this; exact this.2
    have hle : totF n np ct law B D wf h r s u ≤ 4 * r + 4 := by
      have a := (kpA_U (ct := ct) (law := law) (B := B) hn hnp hh (by omega) hu.1 hku).1
      have b := cnt_le (layB np ct law (B + (h - r)) s u) np
      unfold totF
      have a2 : UV (enA n np) (ecH np ct law B D wf) h r u ≤ 4 * r := a
      omega
    have e1 : UH n np ct law B D wf h (r + 1) s ≤ totF n np ct law B D wf h r s u := by
      have := minL_le (f := fun t => byN (ecH np ct law B D wf (h - r) s t) (UH n np ct law B D wf h r t)) hu.1
      rw [hbv u hu.1, if_pos hu.2] at this
      exact this
    have e2 : UH n np ct law B D wf h (r + 1) s = totF n np ct law B D wf h r s u := by
      obtain ⟨t, t1, t2⟩ := minL_at (f := fun t => byN (ecH np ct law B D wf (h - r) s t) (UH n np ct law B D wf h r t)) (L := enA n np) (show UH n np ct law B D wf h (r + 1) s ≠ NV by omega)
      have t3 : UH n np ct law B D wf h (r + 1) s = byN (ecH np ct law B D wf (h - r) s t) (UH n np ct law B D wf h r t) := t2
      rw [hbv t t1] at t3
      by_cases c2 : (allB (goP D s t) np && kpA n np D wf h r t) = true
      · rw [if_pos c2] at t3
        have := u3 t (by rw [← hL]; exact List.mem_filter.mpr ⟨t1, c2⟩)
        omega
      · rw [if_neg c2] at t3
        omega
    refine ⟨u, u1, hu.1, hku, e2, hle, ?_⟩
    rw [← u4, ← hL]
    refine (fnd_fil _ (fun t ht => ?_)).symm
    rw [hbv t ht, e2]
    by_cases c2 : (allB (goP D s t) np && kpA n np D wf h r t) = true
    · rw [if_pos c2, c2, Bool.true_and]
    · have c3 : (allB (goP D s t) np && kpA n np D wf h r t) = false := by simpa using c2
      rw [if_neg c2, c3, Bool.false_and, beq_eq_false_iff_ne]
      omega
theorem lt2341 : ∀ (k s : Nat), k ≤ 4 → s < 8 ^ k → (∀ p, p < k → dg s p < 5) → 7 * s + 4 ≤ 4 * 8 ^ k
  | 0, s, _, h, _ => by rw [Nat.pow_zero] at h ⊢; omega
  | k + 1, s, hk, hs, hd => by
    have hm : s % 8 ^ k < 8 ^ k := Nat.mod_lt _ (Nat.pow_pos (by decide))
    have a1 : s / 8 ^ k < 8 := by rw [Nat.div_lt_iff_lt_mul (Nat.pow_pos (by decide)), Nat.mul_comm, ← Nat.pow_succ]; exact hs
    have e : s = s % 8 ^ k + dg s k * 8 ^ k := by
      unfold dg
      rw [Nat.mod_eq_of_lt a1, Nat.add_comm, Nat.mul_comm]
      exact (Nat.div_add_mod s (8 ^ k)).symm
    have ih := lt2341 k (s % 8 ^ k) (by omega) hm (fun p hp => by
      have := hd p (by omega)
      rw [e, dg_add hm (dg_lt _ _), if_pos hp] at this
      exact this)
    have h4 := hd k (by omega)
    have h5 : dg s k * 8 ^ k ≤ 4 * 8 ^ k := Nat.mul_le_mul_right _ (by omega)
    have h6 : 8 ^ (k + 1) = 8 * 8 ^ k := by rw [Nat.pow_succ, Nat.mul_comm]
    omega
theorem enA_2341 {n np s : Nat} (hn : n ≤ 5) (hnp : np ≤ 4) (h : s ∈ enA n np) : s < 2341 := by
  obtain ⟨a, b⟩ := enA_wv hn h
  have := lt2341 np s hnp a (fun p hp => by have := b p hp; omega)
  have := pow8_le hnp
  omega
theorem enA_dg5 {n np s : Nat} (hn : n ≤ 5) (h : s ∈ enA n np) : ∀ p, dg s p < 5 := fun p => by
  obtain ⟨a, b⟩ := enA_wv hn h
  by_cases c : p < np
  · have := b p c; omega
  · unfold dg
    rw [Nat.div_eq_of_lt (Nat.lt_of_lt_of_le a (Nat.pow_le_pow_right (by decide) (by omega)))]
    decide
/-! ===== who is alone in all standings ===== -/
theorem markLone_n {b a1 w0 n np ct : Nat} {I : Mem} (hw : ln (w0 + 1) = 4) (ha : ln a1 = 2341) (hd : b ≠ w0 ∧ b ≠ w0 + 1 ∧ a1 ≠ w0 ∧ a1 ≠ w0 + 1 ∧ b ≠ a1) (g0 : I b 0 = nI n) (hn : n ≤ 5) (g1 : I b 1 = nI ct) (hct : ct < 32) (g2 : I b 2 = nI np) (hnp : np ≤ 4) : ∃ J, fX4_markLone b a1 w0 I = some J ∧ (∀ s, s ∈ enA n np → J a1 s = nI (loneN np ct s)) ∧ ∀ c, c ≠ a1 → c ≠ w0 → c ≠ w0 + 1 → J c = I c := by
  have h32 := pow_le32 hn
  have h625 := pow_le625 hn hnp
  have hlen : (enA n np).length = n ^ np := enA_len _ _
  obtain ⟨J, j1, j2, j3⟩ := all_n (w0 := w0) (b := b) (n := n) (np := np) (I := I) hw hd.1 g0 hn g2 hnp
  rw [enW_all hn] at j1 j2
  have hm : ∀ p : Nat, p < 4 → (fun _ : Nat => 2 ^ n - 1) p < 32 := fun p _ => by show 2 ^ n - 1 < 32; have := Nat.pow_pos (n := n) (show 0 < 2 by decide); omega
  have hmem : ∀ i, i < (enA n np).length → (enA n np).getD i 0 ∈ enA n np := fun i hi => getD_mem hi
  have key := iter_invF (s := sX4_markLone_9 b a1 w0 (nI (enA n np).length)) (fun i x => x.1 = nI i ∧ (i < (enA n np).length → WS x.2 w0 np (fun _ => 2 ^ n - 1) ((enA n np).getD i 0)) ∧ (∀ j, j < i → x.2 a1 ((enA n np).getD j 0) = nI (loneN np ct ((enA n np).getD j 0))) ∧ ∀ c, c ≠ a1 → c ≠ w0 → c ≠ w0 + 1 → x.2 c = I c) (fun r => (∀ j, j < (enA n np).length → r a1 ((enA n np).getD j 0) = nI (loneN np ct ((enA n np).getD j 0))) ∧ ∀ c, c ≠ a1 → c ≠ w0 → c ≠ w0 + 1 → r c = I c) (enA n np).length (FU_lt (by omega)) (x := ((0 : Int32), J)) ⟨rfl, j2, fun j hj => absurd hj (Nat.not_lt_zero _), fun c q1 q2 q3 => j3 c q2 q3⟩ (fun i x hi hx => ?_) (fun x hx => ?_)
  · obtain ⟨K, k1, k2, k3⟩ := key
    refine ⟨K, ?_, fun s hs => ?_, k3⟩
    · unfold fX4_markLone
      rw [bnd2_s j1, k1]
    · obtain ⟨i, hi, e⟩ := List.getElem_of_mem hs
      have e2 : (enA n np).getD i 0 = s := by rw [List.getD_eq_getElem?_getD, List.getElem?_eq_getElem hi]; exact e
      have := k2 i hi
      rw [e2] at this
      exact this
  · obtain ⟨x1, M⟩ := x
    dsimp only at hx
    obtain ⟨rfl, hws, hdone, hf⟩ := hx
    have hws := hws hi
    have hs := hmem i hi
    have hs2 := enA_2341 hn hnp hs
    generalize hsd : (enA n np).getD i 0 = s at hws hs hs2
    have Mb : M b = I b := hf b hd.2.2.2.2 hd.1 hd.2.1
    have hws2 : WS (up2 M a1 s (nI (loneN np ct s))) w0 np (fun _ => 2 ^ n - 1) s := hws.congr (up2_cc (fun q => hd.2.2.1 q.symm)) (up2_cc (fun q => hd.2.2.2.1 q.symm))
    obtain ⟨M2, m1, m2, m3⟩ := WS.step (m := fun _ => 2 ^ n - 1) (i := i) (I := up2 M a1 s (nI (loneN np ct s))) (by rw [enW_all hn, hsd]; exact hws2) hm hnp (by rw [enW_all hn]; exact hi)
    rw [enW_all hn] at m2
    refine ⟨(nI (i + 1), M2), ?_, rfl, m2, fun j hj => ?_, fun c q1 q2 q3 => by show M2 c = I c; rw [m3 c q2, up2_cc q1]; exact hf c q1 q2 q3⟩
    · unfold sX4_markLone_9 bX4_markLone_9
      dsimp only
      rw [if_neg (by rw [nI_leI (by omega) (by omega)]; omega), hws.1, bnd_s (lone_n (by rw [Mb]; exact g2) hnp (by rw [Mb]; exact g1) hct (by omega)), ha, chk_t (inb_n hs2 (by decide)), ix_n (by omega)]
      dsimp only [letb]
      rw [bnd_s m1, nI_1]
    · show M2 a1 ((enA n np).getD j 0) = _
      rw [m3 a1 hd.2.2.1]
      by_cases e : (enA n np).getD j 0 = s
      · rw [e, up2_self]
      · rw [up2_i e]
        refine hdone j ?_
        rcases Nat.lt_or_ge j i with q | q
        · exact q
        · exact absurd (by rw [← hsd, show j = i by omega]) e
  · obtain ⟨x1, M⟩ := x
    dsimp only at hx
    obtain ⟨rfl, hws, hdone, hf⟩ := hx
    refine ⟨M, ?_, hdone, hf⟩
    unfold sX4_markLone_9 bX4_markLone_9
    dsimp only
    rw [if_pos (by rw [nI_leI (by omega) (by omega)]; omega)]
/-- a house, its people, its wishes -/
def HF (I : Mem) (b n np ct law B w : Nat) (D : Nat → Nat) (wf : Nat → Nat → Option Nat) : Prop := (b = 1 ∨ b = 9) ∧ (1 ≤ n ∧ n ≤ 5) ∧ np ≤ 4 ∧ ct < 32 ∧ law ≤ 4 ∧ B < 2 ^ 20 ∧ (I b 0 = nI n ∧ I b 2 = nI np ∧ I b 1 = nI ct ∧ I b 5 = nI B ∧ I b 3 = nI w) ∧ w ∈ enA n np ∧ (∀ q, q < 5 → I (b + 1) q = nI (D q)) ∧ (∀ q, q < 5 → D q < 2 ^ n) ∧ (∀ p k, p < np → 1 ≤ k → k ≤ 4 → I (b + 5) (4 * p + (k - 1)) = oI (wf p k)) ∧ ∀ p k q, p < np → 1 ≤ k → k ≤ 4 → wf p k = some q → q < n
/-- what the evening holds while it weighs -/
def EH (I0 M : Mem) (b n np ct law h : Nat) : Prop := M 45 1 = enc b ∧ M 45 2 = enc (38 + law) ∧ M 45 3 = nI h ∧ (∀ c, (c < 45 ∨ 63 ≤ c) → M c = I0 c) ∧ ∀ s, s ∈ enA n np → M 58 s = nI (loneN np ct s)
theorem EH.congr {I0 M K : Mem} {b n np ct law h : Nat} (hE : EH I0 M b n np ct law h) (h1 : ∀ i, i ≠ 4 → K 45 i = M 45 i) (h2 : ∀ c, (c < 45 ∨ 63 ≤ c) → K c = M c) (h3 : K 58 = M 58) : EH I0 K b n np ct law h := by
  obtain ⟨a1, a2, a3, a4, a5⟩ := hE
  refine ⟨by rw [h1 1 (by decide)]; exact a1, by rw [h1 2 (by decide)]; exact a2, by rw [h1 3 (by decide)]; exact a3, fun c hc => by rw [h2 c hc]; exact a4 c hc, fun s hs => by rw [h3]; exact a5 s hs⟩
theorem asH_e {b : Nat} (h : b = 1 ∨ b = 9) : asH (dec (enc b)) = some b := by rcases h with rfl | rfl <;> decide +kernel
theorem asL_e : ∀ law, law ≤ 4 → asL (dec (enc (38 + law))) = some (38 + law) := by decide +kernel
theorem asA_47 : ∀ k, k < 5 → asA (fin 47 k) = some (48 + k) := by decide +kernel
theorem asA_53 : ∀ k, k < 3 → asA (fin 53 k) = some (54 + k) := by decide +kernel
theorem ln_48 : ∀ k, k < 5 → ln (48 + k) = 4 := by decide +kernel
theorem ln_54 : ∀ k, k < 3 → ln (54 + k) = 2341 := by decide +kernel
theorem iter_inv2 {σ ρ : Type} {s : σ → Option (σ ⊕ ρ)} (P : Nat → σ → Prop) (Q : ρ → Prop) (N : Nat) (hs : ∀ i x, i < N → P i x → (∃ y, s x = some (.inl y) ∧ P (i + 1) y) ∨ ∃ r, s x = some (.inr r) ∧ Q r) (he : ∀ x, P N x → ∃ r, s x = some (.inr r) ∧ Q r) : ∀ (n i : Nat) (x : σ), P i x → i ≤ N → N - i < n → ∃ r, iter s n x = some r ∧ Q r
  | 0, i, x, _, _, h => by omega
  | n + 1, i, x, hP, hi, hn => by
    by_cases e : i = N
    · subst e
      obtain ⟨r, a, b⟩ := he x hP
      exact ⟨r, iter_inr a, b⟩
    · rcases hs i x (by omega) hP with ⟨y, a, b⟩ | ⟨r, a, b⟩
      · rw [iter_inl a]
        exact iter_inv2 P Q N hs he n (i + 1) y b (by omega) (by omega)
      · exact ⟨r, iter_inr a, b⟩
theorem iter_inv2F {σ ρ : Type} {s : σ → Option (σ ⊕ ρ)} (P : Nat → σ → Prop) (Q : ρ → Prop) (N : Nat) (hN : N < FU) {x : σ} (h0 : P 0 x) (hs : ∀ i x, i < N → P i x → (∃ y, s x = some (.inl y) ∧ P (i + 1) y) ∨ ∃ r, s x = some (.inr r) ∧ Q r) (he : ∀ x, P N x → ∃ r, s x = some (.inr r) ∧ Q r) : ∃ r, iter s FU x = some r ∧ Q r := iter_inv2 P Q N hs he FU 0 x h0 (Nat.zero_le _) (by omega)
