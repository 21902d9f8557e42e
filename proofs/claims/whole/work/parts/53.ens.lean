/-! ===== all standings, one behind the other ===== -/
/-- persons in the rooms of their lists; the last one's room rises first -/
def ens (S : Nat → List Nat) : Nat → List Nat
  | 0 => [0]
  | k + 1 => (ens S k).flatMap (fun s => (S k).map (fun r => s + r * 8 ^ k))
/-- the standing with a number -/
def stN (n : Nat) : Nat → Nat → Nat
  | 0, _ => 0
  | k + 1, a => stN n k (a / n) + a % n * 8 ^ k
theorem range_mul (b : Nat) : ∀ a, List.range (a * b) = (List.range a).flatMap (fun q => (List.range b).map (fun r => q * b + r))
  | 0 => by rw [Nat.zero_mul]; rfl
  | a + 1 => by
    rw [Nat.succ_mul, List.range_add, range_mul b a, List.range_succ, List.flatMap_append]
    simp
theorem ens_range {n : Nat} (hn : 0 < n) : ∀ k, (List.range (n ^ k)).map (stN n k) = ens (fun _ => List.range n) k
  | 0 => rfl
  | k + 1 => by
    rw [Nat.pow_succ, range_mul, List.map_flatMap, ens, ← ens_range hn k, List.flatMap_map]
    congr 1
    funext q
    rw [List.map_map]
    refine List.map_congr_left (fun r hr => ?_)
    have hr2 : r < n := List.mem_range.mp hr
    show stN n k ((q * n + r) / n) + (q * n + r) % n * 8 ^ k = _
    rw [Nat.mul_comm q n, Nat.mul_add_div hn, Nat.div_eq_of_lt hr2, Nat.add_zero, Nat.mul_add_mod, Nat.mod_eq_of_lt hr2]
theorem ens_lt {S : Nat → List Nat} (h : ∀ k r, r ∈ S k → r < 8) : ∀ k s, s ∈ ens S k → s < 8 ^ k
  | 0, s, hs => by
    have : s = 0 := by simpa [ens] using hs
    rw [this]; decide
  | k + 1, s, hs => by
    rw [ens, List.mem_flatMap] at hs
    obtain ⟨u, hu, hs⟩ := hs
    obtain ⟨r, hr, rfl⟩ := List.mem_map.mp hs
    exact add_lt8 (ens_lt h k u hu) (h k r hr)
theorem ens_dg {S : Nat → List Nat} (h : ∀ k r, r ∈ S k → r < 8) : ∀ k s, s ∈ ens S k → ∀ p, p < k → dg s p ∈ S p
  | 0, s, hs, p, hp => by omega
  | k + 1, s, hs, p, hp => by
    rw [ens, List.mem_flatMap] at hs
    obtain ⟨u, hu, hs⟩ := hs
    obtain ⟨r, hr, rfl⟩ := List.mem_map.mp hs
    rw [dg_add (ens_lt h k u hu) (h k r hr)]
    by_cases c : p < k
    · rw [if_pos c]; exact ens_dg h k u hu p c
    · rw [if_neg c, if_pos (by omega), show p = k by omega]; exact hr
/-- a standing is what its figures say -/
theorem dg_ext : ∀ (k s t : Nat), s < 8 ^ k → t < 8 ^ k → (∀ p, p < k → dg s p = dg t p) → s = t
  | 0, s, t, hs, ht, _ => by rw [Nat.pow_zero] at hs ht; omega
  | k + 1, s, t, hs, ht, h => by
    have e := h k (by omega)
    have h1 : s % 8 ^ k = t % 8 ^ k := by
      refine dg_ext k _ _ (Nat.mod_lt _ (Nat.pow_pos (by decide))) (Nat.mod_lt _ (Nat.pow_pos (by decide))) (fun p hp => ?_)
      have e2 : ∀ x, dg (x % 8 ^ k) p = dg x p := fun x => by
        have hm : x % 8 ^ k < 8 ^ k := Nat.mod_lt _ (Nat.pow_pos (by decide))
        obtain ⟨d, hd⟩ : ∃ d, k = p + 1 + d := ⟨k - p - 1, by omega⟩
        unfold dg
        have h8 : (8 : Nat) ^ k = 8 ^ p * (8 * 8 ^ d) := by rw [hd, Nat.pow_add, Nat.pow_add, Nat.pow_one]; simp only [Nat.mul_assoc]
        rw [h8, Nat.mod_mul_right_div_self, Nat.mod_mul_right_mod]
      rw [e2, e2]
      exact h p (by omega)
    have h2 : s / 8 ^ k = t / 8 ^ k := by
      unfold dg at e
      have a1 : s / 8 ^ k < 8 := by rw [Nat.div_lt_iff_lt_mul (Nat.pow_pos (by decide)), Nat.mul_comm, ← Nat.pow_succ]; exact hs
      have a2 : t / 8 ^ k < 8 := by rw [Nat.div_lt_iff_lt_mul (Nat.pow_pos (by decide)), Nat.mul_comm, ← Nat.pow_succ]; exact ht
      rw [Nat.mod_eq_of_lt a1, Nat.mod_eq_of_lt a2] at e
      exact e
    rw [← Nat.div_add_mod s (8 ^ k), ← Nat.div_add_mod t (8 ^ k), h1, h2]
theorem ens_mem {S : Nat → List Nat} (h : ∀ k r, r ∈ S k → r < 8) : ∀ k s, s < 8 ^ k → (∀ p, p < k → dg s p ∈ S p) → s ∈ ens S k
  | 0, s, hs, _ => by rw [Nat.pow_zero] at hs; rw [show s = 0 by omega]; exact List.mem_singleton.mpr rfl
  | k + 1, s, hs, hd => by
    have hm : s % 8 ^ k < 8 ^ k := Nat.mod_lt _ (Nat.pow_pos (by decide))
    have e : s = s % 8 ^ k + dg s k * 8 ^ k := by
      have a1 : s / 8 ^ k < 8 := by rw [Nat.div_lt_iff_lt_mul (Nat.pow_pos (by decide)), Nat.mul_comm, ← Nat.pow_succ]; exact hs
      unfold dg
      rw [Nat.mod_eq_of_lt a1, Nat.add_comm, Nat.mul_comm]
      exact (Nat.div_add_mod s (8 ^ k)).symm
    rw [ens, List.mem_flatMap]
    refine ⟨s % 8 ^ k, ens_mem h k _ hm (fun p hp => ?_), List.mem_map.mpr ⟨dg s k, hd k (by omega), e.symm⟩⟩
    have := hd p (by omega)
    rw [e, dg_add hm (dg_lt _ _), if_pos hp] at this
    exact this
theorem flatMap_cong {α β : Type} {f g : α → List β} : ∀ {L : List α}, (∀ x, x ∈ L → f x = g x) → L.flatMap f = L.flatMap g
  | [], _ => rfl
  | x :: L, h => by rw [List.flatMap_cons, List.flatMap_cons, h x (List.mem_cons_self ..), flatMap_cong (fun y hy => h y (List.mem_cons_of_mem _ hy))]
theorem fm_filter {α β : Type} {f : α → List β} {p : α → Bool} : ∀ {L : List α}, (L.filter p).flatMap f = L.flatMap (fun x => if p x = true then f x else [])
  | [] => rfl
  | x :: L => by
    rw [List.flatMap_cons]
    by_cases c : p x = true
    · rw [List.filter_cons_of_pos c, List.flatMap_cons, if_pos c, fm_filter]
    · rw [List.filter_cons_of_neg c, if_neg c, fm_filter, List.nil_append]
theorem ens_filter {S : Nat → List Nat} (h : ∀ k r, r ∈ S k → r < 8) (P : Nat → Nat → Bool) : ∀ k, ens (fun p => (S p).filter (P p)) k = (ens S k).filter (fun s => allB (fun p => P p (dg s p)) k)
  | 0 => rfl
  | k + 1 => by
    rw [ens, ens_filter h P k, ens, List.filter_flatMap, fm_filter]
    refine flatMap_cong (fun s hs => ?_)
    have hl := ens_lt h k s hs
    rw [List.filter_map]
    have e : ∀ r, r ∈ S k → allB (fun p => P p (dg (s + r * 8 ^ k) p)) (k + 1) = (allB (fun p => P p (dg s p)) k && P k r) := fun r hr => by
      rw [allB, dg_add hl (h k r hr), if_neg (by omega), if_pos rfl]
      congr 1
      refine allB_cong (fun p hp => ?_)
      rw [dg_add hl (h k r hr), if_pos hp]
    by_cases c : allB (fun p => P p (dg s p)) k = true
    · rw [if_pos c]
      congr 1
      refine List.filter_congr (fun r hr => ?_)
      show P k r = allB (fun p => P p (dg (s + r * 8 ^ k) p)) (k + 1)
      rw [e r hr, c, Bool.true_and]
    · rw [if_neg c]
      have : (S k).filter ((fun s => allB (fun p => P p (dg s p)) (k + 1)) ∘ fun r => s + r * 8 ^ k) = [] := by
        rw [List.filter_eq_nil_iff]
        intro r hr
        show ¬ allB (fun p => P p (dg (s + r * 8 ^ k) p)) (k + 1) = true
        rw [e r hr, Bool.and_eq_true]
        exact fun q => c q.1
      rw [this]
      rfl
/-! ===== places in the list ===== -/
theorem fm_getD {b : Nat} (f : Nat → List Nat) : ∀ (L : List Nat), (∀ x, x ∈ L → (f x).length = b) → ∀ q t, q < L.length → t < b → (L.flatMap f).getD (q * b + t) 0 = (f (L.getD q 0)).getD t 0
  | [], _, q, t, hq, _ => by simp at hq
  | x :: L, h, 0, t, _, ht => by
    have hx := h x (List.mem_cons_self ..)
    rw [List.flatMap_cons, Nat.zero_mul, Nat.zero_add]
    simp only [List.getD_eq_getElem?_getD]
    rw [List.getElem?_append_left (by omega)]
    rfl
  | x :: L, h, q + 1, t, hq, ht => by
    have hx := h x (List.mem_cons_self ..)
    have ih := fm_getD f L (fun y hy => h y (List.mem_cons_of_mem _ hy)) q t (by simpa using hq) ht
    rw [List.flatMap_cons]
    simp only [List.getD_eq_getElem?_getD] at ih ⊢
    rw [List.getElem?_append_right (by rw [hx, Nat.succ_mul]; omega), hx, show (q + 1) * b + t - b = q * b + t by rw [Nat.succ_mul]; omega, ih]
    rfl
theorem fm_len {b : Nat} (f : Nat → List Nat) : ∀ (L : List Nat), (∀ x, x ∈ L → (f x).length = b) → (L.flatMap f).length = L.length * b
  | [], _ => by simp
  | x :: L, h => by
    rw [List.flatMap_cons, List.length_append, h x (List.mem_cons_self ..), fm_len f L (fun y hy => h y (List.mem_cons_of_mem _ hy)), List.length_cons, Nat.succ_mul]
    omega
theorem ens_len (S : Nat → List Nat) (k : Nat) : (ens S (k + 1)).length = (ens S k).length * (S k).length := by
  rw [ens]
  exact fm_len _ _ (fun x _ => List.length_map ..)
theorem ens_at {S : Nat → List Nat} {k q t : Nat} (hq : q < (ens S k).length) (ht : t < (S k).length) : (ens S (k + 1)).getD (q * (S k).length + t) 0 = (ens S k).getD q 0 + (S k).getD t 0 * 8 ^ k := by
  rw [ens, fm_getD _ _ (fun x _ => List.length_map ..) q t hq ht]
  simp only [List.getD_eq_getElem?_getD, List.getElem?_map]
  rw [List.getElem?_eq_getElem ht]
  rfl
theorem getD_mem {L : List Nat} {i : Nat} (h : i < L.length) : L.getD i 0 ∈ L := by
  simp only [List.getD_eq_getElem?_getD]
  rw [List.getElem?_eq_getElem h]
  exact List.getElem_mem h
/-- how many of the list: by its places -/
theorem cnt_list (Q : Nat → Bool) : ∀ (L : List Nat), cnt (fun i => Q (L.getD i 0)) L.length = L.countP Q := by
  have h : ∀ (L : List Nat) (n : Nat), n ≤ L.length → cnt (fun i => Q (L.getD i 0)) n = (L.take n).countP Q := by
    intro L n
    induction n with
    | zero => intro _; simp [cnt]
    | succ n ih =>
      intro hn
      rw [cnt, ih (by omega), List.take_succ, List.countP_append, List.getElem?_eq_getElem (by omega)]
      simp only [List.getD_eq_getElem?_getD, List.getElem?_eq_getElem (show n < L.length by omega), Option.getD_some, Option.toList_some, List.countP_cons, List.countP_nil, Nat.zero_add]
  intro L
  rw [h L L.length (Nat.le_refl _), List.take_length]
theorem cnt_range (n k : Nat) (hn : 0 < n) (Q : Nat → Bool) : cnt (fun a => Q (stN n k a)) (n ^ k) = (ens (fun _ => List.range n) k).countP Q := by
  rw [← ens_range hn k, List.countP_map]
  have := cnt_list (Q ∘ stN n k) (List.range (n ^ k))
  rw [List.length_range] at this
  rw [← this]
  refine cnt_cong (fun i hi => ?_)
  simp only [List.getD_eq_getElem?_getD]
  rw [List.getElem?_eq_getElem (by rw [List.length_range]; exact hi), List.getElem_range]
  rfl
