/-! ===== hand in hand: rows of rooms, the best of them ===== -/
/-- rows of k rooms, by rooms -/
def rwL : Nat → List (List Nat)
  | 0 => [[]]
  | k + 1 => (List.range 5).flatMap (fun r => (rwL k).map (fun ds => r :: ds))
/-- the figures of a number to the base 5, the highest first -/
def fgL : Nat → Nat → List Nat
  | 0, _ => []
  | k + 1, v => v / 5 ^ k % 5 :: fgL k v
theorem fgL_len : ∀ k v, (fgL k v).length = k
  | 0, _ => rfl
  | k + 1, v => by rw [fgL, List.length_cons, fgL_len k v]
theorem fgL_low : ∀ (k m q r : Nat), k ≤ m → fgL k (q * 5 ^ m + r) = fgL k r
  | 0, _, _, _, _ => rfl
  | k + 1, m, q, r, h => by
    rw [fgL, fgL, fgL_low k m q r (by omega)]
    congr 1
    obtain ⟨d, rfl⟩ : ∃ d, m = k + 1 + d := ⟨m - k - 1, by omega⟩
    have e : q * 5 ^ (k + 1 + d) + r = 5 ^ k * (5 * (q * 5 ^ d)) + r := by
      rw [Nat.pow_add, Nat.pow_succ, show q * (5 ^ k * 5 * 5 ^ d) = 5 ^ k * (5 * (q * 5 ^ d)) by rw [Nat.mul_assoc, Nat.mul_left_comm q, Nat.mul_left_comm q]]
    rw [e, Nat.mul_add_div (Nat.pow_pos (by decide)), Nat.mul_add_mod]
theorem rw_range : ∀ k, (List.range (5 ^ k)).map (fgL k) = rwL k
  | 0 => rfl
  | k + 1 => by
    rw [Nat.pow_succ, Nat.mul_comm, range_mul, List.map_flatMap, rwL, ← rw_range k]
    refine flatMap_cong (fun q hq => ?_)
    rw [List.map_map, List.map_map]
    refine List.map_congr_left (fun r hr => ?_)
    have hq5 : q < 5 := List.mem_range.mp hq
    have hr5 : r < 5 ^ k := List.mem_range.mp hr
    show fgL (k + 1) (q * 5 ^ k + r) = q :: fgL k r
    rw [fgL, fgL_low k k q r (Nat.le_refl _), Nat.mul_comm q, Nat.mul_add_div (Nat.pow_pos (by decide)), Nat.div_eq_of_lt hr5, Nat.add_zero, Nat.mod_eq_of_lt hq5]
/-- what is picked up on a row -/
def wkO (D P : Nat → Nat) : Nat → Nat → Nat → List Nat → Option Nat
  | _, _, sum, [] => some sum
  | here, seen, sum, r :: ds => if (D here).testBit r = true then wkO D P r (seen ||| 2 ^ r) (sum + if seen.testBit r = true then 0 else P r) ds else none
abbrev RW : Type := Nat × List Nat
/-- all rows from a room on, as the search goes through them -/
def dfs (D P : Nat → Nat) (n : Nat) : Nat → Nat → List Nat → Nat → Nat → List RW
  | 0, _, _, _, _ => []
  | f + 1, room, pre, seen, bef => (bef + (if seen.testBit room = true then 0 else P room), pre ++ [room]) :: (List.range n).flatMap (fun r => if (D room).testBit r = true then dfs D P n f r (pre ++ [room]) (seen ||| 2 ^ room) (bef + (if seen.testBit room = true then 0 else P room)) else [])
/-- the better one -/
def upB : Option RW → RW → Option RW
  | none, x => some x
  | some b, x => if b.1 < x.1 ∨ (x.1 = b.1 ∧ x.2.length < b.2.length) then some x else some b
/-- the best of a list: the most, of like ones the shortest, of like ones the first -/
def isB (M : List RW) (r : RW) : Prop := (∀ y, y ∈ M → y.1 < r.1 ∨ (y.1 = r.1 ∧ r.2.length ≤ y.2.length)) ∧ (M.filter (fun y => y.2.length == r.2.length)).find? (fun y => y.1 == r.1) = some r
theorem isB_one (x : RW) : isB [x] x := by
  refine ⟨fun y hy => ?_, ?_⟩
  · rw [List.mem_singleton.mp hy]
    exact Or.inr ⟨rfl, Nat.le_refl _⟩
  · simp
theorem isB_step {M : List RW} {r : RW} (h : isB M r) (x : RW) : ∃ r2, upB (some r) x = some r2 ∧ isB (M ++ [x]) r2 := by
  obtain ⟨h1, h2⟩ := h
  unfold upB
  by_cases c : r.1 < x.1 ∨ (x.1 = r.1 ∧ x.2.length < r.2.length)
  · refine ⟨x, if_pos c, fun y hy => ?_, ?_⟩
    · rcases List.mem_append.mp hy with q | q
      · rcases h1 y q with a | ⟨a, b⟩
        · rcases c with c | c
          · exact Or.inl (by omega)
          · exact Or.inl (by omega)
        · rcases c with c | c
          · exact Or.inl (by omega)
          · exact Or.inr ⟨by omega, by omega⟩
      · rw [List.mem_singleton.mp q]
        exact Or.inr ⟨rfl, Nat.le_refl _⟩
    · rw [List.filter_append, List.find?_append]
      have e : (M.filter (fun y => y.2.length == x.2.length)).find? (fun y => y.1 == x.1) = none := by
        rw [List.find?_eq_none]
        intro y hy
        rw [List.mem_filter] at hy
        obtain ⟨y1, y2⟩ := hy
        have y3 : y.2.length = x.2.length := by simpa using y2
        rcases h1 y y1 with a | ⟨a, b⟩
        · rcases c with c | c
          · simp; omega
          · simp; omega
        · rcases c with c | c
          · simp; omega
          · omega
      rw [e]
      simp
  · refine ⟨r, if_neg c, fun y hy => ?_, ?_⟩
    · rcases List.mem_append.mp hy with q | q
      · exact h1 y q
      · rw [List.mem_singleton.mp q]
        rcases Nat.lt_trichotomy x.1 r.1 with a | a | a
        · exact Or.inl a
        · refine Or.inr ⟨a, ?_⟩
          rcases Nat.lt_or_ge x.2.length r.2.length with b | b
          · exact absurd (Or.inr ⟨a, b⟩) c
          · exact b
        · exact absurd (Or.inl a) c
    · rw [List.filter_append, List.find?_append, h2]
      rfl
theorem isB_fold : ∀ (M2 M1 : List RW) (r : RW), isB M1 r → ∃ r2, M2.foldl upB (some r) = some r2 ∧ isB (M1 ++ M2) r2
  | [], M1, r, h => ⟨r, rfl, by rw [List.append_nil]; exact h⟩
  | x :: M2, M1, r, h => by
    obtain ⟨r1, a, b⟩ := isB_step h x
    obtain ⟨r2, c, d⟩ := isB_fold M2 (M1 ++ [x]) r1 b
    refine ⟨r2, ?_, ?_⟩
    · rw [List.foldl_cons, a, c]
    · rw [List.append_assoc] at d
      exact d
theorem isB_all (x : RW) (M : List RW) : ∃ r, (x :: M).foldl upB none = some r ∧ isB (x :: M) r := by
  obtain ⟨r, a, b⟩ := isB_fold M [x] x (isB_one x)
  exact ⟨r, a, b⟩
theorem isB_uni {M N : List RW} {r q : RW} (hM : isB M r) (hN : isB N q) (h1 : ∀ y, y ∈ M → 1 ≤ y.2.length) (h2 : ∀ y, y ∈ N → 1 ≤ y.2.length) (h : ∀ k, M.filter (fun y => y.2.length == k + 1) = N.filter (fun y => y.2.length == k + 1)) : r = q := by
  have mem : ∀ {L : List RW} {z : RW}, isB L z → z ∈ L := fun {L z} hz => (List.mem_filter.mp (List.mem_of_find?_eq_some hz.2)).1
  have hr := mem hM
  have hq := mem hN
  have l1 := h1 r hr
  have l2 := h2 q hq
  have hr2 : r ∈ N := by
    have : r ∈ M.filter (fun y => y.2.length == r.2.length - 1 + 1) := List.mem_filter.mpr ⟨hr, by rw [beq_iff_eq]; omega⟩
    rw [h] at this
    exact (List.mem_filter.mp this).1
  have hq2 : q ∈ M := by
    have : q ∈ N.filter (fun y => y.2.length == q.2.length - 1 + 1) := List.mem_filter.mpr ⟨hq, by rw [beq_iff_eq]; omega⟩
    rw [← h] at this
    exact (List.mem_filter.mp this).1
  have a := hM.1 q hq2
  have b := hN.1 r hr2
  have e1 : r.1 = q.1 := by omega
  have e2 : r.2.length = q.2.length := by omega
  have c := hM.2
  have d := hN.2
  have hk := h (r.2.length - 1)
  rw [show r.2.length - 1 + 1 = r.2.length by omega] at hk
  rw [hk, e1, e2, d] at c
  exact (Option.some.inj c).symm
theorem dfs_len (D P : Nat → Nat) (n : Nat) : ∀ (f room : Nat) (pre : List Nat) (seen bef : Nat) (x : RW), x ∈ dfs D P n f room pre seen bef → pre.length + 1 ≤ x.2.length
  | 0, _, _, _, _, x, h => by cases h
  | f + 1, room, pre, seen, bef, x, h => by
    rw [dfs] at h
    rcases List.mem_cons.mp h with q | q
    · rw [q]
      simp
    · obtain ⟨r, -, q⟩ := List.mem_flatMap.mp q
      by_cases c : (D room).testBit r = true
      · rw [if_pos c] at q
        have := dfs_len D P n f r _ _ _ x q
        rw [List.length_append] at this
        simp at this
        omega
      · rw [if_neg c] at q
        cases q
theorem fmap_flat {α β γ : Type} {f : α → List β} {g : β → Option γ} : ∀ (L : List α), (L.flatMap f).filterMap g = L.flatMap (fun x => (f x).filterMap g)
  | [] => rfl
  | x :: L => by rw [List.flatMap_cons, List.filterMap_append, fmap_flat L, List.flatMap_cons]
theorem flat_nil {α β : Type} {f : α → List β} : ∀ {L : List α}, (∀ x, x ∈ L → f x = []) → L.flatMap f = []
  | [], _ => rfl
  | x :: L, h => by rw [List.flatMap_cons, h x (List.mem_cons_self ..), flat_nil (fun y hy => h y (List.mem_cons_of_mem _ hy)), List.nil_append]
theorem flat_5 {β : Type} {n : Nat} {f : Nat → List β} (hn : n ≤ 5) (h : ∀ r, n ≤ r → f r = []) : (List.range 5).flatMap f = (List.range n).flatMap f := by
  rw [show (5 : Nat) = n + (5 - n) by omega, List.range_add, List.flatMap_append]
  have : ((List.range (5 - n)).map (n + ·)).flatMap f = [] := by
    refine flat_nil (fun x hx => ?_)
    obtain ⟨y, -, rfl⟩ := List.mem_map.mp hx
    exact h _ (by omega)
  rw [this, List.append_nil]
theorem fm_none {α β : Type} : ∀ (L : List α), L.filterMap (fun _ => (none : Option β)) = []
  | [] => rfl
  | x :: L => by rw [List.filterMap_cons_none rfl, fm_none L]
/-- the rows of a search that have k steps more -/
theorem dfs_k {D P : Nat → Nat} {n : Nat} (hn : n ≤ 5) (hD : ∀ q, D q < 2 ^ n) : ∀ (f room : Nat) (pre : List Nat) (seen bef k : Nat), (dfs D P n f room pre seen bef).filter (fun y => y.2.length == pre.length + 1 + k) = if k < f then (rwL k).filterMap (fun ds => (wkO D P room (seen ||| 2 ^ room) (bef + (if seen.testBit room = true then 0 else P room)) ds).map (fun p => (p, pre ++ room :: ds))) else []
  | 0, room, pre, seen, bef, k => by rw [if_neg (by omega)]; rfl
  | f + 1, room, pre, seen, bef, 0 => by
    rw [if_pos (by omega), dfs, List.filter_cons_of_pos (by simp)]
    have : ((List.range n).flatMap (fun r => if (D room).testBit r = true then dfs D P n f r (pre ++ [room]) (seen ||| 2 ^ room) (bef + (if seen.testBit room = true then 0 else P room)) else [])).filter (fun y => y.2.length == pre.length + 1 + 0) = [] := by
      rw [List.filter_eq_nil_iff]
      intro y hy
      obtain ⟨r, -, q⟩ := List.mem_flatMap.mp hy
      by_cases c : (D room).testBit r = true
      · rw [if_pos c] at q
        have := dfs_len D P n f r _ _ _ y q
        rw [List.length_append] at this
        simp at this
        simp
        omega
      · rw [if_neg c] at q
        cases q
    rw [this]
    rfl
  | f + 1, room, pre, seen, bef, k + 1 => by
    rw [dfs, List.filter_cons_of_neg (by simp)]
    rw [List.filter_flatMap, rwL, fmap_flat]
    generalize bef + (if seen.testBit room = true then 0 else P room) = pk
    have hz : ∀ r, n ≤ r → (D room).testBit r = false := fun r hr => Nat.testBit_lt_two_pow (Nat.lt_of_lt_of_le (hD room) (Nat.pow_le_pow_right (by decide) hr))
    have key : ∀ r, (if (D room).testBit r = true then dfs D P n f r (pre ++ [room]) (seen ||| 2 ^ room) pk else []).filter (fun y => y.2.length == pre.length + 1 + (k + 1)) = if k < f then (((rwL k).map (fun ds => r :: ds)).filterMap (fun ds => (wkO D P room (seen ||| 2 ^ room) pk ds).map (fun p => (p, pre ++ room :: ds)))) else [] := by
      intro r
      rw [List.filterMap_map]
      by_cases c : (D room).testBit r = true
      · rw [if_pos c]
        have ih := dfs_k (P := P) hn hD f r (pre ++ [room]) (seen ||| 2 ^ room) pk k
        rw [show (pre ++ [room]).length + 1 + k = pre.length + 1 + (k + 1) by simp; omega] at ih
        rw [ih]
        congr 1
        congr 1
        funext ds
        show _ = (wkO D P room (seen ||| 2 ^ room) pk (r :: ds)).map (fun p => (p, pre ++ room :: (r :: ds)))
        rw [wkO, if_pos c, List.append_assoc]
        rfl
      · rw [if_neg c]
        have e : ((fun ds => (wkO D P room (seen ||| 2 ^ room) pk ds).map (fun p => (p, pre ++ room :: ds))) ∘ fun ds => r :: ds) = fun _ => none := by
          funext ds
          show (wkO D P room (seen ||| 2 ^ room) pk (r :: ds)).map (fun p => (p, pre ++ room :: (r :: ds))) = none
          rw [wkO, if_neg c]
          rfl
        rw [e, fm_none]
        simp
    by_cases hk : k < f
    · rw [if_pos (by omega), flat_5 hn]
      · refine flatMap_cong (fun r _ => ?_)
        rw [key, if_pos hk]
      · intro r hr
        have := key r
        rw [if_neg (by rw [hz r hr]; decide), if_pos hk] at this
        exact this.symm
    · rw [if_neg (by omega)]
      refine flat_nil (fun r _ => ?_)
      rw [key, if_neg hk]
/-- the rows of k steps -/
def kth (D P : Nat → Nat) (r0 k : Nat) : List RW := (rwL k).filterMap (fun ds => (wkO D P r0 (2 ^ r0) (P r0) ds).map (fun p => (p, r0 :: ds)))
theorem rwL_len : ∀ k ds, ds ∈ rwL k → ds.length = k
  | 0, ds, h => by rw [List.mem_singleton.mp h]; rfl
  | k + 1, ds, h => by
    rw [rwL] at h
    obtain ⟨r, -, q⟩ := List.mem_flatMap.mp h
    obtain ⟨d2, q2, rfl⟩ := List.mem_map.mp q
    rw [List.length_cons, rwL_len k d2 q2]
theorem kth_len {D P : Nat → Nat} {r0 k : Nat} {x : RW} (h : x ∈ kth D P r0 k) : x.2.length = k + 1 := by
  unfold kth at h
  obtain ⟨ds, h1, h2⟩ := List.mem_filterMap.mp h
  obtain ⟨p, -, rfl⟩ := Option.map_eq_some_iff.mp h2
  show (r0 :: ds).length = k + 1
  rw [List.length_cons, rwL_len k ds h1]
/-- the rows of at most l steps, the short ones first -/
def bfL (D P : Nat → Nat) (r0 l : Nat) : List RW := (List.range l).flatMap (kth D P r0)
theorem bfL_k {D P : Nat → Nat} {r0 : Nat} : ∀ l k, (bfL D P r0 l).filter (fun y => y.2.length == k + 1) = if k < l then kth D P r0 k else []
  | 0, k => by rw [if_neg (by omega)]; rfl
  | l + 1, k => by
    have ih := bfL_k (D := D) (P := P) (r0 := r0) l k
    unfold bfL at ih ⊢
    rw [List.range_succ, List.flatMap_append, List.filter_append, ih, List.flatMap_cons, List.flatMap_nil, List.append_nil]
    by_cases e : k = l
    · subst e
      rw [if_neg (by omega), if_pos (by omega), List.nil_append, List.filter_eq_self]
      intro y hy
      rw [beq_iff_eq]
      exact kth_len hy
    · have : (kth D P r0 l).filter (fun y => y.2.length == k + 1) = [] := by
        rw [List.filter_eq_nil_iff]
        intro y hy
        rw [beq_iff_eq, kth_len hy]
        omega
      rw [this, List.append_nil]
      by_cases c : k < l
      · rw [if_pos c, if_pos (by omega)]
      · rw [if_neg c, if_neg (by omega)]
theorem bfL_len {D P : Nat → Nat} {r0 l : Nat} {x : RW} (h : x ∈ bfL D P r0 l) : 1 ≤ x.2.length ∧ x.2.length ≤ l := by
  unfold bfL at h
  obtain ⟨k, h1, h2⟩ := List.mem_flatMap.mp h
  rw [kth_len h2]
  have := List.mem_range.mp h1
  omega
theorem bfL_pos (D P : Nat → Nat) (r0 l : Nat) : ∃ x M, bfL D P r0 (l + 1) = x :: M := by
  unfold bfL
  rw [List.range_succ_eq_map, List.flatMap_cons]
  exact ⟨(P r0, [r0]), _, rfl⟩
/-- both find the same row -/
theorem best_eq {D P : Nat → Nat} {n r0 l : Nat} (hn : n ≤ 5) (hD : ∀ q, D q < 2 ^ n) : (dfs D P n (l + 1) r0 [] 0 0).foldl upB none = (bfL D P r0 (l + 1)).foldl upB none := by
  have e : dfs D P n (l + 1) r0 [] 0 0 = (0 + (if Nat.testBit 0 r0 = true then 0 else P r0), [] ++ [r0]) :: (List.range n).flatMap (fun r => if (D r0).testBit r = true then dfs D P n l r ([] ++ [r0]) (0 ||| 2 ^ r0) (0 + (if Nat.testBit 0 r0 = true then 0 else P r0)) else []) := by rw [dfs]
  obtain ⟨x, M, e2⟩ := bfL_pos D P r0 l
  obtain ⟨r, a1, a2⟩ := isB_all (0 + (if Nat.testBit 0 r0 = true then 0 else P r0), [] ++ [r0]) ((List.range n).flatMap (fun r => if (D r0).testBit r = true then dfs D P n l r ([] ++ [r0]) (0 ||| 2 ^ r0) (0 + (if Nat.testBit 0 r0 = true then 0 else P r0)) else []))
  obtain ⟨q, b1, b2⟩ := isB_all x M
  rw [← e] at a1 a2
  rw [← e2] at b1 b2
  rw [a1, b1]
  congr 1
  refine isB_uni a2 b2 (fun y hy => ?_) (fun y hy => (bfL_len hy).1) (fun k => ?_)
  · have := dfs_len D P n _ _ _ _ _ y hy
    omega
  · have h := dfs_k (P := P) hn hD (l + 1) r0 [] 0 0 k
    rw [show ([] : List Nat).length + 1 + k = k + 1 by simp; omega] at h
    rw [h, bfL_k]
    by_cases c : k < l + 1
    · rw [if_pos c, if_pos c]
      unfold kth
      congr 1
      funext ds
      rw [Nat.zero_testBit, if_neg (by decide), Nat.zero_add, Nat.zero_or]
      rfl
    · rw [if_neg c, if_neg c]
