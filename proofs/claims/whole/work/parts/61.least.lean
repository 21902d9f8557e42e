/-! ===== the least laid: values over all standings, and the rooms from which wishes can be kept ===== -/
abbrev NV : Nat := 268435456
theorem takeS {L : List Nat} {i : Nat} (h : i < L.length) : L.take (i + 1) = L.take i ++ [L.getD i 0] := by
  rw [List.take_succ, List.getElem?_eq_getElem h, List.getD_eq_getElem?_getD, List.getElem?_eq_getElem h]
  rfl
/-- the least of values over a list -/
def mnS (f : Nat → Nat) (v t : Nat) : Nat := if f t < v then f t else v
def minL (f : Nat → Nat) (L : List Nat) : Nat := L.foldl (mnS f) NV
theorem mnS_le (f : Nat → Nat) : ∀ (L : List Nat) (v : Nat), L.foldl (mnS f) v ≤ v ∧ (∀ t, t ∈ L → L.foldl (mnS f) v ≤ f t) ∧ (L.foldl (mnS f) v = v ∨ ∃ t, t ∈ L ∧ L.foldl (mnS f) v = f t)
  | [], v => ⟨Nat.le_refl _, fun t h => (by cases h), Or.inl rfl⟩
  | x :: L, v => by
    obtain ⟨a, b, c⟩ := mnS_le f L (mnS f v x)
    have h1 : mnS f v x ≤ v ∧ mnS f v x ≤ f x ∧ (mnS f v x = v ∨ mnS f v x = f x) := by
      unfold mnS
      split
      · exact ⟨by omega, by omega, Or.inr rfl⟩
      · exact ⟨by omega, by omega, Or.inl rfl⟩
    rw [List.foldl_cons]
    refine ⟨by omega, fun t ht => ?_, ?_⟩
    · rcases List.mem_cons.mp ht with q | q
      · rw [q]; omega
      · exact b t q
    · rcases c with c | ⟨t, c1, c2⟩
      · rcases h1.2.2 with q | q
        · exact Or.inl (by omega)
        · exact Or.inr ⟨x, List.mem_cons_self .., by omega⟩
      · exact Or.inr ⟨t, List.mem_cons_of_mem _ c1, c2⟩
theorem minL_le {f : Nat → Nat} {L : List Nat} {t : Nat} (h : t ∈ L) : minL f L ≤ f t := (mnS_le f L NV).2.1 t h
theorem minL_NV (f : Nat → Nat) (L : List Nat) : minL f L ≤ NV := (mnS_le f L NV).1
theorem minL_at {f : Nat → Nat} {L : List Nat} (h : minL f L ≠ NV) : ∃ t, t ∈ L ∧ minL f L = f t := by
  rcases (mnS_le f L NV).2.2 with q | q
  · exact absurd q h
  · exact q
/-- the first that is least -/
def bst (f : Nat → Nat) : Option Nat → Nat → Option Nat
  | none, t => some t
  | some u, t => if f t < f u then some t else some u
theorem bst_fold {f : Nat → Nat} : ∀ (L M : List Nat) (u : Nat), u ∈ M → (∀ y, y ∈ M → f u ≤ f y) → M.find? (fun y => f y == f u) = some u → ∃ v, L.foldl (bst f) (some u) = some v ∧ v ∈ M ++ L ∧ (∀ y, y ∈ M ++ L → f v ≤ f y) ∧ (M ++ L).find? (fun y => f y == f v) = some v
  | [], M, u, h1, h2, h3 => ⟨u, rfl, by rw [List.append_nil]; exact h1, by rw [List.append_nil]; exact h2, by rw [List.append_nil]; exact h3⟩
  | x :: L, M, u, h1, h2, h3 => by
    have e : M ++ x :: L = (M ++ [x]) ++ L := by simp
    rw [e, List.foldl_cons]
    show ∃ v, L.foldl (bst f) (if f x < f u then some x else some u) = some v ∧ _
    by_cases c : f x < f u
    · rw [if_pos c]
      refine bst_fold L (M ++ [x]) x (by simp) (fun y hy => ?_) ?_
      · rcases List.mem_append.mp hy with q | q
        · have := h2 y q; omega
        · rw [List.mem_singleton.mp q]; exact Nat.le_refl _
      · rw [List.find?_append]
        have : M.find? (fun y => f y == f x) = none := by
          rw [List.find?_eq_none]
          intro y hy
          have := h2 y hy
          rw [beq_iff_eq]
          omega
        rw [this]
        simp
    · rw [if_neg c]
      refine bst_fold L (M ++ [x]) u (List.mem_append_left _ h1) (fun y hy => ?_) ?_
      · rcases List.mem_append.mp hy with q | q
        · exact h2 y q
        · rw [List.mem_singleton.mp q]; omega
      · rw [List.find?_append, h3]
        rfl
theorem bst_all {f : Nat → Nat} {L : List Nat} (h : L ≠ []) : ∃ v, L.foldl (bst f) none = some v ∧ v ∈ L ∧ (∀ y, y ∈ L → f v ≤ f y) ∧ L.find? (fun y => f y == f v) = some v := by
  cases L with
  | nil => exact absurd rfl h
  | cons x L => exact bst_fold L [x] x (by simp) (fun y hy => by rw [List.mem_singleton.mp hy]; exact Nat.le_refl _) (by simp)
theorem bst_stop {f : Nat → Nat} {u lb : Nat} (hu : f u ≤ lb) : ∀ (L : List Nat), (∀ y, y ∈ L → lb ≤ f y) → L.foldl (bst f) (some u) = some u
  | [], _ => rfl
  | x :: L, h => by
    have := h x (List.mem_cons_self ..)
    rw [List.foldl_cons]
    show L.foldl (bst f) (if f x < f u then some x else some u) = some u
    rw [if_neg (by omega)]
    exact bst_stop hu L (fun y hy => h y (List.mem_cons_of_mem _ hy))
theorem bst_mem {f : Nat → Nat} : ∀ (L : List Nat) (o : Option Nat) (u : Nat), L.foldl (bst f) o = some u → u ∈ L ∨ o = some u
  | [], o, u, h => Or.inr h
  | x :: L, o, u, h => by
    rw [List.foldl_cons] at h
    rcases bst_mem L _ u h with q | q
    · exact Or.inl (List.mem_cons_of_mem _ q)
    · cases o with
      | none => cases q; exact Or.inl (List.mem_cons_self ..)
      | some w =>
        by_cases c : f x < f w
        · rw [show bst f (some w) x = some x from if_pos c] at q
          cases q; exact Or.inl (List.mem_cons_self ..)
        · rw [show bst f (some w) x = some w from if_neg c] at q
          exact Or.inr q
/-- an evening's step: what is laid and what is laid behind it -/
def byN : Option Nat → Nat → Nat
  | none, _ => NV
  | some c, v => if v = NV then NV else v + c
/-- the least from a standing on, so many beats left -/
def UV (L : List Nat) (ec : Nat → Nat → Nat → Option Nat) (h : Nat) : Nat → Nat → Nat
  | 0, _ => 0
  | r + 1, s => minL (fun t => byN (ec (h - r) s t) (UV L ec h r t)) L
theorem UV_le {L : List Nat} {ec : Nat → Nat → Nat → Option Nat} {h : Nat} (hc : ∀ k s t c, ec k s t = some c → c ≤ 4) : ∀ r s, UV L ec h r s = NV ∨ UV L ec h r s ≤ 4 * r
  | 0, s => Or.inr (Nat.le_refl _)
  | r + 1, s => by
    by_cases e : UV L ec h (r + 1) s = NV
    · exact Or.inl e
    · right
      obtain ⟨t, h1, h2⟩ := minL_at (f := fun t => byN (ec (h - r) s t) (UV L ec h r t)) (L := L) e
      have e2 : UV L ec h (r + 1) s = byN (ec (h - r) s t) (UV L ec h r t) := h2
      rw [e2] at e ⊢
      cases h3 : ec (h - r) s t with
      | none => rw [h3] at e; exact absurd rfl e
      | some c =>
        rw [h3] at e
        have h4 := hc _ _ _ _ h3
        show (if UV L ec h r t = NV then NV else UV L ec h r t + c) ≤ 4 * (r + 1)
        have e' : ¬ (if UV L ec h r t = NV then NV else UV L ec h r t + c) = NV := e
        by_cases q : UV L ec h r t = NV
        · rw [if_pos q] at e'; exact absurd rfl e'
        · rw [if_neg q]
          rcases UV_le hc r t with q2 | q2
          · exact absurd q2 q
          · omega
/-- one's wish is kept -/
def wq (o : Option Nat) (q : Nat) : Bool := o == none || o == some q
def okW (np : Nat) (wf : Nat → Nat → Option Nat) (k t : Nat) : Bool := allB (fun p => wq (wf p k) (dg t p)) np
def ecH (np ct law B : Nat) (D : Nat → Nat) (wf : Nat → Nat → Option Nat) (k s t : Nat) : Option Nat := if (allB (goP D s t) np && okW np wf k t) = true then some (cnt (layB np ct law (B + k) s t) np) else none
theorem ecH_le {np ct law B : Nat} {D : Nat → Nat} {wf : Nat → Nat → Option Nat} (h : np ≤ 4) : ∀ k s t c, ecH np ct law B D wf k s t = some c → c ≤ 4 := fun k s t c hc => by
  unfold ecH at hc
  split at hc
  · have := cnt_le (layB np ct law (B + k) s t) np
    cases hc
    omega
  · cases hc
/-- the rooms from which one's later wishes can be kept, so many beats left -/
def kpR (n : Nat) (D : Nat → Nat) (wf : Nat → Nat → Option Nat) (h p : Nat) : Nat → Nat
  | 0 => pyb (fun q => wq (wf p h) q) n
  | r + 1 => pyb (fun q => decide ((D q ||| 2 ^ q) &&& kpR n D wf h p r ≠ 0) && wq (wf p (h - (r + 1))) q) n
theorem kpR_lt (n : Nat) (D : Nat → Nat) (wf : Nat → Nat → Option Nat) (h p : Nat) : ∀ r, kpR n D wf h p r < 2 ^ n
  | 0 => pyb_lt _ _
  | _ + 1 => pyb_lt _ _
def kpA (n np : Nat) (D : Nat → Nat) (wf : Nat → Nat → Option Nat) (h r t : Nat) : Bool := allB (fun p => (kpR n D wf h p r).testBit (dg t p)) np
theorem bl_pos : ∀ m, m < 32 → m ≠ 0 → 0 < (bl m).length := by decide +kernel
theorem enW_pos {m : Nat → Nat} : ∀ {k : Nat}, (∀ p, p < k → m p < 32 ∧ m p ≠ 0) → 0 < (enW m k).length
  | 0, _ => Nat.one_pos
  | k + 1, h => by
    rw [enW_len]
    exact Nat.mul_pos (enW_pos (fun p hp => h p (by omega))) (bl_pos _ (h k (by omega)).1 (h k (by omega)).2)
/-- the masks of a step to rooms from which wishes can be kept -/
def mkK (n : Nat) (D : Nat → Nat) (wf : Nat → Nat → Option Nat) (h r s p : Nat) : Nat := (D (dg s p) ||| 2 ^ dg s p) &&& kpR n D wf h p r
theorem mkK_lt {n : Nat} {D : Nat → Nat} {wf : Nat → Nat → Option Nat} {h r s p : Nat} : mkK n D wf h r s p < 2 ^ n := Nat.lt_of_le_of_lt Nat.and_le_right (kpR_lt ..)
theorem mkK_fil {n np : Nat} {D : Nat → Nat} {wf : Nat → Nat → Option Nat} {h r s : Nat} (hn : n ≤ 5) : enW (mkK n D wf h r s) np = (enA n np).filter (fun t => allB (goP D s t) np && kpA n np D wf h r t) := by
  rw [enW_fil hn (fun p _ => mkK_lt)]
  refine List.filter_congr (fun t _ => ?_)
  have e : ∀ p, (mkK n D wf h r s p).testBit (dg t p) = (goP D s t p && (kpR n D wf h p r).testBit (dg t p)) := fun p => by
    unfold mkK
    rw [Nat.testBit_and]
    rfl
  unfold kpA
  have : ∀ k, allB (fun p => (mkK n D wf h r s p).testBit (dg t p)) k = (allB (goP D s t) k && allB (fun p => (kpR n D wf h p r).testBit (dg t p)) k) := by
    intro k
    induction k with
    | zero => rfl
    | succ k ih =>
      rw [allB, allB, allB, ih, e]
      cases allB (goP D s t) k <;> cases goP D s t k <;> cases allB (fun p => (kpR n D wf h p r).testBit (dg t p)) k <;> rfl
  exact this np
/-- wishes can be kept from a standing just where each one's can -/
theorem feas {n np ct law B : Nat} {D : Nat → Nat} {wf : Nat → Nat → Option Nat} {h : Nat} (hn : n ≤ 5) (hnp : np ≤ 4) (hh : h ≤ 4) : ∀ r, r ≤ h → ∀ t, t ∈ enA n np → (okW np wf (h - r) t && decide (UV (enA n np) (ecH np ct law B D wf) h r t ≠ NV)) = kpA n np D wf h r t
  | 0, _, t, ht => by
    have hd := (enA_wv hn ht).2
    rw [show UV (enA n np) (ecH np ct law B D wf) h 0 t = 0 from rfl, decide_eq_true (by decide), Bool.and_true, Nat.sub_zero]
    unfold okW kpA
    refine allB_cong (fun p hp => ?_)
    rw [kpR, pyb_bit, decide_eq_true (hd p hp), Bool.true_and]
  | r + 1, hr, t, ht => by
    have hd := (enA_wv hn ht).2
    have h32 := pow_le32 hn
    have ih := feas (ct := ct) (law := law) (B := B) (D := D) (wf := wf) (h := h) hn hnp hh r (by omega)
    have hU : (decide (UV (enA n np) (ecH np ct law B D wf) h (r + 1) t ≠ NV)) = allB (fun p => decide (mkK n D wf h r t p ≠ 0)) np := by
      rw [Bool.eq_iff_iff, decide_eq_true_iff, allB_iff]
      constructor
      · intro hne p hp
        obtain ⟨u, u1, u2⟩ := minL_at (f := fun u => byN (ecH np ct law B D wf (h - r) t u) (UV (enA n np) (ecH np ct law B D wf) h r u)) (L := enA n np) hne
        have hne2 : byN (ecH np ct law B D wf (h - r) t u) (UV (enA n np) (ecH np ct law B D wf) h r u) ≠ NV := fun q => hne (u2.trans q)
        by_cases c : (allB (goP D t u) np && okW np wf (h - r) u) = true
        · have e : ecH np ct law B D wf (h - r) t u = some (cnt (layB np ct law (B + (h - r)) t u) np) := if_pos c
          rw [e] at hne2
          have hne3 : UV (enA n np) (ecH np ct law B D wf) h r u ≠ NV := fun q => hne2 (if_pos q)
          rw [Bool.and_eq_true] at c
          have hk : kpA n np D wf h r u = true := by
            rw [← ih u u1, c.2, decide_eq_true hne3]
            rfl
          have g1 := allB_iff.mp c.1 p hp
          have g2 := allB_iff.mp hk p hp
          rw [decide_eq_true_iff]
          intro q
          have g3 : (mkK n D wf h r t p).testBit (dg u p) = true := by
            unfold mkK
            rw [Nat.testBit_and, g2, Bool.and_true]
            exact g1
          rw [q, Nat.zero_testBit] at g3
          cases g3
        · have e : ecH np ct law B D wf (h - r) t u = none := if_neg c
          rw [e] at hne2
          exact absurd rfl hne2
      · intro hall
        have hp0 : 0 < (enW (mkK n D wf h r t) np).length := enW_pos (fun p hp => ⟨by have := mkK_lt (n := n) (D := D) (wf := wf) (h := h) (r := r) (s := t) (p := p); omega, of_decide_eq_true (hall p hp)⟩)
        rw [mkK_fil hn] at hp0
        obtain ⟨u, hu⟩ := List.exists_mem_of_length_pos hp0
        rw [List.mem_filter, Bool.and_eq_true] at hu
        obtain ⟨u1, u2, u3⟩ := hu
        have hi := ih u u1
        rw [u3, Bool.and_eq_true, decide_eq_true_iff] at hi
        have e : ecH np ct law B D wf (h - r) t u = some (cnt (layB np ct law (B + (h - r)) t u) np) := if_pos (by rw [u2, hi.1]; rfl)
        have hle := minL_le (f := fun u => byN (ecH np ct law B D wf (h - r) t u) (UV (enA n np) (ecH np ct law B D wf) h r u)) u1
        have hval : byN (ecH np ct law B D wf (h - r) t u) (UV (enA n np) (ecH np ct law B D wf) h r u) = UV (enA n np) (ecH np ct law B D wf) h r u + cnt (layB np ct law (B + (h - r)) t u) np := by
          rw [e]
          exact if_neg hi.2
        have hc4 := cnt_le (layB np ct law (B + (h - r)) t u) np
        have hb := UV_le (L := enA n np) (h := h) (ecH_le (ct := ct) (law := law) (B := B) (D := D) (wf := wf) hnp) r u
        intro q
        have q2 : minL (fun u => byN (ecH np ct law B D wf (h - r) t u) (UV (enA n np) (ecH np ct law B D wf) h r u)) (enA n np) = NV := q
        rw [q2] at hle
        rw [hval] at hle
        have hNV : NV = 268435456 := rfl
        rcases hb with hb | hb
        · exact hi.2 hb
        · omega
    rw [hU]
    unfold okW kpA
    have : ∀ k, k ≤ np → (allB (fun p => wq (wf p (h - (r + 1))) (dg t p)) k && allB (fun p => decide (mkK n D wf h r t p ≠ 0)) k) = allB (fun p => (kpR n D wf h p (r + 1)).testBit (dg t p)) k := by
      intro k
      induction k with
      | zero => intro _; rfl
      | succ k ihk =>
        intro hk
        rw [allB, allB, allB, ← ihk (by omega), kpR, pyb_bit, decide_eq_true (hd k (by omega)), Bool.true_and]
        unfold mkK
        cases allB (fun p => wq (wf p (h - (r + 1))) (dg t p)) k <;> cases wq (wf k (h - (r + 1))) (dg t k) <;> cases allB (fun p => decide ((D (dg t p) ||| 2 ^ dg t p) &&& kpR n D wf h p r ≠ 0)) k <;> simp
    exact this np (Nat.le_refl _)
