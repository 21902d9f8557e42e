/-! ===== in breadth: what is reached, and in how many beats ===== -/
/-- reached in just so many steps -/
def REd (L : List Nat) (E : Nat → Nat → Nat → Bool) (w : Nat) : Nat → Nat → Prop
  | 0, s => s = w
  | d + 1, t => t ∈ L ∧ ∃ s, REd L E w d s ∧ E d s t = true
theorem REd_mem {L : List Nat} {E : Nat → Nat → Nat → Bool} {w : Nat} (hw : w ∈ L) : ∀ {d s : Nat}, REd L E w d s → s ∈ L
  | 0, s, h => by rw [show s = w from h]; exact hw
  | d + 1, s, h => h.1
/-- a row of what is reached: standings a, steps d, N of them -/
def BB (L : List Nat) (E : Nat → Nat → Nat → Bool) (w : Nat) (sd a d : Nat → Nat) (N : Nat) : Prop :=
  a 0 = w ∧ d 0 = 0 ∧ 0 < N ∧ (∀ j, j < N → REd L E w (d j) (a j)) ∧ (∀ j k, j ≤ k → k < N → d j ≤ d k) ∧ (∀ j k, j < k → k < N → a j = a k → sd (d j) = sd (d k) → False) ∧ ∀ j, j < N → d j ≤ j
/-- whether it is in the row -/
def mkd (sd a d : Nat → Nat) (N t y : Nat) : Prop := ∃ k, k < N ∧ a k = t ∧ sd (d k) = y
/-- those ahead of i are through -/
def BC (L : List Nat) (E : Nat → Nat → Nat → Bool) (sd a d : Nat → Nat) (N lim i : Nat) : Prop := ∀ j, j < i → d j + 1 ≤ lim → ∀ t, t ∈ L → E (d j) (a j) t = true → ∃ k, k < N ∧ a k = t ∧ sd (d k) = sd (d j + 1) ∧ d k ≤ d j + 1
theorem BB.first {L : List Nat} {E : Nat → Nat → Nat → Bool} {w : Nat} (sd : Nat → Nat) : BB L E w sd (fun _ => w) (fun _ => 0) 1 := ⟨rfl, rfl, Nat.one_pos, fun j hj => rfl, fun _ _ _ _ => Nat.le_refl _, fun j k h1 h2 => by omega, fun j _ => Nat.zero_le j⟩
theorem BB.push {L : List Nat} {E : Nat → Nat → Nat → Bool} {w : Nat} {sd a d : Nat → Nat} {N i t : Nat} (h : BB L E w sd a d N) (hi : i < N) (hu : ∀ k, k < N → d k ≤ d i + 1) (ht : t ∈ L) (hE : E (d i) (a i) t = true) (hm : ¬ mkd sd a d N t (sd (d i + 1))) : BB L E w sd (updN a N t) (updN d N (d i + 1)) (N + 1) := by
  obtain ⟨a1, a2, a3, a4, a5, a6, a7⟩ := h
  refine ⟨by rw [updN_n (by omega)]; exact a1, by rw [updN_n (by omega)]; exact a2, by omega, fun j hj => ?_, fun j k h1 h2 => ?_, fun j k h1 h2 e1 e2 => ?_, fun j hj => ?_⟩
  · by_cases e : j = N
    · rw [e, updN_s, updN_s]
      exact ⟨ht, a i, a4 i hi, hE⟩
    · rw [updN_n e, updN_n e]; exact a4 j (by omega)
  · by_cases e : k = N
    · rw [e, updN_s]
      by_cases e2 : j = N
      · rw [e2, updN_s]; exact Nat.le_refl _
      · rw [updN_n e2]; exact hu j (by omega)
    · rw [updN_n e, updN_n (by omega)]; exact a5 j k h1 (by omega)
  · rw [updN_n (show j ≠ N by omega)] at e1
    rw [updN_n (show j ≠ N by omega)] at e2
    by_cases e : k = N
    · rw [e, updN_s] at e1 e2
      exact hm ⟨j, by omega, e1, e2⟩
    · rw [updN_n e] at e1 e2
      exact a6 j k h1 (by omega) e1 e2
  · by_cases e : j = N
    · rw [e, updN_s]; have := a7 i hi; omega
    · rw [updN_n e]; exact a7 j (by omega)
theorem BU.push {d : Nat → Nat} {N i x : Nat} (hi : i < N) (hu : ∀ k, k < N → d k ≤ d i + 1) (hx : x ≤ d i + 1) : ∀ k, k < N + 1 → updN d N x k ≤ updN d N x i + 1 := fun k hk => by
  rw [updN_n (show i ≠ N by omega)]
  by_cases e : k = N
  · rw [e, updN_s]; exact hx
  · rw [updN_n e]; exact hu k (by omega)
theorem BC.push {L : List Nat} {E : Nat → Nat → Nat → Bool} {sd a d : Nat → Nat} {N lim i t x : Nat} (h : BC L E sd a d N lim i) (hi : i ≤ N) : BC L E sd (updN a N t) (updN d N x) (N + 1) lim i := fun j hj h1 u hu hE => by
  rw [updN_n (show j ≠ N by omega)] at h1 hE ⊢
  rw [updN_n (show j ≠ N by omega)] at hE
  obtain ⟨k, k1, k2, k3, k4⟩ := h j hj h1 u hu hE
  exact ⟨k, by omega, by rw [updN_n (by omega)]; exact k2, by rw [updN_n (by omega)]; exact k3, by rw [updN_n (by omega)]; exact k4⟩
/-- what is reached in k steps is in the row, or comes behind what is looked at -/
theorem BB.gen {L : List Nat} {E : Nat → Nat → Nat → Bool} {w : Nat} {sd a d : Nat → Nat} {N lim i : Nat} (h : BB L E w sd a d N) (hc : BC L E sd a d N lim i) (hs : ∀ x y s t, sd x = sd y → E x s t = E y s t) (hs1 : ∀ x y, sd x = sd y → sd (x + 1) = sd (y + 1)) : ∀ k, k ≤ lim → ∀ t, REd L E w k t → (∃ j, j < N ∧ a j = t ∧ d j ≤ k ∧ sd (d j) = sd k) ∨ (i < N ∧ d i < k)
  | 0, _, t, ht => by
    obtain ⟨a1, a2, a3, -⟩ := h
    exact Or.inl ⟨0, a3, by rw [a1]; exact (show t = w from ht).symm, by omega, by rw [a2]⟩
  | k + 1, hk, t, ht => by
    obtain ⟨ht1, s, hs0, hE⟩ := ht
    rcases BB.gen h hc hs hs1 k (by omega) s hs0 with ⟨j, j1, j2, j3, j4⟩ | ⟨q1, q2⟩
    · by_cases c : j < i
      · obtain ⟨u, u1, u2, u3, u4⟩ := hc j c (by omega) t ht1 (by rw [j2, hs _ _ _ _ j4]; exact hE)
        exact Or.inl ⟨u, u1, u2, by omega, by rw [u3]; exact hs1 _ _ j4⟩
      · have := h.2.2.2.2.1 i j (by omega) j1
        exact Or.inr ⟨by omega, by omega⟩
    · exact Or.inr ⟨q1, by omega⟩
theorem nodup_len {α : Type} [BEq α] [LawfulBEq α] : ∀ (L M : List α), L.Nodup → (∀ x, x ∈ L → x ∈ M) → L.length ≤ M.length
  | [], _, _, _ => Nat.zero_le _
  | x :: L, M, h1, h2 => by
    have hx := h2 x (List.mem_cons_self ..)
    have h3 := List.nodup_cons.mp h1
    have := nodup_len L (M.erase x) h3.2 (fun y hy => (List.mem_erase_of_ne (fun e => h3.1 (by rw [← e]; exact hy))).mpr (h2 y (List.mem_cons_of_mem _ hy)))
    rw [List.length_erase_of_mem hx] at this
    have hp := List.length_pos_of_mem hx
    rw [List.length_cons]
    omega
theorem nodup_map {f : Nat → Nat} : ∀ (N : Nat), (∀ j k, j < k → k < N → f j = f k → False) → ((List.range N).map f).Nodup
  | 0, _ => List.nodup_nil
  | N + 1, h => by
    rw [List.range_succ, List.map_append, List.map_cons, List.map_nil, List.nodup_append]
    refine ⟨nodup_map N (fun j k h1 h2 => h j k h1 (by omega)), by simp, fun x hx y hy e => ?_⟩
    obtain ⟨j, hj, rfl⟩ := List.mem_map.mp hx
    rw [List.mem_singleton.mp hy] at e
    exact h j N (List.mem_range.mp hj) (by omega) e
theorem two_len : ∀ (L : List Nat), (L.flatMap (fun s => [2 * s, 2 * s + 1])).length = 2 * L.length
  | [] => rfl
  | x :: L => by
    rw [List.flatMap_cons, List.length_append, two_len L, List.length_cons]
    simp
    omega
/-- the row is no longer than twice the standings -/
theorem BB.len {L : List Nat} {E : Nat → Nat → Nat → Bool} {w : Nat} {sd a d : Nat → Nat} {N : Nat} (h : BB L E w sd a d N) (hw : w ∈ L) (hsd : ∀ x, sd x < 2) : N ≤ 2 * L.length := by
  have h1 : ((List.range N).map (fun j => 2 * a j + sd (d j))).Nodup := nodup_map N (fun j k h1 h2 e => by
    have := hsd (d j)
    have := hsd (d k)
    exact h.2.2.2.2.2.1 j k h1 h2 (by omega) (by omega))
  have h2 := nodup_len _ (L.flatMap (fun s => [2 * s, 2 * s + 1])) h1 (fun x hx => by
    obtain ⟨j, hj, rfl⟩ := List.mem_map.mp hx
    have := REd_mem hw (h.2.2.2.1 j (List.mem_range.mp hj))
    refine List.mem_flatMap.mpr ⟨a j, this, ?_⟩
    have := hsd (d j)
    rcases (show sd (d j) = 0 ∨ sd (d j) = 1 by omega) with e | e <;> rw [e] <;> simp)
  rw [two_len, List.length_map, List.length_range] at h2
  exact h2
/-- the fewest steps to a goal, at most so many -/
def FW (L : List Nat) (E : Nat → Nat → Nat → Bool) (w g : Nat) (v : Int32) : Prop := (∃ d, d ≤ 999 ∧ v = nI d ∧ REd L E w d g ∧ ∀ k, k < d → ¬ REd L E w k g) ∨ (v = -1 ∧ ∀ k, k ≤ 999 → ¬ REd L E w k g)
theorem FW.uni {L : List Nat} {E : Nat → Nat → Nat → Bool} {w g : Nat} {v u : Int32} (h1 : FW L E w g v) (h2 : FW L E w g u) : v = u := by
  rcases h1 with ⟨d, a1, a2, a3, a4⟩ | ⟨a1, a2⟩
  · rcases h2 with ⟨e, b1, b2, b3, b4⟩ | ⟨b1, b2⟩
    · have : d = e := by
        rcases Nat.lt_trichotomy d e with q | q | q
        · exact absurd a3 (b4 d q)
        · exact q
        · exact absurd b3 (a4 e q)
      rw [a2, b2, this]
    · exact absurd a3 (b2 d a1)
  · rcases h2 with ⟨e, b1, b2, b3, b4⟩ | ⟨b1, b2⟩
    · exact absurd b3 (a2 e b1)
    · rw [a1, b1]
/-- nobody lays, and all may go -/
def edB (np ct law : Nat) (D : Nat → Nat) (bt s t : Nat) : Bool := allB (goP D s t) np && decide (cnt (layB np ct law bt s t) np = 0)
theorem layK_par {law x y : Nat} (h : x % 2 = y % 2) (st wa : Bool) : layK law st wa x = layK law st wa y := by unfold layK; rw [h]
theorem layB_par {np ct law x y : Nat} (h : x % 2 = y % 2) (s t : Nat) : layB np ct law x s t = layB np ct law y s t := by
  funext p
  unfold layB
  rw [layK_par h]
theorem layB_no3 {np ct law x y : Nat} (h : law ≠ 3) (s t : Nat) : layB np ct law x s t = layB np ct law y s t := by
  funext p
  unfold layB layK
  by_cases e : law = 1
  · rw [if_pos e, if_pos e]
  · rw [if_neg e, if_neg e, if_neg h, if_neg h]
/-! ===== one of the row is looked at ===== -/
def SPR (L : List Nat) (E : Nat → Nat → Nat → Bool) (w : Nat) (sd : Nat → Nat) (lim : Nat) (a d : Nat → Nat) (N i : Nat) (a2 d2 : Nat → Nat) (N2 : Nat) (dn : Nat → Prop) : Prop :=
  BB L E w sd a2 d2 N2 ∧ (∀ k, k < N2 → d2 k ≤ d i + 1) ∧ N ≤ N2 ∧ (∀ j, j < N → a2 j = a j ∧ d2 j = d j) ∧ (∀ j, N ≤ j → j < N2 → d2 j = d i + 1) ∧ BC L E sd a2 d2 N2 lim i ∧ ∀ t, dn t → t ∈ L → E (d i) (a i) t = true → ∃ k, k < N2 ∧ a2 k = t ∧ sd (d2 k) = sd (d i + 1) ∧ d2 k ≤ d i + 1
theorem SPR.start {L : List Nat} {E : Nat → Nat → Nat → Bool} {w : Nat} {sd : Nat → Nat} {lim : Nat} {a d : Nat → Nat} {N i : Nat} (h : BB L E w sd a d N) (hu : ∀ k, k < N → d k ≤ d i + 1) (hc : BC L E sd a d N lim i) : SPR L E w sd lim a d N i a d N (fun _ => False) := ⟨h, hu, Nat.le_refl _, fun _ _ => ⟨rfl, rfl⟩, fun j h1 h2 => by omega, hc, fun _ q => absurd q (fun z => z)⟩
theorem SPR.mono {L : List Nat} {E : Nat → Nat → Nat → Bool} {w : Nat} {sd : Nat → Nat} {lim : Nat} {a d : Nat → Nat} {N i : Nat} {a2 d2 : Nat → Nat} {N2 : Nat} {dn dn2 : Nat → Prop} (h : SPR L E w sd lim a d N i a2 d2 N2 dn) (hd : ∀ t, dn2 t → dn t) : SPR L E w sd lim a d N i a2 d2 N2 dn2 := ⟨h.1, h.2.1, h.2.2.1, h.2.2.2.1, h.2.2.2.2.1, h.2.2.2.2.2.1, fun t q => h.2.2.2.2.2.2 t (hd t q)⟩
theorem SPR.skip {L : List Nat} {E : Nat → Nat → Nat → Bool} {w : Nat} {sd : Nat → Nat} {lim : Nat} {a d : Nat → Nat} {N i : Nat} {a2 d2 : Nat → Nat} {N2 : Nat} {dn : Nat → Prop} (h : SPR L E w sd lim a d N i a2 d2 N2 dn) (t : Nat) (ht : E (d i) (a i) t = false ∨ mkd sd a2 d2 N2 t (sd (d i + 1))) : SPR L E w sd lim a d N i a2 d2 N2 (fun u => dn u ∨ u = t) := by
  obtain ⟨a1, a2', a3, a4, a5, a6, a7⟩ := h
  refine ⟨a1, a2', a3, a4, a5, a6, fun u hu huL hE => ?_⟩
  rcases hu with q | q
  · exact a7 u q huL hE
  · subst q
    rcases ht with q | ⟨k, k1, k2, k3⟩
    · rw [q] at hE; cases hE
    · exact ⟨k, k1, k2, k3, a2' k k1⟩
theorem SPR.push {L : List Nat} {E : Nat → Nat → Nat → Bool} {w : Nat} {sd : Nat → Nat} {lim : Nat} {a d : Nat → Nat} {N i : Nat} {a2 d2 : Nat → Nat} {N2 : Nat} {dn : Nat → Prop} (h : SPR L E w sd lim a d N i a2 d2 N2 dn) (hi : i < N) {t : Nat} (htL : t ∈ L) (hE : E (d i) (a i) t = true) (hm : ¬ mkd sd a2 d2 N2 t (sd (d i + 1))) : SPR L E w sd lim a d N i (updN a2 N2 t) (updN d2 N2 (d i + 1)) (N2 + 1) (fun u => dn u ∨ u = t) := by
  obtain ⟨b1, b2, b3, b4, b5, b6, b7⟩ := h
  have e1 := (b4 i hi).1
  have e2 := (b4 i hi).2
  have hp := b1.push (i := i) (t := t) (by omega) (fun k hk => by rw [e2]; exact b2 k hk) htL (by rw [e1, e2]; exact hE) (by rw [e2]; exact hm)
  rw [e2] at hp
  refine ⟨hp, fun k hk => ?_, by omega, fun j hj => ⟨by rw [updN_n (by omega)]; exact (b4 j hj).1, by rw [updN_n (by omega)]; exact (b4 j hj).2⟩, fun j h1 h2 => ?_, b6.push (by omega), fun u hu huL hEu => ?_⟩
  · by_cases e : k = N2
    · rw [e, updN_s]; exact Nat.le_refl _
    · rw [updN_n e]; exact b2 k (by omega)
  · by_cases e : j = N2
    · rw [e, updN_s]
    · rw [updN_n e]; exact b5 j h1 (by omega)
  · rcases hu with q | q
    · obtain ⟨k, k1, k2, k3, k4⟩ := b7 u q huL hEu
      exact ⟨k, by omega, by rw [updN_n (by omega)]; exact k2, by rw [updN_n (by omega)]; exact k3, by rw [updN_n (by omega)]; exact k4⟩
    · exact ⟨N2, by omega, by rw [updN_s, q], by rw [updN_s], by rw [updN_s]; exact Nat.le_refl _⟩
theorem SPR.fin {L : List Nat} {E : Nat → Nat → Nat → Bool} {w : Nat} {sd : Nat → Nat} {lim : Nat} {a d : Nat → Nat} {N i : Nat} {a2 d2 : Nat → Nat} {N2 : Nat} {dn : Nat → Prop} (h : SPR L E w sd lim a d N i a2 d2 N2 dn) (hi : i < N) (hd : d i + 1 ≤ lim → ∀ t, t ∈ L → E (d i) (a i) t = true → dn t) : BB L E w sd a2 d2 N2 ∧ (∀ k, k < N2 → d2 k ≤ d i + 1) ∧ N ≤ N2 ∧ (∀ j, j < N → a2 j = a j ∧ d2 j = d j) ∧ (∀ j, N ≤ j → j < N2 → d2 j = d i + 1) ∧ BC L E sd a2 d2 N2 lim (i + 1) := by
  obtain ⟨b1, b2, b3, b4, b5, b6, b7⟩ := h
  refine ⟨b1, b2, b3, b4, b5, fun j hj h1 t ht hE => ?_⟩
  by_cases e : j = i
  · subst e
    rw [(b4 j hi).2] at h1 hE ⊢
    rw [(b4 j hi).1] at hE
    exact b7 t (hd h1 t ht hE) ht hE
  · exact b6 j (by omega) h1 t ht hE
