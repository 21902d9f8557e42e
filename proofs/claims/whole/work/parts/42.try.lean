/-! ===== the model's beat, tried ===== -/
def puM (F : Nat → Bool) (row : Nat → Int32) (pur : Nat → Int32) : Nat → Nat → Int32
  | 0 => pur
  | i + 1 => upd (puM F row pur i) i (row (24 + i) - b2i (F i))
theorem upd_same (f : Nat → Int32) (k : Nat) : upd f k (f k) = f := by
  funext j
  by_cases e : j = k
  · rw [e]; exact if_pos rfl
  · exact if_neg e
theorem tryBeat_n {np n ct law bt s t : Nat} {I : Mem} (r0 : I 75 0 = nI n) (hn : n ≤ 5) (r3 : I 75 3 = nI np) (hnp : np ≤ 4) (r4 : I 75 4 = nI ct) (hct : ct < 32) (r1 : I 75 1 = nI law) (hl : law ≤ 4) (r2 : I 75 2 = nI bt) (hb : bt < 2 ^ 30) (hs : s < 2 ^ 31) (ht : t < 2 ^ 31) (hv : ∀ p, p < np → dg t p < 5) :
    fX12_tryBeat (nI s) (nI t) I = some (nI (cnt (layB np ct law (bt + 1) s t) np), GM I 80 81 (gatR np law s t (pyP (layB np ct law (bt + 1) s t) t (cpA (I 75) (I 80) 10 0 5) np, puM (layB np ct law (bt + 1) s t) (I 75) (I 81) np) n).1 (gatR np law s t (pyP (layB np ct law (bt + 1) s t) t (cpA (I 75) (I 80) 10 0 5) np, puM (layB np ct law (bt + 1) s t) (I 75) (I 81) np) n).2) := by
  generalize hF : layB np ct law (bt + 1) s t = F
  have ne : (80 : Nat) ≠ 81 := by decide
  have q75 : ∀ pen pur, GM I 80 81 pen pur 75 = I 75 := fun pen pur => GM_c (by decide) (by decide)
  have q0 : ∀ pen pur, GM I 80 81 pen pur 75 0 = nI n := fun pen pur => by rw [q75]; exact r0
  have q1 : ∀ pen pur, GM I 80 81 pen pur 75 1 = nI law := fun pen pur => by rw [q75]; exact r1
  have q3 : ∀ pen pur, GM I 80 81 pen pur 75 3 = nI np := fun pen pur => by rw [q75]; exact r3
  have last : ∀ (q : (Nat → Int32) × (Nat → Int32)) (x : Int32), iter (sX12_tryBeat_146 (nI s) (nI t) x) FU ((0 : Int32), GM I 80 81 q.1 q.2) = some (x, GM I 80 81 (gatR np law s t q n).1 (gatR np law s t q n).2) := by
    intro q x
    refine iter_go (fun i => (nI i, GM I 80 81 (gatR np law s t q i).1 (gatR np law s t q i).2)) n (FU_lt (by omega)) ?_ (fun i hi => ?_)
    · unfold sX12_tryBeat_146 bX12_tryBeat_146
      dsimp only
      rw [chk_t (by decide), if_pos (by rw [show ix (0 : Int32) = 0 from rfl, q0, nI_leI (by omega) (by omega)]; omega)]
    · unfold sX12_tryBeat_146 bX12_tryBeat_146
      dsimp only
      rw [chk_t (by decide), if_neg (by rw [show ix (0 : Int32) = 0 from rfl, q0, nI_leI (by omega) (by omega)]; omega), bnd_s (gatherM r3 hnp r1 hl hs ht (by omega)), nI_1]
      rfl
  have mid : ∀ pen0 pur0 : Nat → Int32, iter (sX12_tryBeat_37 (nI s) (nI t)) FU ((0 : Int32), (0 : Int32), GM I 80 81 pen0 pur0) = some (nI (cnt F np), GM I 80 81 (gatR np law s t (pyP F t pen0 np, puM F (I 75) pur0 np) n).1 (gatR np law s t (pyP F t pen0 np, puM F (I 75) pur0 np) n).2) := by
    intro pen0 pur0
    refine iter_go (fun i => (nI (cnt F i), nI i, GM I 80 81 (pyP F t pen0 i) (puM F (I 75) pur0 i))) np (FU_lt (by omega)) ?_ (fun i hi => ?_)
    · unfold sX12_tryBeat_37 bX12_tryBeat_37
      dsimp only
      rw [chk_t (by decide), if_pos (by rw [show ix (3 : Int32) = 3 from rfl, q3, nI_leI (by omega) (by omega)]; omega), inrO_s (last (pyP F t pen0 np, puM F (I 75) pur0 np) _)]
    · have hr := hv i hi
      have hlay := laysM_n (np := np) (ct := ct) (law := law) (bt := bt + 1) (s := s) (t := t) (p := i) (I := GM I 80 81 (pyP F t pen0 i) (puM F (I 75) pur0 i)) (q3 _ _) hnp (by rw [q75]; exact r4) hct hl (by omega) hs ht (by omega)
      rw [hF] at hlay
      have tail : ∀ c : Bool, jX12_tryBeat_98 (nI s) (nI t) (nI (cnt F i)) (nI i) (b2i c) (b2i c) (I 75 (24 + i)) (nI i) (GM I 80 81 (pyP F t pen0 i) (puM F (I 75) pur0 i)) = some (.inl (nI (cnt F i + (if c = true then 1 else 0)), nI (i + 1), GM I 80 81 (if c = true then upd (pyP F t pen0 i) (dg t i) (pyP F t pen0 i (dg t i) + 1) else pyP F t pen0 i) (upd (puM F (I 75) pur0 i) i (I 75 (24 + i) - b2i c)))) := by
        intro c
        unfold jX12_tryBeat_98 jX12_tryBeat_122
        rw [chk_t (inb_n (by omega) (by decide)), ix_n (by omega)]
        dsimp only [letb]
        rw [GM_p, bnd_s (roomIn_n _ ht (by omega)), chk_t (inb_n hr (by decide)), chk_t (inb_n hr (by decide)), ix_n (by omega), GM_1 ne, GM_n ne, GM_n ne, nI_1]
        cases c with
        | false =>
          rw [if_pos (show b2i false = 0 from rfl), if_pos (show b2i false = 0 from rfl), Int32.add_zero, Int32.add_zero, upd_same]
          rfl
        | true =>
          rw [if_neg (show ¬ b2i true = 0 by decide), if_neg (show ¬ b2i true = 0 by decide), chk_t (inb_n hr (by decide)), nI_1]
          rfl
      unfold sX12_tryBeat_37 bX12_tryBeat_37
      dsimp only
      rw [chk_t (by decide), if_neg (by rw [show ix (3 : Int32) = 3 from rfl, q3, nI_leI (by omega) (by omega)]; omega), chk_t (by decide), chk_t (by decide), show ix (1 : Int32) = 1 from rfl, show ix (2 : Int32) = 2 from rfl, q1, q75, r2, nI_1, bnd_s hlay, show (24 : Int32) = nI 24 from rfl, nI_add, chk_t (inb_n (by omega) (by decide)), ix_n (by omega), cnt, pyP, puM]
      have tl := tail (F i)
      cases hc : F i with
      | false =>
        rw [hc] at tl
        rw [if_pos (show b2i false = 0 from rfl)]
        exact tl
      | true =>
        rw [hc] at tl
        rw [if_neg (show ¬ b2i true = 0 by decide)]
        exact tl
  unfold fX12_tryBeat
  have h80 : cpM I 80 75 10 0 5 = GM I 80 81 (cpA (I 75) (I 80) 10 0 5) (I 81) := by
    unfold cpM GM
    funext a
    by_cases e : a = 81
    · subst e; rw [upA_self, upA_c (by decide)]
    · rw [upA_c e]
  refine iter_copy 80 75 10 0 5 I (FU_lt (by decide)) (Or.inl (by decide)) (fun i hi => ?_) ?_
  · unfold sX12_tryBeat_5 bX12_tryBeat_5
    dsimp only
    rw [if_neg (show ¬ (5 : Int32) ≤ nI i from nI_ge (b := 5) hi (by decide)), show (10 : Int32) = nI 10 from rfl, nI_add, chk_t (inb_n (by omega) (by decide)), chk_t (inb_n hi (by decide)), ix_n (by omega), ix_n (by omega), nI_1, Nat.zero_add]
    rfl
  · unfold sX12_tryBeat_5 bX12_tryBeat_5
    dsimp only
    rw [if_pos (show (5 : Int32) ≤ nI 5 from by decide), h80, inrO_s (mid _ _)]
/-! ===== only the people's purses and five sills matter ===== -/
def AG (np : Nat) (q1 q2 : (Nat → Int32) × (Nat → Int32)) : Prop := (∀ r, r < 5 → q1.1 r = q2.1 r) ∧ ∀ p, p < np → q1.2 p = q2.2 p
theorem upd_ag {f g : Nat → Int32} {k j : Nat} {v u : Int32} (h : f j = g j) (hv : v = u) : upd f k v j = upd g k u j := by
  unfold upd
  by_cases e : j = k
  · rw [if_pos e, if_pos e, hv]
  · rw [if_neg e, if_neg e, h]
theorem gatF_ag {np law s t r : Nat} {q1 q2 : (Nat → Int32) × (Nat → Int32)} (h : AG np q1 q2) (hr : r < 5) : AG np (gatF np law s t r q1) (gatF np law s t r q2) := by
  unfold gatF
  split
  · exact h
  · rename_i a ha
    have la := fstF_lt ha
    split
    · exact h
    · rename_i c hc
      have lc := fstF_lt hc
      have e1 := h.1 r hr
      have e2 := h.2 a (by omega)
      have e3 := h.2 c (by omega)
      refine ⟨fun r2 hr2 => upd_ag (h.1 r2 hr2) rfl, fun p hp => upd_ag (upd_ag (h.2 p hp) (by rw [e1, e2])) ?_⟩
      rw [upd_ag (k := a) (j := c) e3 (show q1.2 a + (q1.1 r - if law = 2 ∨ law = 4 then q1.1 r / 2 else 0) = q2.2 a + (q2.1 r - if law = 2 ∨ law = 4 then q2.1 r / 2 else 0) by rw [e1, e2]), e1]
theorem gatR_ag {np law s t : Nat} {q1 q2 : (Nat → Int32) × (Nat → Int32)} (h : AG np q1 q2) : ∀ n, n ≤ 5 → AG np (gatR np law s t q1 n) (gatR np law s t q2 n)
  | 0, _ => h
  | n + 1, hn => gatF_ag (gatR_ag h n (by omega)) (by omega)
theorem pyP_ag {F : Nat → Bool} {t : Nat} {f g : Nat → Int32} (h : ∀ r, r < 5 → f r = g r) : ∀ i, (∀ p, p < i → dg t p < 5) → ∀ r, r < 5 → pyP F t f i r = pyP F t g i r
  | 0, _ => h
  | i + 1, hd => fun r hr => by
    have ih := pyP_ag (F := F) (t := t) h i (fun p hp => hd p (by omega))
    unfold pyP
    split
    · exact upd_ag (ih r hr) (by rw [ih _ (hd i (by omega))])
    · exact ih r hr
theorem pyU_at {F : Nat → Bool} {f : Nat → Int32} : ∀ (i p : Nat), pyU F f i p = if p < i then f p - b2i (F p) else f p
  | 0, p => by rw [if_neg (by omega)]; rfl
  | i + 1, p => by
    have ih := pyU_at (F := F) (f := f) i
    unfold pyU
    by_cases e : p = i
    · subst e
      rw [if_pos (show p < p + 1 by omega)]
      cases hF : F p with
      | true =>
        rw [if_pos rfl, show upd (pyU F f p) p (pyU F f p p - 1) p = pyU F f p p - 1 from if_pos rfl, ih p, if_neg (by omega)]
        rfl
      | false =>
        rw [if_neg (by decide), ih p, if_neg (by omega)]
        exact (Int32.sub_zero _).symm
    · have e2 : (if p < i + 1 then f p - b2i (F p) else f p) = if p < i then f p - b2i (F p) else f p := by
        by_cases q : p < i
        · rw [if_pos q, if_pos (by omega)]
        · rw [if_neg q, if_neg (by omega)]
      rw [e2, ← ih p]
      split
      · exact if_neg e
      · rfl
theorem puM_at {F : Nat → Bool} {row f : Nat → Int32} : ∀ (i p : Nat), puM F row f i p = if p < i then row (24 + p) - b2i (F p) else f p
  | 0, p => by rw [if_neg (by omega)]; rfl
  | i + 1, p => by
    have ih := puM_at (F := F) (row := row) (f := f) i
    unfold puM
    by_cases e : p = i
    · subst e
      rw [if_pos (show p < p + 1 by omega)]
      exact if_pos rfl
    · have e2 : (if p < i + 1 then row (24 + p) - b2i (F p) else f p) = if p < i then row (24 + p) - b2i (F p) else f p := by
        by_cases q : p < i
        · rw [if_pos q, if_pos (by omega)]
        · rw [if_neg q, if_neg (by omega)]
      rw [e2, ← ih p]
      exact if_neg e
/-- purses of nobody stay -/
theorem gatF_out {np law s t r p : Nat} {q : (Nat → Int32) × (Nat → Int32)} (hp : np ≤ p) : (gatF np law s t r q).2 p = q.2 p := by
  unfold gatF
  split
  · rfl
  · rename_i a ha
    have la := fstF_lt ha
    split
    · rfl
    · rename_i c hc
      have lc := fstF_lt hc
      dsimp only
      rw [show upd (upd q.2 a _) c _ p = upd q.2 a _ p from if_neg (by omega), show upd q.2 a _ p = q.2 p from if_neg (by omega)]
theorem gatR_out {np law s t p : Nat} {q : (Nat → Int32) × (Nat → Int32)} (hp : np ≤ p) : ∀ n, (gatR np law s t q n).2 p = q.2 p
  | 0 => rfl
  | n + 1 => by unfold gatR; rw [gatF_out hp, gatR_out hp n]
