/-! ===== two rooms become one (class) ===== -/
def cl2 (a b z : Nat) : Nat := pyb (fun r => z.testBit r && (r != a && r != b)) 5
def tf2 (a b x : Nat) : Nat := pyb (fun r => if r = a then (x.testBit a || x.testBit b) else if r = b then false else x.testBit r) 5
def jM (D : Nat → Nat) (a b q r : Nat) : Bool := if q = b ∨ r = b then false else if q = a then (if r = a then false else (D a).testBit r || (D b).testBit r) else if r = a then (D q).testBit a || (D q).testBit b else (D q).testBit r
def jD (D : Nat → Nat) (a b q : Nat) : Nat := pyb (jM D a b q) 5
def wfJ (a b : Nat) (wf : Nat → Nat → Option Nat) (p k : Nat) : Option Nat := (wf p k).map (fun q => if q = b then a else q)
def mgW (a b w : Nat) : Nat → Nat
  | 0 => w
  | i + 1 => if dg (mgW a b w i) i = b then setdg (mgW a b w i) i a else mgW a b w i
theorem cl2_all : ((List.range 32).all fun z => (List.range 5).all fun a => (List.range 5).all fun b => decide (nI z &&& (nI (2 ^ a ||| 2 ^ b) ^^^ (-1 : Int32)) = nI (cl2 a b z))) = true := by decide +kernel
theorem tf2_all : ((List.range 32).all fun x => (List.range 5).all fun a => (List.range 5).all fun b => a == b || decide (fX4_toFirst (nI x) (nI a) (nI (2 ^ a ||| 2 ^ b)) (fun _ _ => 0) = some (nI (tf2 a b x)))) = true := by decide +kernel
theorem mg_all : ((List.range 512).all fun u => (List.range 3).all fun p => (List.range 5).all fun a => dg u p == 5 || dg u p == 6 || dg u p == 7 || decide (nI u ^^^ ((nI a ^^^ nI (dg u p)) <<< (nI (3 * p) &&& 31)) = nI (setdg u p a))) = true := by decide +kernel
theorem sg_all : ((List.range 512).all fun s => (List.range 3).all fun p => (List.range 5).all fun r => decide (setdg s p r < 512) && (List.range 3).all fun q => decide (dg (setdg s p r) q = if q = p then r else dg s q)) = true := by decide +kernel
theorem all_at {n : Nat} {f : Nat → Bool} (h : (List.range n).all f = true) {i : Nat} (hi : i < n) : f i = true := List.all_eq_true.mp h i (List.mem_range.mpr hi)
theorem cl2_n {a b z : Nat} (ha : a < 5) (hb : b < 5) (hz : z < 32) : nI z &&& (nI (2 ^ a ||| 2 ^ b) ^^^ (-1 : Int32)) = nI (cl2 a b z) := of_decide_eq_true (all_at (all_at (all_at cl2_all hz) ha) hb)
theorem tf2_n {a b x : Nat} (ha : a < 5) (hb : b < 5) (hab : a ≠ b) (hx : x < 32) (I : Mem) : fX4_toFirst (nI x) (nI a) (nI (2 ^ a ||| 2 ^ b)) I = some (nI (tf2 a b x)) := by
  have h := all_at (all_at (all_at tf2_all hx) ha) hb
  rw [beq_eq_false_iff_ne.mpr hab, Bool.false_or] at h
  exact of_decide_eq_true h
theorem mg_n {u p a b : Nat} (hu : u < 512) (hp : p < 3) (ha : a < 5) (hb : b < 5) (h : dg u p = b) : nI u ^^^ ((nI a ^^^ nI b) <<< (nI (3 * p) &&& 31)) = nI (setdg u p a) := by
  have h2 := all_at (all_at (all_at mg_all hu) hp) ha
  rw [h, beq_eq_false_iff_ne.mpr (show b ≠ 5 by omega), beq_eq_false_iff_ne.mpr (show b ≠ 6 by omega), beq_eq_false_iff_ne.mpr (show b ≠ 7 by omega)] at h2
  exact of_decide_eq_true h2
theorem sg_n {s p r : Nat} (hs : s < 512) (hp : p < 3) (hr : r < 5) : setdg s p r < 512 ∧ ∀ q, q < 3 → dg (setdg s p r) q = if q = p then r else dg s q := by
  have h := all_at (all_at (all_at sg_all hs) hp) hr
  rw [Bool.and_eq_true] at h
  exact ⟨of_decide_eq_true h.1, fun q hq => of_decide_eq_true (all_at h.2 hq)⟩
theorem pow8_3 {np : Nat} (h : np ≤ 3) : 8 ^ np ≤ 512 := Nat.pow_le_pow_right (n := 8) (by decide) h
theorem mgW_3 {a b w : Nat} (ha : a < 5) (hw : w < 512) : ∀ i, i ≤ 3 → mgW a b w i < 512 ∧ ∀ q, q < 3 → dg (mgW a b w i) q = if q < i ∧ dg w q = b then a else dg w q
  | 0, _ => ⟨hw, fun q _ => by rw [if_neg (by omega)]; rfl⟩
  | i + 1, hi => by
    obtain ⟨h1, h2⟩ := mgW_3 (b := b) ha hw i (by omega)
    have hii : dg (mgW a b w i) i = dg w i := by rw [h2 i (by omega), if_neg (by omega)]
    rw [mgW]
    by_cases c : dg (mgW a b w i) i = b
    · rw [if_pos c]
      obtain ⟨s1, s2⟩ := sg_n h1 (show i < 3 by omega) ha
      refine ⟨s1, fun q hq => ?_⟩
      rw [s2 q hq]
      by_cases e : q = i
      · rw [if_pos e, if_pos ⟨by omega, by rw [e, ← hii]; exact c⟩]
      · rw [if_neg e, h2 q hq]
        by_cases e2 : q < i ∧ dg w q = b
        · rw [if_pos e2, if_pos ⟨by omega, e2.2⟩]
        · rw [if_neg e2, if_neg (fun z => e2 ⟨by omega, z.2⟩)]
    · rw [if_neg c]
      refine ⟨h1, fun q hq => ?_⟩
      rw [h2 q hq]
      by_cases e2 : q < i ∧ dg w q = b
      · rw [if_pos e2, if_pos ⟨by omega, e2.2⟩]
      · rw [if_neg e2, if_neg (fun z => ?_)]
        by_cases e : q = i
        · rw [hii, ← e] at c; exact c z.2
        · exact e2 ⟨by omega, z.2⟩
theorem dg_hi {s k : Nat} (h : ∀ p, k ≤ p → p < 3 → dg s p = 0) (hs : s < 512) (hk : k ≤ 3) : s < 8 ^ k := by
  have e0 := h 0
  have e1 := h 1
  have e2 := h 2
  unfold dg at e0 e1 e2
  rcases (show k = 0 ∨ k = 1 ∨ k = 2 ∨ k = 3 by omega) with rfl | rfl | rfl | rfl
  · have a0 := e0 (by omega) (by omega)
    have a1 := e1 (by omega) (by omega)
    have a2 := e2 (by omega) (by omega)
    simp only [Nat.pow_zero, Nat.pow_one, Nat.reducePow] at *
    omega
  · have a1 := e1 (by omega) (by omega)
    have a2 := e2 (by omega) (by omega)
    simp only [Nat.pow_zero, Nat.pow_one, Nat.reducePow] at *
    omega
  · have a2 := e2 (by omega) (by omega)
    simp only [Nat.pow_zero, Nat.pow_one, Nat.reducePow] at *
    omega
  · exact hs
theorem mgW_en {n np a b w : Nat} (hn : n ≤ 5) (hnp : np ≤ 3) (ha : a < n) (hw : w ∈ enA n np) : mgW a b w np ∈ enA n np ∧ (∀ p, p < np → dg (mgW a b w np) p = if dg w p = b then a else dg w p) ∧ mgW a b w np < 512 := by
  obtain ⟨w1, w2⟩ := enA_wv hn hw
  have h512 := pow8_3 hnp
  obtain ⟨h1, h2⟩ := mgW_3 (a := a) (b := b) (w := w) (by omega) (by omega) np hnp
  have h3 : ∀ p, p < np → dg (mgW a b w np) p = if dg w p = b then a else dg w p := fun p hp => by
    rw [h2 p (by omega)]
    by_cases c : dg w p = b
    · rw [if_pos ⟨hp, c⟩, if_pos c]
    · rw [if_neg (fun z => c z.2), if_neg c]
  refine ⟨enA_mem hn (dg_hi (fun p h4 h5 => ?_) h1 hnp) (fun p hp => ?_), h3, h1⟩
  · rw [h2 p h5, if_neg (by omega)]
    exact dg_big w1 h4
  · rw [h3 p hp]
    have := w2 p hp
    split <;> omega
theorem mg140 {M : Mem} {np w a b : Nat} (g2 : M 9 2 = nI np) (hnp : np ≤ 3) (g3 : M 9 3 = nI w) (hw : w < 512) (ha : a < 5) (hb : b < 5) : iter (sX4_merge_140 9 (nI a) (nI b)) FU ((0 : Int32), M) = some (up2 M 9 3 (nI (mgW a b w np))) := by
  have e0 : ((0 : Int32), M) = (fun i => (nI i, up2 M 9 3 (nI (mgW a b w i)))) 0 := by
    show _ = (nI 0, up2 M 9 3 (nI w))
    rw [← g3, up2_same]
    rfl
  rw [e0]
  refine iter_go (fun i => (nI i, up2 M 9 3 (nI (mgW a b w i)))) np (FU_lt (by omega)) ?_ (fun i hi => ?_)
  · unfold sX4_merge_140
    dsimp only
    unfold bX4_merge_140
    rw [up2_i (show 2 ≠ 3 by decide), g2, if_pos (by rw [nI_leI (by omega) (by omega)]; omega)]
  · obtain ⟨h1, h2⟩ := mgW_3 (a := a) (b := b) (w := w) ha hw i (by omega)
    unfold sX4_merge_140
    dsimp only
    unfold bX4_merge_140
    have hd := dg_lt (mgW a b w i) i
    rw [up2_i (show 2 ≠ 3 by decide), g2, if_neg (by rw [nI_leI (by omega) (by omega)]; omega), up2_self, bnd_s (roomOf_n _ (by omega) (by omega)), mgW]
    by_cases c : dg (mgW a b w i) i = b
    · rw [if_pos (by rw [c]), if_pos c]
      dsimp only [letb]
      rw [up2_up2, show (3 : Int32) = nI 3 from rfl, pk_mul, mg_n h1 (by omega) ha hb c, nI_1]
    · rw [if_neg (by rw [nI_eq (by omega) (by omega)]; exact c), if_neg c, nI_1]
theorem mg95 {M : Mem} {np w a b : Nat} (g2 : M 9 2 = nI np) (hnp : np ≤ 3) (g3 : M 9 3 = nI w) (hw : w < 512) (ha : a < 5) (hb : b < 5) : ∃ J, iter (sX4_merge_95 9 (nI a) (nI b)) FU ((0 : Int32), M) = some J ∧ (∀ i, i < 16 → J 14 i = if M 14 i = nI b then nI a else M 14 i) ∧ J 9 3 = nI (mgW a b w np) ∧ (∀ i, i ≠ 3 → J 9 i = M 9 i) ∧ ∀ c, c ≠ 9 → c ≠ 14 → J c = M c := by
  refine iter_invF (s := sX4_merge_95 9 (nI a) (nI b)) (fun i x => x.1 = nI i ∧ (∀ k, k < i → x.2 14 k = if M 14 k = nI b then nI a else M 14 k) ∧ (∀ k, i ≤ k → x.2 14 k = M 14 k) ∧ ∀ c, c ≠ 14 → x.2 c = M c) _ 16 (FU_lt (by decide)) (x := ((0 : Int32), M)) ⟨rfl, fun k hk => absurd hk (Nat.not_lt_zero _), fun _ _ => rfl, fun _ _ => rfl⟩ (fun i x hi hx => ?_) (fun x hx => ?_)
  · obtain ⟨x5, K⟩ := x
    dsimp only at hx
    obtain ⟨rfl, h1, h2, h3⟩ := hx
    have hval : ∀ v : Int32, v = (if M 14 i = nI b then nI a else M 14 i) → (∀ k, k < i + 1 → up2 K 14 i v 14 k = if M 14 k = nI b then nI a else M 14 k) ∧ (∀ k, i + 1 ≤ k → up2 K 14 i v 14 k = M 14 k) ∧ ∀ c, c ≠ 14 → up2 K 14 i v c = M c := fun v hv => by
      refine ⟨fun k hk => ?_, fun k hk => ?_, fun c hc => by rw [up2_cc hc]; exact h3 c hc⟩
      · by_cases e : k = i
        · rw [e, up2_self, hv]
        · rw [up2_i e]; exact h1 k (by omega)
      · rw [up2_i (by omega)]; exact h2 k (by omega)
    unfold sX4_merge_95
    dsimp only
    unfold bX4_merge_95
    rw [if_neg (show ¬ (16 : Int32) ≤ nI i from nI_ge (b := 16) hi (by decide)), ix_n (show i < 2 ^ 31 by omega)]
    simp only [chk_t (inb_n hi (show 16 < 2 ^ 31 by decide))]
    by_cases c : K (9 + 5) i = nI b
    · rw [if_pos c]
      have c2 : M 14 i = nI b := by rw [← h2 i (Nat.le_refl _)]; exact c
      exact ⟨_, by rw [nI_1]; rfl, rfl, hval (nI a) (by rw [if_pos c2])⟩
    · rw [if_neg c]
      have c2 : ¬ M 14 i = nI b := by rw [← h2 i (Nat.le_refl _)]; exact c
      exact ⟨_, by rw [nI_1]; rfl, rfl, hval (K (9 + 5) i) (by rw [if_neg c2]; exact h2 i (Nat.le_refl _))⟩
  · obtain ⟨x5, K⟩ := x
    dsimp only at hx
    obtain ⟨rfl, h1, h2, h3⟩ := hx
    refine ⟨up2 K 9 3 (nI (mgW a b w np)), ?_, fun i hi => by rw [up2_c (by decide)]; exact h1 i hi, up2_self .., fun i hi => by rw [up2_i hi, h3 9 (by decide)], fun c q1 q2 => by rw [up2_cc q1]; exact h3 c q2⟩
    unfold sX4_merge_95
    dsimp only
    unfold bX4_merge_95
    rw [if_pos (show (16 : Int32) ≤ nI 16 by decide)]
    exact inrO_s (mg140 (by rw [h3 9 (by decide)]; exact g2) hnp (by rw [h3 9 (by decide)]; exact g3) hw ha hb)
theorem tf2_lt (a b x : Nat) : tf2 a b x < 32 := pyb_lt _ 5
theorem jD_tf {D : Nat → Nat} {a b q : Nat} (hab : a ≠ b) (ha : q ≠ a) (hb : q ≠ b) : tf2 a b (D q) = jD D a b q := by
  unfold tf2 jD
  refine pyb_cong (fun r _ => ?_)
  unfold jM
  by_cases e1 : r = b
  · rw [if_pos (Or.inr e1)]
    by_cases e2 : r = a
    · omega
    · rw [if_neg e2, if_pos e1]
  · rw [if_neg (show ¬ (q = b ∨ r = b) from fun z => z.elim hb e1), if_neg ha]
    by_cases e2 : r = a
    · rw [if_pos e2, if_pos e2]
    · rw [if_neg e2, if_neg e1, if_neg e2]
theorem jD_b {D : Nat → Nat} {a b : Nat} : jD D a b b = 0 := by
  unfold jD
  rw [pyb_0, allB_iff]
  intro r _
  unfold jM
  rw [if_pos (Or.inl rfl)]
  rfl
theorem jD_a {D : Nat → Nat} {a b : Nat} (hab : a ≠ b) : cl2 a b (D a ||| D b) = jD D a b a := by
  unfold cl2 jD
  refine pyb_cong (fun r _ => ?_)
  unfold jM
  by_cases e1 : r = b
  · rw [if_pos (Or.inr e1), e1]
    simp
  · rw [if_neg (show ¬ (a = b ∨ r = b) from fun z => z.elim hab e1), if_pos rfl]
    by_cases e2 : r = a
    · rw [if_pos e2, e2]; simp
    · rw [if_neg e2, Nat.testBit_or]
      have q1 : (r != a) = true := by rw [bne_iff_ne]; exact e2
      have q2 : (r != b) = true := by rw [bne_iff_ne]; exact e1
      rw [q1, q2, Bool.and_self, Bool.and_true]
theorem jD_bit {D : Nat → Nat} {a b q r : Nat} (hr : r < 5) : (jD D a b q).testBit r = jM D a b q r := by
  unfold jD
  rw [pyb_bit, decide_eq_true hr, Bool.true_and]
theorem jD_lt {n : Nat} {D : Nat → Nat} {a b q : Nat} (hd : DG n D) (hn : n ≤ 5) (ha : a < n) (hb : b < n) (hq : q < 5) : jD D a b q < 2 ^ n := by
  refine Nat.lt_pow_two_of_testBit _ (fun r hr => ?_)
  have hz : ∀ q, q < 5 → (D q).testBit r = false := fun q hq => Nat.testBit_lt_two_pow (Nat.lt_of_lt_of_le (hd.1 q hq) (Nat.pow_le_pow_right (by decide) hr))
  by_cases c : r < 5
  · rw [jD_bit c]
    unfold jM
    rw [hz a (by omega), hz b (by omega), hz q hq]
    by_cases e1 : q = b ∨ r = b
    · rw [if_pos e1]
    · rw [if_neg e1, if_neg (show ¬ r = a by omega), if_neg (show ¬ r = a by omega)]
      split <;> rfl
  · unfold jD
    rw [pyb_bit, decide_eq_false c, Bool.false_and]
theorem merge_n {I : Mem} {n np ct law B w a b : Nat} {D : Nat → Nat} {wf : Nat → Nat → Option Nat} (hF : HF I 9 n np ct law B w D wf) (hd : DG n D) (hab : a < b) (hb : b < n) (hnp : np ≤ 3) : ∃ J, fX4_merge 9 (nI a) (nI b) I = some J ∧ HF J 9 n np (tf2 a b ct) law B (mgW a b w np) (jD D a b) (wfJ a b wf) ∧ ∀ c, (c < 9 ∨ 17 ≤ c) → J c = I c := by
  obtain ⟨-, hn, hnp4, hct, hlaw, hB20, ⟨g0, g2, g1, g5, g3⟩, hw, gd, hD, gw, hwf⟩ := hF
  have h32 := pow_le32 hn.2
  have h512 := pow8_3 hnp
  have hwl := (enA_wv hn.2 hw).1
  have hD32 : ∀ q, q < 5 → D q < 32 := fun q hq => by have := hD q hq; omega
  have hor : D a ||| D b < 32 := Nat.or_lt_two_pow (n := 5) (hD32 a (by omega)) (hD32 b (by omega))
  have key := iter_invF (s := sX4_merge_30 9 (nI a) (nI b) (nI (2 ^ a ||| 2 ^ b)) (nI (cl2 a b (D a ||| D b)))) (fun i x => x.1 = nI i ∧ (∀ k, k < i → x.2 10 k = nI (tf2 a b (D k))) ∧ (∀ k, i ≤ k → x.2 10 k = I 10 k) ∧ ∀ c, c ≠ 10 → x.2 c = I c)
    (fun J => HF J 9 n np (tf2 a b ct) law B (mgW a b w np) (jD D a b) (wfJ a b wf) ∧ ∀ c, (c < 9 ∨ 17 ≤ c) → J c = I c) n (FU_lt (by omega)) (x := ((0 : Int32), I)) ⟨rfl, fun k hk => absurd hk (Nat.not_lt_zero _), fun _ _ => rfl, fun _ _ => rfl⟩ (fun i x hi hx => ?_) (fun x hx => ?_)
  · obtain ⟨J, k1, k2⟩ := key
    refine ⟨J, ?_, k2⟩
    unfold fX4_merge
    dsimp only [letb]
    rw [chk_t (inb_n (show a < 5 by omega) (by decide)), chk_t (inb_n (show b < 5 by omega) (by decide)), ix_n (show a < 2 ^ 31 by omega), ix_n (show b < 2 ^ 31 by omega), show I (9 + 1) a = nI (D a) from gd a (by omega), show I (9 + 1) b = nI (D b) from gd b (by omega), n_one (show a < 32 by omega), n_one (show b < 32 by omega), n_or, n_or, cl2_n (by omega) (by omega) hor]
    exact k1
  · obtain ⟨x5, K⟩ := x
    dsimp only at hx
    obtain ⟨rfl, h1, h2, h3⟩ := hx
    refine ⟨(nI (i + 1), up2 K 10 i (nI (tf2 a b (D i)))), ?_, rfl, fun k hk => ?_, fun k hk => by show up2 K 10 i _ 10 k = _; rw [up2_i (by omega)]; exact h2 k (by omega), fun c hc => by show up2 K 10 i _ c = _; rw [up2_cc hc]; exact h3 c hc⟩
    · unfold sX4_merge_30
      dsimp only
      unfold bX4_merge_30
      rw [h3 9 (by decide), g0, if_neg (by rw [nI_leI (by omega) (by omega)]; omega), chk_t (inb_n (show i < 5 by omega) (by decide)), ix_n (show i < 2 ^ 31 by omega), show K (9 + 1) i = nI (D i) from (h2 i (Nat.le_refl _)).trans (gd i (by omega)), bnd_s (tf2_n (by omega) (by omega) (by omega) (hD32 i (by omega)) K), chk_t (inb_n (show i < 5 by omega) (by decide))]
      dsimp only [letb]
      rw [nI_1]
    · show up2 K 10 i _ 10 k = _
      by_cases e : k = i
      · rw [e, up2_self]
      · rw [up2_i e]; exact h1 k (by omega)
  · obtain ⟨x5, K⟩ := x
    dsimp only at hx
    obtain ⟨rfl, h1, h2, h3⟩ := hx
    generalize hM : up2 (up2 (up2 K 10 a (nI (cl2 a b (D a ||| D b)))) 10 b (0 : Int32)) 9 1 (nI (tf2 a b ct)) = M
    have M9 : ∀ i, i ≠ 1 → M 9 i = I 9 i := fun i hi => by rw [← hM, up2_i hi, up2_c (by decide), up2_c (by decide), h3 9 (by decide)]
    have M91 : M 9 1 = nI (tf2 a b ct) := by rw [← hM, up2_self]
    have Mc : ∀ c, c ≠ 9 → c ≠ 10 → M c = I c := fun c q1 q2 => by rw [← hM, up2_cc q1, up2_cc q2, up2_cc q2, h3 c q2]
    have M10 : ∀ q, q < 5 → M 10 q = nI (jD D a b q) := fun q hq => by
      rw [← hM, up2_c (by decide)]
      by_cases e1 : q = b
      · rw [e1, up2_self, jD_b]; rfl
      · rw [up2_i e1]
        by_cases e2 : q = a
        · rw [e2, up2_self, jD_a (by omega)]
        · rw [up2_i e2, ← jD_tf (show a ≠ b by omega) e2 e1]
          by_cases c : q < n
          · exact h1 q c
          · rw [h2 q (by omega)]
            have hz : D q = 0 := hd.2.1 q (by omega) hq
            rw [show I 10 q = nI (D q) from gd q hq, hz]
            congr 1
            unfold tf2
            symm
            rw [pyb_0, allB_iff]
            intro r _
            simp
    obtain ⟨J, j1, j2, j3, j4, j5⟩ := mg95 (M := M) (np := np) (w := w) (a := a) (b := b) (by rw [M9 2 (by decide)]; exact g2) hnp (by rw [M9 3 (by decide)]; exact g3) (by omega) (by omega) (by omega)
    obtain ⟨m1, m2, m3⟩ := mgW_en (b := b) hn.2 hnp (show a < n by omega) hw
    refine ⟨J, ?_, ⟨Or.inr rfl, hn, hnp4, tf2_lt _ _ _, hlaw, hB20, ⟨by rw [j4 0 (by decide), M9 0 (by decide)]; exact g0, by rw [j4 2 (by decide), M9 2 (by decide)]; exact g2, by rw [j4 1 (by decide)]; exact M91, by rw [j4 5 (by decide), M9 5 (by decide)]; exact g5, j3⟩, m1, fun q hq => ?_, fun q hq => jD_lt hd hn.2 (by omega) hb hq, fun p k hp hk1 hk => ?_, fun p k q hp hk1 hk hq => ?_⟩, fun c hc => by rw [j5 c (by omega) (by omega)]; exact Mc c (by omega) (by omega)⟩
    · unfold sX4_merge_30
      dsimp only
      unfold bX4_merge_30
      rw [h3 9 (by decide), g0, if_pos (by rw [nI_leI (by omega) (by omega)]; omega), chk_t (inb_n (show a < 5 by omega) (by decide)), ix_n (show a < 2 ^ 31 by omega)]
      dsimp only [letb]
      rw [chk_t (inb_n (show b < 5 by omega) (by decide)), ix_n (show b < 2 ^ 31 by omega), show up2 (up2 K (9 + 1) a (nI (cl2 a b (D a ||| D b)))) (9 + 1) b (0 : Int32) 9 1 = nI ct by rw [up2_c (by decide), up2_c (by decide), h3 9 (by decide)]; exact g1, bnd_s (tf2_n (by omega) (by omega) (by omega) hct _)]
      show inrO (iter (sX4_merge_95 9 (nI a) (nI b)) FU ((0 : Int32), up2 (up2 (up2 K 10 a (nI (cl2 a b (D a ||| D b)))) 10 b (0 : Int32)) 9 1 (nI (tf2 a b ct)))) = _
      rw [hM]
      exact inrO_s j1
    · show J 10 q = _
      rw [j5 10 (by decide) (by decide)]; exact M10 q hq
    · show J 14 (4 * p + (k - 1)) = _
      rw [j2 _ (by omega), Mc 14 (by decide) (by decide), show I 14 (4 * p + (k - 1)) = oI (wf p k) from gw p k hp hk1 hk]
      unfold wfJ
      cases ho : wf p k with
      | none => rw [if_neg (fun q => n_ne1 (k := b) (by omega) q.symm)]; rfl
      | some r =>
        have := hwf p k r hp hk1 hk ho
        show (if nI r = nI b then nI a else nI r) = nI (if r = b then a else r)
        by_cases c : r = b
        · rw [if_pos (by rw [c]), if_pos c]
        · rw [if_neg (by rw [nI_eq (by omega) (by omega)]; exact c), if_neg c]
    · unfold wfJ at hq
      cases ho : wf p k with
      | none => rw [ho] at hq; cases hq
      | some r =>
        rw [ho] at hq
        have := hwf p k r hp hk1 hk ho
        have hq2 : (if r = b then a else r) = q := Option.some.inj hq
        rw [← hq2]
        split <;> omega
