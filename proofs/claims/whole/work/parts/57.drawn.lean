/-! ===== whims by a seed ===== -/
theorem lN_t63 {n : Nat} (h : n < 2 ^ 63) : (lN n).toInt = (n : Int) := Int64.toInt_ofNat_of_lt h
theorem lN_div {a d : Nat} (ha : a < 2 ^ 63) (hd : d < 2 ^ 63) : lN a / lN d = lN (a / d) := by
  apply Int64.toInt_inj.mp
  have hq : a / d ≤ a := Nat.div_le_self _ _
  rw [Int64.toInt_div, lN_t63 ha, lN_t63 hd, lN_t63 (by omega), ← Int.ofNat_tdiv]
  generalize a / d = e at hq ⊢
  exact Int.bmod_eq_of_le (by omega) (by omega)
theorem lN_rem {a d : Nat} (ha : a < 2 ^ 63) (hd : d < 2 ^ 63) : lN a - lN a / lN d * lN d = lN (a % d) := by
  rw [lN_div ha hd, lN_mul, lN_sub (Nat.div_mul_le_self a d)]
  exact congrArg lN (by have := Nat.div_add_mod' a d; omega)
def nx (x : Nat) : Nat := (x * 1103515245 + 12345) % 2147483648
theorem nx_lt (x : Nat) : nx x < 2 ^ 31 := Nat.mod_lt _ (by decide)
theorem nx_l {x : Nat} (hx : x < 2 ^ 31) : lN x * (1103515245 : Int64) + (12345 : Int64) - (lN x * (1103515245 : Int64) + (12345 : Int64)) / (2147483648 : Int64) * (2147483648 : Int64) = lN (nx x) := by
  have h1 : x * 1103515245 ≤ 2 ^ 31 * 1103515245 := Nat.mul_le_mul_right _ (by omega)
  rw [show (1103515245 : Int64) = lN 1103515245 from rfl, show (12345 : Int64) = lN 12345 from rfl, show (2147483648 : Int64) = lN 2147483648 from rfl, lN_mul, lN_add, lN_rem (by omega) (by decide)]
  rfl
/-- the room drawn -/
def drR (m x : Nat) : Nat := (bl m).getD (x / 65536 % pc m) 0
def rkB (m i : Nat) : Nat := (List.range i).countP (fun r => m.testBit r)
def drOk (m i : Nat) : Bool := decide (iter (sX11_drawRoom_21 (fun _ _ => 0)) 6 (nI m, nI i) = some (nI ((bl m).getD i 0))) && (m.testBit ((bl m).getD i 0) && decide (rkB m ((bl m).getD i 0) = i) && (List.range ((bl m).getD i 0)).all fun r => !m.testBit r || decide (rkB m r < i))
theorem dr_all : ((List.range 32).all fun m => (List.range (bl m).length).all fun i => drOk m i) = true := by decide +kernel
theorem dr_get {m i : Nat} (hm : m < 32) (hi : i < (bl m).length) : iter (sX11_drawRoom_21 (fun _ _ => 0)) 6 (nI m, nI i) = some (nI ((bl m).getD i 0)) ∧ m.testBit ((bl m).getD i 0) = true ∧ rkB m ((bl m).getD i 0) = i ∧ ∀ r, r < (bl m).getD i 0 → m.testBit r = true → rkB m r < i := by
  have h := dr_all
  rw [List.all_eq_true] at h
  have h2 := h m (List.mem_range.mpr hm)
  rw [List.all_eq_true] at h2
  have h3 := h2 i (List.mem_range.mpr hi)
  unfold drOk at h3
  rw [Bool.and_eq_true, Bool.and_eq_true, Bool.and_eq_true, decide_eq_true_iff, decide_eq_true_iff, List.all_eq_true] at h3
  obtain ⟨a, ⟨b, c⟩, d⟩ := h3
  refine ⟨a, b, c, fun r hr hb => ?_⟩
  have := d r (List.mem_range.mpr hr)
  rw [hb, Bool.not_true, Bool.false_or, decide_eq_true_iff] at this
  exact this
theorem rk_s (m i : Nat) : rkB m (i + 1) = rkB m i + if m.testBit i = true then 1 else 0 := by
  unfold rkB
  rw [List.range_succ, List.countP_append, List.countP_cons, List.countP_nil, Nat.zero_add]
theorem pc_pos {m : Nat} (hm : m < 32) (h0 : m ≠ 0) : 0 < pc m := by
  have : ∀ m, m < 32 → m ≠ 0 → 0 < pc m := by decide +kernel
  exact this m hm h0
theorem drawRoom_n {m x : Nat} {I : Mem} (hm : m < 32) (h0 : m ≠ 0) (hx : x < 2 ^ 31) : fX11_drawRoom (nI m) (lN (x / 65536)) I = some (nI (drR m x)) := by
  have hp := pc_pos hm h0
  have hl := bl_len m hm
  have h5 := bl_len5 m
  have hi : x / 65536 % pc m < pc m := Nat.mod_lt _ hp
  unfold fX11_drawRoom
  have hq : x / 65536 ≤ x := Nat.div_le_self _ _
  rw [bnd_s (popc _ hm), if_neg (nI_ne0 hp (by omega)), nI_l (by omega), chk_t (decide_eq_true (p := ¬ lN (pc m) = 0) (fun q => by have := (lN_eq (b := 0) (show pc m < 2 ^ 31 by omega) (by decide)).mp q; omega)), lN_rem (by omega) (by omega), lN_i]
  have h4 : sX11_drawRoom_21 I = sX11_drawRoom_21 (fun _ _ => 0) := rfl
  dsimp only [letb]
  rw [h4]
  exact iter_more (dr_get hm (by omega)).1 (by decide)
theorem drM_loop {m i : Nat} {x2 x3 x6 x7 x8 x9 : Int32} {l4 : Int64} {k : Nat} {I : Mem} (hm : m < 32) (hi : i < (bl m).length) : iter (sX12_drawn_140 x2 x3 l4 x6 x7 x8 x9 (nI k) (nI m) I) FU (nI i, (0 : Int32)) = some (.inl (l4, x9 ||| (nI ((bl m).getD i 0) <<< (((3 : Int32) * nI k) &&& 31)), nI (k + 1))) := by
  obtain ⟨-, h2, h3, h4⟩ := dr_get hm hi
  have h5 := bl_len5 m
  have h6 := getD_lt5 m i
  generalize (bl m).getD i 0 = t at h2 h3 h4 h6
  have hrk : ∀ j, j ≤ t → rkB m j ≤ i := fun j hj => by
    rw [← h3]
    unfold rkB
    obtain ⟨d, rfl⟩ : ∃ d, t = j + d := ⟨t - j, by omega⟩
    rw [List.range_add, List.countP_append]
    omega
  have e0 : (nI i, (0 : Int32)) = (fun j => (nI (i - rkB m j), nI j)) 0 := rfl
  rw [e0]
  refine iter_go (fun j => (nI (i - rkB m j), nI j)) t (FU_lt (by omega)) ?_ (fun j hj => ?_)
  · unfold sX12_drawn_140 bX12_drawn_140
    dsimp only
    rw [bnd_s (hasM_n _ (by omega) (by omega)), h2, if_neg (by decide), h3, Nat.sub_self, if_pos (show nI 0 ≤ 0 by decide), nI_1]
    rfl
  · unfold sX12_drawn_140 bX12_drawn_140
    dsimp only
    have hjj : jX12_drawn_155 x2 x3 l4 x6 x7 x8 x9 (nI k) (nI m) (nI (i - rkB m j)) (nI j) I = some (.inl (nI (i - rkB m (j + 1)), nI (j + 1))) := by
      unfold jX12_drawn_155
      have := hrk (j + 1) (by omega)
      rw [bnd_s (hasM_n _ (by omega) (by omega)), nI_1, rk_s]
      rw [rk_s] at this
      cases hb : m.testBit j with
      | false => rw [if_pos (by decide), if_neg (by decide), Nat.add_zero]; dsimp only [letb]; rw [show nI (i - rkB m j) - (0 : Int32) = nI (i - rkB m j) by simp]; rfl
      | true =>
        rw [hb, if_pos rfl] at this
        rw [if_neg (by decide), if_pos rfl]
        dsimp only [letb]
        rw [show (1 : Int32) = nI 1 from rfl, pk_sub (by omega), show i - rkB m j - 1 = i - (rkB m j + 1) by omega]
    rw [bnd_s (hasM_n _ (by omega) (by omega)), hjj]
    cases hb : m.testBit j with
    | false => rfl
    | true =>
      have := h4 j hj hb
      rw [if_neg (by decide), if_neg (show ¬ nI (i - rkB m j) ≤ 0 by rw [show (0 : Int32) = nI 0 from rfl, nI_leI (by omega) (by omega)]; omega)]
/-- all that a beat draws -/
def dwX (D : Nat → Nat) (s x : Nat) : Nat → Nat × Nat
  | 0 => (x, 0)
  | k + 1 => (nx (dwX D s x k).1, (dwX D s x k).2 + drR (D (dg s k) ||| 2 ^ dg s k) (nx (dwX D s x k).1) * 8 ^ k)
theorem dwX_lt (D : Nat → Nat) (s x : Nat) (hx : x < 2 ^ 31) : ∀ k, (dwX D s x k).1 < 2 ^ 31 ∧ (dwX D s x k).2 < 8 ^ k ∧ ∀ p, p < k → dg (dwX D s x k).2 p < 5
  | 0 => ⟨hx, Nat.one_pos, fun p hp => by omega⟩
  | k + 1 => by
    obtain ⟨h1, h2, h3⟩ := dwX_lt D s x hx k
    have h5 : drR (D (dg s k) ||| 2 ^ dg s k) (nx (dwX D s x k).1) < 5 := getD_lt5 _ _
    refine ⟨nx_lt _, add_lt8 h2 (by omega), fun p hp => ?_⟩
    rw [dwX, dg_add h2 (by omega)]
    by_cases c : p < k
    · rw [if_pos c]; exact h3 p c
    · rw [if_neg c, if_pos (by omega)]; exact h5
/-- beats drawn one behind the other: the seed, where all are, what was laid -/
def outX (A D : Nat → Nat) (x w : Nat) : Nat → Nat × Nat × Nat
  | 0 => (x, w, 0)
  | i + 1 => ((dwX D (outX A D x w i).2.1 (outX A D x w i).1 (A 3)).1, (dwX D (outX A D x w i).2.1 (outX A D x w i).1 (A 3)).2, (outX A D x w i).2.2 + cnt (layB (A 3) (A 4) (A 1) (A 2 + i + 1) (outX A D x w i).2.1 (dwX D (outX A D x w i).2.1 (outX A D x w i).1 (A 3)).2) (A 3))
theorem outX_lt {A D : Nat → Nat} {x w : Nat} (hx : x < 2 ^ 31) (h3 : A 3 ≤ 4) (hw : w < 8 ^ A 3) (hwd : ∀ p, p < A 3 → dg w p < 5) : ∀ i, (outX A D x w i).1 < 2 ^ 31 ∧ (outX A D x w i).2.1 < 8 ^ A 3 ∧ ∀ p, p < A 3 → dg (outX A D x w i).2.1 p < 5
  | 0 => ⟨hx, hw, hwd⟩
  | i + 1 => dwX_lt D _ _ (outX_lt hx h3 hw hwd i).1 (A 3)
theorem or_ne0 (a r : Nat) : a ||| 2 ^ r ≠ 0 := by
  intro h
  have := congrArg (fun m => Nat.testBit m r) h
  simp [Nat.testBit_or, Nat.testBit_two_pow] at this
/-- the trial's house, its law and doors too -/
def TR2 (I J : Mem) (A D : Nat → Nat) (s bt : Nat) : Prop := TR I J A s bt ∧ J 9 4 = nI (A 1) ∧ ∀ q, q < 5 → J 10 q = nI (D q)
theorem TR2.go {I J : Mem} {A D : Nat → Nat} {s bt t law : Nat} (h : TR2 I J A D s bt) (h0 : A 0 ≤ 5) (h3 : A 3 ≤ 4) (h4 : A 4 < 32) (hb : bt < 2 ^ 30) (hl : law ≤ 4) (hs : s < 2 ^ 31) (ht : t < 2 ^ 31) (hv : ∀ p, p < A 3 → dg t p < 5) : ∃ K, fX4_go 9 (nI t) (38 + law) J = some (nI (cnt (layB (A 3) (A 4) law (bt + 1) s t) (A 3)), K) ∧ TR2 I K A D t (bt + 1) := by
  obtain ⟨K, k1, k2⟩ := h.1.go (law := law) h0 h3 h4 hb hl hs ht hv
  obtain ⟨⟨t0, t1, t2, t3, t5, tc⟩, g4, gd⟩ := h
  have hgo := go_n (b := 9) t0 h0 t2 h3 t1 h4 t3 t5 hb hl hs ht hv
  have k1' := k1
  rw [hgo] at k1'
  have e := (Prod.mk.inj (Option.some.inj k1')).2
  refine ⟨K, k1, k2, ?_, fun q hq => ?_⟩
  · rw [← e, GM_c (by decide) (by decide), up2_i (by decide), up2_i (by decide)]; exact g4
  · rw [← e, GM_c (by decide) (by decide), up2_cc (by decide), up2_cc (by decide)]; exact gd q hq
theorem onc_lt32 {s : Nat} : ∀ {n : Nat}, (∀ p, p < n → dg s p < 5) → onc s n < 32
  | 0, _ => by show 0 < 32; decide
  | n + 1, h => by
    rw [onc]
    exact or_lt32 (onc_lt32 (fun p hp => h p (by omega))) (h n (by omega))
theorem peopled_n {b np s : Nat} {I : Mem} (g2 : I b 2 = nI np) (hnp : np ≤ 4) (g3 : I b 3 = nI s) (hs : s < 2 ^ 31) : fX4_peopled b I = some (nI (onc s np)) := by
  unfold fX4_peopled
  have e0 : ((0 : Int32), (0 : Int32)) = (fun i => (nI (onc s i), nI i)) 0 := rfl
  rw [e0]
  refine iter_go (fun i => (nI (onc s i), nI i)) np (FU_lt (by omega)) ?_ (fun i hi => ?_)
  · unfold sX4_peopled_4 bX4_peopled_4
    dsimp only
    rw [g2, if_pos (by rw [nI_leI (by omega) (by omega)]; omega)]
  · unfold sX4_peopled_4 bX4_peopled_4
    dsimp only
    have := dg_lt s i
    rw [g2, if_neg (by rw [nI_leI (by omega) (by omega)]; omega), g3, bnd_s (roomOf_n I hs (by omega)), n_one (by omega), n_or, nI_1, onc]
    rfl
theorem drawX_in {A D : Nat → Nat} {x2 x3 x6 x7 : Int32} {I M : Mem} {s x bt : Nat} (h : TR2 I M A D s bt) (h0 : A 0 ≤ 5) (h3 : A 3 ≤ 4) (h4 : A 4 < 32) (hl : A 1 ≤ 4) (hb : bt < 2 ^ 30) (hs : s < 2 ^ 31) (hsd : ∀ p, p < A 3 → dg s p < 5) (hx : x < 2 ^ 31) (hD : ∀ q, q < 5 → D q < 32) : ∃ K, iter (sX11_drawn_69 x2 x3 x6 x7 M) FU (lN x, (0 : Int32), (0 : Int32)) = some (.inl (lN (dwX D s x (A 3)).1, x6 + nI (cnt (layB (A 3) (A 4) (A 1) (bt + 1) s (dwX D s x (A 3)).2) (A 3)), x7 + 1, K)) ∧ TR2 I K A D (dwX D s x (A 3)).2 (bt + 1) := by
  have hdl := dwX_lt D s x hx
  have h8 := pow8_le h3
  have hd3 := hdl (A 3)
  obtain ⟨K, k1, k2⟩ := h.go (t := (dwX D s x (A 3)).2) (law := A 1) h0 h3 h4 hb hl hs (by omega) hd3.2.2
  refine ⟨K, ?_, k2⟩
  obtain ⟨⟨t0, t1, t2, t3, t5, tc⟩, g4, gd⟩ := h
  have e0 : (lN x, (0 : Int32), (0 : Int32)) = (fun i => (lN (dwX D s x i).1, nI (dwX D s x i).2, nI i)) 0 := rfl
  rw [e0]
  refine iter_go (fun i => (lN (dwX D s x i).1, nI (dwX D s x i).2, nI i)) (A 3) (FU_lt (by omega)) ?_ (fun i hi => ?_)
  · unfold sX11_drawn_69 bX11_drawn_69
    dsimp only
    rw [t2, if_pos (by rw [nI_leI (by omega) (by omega)]; omega), g4, chk_t (inb_n (by omega) (by decide)), ix_n (by omega), bnd_s (asL_n _ (by omega)), bnd2_s k1]
    rfl
  · unfold sX11_drawn_69 bX11_drawn_69
    dsimp only
    obtain ⟨a1, a2, a3⟩ := hdl i
    have hsi := hsd i hi
    have hm := or_lt32 (hD _ hsi) hsi
    have h5 : drR (D (dg s i) ||| 2 ^ dg s i) (nx (dwX D s x i).1) < 5 := getD_lt5 _ _
    have hbb : drR (D (dg s i) ||| 2 ^ dg s i) (nx (dwX D s x i).1) * 2 ^ (3 * i) < 2 ^ 32 := by
      have h1 : 2 ^ (3 * i) ≤ 2 ^ 9 := Nat.pow_le_pow_right (by decide) (by omega)
      have h2 : drR (D (dg s i) ||| 2 ^ dg s i) (nx (dwX D s x i).1) * 2 ^ (3 * i) ≤ 7 * 2 ^ 9 := Nat.mul_le_mul (by omega) h1
      omega
    have hnx := nx_lt (dwX D s x i).1
    rw [t2, if_neg (by rw [nI_leI (by omega) (by omega)]; omega), nx_l a1]
    dsimp only [letb]
    rw [t3, bnd_s (roomOf_n _ hs (by omega)), bnd_s (reach_n hsi (gd _ hsi)), show lN (nx (dwX D s x i).1) / (65536 : Int64) = lN (nx (dwX D s x i).1 / 65536) from lN_div (d := 65536) (by omega) (by decide), bnd_s (drawRoom_n hm (or_ne0 _ _) hnx), show (3 : Int32) = nI 3 from rfl, pk_mul, n_shl (by omega) hbb, n_or, or_add8 a2, nI_1, dwX]
theorem drawM_in {A D : Nat → Nat} {x2 x3 x7 : Int32} {K : Mem} {s x k : Nat} (hr : ∀ k, (k < 15 ∨ k = 44 ∨ k = 53) → K 75 k = nI (A k)) (hDq : ∀ q, A (5 + q) = D q) (h3 : A 3 ≤ 4) (h4 : A 4 < 32) (hl : A 1 ≤ 4) (hb : A 2 + k < 2 ^ 30) (hs : s < 2 ^ 31) (hsd : ∀ p, p < A 3 → dg s p < 5) (hx : x < 2 ^ 31) (hD : ∀ q, q < 5 → D q < 32) : iter (sX12_drawn_69 x2 x3 (nI s) x7 (nI (k + 1)) K) FU (lN x, (0 : Int32), (0 : Int32)) = some (.inl (lN (dwX D s x (A 3)).1, nI (dwX D s x (A 3)).2, x7 + nI (cnt (layB (A 3) (A 4) (A 1) (A 2 + k + 1) s (dwX D s x (A 3)).2) (A 3)), nI (k + 1 + 1))) := by
  have hdl := dwX_lt D s x hx
  have h8 := pow8_le h3
  have hd3 := hdl (A 3)
  have e0 : (lN x, (0 : Int32), (0 : Int32)) = (fun i => (lN (dwX D s x i).1, nI (dwX D s x i).2, nI i)) 0 := rfl
  rw [e0]
  refine iter_go (fun i => (lN (dwX D s x i).1, nI (dwX D s x i).2, nI i)) (A 3) (FU_lt (by omega)) ?_ (fun i hi => ?_)
  · unfold sX12_drawn_69 bX12_drawn_69
    dsimp only
    rw [chk_t (by decide), show ix (3 : Int32) = 3 from rfl, hr 3 (Or.inl (by decide)), if_pos (by rw [nI_leI (by omega) (by omega)]; omega), chk_t (by decide), chk_t (by decide), show ix (1 : Int32) = 1 from rfl, show ix (2 : Int32) = 2 from rfl, hr 1 (Or.inl (by decide)), hr 2 (Or.inl (by decide)), nI_add, bnd_s (laid_n (np := A 3) (ct := A 4) (hr 3 (Or.inl (by decide))) h3 (hr 4 (Or.inl (by decide))) h4 hl (by omega) hs (by omega)), nI_1, show A 2 + (k + 1) = A 2 + k + 1 from rfl]
    rfl
  · unfold sX12_drawn_69 bX12_drawn_69
    dsimp only
    obtain ⟨a1, a2, a3⟩ := hdl i
    have hsi := hsd i hi
    have hm := or_lt32 (hD _ hsi) hsi
    have h5 : drR (D (dg s i) ||| 2 ^ dg s i) (nx (dwX D s x i).1) < 5 := getD_lt5 _ _
    have hbb : drR (D (dg s i) ||| 2 ^ dg s i) (nx (dwX D s x i).1) * 2 ^ (3 * i) < 2 ^ 32 := by
      have h1 : 2 ^ (3 * i) ≤ 2 ^ 9 := Nat.pow_le_pow_right (by decide) (by omega)
      have h2 : drR (D (dg s i) ||| 2 ^ dg s i) (nx (dwX D s x i).1) * 2 ^ (3 * i) ≤ 7 * 2 ^ 9 := Nat.mul_le_mul (by omega) h1
      omega
    have hnx := nx_lt (dwX D s x i).1
    have hp := pc_pos hm (or_ne0 _ _)
    have hl5 := bl_len _ hm
    have h55 := bl_len5 (D (dg s i) ||| 2 ^ dg s i)
    have hq : nx (dwX D s x i).1 / 65536 ≤ nx (dwX D s x i).1 := Nat.div_le_self _ _
    have hmod : nx (dwX D s x i).1 / 65536 % pc (D (dg s i) ||| 2 ^ dg s i) < pc (D (dg s i) ||| 2 ^ dg s i) := Nat.mod_lt _ hp
    rw [chk_t (by decide), show ix (3 : Int32) = 3 from rfl, hr 3 (Or.inl (by decide)), if_neg (by rw [nI_leI (by omega) (by omega)]; omega), nx_l a1]
    dsimp only [letb]
    rw [bnd_s (roomIn_n _ hs (by omega)), show (5 : Int32) = nI 5 from rfl, nI_add, chk_t (inb_n (by omega) (by decide)), bnd_s (roomIn_n _ hs (by omega)), ix_n (by omega), hr _ (Or.inl (by omega)), hDq, n_one (by omega), n_or, bnd_s (bits_n _ hm), chk_t (decide_eq_true (p := ¬ nI (pc (D (dg s i) ||| 2 ^ dg s i)) = 0) (nI_ne0 hp (by omega))), show lN (nx (dwX D s x i).1) / (65536 : Int64) = lN (nx (dwX D s x i).1 / 65536) from lN_div (d := 65536) (by omega) (by decide), lN_i, pk_rem (by omega) hp (by omega), drM_loop hm (by omega), show (3 : Int32) = nI 3 from rfl, pk_mul, show (bl (D (dg s i) ||| 2 ^ dg s i)).getD (nx (dwX D s x i).1 / 65536 % pc (D (dg s i) ||| 2 ^ dg s i)) 0 = drR (D (dg s i) ||| 2 ^ dg s i) (nx (dwX D s x i).1) from rfl, n_shl (by omega) hbb, n_or, or_add8 a2, dwX]
theorem ok_drawn {T : Nat} {I : Mem} (h : Sim T I) (hT : T ≤ 1000) (x1 x2 x3 : Int32) : OK T I (fX11_drawn x1 x2 x3) (fX12_drawn x1 x2 x3) := by
  obtain ⟨A, w, pw, hc, hv, hb, ⟨g0, g1, g2, g3, g4, g5, g6, g7⟩, gd, gp, hr⟩ := h.get
  have hn : (1 ≤ A 0 ∧ A 0 ≤ 5) ∧ A 3 ≤ 4 ∧ A 4 < 2 ^ A 0 ∧ A 1 ≤ 4 ∧ A 2 ≤ T := by unfold BA at hb; omega
  have h32 := pow_le32 hn.1.2
  have h8 := pow8_le hn.2.1
  have hlt := hb.dg.lt hn.1.2
  have hw := hv.2.2.1
  have hwl := hw.lt hn.2.1
  have hwd : ∀ p, p < A 3 → dg w p < 5 := fun p hp => by have := hw.2 p hp; omega
  have badX : jX11_drawn_29 I = some (-2, up2 I 0 10 (I 0 10 + 1)) := rfl
  have badM : jX12_drawn_34 (up2 I 0 10 (I 0 10 + 1)) = some (-2, up2 (up2 I 0 10 (I 0 10 + 1)) 78 0 (up2 I 0 10 (I 0 10 + 1) 78 0 + 1)) := rfl
  rcases rng x1 0 999999 (by decide) with ⟨x, -, hx, rfl⟩ | hf
  · have c1 : ¬ nI x < 0 := nI_pos (by omega)
    have c2 : ¬ (999999 : Int32) < nI x := nI_nlt (a := 999999) hx (by decide)
    rcases rng x2 0 20 (by decide) with ⟨y, -, hy, rfl⟩ | hf
    · have c3 : ¬ nI y < 0 := nI_pos (by omega)
      have c4 : ¬ (20 : Int32) < nI y := nI_nlt (a := 20) hy (by decide)
      rcases rng x3 0 1 (by decide) with ⟨z, -, hz, rfl⟩ | hf
      · have c5 : ¬ nI z < 0 := nI_pos (by omega)
        have c6 : nI z ≤ 1 := by rw [show (1 : Int32) = nI 1 from rfl, nI_leI (by omega) (by omega)]; exact hz
        obtain ⟨J, j1, jt, j4, jj⟩ := copyT (I := I) (A := A) (w := w) ⟨g0, g1, g2, g3, g4, g5⟩
        generalize hD : (fun q => A (5 + q)) = D
        have hDq : ∀ q, A (5 + q) = D q := fun q => by rw [← hD]
        have hD32 : ∀ q, q < 5 → D q < 32 := fun q hq => by rw [← hDq]; exact hlt q hq
        have jd : ∀ q, q < 5 → J 10 q = nI (D q) := fun q hq => by
          have := jj 1 (by decide) q hq
          rw [show (9 : Nat) + 1 = 10 from rfl, show (1 : Nat) + 1 = 2 from rfl] at this
          rw [this, gd q hq, hDq]
        have ho := outX_lt (A := A) (D := D) (x := x) (w := w) (by omega) hn.2.1 hw.1 hwd
        generalize hR : (if z = 0 then nI (outX A D x w y).2.2 else nI (pc (onc (outX A D x w y).2.1 (A 3)))) = R
        have key := iter_invF (s := sX11_drawn_57 (nI y) (nI z)) (fun i q => q.1 = lN (outX A D x w i).1 ∧ q.2.1 = nI (outX A D x w i).2.2 ∧ q.2.2.1 = nI i ∧ TR2 I q.2.2.2 A D (outX A D x w i).2.1 (A 2 + i)) (fun r => r.1 = R ∧ ∀ c, (c < 9 ∨ 17 ≤ c) → r.2 c = I c) y (FU_lt (by omega)) (x := (lN x, (0 : Int32), (0 : Int32), J)) ⟨rfl, rfl, rfl, jt, j4, jd⟩ (fun i q hi hq => ?_) (fun q hq => ?_)
        · obtain ⟨⟨r1, K⟩, k1, k2, k3⟩ := key
          dsimp only at k2 k3
          refine ⟨R, K, K, ?_, ?_, h.trial (fun c q1 _ => k3 c q1)⟩
          · unfold fX11_drawn
            rw [if_neg c1]
            dsimp only [letb]
            rw [if_neg c2, if_neg c3, if_neg c4, if_neg c5, if_pos c6, bnd_s j1, nI_l (by omega), k1, k2]
          · have K75 : K 75 = I 75 := k3 75 (by omega)
            have hrK : ∀ k, (k < 15 ∨ k = 44 ∨ k = 53) → K 75 k = nI (A k) := fun k hk => by rw [K75]; exact hr k hk
            unfold fX12_drawn
            rw [bnd_s (in_t (lo := 0) (hi := 999999) rfl rfl (by omega) hx (by omega)), if_neg (by decide), bnd_s (in_t (lo := 0) (hi := 20) rfl rfl (by omega) hy (by omega)), if_neg (by decide), bnd_s (in_t (lo := 0) (hi := 1) rfl rfl (by omega) hz (by omega)), if_neg (by decide)]
            dsimp only [letb]
            rw [bnd_s (show fX12_now K = some (nI w) from now_v (T := T) (pw := pw) (A := A) (by rw [K75]; exact hv)), nI_l (by omega)]
            have e0 : (lN x, nI w, (0 : Int32), (1 : Int32)) = (fun i => (lN (outX A D x w i).1, nI (outX A D x w i).2.1, nI (outX A D x w i).2.2, nI (i + 1))) 0 := rfl
            rw [e0]
            refine iter_go (fun i => (lN (outX A D x w i).1, nI (outX A D x w i).2.1, nI (outX A D x w i).2.2, nI (i + 1))) y (FU_lt (by omega)) ?_ (fun i hi => ?_)
            · unfold sX12_drawn_57 bX12_drawn_57
              dsimp only
              have hoy := ho y
              rw [if_pos (nI_lt (by omega) (by omega))]
              refine inrO_s ?_
              have e1 : ((0 : Int32), (0 : Int32)) = (fun i => (nI (onc (outX A D x w y).2.1 i), nI i)) 0 := rfl
              rw [e1]
              refine iter_go (fun i => (nI (onc (outX A D x w y).2.1 i), nI i)) (A 3) (FU_lt (by omega)) ?_ (fun i hi => ?_)
              · unfold sX12_drawn_243 bX12_drawn_243
                dsimp only
                rw [chk_t (by decide), show ix (3 : Int32) = 3 from rfl, hrK 3 (Or.inl (by decide)), if_pos (by rw [nI_leI (by omega) (by omega)]; omega), ← hR]
                by_cases cz : z = 0
                · rw [if_pos (show nI z = 0 by rw [cz]; rfl), if_pos cz]
                · rw [if_neg (nI_ne0 (by omega) (by omega)), if_neg cz, bnd_s (bits_n _ (onc_lt32 hoy.2.2))]
              · unfold sX12_drawn_243 bX12_drawn_243
                dsimp only
                have := dg_lt (outX A D x w y).2.1 i
                rw [chk_t (by decide), show ix (3 : Int32) = 3 from rfl, hrK 3 (Or.inl (by decide)), if_neg (by rw [nI_leI (by omega) (by omega)]; omega), bnd_s (roomIn_n _ (by omega) (by omega)), n_one (by omega), n_or, nI_1, onc]
                rfl
            · unfold sX12_drawn_57 bX12_drawn_57
              dsimp only
              have hoi := ho i
              rw [if_neg (nI_nlt (by omega) (by omega)), drawM_in hrK hDq hn.2.1 (by omega) hn.2.2.2.1 (by omega) (by omega) hoi.2.2 hoi.1 hD32, nI_add, outX]
        · obtain ⟨l4, x6, x7, M⟩ := q
          dsimp only at hq
          obtain ⟨rfl, rfl, rfl, ht⟩ := hq
          have hoi := ho i
          obtain ⟨K, k1, k2⟩ := drawX_in (x2 := nI y) (x3 := nI z) (x6 := nI (outX A D x w i).2.2) (x7 := nI i) (x := (outX A D x w i).1) ht hn.1.2 hn.2.1 (by omega) hn.2.2.2.1 (by omega) (by omega) hoi.2.2 hoi.1 hD32
          refine ⟨(lN (outX A D x w (i + 1)).1, nI (outX A D x w (i + 1)).2.2, nI (i + 1), K), ?_, rfl, rfl, rfl, k2⟩
          unfold sX11_drawn_57 bX11_drawn_57
          dsimp only
          rw [if_neg (by rw [nI_leI (by omega) (by omega)]; omega), k1, nI_add, nI_1]
          rfl
        · obtain ⟨l4, x6, x7, M⟩ := q
          dsimp only at hq
          obtain ⟨rfl, rfl, rfl, ht⟩ := hq
          have hoy := ho y
          refine ⟨(R, M), ?_, rfl, ht.1.2.2.2.2.2⟩
          unfold sX11_drawn_57 bX11_drawn_57
          dsimp only
          rw [if_pos (by rw [nI_leI (by omega) (by omega)]; omega), ← hR]
          by_cases cz : z = 0
          · rw [if_pos (show nI z = 0 by rw [cz]; rfl), if_pos cz]
          · rw [if_neg (nI_ne0 (by omega) (by omega)), if_neg cz, bnd_s (peopled_n ht.1.2.2.1 hn.2.1 ht.1.2.2.2.1 (by omega)), bnd_s (popc _ (onc_lt32 hoy.2.2))]
      · refine ok_bad h (-2) ?_ ?_
        · unfold fX11_drawn
          rw [if_neg c1]
          dsimp only [letb]
          rw [if_neg c2, if_neg c3, if_neg c4]
          by_cases c : x3 < 0
          · rw [if_pos c]; exact badX
          · rw [if_neg c, if_neg (by rw [x_le, show (1 : Int32).toInt = 1 from rfl]; rw [x_lt, n_toInt0] at c; omega)]; exact badX
        · unfold fX12_drawn
          rw [bnd_s (in_t (lo := 0) (hi := 999999) rfl rfl (by omega) hx (by omega)), if_neg (by decide), bnd_s (in_t (lo := 0) (hi := 20) rfl rfl (by omega) hy (by omega)), if_neg (by decide), bnd_s (in_f (lo := 0) (hi := 1) rfl rfl hf), if_pos (by decide)]
          exact badM
    · refine ok_bad h (-2) ?_ ?_
      · unfold fX11_drawn
        rw [if_neg c1]
        dsimp only [letb]
        rw [if_neg c2]
        by_cases c : x2 < 0
        · rw [if_pos c]; exact badX
        · rw [if_neg c, if_pos (by rw [x_lt, show (20 : Int32).toInt = 20 from rfl]; rw [x_lt, n_toInt0] at c; omega)]; exact badX
      · unfold fX12_drawn
        rw [bnd_s (in_t (lo := 0) (hi := 999999) rfl rfl (by omega) hx (by omega)), if_neg (by decide), bnd_s (in_f (lo := 0) (hi := 20) rfl rfl hf), if_pos (by decide)]
        exact badM
  · refine ok_bad h (-2) ?_ ?_
    · unfold fX11_drawn
      by_cases c : x1 < 0
      · rw [if_pos c]; exact badX
      · rw [if_neg c]
        dsimp only [letb]
        rw [if_pos (by rw [x_lt, show (999999 : Int32).toInt = 999999 from rfl]; rw [x_lt, n_toInt0] at c; omega)]; exact badX
    · unfold fX12_drawn
      rw [bnd_s (in_f (lo := 0) (hi := 999999) rfl rfl hf), if_pos (by decide)]
      exact badM
