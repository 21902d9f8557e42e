/-! ===== the rest of an item, read by both ===== -/
def FrC (M M2 : Mem) : Prop := (∀ c, c ≠ 35 → (c < 9 ∨ 17 ≤ c) → M2 c = M c) ∧ M2 35 0 = M 35 0
def FrM (m : Nat) (K K2 : Mem) : Prop := (∀ x, x ≤ 4 * m → K2 79 x = K 79 x) ∧ (∀ i, (i < 5 ∨ 7 < i) → K2 74 i = K 74 i) ∧ ∀ c, c ≠ 74 → c ≠ 79 → K2 c = K c
theorem FrM.rfl' (m : Nat) (K : Mem) : FrM m K K := ⟨fun _ _ => rfl, fun _ _ => rfl, fun _ _ _ => rfl⟩
theorem FrM.trans {m : Nat} {K K1 K2 : Mem} (h : FrM m K K1) (g : FrM m K1 K2) : FrM m K K2 := ⟨fun x hx => by rw [g.1 x hx]; exact h.1 x hx, fun i hi => by rw [g.2.1 i hi]; exact h.2.1 i hi, fun c q1 q2 => by rw [g.2.2 c q1 q2]; exact h.2.2 c q1 q2⟩
def RST (t : Nat → Nat) (len wd : Nat) (M1 : Mem) (e m : Nat) (A : Nat → Nat) (w : Nat) (W : Nat → Int32) : Prop :=
  ∃ M2, fX8_takeItem 9 M1 = some M2 ∧ FrC M1 M2 ∧
  ((∃ p, p ≤ 200 ∧ M2 35 6 = nI p ∧ ∀ K, MX K t len e m → K 74 10 = nI (A 0) → K 74 11 = nI (A 3) → ∃ K2, fX12_readsRest (nI wd) K = some (0, K2) ∧ K2 74 6 = nI p ∧ FrM m K K2) ∨
   (∃ (j9 : Nat) (A2 : Nat → Nat) (w2 : Nat) (W2 : Nat → Int32), e < j9 ∧ j9 ≤ len ∧ M2 35 6 = -1 ∧ M2 35 4 = nI j9 ∧ HX 9 M2 A2 w2 W2 ∧ GH A2 w2 W2 ∧ A2 0 = A 0 ∧ A2 3 = A 3 + (if wd = 4 then 1 else 0) ∧ ∀ K, MX K t len e m → K 74 10 = nI (A 0) → K 74 11 = nI (A 3) → K 79 (4 * m) = nI wd → ∃ K2, fX12_readsRest (nI wd) K = some (1, K2) ∧ MX K2 t len j9 m ∧ FrM m K K2 ∧ TL (K2 79) m A w W A2 w2 W2))
theorem sk200 {t : Nat → Nat} {len j : Nat} (hl : len ≤ 200) (hj : j ≤ len) : skp t len j ≤ 200 := by have := skp_le (t := t) hj; omega
theorem nm_adv {t : Nat → Nat} {len j lo hb v : Nat} (hj : j ≤ len) (h : nmO t len j lo hb = some v) : j < nxT t len j ∧ nxT t len j ≤ len := by
  have h1 := kd_2.mp (nmO_some h).1
  have h2 := nx_le (t := t) hj
  omega
theorem CT.of {M M2 : Mem} {t : Nat → Nat} {len : Nat} (h : CT M t len) (h1 : M2 35 0 = M 35 0) (h2 : ∀ c, c ≠ 35 → M2 c = M c) : CT M2 t len := h.congr h1 (h2 36 (by decide))
theorem HX.of {M M2 : Mem} {A : Nat → Nat} {w : Nat} {W : Nat → Int32} (h : HX 9 M A w W) (h2 : ∀ c, c ≠ 35 → M2 c = M c) : HX 9 M2 A w W := h.congr (fun c q1 q2 => h2 c (by omega))
theorem r_cat {t : Nat → Nat} {len e m : Nat} {M1 : Mem} {A : Nat → Nat} {w : Nat} {W : Nat → Int32} (hc : CT M1 t len) (h4 : M1 35 4 = nI e) (he : e ≤ len) (h6 : M1 35 6 = -1) (h2 : M1 35 2 = nI 6) (hX : HX 9 M1 A w W) (hG : GH A w W) (hm : m ≤ 80) : RST t len 2 M1 e m A w W := by
  have hA := hG.1
  have hl := hc.1
  have g0 : M1 9 0 = nI (A 0) := hX.1.1
  have g1 : M1 9 1 = nI (A 4) := hX.1.2.1
  obtain ⟨M2, a1, a2, a3, a4, a5, a6⟩ := takeNum_n (lo := 0) (hb := A 0) (x2 := nI (A 0) - 1) hc h4 he h6 (by decide) (n_m1 (by omega))
  have hrd := fun (K : Mem) (hK : MX K t len e m) => reads_n (k := 0) (lo := 0) (hb := A 0) (x3 := nI (A 0) - 1) (u := -1) hK he hm (by omega) (by decide) (n_m1 (by omega))
  have hx : ∀ v M3, fX8_takeNumber (nI 0) (nI (A 0) - 1) M1 = some (nI v, M3) → v < 5 → fX8_takeItem 9 M1 = some (up2 M3 9 1 (nI (A 4 ||| 2 ^ v))) := fun v M3 hv hv5 => by
    unfold fX8_takeItem
    dsimp only [letb]
    rw [h2, if_neg (by decide), if_pos (by decide), g0, bnd2_s (show fX8_takeNumber (0 : Int32) (nI (A 0) - 1) M1 = some (nI v, M3) from hv), g1, n_one (show v < 32 by omega), n_or]
  have hmr : ∀ K : Mem, K 74 10 = nI (A 0) → ∀ z K2, fX12_reads (nI 0) (nI 0) (nI (A 0) - 1) (-1) K = some (b2i z, K2) → fX12_readsRest (nI 2) K = some (b2i z, K2) := fun K h10 z K2 hz => by
    unfold fX12_readsRest jX12_readsRest_97
    dsimp only [letb]
    rw [if_neg (by decide), if_neg (by decide), if_pos (by decide), h10, bnd2_s (show fX12_reads (0 : Int32) (0 : Int32) (nI (A 0) - 1) (-1) K = some (b2i z, K2) from hz), chk_t (b2i_zb z)]
  cases hnm : nmO t len e 0 (A 0) with
  | none =>
    obtain ⟨b1, b2⟩ := a2 hnm
    refine ⟨_, hx 0 M2 b1 (by decide), ⟨fun c q1 q2 => by rw [up2_cc (by omega)]; exact a6 c q1, by rw [up2_c (by decide)]; exact a5⟩, Or.inl ⟨skp t len e, sk200 hl he, by rw [up2_c (by decide)]; exact b2, fun K hK h10 h11 => ⟨K, hmr K h10 false K ((hrd K hK).1 hnm), hK.2.1, FrM.rfl' m K⟩⟩⟩
  | some v =>
    obtain ⟨b1, b2⟩ := a1 v hnm
    obtain ⟨n1, n2, n3, n4⟩ := nmO_some hnm
    have hadv := nm_adv he hnm
    have h32 := pow_le32 hA.2
    refine ⟨_, hx v M2 b1 (by omega), ⟨fun c q1 q2 => by rw [up2_cc (by omega)]; exact a6 c q1, by rw [up2_c (by decide)]; exact a5⟩, Or.inr ⟨nxT t len e, updN A 4 (A 4 ||| 2 ^ v), w, W, hadv.1, hadv.2, by rw [up2_c (by decide)]; exact b2, by rw [up2_c (by decide)]; exact a4, (hX.of a6).cat, hG.upN (Or.inr (Or.inl ⟨rfl, Nat.or_lt_two_pow hG.2.2.2.2.2.2.1 (Nat.pow_lt_pow_right (by decide) n4)⟩)), updN_n (by decide), updN_n (by decide), fun K hK h10 h11 h79 => ?_⟩⟩
    obtain ⟨K2, k1, k2, k3, k4, k5, k6⟩ := ((hrd K hK).2 v hnm).2 (n_ne1 (by omega))
    exact ⟨K2, hmr K h10 true K2 k1, k2, ⟨fun x hx => k4 x (by omega), k5, k6⟩, tl_cat (by omega) (by rw [k4 _ (by omega)]; exact h79) (by rw [← k3]) (by omega)⟩
theorem r_law {t : Nat → Nat} {len e m : Nat} {M1 : Mem} {A : Nat → Nat} {w : Nat} {W : Nat → Int32} (hc : CT M1 t len) (h4 : M1 35 4 = nI e) (he : e ≤ len) (h6 : M1 35 6 = -1) (h2 : M1 35 2 = nI 10) (hX : HX 9 M1 A w W) (hG : GH A w W) (hm : m ≤ 80) : RST t len 6 M1 e m A w W := by
  have hl := hc.1
  obtain ⟨M2, a1, a2, a3, a4, a5, a6⟩ := takeNum_n (lo := 0) (hb := 5) (x2 := 4) hc h4 he h6 (by decide) (by decide)
  have hrd := fun (K : Mem) (hK : MX K t len e m) => reads_n (k := 0) (lo := 0) (hb := 5) (x3 := 4) (u := -1) hK he hm (by omega) (by decide) (by decide)
  have hx : ∀ v M3, fX8_takeNumber (nI 0) 4 M1 = some (nI v, M3) → fX8_takeItem 9 M1 = some (up2 M3 9 4 (nI v)) := fun v M3 hv => by
    unfold fX8_takeItem
    dsimp only [letb]
    rw [h2, if_neg (by decide), if_neg (by decide), if_neg (by decide), if_neg (by decide), if_neg (by decide), if_pos (by decide), bnd2_s (show fX8_takeNumber (0 : Int32) 4 M1 = some (nI v, M3) from hv)]
  have hmr : ∀ K : Mem, ∀ z K2, fX12_reads (nI 0) (nI 0) 4 (-1) K = some (b2i z, K2) → fX12_readsRest (nI 6) K = some (b2i z, K2) := fun K z K2 hz => by
    unfold fX12_readsRest
    dsimp only [letb]
    rw [if_neg (by decide), if_neg (by decide), if_neg (by decide), if_neg (by decide), if_neg (by decide), if_neg (by decide), bnd2_s (show fX12_reads (0 : Int32) (0 : Int32) 4 (-1) K = some (b2i z, K2) from hz), chk_t (b2i_zb z)]
  cases hnm : nmO t len e 0 5 with
  | none =>
    obtain ⟨b1, b2⟩ := a2 hnm
    refine ⟨_, hx 0 M2 b1, ⟨fun c q1 q2 => by rw [up2_cc (by omega)]; exact a6 c q1, by rw [up2_c (by decide)]; exact a5⟩, Or.inl ⟨skp t len e, sk200 hl he, by rw [up2_c (by decide)]; exact b2, fun K hK h10 h11 => ⟨K, hmr K false K ((hrd K hK).1 hnm), hK.2.1, FrM.rfl' m K⟩⟩⟩
  | some v =>
    obtain ⟨b1, b2⟩ := a1 v hnm
    obtain ⟨n1, n2, n3, n4⟩ := nmO_some hnm
    have hadv := nm_adv he hnm
    refine ⟨_, hx v M2 b1, ⟨fun c q1 q2 => by rw [up2_cc (by omega)]; exact a6 c q1, by rw [up2_c (by decide)]; exact a5⟩, Or.inr ⟨nxT t len e, updN A 1 v, w, W, hadv.1, hadv.2, by rw [up2_c (by decide)]; exact b2, by rw [up2_c (by decide)]; exact a4, (hX.of a6).law, hG.upN (Or.inl ⟨rfl, by omega⟩), updN_n (by decide), updN_n (by decide), fun K hK h10 h11 h79 => ?_⟩⟩
    obtain ⟨K2, k1, k2, k3, k4, k5, k6⟩ := ((hrd K hK).2 v hnm).2 (n_ne1 (by omega))
    exact ⟨K2, hmr K true K2 k1, k2, ⟨fun x hx => k4 x (by omega), k5, k6⟩, tl_law (by omega) (by rw [k4 _ (by omega)]; exact h79) (by rw [← k3])⟩
theorem r_person {t : Nat → Nat} {len e m : Nat} {M1 : Mem} {A : Nat → Nat} {w : Nat} {W : Nat → Int32} (hc : CT M1 t len) (h4 : M1 35 4 = nI e) (he : e ≤ len) (h6 : M1 35 6 = -1) (h2 : M1 35 2 = nI 8) (hX : HX 9 M1 A w W) (hG : GH A w W) (hm : m ≤ 80) (h3 : A 3 ≤ 3) : RST t len 4 M1 e m A w W := by
  have hA := hG.1
  have hl := hc.1
  have g0 : M1 9 0 = nI (A 0) := hX.1.1
  have g2 : M1 9 2 = nI (A 3) := hX.1.2.2.1
  have g3 : M1 9 3 = nI w := hX.1.2.2.2.1
  have hw : w < 8 ^ A 3 := hG.2.2.2.2.2.2.2.2.2.2.2.2.1.1
  obtain ⟨M2, a1, a2, a3, a4, a5, a6⟩ := takeNum_n (lo := 0) (hb := A 0) (x2 := nI (A 0) - 1) hc h4 he h6 (by decide) (n_m1 (by omega))
  have hrd := fun (K : Mem) (hK : MX K t len e m) => reads_n (k := 0) (lo := 0) (hb := A 0) (x3 := nI (A 0) - 1) (u := -1) hK he hm (by omega) (by decide) (n_m1 (by omega))
  have hx : ∀ v, fX8_takeNumber (nI 0) (nI (A 0) - 1) M1 = some (nI v, M2) → v < 8 → fX8_takeItem 9 M1 = some (up2 (up2 (up2 M2 9 3 (nI (w + v * 8 ^ A 3))) 9 2 (nI (A 3 + 1))) 9 7 0) := fun v hv hv8 => by
    unfold fX8_takeItem
    dsimp only [letb]
    rw [h2, if_neg (by decide), if_neg (by decide), if_neg (by decide), if_pos (by decide), g2, if_pos (show nI (A 3) < (4 : Int32) from nI_lt (b := 4) (by omega) (by decide)), g0, bnd2_s (show fX8_takeNumber (0 : Int32) (nI (A 0) - 1) M1 = some (nI v, M2) from hv), bnd_s (enter_n (by rw [a6 9 (by decide)]; exact g2) h3 (by rw [a6 9 (by decide)]; exact g3) hw hv8)]
  have hmr : ∀ K : Mem, K 74 10 = nI (A 0) → ∀ z K2, fX12_reads (nI 0) (nI 0) (nI (A 0) - 1) (-1) K = some (b2i z, K2) → fX12_readsRest (nI 4) K = some (b2i z, K2) := fun K h10 z K2 hz => by
    unfold fX12_readsRest jX12_readsRest_97
    dsimp only [letb]
    rw [if_neg (by decide), if_neg (by decide), if_neg (by decide), if_neg (by decide), if_pos (by decide), h10, bnd2_s (show fX12_reads (0 : Int32) (0 : Int32) (nI (A 0) - 1) (-1) K = some (b2i z, K2) from hz), chk_t (b2i_zb z)]
  cases hnm : nmO t len e 0 (A 0) with
  | none =>
    obtain ⟨b1, b2⟩ := a2 hnm
    refine ⟨_, hx 0 b1 (by decide), ⟨fun c q1 q2 => by rw [up2_cc (by omega), up2_cc (by omega), up2_cc (by omega)]; exact a6 c q1, by rw [up2_c (by decide), up2_c (by decide), up2_c (by decide)]; exact a5⟩, Or.inl ⟨skp t len e, sk200 hl he, by rw [up2_c (by decide), up2_c (by decide), up2_c (by decide)]; exact b2, fun K hK h10 h11 => ⟨K, hmr K h10 false K ((hrd K hK).1 hnm), hK.2.1, FrM.rfl' m K⟩⟩⟩
  | some v =>
    obtain ⟨b1, b2⟩ := a1 v hnm
    obtain ⟨n1, n2, n3, n4⟩ := nmO_some hnm
    have hadv := nm_adv he hnm
    refine ⟨_, hx v b1 (by omega), ⟨fun c q1 q2 => by rw [up2_cc (by omega), up2_cc (by omega), up2_cc (by omega)]; exact a6 c q1, by rw [up2_c (by decide), up2_c (by decide), up2_c (by decide)]; exact a5⟩, Or.inr ⟨nxT t len e, updN A 3 (A 3 + 1), w + v * 8 ^ A 3, W, hadv.1, hadv.2, by rw [up2_c (by decide), up2_c (by decide), up2_c (by decide)]; exact b2, by rw [up2_c (by decide), up2_c (by decide), up2_c (by decide)]; exact a4, (hX.of a6).person, hG.person h3 n4, updN_n (by decide), updN_s .., fun K hK h10 h11 h79 => ?_⟩⟩
    obtain ⟨K2, k1, k2, k3, k4, k5, k6⟩ := ((hrd K hK).2 v hnm).2 (n_ne1 (by omega))
    exact ⟨K2, hmr K h10 true K2 k1, k2, ⟨fun x hx => k4 x (by omega), k5, k6⟩, tl_person (by omega) hG (by rw [k4 _ (by omega)]; exact h79) (by rw [← k3]) n4 h3⟩
theorem r_sill {t : Nat → Nat} {len e m : Nat} {M1 : Mem} {A : Nat → Nat} {w : Nat} {W : Nat → Int32} (hc : CT M1 t len) (h4 : M1 35 4 = nI e) (he : e ≤ len) (h6 : M1 35 6 = -1) (h2 : M1 35 2 = nI 7) (hX : HX 9 M1 A w W) (hG : GH A w W) (hm : m ≤ 80) : RST t len 3 M1 e m A w W := by
  have hA := hG.1
  have hl := hc.1
  have g0 : M1 9 0 = nI (A 0) := hX.1.1
  obtain ⟨M2, a1, a2, a3, a4, a5, a6⟩ := takeNum_n (lo := 0) (hb := A 0) (x2 := nI (A 0) - 1) hc h4 he h6 (by decide) (n_m1 (by omega))
  have hrd := fun (K : Mem) (hK : MX K t len e m) => reads_n (k := 0) (lo := 0) (hb := A 0) (x3 := nI (A 0) - 1) (u := -1) hK he hm (by omega) (by decide) (n_m1 (by omega))
  have hx : ∀ v v2 M3, fX8_takeNumber (nI 0) (nI (A 0) - 1) M1 = some (nI v, M2) → v < 5 → fX8_takeNumber (nI 0) 999 M2 = some (nI v2, M3) → fX8_takeItem 9 M1 = some (up2 M3 11 v (nI v2)) := fun v v2 M3 hv hv5 hv2 => by
    unfold fX8_takeItem
    dsimp only [letb]
    rw [h2, if_neg (by decide), if_neg (by decide), if_pos (by decide), g0, bnd2_s (show fX8_takeNumber (0 : Int32) (nI (A 0) - 1) M1 = some (nI v, M2) from hv), bnd2_s (show fX8_takeNumber (0 : Int32) 999 M2 = some (nI v2, M3) from hv2), chk_t (inb_n hv5 (by decide)), ix_n (by omega)]
  cases hnm : nmO t len e 0 (A 0) with
  | none =>
    obtain ⟨b1, b2⟩ := a2 hnm
    have hsk := sk200 (t := t) hl he
    refine ⟨_, hx 0 0 M2 b1 (by decide) (takeNum_f (by rw [b2]; exact n_ne1 (by omega))), ⟨fun c q1 q2 => by rw [up2_cc (by omega)]; exact a6 c q1, by rw [up2_c (by decide)]; exact a5⟩, Or.inl ⟨skp t len e, hsk, by rw [up2_c (by decide)]; exact b2, fun K hK h10 h11 => ⟨K, ?_, hK.2.1, FrM.rfl' m K⟩⟩⟩
    unfold fX12_readsRest
    dsimp only [letb]
    rw [if_neg (by decide), if_neg (by decide), if_neg (by decide), if_pos (by decide), h10, bnd2_s (show fX12_reads (0 : Int32) (0 : Int32) (nI (A 0) - 1) (-1) K = some (0, K) from (hrd K hK).1 hnm), if_pos rfl]
  | some v =>
    obtain ⟨b1, b2⟩ := a1 v hnm
    obtain ⟨n1, n2, n3, n4⟩ := nmO_some hnm
    have hadv := nm_adv he hnm
    have hc2 := hc.of a5 a6
    obtain ⟨M3, c1, c2, c3, c4, c5, c6⟩ := takeNum_n (lo := 0) (hb := 1000) (x2 := 999) hc2 a4 hadv.2 b2 (by decide) (by decide)
    have hrd2 := fun (K : Mem) (hK : MX K t len (nxT t len e) m) => reads_n (k := 1) (lo := 0) (hb := 1000) (x3 := 999) (u := -1) hK hadv.2 hm (by omega) (by decide) (by decide)
    have hfr : ∀ c, c ≠ 35 → M3 c = M1 c := fun c hc => by rw [c6 c hc]; exact a6 c hc
    have hmr : ∀ K : Mem, K 74 10 = nI (A 0) → ∀ z K2 K3, fX12_reads (nI 0) (nI 0) (nI (A 0) - 1) (-1) K = some (1, K2) → fX12_reads (nI 1) (nI 0) 999 (-1) K2 = some (b2i z, K3) → fX12_readsRest (nI 3) K = some (b2i z, K3) := fun K h10 z K2 K3 hz hz2 => by
      unfold fX12_readsRest
      dsimp only [letb]
      rw [if_neg (by decide), if_neg (by decide), if_neg (by decide), if_pos (by decide), h10, bnd2_s (show fX12_reads (0 : Int32) (0 : Int32) (nI (A 0) - 1) (-1) K = some (1, K2) from hz), if_neg (by decide), bnd2_s (show fX12_reads (1 : Int32) (0 : Int32) 999 (-1) K2 = some (b2i z, K3) from hz2)]
      cases z <;> rfl
    cases hnm2 : nmO t len (nxT t len e) 0 1000 with
    | none =>
      obtain ⟨d1, d2⟩ := c2 hnm2
      refine ⟨_, hx v 0 M3 b1 (by omega) d1, ⟨fun c q1 q2 => by rw [up2_cc (by omega)]; exact hfr c q1, by rw [up2_c (by decide), c5]; exact a5⟩, Or.inl ⟨skp t len (nxT t len e), sk200 hl hadv.2, by rw [up2_c (by decide)]; exact d2, fun K hK h10 h11 => ?_⟩⟩
      obtain ⟨K2, k1, k2, k3, k4, k5, k6⟩ := ((hrd K hK).2 v hnm).2 (n_ne1 (by omega))
      exact ⟨K2, hmr K h10 false K2 K2 k1 ((hrd2 K2 k2).1 hnm2), k2.2.1, ⟨fun x hx => k4 x (by omega), k5, k6⟩⟩
    | some v2 =>
      obtain ⟨d1, d2⟩ := c1 v2 hnm2
      obtain ⟨p1, p2, p3, p4⟩ := nmO_some hnm2
      have hadv2 := nm_adv hadv.2 hnm2
      refine ⟨_, hx v v2 M3 b1 (by omega) d1, ⟨fun c q1 q2 => by rw [up2_cc (by omega)]; exact hfr c q1, by rw [up2_c (by decide), c5]; exact a5⟩, Or.inr ⟨nxT t len (nxT t len e), updN A (10 + v) v2, w, W, by omega, hadv2.2, by rw [up2_c (by decide)]; exact d2, by rw [up2_c (by decide)]; exact c4, (hX.of hfr).sill, hG.upN (Or.inr (Or.inr ⟨by omega, by omega, by omega⟩)), updN_n (by omega), updN_n (by omega), fun K hK h10 h11 h79 => ?_⟩⟩
      obtain ⟨K2, k1, k2, k3, k4, k5, k6⟩ := ((hrd K hK).2 v hnm).2 (n_ne1 (by omega))
      obtain ⟨K3, l1, l2, l3, l4, l5, l6⟩ := ((hrd2 K2 k2).2 v2 hnm2).2 (n_ne1 (by omega))
      exact ⟨K3, hmr K h10 true K2 K3 k1 l1, l2, FrM.trans ⟨fun x hx => k4 x (by omega), k5, k6⟩ ⟨fun x hx => l4 x (by omega), l5, l6⟩, tl_sill (by omega) (by rw [l4 _ (by omega), k4 _ (by omega)]; exact h79) (by rw [l4 _ (by omega), ← k3]) (by rw [← l3]) (by omega)⟩
theorem r_door {t : Nat → Nat} {len e m : Nat} {M1 : Mem} {A : Nat → Nat} {w : Nat} {W : Nat → Int32} (hc : CT M1 t len) (h4 : M1 35 4 = nI e) (he : e ≤ len) (h6 : M1 35 6 = -1) (h2 : M1 35 2 = nI 5) (hX : HX 9 M1 A w W) (hG : GH A w W) (hm : m ≤ 80) : RST t len 1 M1 e m A w W := by
  have hA := hG.1
  have hl := hc.1
  have g0 : M1 9 0 = nI (A 0) := hX.1.1
  obtain ⟨M2, a1, a2, a3, a4, a5, a6⟩ := takeNum_n (lo := 0) (hb := A 0) (x2 := nI (A 0) - 1) hc h4 he h6 (by decide) (n_m1 (by omega))
  have hrd := fun (K : Mem) (hK : MX K t len e m) => reads_n (k := 0) (lo := 0) (hb := A 0) (x3 := nI (A 0) - 1) (u := -1) hK he hm (by omega) (by decide) (n_m1 (by omega))
  have hx : ∀ v v2 M3, fX8_takeNumber (nI 0) (nI (A 0) - 1) M1 = some (nI v, M2) → v < 5 → v2 < 5 → fX8_takeNumber (nI 0) (nI (A 0) - 1) M2 = some (nI v2, M3) → fX8_takeItem 9 M1 = if v = v2 then (if M3 35 6 = (-1 : Int32) then jX8_takeItem_85 9 (nI v) (nI v2) (up2 M3 35 6 (M3 35 3)) else jX8_takeItem_85 9 (nI v) (nI v2) M3) else jX8_takeItem_85 9 (nI v) (nI v2) M3 := fun v v2 M3 hv hv5 hv25 hv2 => by
    unfold fX8_takeItem
    dsimp only [letb]
    rw [h2, if_pos (by decide), g0, bnd2_s (show fX8_takeNumber (0 : Int32) (nI (A 0) - 1) M1 = some (nI v, M2) from hv), bnd2_s (show fX8_takeNumber (0 : Int32) (nI (A 0) - 1) M2 = some (nI v2, M3) from hv2)]
    by_cases c : v = v2
    · rw [if_pos (by rw [c]), if_pos c]
    · rw [if_neg (by rw [nI_eq (by omega) (by omega)]; exact c), if_neg c]
  cases hnm : nmO t len e 0 (A 0) with
  | none =>
    obtain ⟨b1, b2⟩ := a2 hnm
    have hsk := sk200 (t := t) hl he
    have hne : ¬ M2 35 6 = -1 := by rw [b2]; exact n_ne1 (by omega)
    obtain ⟨M4, d1, d2⟩ := lay85_f (M := M2) (show 0 < 5 by decide) (show 0 < 5 by decide)
    refine ⟨M4, ?_, ⟨fun c q1 q2 => by rw [d2 c (by omega)]; exact a6 c q1, by rw [d2 35 (by decide)]; exact a5⟩, Or.inl ⟨skp t len e, hsk, by rw [d2 35 (by decide)]; exact b2, fun K hK h10 h11 => ⟨K, ?_, hK.2.1, FrM.rfl' m K⟩⟩⟩
    · rw [hx 0 0 M2 b1 (by decide) (by decide) (takeNum_f hne), if_pos rfl, if_neg hne]
      exact d1
    · unfold fX12_readsRest
      dsimp only [letb]
      rw [if_neg (by decide), if_pos (by decide), h10, bnd2_s (show fX12_reads (0 : Int32) (0 : Int32) (nI (A 0) - 1) (-1) K = some (0, K) from (hrd K hK).1 hnm), if_pos rfl]
  | some v =>
    obtain ⟨b1, b2⟩ := a1 v hnm
    obtain ⟨n1, n2, n3, n4⟩ := nmO_some hnm
    have hadv := nm_adv he hnm
    have hc2 := hc.of a5 a6
    obtain ⟨M3, c1, c2, c3, c4, c5, c6⟩ := takeNum_n (lo := 0) (hb := A 0) (x2 := nI (A 0) - 1) hc2 a4 hadv.2 b2 (by decide) (n_m1 (by omega))
    have hrd2 := fun (K : Mem) (hK : MX K t len (nxT t len e) m) => reads_n (k := 1) (lo := 0) (hb := A 0) (x3 := nI (A 0) - 1) (u := nI v) hK hadv.2 hm (by omega) (by decide) (n_m1 (by omega))
    have hfr : ∀ c, c ≠ 35 → M3 c = M1 c := fun c hc => by rw [c6 c hc]; exact a6 c hc
    have hmr : ∀ K : Mem, K 74 10 = nI (A 0) → ∀ z K2 K3, fX12_reads (nI 0) (nI 0) (nI (A 0) - 1) (-1) K = some (1, K2) → K2 74 9 = nI m → K2 79 (4 * m + 1 + 0) = nI v → fX12_reads (nI 1) (nI 0) (nI (A 0) - 1) (nI v) K2 = some (b2i z, K3) → fX12_readsRest (nI 1) K = some (b2i z, K3) := fun K h10 z K2 K3 hz h9 hv hz2 => by
      unfold fX12_readsRest
      dsimp only [letb]
      rw [if_neg (by decide), if_pos (by decide), h10, bnd2_s (show fX12_reads (0 : Int32) (0 : Int32) (nI (A 0) - 1) (-1) K = some (1, K2) from hz), if_neg (by decide), h9, show (4 : Int32) * nI m + (1 : Int32) = nI (4 * m + 1) by rw [show (4 : Int32) = nI 4 from rfl, pk_mul, nI_1], chk_t (inb_n (show 4 * m + 1 < 400 by omega) (by decide)), ix_n (show 4 * m + 1 < 2 ^ 31 by omega), show K2 79 (4 * m + 1) = nI v from hv, bnd2_s (show fX12_reads (1 : Int32) (0 : Int32) (nI (A 0) - 1) (nI v) K2 = some (b2i z, K3) from hz2)]
      cases z <;> rfl
    cases hnm2 : nmO t len (nxT t len e) 0 (A 0) with
    | none =>
      obtain ⟨d1, d2⟩ := c2 hnm2
      have hsk := sk200 (t := t) hl hadv.2
      have hne : ¬ M3 35 6 = -1 := by rw [d2]; exact n_ne1 (by omega)
      obtain ⟨M4, f1, f2⟩ := lay85_f (M := M3) (show v < 5 by omega) (show 0 < 5 by decide)
      refine ⟨M4, ?_, ⟨fun c q1 q2 => by rw [f2 c (by omega)]; exact hfr c q1, by rw [f2 35 (by decide), c5]; exact a5⟩, Or.inl ⟨skp t len (nxT t len e), hsk, by rw [f2 35 (by decide)]; exact d2, fun K hK h10 h11 => ?_⟩⟩
      · rw [hx v 0 M3 b1 (by omega) (by decide) d1, if_neg hne, f1]
        split <;> rfl
      · obtain ⟨K2, k1, k2, k3, k4, k5, k6⟩ := ((hrd K hK).2 v hnm).2 (n_ne1 (by omega))
        exact ⟨K2, hmr K h10 false K2 K2 k1 k2.2.2.2.2 k3 ((hrd2 K2 k2).1 hnm2), k2.2.1, ⟨fun x hx => k4 x (by omega), k5, k6⟩⟩
    | some v2 =>
      obtain ⟨d1, d2⟩ := c1 v2 hnm2
      obtain ⟨p1, p2, p3, p4⟩ := nmO_some hnm2
      have hadv2 := nm_adv hadv.2 hnm2
      by_cases cv : v = v2
      · have hsk := sk200 (t := t) hl hadv.2
        obtain ⟨M4, f1, f2⟩ := lay85_f (M := up2 M3 35 6 (M3 35 3)) (show v < 5 by omega) (show v2 < 5 by omega)
        refine ⟨M4, ?_, ⟨fun c q1 q2 => by rw [f2 c (by omega), up2_cc q1]; exact hfr c q1, by rw [f2 35 (by decide), up2_i (by decide), c5]; exact a5⟩, Or.inl ⟨skp t len (nxT t len e), hsk, by rw [f2 35 (by decide), up2_self]; exact c3, fun K hK h10 h11 => ?_⟩⟩
        · rw [hx v v2 M3 b1 (by omega) (by omega) d1, if_pos cv, if_pos d2]
          exact f1
        · obtain ⟨K2, k1, k2, k3, k4, k5, k6⟩ := ((hrd K hK).2 v hnm).2 (n_ne1 (by omega))
          exact ⟨K2, hmr K h10 false K2 K2 k1 k2.2.2.2.2 k3 (((hrd2 K2 k2).2 v2 hnm2).1 (by rw [cv])), k2.2.1, ⟨fun x hx => k4 x (by omega), k5, k6⟩⟩
      · have xd := (hX.of hfr).2.1
        have f1 := lay85 (M := M3) (show v < 5 by omega) (show v2 < 5 by omega) cv (xd v (by omega)) (xd v2 (by omega))
        refine ⟨_, by rw [hx v v2 M3 b1 (by omega) (by omega) d1, if_neg cv]; exact f1, ⟨fun c q1 q2 => by rw [up2_cc (by omega), up2_cc (by omega)]; exact hfr c q1, by rw [up2_c (by decide), up2_c (by decide), c5]; exact a5⟩, Or.inr ⟨nxT t len (nxT t len e), _, w, W, by omega, hadv2.2, by rw [up2_c (by decide), up2_c (by decide)]; exact d2, by rw [up2_c (by decide), up2_c (by decide)]; exact c4, (hX.of hfr).door cv (by omega) (by omega), hG.door cv n4 p4, drA_o (by omega), drA_o (by omega), fun K hK h10 h11 h79 => ?_⟩⟩
        obtain ⟨K2, k1, k2, k3, k4, k5, k6⟩ := ((hrd K hK).2 v hnm).2 (n_ne1 (by omega))
        obtain ⟨K3, l1, l2, l3, l4, l5, l6⟩ := ((hrd2 K2 k2).2 v2 hnm2).2 (by rw [nI_eq (by omega) (by omega)]; exact fun q => cv q.symm)
        exact ⟨K3, hmr K h10 true K2 K3 k1 k2.2.2.2.2 k3 l1, l2, FrM.trans ⟨fun x hx => k4 x (by omega), k5, k6⟩ ⟨fun x hx => l4 x (by omega), l5, l6⟩, tl_door (by omega) hG (by rw [l4 _ (by omega), k4 _ (by omega)]; exact h79) (by rw [l4 _ (by omega), ← k3]) (by rw [← l3]) cv n4 p4⟩
theorem wpl {v u : Nat} (I : Mem) (hu : 1 ≤ u) : fX11_wishPlace (nI v) (nI u) I = some (nI (4 * v + (u - 1))) := by
  unfold fX11_wishPlace
  rw [show (4 : Int32) = nI 4 from rfl, pk_mul, nI_add, show (1 : Int32) = nI 1 from rfl, pk_sub (by omega)]
  congr 2
  omega
theorem r_wish {t : Nat → Nat} {len e m : Nat} {M1 : Mem} {A : Nat → Nat} {w : Nat} {W : Nat → Int32} (hc : CT M1 t len) (h4 : M1 35 4 = nI e) (he : e ≤ len) (h6 : M1 35 6 = -1) (h2 : M1 35 2 = nI 9) (hX : HX 9 M1 A w W) (hG : GH A w W) (hm : m ≤ 80) : RST t len 5 M1 e m A w W := by
  have hA := hG.1
  have hA3 := hG.2.2.1
  have hl := hc.1
  have g0 : M1 9 0 = nI (A 0) := hX.1.1
  have g2 : M1 9 2 = nI (A 3) := hX.1.2.2.1
  obtain ⟨M2, a1, a2, a3, a4, a5, a6⟩ := takeNum_n (lo := 0) (hb := A 3) (x2 := nI (A 3) - 1) hc h4 he h6 (by decide) (n_m1 (by omega))
  have hrd := fun (K : Mem) (hK : MX K t len e m) => reads_n (k := 0) (lo := 0) (hb := A 3) (x3 := nI (A 3) - 1) (u := -1) hK he hm (by omega) (by decide) (n_m1 (by omega))
  have hx : ∀ v v2 v3 M3 M4, fX8_takeNumber (nI 0) (nI (A 3) - 1) M1 = some (nI v, M2) → v < 4 → fX8_takeNumber (nI 1) 4 M2 = some (nI v2, M3) → 1 ≤ v2 → v2 ≤ 4 → fX8_takeNumber (nI 0) (nI (A 0) - 1) M3 = some (nI v3, M4) → fX8_takeItem 9 M1 = some (up2 M4 14 (4 * v + (v2 - 1)) (nI v3)) := fun v v2 v3 M3 M4 hv hv4 hv2 hv21 hv24 hv3 => by
    unfold fX8_takeItem
    dsimp only [letb]
    rw [h2, if_neg (by decide), if_neg (by decide), if_neg (by decide), if_neg (by decide), if_pos (by decide), g2, g0, bnd2_s (show fX8_takeNumber (0 : Int32) (nI (A 3) - 1) M1 = some (nI v, M2) from hv), bnd2_s (show fX8_takeNumber (1 : Int32) 4 M2 = some (nI v2, M3) from hv2), bnd_s (wpl M3 hv21), bnd2_s (show fX8_takeNumber (0 : Int32) (nI (A 0) - 1) M3 = some (nI v3, M4) from hv3), chk_t (inb_n (show 4 * v + (v2 - 1) < 16 by omega) (by decide)), ix_n (by omega)]
  cases hnm : nmO t len e 0 (A 3) with
  | none =>
    obtain ⟨b1, b2⟩ := a2 hnm
    have hsk := sk200 (t := t) hl he
    have hne : ¬ M2 35 6 = -1 := by rw [b2]; exact n_ne1 (by omega)
    refine ⟨_, hx 0 1 0 M2 M2 b1 (by decide) (takeNum_f hne) (by decide) (by decide) (takeNum_f hne), ⟨fun c q1 q2 => by rw [up2_cc (by omega)]; exact a6 c q1, by rw [up2_c (by decide)]; exact a5⟩, Or.inl ⟨skp t len e, hsk, by rw [up2_c (by decide)]; exact b2, fun K hK h10 h11 => ⟨K, ?_, hK.2.1, FrM.rfl' m K⟩⟩⟩
    unfold fX12_readsRest
    dsimp only [letb]
    rw [if_neg (by decide), if_neg (by decide), if_neg (by decide), if_neg (by decide), if_neg (by decide), if_pos (by decide), h11, bnd2_s (show fX12_reads (0 : Int32) (0 : Int32) (nI (A 3) - 1) (-1) K = some (0, K) from (hrd K hK).1 hnm), if_pos rfl]
  | some v =>
    obtain ⟨b1, b2⟩ := a1 v hnm
    obtain ⟨n1, n2, n3, n4⟩ := nmO_some hnm
    have hadv := nm_adv he hnm
    have hc2 := hc.of a5 a6
    obtain ⟨M3, c1, c2, c3, c4, c5, c6⟩ := takeNum_n (lo := 1) (hb := 5) (x2 := 4) hc2 a4 hadv.2 b2 (by decide) (by decide)
    have hrd2 := fun (K : Mem) (hK : MX K t len (nxT t len e) m) => reads_n (k := 1) (lo := 1) (hb := 5) (x3 := 4) (u := -1) hK hadv.2 hm (by omega) (by decide) (by decide)
    have hfr : ∀ c, c ≠ 35 → M3 c = M1 c := fun c hc => by rw [c6 c hc]; exact a6 c hc
    cases hnm2 : nmO t len (nxT t len e) 1 5 with
    | none =>
      obtain ⟨d1, d2⟩ := c2 hnm2
      have hsk := sk200 (t := t) hl hadv.2
      have hne : ¬ M3 35 6 = -1 := by rw [d2]; exact n_ne1 (by omega)
      refine ⟨_, hx v 1 0 M3 M3 b1 (by omega) d1 (by decide) (by decide) (takeNum_f hne), ⟨fun c q1 q2 => by rw [up2_cc (by omega)]; exact hfr c q1, by rw [up2_c (by decide), c5]; exact a5⟩, Or.inl ⟨skp t len (nxT t len e), hsk, by rw [up2_c (by decide)]; exact d2, fun K hK h10 h11 => ?_⟩⟩
      obtain ⟨K2, k1, k2, k3, k4, k5, k6⟩ := ((hrd K hK).2 v hnm).2 (n_ne1 (by omega))
      refine ⟨K2, ?_, k2.2.1, ⟨fun x hx => k4 x (by omega), k5, k6⟩⟩
      unfold fX12_readsRest
      dsimp only [letb]
      rw [if_neg (by decide), if_neg (by decide), if_neg (by decide), if_neg (by decide), if_neg (by decide), if_pos (by decide), h11, bnd2_s (show fX12_reads (0 : Int32) (0 : Int32) (nI (A 3) - 1) (-1) K = some (1, K2) from k1), if_neg (by decide), bnd2_s (show fX12_reads (1 : Int32) (1 : Int32) 4 (-1) K2 = some (0, K2) from (hrd2 K2 k2).1 hnm2), if_pos rfl]
    | some v2 =>
      obtain ⟨d1, d2⟩ := c1 v2 hnm2
      obtain ⟨p1, p2, p3, p4⟩ := nmO_some hnm2
      have hadv2 := nm_adv hadv.2 hnm2
      have hc3 := hc2.of c5 c6
      obtain ⟨M4, f1, f2, f3, f4, f5, f6⟩ := takeNum_n (lo := 0) (hb := A 0) (x2 := nI (A 0) - 1) hc3 c4 hadv2.2 d2 (by decide) (n_m1 (by omega))
      have hrd3 := fun (K : Mem) (hK : MX K t len (nxT t len (nxT t len e)) m) => reads_n (k := 2) (lo := 0) (hb := A 0) (x3 := nI (A 0) - 1) (u := -1) hK hadv2.2 hm (by omega) (by decide) (n_m1 (by omega))
      have hfr4 : ∀ c, c ≠ 35 → M4 c = M1 c := fun c hc => by rw [f6 c hc]; exact hfr c hc
      have hmr : ∀ K : Mem, K 74 10 = nI (A 0) → K 74 11 = nI (A 3) → ∀ z K2 K3 K4, fX12_reads (nI 0) (nI 0) (nI (A 3) - 1) (-1) K = some (1, K2) → fX12_reads (nI 1) (nI 1) 4 (-1) K2 = some (1, K3) → fX12_reads (nI 2) (nI 0) (nI (A 0) - 1) (-1) K3 = some (b2i z, K4) → fX12_readsRest (nI 5) K = some (b2i z, K4) := fun K h10 h11 z K2 K3 K4 hz hz2 hz3 => by
        unfold fX12_readsRest
        dsimp only [letb]
        rw [if_neg (by decide), if_neg (by decide), if_neg (by decide), if_neg (by decide), if_neg (by decide), if_pos (by decide), h11, h10, bnd2_s (show fX12_reads (0 : Int32) (0 : Int32) (nI (A 3) - 1) (-1) K = some (1, K2) from hz), if_neg (by decide), bnd2_s (show fX12_reads (1 : Int32) (1 : Int32) 4 (-1) K2 = some (1, K3) from hz2), if_neg (by decide), bnd2_s (show fX12_reads (2 : Int32) (0 : Int32) (nI (A 0) - 1) (-1) K3 = some (b2i z, K4) from hz3)]
        cases z <;> rfl
      cases hnm3 : nmO t len (nxT t len (nxT t len e)) 0 (A 0) with
      | none =>
        obtain ⟨i1, i2⟩ := f2 hnm3
        refine ⟨_, hx v v2 0 M3 M4 b1 (by omega) d1 p3 (by omega) i1, ⟨fun c q1 q2 => by rw [up2_cc (by omega)]; exact hfr4 c q1, by rw [up2_c (by decide), f5, c5]; exact a5⟩, Or.inl ⟨skp t len (nxT t len (nxT t len e)), sk200 hl hadv2.2, by rw [up2_c (by decide)]; exact i2, fun K hK h10 h11 => ?_⟩⟩
        obtain ⟨K2, k1, k2, k3, k4, k5, k6⟩ := ((hrd K hK).2 v hnm).2 (n_ne1 (by omega))
        obtain ⟨K3, l1, l2, l3, l4, l5, l6⟩ := ((hrd2 K2 k2).2 v2 hnm2).2 (n_ne1 (by omega))
        exact ⟨K3, hmr K h10 h11 false K2 K3 K3 k1 l1 ((hrd3 K3 l2).1 hnm3), l2.2.1, FrM.trans ⟨fun x hx => k4 x (by omega), k5, k6⟩ ⟨fun x hx => l4 x (by omega), l5, l6⟩⟩
      | some v3 =>
        obtain ⟨i1, i2⟩ := f1 v3 hnm3
        obtain ⟨s1, s2, s3, s4⟩ := nmO_some hnm3
        have hadv3 := nm_adv hadv2.2 hnm3
        refine ⟨_, hx v v2 v3 M3 M4 b1 (by omega) d1 p3 (by omega) i1, ⟨fun c q1 q2 => by rw [up2_cc (by omega)]; exact hfr4 c q1, by rw [up2_c (by decide), f5, c5]; exact a5⟩, Or.inr ⟨nxT t len (nxT t len (nxT t len e)), A, w, upd W (4 * v + (v2 - 1)) (nI v3), by omega, hadv3.2, by rw [up2_c (by decide)]; exact i2, by rw [up2_c (by decide)]; exact f4, (hX.of hfr4).wish, hG.wish s4, rfl, rfl, fun K hK h10 h11 h79 => ?_⟩⟩
        obtain ⟨K2, k1, k2, k3, k4, k5, k6⟩ := ((hrd K hK).2 v hnm).2 (n_ne1 (by omega))
        obtain ⟨K3, l1, l2, l3, l4, l5, l6⟩ := ((hrd2 K2 k2).2 v2 hnm2).2 (n_ne1 (by omega))
        obtain ⟨K4, o1, o2, o3, o4, o5, o6⟩ := ((hrd3 K3 l2).2 v3 hnm3).2 (n_ne1 (by omega))
        exact ⟨K4, hmr K h10 h11 true K2 K3 K4 k1 l1 o1, o2, FrM.trans (FrM.trans ⟨fun x hx => k4 x (by omega), k5, k6⟩ ⟨fun x hx => l4 x (by omega), l5, l6⟩) ⟨fun x hx => o4 x (by omega), o5, o6⟩, tl_wish (by omega) hG (by rw [o4 _ (by omega), l4 _ (by omega), k4 _ (by omega)]; exact h79) (by rw [o4 _ (by omega), l4 _ (by omega), ← k3]) (by rw [o4 _ (by omega), ← l3]) (by rw [← o3]) n4 p3 (by omega)⟩
