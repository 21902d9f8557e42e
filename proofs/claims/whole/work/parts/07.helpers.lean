def letb {α β : Type} (x : α) (f : α → β) : β := f x
theorem letb_at {α β : Type} {x z : α} {f : α → β} {y : β} (h : letb x f = y) (e : z = x) : f z = y := by subst e; exact h
def chk {α : Type} (b : Bool) (x : Option α) : Option α := if b = true then x else none
theorem chk_at {α : Type} {b : Bool} {x : Option α} {y : α} (h : chk b x = some y) : b = true ∧ x = some y := by
  unfold chk at h
  split at h
  · exact ⟨by assumption, h⟩
  · cases h
def bnd {α β : Type} (x : Option α) (f : α → Option β) : Option β := match x with
  | none => none
  | some a => f a
theorem bnd_at {α β : Type} {x : Option α} {f : α → Option β} {y : β} (h : bnd x f = some y) : ∃ a, x = some a ∧ f a = some y := by
  cases x with
  | none => cases h
  | some a => exact ⟨a, rfl, h⟩
def bnd2 {α β γ : Type} (x : Option (α × β)) (f : α → β → Option γ) : Option γ := match x with
  | none => none
  | some p => f p.1 p.2
theorem bnd2_at {α β γ : Type} {x : Option (α × β)} {f : α → β → Option γ} {y : γ} (h : bnd2 x f = some y) : ∃ a b, x = some (a, b) ∧ f a b = some y := by
  cases x with
  | none => cases h
  | some p => exact ⟨p.1, p.2, rfl, h⟩
def inrO {σ ρ : Type} (x : Option ρ) : Option (σ ⊕ ρ) := match x with
  | none => none
  | some z => some (.inr z)
theorem inrO_at {σ ρ : Type} {x : Option ρ} {y : σ ⊕ ρ} (h : inrO x = some y) : ∃ z, x = some z ∧ y = .inr z := by
  cases x with
  | none => cases h
  | some z => cases h; exact ⟨z, rfl, rfl⟩
theorem ite_t {α : Type} {c : Prop} [Decidable c] {a b y : α} (h : (if c then a else b) = y) (hc : c) : a = y := by rw [if_pos hc] at h; exact h
theorem ite_f {α : Type} {c : Prop} [Decidable c] {a b y : α} (h : (if c then a else b) = y) (hc : ¬ c) : b = y := by rw [if_neg hc] at h; exact h
/-- a loop: a step goes on or ends -/
def iter {σ ρ : Type} (s : σ → Option (σ ⊕ ρ)) : Nat → σ → Option ρ
  | 0, _ => none
  | n + 1, x => match s x with
    | none => none
    | some (.inl x2) => iter s n x2
    | some (.inr r) => some r
theorem iter_at {σ ρ : Type} {s : σ → Option (σ ⊕ ρ)} {n : Nat} {x : σ} {r : ρ} (h : iter s (n + 1) x = some r) : (∃ x2, s x = some (.inl x2) ∧ iter s n x2 = some r) ∨ s x = some (.inr r) := by
  unfold iter at h
  split at h
  · cases h
  · exact Or.inl ⟨_, by assumption, h⟩
  · cases h
    exact Or.inr (by assumption)
/-- how often a loop may go on: more than any needs -/
def FU : Nat := 1000000
def isH (b : Nat) : Prop := b = 1 ∨ b = 9 ∨ b = 18 ∨ b = 26
def isW (w : Nat) : Prop := w = 43 ∨ w = 59 ∨ w = 61 ∨ w = 69
def isA (a : Nat) : Prop := a < NC ∧ lk a = 13
def isL (o : Nat) : Prop := o = 38 ∨ o = 39 ∨ o = 40 ∨ o = 41 ∨ o = 42
def asH (o : Option Nat) : Option Nat := match o with
  | none => none
  | some b => if b = 1 ∨ b = 9 ∨ b = 18 ∨ b = 26 then some b else none
def asL (o : Option Nat) : Option Nat := match o with
  | none => none
  | some b => if b = 38 ∨ b = 39 ∨ b = 40 ∨ b = 41 ∨ b = 42 then some b else none
def asA (o : Option Nat) : Option Nat := match o with
  | none => none
  | some b => if b < NC ∧ lk b = 13 then some b else none
theorem asH_at {o : Option Nat} {b : Nat} (h : asH o = some b) : o = some b ∧ isH b := by
  unfold asH at h
  split at h
  · cases h
  · split at h
    · cases h; exact ⟨rfl, by assumption⟩
    · cases h
theorem asL_at {o : Option Nat} {b : Nat} (h : asL o = some b) : o = some b ∧ isL b := by
  unfold asL at h
  split at h
  · cases h
  · split at h
    · cases h; exact ⟨rfl, by assumption⟩
    · cases h
theorem asA_at {o : Option Nat} {b : Nat} (h : asA o = some b) : o = some b ∧ isA b := by
  unfold asA at h
  split at h
  · cases h
  · split at h
    · cases h; exact ⟨rfl, by assumption⟩
    · cases h
theorem isH_lt {b : Nat} (h : isH b) : b < NC := by rcases h with rfl | rfl | rfl | rfl <;> decide
theorem isH_lk {b : Nat} (h : isH b) : lk b = 4 := by rcases h with rfl | rfl | rfl | rfl <;> rfl
theorem isW_lt {b : Nat} (h : isW b) : b < NC := by rcases h with rfl | rfl | rfl | rfl <;> decide
theorem isW_lk {b : Nat} (h : isW b) : lk b = 10 := by rcases h with rfl | rfl | rfl | rfl <;> rfl
theorem isL_lt {b : Nat} (h : isL b) : b < NC := by rcases h with rfl | rfl | rfl | rfl | rfl <;> decide
theorem isH_r1 {b : Nat} (h : isH b) : fin b 8 = some (b + 1) := by rcases h with rfl | rfl | rfl | rfl <;> rfl
theorem isH_l1 {b : Nat} (h : isH b) : b + 1 < NC := by rcases h with rfl | rfl | rfl | rfl <;> decide
theorem isH_k1 {b : Nat} (h : isH b) : lk (b + 1) = 13 := by rcases h with rfl | rfl | rfl | rfl <;> rfl
theorem isH_n1 {b : Nat} (h : isH b) : ln (b + 1) = 5 := by rcases h with rfl | rfl | rfl | rfl <;> rfl
theorem isH_a1 {b : Nat} (h : isH b) : isA (b + 1) := ⟨isH_l1 h, isH_k1 h⟩
theorem isH_r2 {b : Nat} (h : isH b) : fin b 9 = some (b + 2) := by rcases h with rfl | rfl | rfl | rfl <;> rfl
theorem isH_l2 {b : Nat} (h : isH b) : b + 2 < NC := by rcases h with rfl | rfl | rfl | rfl <;> decide
theorem isH_k2 {b : Nat} (h : isH b) : lk (b + 2) = 13 := by rcases h with rfl | rfl | rfl | rfl <;> rfl
theorem isH_n2 {b : Nat} (h : isH b) : ln (b + 2) = 5 := by rcases h with rfl | rfl | rfl | rfl <;> rfl
theorem isH_a2 {b : Nat} (h : isH b) : isA (b + 2) := ⟨isH_l2 h, isH_k2 h⟩
theorem isH_r3 {b : Nat} (h : isH b) : fin b 10 = some (b + 3) := by rcases h with rfl | rfl | rfl | rfl <;> rfl
theorem isH_l3 {b : Nat} (h : isH b) : b + 3 < NC := by rcases h with rfl | rfl | rfl | rfl <;> decide
theorem isH_k3 {b : Nat} (h : isH b) : lk (b + 3) = 13 := by rcases h with rfl | rfl | rfl | rfl <;> rfl
theorem isH_n3 {b : Nat} (h : isH b) : ln (b + 3) = 5 := by rcases h with rfl | rfl | rfl | rfl <;> rfl
theorem isH_a3 {b : Nat} (h : isH b) : isA (b + 3) := ⟨isH_l3 h, isH_k3 h⟩
theorem isH_r4 {b : Nat} (h : isH b) : fin b 11 = some (b + 4) := by rcases h with rfl | rfl | rfl | rfl <;> rfl
theorem isH_l4 {b : Nat} (h : isH b) : b + 4 < NC := by rcases h with rfl | rfl | rfl | rfl <;> decide
theorem isH_k4 {b : Nat} (h : isH b) : lk (b + 4) = 13 := by rcases h with rfl | rfl | rfl | rfl <;> rfl
theorem isH_n4 {b : Nat} (h : isH b) : ln (b + 4) = 4 := by rcases h with rfl | rfl | rfl | rfl <;> rfl
theorem isH_a4 {b : Nat} (h : isH b) : isA (b + 4) := ⟨isH_l4 h, isH_k4 h⟩
theorem isH_r5 {b : Nat} (h : isH b) : fin b 12 = some (b + 5) := by rcases h with rfl | rfl | rfl | rfl <;> rfl
theorem isH_l5 {b : Nat} (h : isH b) : b + 5 < NC := by rcases h with rfl | rfl | rfl | rfl <;> decide
theorem isH_k5 {b : Nat} (h : isH b) : lk (b + 5) = 13 := by rcases h with rfl | rfl | rfl | rfl <;> rfl
theorem isH_n5 {b : Nat} (h : isH b) : ln (b + 5) = 16 := by rcases h with rfl | rfl | rfl | rfl <;> rfl
theorem isH_a5 {b : Nat} (h : isH b) : isA (b + 5) := ⟨isH_l5 h, isH_k5 h⟩
theorem isH_r6 {b : Nat} (h : isH b) : fin b 13 = some (b + 6) := by rcases h with rfl | rfl | rfl | rfl <;> rfl
theorem isH_l6 {b : Nat} (h : isH b) : b + 6 < NC := by rcases h with rfl | rfl | rfl | rfl <;> decide
theorem isH_k6 {b : Nat} (h : isH b) : lk (b + 6) = 13 := by rcases h with rfl | rfl | rfl | rfl <;> rfl
theorem isH_n6 {b : Nat} (h : isH b) : ln (b + 6) = 8 := by rcases h with rfl | rfl | rfl | rfl <;> rfl
theorem isH_a6 {b : Nat} (h : isH b) : isA (b + 6) := ⟨isH_l6 h, isH_k6 h⟩
theorem isH_r7 {b : Nat} (h : isH b) : fin b 14 = some (b + 7) := by rcases h with rfl | rfl | rfl | rfl <;> rfl
theorem isH_l7 {b : Nat} (h : isH b) : b + 7 < NC := by rcases h with rfl | rfl | rfl | rfl <;> decide
theorem isH_k7 {b : Nat} (h : isH b) : lk (b + 7) = 13 := by rcases h with rfl | rfl | rfl | rfl <;> rfl
theorem isH_n7 {b : Nat} (h : isH b) : ln (b + 7) = 80 := by rcases h with rfl | rfl | rfl | rfl <;> rfl
theorem isH_a7 {b : Nat} (h : isH b) : isA (b + 7) := ⟨isH_l7 h, isH_k7 h⟩
theorem isW_r1 {b : Nat} (h : isW b) : fin b 2 = some (b + 1) := by rcases h with rfl | rfl | rfl | rfl <;> rfl
theorem isW_l1 {b : Nat} (h : isW b) : b + 1 < NC := by rcases h with rfl | rfl | rfl | rfl <;> decide
theorem isW_k1 {b : Nat} (h : isW b) : lk (b + 1) = 13 := by rcases h with rfl | rfl | rfl | rfl <;> rfl
theorem isW_n1 {b : Nat} (h : isW b) : ln (b + 1) = 4 := by rcases h with rfl | rfl | rfl | rfl <;> rfl
theorem isW_a1 {b : Nat} (h : isW b) : isA (b + 1) := ⟨isW_l1 h, isW_k1 h⟩
section GH
variable {E : EV} {d : Nat} {k : MD} {pc : Nat} {L L' : List (Option Value)} {st : List Value} {I J : Mem} {r : Option Value × Mem} {k2 : MD} {av rest : List Value} {idx n b : Nat}
theorem G.nmI (h : ∀ J, J = I → G E d k pc L st J r) : G E d k pc L st I r := h I rfl
theorem G.nmi {x : Int32} (h : ∀ y, y = x → G E d k pc L (.int y :: st) I r) : G E d k pc L (.int x :: st) I r := h x rfl
theorem G.nml {x : Int64} (h : ∀ y, y = x → G E d k pc L (.long y :: st) I r) : G E d k pc L (.long x :: st) I r := h x rfl
theorem G.inc {i : Nat} {n : Int} {x w : Int32} (hd : decode k.2.1 pc = .ok (.iinc i n, 3)) (hw : Int32.ofInt n = w) (hx : L[i]? = some (some (.int x))) (hn : i < k.2.2.1) (hok : okst L i = true) (hL : L.set i (some (.int (x + w))) = L') (kk : G E d k (pc + 3) L' st I r) : G E d k pc L st I r := G.iinc hd hx (by rw [hw]) hn hok hL kk
theorem G.iald' {a n : Nat} {i : Int32} (hd : decode k.2.1 pc = .ok (.iaload, 1)) (ha : a < NC) (hk : lk a = 13) (hn : ln a = n) (hin : inb i n = true) (kk : G E d k (pc + 1) L (.int (I a (ix i)) :: st) I r) : G E d k pc L (.int i :: .ref a :: st) I r := G.iald hd ha hk (by rw [hn]; exact hin) kk
theorem G.iast' {a n : Nat} {i x : Int32} (hd : decode k.2.1 pc = .ok (.iastore, 1)) (ha : a < NC) (hk : lk a = 13) (hn : ln a = n) (hin : inb i n = true) (kk : G E d k (pc + 1) L st (up2 I a (ix i) x) r) : G E d k pc L (.int x :: .int i :: .ref a :: st) I r := G.iast hd ha hk (by rw [hn]; exact hin) kk
theorem G.acopy' {a a0 n0 n1 : Nat} {sp dp n : Int32} (hd : decode k.2.1 pc = .ok (.invokestatic idx, 3)) (ms : MA k.1.cls idx) (ha0 : a0 < NC) (hk0 : lk a0 = 13) (hn0 : ln a0 = n0) (ha : a < NC) (hk : lk a = 13) (hn1 : ln a = n1) (hok : cpok sp dp n n0 n1 = true) (hW : (rest.map fun v => v.category).sum ≤ 8) (kk : G E (d + 1) k (pc + 3) L rest (upA I a (cpA (I a0) (I a) (ix sp) (ix dp) (ix n))) r) : G E (d + 1) k pc L (.int n :: .int dp :: .ref a :: .int sp :: .ref a0 :: rest) I r := G.acopy hd ms ha0 hk0 ha hk (by rw [hn0, hn1]; exact hok) hW kk
theorem G.tsw_at {dflt lo hi : Int} {offs : Array Int} {len : Nat} {x j : Int32} {off : Int} {tgt : Nat} (hd : decode k.2.1 pc = .ok (.tableswitch dflt lo hi offs, len)) (hx : x = j) (h1 : ¬ j.toInt < lo) (h2 : ¬ hi < j.toInt) (ho : offs[(j.toInt - lo).toNat]? = some off) (ht : (pc : Int) + off = (tgt : Int)) (kk : G E d k tgt L st I r) : G E d k pc L (.int x :: st) I r := by
  subst hx
  exact G.tsw_in hd h1 h2 ho ht kk
theorem G.iret' {v : Int32} (hd : decode k.2.1 pc = .ok (.ireturn, 1)) (hr : k.2.2.2 = some .int) (hK : (some (.int v), I) = r) : G E d k pc L [.int v] I r := hK ▸ G.iret hd hr
theorem G.zret' {v : Int32} (hd : decode k.2.1 pc = .ok (.ireturn, 1)) (hr : k.2.2.2 = some .boolean) (hz : zb v = true) (hK : (some (.int v), I) = r) : G E d k pc L [.int v] I r := hK ▸ G.zret hd hr hz
theorem G.nret' {v : Int32} {ty : FieldType} (hd : decode k.2.1 pc = .ok (.ireturn, 1)) (hr : k.2.2.2 = some ty) (hn : narrow ty (.int v) = .int v) (hK : (some (.int v), I) = r) : G E d k pc L [.int v] I r := hK ▸ G.nret hd hr hn
theorem G.lret' {v : Int64} (hd : decode k.2.1 pc = .ok (.lreturn, 1)) (hr : k.2.2.2 = some .long) (hK : (some (.long v), I) = r) : G E d k pc L [.long v] I r := hK ▸ G.lret hd hr
theorem G.vret' (hd : decode k.2.1 pc = .ok (.return_, 1)) (hr : k.2.2.2 = none) (hK : (none, I) = r) : G E d k pc L [] I r := hK ▸ G.vret hd hr
theorem G.callSi {v : Int32} (hd : decode k.2.1 pc = .ok (.invokestatic idx, 3)) (ms : MS k.1.cls idx k2 n) (hg : Gm E d k2 av I (some (.int v), J)) (hst : st = av.reverse ++ rest) (hn : av.length = n) (hW : (rest.map fun v => v.category).sum ≤ 8) (kk : G E (d + 1) k (pc + 3) L (.int v :: rest) J r) : G E (d + 1) k pc L st I r := G.callS hd ms hg hst hn hW kk
theorem G.callNi {v : Int32} (hd : decode k.2.1 pc = .ok (.invokestatic idx, 3)) (ms : MN k.1.cls idx k2 n) (hg : Gm E d k2 av I (some (.int v), J)) (hst : st = av.reverse ++ rest) (hn : av.length = n) (hW : (rest.map fun v => v.category).sum ≤ 8) (kk : G E (d + 1) k (pc + 3) L (.int v :: rest) J r) : G E (d + 1) k pc L st I r := G.callN hd ms hg hst hn hW kk
theorem G.callVi {v : Int32} {ci : Nat} (hd : decode k.2.1 pc = .ok (.invokevirtual idx, 3)) (ms : MV k.1.cls idx ci k2 n) (hg : Gm E d k2 (.ref b :: av) I (some (.int v), J)) (hb : b < NC) (hk : lk b = ci) (hst : st = av.reverse ++ .ref b :: rest) (hn : av.length = n) (hW : (rest.map fun v => v.category).sum ≤ 8) (kk : G E (d + 1) k (pc + 3) L (.int v :: rest) J r) : G E (d + 1) k pc L st I r := G.callV hd ms hg hb hk hst hn hW kk
theorem G.callOi {v : Int32} {ci : Nat} (hd : decode k.2.1 pc = .ok (.invokevirtual idx, 3)) (ms : MO k.1.cls idx ci k2 n) (hg : Gm E d k2 (.ref b :: av) I (some (.int v), J)) (hb : b < NC) (hk : lk b = ci) (hst : st = av.reverse ++ .ref b :: rest) (hn : av.length = n) (hW : (rest.map fun v => v.category).sum ≤ 8) (kk : G E (d + 1) k (pc + 3) L (.int v :: rest) J r) : G E (d + 1) k pc L st I r := G.callO hd ms hg hb hk hst hn hW kk
theorem G.callPi {v : Int32} {ci : Nat} (hd : decode k.2.1 pc = .ok (.invokespecial idx, 3)) (ms : MP k.1.cls idx ci k2 n) (hg : Gm E d k2 (.ref b :: av) I (some (.int v), J)) (hb : b < NC) (hk : lk b = ci) (hst : st = av.reverse ++ .ref b :: rest) (hn : av.length = n) (hW : (rest.map fun v => v.category).sum ≤ 8) (kk : G E (d + 1) k (pc + 3) L (.int v :: rest) J r) : G E (d + 1) k pc L st I r := G.callP hd ms hg hb hk hst hn hW kk
theorem G.callSl {v : Int64} (hd : decode k.2.1 pc = .ok (.invokestatic idx, 3)) (ms : MS k.1.cls idx k2 n) (hg : Gm E d k2 av I (some (.long v), J)) (hst : st = av.reverse ++ rest) (hn : av.length = n) (hW : (rest.map fun v => v.category).sum ≤ 8) (kk : G E (d + 1) k (pc + 3) L (.long v :: rest) J r) : G E (d + 1) k pc L st I r := G.callS hd ms hg hst hn hW kk
theorem G.callNl {v : Int64} (hd : decode k.2.1 pc = .ok (.invokestatic idx, 3)) (ms : MN k.1.cls idx k2 n) (hg : Gm E d k2 av I (some (.long v), J)) (hst : st = av.reverse ++ rest) (hn : av.length = n) (hW : (rest.map fun v => v.category).sum ≤ 8) (kk : G E (d + 1) k (pc + 3) L (.long v :: rest) J r) : G E (d + 1) k pc L st I r := G.callN hd ms hg hst hn hW kk
theorem G.callVl {v : Int64} {ci : Nat} (hd : decode k.2.1 pc = .ok (.invokevirtual idx, 3)) (ms : MV k.1.cls idx ci k2 n) (hg : Gm E d k2 (.ref b :: av) I (some (.long v), J)) (hb : b < NC) (hk : lk b = ci) (hst : st = av.reverse ++ .ref b :: rest) (hn : av.length = n) (hW : (rest.map fun v => v.category).sum ≤ 8) (kk : G E (d + 1) k (pc + 3) L (.long v :: rest) J r) : G E (d + 1) k pc L st I r := G.callV hd ms hg hb hk hst hn hW kk
theorem G.callOl {v : Int64} {ci : Nat} (hd : decode k.2.1 pc = .ok (.invokevirtual idx, 3)) (ms : MO k.1.cls idx ci k2 n) (hg : Gm E d k2 (.ref b :: av) I (some (.long v), J)) (hb : b < NC) (hk : lk b = ci) (hst : st = av.reverse ++ .ref b :: rest) (hn : av.length = n) (hW : (rest.map fun v => v.category).sum ≤ 8) (kk : G E (d + 1) k (pc + 3) L (.long v :: rest) J r) : G E (d + 1) k pc L st I r := G.callO hd ms hg hb hk hst hn hW kk
theorem G.callPl {v : Int64} {ci : Nat} (hd : decode k.2.1 pc = .ok (.invokespecial idx, 3)) (ms : MP k.1.cls idx ci k2 n) (hg : Gm E d k2 (.ref b :: av) I (some (.long v), J)) (hb : b < NC) (hk : lk b = ci) (hst : st = av.reverse ++ .ref b :: rest) (hn : av.length = n) (hW : (rest.map fun v => v.category).sum ≤ 8) (kk : G E (d + 1) k (pc + 3) L (.long v :: rest) J r) : G E (d + 1) k pc L st I r := G.callP hd ms hg hb hk hst hn hW kk
theorem G.callSv (hd : decode k.2.1 pc = .ok (.invokestatic idx, 3)) (ms : MS k.1.cls idx k2 n) (hg : Gm E d k2 av I (none, J)) (hst : st = av.reverse ++ rest) (hn : av.length = n) (hW : (rest.map fun v => v.category).sum ≤ 8) (kk : G E (d + 1) k (pc + 3) L (rest) J r) : G E (d + 1) k pc L st I r := G.callS hd ms hg hst hn hW kk
theorem G.callNv (hd : decode k.2.1 pc = .ok (.invokestatic idx, 3)) (ms : MN k.1.cls idx k2 n) (hg : Gm E d k2 av I (none, J)) (hst : st = av.reverse ++ rest) (hn : av.length = n) (hW : (rest.map fun v => v.category).sum ≤ 8) (kk : G E (d + 1) k (pc + 3) L (rest) J r) : G E (d + 1) k pc L st I r := G.callN hd ms hg hst hn hW kk
theorem G.callVv {ci : Nat} (hd : decode k.2.1 pc = .ok (.invokevirtual idx, 3)) (ms : MV k.1.cls idx ci k2 n) (hg : Gm E d k2 (.ref b :: av) I (none, J)) (hb : b < NC) (hk : lk b = ci) (hst : st = av.reverse ++ .ref b :: rest) (hn : av.length = n) (hW : (rest.map fun v => v.category).sum ≤ 8) (kk : G E (d + 1) k (pc + 3) L (rest) J r) : G E (d + 1) k pc L st I r := G.callV hd ms hg hb hk hst hn hW kk
theorem G.callOv {ci : Nat} (hd : decode k.2.1 pc = .ok (.invokevirtual idx, 3)) (ms : MO k.1.cls idx ci k2 n) (hg : Gm E d k2 (.ref b :: av) I (none, J)) (hb : b < NC) (hk : lk b = ci) (hst : st = av.reverse ++ .ref b :: rest) (hn : av.length = n) (hW : (rest.map fun v => v.category).sum ≤ 8) (kk : G E (d + 1) k (pc + 3) L (rest) J r) : G E (d + 1) k pc L st I r := G.callO hd ms hg hb hk hst hn hW kk
theorem G.callPv {ci : Nat} (hd : decode k.2.1 pc = .ok (.invokespecial idx, 3)) (ms : MP k.1.cls idx ci k2 n) (hg : Gm E d k2 (.ref b :: av) I (none, J)) (hb : b < NC) (hk : lk b = ci) (hst : st = av.reverse ++ .ref b :: rest) (hn : av.length = n) (hW : (rest.map fun v => v.category).sum ≤ 8) (kk : G E (d + 1) k (pc + 3) L (rest) J r) : G E (d + 1) k pc L st I r := G.callP hd ms hg hb hk hst hn hW kk
end GH
