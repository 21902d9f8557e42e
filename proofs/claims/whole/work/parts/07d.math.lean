section GMM
variable {E : EV} {d : Nat} {k : MD} {pc idx : Nat} {L : List (Option Value)} {rest : List Value} {I : Mem} {r : Option Value × Mem}
def Mmin (own : String) (idx : Nat) : Prop := Cond.methodLink own idx Lib.Math.min.name ∈ lw_g ∧ Cond.static Lib.Math.min.name ∈ lw_g ∧ Cond.initialized "java/lang/Math" ∈ lw_g ∧ Cond.code Lib.Math.min.name Lib.Math.min.code 2 (some .int) ∈ lw_g
theorem G.mmin {x y : Int32} (hd : decode k.2.1 pc = .ok (.invokestatic idx, 3)) (ms : Mmin k.1.cls idx) (hW : (rest.map fun v => v.category).sum ≤ 8) (kk : G E (d + 1) k (pc + 3) L (.int (if y < x then y else x) :: rest) I r) : G E (d + 1) k pc L (.int y :: .int x :: rest) I r := by
  intro p e s m args below meth c H locs ls C hP hD hS hl
  have hts := C.2.2.2.2.2.2.hts args
  have hR2 : ((rest.map (tv E)).map fun v => v.category).sum + 13 ≤ (rmd (d + 1)).locals := by
    rw [st_cat]
    show _ ≤ 60 * (d + 1)
    omega
  exact va_mmin (R := rmd (d + 1)) (rest := rest.map (tv E)) C.1 C.2.1 (C.2.2.2.1.trans hl.1.symm) C.2.2.2.2.1 (hts _ ms.1) (hts _ ms.2.1) (hts _ ms.2.2.1) (hts _ ms.2.2.2) (by show 1 ≤ d + 1; omega) hR2 (Nat.le_refl _) (Nat.le_refl _) hd (kk p e s m args below meth c H locs ls C hP hD hS hl)
def Mmax (own : String) (idx : Nat) : Prop := Cond.methodLink own idx Lib.Math.max.name ∈ lw_g ∧ Cond.static Lib.Math.max.name ∈ lw_g ∧ Cond.initialized "java/lang/Math" ∈ lw_g ∧ Cond.code Lib.Math.max.name Lib.Math.max.code 2 (some .int) ∈ lw_g
theorem G.mmax {x y : Int32} (hd : decode k.2.1 pc = .ok (.invokestatic idx, 3)) (ms : Mmax k.1.cls idx) (hW : (rest.map fun v => v.category).sum ≤ 8) (kk : G E (d + 1) k (pc + 3) L (.int (if x < y then y else x) :: rest) I r) : G E (d + 1) k pc L (.int y :: .int x :: rest) I r := by
  intro p e s m args below meth c H locs ls C hP hD hS hl
  have hts := C.2.2.2.2.2.2.hts args
  have hR2 : ((rest.map (tv E)).map fun v => v.category).sum + 13 ≤ (rmd (d + 1)).locals := by
    rw [st_cat]
    show _ ≤ 60 * (d + 1)
    omega
  exact va_mmax (R := rmd (d + 1)) (rest := rest.map (tv E)) C.1 C.2.1 (C.2.2.2.1.trans hl.1.symm) C.2.2.2.2.1 (hts _ ms.1) (hts _ ms.2.1) (hts _ ms.2.2.1) (hts _ ms.2.2.2) (by show 1 ≤ d + 1; omega) hR2 (Nat.le_refl _) (Nat.le_refl _) hd (kk p e s m args below meth c H locs ls C hP hD hS hl)
end GMM
theorem mmX2_105 : Mmin RX2 105 := ⟨(mt 713 (by decide +kernel) rfl), (mt 714 (by decide +kernel) rfl), (mt 21 (by decide +kernel) rfl), (mt 715 (by decide +kernel) rfl)⟩
theorem mmX6_61 : Mmax RX6 61 := ⟨(mt 745 (by decide +kernel) rfl), (mt 746 (by decide +kernel) rfl), (mt 21 (by decide +kernel) rfl), (mt 747 (by decide +kernel) rfl)⟩
theorem mmX9_22 : Mmin RX9 22 := ⟨(mt 772 (by decide +kernel) rfl), (mt 714 (by decide +kernel) rfl), (mt 21 (by decide +kernel) rfl), (mt 715 (by decide +kernel) rfl)⟩
