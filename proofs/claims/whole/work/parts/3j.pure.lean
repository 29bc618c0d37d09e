/-! PURE ROWS: the class's steps -/
/-- court b (rows br) taken into court a (rows ar) -/
def tkI (I : zI) (a ar b br : Nat) : zI := zu (zu (zu (zu (zu (zu (zu (zu (zu (zu (zu (zcp I br ar (zx 70)) a 2 (I b 2)) a 3 (I b 3)) a 4 (I b 4)) a 5 (I b 5)) a 6 (I b 6)) a 7 (I b 7)) a 8 (I b 8)) a 9 (I b 9)) a 10 (I b 10)) a 11 (I b 11)) a 12 (I b 12)
theorem tk_ne {I : zI} {a ar b br c : Nat} (h1 : c ≠ a) (h2 : c ≠ ar) : tkI I a ar b br c = I c := by
  unfold tkI
  rw [zu_ne h1, zu_ne h1, zu_ne h1, zu_ne h1, zu_ne h1, zu_ne h1, zu_ne h1, zu_ne h1, zu_ne h1, zu_ne h1, zu_ne h1]
  unfold zcp zr
  simp [h2]
theorem min6 (g : zg) {c : Nat} (hc : c ≤ 6) (M : zM) : X_J9_min_7cf53 g [.int (nI (c + 1)), .int 6] M = some (some (.int (nI (min (c + 1) 6))), M) := by
  have e : cGt (nI (c + 1)) 6 = decide (6 < c + 1) := cGt_nI (a := c + 1) (b := 6) (by omega) (by omega)
  rw [min_s, e]
  by_cases h : 6 < c + 1
  · rw [decide_eq_true h, bif_t, Nat.min_eq_right (by omega)]; rfl
  · rw [decide_eq_false h, bif_f, Nat.min_eq_left (by omega)]
theorem keepC_19 (g : zg) {j c : Nat} {M : zM} (hj : j < 6) (hc6 : c ≤ 6) (h1 : M.1 42 1 = nI j) (h2 : M.1 42 2 = nI c) : zX (t_X8_keep g) 19 [some (.ref 42), none, none] [] M = some (none, (zu (zu M.1 42 1 (nI ((j + 1) % 6))) 42 2 (nI (min (c + 1) 6)), M.2)) := by
  have e : cLt (nI (j + 1)) 6 = decide (j + 1 < 6) := cLt_nI (a := j + 1) (b := 6) (by omega) (by omega)
  rw [e_X8_keep_19, h1, h2, nI_s1, nI_s1, e, min6 g hc6, zbI_s, min6 g hc6, zbI_s]
  by_cases h : j + 1 < 6
  · rw [decide_eq_true h, bif_t, Nat.mod_eq_of_lt h]
  · rw [decide_eq_false h, bif_f, show (j + 1) % 6 = 0 by omega]
    rfl
theorem keepC_s (g : zg) {j c : Nat} {M : zM} (hj : j < 6) (hc6 : c ≤ 6) (h1 : M.1 42 1 = nI j) (h2 : M.1 42 2 = nI c) : X_X8_keep g [.ref 42, .ref 7] M = some (none, (zu (zu (tkI M.1 (44 + 2 * j) (45 + 2 * j) 7 8) 42 1 (nI ((j + 1) % 6))) 42 2 (nI (min (c + 1) 6)), M.2)) := by
  have q : ∀ a ar, 42 ≠ a → 42 ≠ ar → zX (t_X8_keep g) 19 [some (.ref 42), none, none] [] (tkI M.1 a ar 7 8, M.2) = some (none, (zu (zu (tkI M.1 a ar 7 8) 42 1 (nI ((j + 1) % 6))) 42 2 (nI (min (c + 1) 6)), M.2)) := fun a ar ha har => keepC_19 g (M := (tkI M.1 a ar 7 8, M.2)) hj hc6 (by dsimp only; rw [tk_ne ha har]; exact h1) (by dsimp only; rw [tk_ne ha har]; exact h2)
  rw [x_X8_keep_0, h1]
  have hj' : j = 0 ∨ j = 1 ∨ j = 2 ∨ j = 3 ∨ j = 4 ∨ j = 5 := by omega
  rcases hj' with rfl | rfl | rfl | rfl | rfl | rfl
  · rw [show cEq (nI 0) 0 = true from by decide, bif_t, x_X3_take_0_1, zbV_s]
    exact q 44 45 (by omega) (by omega)
  · rw [show cEq (nI 1) 0 = false from by decide, bif_f, show cEq (nI 1) 1 = true from by decide, bif_t, x_X3_take_0_2, zbV_s]
    exact q 46 47 (by omega) (by omega)
  · rw [show cEq (nI 2) 0 = false from by decide, bif_f, show cEq (nI 2) 1 = false from by decide, bif_f, show cEq (nI 2) 2 = true from by decide, bif_t, x_X3_take_0_3, zbV_s]
    exact q 48 49 (by omega) (by omega)
  · rw [show cEq (nI 3) 0 = false from by decide, bif_f, show cEq (nI 3) 1 = false from by decide, bif_f, show cEq (nI 3) 2 = false from by decide, bif_f, show cEq (nI 3) 3 = true from by decide, bif_t, x_X3_take_0_4, zbV_s]
    exact q 50 51 (by omega) (by omega)
  · rw [show cEq (nI 4) 0 = false from by decide, bif_f, show cEq (nI 4) 1 = false from by decide, bif_f, show cEq (nI 4) 2 = false from by decide, bif_f, show cEq (nI 4) 3 = false from by decide, bif_f, show cEq (nI 4) 4 = true from by decide, bif_t, x_X3_take_0_5, zbV_s]
    exact q 52 53 (by omega) (by omega)
  · rw [show cEq (nI 5) 0 = false from by decide, bif_f, show cEq (nI 5) 1 = false from by decide, bif_f, show cEq (nI 5) 2 = false from by decide, bif_f, show cEq (nI 5) 3 = false from by decide, bif_f, show cEq (nI 5) 4 = false from by decide, bif_f, show cEq (nI 5) 5 = true from by decide, bif_t, x_X3_take_0_6, zbV_s]
    exact q 54 55 (by omega) (by omega)
