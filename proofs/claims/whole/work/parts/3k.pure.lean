/-! PURE ROWS: the class's steps taken back -/
theorem backC_s (g : zg) {j c : Nat} {M : zM} (hj : j < 6) (hc6 : c ≤ 6) (h1 : M.1 42 1 = nI j) (h2 : M.1 42 2 = nI c) : X_X8_back g [.ref 42, .ref 7] M = if c = 0 then some (some (.int 0), M) else some (some (.int 1), (tkI (zu (zu M.1 42 1 (nI ((j + 5) % 6))) 42 2 (nI (c - 1))) 7 8 (44 + 2 * ((j + 5) % 6)) (45 + 2 * ((j + 5) % 6)), M.2)) := by
  rw [x_X8_back_0, h2, cGt0_nI (by omega)]
  by_cases h0 : c = 0
  · rw [decide_eq_false (by omega), bif_f, if_pos h0]
  · rw [decide_eq_true (by omega), bif_t, if_neg h0, h1, show nI c - 1 = nI (c - 1) from nI_sub (a := c) (b := 1) (by omega)]
    have hj' : j = 0 ∨ j = 1 ∨ j = 2 ∨ j = 3 ∨ j = 4 ∨ j = 5 := by omega
    rcases hj' with rfl | rfl | rfl | rfl | rfl | rfl
    · rw [show cGt0 (nI 0) = false from by decide, bif_f, show cEq 5 0 = false from by decide, bif_f, show cEq 5 1 = false from by decide, bif_f, show cEq 5 2 = false from by decide, bif_f, show cEq 5 3 = false from by decide, bif_f, show cEq 5 4 = false from by decide, bif_f, show cEq 5 5 = true from by decide, bif_t, x_X3_take_0_12, zbV_s]
      rfl
    · rw [show cGt0 (nI 1) = true from by decide, bif_t, show nI 1 - 1 = nI 0 from by decide, show cEq (nI 0) 0 = true from by decide, bif_t, x_X3_take_0_7, zbV_s]
      rfl
    · rw [show cGt0 (nI 2) = true from by decide, bif_t, show nI 2 - 1 = nI 1 from by decide, show cEq (nI 1) 0 = false from by decide, bif_f, show cEq (nI 1) 1 = true from by decide, bif_t, x_X3_take_0_8, zbV_s]
      rfl
    · rw [show cGt0 (nI 3) = true from by decide, bif_t, show nI 3 - 1 = nI 2 from by decide, show cEq (nI 2) 0 = false from by decide, bif_f, show cEq (nI 2) 1 = false from by decide, bif_f, show cEq (nI 2) 2 = true from by decide, bif_t, x_X3_take_0_9, zbV_s]
      rfl
    · rw [show cGt0 (nI 4) = true from by decide, bif_t, show nI 4 - 1 = nI 3 from by decide, show cEq (nI 3) 0 = false from by decide, bif_f, show cEq (nI 3) 1 = false from by decide, bif_f, show cEq (nI 3) 2 = false from by decide, bif_f, show cEq (nI 3) 3 = true from by decide, bif_t, x_X3_take_0_10, zbV_s]
      rfl
    · rw [show cGt0 (nI 5) = true from by decide, bif_t, show nI 5 - 1 = nI 4 from by decide, show cEq (nI 4) 0 = false from by decide, bif_f, show cEq (nI 4) 1 = false from by decide, bif_f, show cEq (nI 4) 2 = false from by decide, bif_f, show cEq (nI 4) 3 = false from by decide, bif_f, show cEq (nI 4) 4 = true from by decide, bif_t, x_X3_take_0_11, zbV_s]
      rfl
theorem undoC_s (g : zg) {j c : Nat} {M : zM} (hj : j < 6) (hc6 : c ≤ 6) (h1 : M.1 42 1 = nI j) (h2 : M.1 42 2 = nI c) : X_X11_undo g [.ref 0] M = if c = 0 then some (some (.int 0), M) else some (some (.int 1), (tkI (zu (zu M.1 42 1 (nI ((j + 5) % 6))) 42 2 (nI (c - 1))) 7 8 (44 + 2 * ((j + 5) % 6)) (45 + 2 * ((j + 5) % 6)), M.2)) := by
  rw [x_X11_undo_0, backC_s g hj hc6 h1 h2]
  by_cases h0 : c = 0
  · rw [if_pos h0, zbI_s, show cEq (0 &&& 1) 0 = true from by decide, bif_t]
  · rw [if_neg h0, zbI_s, show cEq (1 &&& 1) 1 = true from by decide, bif_t]
