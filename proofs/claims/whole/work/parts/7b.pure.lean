/-! the start, its cells -/
set_option maxRecDepth 100000 in
set_option maxHeartbeats 4000000 in
theorem st_80 : ∀ k : Fin 125, zZB.1 80 k.val = wtb k.val := by decide +kernel
set_option maxRecDepth 100000 in
set_option maxHeartbeats 4000000 in
theorem st_f7 : zZB.1 7 0 = 1 ∧ zZB.1 7 2 = 0 ∧ zZB.1 7 3 = 0 ∧ zZB.1 7 4 = 50 ∧ zZB.1 7 5 = 0 ∧ zZB.1 7 6 = -10 ∧ zZB.1 7 7 = -1 ∧ zZB.1 7 8 = 0 ∧ zZB.1 7 9 = 0 ∧ zZB.1 7 10 = 0 ∧ zZB.1 7 11 = 0 ∧ zZB.1 7 12 = 0 := by decide +kernel
set_option maxRecDepth 100000 in
set_option maxHeartbeats 4000000 in
theorem st_72 : ∀ k : Fin 56, ¬ k.val = 34 → zZB.1 72 k.val = 0 := by decide +kernel
set_option maxRecDepth 100000 in
set_option maxHeartbeats 4000000 in
theorem st_mi : zZB.1 72 34 = -1 ∧ zZB.1 1 5 = 0 ∧ zZB.1 1 6 = 0 ∧ zZB.1 1 7 = -1 ∧ zZB.1 40 0 = 0 ∧ zZB.1 42 1 = 0 ∧ zZB.1 42 2 = 0 ∧ zZB.1 20 4 = 0 ∧ zZB.1 32 6 = 0 ∧ zZB.1 32 7 = 0 ∧ zZB.1 32 8 = 0 ∧ zZB.1 9 8 = 0 ∧ zZB.1 17 2 = 0 ∧ zZB.1 17 3 = 0 ∧ zZB.1 81 0 = 0 := by decide +kernel
set_option maxRecDepth 100000 in
set_option maxHeartbeats 4000000 in
theorem st_73 : ∀ k : Fin 148, zZB.1 73 k.val = 0 := by decide +kernel
set_option maxRecDepth 100000 in
set_option maxHeartbeats 4000000 in
theorem st_94 : (∀ k : Fin 10, zZB.1 94 k.val = 0) ∧ ∀ k : Fin 4, zZB.1 38 k.val = 0 ∧ zZB.1 99 k.val = 0 := by decide +kernel
