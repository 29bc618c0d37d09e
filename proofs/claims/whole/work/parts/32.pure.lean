/-! PURE ROWS: state, teller, set -/
theorem bif_t {α : Sort _} {a b : α} : (bif true then a else b) = a := rfl
theorem bif_f {α : Sort _} {a b : α} : (bif false then a else b) = b := rfl
theorem cEq_s {x y : Int32} (h : x = y) : cEq x y = true := by unfold cEq; simp [h]
theorem cEq_n {x y : Int32} (h : ¬ x = y) : cEq x y = false := by unfold cEq; simp [h]
theorem cEq0_s {x : Int32} (h : x = 0) : cEq0 x = true := by unfold cEq0; simp [h]
theorem cEq0_n {x : Int32} (h : ¬ x = 0) : cEq0 x = false := by unfold cEq0; simp [h]
theorem stateC_s (g : zg) (v : Int32) (M : zM) : X_X11_state g [.ref 0, .int v] M = some (some (.int (M.1 7 3)), ((zu (zu M.1 7 3 v) 42 2 0), M.2)) := by
  rw [x_X11_state_0, x_X8_forget_0, zbV_s]
theorem admit_s (g : zg) (a1 a2 : Int32) {n : Nat} {M : zM} (hn : n < 10) (hc : M.1 7 2 = nI n) : X_X3_admit g [.ref 7, .int a1, .int a2] M = some (some (.int (nI n)), ((zu (zu (zu (zu (zu (zu (zu (zu M.1 7 2 (nI (n + 1))) 8 (7 * n + 0) a1) 8 (7 * n + 1) a2) 8 (7 * n + 2) 0) 8 (7 * n + 3) (-1)) 8 (7 * n + 4) 0) 8 (7 * n + 5) 0) 8 (7 * n + 6) (-1)), M.2)) := by
  have h1 : nI n + 1 = nI (n + 1) := by
    unfold nI
    rw [show (1 : Int32) = Int32.ofNat 1 from rfl, ← Int32.ofNat_add]
  have h10 : cLt (nI n) 10 = true := (cLt_nI (a := n) (b := 10) (by omega) (by omega)).trans (by simp; omega)
  have q : n + 1 ≤ 10 := by omega
  have w : n < n + 1 := by omega
  rw [x_X3_admit_0, hc, h10, bif_t, h1]
  rw [put7_s g q (by dsimp only; exact zu_eq) w (k := 0) (kk := 0) (by omega) rfl rfl, zbV_s]
  rw [put7_s g q (by simp only [zu_ne1 (show 7 ≠ 8 by omega)]; exact zu_eq) w (k := 1) (kk := 1) (by omega) rfl rfl, zbV_s]
  rw [put7_s g q (by simp only [zu_ne1 (show 7 ≠ 8 by omega)]; exact zu_eq) w (k := 2) (kk := 2) (by omega) rfl rfl, zbV_s]
  rw [put7_s g q (by simp only [zu_ne1 (show 7 ≠ 8 by omega)]; exact zu_eq) w (k := 3) (kk := 3) (by omega) rfl rfl, zbV_s]
  rw [put7_s g q (by simp only [zu_ne1 (show 7 ≠ 8 by omega)]; exact zu_eq) w (k := 4) (kk := 4) (by omega) rfl rfl, zbV_s]
  rw [put7_s g q (by simp only [zu_ne1 (show 7 ≠ 8 by omega)]; exact zu_eq) w (k := 5) (kk := 5) (by omega) rfl rfl, zbV_s]
  rw [put7_s g q (by simp only [zu_ne1 (show 7 ≠ 8 by omega)]; exact zu_eq) w (k := 6) (kk := 6) (by omega) rfl rfl, zbV_s]
theorem admit_f (g : zg) (a1 a2 : Int32) {M : zM} (hc : M.1 7 2 = nI 10) : X_X3_admit g [.ref 7, .int a1, .int a2] M = some (some (.int (-1)), M) := by
  rw [x_X3_admit_0, hc, show cLt (nI 10) 10 = false from by decide +kernel, bif_f]
theorem nI_ne1 {n : Nat} (hn : n ≤ 10000) : ¬ nI n = -1 := by
  intro h
  have h1 : ¬ nI n < 0 := nI_pos (by omega)
  rw [h] at h1
  exact h1 (by decide)
theorem tellerC_s (g : zg) {a1 a2 : Int32} {n : Nat} {M : zM} (hn : n < 10) (hc : M.1 7 2 = nI n) (b1 : inb a1 0 5 = true) (b2 : inb a2 0 9 = true) : X_X11_teller g [.ref 0, .int a1, .int a2] M = some (some (.int (nI n)), ((zu (zu (zu (zu (zu (zu (zu (zu (zu M.1 7 2 (nI (n + 1))) 8 (7 * n + 0) a1) 8 (7 * n + 1) a2) 8 (7 * n + 2) 0) 8 (7 * n + 3) (-1)) 8 (7 * n + 4) 0) 8 (7 * n + 5) 0) 8 (7 * n + 6) (-1)) 42 2 0), M.2)) := by
  rw [x_X11_teller_0, within_s, zbI_s, b1, cEq0_b01, within_s, zbI_s, b2, cEq0_b01, admit_s g a1 a2 hn hc, zbI_s, cEq_n (nI_ne1 (by omega)), x_X8_forget_0, zbV_s]
  rfl
theorem tellerC_f (g : zg) {a1 a2 : Int32} {M : zM} (h : (inb a1 0 5 && inb a2 0 9) = false ∨ M.1 7 2 = nI 10) : X_X11_teller g [.ref 0, .int a1, .int a2] M = some (some (.int (-1)), M) := by
  rw [x_X11_teller_0, within_s, zbI_s, cEq0_b01]
  cases b1 : inb a1 0 5
  · rfl
  · simp only [Bool.not_true, bif_f]
    rw [within_s, zbI_s, cEq0_b01]
    cases b2 : inb a2 0 9
    · rfl
    · simp only [Bool.not_true, bif_f]
      rcases h with h | h
      · rw [b1, b2] at h; cases h
      · rw [admit_f g a1 a2 h, zbI_s, cEq_s rfl, bif_t]
theorem tellerM_s (g : zg) {a1 a2 : Int32} {n : Nat} {M : zM} (hn : n < 10) (hc : M.1 72 6 = nI n) (b1 : inb a1 0 5 = true) (b2 : inb a2 0 9 = true) : X_X12_teller g [.ref 72, .int a1, .int a2] M = some (some (.int (nI n)), ((zu (zu (zu (zu (zu M.1 72 0 0) 76 n a1) 77 n a2) 72 6 (nI (n + 1))) 72 3 0), M.2)) := by
  have h1 : nI n + 1 = nI (n + 1) := by
    unfold nI
    rw [show (1 : Int32) = Int32.ofNat 1 from rfl, ← Int32.ofNat_add]
  have h2 : nI (n + 1) - 1 = nI n := by
    rw [← h1]
    exact Int32.add_sub_cancel _ _
  have hz : zu M.1 72 0 0 72 6 = nI n := by rw [zu_ne2 (by omega)]; exact hc
  have hne : ¬ nI n = 10 := by
    intro h
    have := (nI_eq (a := n) (b := 10) (by omega) (by omega)).mp h
    omega
  rw [x_X12_teller_0, isIn_s, zbI_s, b1, cEq0_b01, isIn_s, zbI_s, b2, cEq0_b01]
  dsimp only
  rw [hz, cEq_n hne, zb_nI (by omega), zx_nI (by omega), h1, h2]
  simp [hn]
theorem tellerM_f (g : zg) {a1 a2 : Int32} {M : zM} (h : (inb a1 0 5 && inb a2 0 9) = false ∨ M.1 72 6 = nI 10) : X_X12_teller g [.ref 72, .int a1, .int a2] M = some (some (.int (-1)), ((zu M.1 72 0 0), M.2)) := by
  rw [x_X12_teller_0, isIn_s, zbI_s, cEq0_b01]
  cases b1 : inb a1 0 5
  · rfl
  · simp only [Bool.not_true, bif_f]
    rw [isIn_s, zbI_s, cEq0_b01]
    cases b2 : inb a2 0 9
    · rfl
    · simp only [Bool.not_true, bif_f]
      rcases h with h | h
      · rw [b1, b2] at h; cases h
      · rw [zu_ne2 (by omega), h, show cEq (nI 10) 10 = true from by decide +kernel, bif_t]
/-- what set may put -/
def setOk (n a1 a2 a3 : Int32) : Bool :=
  (decide (a1 = 0) && inb a3 0 99) || (decide (a1 = 1) && inb a3 0 1000) || (decide (a1 = 2) && inb a3 (-999) 0) || (decide (a1 = 3) && hsB n a2 && inb a3 0 9) || (decide (a1 = 4) && hsB n a2 && inb a3 (-999) 999)
theorem canSet_s (g : zg) (a1 a2 a3 : Int32) (M : zM) : X_X12_canSet g [.ref 72, .int a1, .int a2, .int a3] M = some (some (.int (b01 (setOk (M.1 72 6) a1 a2 a3))), M) := by
  rw [x_X12_canSet_0]
  unfold setOk
  by_cases h0 : a1 = 0
  · subst h0
    rw [cEq0_s rfl, bif_t, isIn_s, zbI_s, b01_and1, bif_t]
    simp
  · by_cases h1 : a1 = 1
    · subst h1
      rw [cEq0_n (by decide), bif_f, cEq_s rfl, bif_t, isIn_s, zbI_s, b01_and1, bif_t]
      simp
    · by_cases h2 : a1 = 2
      · subst h2
        rw [cEq0_n (by decide), bif_f, cEq_n (by decide), bif_f, cEq_s rfl, bif_t, isIn_s, zbI_s, b01_and1, bif_t]
        simp
      · by_cases h3 : a1 = 3
        · subst h3
          rw [cEq0_n (by decide), bif_f, cEq_n (by decide), bif_f, cEq_n (by decide), bif_f, cEq_s rfl, bif_t, isT_s, zbI_s, cEq0_b01]
          cases hb : hsB (M.1 72 6) a2
          · simp [b01]
          · rw [isIn_s, zbI_s, cEq0_b01]
            cases hi : inb a3 0 9 <;> simp [b01]
        · by_cases h4 : a1 = 4
          · subst h4
            rw [cEq0_n (by decide), bif_f, cEq_n (by decide), bif_f, cEq_n (by decide), bif_f, cEq_n (by decide), bif_f, cEq_s rfl, bif_t, isT_s, zbI_s, cEq0_b01]
            cases hb : hsB (M.1 72 6) a2
            · simp [b01]
            · rw [isIn_s, zbI_s, cEq0_b01]
              cases hi : inb a3 (-999) 999 <;> simp [b01]
          · rw [cEq0_n h0, bif_f, cEq_n h1, bif_f, cEq_n h2, bif_f, cEq_n h3, bif_f, cEq_n h4, bif_f]
            simp [h0, h1, h2, h3, h4, b01]
