/-! PURE ROWS: set on both sides, the court after state, teller, set -/
/-- the class's memory after a set that is allowed -/
def setC (I : zI) (a1 a2 a3 : Int32) : zI :=
  zu (if a1 = 0 then zu I 7 4 a3 else if a1 = 1 then zu I 7 5 a3 else if a1 = 2 then zu I 7 6 a3 else if a1 = 3 then zu I 8 (7 * zx a2 + 1) a3 else zu I 8 (7 * zx a2 + 4) a3) 42 2 0
theorem setC_117 (g : zg) {a1 a2 a3 : Int32} {M : zM} {n : Nat} (hn : n ≤ 10) (hc : M.1 7 2 = nI n) (h0 : ¬ a1 = 0) (h1 : ¬ a1 = 1) (h2 : ¬ a1 = 2) (h3 : ¬ a1 = 3) : zX (t_X11_set g) 117 [some (.ref 0), some (.int a1), some (.int a2), some (.int a3), some (.ref 7)] [] M = bif setOk (nI n) a1 a2 a3 then some (some (.int 1), (setC M.1 a1 a2 a3, M.2)) else some (some (.int 0), M) := by
  rw [e_X11_set_117]
  unfold setOk setC
  by_cases h4 : a1 = 4
  · subst h4
    rw [cEq_s rfl, bif_t, has7_s, zbI_s, cEq0_b01, hc]
    cases hb : hsB (nI n) a2
    · simp
    · rw [within_s, zbI_s, cEq0_b01]
      cases hi : inb a3 (-999) 999
      · simp
      · obtain ⟨t, ht, rfl⟩ := hsB_ex hn hb
        rw [put7_s g hn hc ht (k := 4) (kk := 4) (by omega) rfl rfl, zbV_s, x_X8_forget_0, zbV_s, zx_nI (by omega)]
        simp
  · rw [cEq_n h4]
    simp [h0, h1, h2, h3, h4]
theorem setC_117' (g : zg) {a1 a2 a3 : Int32} {M : zM} (h4 : ¬ a1 = 4) : zX (t_X11_set g) 117 [some (.ref 0), some (.int a1), some (.int a2), some (.int a3), some (.ref 7)] [] M = some (some (.int 0), M) := by
  rw [e_X11_set_117, cEq_n h4, bif_f]
theorem setC_82' (g : zg) {a1 a2 a3 : Int32} {M : zM} (h3 : ¬ a1 = 3) (h4 : ¬ a1 = 4) : zX (t_X11_set g) 82 [some (.ref 0), some (.int a1), some (.int a2), some (.int a3), some (.ref 7)] [] M = some (some (.int 0), M) := by
  rw [e_X11_set_82, cEq_n h3, bif_f, setC_117' g h4]
theorem setC_32' (g : zg) {a1 a2 a3 : Int32} {M : zM} (h1 : ¬ a1 = 1) (h2 : ¬ a1 = 2) (h3 : ¬ a1 = 3) (h4 : ¬ a1 = 4) : zX (t_X11_set g) 32 [some (.ref 0), some (.int a1), some (.int a2), some (.int a3), some (.ref 7)] [] M = some (some (.int 0), M) := by
  rw [e_X11_set_32, cEq_n h1, bif_f, cEq_n h2, bif_f, setC_82' g h3 h4]
theorem setC_s (g : zg) (a1 a2 a3 : Int32) {M : zM} {n : Nat} (hn : n ≤ 10) (hc : M.1 7 2 = nI n) : X_X11_set g [.ref 0, .int a1, .int a2, .int a3] M = bif setOk (nI n) a1 a2 a3 then some (some (.int 1), (setC M.1 a1 a2 a3, M.2)) else some (some (.int 0), M) := by
  rw [x_X11_set_0]
  by_cases h0 : a1 = 0
  · subst h0
    rw [cEq0_s rfl, bif_t, within_s, zbI_s, cEq0_b01, setC_32' g (by decide) (by decide) (by decide) (by decide), x_X8_forget_0, zbV_s]
    unfold setOk setC
    cases hi : inb a3 0 99 <;> simp
  · rw [cEq0_n h0, bif_f]
    by_cases h1 : a1 = 1
    · subst h1
      rw [e_X11_set_32, cEq_s rfl, bif_t, within_s, zbI_s, cEq0_b01, cEq_n (by decide), bif_f, setC_82' g (by decide) (by decide), x_X8_forget_0, zbV_s]
      unfold setOk setC
      cases hi : inb a3 0 1000 <;> simp
    · by_cases h2 : a1 = 2
      · subst h2
        rw [e_X11_set_32, cEq_n (by decide), bif_f, cEq_s rfl, bif_t, within_s, zbI_s, cEq0_b01, setC_82' g (by decide) (by decide), x_X8_forget_0, zbV_s]
        unfold setOk setC
        cases hi : inb a3 (-999) 0 <;> simp
      · rw [e_X11_set_32, cEq_n h1, bif_f, cEq_n h2, bif_f, e_X11_set_82]
        by_cases h3 : a1 = 3
        · subst h3
          rw [cEq_s rfl, bif_t, has7_s, zbI_s, cEq0_b01, setC_117' g (by decide), hc]
          unfold setOk setC
          cases hb : hsB (nI n) a2
          · simp
          · rw [within_s, zbI_s, cEq0_b01]
            cases hi : inb a3 0 9
            · rw [setC_117' g (by decide)]
              simp
            · obtain ⟨t, ht, rfl⟩ := hsB_ex hn hb
              rw [put7_s g hn hc ht (k := 1) (kk := 1) (by omega) rfl rfl, zbV_s, x_X8_forget_0, zbV_s, zx_nI (by omega)]
              simp
        · rw [cEq_n h3, bif_f, setC_117 g hn hc h0 h1 h2 h3]
/-- the reference's memory after a set that is allowed -/
def setM (I : zI) (a1 a2 a3 : Int32) : zI :=
  zu (if a1 = 0 then zu I 73 3 (a3 - 50) else if a1 = 1 then zu I 72 7 a3 else if a1 = 2 then zu I 72 8 (a3 + 10) else if a1 = 3 then zu I 77 (zx a2) a3 else zu I 73 (28 + zx a2) a3) 72 3 0
theorem setM_s (g : zg) (a1 a2 a3 : Int32) {M : zM} {n : Nat} (hn : n ≤ 10) (hc : M.1 72 6 = nI n) : X_X12_set g [.ref 72, .int a1, .int a2, .int a3] M = bif setOk (nI n) a1 a2 a3 then some (some (.int 1), (setM (zu M.1 72 0 0) a1 a2 a3, M.2)) else some (some (.int 0), ((zu M.1 72 0 0), M.2)) := by
  rw [x_X12_set_0, canSet_s, zbI_s, cEq0_b01]
  dsimp only
  rw [zu_ne2 (by omega), hc]
  cases hb : setOk (nI n) a1 a2 a3
  · rfl
  · rw [x_X12_glassBe_0, zbV_s]
    simp only [Bool.not_true, bif_t, bif_f]
    by_cases h0 : a1 = 0
    · subst h0
      rw [cEq0_s rfl, bif_t, e_X12_set_26, cEq_n (by decide), bif_f, cEq_n (by decide), bif_f, e_X12_set_49, cEq_n (by decide), bif_f, cEq_n (by decide), bif_f]
      simp [setM]
    · rw [cEq0_n h0, bif_f]
      by_cases h1 : a1 = 1
      · subst h1
        rw [e_X12_set_26, cEq_s rfl, bif_t, cEq_n (by decide), bif_f, e_X12_set_49, cEq_n (by decide), bif_f, cEq_n (by decide), bif_f]
        simp [setM]
      · by_cases h2 : a1 = 2
        · subst h2
          rw [e_X12_set_26, cEq_n (by decide), bif_f, cEq_s rfl, bif_t, e_X12_set_49, cEq_n (by decide), bif_f, cEq_n (by decide), bif_f]
          simp [setM]
        · rw [e_X12_set_26, cEq_n h1, bif_f, cEq_n h2, bif_f, e_X12_set_49]
          by_cases h3 : a1 = 3
          · subst h3
            unfold setOk at hb
            simp at hb
            obtain ⟨t, ht, rfl⟩ := hsB_ex hn hb.1
            rw [cEq_s rfl, bif_t, zb_nI (by omega), cEq_n (by decide), bif_f, zx_nI (by omega)]
            have ht2 : t < 10 := by omega
            simp [setM, ht2, zx_nI (show t < 2147483648 by omega)]
          · by_cases h4 : a1 = 4
            · subst h4
              unfold setOk at hb
              simp at hb
              obtain ⟨t, ht, rfl⟩ := hsB_ex hn hb.1
              have e : 28 + nI t = nI (28 + t) := by
                unfold nI
                rw [show (28 : Int32) = Int32.ofNat 28 from rfl, ← Int32.ofNat_add]
              rw [cEq_n (by decide), bif_f, cEq_s rfl, bif_t, e, zb_nI (by omega), zx_nI (by omega)]
              have ht2 : 28 + t < 148 := by omega
              simp [setM, ht2, zx_nI (show t < 2147483648 by omega)]
            · unfold setOk at hb
              simp [h0, h1, h2, h3, h4] at hb
