/-! PURE ROWS: end, fault, book -/
theorem nI_p1 (m : Nat) : nI (m + 1) - 1 = nI m := by
  rw [← nI_s1]
  exact Int32.add_sub_cancel _ _
theorem inb_cnt {a : Int32} {l : Nat} (hl : l < 100000) (h : inb a 0 (nI l - 1) = true) : ∃ k, k < l ∧ a = nI k := by
  cases l with
  | zero =>
    rw [show nI 0 - 1 = -1 from by decide] at h
    unfold inb cLt cGt at h
    simp [Int32.lt_iff_toInt_lt] at h
    omega
  | succ m =>
    rw [nI_p1] at h
    obtain ⟨k, hk, e⟩ := inb_ex (by omega) h
    exact ⟨k, by omega, e⟩
theorem cLt_0 (a : Int32) : cLt a 0 = cLt0 a := rfl
theorem endC_s (g : zg) (a : Int32) (M : zM) : X_X11_end g [.ref 0, .int a] M = bif inb a 0 (M.1 1 5) then some (some (.int 1), ((zu M.1 1 5 a), M.2)) else some (some (.int 0), M) := by
  rw [x_X11_end_0, x_X9_cut_0]
  unfold inb
  rw [cLt_0]
  cases cLt0 a <;> cases cGt a (M.1 1 5) <;> rfl
theorem endM_s (g : zg) (a : Int32) (M : zM) : X_X12_end g [.ref 72, .int a] M = bif inb a 0 (M.1 72 13) then some (some (.int 1), ((zu (zu M.1 72 0 0) 72 13 a), M.2)) else some (some (.int 0), ((zu M.1 72 0 0), M.2)) := by
  rw [x_X12_end_0, isIn_s, zbI_s, cEq0_b01]
  cases inb a 0 (M.1 72 13) <;> rfl
theorem TP_end {L k : Nat} {I I' : zI} (h : TP L I) (hk : k ≤ L) (h1 : I' 1 5 = nI k) (h2 : I' 72 13 = nI k) (h3 : I' 2 = I 2) (h4 : I' 79 = I 79) : TP k I' := by
  obtain ⟨a0, a1, a2, a3⟩ := h
  refine ⟨by omega, h1, h2, ?_⟩
  intro j hj
  rw [h3, h4]
  exact a3 j (by omega)
theorem TP_of {L : Nat} {I I' : zI} (h : TP L I) (h1 : I' 1 5 = I 1 5) (h2 : I' 72 13 = I 72 13) (h3 : I' 2 = I 2) (h4 : I' 79 = I 79) : TP L I' := TP_end h (Nat.le_refl L) (h1.trans h.2.1) (h2.trans h.2.2.1) h3 h4
/-- the books alike -/
def BK (l : Nat) (I : zI) : Prop := l ≤ 150 ∧ I 7 11 = nI l ∧ I 73 2 = nI l ∧ ∀ k, k < 4 * l → I 26 k = I 78 k
theorem ix4 (t k : Nat) : nI t * 4 + nI k = nI (4 * t + k) := by
  unfold nI
  rw [show (4 : Int32) = Int32.ofNat 4 from rfl, ← Int32.ofNat_mul, ← Int32.ofNat_add, Nat.mul_comm]
theorem ix4' (t k : Nat) : 4 * nI t + nI k = nI (4 * t + k) := by
  unfold nI
  rw [show (4 : Int32) = Int32.ofNat 4 from rfl, ← Int32.ofNat_mul, ← Int32.ofNat_add]
theorem bookC_s (g : zg) (a b : Int32) {l : Nat} {M : zM} (hl : l ≤ 150) (hc : M.1 7 11 = nI l) : X_X11_book g [.ref 0, .int a, .int b] M = some (some (.int (bif inb a 0 (nI l - 1) && inb b 0 3 then M.1 26 (4 * zx a + zx b) else -10000)), M) := by
  rw [x_X11_book_0, within_s, zbI_s, cEq0_b01, hc]
  cases h1 : inb a 0 (nI l - 1)
  · rfl
  · rw [within_s, zbI_s, cEq0_b01]
    cases h2 : inb b 0 3
    · rfl
    · obtain ⟨t, ht, rfl⟩ := inb_cnt (by omega) h1
      obtain ⟨k, hk, rfl⟩ := inb_ex (b := 3) (by omega) h2
      have h5 : inb (nI t) 0 149 = true := (inb_nI (k := t) (a := 0) (b := 149) (by omega) (by omega) (by omega)).trans (by simp; omega)
      have h6 : 4 * t + k < 600 := by omega
      rw [x_X1_read_0, within_s, zbI_s, cEq0_b01, h5, within_s, zbI_s, cEq0_b01, h2, ix4, zb_nI (by omega), zx_nI (by omega), zx_nI (by omega), zx_nI (by omega)]
      simp [h6, zbI_s]
theorem bookM_s (g : zg) (a b : Int32) {l : Nat} {M : zM} (hl : l ≤ 150) (hc : M.1 73 2 = nI l) : X_X12_book g [.ref 72, .int a, .int b] M = some (some (.int (bif inb a 0 (nI l - 1) && inb b 0 3 then M.1 78 (4 * zx a + zx b) else -10000)), ((zu M.1 72 0 0), M.2)) := by
  rw [x_X12_book_0, isIn_s, zbI_s, cEq0_b01, hc]
  cases h1 : inb a 0 (nI l - 1)
  · rfl
  · rw [isIn_s, zbI_s, cEq0_b01]
    cases h2 : inb b 0 3
    · rfl
    · obtain ⟨t, ht, rfl⟩ := inb_cnt (by omega) h1
      obtain ⟨k, hk, rfl⟩ := inb_ex (b := 3) (by omega) h2
      have h6 : 4 * t + k < 600 := by omega
      rw [ix4', zb_nI (by omega), zx_nI (by omega), zx_nI (by omega), zx_nI (by omega)]
      simp [h6, zu_ne1]
theorem book_alike {a b : Int32} {l : Nat} {I I' : zI} (h : BK l I) (hI : I' 78 = I 78) : (bif inb a 0 (nI l - 1) && inb b 0 3 then I 26 (4 * zx a + zx b) else -10000) = (bif inb a 0 (nI l - 1) && inb b 0 3 then I' 78 (4 * zx a + zx b) else -10000) := by
  cases h1 : inb a 0 (nI l - 1)
  · rfl
  · cases h2 : inb b 0 3
    · rfl
    · obtain ⟨t, ht, rfl⟩ := inb_cnt (by have := h.1; omega) h1
      obtain ⟨k, hk, rfl⟩ := inb_ex (b := 3) (by omega) h2
      have h0 := h.1
      rw [zx_nI (by omega), zx_nI (by omega), hI, h.2.2.2 _ (by omega)]
theorem faultC_s (g : zg) (a : Int32) (M : zM) : X_X11_fault g [.ref 0, .int a] M = some (some (.int (bif cEq0 a then M.1 1 6 else bif cEq a 1 then M.1 1 7 else -1)), M) := by
  rw [x_X11_fault_0]
  cases cEq0 a <;> cases cEq a 1 <;> rfl
theorem faultM_s (g : zg) (a : Int32) (M : zM) : X_X12_fault g [.ref 72, .int a] M = some (some (.int (bif cEq0 a then M.1 72 33 else bif cEq a 1 then M.1 72 34 else -1)), ((zu M.1 72 0 0), M.2)) := by
  rw [x_X12_fault_0]
  cases cEq0 a <;> cases cEq a 1 <;> rfl
