/-! PURE ROWS: seen, post, mix -/
theorem cLt_lit {m k : Nat} {y : Int32} (hm : m < 2147483648) (hk : k < 2147483648) (hy : y = nI k) : cLt (nI m) y = decide (m < k) := by subst hy; exact cLt_nI hm hk
theorem cEq_lit {m k : Nat} {y : Int32} (hm : m < 2147483648) (hk : k < 2147483648) (hy : y = nI k) : cEq (nI m) y = decide (m = k) := by subst hy; exact cEq_nI hm hk
theorem seenC_s (g : zg) (a : Int32) {m : Nat} {M : zM} (hm : m ≤ 12) (hc : M.1 32 6 = nI m) : X_X11_seen g [.ref 0, .int a] M = if a = -1 then some (some (.int 0), ((zu M.1 32 6 0), M.2)) else if inb a 0 99 = true ∧ m < 12 then some (some (.int (nI (m + 1))), ((zu (zu M.1 33 m a) 32 6 (nI (m + 1))), M.2)) else some (some (.int (-1)), M) := by
  rw [x_X11_seen_0, x_X6_addSeen_0]
  by_cases h1 : a = -1
  · rw [if_pos h1, cEq_s h1, bif_t, zbI_s]
  · rw [if_neg h1, cEq_n h1, bif_f, within_s, zbI_s, cEq0_b01, hc, cLt_lit (m := m) (k := 12) (y := 12) (by omega) (by omega) rfl, zb_nI (by omega), zx_nI (by omega), nI_s1]
    cases hi : inb a 0 99
    · simp [zbI_s]
    · by_cases h2 : m < 12
      · simp [h2, zbI_s]
      · simp [h2, zbI_s]
theorem seenM_s (g : zg) (a : Int32) {m : Nat} {M : zM} (hm : m ≤ 12) (hc : M.1 72 43 = nI m) : X_X12_seen g [.ref 72, .int a] M = if a = -1 then some (some (.int 0), ((zu (zu M.1 72 0 0) 72 43 0), M.2)) else if inb a 0 99 = true ∧ m < 12 then some (some (.int (nI (m + 1))), ((zu (zu (zu M.1 72 0 0) 93 m a) 72 43 (nI (m + 1))), M.2)) else some (some (.int (-1)), ((zu M.1 72 0 0), M.2)) := by
  rw [x_X12_seen_0]
  by_cases h1 : a = -1
  · rw [if_pos h1, cEq_s h1, bif_t]
  · rw [if_neg h1, cEq_n h1, bif_f, isIn_s, zbI_s, cEq0_b01]
    dsimp only
    rw [zu_ne2 (by omega), hc, cEq_lit (m := m) (k := 12) (y := 12) (by omega) (by omega) rfl, zb_nI (by omega), zx_nI (by omega), nI_s1]
    cases hi : inb a 0 99
    · simp
    · by_cases h2 : m < 12
      · have h3 : ¬ m = 12 := by omega
        simp [h2, h3]
      · have h3 : m = 12 := by omega
        simp [h3]
theorem postC_s (g : zg) (a b : Int32) {m : Nat} {M : zM} (hm : m ≤ 6) (hc : M.1 32 8 = nI m) : X_X11_post g [.ref 0, .int a, .int b] M = if a = -1 then some (some (.int 0), ((zu M.1 32 8 0), M.2)) else if inb a 0 5 = true ∧ inb b 1 99 = true ∧ m < 6 then some (some (.int (nI (m + 1))), ((zu (zu (zu M.1 36 m a) 37 m b) 32 8 (nI (m + 1))), M.2)) else some (some (.int (-1)), M) := by
  rw [x_X11_post_0, x_X6_addPost_0]
  by_cases h1 : a = -1
  · rw [if_pos h1, cEq_s h1, bif_t, zbI_s]
  · rw [if_neg h1, cEq_n h1, bif_f, within_s, zbI_s, cEq0_b01, within_s, zbI_s, cEq0_b01, hc, cLt_lit (m := m) (k := 6) (y := 6) (by omega) (by omega) rfl, zb_nI (by omega), zx_nI (by omega), nI_s1]
    cases hi : inb a 0 5
    · simp [zbI_s]
    · cases hj : inb b 1 99
      · simp [zbI_s]
      · by_cases h2 : m < 6
        · simp [h2, zbI_s]
        · simp [h2, zbI_s]
theorem postM_s (g : zg) (a b : Int32) {m : Nat} {M : zM} (hm : m ≤ 6) (hc : M.1 72 47 = nI m) : X_X12_post g [.ref 72, .int a, .int b] M = if a = -1 then some (some (.int 0), ((zu (zu M.1 72 0 0) 72 47 0), M.2)) else if inb a 0 5 = true ∧ inb b 1 99 = true ∧ m < 6 then some (some (.int (nI (m + 1))), ((zu (zu (zu (zu M.1 72 0 0) 95 m a) 96 m b) 72 47 (nI (m + 1))), M.2)) else some (some (.int (-1)), ((zu M.1 72 0 0), M.2)) := by
  rw [x_X12_post_0]
  by_cases h1 : a = -1
  · rw [if_pos h1, cEq_s h1, bif_t]
  · rw [if_neg h1, cEq_n h1, bif_f, isIn_s, zbI_s, cEq0_b01, isIn_s, zbI_s, cEq0_b01]
    dsimp only
    rw [zu_ne2 (by omega), hc, cEq_lit (m := m) (k := 6) (y := 6) (by omega) (by omega) rfl, zb_nI (by omega), zx_nI (by omega), nI_s1]
    cases hi : inb a 0 5
    · simp
    · cases hj : inb b 1 99
      · simp
      · by_cases h2 : m < 6
        · have h3 : ¬ m = 6 := by omega
          simp [h2, h3]
        · have h3 : m = 6 := by omega
          simp [h3]
theorem mixC_s (g : zg) (a b : Int32) (M : zM) : X_X11_mix g [.ref 0, .int a, .int b] M = bif inb a 0 3 && inb b 0 99 then some (some (.int 1), ((zu M.1 38 (zx a) b), M.2)) else some (some (.int 0), M) := by
  rw [x_X11_mix_0, x_X6_setMix_0, within_s, zbI_s, cEq0_b01, within_s, zbI_s, cEq0_b01]
  cases hi : inb a 0 3
  · rfl
  · cases hj : inb b 0 99
    · rfl
    · obtain ⟨k, hk, rfl⟩ := inb_ex (b := 3) (by omega) hi
      have h4 : k < 4 := by omega
      rw [zb_nI (by omega), decide_eq_true h4]
      rfl
theorem mixM_s (g : zg) (a b : Int32) (M : zM) : X_X12_mix g [.ref 72, .int a, .int b] M = bif inb a 0 3 && inb b 0 99 then some (some (.int 1), ((zu (zu M.1 72 0 0) 99 (zx a) b), M.2)) else some (some (.int 0), ((zu M.1 72 0 0), M.2)) := by
  rw [x_X12_mix_0, isIn_s, zbI_s, cEq0_b01, isIn_s, zbI_s, cEq0_b01]
  cases hi : inb a 0 3
  · rfl
  · cases hj : inb b 0 99
    · rfl
    · obtain ⟨k, hk, rfl⟩ := inb_ex (b := 3) (by omega) hi
      have h4 : k < 4 := by omega
      rw [zb_nI (by omega), decide_eq_true h4]
      rfl
/-- notes alike: glasses seen, posts, what is mixed -/
def SE (m : Nat) (I : zI) : Prop := m ≤ 12 ∧ I 32 6 = nI m ∧ I 72 43 = nI m ∧ ∀ k, k < m → I 33 k = I 93 k ∧ inb (I 93 k) 0 99 = true
def PO (m : Nat) (I : zI) : Prop := m ≤ 6 ∧ I 32 8 = nI m ∧ I 72 47 = nI m ∧ ∀ k, k < m → I 36 k = I 95 k ∧ I 37 k = I 96 k ∧ inb (I 95 k) 0 5 = true ∧ inb (I 96 k) 1 99 = true
def MX (I : zI) : Prop := ∀ k, k < 4 → I 38 k = I 99 k ∧ inb (I 99 k) 0 99 = true
theorem upd1_two {f h : Nat → Int32} {i j : Nat} {v : Int32} (hj : ¬ j = i → f j = h j) : upd1 f i v j = upd1 h i v j := by
  by_cases e : j = i
  · subst e; rw [upd1_eq, upd1_eq]
  · rw [upd1_ne e, upd1_ne e]; exact hj e
theorem SE_add {m : Nat} {I I' : zI} {a : Int32} (h : SE m I) (hm : m < 12) (ha : inb a 0 99 = true) (h1 : I' 32 6 = nI (m + 1)) (h2 : I' 72 43 = nI (m + 1)) (h3 : I' 33 = upd1 (I 33) m a) (h4 : I' 93 = upd1 (I 93) m a) : SE (m + 1) I' := by
  refine ⟨by omega, h1, h2, ?_⟩
  intro k hk
  rw [h3, h4]
  refine ⟨upd1_two (fun e => (h.2.2.2 k (by omega)).1), ?_⟩
  by_cases e : k = m
  · subst e; rw [upd1_eq]; exact ha
  · rw [upd1_ne e]; exact (h.2.2.2 k (by omega)).2
theorem PO_add {m : Nat} {I I' : zI} {a b : Int32} (h : PO m I) (hm : m < 6) (ha : inb a 0 5 = true) (hb : inb b 1 99 = true) (h1 : I' 32 8 = nI (m + 1)) (h2 : I' 72 47 = nI (m + 1)) (h3 : I' 36 = upd1 (I 36) m a) (h4 : I' 95 = upd1 (I 95) m a) (h5 : I' 37 = upd1 (I 37) m b) (h6 : I' 96 = upd1 (I 96) m b) : PO (m + 1) I' := by
  refine ⟨by omega, h1, h2, ?_⟩
  intro k hk
  rw [h3, h4, h5, h6]
  refine ⟨upd1_two (fun e => (h.2.2.2 k (by omega)).1), upd1_two (fun e => (h.2.2.2 k (by omega)).2.1), ?_, ?_⟩
  · by_cases e : k = m
    · subst e; rw [upd1_eq]; exact ha
    · rw [upd1_ne e]; exact (h.2.2.2 k (by omega)).2.2.1
  · by_cases e : k = m
    · subst e; rw [upd1_eq]; exact hb
    · rw [upd1_ne e]; exact (h.2.2.2 k (by omega)).2.2.2
theorem MX_put {I I' : zI} {i : Nat} {a : Int32} (h : MX I) (ha : inb a 0 99 = true) (h3 : I' 38 = upd1 (I 38) i a) (h4 : I' 99 = upd1 (I 99) i a) : MX I' := by
  intro k hk
  rw [h3, h4]
  refine ⟨upd1_two (fun e => (h k hk).1), ?_⟩
  by_cases e : k = i
  · subst e; rw [upd1_eq]; exact ha
  · rw [upd1_ne e]; exact (h k hk).2
