/-! PURE ROWS: the reference's records; right alike -/
theorem toldOn_15 (g : zg) {t : Nat} {M : zM} (ht : t < 10) (f : Nat) : ∀ k v, k + f = t → v < 2147483648 → zX (t_X12_toldOn g) 15 [none, none, some (.int (nI t)), some (.int (nI v)), some (.int (nI k))] [] M = some (some (.int (nI (v / 6 ^ f % 6) - 1)), M) := by
  induction f with
  | zero =>
    intro k v h hv
    rw [e_X12_toldOn_15, cLt_nI (by omega) (by omega), decide_eq_false (by omega), bif_f, show nI v - nI v / 6 * 6 = nI (v % 6) from irem_nI (a := v) (d := 6) hv (by omega) (by omega)]
    simp
  | succ f ih =>
    intro k v h hv
    rw [e_X12_toldOn_15, cLt_nI (by omega) (by omega), decide_eq_true (by omega), bif_t, show nI v / 6 = nI (v / 6) from idiv_nI (a := v) (d := 6) hv (by omega) (by omega), nI_s1, ih (k + 1) (v / 6) (by omega) (by omega), Nat.div_div_eq_div_mul, Nat.pow_succ, Nat.mul_comm]
theorem ix58 (d : Nat) : 58 + nI d = nI (58 + d) := by
  unfold nI
  rw [show (58 : Int32) = Int32.ofNat 58 from rfl, ← Int32.ofNat_add]
theorem toldOn_s (g : zg) {d t cd ca : Nat} {M : zM} (hd : d < 90) (ht : t < 10) (h5 : ca < 5) (h6 : cd < 60466176) (hv : M.1 73 (58 + d) = nI (5 * cd + ca)) : X_X12_toldOn g [.ref 72, .int (nI d), .int (nI t)] M = some (some (.int (nI (cd / 6 ^ t % 6) - 1)), M) := by
  have e : (5 * cd + ca) / 5 = cd := by omega
  have hb : 58 + d < 148 := by omega
  rw [x_X12_toldOn_0, ix58, zb_nI (by omega), decide_eq_true hb, bif_t, zx_nI (by omega), hv, show nI (5 * cd + ca) / 5 = nI ((5 * cd + ca) / 5) from idiv_nI (a := 5 * cd + ca) (d := 5) (by omega) (by omega) (by omega), e]
  exact toldOn_15 g ht t 0 cd (by omega) (by omega)
theorem cameOn_s (g : zg) {d cd ca : Nat} {M : zM} (hd : d < 90) (h5 : ca < 5) (h6 : cd < 60466176) (hv : M.1 73 (58 + d) = nI (5 * cd + ca)) : X_X12_cameOn g [.ref 72, .int (nI d)] M = some (some (.int (nI ca)), M) := by
  have e : (5 * cd + ca) % 5 = ca := by omega
  have hb : 58 + d < 148 := by omega
  rw [x_X12_cameOn_0, ix58, zb_nI (by omega), decide_eq_true hb, bif_t, zx_nI (by omega), hv, show nI (5 * cd + ca) - nI (5 * cd + ca) / 5 * 5 = nI ((5 * cd + ca) % 5) from irem_nI (a := 5 * cd + ca) (d := 5) (by omega) (by omega) (by omega), e]
theorem daysOf_4 (g : zg) {r t : Nat} {cd ca : Nat → Nat} {cm sd : Nat → Int32} {M : zM} (h : MR cm sd r cd ca (M.1 73)) (ht : t < 10) (f : Nat) : ∀ i c, i + f = min r 90 → zX (t_X12_daysOf g) 4 [some (.ref 72), some (.int (nI t)), some (.int (nI c)), some (.int (nI i))] [] M = some (some (.int (nI (c + cntF (fun d => !cEq (nI (cd d / 6 ^ t % 6) - 1) (-1)) f i))), M) := by
  induction f with
  | zero =>
    intro i c hi
    rw [e_X12_daysOf_4, h.1, cLt_nI (by omega) (by omega), decide_eq_false (by omega), bif_f]
    rfl
  | succ f ih =>
    intro i c hi
    have hd := h.2 i (by omega)
    rw [e_X12_daysOf_4, h.1, cLt_nI (by omega) (by omega), decide_eq_true (by omega), bif_t, toldOn_s g (by omega) ht hd.1 hd.2.1 hd.2.2.1, zbI_s, nI_s1, nI_s1, ih (i + 1) c (by omega), ih (i + 1) (c + 1) (by omega)]
    rw [cntF_s]
    cases cEq (nI (cd i / 6 ^ t % 6) - 1) (-1)
    · simp [Nat.add_assoc]
    · simp
theorem rightOf_4 (g : zg) {r t : Nat} {cd ca : Nat → Nat} {cm sd : Nat → Int32} {M : zM} (h : MR cm sd r cd ca (M.1 73)) (ht : t < 10) (f : Nat) : ∀ i c, i + f = min r 90 → zX (t_X12_rightOf g) 4 [some (.ref 72), some (.int (nI t)), some (.int (nI c)), some (.int (nI i))] [] M = some (some (.int (nI (c + cntF (fun d => cEq (nI (cd d / 6 ^ t % 6) - 1) (nI (ca d))) f i))), M) := by
  induction f with
  | zero =>
    intro i c hi
    rw [e_X12_rightOf_4, h.1, cLt_nI (by omega) (by omega), decide_eq_false (by omega), bif_f]
    rfl
  | succ f ih =>
    intro i c hi
    have hd := h.2 i (by omega)
    rw [e_X12_rightOf_4, h.1, cLt_nI (by omega) (by omega), decide_eq_true (by omega), bif_t, toldOn_s g (by omega) ht hd.1 hd.2.1 hd.2.2.1, zbI_s, cameOn_s g (by omega) hd.1 hd.2.1 hd.2.2.1, zbI_s, nI_s1, nI_s1, ih (i + 1) c (by omega), ih (i + 1) (c + 1) (by omega)]
    rw [cntF_s]
    cases cEq (nI (cd i / 6 ^ t % 6) - 1) (nI (ca i))
    · simp
    · simp [Nat.add_assoc]
/-- days on which teller t told; days on which t told what came -/
def dysN (cd : Nat → Nat) (r t : Nat) : Nat := cntF (fun d => !cEq (nI (cd d / 6 ^ t % 6) - 1) (-1)) (min r 90) 0
def rgtN (cd ca : Nat → Nat) (r t : Nat) : Nat := cntF (fun d => cEq (nI (cd d / 6 ^ t % 6) - 1) (nI (ca d))) (min r 90) 0
theorem daysOf_s (g : zg) {r t : Nat} {cd ca : Nat → Nat} {cm sd : Nat → Int32} {M : zM} (h : MR cm sd r cd ca (M.1 73)) (ht : t < 10) : X_X12_daysOf g [.ref 72, .int (nI t)] M = some (some (.int (nI (dysN cd r t))), M) := by
  rw [x_X12_daysOf_0]
  have e := daysOf_4 g h ht (min r 90) 0 0 (by omega)
  rw [Nat.zero_add] at e
  exact e
theorem rightOf_s (g : zg) {r t : Nat} {cd ca : Nat → Nat} {cm sd : Nat → Int32} {M : zM} (h : MR cm sd r cd ca (M.1 73)) (ht : t < 10) : X_X12_rightOf g [.ref 72, .int (nI t)] M = some (some (.int (nI (rgtN cd ca r t))), M) := by
  rw [x_X12_rightOf_0]
  have e := rightOf_4 g h ht (min r 90) 0 0 (by omega)
  rw [Nat.zero_add] at e
  exact e
theorem toldDays_s (g : zg) {r t : Nat} {cd ca : Nat → Nat} {rn : Nat → Int32} {M : zM} (h : MR (M.1 28) (M.1 29) r cd ca rn) (hr : r < 2147483648) (hc : M.1 7 12 = nI r) (ht : t < 10) : X_X5_toldDays g [.ref 27, .ref 7, .int (nI t)] M = some (some (.int (nI (dysN cd r t))), M) := by
  rw [x_X5_toldDays_0]
  have e := toldDays_5 g hr hc ht (min r 90) 0 0 (by omega)
  rw [Nat.zero_add] at e
  refine e.trans ?_
  unfold dysN
  rw [cntF_rev (q := fun d => !cEq (nI (cd d / 6 ^ t % 6) - 1) (-1)) (min r 90) 0 0]
  intro k hk
  have hd := (h.2 (min r 90 - 1 - k) (by omega)).2.2.2.2 t ht
  rw [show r - min r 90 + (min r 90 - 1 - k) = r - 1 - k by omega] at hd
  rw [Nat.zero_add, Nat.zero_add]
  rw [hd]
theorem rightDays_s (g : zg) {r t : Nat} {cd ca : Nat → Nat} {rn : Nat → Int32} {M : zM} (h : MR (M.1 28) (M.1 29) r cd ca rn) (hr : r < 2147483648) (hc : M.1 7 12 = nI r) (ht : t < 10) : X_X5_rightDays g [.ref 27, .ref 7, .int (nI t)] M = some (some (.int (nI (rgtN cd ca r t))), M) := by
  rw [x_X5_rightDays_0]
  have e := rightDays_5 g hr hc ht (min r 90) 0 0 (by omega)
  rw [Nat.zero_add] at e
  refine e.trans ?_
  unfold rgtN
  rw [cntF_rev (q := fun d => cEq (nI (cd d / 6 ^ t % 6) - 1) (nI (ca d))) (min r 90) 0 0]
  intro k hk
  have h0 := h.2 (min r 90 - 1 - k) (by omega)
  have hd := h0.2.2.2.2 t ht
  have hm := h0.2.2.2.1
  rw [show r - min r 90 + (min r 90 - 1 - k) = r - 1 - k by omega] at hd hm
  rw [Nat.zero_add, Nat.zero_add]
  rw [hd, hm]
/-- the answer of right -/
def rightA (cd ca : Nat → Nat) (n r : Nat) (a b : Int32) : Int32 := bif hsB (nI n) a && (decide (b = 0) || decide (b = 1)) then nI (if b = 0 then rgtN cd ca r (zx a) else dysN cd r (zx a)) else -1
theorem inb01 (b : Int32) : inb b 0 1 = (decide (b = 0) || decide (b = 1)) := by
  cases h : inb b 0 1
  · by_cases h0 : b = 0
    · subst h0; exact absurd h (by decide)
    · by_cases h1 : b = 1
      · subst h1; exact absurd h (by decide)
      · simp [h0, h1]
  · obtain ⟨k, hk, rfl⟩ := inb_ex (b := 1) (by omega) h
    have : k = 0 ∨ k = 1 := by omega
    rcases this with rfl | rfl <;> decide
theorem rightC_s (g : zg) (a b : Int32) {n r : Nat} {cd ca : Nat → Nat} {rn : Nat → Int32} {M : zM} (hn : n ≤ 10) (hc : M.1 7 2 = nI n) (h : MR (M.1 28) (M.1 29) r cd ca rn) (hr : r < 2147483648) (h12 : M.1 7 12 = nI r) : X_X11_right g [.ref 0, .int a, .int b] M = some (some (.int (rightA cd ca n r a b)), M) := by
  rw [x_X11_right_0, has7_s, zbI_s, cEq0_b01, hc]
  unfold rightA
  cases h1 : hsB (nI n) a
  · rfl
  · rw [within_s, zbI_s, cEq0_b01, inb01]
    obtain ⟨t, ht, rfl⟩ := hsB_ex hn h1
    rw [rightDays_s g h hr h12 (by omega), zbI_s, toldDays_s g h hr h12 (by omega), zbI_s, zx_nI (by omega)]
    by_cases h0 : b = 0
    · subst h0; rfl
    · by_cases hb1 : b = 1
      · subst hb1; rfl
      · simp [h0, hb1]
theorem rightM_s (g : zg) (a b : Int32) {n r : Nat} {cd ca : Nat → Nat} {cm sd : Nat → Int32} {M : zM} (hn : n ≤ 10) (hc : M.1 72 6 = nI n) (h : MR cm sd r cd ca (M.1 73)) : X_X12_right g [.ref 72, .int a, .int b] M = some (some (.int (rightA cd ca n r a b)), ((zu M.1 72 0 0), M.2)) := by
  have h' : MR cm sd r cd ca ((zu M.1 72 0 0) 73) := by rw [zu_ne (by omega)]; exact h
  rw [x_X12_right_0, isT_s, zbI_s, cEq0_b01]
  dsimp only
  rw [zu_ne2 (by omega), hc]
  unfold rightA
  cases h1 : hsB (nI n) a
  · rfl
  · obtain ⟨t, ht, rfl⟩ := hsB_ex hn h1
    rw [rightOf_s g (M := ((zu M.1 72 0 0), M.2)) h' (by omega), zbI_s, daysOf_s g (M := ((zu M.1 72 0 0), M.2)) h' (by omega), zbI_s, zx_nI (by omega)]
    by_cases h0 : b = 0
    · subst h0; rfl
    · by_cases hb1 : b = 1
      · subst hb1; rfl
      · rw [cEq0_n h0, cEq_n hb1]
        simp [h0, hb1]
