/-! PURE ROWS: round on both sides -/
theorem inb_m1 {a : Int32} (h : inb a (-1) 99 = true) (hn : ¬ a = -1) : ∃ n, n ≤ 99 ∧ a = nI n := by
  apply inb_ex (b := 99) (by omega)
  unfold inb cLt cGt at h ⊢
  simp only [Bool.and_eq_true, Bool.not_eq_true', decide_eq_false_iff_not] at h ⊢
  refine ⟨?_, h.2⟩
  have h1 := h.1
  have h2 : ¬ a.toInt = (-1 : Int32).toInt := fun e => hn (Int32.toInt_inj.mp e)
  rw [Int32.lt_iff_toInt_lt] at h1 ⊢
  rw [show (-1 : Int32).toInt = -1 from by decide] at h1 h2
  rw [show (0 : Int32).toInt = 0 from by decide]
  omega
/-- the answer of round: m glasses seen, row x -/
def rndA (x : Nat → Int32) (m : Nat) (a : Int32) : Int32 := if m = 0 then -1 else bif inb a (-1) 99 then (if a = -1 then nI (perF x m (m - 1) 1) else x ((m - 1 + zx a) % perF x m (m - 1) 1)) else -1
theorem nI_ad2 (a b : Nat) : nI a + nI b = nI (a + b) := by
  unfold nI
  rw [← Int32.ofNat_add]
theorem behind_s (g : zg) {m n : Nat} {M : zM} (hm : m ≤ 12) (h1 : 1 ≤ m) (hn : n ≤ 99) (hc : M.1 32 6 = nI m) : X_X6_seenBehind g [.ref 32, .int (nI n)] M = some (some (.int (M.1 33 ((m - 1 + n) % perF (M.1 33) m (m - 1) 1))), M) := by
  have hp := perF_ok (M.1 33) m (m - 1) 1 (by omega)
  have hq : (m - 1 + n) % perF (M.1 33) m (m - 1) 1 < perF (M.1 33) m (m - 1) 1 := Nat.mod_lt _ (by omega)
  have h12 : (m - 1 + n) % perF (M.1 33) m (m - 1) 1 < 12 := by omega
  rw [x_X6_seenBehind_0, period_s g hm h1 hc, zbI_s, cGt0_nI (by omega), decide_eq_true (by omega), bif_t, hc, show nI m - 1 = nI (m - 1) from nI_sub (a := m) (b := 1) h1, nI_ad2, floorMod_s g (a := m - 1 + n) (d := perF (M.1 33) m (m - 1) 1) (by omega) (by omega) (by omega) rfl rfl, zbI_s, zb_nI (by omega), decide_eq_true h12, bif_t, zx_nI (by omega)]
theorem roundC_s (g : zg) (a : Int32) {m : Nat} {M : zM} (hm : m ≤ 12) (hc : M.1 32 6 = nI m) : X_X11_round g [.ref 0, .int a] M = some (some (.int (rndA (M.1 33) m a)), M) := by
  rw [x_X11_round_0, hc, cEq0_nI (by omega)]
  unfold rndA
  by_cases h0 : m = 0
  · rw [decide_eq_true h0, bif_t, if_pos h0]
  · rw [decide_eq_false h0, bif_f, if_neg h0, within_s, zbI_s, cEq0_b01]
    cases hi : inb a (-1) 99
    · rfl
    · simp only [Bool.not_true, bif_f, bif_t]
      by_cases h1 : a = -1
      · rw [if_pos h1, cEq_s h1, bif_t, period_s g hm (by omega) hc, zbI_s]
      · obtain ⟨n, hn, rfl⟩ := inb_m1 hi h1
        rw [if_neg h1, cEq_n h1, bif_f, behind_s g hm (by omega) hn hc, zbI_s, zx_nI (by omega)]
theorem roundM_27 (g : zg) {a : Int32} {m : Nat} {M : zM} (hm : m ≤ 12) (hc : M.1 72 43 = nI m) (hi : inb a (-1) 99 = true) (f : Nat) : ∀ p, p + f = m → 0 < p → zX (t_X12_round g) 27 [some (.ref 72), some (.int a), some (.int (nI p)), none] [] M = some (some (.int (if a = -1 then nI (perF (M.1 93) m f p) else M.1 93 (m - perF (M.1 93) m f p + (perF (M.1 93) m f p - 1 + zx a) % perF (M.1 93) m f p))), M) := by
  have fin : ∀ p, 0 < p → p ≤ m → rpF (M.1 93) p (m - p) p = true → zX (t_X12_round g) 27 [some (.ref 72), some (.int a), some (.int (nI p)), none] [] M = some (some (.int (if a = -1 then nI p else M.1 93 (m - p + (p - 1 + zx a) % p))), M) := by
    intro p hp hpm hr
    rw [e_X12_round_27, repM_s g hm hc hp hpm, zbI_s, hr, cEq0_b01]
    simp only [Bool.not_true, bif_f]
    by_cases h1 : a = -1
    · rw [if_pos h1, cEq_s h1, bif_t]
    · obtain ⟨n, hn, rfl⟩ := inb_m1 hi h1
      have hne : ¬ nI p = 0 := fun h => by
        have := (nI_eq (a := p) (b := 0) (by omega) (by omega)).mp h
        omega
      have hq : (p - 1 + n) % p < p := Nat.mod_lt _ hp
      have h12 : m - p + (p - 1 + n) % p < 12 := by omega
      rw [if_neg h1, cEq_n h1, bif_f, decide_eq_false hne, hc, show nI p - 1 = nI (p - 1) from nI_sub (a := p) (b := 1) hp, nI_ad2, irem_nI (by omega) hp (by omega), nI_sub hpm, nI_ad2, zb_nI (by omega), decide_eq_true h12, zx_nI (by omega), zx_nI (by omega)]
      rfl
  induction f with
  | zero =>
    intro p h hp
    have e := fin p hp (by omega) (by rw [show m - p = 0 by omega]; rfl)
    exact e
  | succ f ih =>
    intro p h hp
    rw [perF_s]
    by_cases e : rpF (M.1 93) p (m - p) p = true
    · rw [if_pos e]
      exact fin p hp (by omega) e
    · rw [if_neg e, e_X12_round_27, repM_s g hm hc hp (by omega), zbI_s, cEq0_b01, Bool.eq_false_iff.mpr e, nI_s1, ih (p + 1) (by omega) (by omega)]
      rfl
theorem rnd_same {x : Nat → Int32} {m n : Nat} (h1 : 1 ≤ m) : x (m - perF x m (m - 1) 1 + (perF x m (m - 1) 1 - 1 + n) % perF x m (m - 1) 1) = x ((m - 1 + n) % perF x m (m - 1) 1) := by
  have hp := perF_ok x m (m - 1) 1 (by omega)
  generalize perF x m (m - 1) 1 = p at hp ⊢
  have hq : (p - 1 + n) % p < p := Nat.mod_lt _ (by omega)
  have ha := rpF_all (m - p) p hp.2.2
  rw [per_mod (p := p) (m := m) (by omega) (fun j hj hm => ha j hj (by omega)) m (m - p + (p - 1 + n) % p) (by omega) (by omega)]
  congr 1
  rw [Nat.add_mod, Nat.mod_mod, ← Nat.add_mod, show m - p + (p - 1 + n) = m - 1 + n by omega]
theorem roundM_s (g : zg) (a : Int32) {m : Nat} {M : zM} (hm : m ≤ 12) (hc : M.1 72 43 = nI m) : X_X12_round g [.ref 72, .int a] M = some (some (.int (rndA (M.1 93) m a)), ((zu M.1 72 0 0), M.2)) := by
  rw [x_X12_round_0, hc, cEq0_nI (by omega)]
  unfold rndA
  by_cases h0 : m = 0
  · rw [decide_eq_true h0, bif_t, if_pos h0]
  · rw [decide_eq_false h0, bif_f, if_neg h0, isIn_s, zbI_s, cEq0_b01]
    cases hi : inb a (-1) 99
    · rfl
    · simp only [Bool.not_true, bif_f, bif_t]
      have e := roundM_27 g (M := ((zu M.1 72 0 0), M.2)) hm (by dsimp only; rw [zu_ne2 (by omega)]; exact hc) hi (m - 1) 1 (by omega) (by omega)
      dsimp only at e
      rw [zu_ne (by omega), rnd_same (x := M.1 93) (m := m) (n := zx a) (by omega)] at e
      exact e
theorem rndA_alike {x y : Nat → Int32} {m : Nat} (e : ∀ k, k < m → x k = y k) (a : Int32) : rndA x m a = rndA y m a := by
  unfold rndA
  by_cases h0 : m = 0
  · rw [if_pos h0, if_pos h0]
  · have hp := perF_ok y m (m - 1) 1 (by omega)
    have hq : (m - 1 + zx a) % perF y m (m - 1) 1 < perF y m (m - 1) 1 := Nat.mod_lt _ (by omega)
    rw [if_neg h0, if_neg h0, perF_alike e (m - 1) 1 (by omega), e _ (by omega)]
