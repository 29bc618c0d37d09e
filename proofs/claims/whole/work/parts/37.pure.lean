/-! PURE ROWS: what was told and what came (right) -/
theorem nI_sub {a b : Nat} (h : b ≤ a) : nI a - nI b = nI (a - b) := by
  have e : nI a = nI (a - b) + nI b := by
    unfold nI
    rw [← Int32.ofNat_add, Nat.sub_add_cancel h]
  rw [e]
  exact Int32.add_sub_cancel _ _
theorem nI_xor (a b : Nat) : nI a ^^^ nI b = nI (a ^^^ b) := by
  apply Int32.toBitVec_inj.mp
  show BitVec.ofNat 32 a ^^^ BitVec.ofNat 32 b = BitVec.ofNat 32 (a ^^^ b)
  exact BitVec.ofNat_xor.symm
theorem floorMod_s (g : zg) {a d : Nat} {x y : Int32} {M : zM} (ha : a < 2147483648) (h0 : 0 < d) (hd : d < 2147483648) (hx : x = nI a) (hy : y = nI d) : X_J9_floorMod_7cf53 g [.int x, .int y] M = some (some (.int (nI (a % d))), M) := by
  subst hx; subst hy
  have hne : ¬ nI d = 0 := fun h => by
    have := (nI_eq (a := d) (b := 0) (by omega) (by omega)).mp h
    omega
  have hlt : a ^^^ d < 2147483648 := Nat.xor_lt_two_pow (n := 31) ha hd
  rw [x_J9_floorMod_7cf53_0, decide_eq_false hne, nI_xor, cLt0_nI hlt, irem_nI ha h0 hd]
  rfl
theorem min90 (g : zg) (r : Nat) (hr : r < 2147483648) (M : zM) : X_J9_min_7cf53 g [.int (nI r), .int 90] M = some (some (.int (nI (min r 90))), M) := by
  have e : cGt (nI r) 90 = decide (90 < r) := cGt_nI (a := r) (b := 90) hr (by omega)
  rw [min_s, e]
  by_cases h : 90 < r
  · rw [decide_eq_true h, bif_t, Nat.min_eq_right (by omega)]; rfl
  · rw [decide_eq_false h, bif_f, Nat.min_eq_left (by omega)]
theorem kept_s (g : zg) {r : Nat} {M : zM} (hr : r < 2147483648) (hc : M.1 7 12 = nI r) : X_X5_kept g [.ref 7] M = some (some (.int (nI (min r 90))), M) := by
  rw [x_X5_kept_0, hc, min90 g r hr M, zbI_s]
theorem slotOf_s (g : zg) {r i : Nat} {M : zM} (hr : r < 2147483648) (hc : M.1 7 12 = nI r) (hi : i < r) : X_X5_slotOf g [.ref 7, .int (nI i)] M = some (some (.int (nI ((r - 1 - i) % 96))), M) := by
  rw [x_X5_slotOf_0, hc, show nI r - 1 = nI (r - 1) from nI_sub (a := r) (b := 1) (by omega), nI_sub (by omega), floorMod_s g (a := r - 1 - i) (d := 96) (y := 96) (by omega) (by omega) (by omega) rfl rfl, zbI_s]
theorem ix10 (t k : Nat) : nI t * 10 + nI k = nI (10 * t + k) := by
  unfold nI
  rw [show (10 : Int32) = Int32.ofNat 10 from rfl, ← Int32.ofNat_mul, ← Int32.ofNat_add, Nat.mul_comm]
theorem saidIn_s (g : zg) {s t : Nat} {M : zM} (hs : s < 96) (ht : t < 10) : X_X5_saidIn g [.ref 27, .int (nI s), .int (nI t)] M = some (some (.int (M.1 29 (10 * s + t))), M) := by
  have h9 : inb (nI t) 0 9 = true := (inb_nI (k := t) (a := 0) (b := 9) (by omega) (by omega) (by omega)).trans (by simp; omega)
  have h7 : 10 * s + t < 960 := by omega
  rw [x_X5_saidIn_0, within_s, zbI_s, h9, cEq0_b01, ix10, zb_nI (by omega), zx_nI (by omega)]
  simp [h7]
/-- how often p holds at i, i + 1, .. (f places) -/
def cntF (p : Nat → Bool) : Nat → Nat → Nat
  | 0, _ => 0
  | f + 1, i => (if p i then 1 else 0) + cntF p f (i + 1)
theorem cntF_s (p : Nat → Bool) (f i : Nat) : cntF p (f + 1) i = (if p i then 1 else 0) + cntF p f (i + 1) := rfl
theorem cntF_last (p : Nat → Bool) (f : Nat) : ∀ i, cntF p (f + 1) i = cntF p f i + (if p (i + f) then 1 else 0) := by
  induction f with
  | zero => intro i; simp [cntF]
  | succ f ih =>
    intro i
    have h := ih (i + 1)
    rw [show i + 1 + f = i + (f + 1) by omega] at h
    show (if p i then 1 else 0) + cntF p (f + 1) (i + 1) = (if p i then 1 else 0) + cntF p f (i + 1) + _
    rw [h, Nat.add_assoc]
theorem cntF_rev {p q : Nat → Bool} (f : Nat) : ∀ i j, (∀ k, k < f → p (i + k) = q (j + f - 1 - k)) → cntF p f i = cntF q f j := by
  induction f with
  | zero => intro i j _; rfl
  | succ f ih =>
    intro i j h
    rw [cntF_last q f j]
    show (if p i then 1 else 0) + cntF p f (i + 1) = _
    have h0 := h 0 (by omega)
    rw [show j + (f + 1) - 1 - 0 = j + f by omega] at h0
    rw [show p i = q (j + f) from h0, ih (i + 1) j ?_, Nat.add_comm]
    intro k hk
    have h1 := h (k + 1) (by omega)
    rw [show i + (k + 1) = i + 1 + k by omega, show j + (f + 1) - 1 - (k + 1) = j + f - 1 - k by omega] at h1
    exact h1
theorem cntF_le (p : Nat → Bool) (f : Nat) : ∀ i, cntF p f i ≤ f := by
  induction f with
  | zero => intro i; exact Nat.le_refl 0
  | succ f ih =>
    intro i
    have h := ih (i + 1)
    show (if p i then 1 else 0) + cntF p f (i + 1) ≤ f + 1
    split <;> omega
/-- the records alike: r days in all, the last 90 of them kept -/
def MR (cm sd : Nat → Int32) (r : Nat) (cd ca : Nat → Nat) (rn : Nat → Int32) : Prop :=
  rn 7 = nI (min r 90) ∧ ∀ d, d < min r 90 → ca d < 5 ∧ cd d < 60466176 ∧ rn (58 + d) = nI (5 * cd d + ca d) ∧ cm ((r - min r 90 + d) % 96) = nI (ca d) ∧ ∀ t, t < 10 → sd (10 * ((r - min r 90 + d) % 96) + t) = nI (cd d / 6 ^ t % 6) - 1
theorem toldDays_5 (g : zg) {r t : Nat} {M : zM} (hr : r < 2147483648) (hc : M.1 7 12 = nI r) (ht : t < 10) (f : Nat) : ∀ i c, i + f = min r 90 → zX (t_X5_toldDays g) 5 [some (.ref 27), some (.ref 7), some (.int (nI t)), some (.int (nI c)), some (.int (nI i))] [] M = some (some (.int (nI (c + cntF (fun i => !cEq (M.1 29 (10 * ((r - 1 - i) % 96) + t)) (-1)) f i))), M) := by
  induction f with
  | zero =>
    intro i c h
    rw [e_X5_toldDays_5, kept_s g hr hc, zbI_s, cLt_nI (by omega) (by omega), decide_eq_false (by omega), bif_f]
    rfl
  | succ f ih =>
    intro i c h
    rw [e_X5_toldDays_5, kept_s g hr hc, zbI_s, cLt_nI (by omega) (by omega), decide_eq_true (by omega), bif_t, slotOf_s g hr hc (by omega), zbI_s, saidIn_s g (by omega) ht, zbI_s, nI_s1, nI_s1, ih (i + 1) c (by omega), ih (i + 1) (c + 1) (by omega)]
    rw [cntF_s]
    cases cEq (M.1 29 (10 * ((r - 1 - i) % 96) + t)) (-1)
    · simp [Nat.add_assoc]
    · simp
theorem rightDays_5 (g : zg) {r t : Nat} {M : zM} (hr : r < 2147483648) (hc : M.1 7 12 = nI r) (ht : t < 10) (f : Nat) : ∀ i c, i + f = min r 90 → zX (t_X5_rightDays g) 5 [some (.ref 27), some (.ref 7), some (.int (nI t)), some (.int (nI c)), some (.int (nI i)), none] [] M = some (some (.int (nI (c + cntF (fun i => cEq (M.1 29 (10 * ((r - 1 - i) % 96) + t)) (M.1 28 ((r - 1 - i) % 96))) f i))), M) := by
  induction f with
  | zero =>
    intro i c h
    rw [e_X5_rightDays_5, kept_s g hr hc, zbI_s, cLt_nI (by omega) (by omega), decide_eq_false (by omega), bif_f]
    rfl
  | succ f ih =>
    intro i c h
    have hs : (r - 1 - i) % 96 < 96 := Nat.mod_lt _ (by omega)
    rw [e_X5_rightDays_5, kept_s g hr hc, zbI_s, cLt_nI (by omega) (by omega), decide_eq_true (by omega), bif_t, slotOf_s g hr hc (by omega), zbI_s, saidIn_s g (by omega) ht, zbI_s, zb_nI (by omega), decide_eq_true hs, bif_t, zx_nI (by omega), nI_s1, nI_s1, ih (i + 1) c (by omega), ih (i + 1) (c + 1) (by omega)]
    rw [cntF_s]
    cases cEq (M.1 29 (10 * ((r - 1 - i) % 96) + t)) (M.1 28 ((r - 1 - i) % 96))
    · simp
    · simp [Nat.add_assoc]
