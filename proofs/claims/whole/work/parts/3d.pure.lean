/-! PURE ROWS: mixes -/
/-- the worth of mix p: rows f -/
def mxW (f : Nat → Int32) (p : Int32) : Int32 := bif cGt ((p * f 2) + ((1000 - p) * f 0)) ((p * f 3) + ((1000 - p) * f 1)) then (p * f 3) + ((1000 - p) * f 1) else (p * f 2) + ((1000 - p) * f 0)
theorem mixWorth_s (g : zg) (p : Int32) (M : zM) : X_X6_mixWorth g [.ref 32, .int p] M = some (some (.int (mxW (M.1 38) p)), M) := by
  rw [x_X6_mixWorth_0, min_s, zbI_s]
  rfl
theorem leastBy_s (g : zg) (p : Int32) (M : zM) : X_X12_leastBy g [.ref 72, .int p] M = some (some (.int (mxW (M.1 99) p)), M) := by
  rw [x_X12_leastBy_0, x_X12_lesser_0]
  unfold mxW
  rw [show ∀ x y : Int32, cGt x y = cLt y x from fun _ _ => rfl]
  cases cLt ((p * M.1 99 3) + ((1000 - p) * M.1 99 1)) ((p * M.1 99 2) + ((1000 - p) * M.1 99 0)) <;> rfl
/-- the best mix among b, p, p + 1, .. (f of them) -/
def mxF (w : Int32 → Int32) : Nat → Nat → Int32 → Int32
  | 0, _, b => b
  | f + 1, p, b => mxF w f (p + 1) (bif cGt (w (nI p)) (w b) then nI p else b)
theorem mxF_s (w : Int32 → Int32) (f p : Nat) (b : Int32) : mxF w (f + 1) p b = mxF w f (p + 1) (bif cGt (w (nI p)) (w b) then nI p else b) := rfl
theorem bestMix_10 (g : zg) {M : zM} (f : Nat) : ∀ p b, p + f = 1001 → zX (t_X6_bestMix g) 10 [some (.ref 32), some (.int b), some (.int (mxW (M.1 38) b)), some (.int (nI p)), none] [] M = some (some (.int (mxF (mxW (M.1 38)) f p b)), M) := by
  induction f with
  | zero =>
    intro p b hp
    have e : cGt (nI p) 1000 = true := (cGt_nI (a := p) (b := 1000) (by omega) (by omega)).trans (decide_eq_true (by omega))
    rw [e_X6_bestMix_10, e, bif_t]
    rfl
  | succ f ih =>
    intro p b hp
    have e : cGt (nI p) 1000 = false := (cGt_nI (a := p) (b := 1000) (by omega) (by omega)).trans (decide_eq_false (by omega))
    rw [e_X6_bestMix_10, e, bif_f, mixWorth_s, zbI_s, nI_s1, ih (p + 1) (nI p) (by omega), ih (p + 1) b (by omega), mxF_s]
    cases cGt (mxW (M.1 38) (nI p)) (mxW (M.1 38) b) <;> rfl
theorem bestMix_s (g : zg) (M : zM) : X_X6_bestMix g [.ref 32] M = some (some (.int (mxF (mxW (M.1 38)) 1000 1 0)), M) := by
  rw [x_X6_bestMix_0, mixWorth_s, zbI_s]
  exact bestMix_10 g 1000 1 0 (by omega)
/-- the answer of mixes -/
def mixA (f : Nat → Int32) (a : Int32) : Int32 := bif inb a 0 1 then (bif cEq0 a then mxF (mxW f) 1000 1 0 else mxW f (mxF (mxW f) 1000 1 0)) else -1
theorem mixesC_s (g : zg) (a : Int32) (M : zM) : X_X11_mixes g [.ref 0, .int a] M = some (some (.int (mixA (M.1 38) a)), M) := by
  rw [x_X11_mixes_0, within_s, zbI_s, cEq0_b01, bestMix_s, zbI_s, mixWorth_s, zbI_s]
  unfold mixA
  generalize mxF (mxW (M.1 38)) 1000 1 0 = q
  cases inb a 0 1
  · rfl
  · cases cEq0 a <;> rfl
theorem mixes_21 (g : zg) {a : Int32} {M : zM} (f : Nat) : ∀ p b, p + f = 1001 → zX (t_X12_mixes g) 21 [some (.ref 72), some (.int a), some (.int b), some (.int (nI p))] [] M = some (some (.int (bif cEq0 a then mxF (mxW (M.1 99)) f p b else mxW (M.1 99) (mxF (mxW (M.1 99)) f p b))), M) := by
  induction f with
  | zero =>
    intro p b hp
    have e : cGt (nI p) 1000 = true := (cGt_nI (a := p) (b := 1000) (by omega) (by omega)).trans (decide_eq_true (by omega))
    rw [e_X12_mixes_21, e, bif_t, leastBy_s, zbI_s]
    cases cEq0 a <;> rfl
  | succ f ih =>
    intro p b hp
    have e : cGt (nI p) 1000 = false := (cGt_nI (a := p) (b := 1000) (by omega) (by omega)).trans (decide_eq_false (by omega))
    rw [e_X12_mixes_21, e, bif_f, leastBy_s, zbI_s, leastBy_s, zbI_s, nI_s1, ih (p + 1) (nI p) (by omega), ih (p + 1) b (by omega), mxF_s]
    cases cGt (mxW (M.1 99) (nI p)) (mxW (M.1 99) b) <;> rfl
theorem mixesM_s (g : zg) (a : Int32) (M : zM) : X_X12_mixes g [.ref 72, .int a] M = some (some (.int (mixA (M.1 99) a)), ((zu M.1 72 0 0), M.2)) := by
  rw [x_X12_mixes_0, isIn_s, zbI_s, cEq0_b01]
  unfold mixA
  cases inb a 0 1
  · rfl
  · simp only [Bool.not_true, bif_f, bif_t]
    have e := mixes_21 g (a := a) (M := ((zu M.1 72 0 0), M.2)) 1000 1 0 (by omega)
    dsimp only at e
    rw [zu_ne (by omega)] at e
    exact e
theorem mixA_alike {f h : Nat → Int32} (e : ∀ k, k < 4 → f k = h k) (a : Int32) : mixA f a = mixA h a := by
  have : mxW f = mxW h := by
    funext p
    unfold mxW
    rw [e 0 (by omega), e 1 (by omega), e 2 (by omega), e 3 (by omega)]
  unfold mixA
  rw [this]
