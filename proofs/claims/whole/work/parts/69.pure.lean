/-! PURE ROWS: letters, digits, runs of them -/
def ltC (v : Int32) : Bool := inb v 97 122 || inb v 65 90
def dgC (v : Int32) : Bool := inb v 48 57
def blC (v : Int32) : Bool := cEq v 32 || cEq v 10
theorem letC_s (g : zg) (v : Int32) (M : zM) : X_X9_isLetter g [.int v] M = some (some (.int (b01 (ltC v))), M) := by
  rw [x_X9_isLetter_0]
  unfold ltC inb b01
  cases cLt v 97 <;> cases cGt v 122 <;> cases cLt v 65 <;> cases cGt v 90 <;> rfl
theorem digC_s (g : zg) (v : Int32) (M : zM) : X_X9_isDigit g [.int v] M = some (some (.int (b01 (dgC v))), M) := by
  rw [x_X9_isDigit_0]
  unfold dgC inb b01
  cases cLt v 48 <;> cases cGt v 57 <;> rfl
theorem blaC_s (g : zg) (v : Int32) (M : zM) : X_X9_isBlank g [.int v] M = some (some (.int (b01 (blC v))), M) := by
  rw [x_X9_isBlank_0]
  unfold blC b01
  cases cEq v 32 <;> cases cEq v 10 <;> rfl
theorem letM_s (g : zg) (v : Int32) (M : zM) : X_X12_isLetter g [.ref 72, .int v] M = some (some (.int (b01 (ltC v))), M) := by
  rw [x_X12_isLetter_0, isIn_s, zbI_s, cEq0_b01, isIn_s, zbI_s, cEq0_b01]
  unfold ltC
  cases inb v 97 122 <;> cases inb v 65 90 <;> rfl
theorem digM_s (g : zg) (v : Int32) (M : zM) : X_X12_isDigit g [.ref 72, .int v] M = some (some (.int (b01 (dgC v))), M) := by
  rw [x_X12_isDigit_0, isIn_s, zbI_s, b01_and1, bif_t]
  rfl
def sgC (v : Int32) : Bool := cEq v 59 || cEq v 43 || cEq v 45 || cEq v 42 || cEq v 47 || cEq v 40 || cEq v 41 || cEq v 60 || cEq v 61 || cEq v 62
theorem sgM_s (g : zg) (v : Int32) (M : zM) : X_X12_isMarkSign g [.ref 72, .int v] M = some (some (.int (b01 (sgC v))), M) := by
  rw [x_X12_isMarkSign_0]
  unfold sgC
  cases cEq v 59
  · cases cEq v 43
    · cases cEq v 45
      · cases cEq v 42
        · cases cEq v 47
          · cases cEq v 40 <;> cases cEq v 41 <;> cases cEq v 60 <;> cases cEq v 61 <;> cases cEq v 62 <;> rfl
          · rfl
        · rfl
      · rfl
    · rfl
  · rfl
/-- how far a run goes -/
def runE (P : Int32 → Bool) (f : Nat → Int32) (L : Nat) : Nat → Nat → Nat
  | 0, q => q
  | n + 1, q => if q < L ∧ P (f q) = true then runE P f L n (q + 1) else q
theorem runE_s {P : Int32 → Bool} {f : Nat → Int32} {L n q : Nat} (hq : q < L) : runE P f L (n + 1) q = bif P (f q) then runE P f L n (q + 1) else q := by
  show (if q < L ∧ P (f q) = true then runE P f L n (q + 1) else q) = _
  cases h : P (f q)
  · rw [if_neg (by simp), bif_f]
  · rw [if_pos ⟨hq, rfl⟩, bif_t]
theorem runE_le {P : Int32 → Bool} {f : Nat → Int32} {L : Nat} : ∀ n q, q ≤ L → q ≤ runE P f L n q ∧ runE P f L n q ≤ L := by
  intro n
  induction n with
  | zero => intro q h; exact ⟨Nat.le_refl q, h⟩
  | succ n ih =>
    intro q h
    unfold runE
    split
    · rename_i h1
      have := ih (q + 1) (by omega)
      omega
    · exact ⟨Nat.le_refl q, h⟩
theorem runE_at {P : Int32 → Bool} {f : Nat → Int32} {L : Nat} : ∀ n q, ∀ k, q ≤ k → k < runE P f L n q → P (f k) = true := by
  intro n
  induction n with
  | zero =>
    intro q k h1 h2
    exact absurd h2 (by unfold runE; omega)
  | succ n ih =>
    intro q k h1 h2
    unfold runE at h2
    split at h2
    · rename_i h3
      by_cases e : k = q
      · rw [e]
        exact h3.2
      · exact ih (q + 1) k (by omega) h2
    · omega
theorem runE_end {P : Int32 → Bool} {f : Nat → Int32} {L : Nat} : ∀ n q, q + n = L → runE P f L n q < L → P (f (runE P f L n q)) = false := by
  intro n
  induction n with
  | zero =>
    intro q h1 h2
    exact absurd h2 (by unfold runE; omega)
  | succ n ih =>
    intro q h1 h2
    unfold runE at h2 ⊢
    by_cases h3 : q < L ∧ P (f q) = true
    · rw [if_pos h3] at h2 ⊢
      exact ih (q + 1) (by omega) h2
    · rw [if_neg h3] at h2 ⊢
      cases hp : P (f q)
      · rfl
      · exact absurd ⟨h2, hp⟩ h3
/-- the class: where a run ends -/
def rnP (l d : Bool) (v : Int32) : Bool := (l && ltC v) || (d && dgC v)
theorem runC_25 (g : zg) {l d : Bool} {L : Nat} {M : zM} (hL : L ≤ 400) (hc : M.1 1 5 = nI L) (f : Nat) : ∀ q, q + f = L → zX (t_X9_runFrom g) 25 [some (.ref 1), none, some (.int (b01 l)), some (.int (b01 d)), some (.int (nI q))] [] M = some (some (.int (nI (runE (rnP l d) (M.1 2) L f q))), M) := by
  induction f with
  | zero =>
    intro q hq
    rw [e_X9_runFrom_25, hc, cLtF (by omega) (by omega), bif_f]
    unfold runE
    rw [show q = L from by omega]
  | succ f ih =>
    intro q hq
    rw [e_X9_runFrom_25, hc, cLtT (by omega) (by omega), bif_t, zb_nI (by omega), decide_eq_true (by omega), zx_nI (by omega)]
    simp only [bif_t]
    rw [digC_s, zbI_s, letC_s, zbI_s, digC_s, zbI_s, cEq0_b01, cEq0_b01, cEq0_b01, cEq0_b01, nI_s1, ih (q + 1) (by omega)]
    rw [runE_s (by omega), show rnP l d (M.1 2 q) = ((l && ltC (M.1 2 q)) || (d && dgC (M.1 2 q))) from rfl]
    generalize runE (rnP l d) (M.1 2) L f (q + 1) = z
    cases l <;> cases d <;> cases ltC (M.1 2 q) <;> cases dgC (M.1 2 q) <;> rfl
theorem runC_s (g : zg) {L p : Nat} {M : zM} (hL : L ≤ 400) (hc : M.1 1 5 = nI L) (hp : p < L) : X_X9_runFrom g [.ref 1, .int (nI p)] M = some (some (.int (nI (runE (rnP (ltC (M.1 2 p)) (dgC (M.1 2 p))) (M.1 2) L (L - (p + 1)) (p + 1)))), M) := by
  rw [x_X9_runFrom_0, zb_nI (by omega), decide_eq_true (by omega), zx_nI (by omega)]
  simp only [bif_t]
  rw [letC_s, zbI_s, digC_s, zbI_s, nI_s1, runC_25 g hL hc (L - (p + 1)) (p + 1) (by omega)]
/-- the reference: a sign of the tape -/
def rawV (f : Nat → Int32) (L q : Nat) : Int32 := if q < L then f q else -1
theorem raw_s (g : zg) {L q : Nat} {M : zM} (hL : L ≤ 400) (hc : M.1 72 13 = nI L) (hq : q ≤ L) : X_X12_raw g [.ref 72, .int (nI q)] M = some (some (.int (rawV (M.1 79) L q)), M) := by
  rw [x_X12_raw_0, hc]
  unfold rawV
  by_cases h : q < L
  · rw [cLtT h (by omega), bif_t, zb_nI (by omega), decide_eq_true (by omega), bif_t, zx_nI (by omega), if_pos h]
  · rw [cLtF (by omega) (by omega), bif_f, if_neg h]
