/-! PURE ROWS: round -/
/-- the row repeats after p from place k on (f places) -/
def rpF (x : Nat → Int32) (p : Nat) : Nat → Nat → Bool
  | 0, _ => true
  | f + 1, k => cEq (x k) (x (k - p)) && rpF x p f (k + 1)
theorem rpF_s (x : Nat → Int32) (p f k : Nat) : rpF x p (f + 1) k = (cEq (x k) (x (k - p)) && rpF x p f (k + 1)) := rfl
theorem rpF_all {x : Nat → Int32} {p : Nat} (f : Nat) : ∀ k, rpF x p f k = true → ∀ j, k ≤ j → j < k + f → x j = x (j - p) := by
  induction f with
  | zero => intro k _ j h1 h2; omega
  | succ f ih =>
    intro k h j h1 h2
    rw [rpF_s, Bool.and_eq_true] at h
    by_cases e : j = k
    · subst e; exact cEq_iff.mp h.1
    · exact ih (k + 1) h.2 j (by omega) (by omega)
theorem rpF_alike {x y : Nat → Int32} {p m : Nat} (e : ∀ k, k < m → x k = y k) (f : Nat) : ∀ k, k + f = m → rpF x p f k = rpF y p f k := by
  induction f with
  | zero => intro k _; rfl
  | succ f ih =>
    intro k h
    rw [rpF_s, rpF_s, ih (k + 1) (by omega), e k (by omega), e (k - p) (by omega)]
theorem per_mod {x : Nat → Int32} {p m : Nat} (hp : 0 < p) (h : ∀ j, p ≤ j → j < m → x j = x (j - p)) : ∀ b k, k < b → k < m → x k = x (k % p) := by
  intro b
  induction b with
  | zero => intro k h0; omega
  | succ b ih =>
    intro k hb hk
    by_cases e : k < p
    · rw [Nat.mod_eq_of_lt e]
    · rw [h k (by omega) hk, ih (k - p) (by omega) (by omega), ← Nat.mod_eq_sub_mod (by omega)]
theorem repC_2 (g : zg) {m p : Nat} {M : zM} (hm : m ≤ 12) (hc : M.1 32 6 = nI m) (hp : 0 < p) (f : Nat) : ∀ k, k + f = m → p ≤ k → zX (t_X6_repeatsAfter g) 2 [some (.ref 32), some (.int (nI p)), some (.int (nI k))] [] M = some (some (.int (b01 (rpF (M.1 33) p f k))), M) := by
  induction f with
  | zero =>
    intro k hk hpk
    rw [e_X6_repeatsAfter_2, hc, cLt_nI (by omega) (by omega), decide_eq_false (by omega), bif_f]
    rfl
  | succ f ih =>
    intro k hk hpk
    have h1 : k < 12 := by omega
    have h2 : k - p < 12 := by omega
    rw [e_X6_repeatsAfter_2, hc, cLt_nI (by omega) (by omega), decide_eq_true (by omega), bif_t, nI_sub hpk, zb_nI (by omega), decide_eq_true h1, bif_t, zb_nI (by omega), decide_eq_true h2, bif_t, zx_nI (by omega), zx_nI (by omega), nI_s1, ih (k + 1) (by omega) (by omega), rpF_s]
    cases cEq (M.1 33 k) (M.1 33 (k - p)) <;> simp [b01]
theorem repM_2 (g : zg) {m p : Nat} {M : zM} (hm : m ≤ 12) (hc : M.1 72 43 = nI m) (hp : 0 < p) (f : Nat) : ∀ k, k + f = m → p ≤ k → zX (t_X12_isRound g) 2 [some (.ref 72), some (.int (nI p)), some (.int (nI k))] [] M = some (some (.int (b01 (rpF (M.1 93) p f k))), M) := by
  induction f with
  | zero =>
    intro k hk hpk
    rw [e_X12_isRound_2, hc, cLt_nI (by omega) (by omega), decide_eq_false (by omega), bif_f]
    rfl
  | succ f ih =>
    intro k hk hpk
    have h1 : k < 12 := by omega
    have h2 : k - p < 12 := by omega
    rw [e_X12_isRound_2, hc, cLt_nI (by omega) (by omega), decide_eq_true (by omega), bif_t, nI_sub hpk, zb_nI (by omega), decide_eq_true h1, bif_t, zb_nI (by omega), decide_eq_true h2, bif_t, zx_nI (by omega), zx_nI (by omega), nI_s1, ih (k + 1) (by omega) (by omega), rpF_s]
    cases cEq (M.1 93 k) (M.1 93 (k - p)) <;> simp [b01]
theorem repC_s (g : zg) {m p : Nat} {M : zM} (hm : m ≤ 12) (hc : M.1 32 6 = nI m) (hp : 0 < p) (hpm : p ≤ m) : X_X6_repeatsAfter g [.ref 32, .int (nI p)] M = some (some (.int (b01 (rpF (M.1 33) p (m - p) p))), M) := by
  rw [x_X6_repeatsAfter_0]
  exact repC_2 g hm hc hp (m - p) p (by omega) (by omega)
theorem repM_s (g : zg) {m p : Nat} {M : zM} (hm : m ≤ 12) (hc : M.1 72 43 = nI m) (hp : 0 < p) (hpm : p ≤ m) : X_X12_isRound g [.ref 72, .int (nI p)] M = some (some (.int (b01 (rpF (M.1 93) p (m - p) p))), M) := by
  rw [x_X12_isRound_0]
  exact repM_2 g hm hc hp (m - p) p (by omega) (by omega)
/-- the least round from p on -/
def perF (x : Nat → Int32) (m : Nat) : Nat → Nat → Nat
  | 0, p => p
  | f + 1, p => if rpF x p (m - p) p then p else perF x m f (p + 1)
theorem perF_s (x : Nat → Int32) (m f p : Nat) : perF x m (f + 1) p = if rpF x p (m - p) p then p else perF x m f (p + 1) := rfl
theorem perF_ok (x : Nat → Int32) (m f : Nat) : ∀ p, p + f = m → p ≤ perF x m f p ∧ perF x m f p ≤ m ∧ rpF x (perF x m f p) (m - perF x m f p) (perF x m f p) = true := by
  induction f with
  | zero =>
    intro p h
    refine ⟨Nat.le_refl _, by show p ≤ m; omega, ?_⟩
    show rpF x p (m - p) p = true
    rw [show m - p = 0 by omega]
    rfl
  | succ f ih =>
    intro p h
    rw [perF_s]
    by_cases e : rpF x p (m - p) p = true
    · rw [if_pos e]; exact ⟨Nat.le_refl _, by omega, e⟩
    · rw [if_neg e]
      have := ih (p + 1) (by omega)
      exact ⟨by omega, this.2.1, this.2.2⟩
theorem perF_alike {x y : Nat → Int32} {m : Nat} (e : ∀ k, k < m → x k = y k) (f : Nat) : ∀ p, p + f = m → perF x m f p = perF y m f p := by
  induction f with
  | zero => intro p _; rfl
  | succ f ih =>
    intro p h
    rw [perF_s, perF_s, ih (p + 1) (by omega), rpF_alike e (m - p) p (by omega)]
theorem period_2 (g : zg) {m : Nat} {M : zM} (hm : m ≤ 12) (hc : M.1 32 6 = nI m) (f : Nat) : ∀ p, p + f = m → 0 < p → zX (t_X6_period g) 2 [some (.ref 32), some (.int (nI p))] [] M = some (some (.int (nI (perF (M.1 33) m f p))), M) := by
  induction f with
  | zero =>
    intro p h hp
    rw [e_X6_period_2, hc, cLt_nI (by omega) (by omega), decide_eq_false (by omega), bif_f, show perF (M.1 33) m 0 p = m from by show p = m; omega]
  | succ f ih =>
    intro p h hp
    rw [e_X6_period_2, hc, cLt_nI (by omega) (by omega), decide_eq_true (by omega), bif_t, repC_s g hm hc hp (by omega), zbI_s, cEq0_b01, nI_s1, ih (p + 1) (by omega) (by omega), perF_s]
    cases rpF (M.1 33) p (m - p) p <;> simp
theorem period_s (g : zg) {m : Nat} {M : zM} (hm : m ≤ 12) (h1 : 1 ≤ m) (hc : M.1 32 6 = nI m) : X_X6_period g [.ref 32] M = some (some (.int (nI (perF (M.1 33) m (m - 1) 1))), M) := by
  rw [x_X6_period_0]
  exact period_2 g hm hc (m - 1) 1 (by omega) (by omega)
