/-! PURE ROWS: the class's tokens -/
def enE (f : Nat → Int32) (L p : Nat) : Nat := runE (rnP (ltC (f p)) (dgC (f p))) f L (L - (p + 1)) (p + 1)
theorem enE_le {f : Nat → Int32} {L p : Nat} (hp : p < L) : p < enE f L p ∧ enE f L p ≤ L := by
  have h := runE_le (P := rnP (ltC (f p)) (dgC (f p))) (f := f) (L := L) (L - (p + 1)) (p + 1) (by omega)
  unfold enE
  omega
def nuF (f : Nat → Int32) : Nat → Nat → Int32 → Int32
  | 0, _, v => v
  | n + 1, q, v => nuF f n (q + 1) (v * 10 + f q - 48)
theorem numC_5 (g : zg) {M : zM} {e : Nat} (he : e ≤ 400) (n : Nat) : ∀ (q : Nat) (v : Int32), q + n = e → zX (t_X9_numberOf g) 5 [some (.ref 1), none, some (.int (nI e)), some (.int v), some (.int (nI q))] [] M = some (some (.int (nuF (M.1 2) n q v)), M) := by
  induction n with
  | zero =>
    intro q v h
    rw [e_X9_numberOf_5, cLtF (by omega) (by omega), bif_f]
    rfl
  | succ n ih =>
    intro q v h
    rw [e_X9_numberOf_5, cLtT (by omega) (by omega), bif_t, zb_nI (by omega), decide_eq_true (by omega), bif_t, zx_nI (by omega), nI_s1, ih (q + 1) _ (by omega)]
    rfl
theorem numC_s (g : zg) {M : zM} {p e : Nat} (hp : p ≤ e) (he : e ≤ 400) : X_X9_numberOf g [.ref 1, .int (nI p), .int (nI e)] M = some (some (.int (nuF (M.1 2) (e - p) p 0)), M) := by
  rw [x_X9_numberOf_0, numC_5 g he (e - p) p 0 (by omega)]
/-- the class's token at a place -/
def tokC (j : Nat) (f : Nat → Int32) (L p : Nat) : Int32 := bif ltC (f p) then (match fiW f p (enE f L p - p) 0 (stW j) with
    | none => -1
    | some i => 128 + nI i)
  else bif dgC (f p) then (bif decide (enE f L p - p ≤ 4) then 1 else -1) else bif sgC (f p) then f p else -1
def numC (j : Nat) (f : Nat → Int32) (L p : Nat) : Int32 := bif cEq (tokC j f L p) 1 then nuF f (enE f L p - p) p 0 else 0
/-- from here on to what is no blank -/
def nxB (f : Nat → Int32) (L q : Nat) : Nat := runE blC f L (L - q) q
theorem nxB_L {f : Nat → Int32} {L : Nat} : nxB f L L = L := by
  unfold nxB
  rw [Nat.sub_self]
  rfl
theorem nxB_b {f : Nat → Int32} {L q : Nat} (hq : q < L) (hb : blC (f q) = true) : nxB f L q = nxB f L (q + 1) := by
  unfold nxB
  rw [show L - q = (L - (q + 1)) + 1 from by omega, runE_s hq, hb, bif_t]
theorem nxB_n {f : Nat → Int32} {L q : Nat} (hq : q < L) (hb : blC (f q) = false) : nxB f L q = q := by
  unfold nxB
  rw [show L - q = (L - (q + 1)) + 1 from by omega, runE_s hq, hb, bif_f]
theorem nxB_le {f : Nat → Int32} {L q : Nat} (hq : q ≤ L) : q ≤ nxB f L q ∧ nxB f L q ≤ L := runE_le _ _ hq
theorem nxB_at {f : Nat → Int32} {L q : Nat} (hq : q ≤ L) (h : nxB f L q < L) : blC (f (nxB f L q)) = false := runE_end _ _ (by omega) h
/-- the places of the tokens -/
def plS (f : Nat → Int32) (L q : Nat) : Nat → Nat
  | 0 => nxB f L q
  | k + 1 => if plS f L q k < L then nxB f L (enE f L (plS f L q k)) else L
theorem plS_on {f : Nat → Int32} {L q : Nat} (hq : q < L) (hb : blC (f q) = false) : ∀ k, plS f L q (k + 1) = plS f L (enE f L q) k := by
  intro k
  induction k with
  | zero =>
    show (if plS f L q 0 < L then nxB f L (enE f L (plS f L q 0)) else L) = nxB f L (enE f L q)
    have e : plS f L q 0 = q := nxB_n hq hb
    rw [e, if_pos hq]
  | succ k ih =>
    show (if plS f L q (k + 1) < L then nxB f L (enE f L (plS f L q (k + 1))) else L) = (if plS f L (enE f L q) k < L then nxB f L (enE f L (plS f L (enE f L q) k)) else L)
    rw [ih]
theorem plS_b {f : Nat → Int32} {L q : Nat} (hq : q < L) (hb : blC (f q) = true) : ∀ k, plS f L q k = plS f L (q + 1) k := by
  intro k
  induction k with
  | zero => exact nxB_b hq hb
  | succ k ih =>
    show (if plS f L q k < L then nxB f L (enE f L (plS f L q k)) else L) = (if plS f L (q + 1) k < L then nxB f L (enE f L (plS f L (q + 1) k)) else L)
    rw [ih]
theorem bl_one {f : Nat → Int32} {L q : Nat} (hq : q < L) (hb : blC (f q) = true) : enE f L q = q + 1 := by
  have hv : f q = 32 ∨ f q = 10 := by
    unfold blC at hb
    by_cases e : f q = 32
    · exact Or.inl e
    · by_cases e2 : f q = 10
      · exact Or.inr e2
      · rw [cEq_n e, cEq_n e2] at hb
        exact absurd hb (by decide)
  have h1 : ltC (f q) = false := by rcases hv with h | h <;> rw [h] <;> decide
  have h2 : dgC (f q) = false := by rcases hv with h | h <;> rw [h] <;> decide
  unfold enE
  rw [h1, h2]
  cases hn : L - (q + 1) with
  | zero => rfl
  | succ n =>
    rw [runE_s (by omega)]
    rfl
/-- what the class's tape holds of tokens from one on -/
def SPL (j : Nat) (f : Nat → Int32) (L q c : Nat) (I : zI) : Prop := ∃ m, c + m ≤ 400 ∧ (∀ k, k < m → plS f L q k < L ∧ I 5 (c + k) = nI (plS f L q k) ∧ I 3 (c + k) = tokC j f L (plS f L q k) ∧ I 4 (c + k) = numC j f L (plS f L q k)) ∧ plS f L q m = L ∧ I 3 (c + m) = 0 ∧ I 5 (c + m) = nI L

theorem tok0_s (g : zg) {p L : Nat} {M : zM} (hp : p < L) (hL : L ≤ 400) (hb : ∃ b, b < 256 ∧ M.1 2 p = nI b) : X_X9_tokenOf g [.ref 1, .int (nI p), .int (nI (enE (M.1 2) L p)), .ref 1000] M = some (some (.int (tokC 0 (M.1 2) L p)), M) := by
  obtain ⟨b, b1, b2⟩ := hb
  have he := enE_le (f := M.1 2) hp
  obtain ⟨v, s1, s2⟩ := sgnC_s g b1 M
  rw [← b2] at s1 s2
  rw [x_X9_tokenOf_0, zb_nI (by omega), decide_eq_true (by omega), bif_t, zx_nI (by omega), letC_s, zbI_s, cEq0_b01, digC_s, zbI_s, cEq0_b01, s1, zbI_s, s2, word0_s g (by omega) (by omega), nI_sub (by omega), show cGt (nI (enE (M.1 2) L p - p)) 4 = !decide (enE (M.1 2) L p - p ≤ 4) from by
    rw [show (4 : Int32) = nI 4 from rfl, cGt_nI (by omega) (by omega)]
    by_cases h : enE (M.1 2) L p - p ≤ 4
    · rw [decide_eq_true h, decide_eq_false (by omega)]
      rfl
    · rw [decide_eq_false h, decide_eq_true (by omega)]
      rfl]
  unfold tokC
  cases ltC (M.1 2 p)
  · cases dgC (M.1 2 p)
    · cases sgC (M.1 2 p) <;> rfl
    · cases decide (enE (M.1 2) L p - p ≤ 4) <;> rfl
  · rw [Bool.not_true, bif_f, bif_t]
    cases fiW (M.1 2) p (enE (M.1 2) L p - p) 0 (stW 0) <;> rfl
theorem tok1_s (g : zg) {p L : Nat} {M : zM} (hp : p < L) (hL : L ≤ 400) (hb : ∃ b, b < 256 ∧ M.1 2 p = nI b) : X_X9_tokenOf g [.ref 1, .int (nI p), .int (nI (enE (M.1 2) L p)), .ref 1001] M = some (some (.int (tokC 1 (M.1 2) L p)), M) := by
  obtain ⟨b, b1, b2⟩ := hb
  have he := enE_le (f := M.1 2) hp
  obtain ⟨v, s1, s2⟩ := sgnC_s g b1 M
  rw [← b2] at s1 s2
  rw [x_X9_tokenOf_0_1, zb_nI (by omega), decide_eq_true (by omega), bif_t, zx_nI (by omega), letC_s, zbI_s, cEq0_b01, digC_s, zbI_s, cEq0_b01, s1, zbI_s, s2, word1_s g (by omega) (by omega), nI_sub (by omega), show cGt (nI (enE (M.1 2) L p - p)) 4 = !decide (enE (M.1 2) L p - p ≤ 4) from by
    rw [show (4 : Int32) = nI 4 from rfl, cGt_nI (by omega) (by omega)]
    by_cases h : enE (M.1 2) L p - p ≤ 4
    · rw [decide_eq_true h, decide_eq_false (by omega)]
      rfl
    · rw [decide_eq_false h, decide_eq_true (by omega)]
      rfl]
  unfold tokC
  cases ltC (M.1 2 p)
  · cases dgC (M.1 2 p)
    · cases sgC (M.1 2 p) <;> rfl
    · cases decide (enE (M.1 2) L p - p ≤ 4) <;> rfl
  · rw [Bool.not_true, bif_f, bif_t]
    cases fiW (M.1 2) p (enE (M.1 2) L p - p) 0 (stW 1) <;> rfl
theorem tok2_s (g : zg) {p L : Nat} {M : zM} (hp : p < L) (hL : L ≤ 400) (hb : ∃ b, b < 256 ∧ M.1 2 p = nI b) : X_X9_tokenOf g [.ref 1, .int (nI p), .int (nI (enE (M.1 2) L p)), .ref 1002] M = some (some (.int (tokC 2 (M.1 2) L p)), M) := by
  obtain ⟨b, b1, b2⟩ := hb
  have he := enE_le (f := M.1 2) hp
  obtain ⟨v, s1, s2⟩ := sgnC_s g b1 M
  rw [← b2] at s1 s2
  rw [x_X9_tokenOf_0_2, zb_nI (by omega), decide_eq_true (by omega), bif_t, zx_nI (by omega), letC_s, zbI_s, cEq0_b01, digC_s, zbI_s, cEq0_b01, s1, zbI_s, s2, word2_s g (by omega) (by omega), nI_sub (by omega), show cGt (nI (enE (M.1 2) L p - p)) 4 = !decide (enE (M.1 2) L p - p ≤ 4) from by
    rw [show (4 : Int32) = nI 4 from rfl, cGt_nI (by omega) (by omega)]
    by_cases h : enE (M.1 2) L p - p ≤ 4
    · rw [decide_eq_true h, decide_eq_false (by omega)]
      rfl
    · rw [decide_eq_false h, decide_eq_true (by omega)]
      rfl]
  unfold tokC
  cases ltC (M.1 2 p)
  · cases dgC (M.1 2 p)
    · cases sgC (M.1 2 p) <;> rfl
    · cases decide (enE (M.1 2) L p - p ≤ 4) <;> rfl
  · rw [Bool.not_true, bif_f, bif_t]
    cases fiW (M.1 2) p (enE (M.1 2) L p - p) 0 (stW 2) <;> rfl
