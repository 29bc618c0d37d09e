/-! PURE ROWS: the reference reads numbers, blanks -/
theorem rd_171 (g : zg) {f : Nat → Int32} {L p : Nat} (hL : L ≤ 400) (n : Nat) : ∀ (q : Nat) (M : zM), q + n = L → p < q → M.1 79 = f → M.1 72 13 = nI L → M.1 72 14 = nI q → M.1 72 15 = nI p → (∀ k, p ≤ k → k < runE dgC f L n q → ∃ b, 48 ≤ b ∧ b ≤ 57 ∧ f k = nI b) → (q - p ≤ 4 → M.1 72 17 = nuF f (q - p) p 0) → ∃ J', zX (t_X12_reads g) 171 [some (.ref 72), none] [] M = some (none, (J', M.2)) ∧ RDF M.1 J' ∧ J' 72 15 = nI p ∧ J' 72 14 = nI (runE dgC f L n q) ∧ (runE dgC f L n q - p ≤ 4 → J' 72 16 = 3 ∧ J' 72 17 = nuF f (runE dgC f L n q - p) p 0) ∧ (¬ runE dgC f L n q - p ≤ 4 → J' 72 16 = M.1 72 16) := by
  have fin : ∀ (q : Nat) (M : zM), p < q → q ≤ L → dgC (rawV f L q) = false → M.1 79 = f → M.1 72 13 = nI L → M.1 72 14 = nI q → M.1 72 15 = nI p → (q - p ≤ 4 → M.1 72 17 = nuF f (q - p) p 0) → ∃ J', zX (t_X12_reads g) 171 [some (.ref 72), none] [] M = some (none, (J', M.2)) ∧ RDF M.1 J' ∧ J' 72 15 = nI p ∧ J' 72 14 = nI q ∧ (q - p ≤ 4 → J' 72 16 = 3 ∧ J' 72 17 = nuF f (q - p) p 0) ∧ (¬ q - p ≤ 4 → J' 72 16 = M.1 72 16) := by
    intro q M h1 h2 h3 h4 h5 h6 h7 h8
    have st : zX (t_X12_reads g) 171 [some (.ref 72), none] [] M = (bif decide (q - p < 5) then some (none, ((zu M.1 72 16 3), M.2)) else some (none, M)) := by
      rw [e_X12_reads_171, h6, raw_s g hL h5 h2, zbI_s, h4, digM_s, zbI_s, h3, show cEq0 (b01 false) = true from rfl, bif_t, h6, h7, nI_sub (by omega), show (5 : Int32) = nI 5 from rfl, cLt_nI (by omega) (by omega)]
    by_cases hl : q - p < 5
    · rw [decide_eq_true hl, bif_t] at st
      refine ⟨_, st, RDF_u (RDF_r _) (by omega), (zu_ne2 (by omega)).trans h7, (zu_ne2 (by omega)).trans h6, fun _ => ⟨zu_eq, ?_⟩, fun c => absurd c (by omega)⟩
      rw [zu_ne2 (by omega)]
      exact h8 (by omega)
    · rw [decide_eq_false hl, bif_f] at st
      exact ⟨M.1, st, RDF_r _, h7, h6, fun c => absurd c (by omega), fun _ => rfl⟩
  induction n with
  | zero =>
    intro q M h1 h2 h3 h4 h5 h6 h7 h8
    exact fin q M h2 (by omega) (by unfold rawV; rw [if_neg (by omega)]; exact dgC_m1) h3 h4 h5 h6 h8
  | succ n ih =>
    intro q M h1 h2 h3 h4 h5 h6 h7 h8
    have hr : rawV f L q = f q := by unfold rawV; rw [if_pos (by omega)]
    cases hl : dgC (f q)
    · rw [runE_s (by omega), hl, bif_f] at h7 ⊢
      exact fin q M h2 (by omega) (by rw [hr]; exact hl) h3 h4 h5 h6 h8
    · rw [runE_s (by omega), hl, bif_t] at h7 ⊢
      have hrun := runE_le (P := dgC) (f := f) (L := L) n (q + 1) (by omega)
      have st : ∃ v, (q + 1 - p ≤ 4 → v = nuF f (q + 1 - p) p 0) ∧ zX (t_X12_reads g) 171 [some (.ref 72), none] [] M = zX (t_X12_reads g) 171 [some (.ref 72), none] [] ((zu (zu M.1 72 17 v) 72 14 (nI (q + 1))), M.2) := by
        have e0 : zX (t_X12_reads g) 171 [some (.ref 72), none] [] M = (bif cLt (M.1 72 17) 10000 then zX (t_X12_reads g) 171 [some (.ref 72), none] [] ((zu (zu M.1 72 17 (((10 * (M.1 72 17)) + f q) - 48)) 72 14 (nI (q + 1))), M.2) else zX (t_X12_reads g) 171 [some (.ref 72), none] [] ((zu (zu M.1 72 17 (M.1 72 17)) 72 14 (nI (q + 1))), M.2)) := by
          rw [e_X12_reads_171, h5, raw_s g hL h4 (by omega), zbI_s, h3, hr, digM_s, zbI_s, hl, show cEq0 (b01 true) = false from rfl, bif_f, h5, raw_s g hL h4 (by omega), zbI_s, h3, hr, h5, nI_s1]
        cases hc : cLt (M.1 72 17) 10000
        · rw [hc, bif_f] at e0
          refine ⟨_, fun h => ?_, e0⟩
          exfalso
          obtain ⟨v, v1, v2⟩ := nuF_nat (f := f) (p := p) (q - p) (by omega) (fun k hk => h7 (p + k) (by omega) (by omega))
          rw [h8 (by omega), v2, show (10000 : Int32) = nI 10000 from rfl] at hc
          have h10 : 10 ^ (q - p) ≤ 10 ^ 3 := Nat.pow_le_pow_right (by omega) (by omega)
          have e3 : (10 : Nat) ^ 3 = 1000 := by decide
          rw [cLtT (by omega) (by omega)] at hc
          exact absurd hc (by decide)
        · rw [hc, bif_t] at e0
          refine ⟨_, fun h => ?_, e0⟩
          rw [show q + 1 - p = (q - p) + 1 from by omega, nuF_r, h8 (by omega), show p + (q - p) = q from by omega, Int32.mul_comm]
      obtain ⟨v, v1, v2⟩ := st
      obtain ⟨J', r1, r2, r3, r4, r5, r6⟩ := ih (q + 1) ((zu (zu M.1 72 17 v) 72 14 (nI (q + 1))), M.2) (by omega) (by omega) (by dsimp only; rw [zu_ne (by omega), zu_ne (by omega)]; exact h3) (by dsimp only; rw [zu_ne2 (by omega), zu_ne2 (by omega)]; exact h4) (by dsimp only; exact zu_eq) (by dsimp only; rw [zu_ne2 (by omega), zu_ne2 (by omega)]; exact h6) h7 (by dsimp only; rw [zu_ne2 (by omega), zu_eq]; exact v1)
      dsimp only at r1 r2 r6
      rw [zu_ne2 (j := 16) (by omega), zu_ne2 (j := 16) (by omega)] at r6
      exact ⟨J', v2.trans r1, RDF_t (RDF_u (RDF_u (RDF_r _) (by omega)) (by omega)) r2, r3, r4, r5, r6⟩
theorem enE_lt {f : Nat → Int32} {L p : Nat} (hl : ltC (f p) = true) (hd : dgC (f p) = false) : enE f L p = runE ltC f L (L - (p + 1)) (p + 1) := by
  have e : rnP true false = ltC := by
    funext v
    show ((true && ltC v) || (false && dgC v)) = ltC v
    cases ltC v <;> rfl
  unfold enE
  rw [hl, hd, e]
theorem enE_dg {f : Nat → Int32} {L p : Nat} (hl : ltC (f p) = false) (hd : dgC (f p) = true) : enE f L p = runE dgC f L (L - (p + 1)) (p + 1) := by
  have e : rnP false true = dgC := by
    funext v
    show ((false && ltC v) || (true && dgC v)) = dgC v
    cases dgC v <;> rfl
  unfold enE
  rw [hl, hd, e]
theorem enE_1 {f : Nat → Int32} {L p : Nat} (hp : p < L) (hl : ltC (f p) = false) (hd : dgC (f p) = false) : enE f L p = p + 1 := by
  unfold enE
  rw [hl, hd]
  cases hn : L - (p + 1) with
  | zero => rfl
  | succ n =>
    rw [runE_s (by omega)]
    rfl
