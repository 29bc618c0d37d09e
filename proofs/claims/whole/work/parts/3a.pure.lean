/-! PURE ROWS: glued -/
/-- did the told word stay while what came changed: v told, k came, from place i on, f places; n days so far, word s, kind c, o: changed -/
def glF (v k : Nat → Int32) : Nat → Nat → Nat → Int32 → Int32 → Bool → Bool
  | 0, _, n, _, _, o => decide (3 ≤ n) && o
  | f + 1, i, n, s, c, o => if cEq (v i) (-1) then glF v k f (i + 1) n s c o else if decide (0 < n) && !cEq (v i) s then false else glF v k f (i + 1) (n + 1) (v i) (k i) (o || (decide (0 < n) && !cEq (k i) c))
theorem cEq_iff {x y : Int32} : cEq x y = true ↔ x = y := by unfold cEq; simp
theorem cEq_iffF {x y : Int32} : cEq x y = false ↔ ¬ x = y := by unfold cEq; simp
/-- told at place j -/
def tlB (v : Nat → Int32) : Nat → Bool := fun j => !cEq (v j) (-1)
theorem glF_pos (v k : Nat → Int32) (f : Nat) : ∀ i n s c o, 0 < n → (glF v k f i n s c o = true ↔ ((∀ j, j < f → ¬ v (i + j) = -1 → v (i + j) = s) ∧ 3 ≤ n + cntF (tlB v) f i ∧ (o = true ∨ ∃ j, j < f ∧ ¬ v (i + j) = -1 ∧ ¬ k (i + j) = c))) := by
  induction f with
  | zero =>
    intro i n s c o hn
    unfold glF cntF
    simp
  | succ f ih =>
    intro i n s c o hn
    unfold glF
    rw [cntF_s]
    by_cases h1 : v i = -1
    · rw [if_pos (cEq_iff.mpr h1), ih (i + 1) n s c o hn]
      have ht : tlB v i = false := by unfold tlB; rw [cEq_iff.mpr h1]; rfl
      rw [ht]
      simp only [Bool.false_eq_true, if_false, Nat.zero_add]
      constructor
      · rintro ⟨a, b, d⟩
        refine ⟨?_, b, ?_⟩
        · intro j hj hv
          cases j with
          | zero => exact absurd h1 hv
          | succ j => rw [show i + (j + 1) = i + 1 + j by omega] at hv ⊢; exact a j (by omega) hv
        · rcases d with d | ⟨j, hj, hv, hk⟩
          · exact Or.inl d
          · exact Or.inr ⟨j + 1, by omega, by rw [show i + (j + 1) = i + 1 + j by omega]; exact hv, by rw [show i + (j + 1) = i + 1 + j by omega]; exact hk⟩
      · rintro ⟨a, b, d⟩
        refine ⟨?_, b, ?_⟩
        · intro j hj hv
          have := a (j + 1) (by omega)
          rw [show i + (j + 1) = i + 1 + j by omega] at this
          exact this hv
        · rcases d with d | ⟨j, hj, hv, hk⟩
          · exact Or.inl d
          · cases j with
            | zero => exact absurd h1 hv
            | succ j => rw [show i + (j + 1) = i + 1 + j by omega] at hv hk; exact Or.inr ⟨j, by omega, hv, hk⟩
    · have ht : tlB v i = true := by unfold tlB; rw [cEq_iffF.mpr h1]; rfl
      rw [if_neg (by rw [cEq_iffF.mpr h1]; simp), ht]
      simp only [if_true, decide_eq_true hn, Bool.true_and]
      by_cases h2 : v i = s
      · rw [cEq_iff.mpr h2, if_neg (by simp), ih (i + 1) (n + 1) (v i) (k i) _ (by omega)]
        constructor
        · rintro ⟨a, b, d⟩
          refine ⟨?_, by omega, ?_⟩
          · intro j hj hv
            cases j with
            | zero => exact h2
            | succ j => rw [show i + (j + 1) = i + 1 + j by omega] at hv ⊢; exact (a j (by omega) hv).trans h2
          · by_cases h3 : k i = c
            · rcases d with d | ⟨j, hj, hv, hk⟩
              · rw [cEq_iff.mpr h3] at d
                simp at d
                exact Or.inl d
              · exact Or.inr ⟨j + 1, by omega, by rw [show i + (j + 1) = i + 1 + j by omega]; exact hv, by rw [show i + (j + 1) = i + 1 + j by omega]; rw [← h3]; exact hk⟩
            · exact Or.inr ⟨0, by omega, h1, h3⟩
        · rintro ⟨a, b, d⟩
          refine ⟨?_, by omega, ?_⟩
          · intro j hj hv
            have := a (j + 1) (by omega)
            rw [show i + (j + 1) = i + 1 + j by omega] at this
            exact (this hv).trans h2.symm
          · by_cases h3 : k i = c
            · rcases d with d | ⟨j, hj, hv, hk⟩
              · rw [d]; exact Or.inl rfl
              · cases j with
                | zero => exact absurd h3 hk
                | succ j => rw [show i + (j + 1) = i + 1 + j by omega] at hv hk; exact Or.inr ⟨j, by omega, hv, by rw [h3]; exact hk⟩
            · rw [cEq_iffF.mpr h3]; simp
      · rw [cEq_iffF.mpr h2, if_pos (by simp)]
        constructor
        · intro h; cases h
        · rintro ⟨a, b, d⟩
          exact absurd (a 0 (by omega) h1) h2
theorem glF_zero (v k : Nat → Int32) (f : Nat) : ∀ i s c, (glF v k f i 0 s c false = true ↔ ((∃ w, ∀ j, j < f → ¬ v (i + j) = -1 → v (i + j) = w) ∧ 3 ≤ cntF (tlB v) f i ∧ (∃ j j', j < f ∧ j' < f ∧ ¬ v (i + j) = -1 ∧ ¬ v (i + j') = -1 ∧ ¬ k (i + j) = k (i + j')))) := by
  induction f with
  | zero =>
    intro i s c
    unfold glF cntF
    simp
  | succ f ih =>
    intro i s c
    unfold glF
    rw [cntF_s]
    by_cases h1 : v i = -1
    · rw [if_pos (cEq_iff.mpr h1), ih (i + 1) s c]
      have ht : tlB v i = false := by unfold tlB; rw [cEq_iff.mpr h1]; rfl
      rw [ht]
      simp only [Bool.false_eq_true, if_false, Nat.zero_add]
      constructor
      · rintro ⟨⟨w, a⟩, b, j, j', d1, d2, d3, d4, d5⟩
        refine ⟨⟨w, ?_⟩, b, j + 1, j' + 1, by omega, by omega, ?_, ?_, ?_⟩
        · intro j hj hv
          cases j with
          | zero => exact absurd h1 hv
          | succ j => rw [show i + (j + 1) = i + 1 + j by omega] at hv ⊢; exact a j (by omega) hv
        · rw [show i + (j + 1) = i + 1 + j by omega]; exact d3
        · rw [show i + (j' + 1) = i + 1 + j' by omega]; exact d4
        · rw [show i + (j + 1) = i + 1 + j by omega, show i + (j' + 1) = i + 1 + j' by omega]; exact d5
      · rintro ⟨⟨w, a⟩, b, j, j', d1, d2, d3, d4, d5⟩
        refine ⟨⟨w, ?_⟩, b, ?_⟩
        · intro j hj hv
          have := a (j + 1) (by omega)
          rw [show i + (j + 1) = i + 1 + j by omega] at this
          exact this hv
        · cases j with
          | zero => exact absurd h1 d3
          | succ j =>
            cases j' with
            | zero => exact absurd h1 d4
            | succ j' =>
              rw [show i + (j + 1) = i + 1 + j by omega] at d3 d5
              rw [show i + (j' + 1) = i + 1 + j' by omega] at d4 d5
              exact ⟨j, j', by omega, by omega, d3, d4, d5⟩
    · have ht : tlB v i = true := by unfold tlB; rw [cEq_iffF.mpr h1]; rfl
      rw [if_neg (by rw [cEq_iffF.mpr h1]; simp), ht]
      simp only [if_true, Nat.lt_irrefl, decide_false, Bool.false_and, Bool.or_false, Bool.false_eq_true, if_false]
      rw [glF_pos v k f (i + 1) (0 + 1) (v i) (k i) false (by omega)]
      constructor
      · rintro ⟨a, b, d⟩
        rcases d with d | ⟨j, hj, hv, hk⟩
        · cases d
        · refine ⟨⟨v i, ?_⟩, by omega, j + 1, 0, by omega, by omega, ?_, h1, ?_⟩
          · intro j hj hv
            cases j with
            | zero => rfl
            | succ j => rw [show i + (j + 1) = i + 1 + j by omega] at hv ⊢; exact a j (by omega) hv
          · rw [show i + (j + 1) = i + 1 + j by omega]; exact hv
          · rw [show i + (j + 1) = i + 1 + j by omega]; exact hk
      · rintro ⟨⟨w, a⟩, b, j, j', d1, d2, d3, d4, d5⟩
        have hw : v i = w := a 0 (by omega) h1
        refine ⟨?_, by omega, Or.inr ?_⟩
        · intro j hj hv
          have := a (j + 1) (by omega)
          rw [show i + (j + 1) = i + 1 + j by omega] at this
          exact (this hv).trans hw.symm
        · by_cases hj : k (i + j) = k i
          · cases j' with
            | zero => exact absurd hj d5
            | succ j' =>
              rw [show i + (j' + 1) = i + 1 + j' by omega] at d4 d5
              exact ⟨j', by omega, d4, fun h => d5 (hj.trans h.symm)⟩
          · cases j with
            | zero => exact absurd rfl hj
            | succ j =>
              rw [show i + (j + 1) = i + 1 + j by omega] at d3 hj
              exact ⟨j, by omega, d3, hj⟩
theorem glF_rev {v k v' k' : Nat → Int32} {m : Nat} (hv : ∀ j, j < m → v j = v' (m - 1 - j)) (hk : ∀ j, j < m → k j = k' (m - 1 - j)) (s c s' c' : Int32) : glF v k m 0 0 s c false = glF v' k' m 0 0 s' c' false := by
  have hc : cntF (tlB v) m 0 = cntF (tlB v') m 0 := cntF_rev m 0 0 (fun j hj => by
    rw [Nat.zero_add, Nat.zero_add]
    unfold tlB
    rw [hv j hj])
  have hv' : ∀ j, j < m → v' j = v (m - 1 - j) := fun j hj => by rw [hv (m - 1 - j) (by omega), show m - 1 - (m - 1 - j) = j by omega]
  have hk' : ∀ j, j < m → k' j = k (m - 1 - j) := fun j hj => by rw [hk (m - 1 - j) (by omega), show m - 1 - (m - 1 - j) = j by omega]
  rw [Bool.eq_iff_iff, glF_zero, glF_zero, hc]
  simp only [Nat.zero_add]
  constructor
  · rintro ⟨⟨w, a⟩, b, j, j', d1, d2, d3, d4, d5⟩
    refine ⟨⟨w, fun j hj h => ?_⟩, b, m - 1 - j, m - 1 - j', by omega, by omega, ?_, ?_, ?_⟩
    · rw [hv' j hj] at h ⊢; exact a _ (by omega) h
    · rw [← hv j d1]; exact d3
    · rw [← hv j' d2]; exact d4
    · rw [← hk j d1, ← hk j' d2]; exact d5
  · rintro ⟨⟨w, a⟩, b, j, j', d1, d2, d3, d4, d5⟩
    refine ⟨⟨w, fun j hj h => ?_⟩, b, m - 1 - j, m - 1 - j', by omega, by omega, ?_, ?_, ?_⟩
    · rw [hv j hj] at h ⊢; exact a _ (by omega) h
    · rw [← hv' j d1]; exact d3
    · rw [← hv' j' d2]; exact d4
    · rw [← hk' j d1, ← hk' j' d2]; exact d5
