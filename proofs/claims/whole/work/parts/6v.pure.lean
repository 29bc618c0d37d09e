/-! PURE ROWS: the class's tokens by the reference's bytes -/
theorem tokC_cg {j : Nat} {f h : Nat → Int32} {L p : Nat} (e : ∀ k, k < L → f k = h k) (hp : p < L) : tokC j f L p = tokC j h L p ∧ numC j f L p = numC j h L p := by
  have hle := enE_le (f := h) hp
  have t : tokC j f L p = tokC j h L p := by
    unfold tokC
    rw [e p hp, enE_cg e hp, fiW_cg e (by omega)]
  refine ⟨t, ?_⟩
  unfold numC
  rw [t, enE_cg e hp, nuF_cg e _ _ _ (by omega)]
theorem SPL_cg {j : Nat} {f h : Nat → Int32} {L q c : Nat} {I : zI} (e : ∀ k, k < L → f k = h k) (hs : SPL j f L q c I) : SPL j h L q c I := by
  obtain ⟨m, m1, m2, m3, m4, m5⟩ := hs
  refine ⟨m, m1, fun k hk => ?_, by rw [← plS_cg e]; exact m3, m4, m5⟩
  have r := m2 k hk
  rw [(tokC_cg e r.1).1, (tokC_cg e r.1).2, plS_cg e] at r
  exact r
