/-! PURE ROWS: on to the next token, on both sides -/
theorem kd_nz {f : Nat → Int32} {L p : Nat} : ¬ kdM f L p = 0 := by
  have e : ∀ x : Int32, x = 1 ∨ x = 2 ∨ x = 3 ∨ x = 4 → ¬ x = 0 := by
    intro x h
    rcases h with h | h | h | h <;> rw [h] <;> decide
  apply e
  unfold kdM
  cases ltC (f p)
  · cases dgC (f p)
    · cases sgC (f p)
      · exact Or.inl rfl
      · exact Or.inr (Or.inr (Or.inr rfl))
    · cases decide (enE f L p - p ≤ 4)
      · exact Or.inl rfl
      · exact Or.inr (Or.inr (Or.inl rfl))
  · cases fiW f p (enE f L p - p) 0 rfW
    · exact Or.inl rfl
    · exact Or.inr (Or.inl rfl)
theorem sg_nz {T : Int32} (h : sgC T = true) : ¬ T = 0 := by
  intro e
  rw [e] at h
  exact absurd h (by decide)
theorem wd_nz {j i : Nat} (hj : j < 3) (hi : i < wcn j) : ¬ (128 + nI i : Int32) = 0 := by
  have w := (wcn_len ⟨j, hj⟩).2
  dsimp only at w
  have d : ∀ i : Fin 16, ¬ (128 + nI i : Int32) = 0 := by decide +kernel
  exact d ⟨i, by omega⟩
theorem TKR_nz {j : Nat} (hj : j < 3) {T W K V : Int32} (h : TKR j T W K V) (hK : ¬ K = 0) : ¬ T = 0 := by
  rcases h with ⟨_, h⟩ | ⟨h, _⟩ | ⟨h, _⟩ | ⟨i, h1, h2, _⟩ | ⟨h, _⟩
  · exact absurd h hK
  · rw [h]
    decide
  · exact sg_nz h
  · rw [h2]
    exact wd_nz hj h1
  · rw [h]
    decide
theorem TKS_of {j : Nat} {f : Nat → Int32} {L c m : Nat} {I J I' J' : zI} (h : TKS j f L c m I J) (h1 : I' 1 = I 1) (h3 : I' 3 = I 3) (h4 : I' 4 = I 4) (h5 : I' 5 = I 5) (m72 : ∀ k, 13 ≤ k → k ≤ 17 → J' 72 k = J 72 k) (h79 : J' 79 = J 79) (h80 : J' 80 = J 80) : TKS j f L c m I' J' := by
  obtain ⟨a1, ⟨b1, b2, b3, b4, b5, b6, b7⟩, ⟨r1, r2, r3⟩, e1, e2, e3⟩ := h
  refine ⟨by rw [h1]; exact a1, ⟨b1, b2, by rw [h1]; exact b3, ?_, b5, by rw [h3]; exact b6, by rw [h5]; exact b7⟩, ⟨(m72 15 (by omega) (by omega)).trans r1, fun u => ?_, fun u => ?_⟩, h79.trans e1, (m72 13 (by omega) (by omega)).trans e2, fun k hk => by rw [h80]; exact e3 k hk⟩
  · rw [h3, h4, h5]
    exact b4
  · rw [m72 14 (by omega) (by omega), m72 16 (by omega) (by omega)]
    exact r2 u
  · rw [m72 14 (by omega) (by omega), m72 16 (by omega) (by omega), m72 17 (by omega) (by omega)]
    exact r3 u
/-- on: the class -/
theorem stepC_s (g : zg) {j : Nat} {f : Nat → Int32} {L c m : Nat} {M : zM} {J : zI} (hj : j < 3) (h : TKS j f L c m M.1 J) (hT : ¬ M.1 3 c = 0) : c < m ∧ X_X9_step g [.ref 1] M = some (none, ((zu M.1 1 4 (nI (c + 1))), M.2)) := by
  obtain ⟨a1, ⟨b1, b2, b3, b4, b5, b6, b7⟩, _⟩ := h
  have hc : c < m := by
    by_cases e : c = m
    · rw [e] at hT
      exact absurd b6 hT
    · omega
  refine ⟨hc, ?_⟩
  rw [x_X9_step_0, b3, zb_nI (by omega), decide_eq_true (by omega), bif_t, zx_nI (by omega), cEq0_n hT, bif_f, clT (c := 400) (n := 400) rfl (by omega) (by omega), bif_t, nI_s1]
/-- on: the reference; then both stand at the next -/
theorem readsM_s (g : zg) {j : Nat} {f : Nat → Int32} {L c m : Nat} {I : zI} {N : zM} (h : TKS j f L c m I N.1) (hc : c < m) : ∃ J', X_X12_reads g [.ref 72] N = some (none, (J', N.2)) ∧ RDF N.1 J' ∧ TKS j f L (c + 1) m (zu I 1 4 (nI (c + 1))) J' := by
  obtain ⟨⟨hL, hby, hf6, hf7⟩, ⟨b1, b2, b3, b4, b5, b6, b7⟩, ⟨r1, r2, r3⟩, e1, e2, e3⟩ := h
  obtain ⟨k1, _⟩ := b4 c hc
  obtain ⟨s1, _⟩ := r3 k1
  have hen := enE_le (f := f) k1
  obtain ⟨J', q1, q2, q3⟩ := rd_0 g hL hby (L - enE f L (plS f L 0 c)) (enE f L (plS f L 0 c)) N (by omega) e1 e2 s1 e3
  refine ⟨J', ((x_X12_reads_0 g N).trans (e_X12_reads_0 g N).symm).trans q1, q2, ⟨hL, hby, by rw [zu_ne2 (by omega)]; exact hf6, by rw [zu_ne2 (by omega)]; exact hf7⟩, ⟨b1, by omega, zu_eq, ?_, b5, by rw [zu_ne (by omega)]; exact b6, by rw [zu_ne (by omega)]; exact b7⟩, ?_, (q2.1 79 (by omega)).trans e1, (q2.2 13 (by omega) (by omega) (by omega) (by omega)).trans e2, fun k hk => by rw [q2.1 80 (by omega)]; exact e3 k hk⟩
  · rw [zu_ne (b := 3) (by omega), zu_ne (b := 4) (by omega), zu_ne (b := 5) (by omega)]
    exact b4
  · have e : plS f L 0 (c + 1) = nxB f L (enE f L (plS f L 0 c)) := by
      show (if plS f L 0 c < L then nxB f L (enE f L (plS f L 0 c)) else L) = _
      rw [if_pos k1]
    rw [e]
    exact q3
/-- refused: the class, the reference -/
theorem refuC_s (g : zg) {j : Nat} {f : Nat → Int32} {L c m : Nat} {M : zM} {J : zI} (hj : j < 3) (h : TKS j f L c m M.1 J) (a : Int32) : X_X9_refuse g [.ref 1, .int a] M = some (some (.int 0), ((zu (zu M.1 1 6 a) 1 7 (nI (plS f L 0 c))), M.2)) := by
  obtain ⟨_, t2, _⟩ := TKS_r hj h
  obtain ⟨a1, ⟨b1, b2, b3, _⟩, _⟩ := h
  rw [x_X9_refuse_0, b3, zb_nI (by omega), decide_eq_true (by omega), bif_t, zx_nI (by omega), t2]
theorem errsM_s (g : zg) {j : Nat} {f : Nat → Int32} {L c m : Nat} {I : zI} {N : zM} (hj : j < 3) (h : TKS j f L c m I N.1) (a : Int32) : X_X12_errs g [.ref 72, .int a] N = some (some (.int (-1)), ((zu (zu N.1 72 31 a) 72 32 (nI (plS f L 0 c))), N.2)) := by
  obtain ⟨_, _, t3⟩ := TKS_r hj h
  rw [x_X12_errs_0, t3]
theorem tokenC_s (g : zg) {j : Nat} {f : Nat → Int32} {L c m : Nat} {M : zM} {J : zI} (h : TKS j f L c m M.1 J) : X_X9_token g [.ref 1] M = some (some (.int (M.1 3 c)), M) := by
  obtain ⟨a1, ⟨b1, b2, b3, _⟩, _⟩ := h
  rw [x_X9_token_0, b3, zb_nI (by omega), decide_eq_true (by omega), bif_t, zx_nI (by omega)]
theorem numberC_s (g : zg) {j : Nat} {f : Nat → Int32} {L c m : Nat} {M : zM} {J : zI} (h : TKS j f L c m M.1 J) : X_X9_number g [.ref 1] M = some (some (.int (M.1 4 c)), M) := by
  obtain ⟨a1, ⟨b1, b2, b3, _⟩, _⟩ := h
  rw [x_X9_number_0, b3, zb_nI (by omega), decide_eq_true (by omega), bif_t, zx_nI (by omega)]
