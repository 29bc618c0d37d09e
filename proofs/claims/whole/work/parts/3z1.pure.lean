/-! PURE ROWS: steps kept and taken back on both sides -/
theorem MR_row {cm sd cm' sd' rn rn' : Nat → Int32} {r : Nat} {cd ca : Nat → Nat} (h : MR cm sd r cd ca rn) (h1 : ∀ k, k < 148 → rn' k = rn k) (h2 : cm' = cm) (h3 : sd' = sd) : MR cm' sd' r cd ca rn' := by
  subst h2; subst h3
  refine ⟨(h1 7 (by omega)).trans h.1, fun d hd => ?_⟩
  rw [h1 (58 + d) (by omega)]
  exact h.2 d hd
theorem MR_keep {cm sd cm' sd' rn : Nat → Int32} {r rr : Nat} {cd ca : Nat → Nat} (h : MR cm sd r cd ca rn) (h1 : ∀ j, j ≠ rr % 96 → cm' j = cm j) (h2 : ∀ j, (j < 10 * (rr % 96) ∨ 10 * (rr % 96) + 10 ≤ j) → sd' j = sd j) (h3 : r ≤ rr) (h4 : rr ≤ r + 5) : MR cm' sd' r cd ca rn := by
  refine ⟨h.1, fun d hd => ?_⟩
  obtain ⟨o1, o2, o3, o4, o5⟩ := h.2 d hd
  have hne : (r - min r 90 + d) % 96 ≠ rr % 96 := by omega
  refine ⟨o1, o2, o3, by rw [h1 _ hne]; exact o4, fun t ht => ?_⟩
  rw [h2 _ (by omega)]
  exact o5 t ht
/-- a court that was kept, on both sides -/
def KC (n d l rr : Nat) (I J : zI) (j : Nat) (row : Nat → Int32) : Prop := CR n (I (44 + 2 * j)) (I (45 + 2 * j)) row (J 72) (J 76) (J 77) ∧ RG n d row (J 76) (J 77) ∧ row 2 = nI l ∧ I (44 + 2 * j) 12 = nI rr ∧ rr ≤ d ∧ ∃ cd ca, MR (I 28) (I 29) rr cd ca row
theorem KC_of {n d l rr j : Nat} {I J I' J' : zI} {row row' : Nat → Int32} (h : KC n d l rr I J j row) (h1 : ∀ k, 2 ≤ k → k ≤ 12 → I' (44 + 2 * j) k = I (44 + 2 * j) k) (h2 : ∀ k, k < 70 → I' (45 + 2 * j) k = I (45 + 2 * j) k) (h3 : ∀ k, k < 148 → row' k = row k) (m6 : J' 72 6 = J 72 6) (m7 : J' 72 7 = J 72 7) (m8 : J' 72 8 = J 72 8) (h76 : J' 76 = J 76) (h77 : J' 77 = J 77) (hm : ∀ cd ca, MR (I 28) (I 29) rr cd ca row → MR (I' 28) (I' 29) rr cd ca row) : KC n d l rr I' J' j row' := by
  obtain ⟨a1, a2, a3, a4, a5, cd, ca, a6⟩ := h
  refine ⟨?_, ?_, (h3 2 (by omega)).trans a3, (h1 12 (by omega) (by omega)).trans a4, a5, cd, ca, MR_row (hm cd ca a6) h3 rfl rfl⟩
  · rw [h76, h77]
    exact CR_ext7 a1 (fun k u1 u2 => h1 k u1 (by omega)) h2 (fun k u1 _ => h3 k (by omega)) m6 m7 m8
  · rw [h76, h77]
    exact RG_ext a2 a1.1 (fun k u1 _ => h3 k (by omega))
def SP (n : Nat) (dd ll rf : Nat → Nat) (s nx : Nat) (I J : zI) : Prop := s ≤ 6 ∧ nx < 6 ∧ I 42 1 = nI nx ∧ I 42 2 = nI s ∧ J 72 3 = nI s ∧ (∀ i, i < s → dd (i + 1) ≤ dd i ∧ ll (i + 1) ≤ ll i ∧ rf (i + 1) ≤ rf i ∧ rf i ≤ rf (i + 1) + 1) ∧ ∀ i, i < s → KC n (dd (i + 1)) (ll (i + 1)) (rf (i + 1)) I J ((nx + 5 - i) % 6) (fun k => J 74 (148 * (s - 1 - i) + k))
/-- the court as it stands, on both sides -/
def CU (n d l rr : Nat) (I J : zI) : Prop := PR true 7 8 n d I J ∧ (l ≤ 150 ∧ J 73 2 = nI l) ∧ I 7 12 = nI rr ∧ rr ≤ d ∧ d ≤ 9999 ∧ ∃ cd ca, MR (I 28) (I 29) rr cd ca (J 73)
theorem sub1 (s i : Nat) (h : i + 1 < s) : s - 1 - (i + 1) = s - 2 - i := by omega
theorem CU_of {n d l rr : Nat} {I J I' J' : zI} (h : CU n d l rr I J) (h7 : I' 7 = I 7) (h8 : I' 8 = I 8) (h26 : I' 26 = I 26) (h28 : I' 28 = I 28) (h29 : I' 29 = I 29) (m5 : J' 72 5 = J 72 5) (m6 : J' 72 6 = J 72 6) (m7 : J' 72 7 = J 72 7) (m8 : J' 72 8 = J 72 8) (h73 : J' 73 = J 73) (h76 : J' 76 = J 76) (h77 : J' 77 = J 77) (h78 : J' 78 = J 78) : CU n d l rr I' J' := by
  obtain ⟨⟨p1, p2, p3, p4, p5⟩, a2, a3, a4, a5, a6⟩ := h
  refine ⟨⟨?_, ?_, by rw [h7]; exact p3, m5.trans p4, by rw [h73, h26, h78]; exact p5⟩, by rw [h73]; exact a2, by rw [h7]; exact a3, a4, a5, by rw [h28, h29, h73]; exact a6⟩
  · unfold CRJ
    rw [h7, h8, h73, h76, h77]
    exact CR_md p1 m6 m7 m8
  · rw [h73, h76, h77]; exact p2
/-- what keeping a step leaves as it was -/
def KF (I I' : zI) : Prop := ∀ a, a ≠ 42 → (a < 44 ∨ 55 < a) → I' a = I a
def KG (J J' : zI) : Prop := (∀ a, a ≠ 72 → a ≠ 74 → J' a = J a) ∧ ∀ k, k ≠ 3 → J' 72 k = J 72 k
theorem keep_al (g : zg) {n s nx : Nat} {dd ll rf : Nat → Nat} {M N : zM} (hc : CU n (dd 0) (ll 0) (rf 0) M.1 N.1) (hs : SP n dd ll rf s nx M.1 N.1) : ∃ I' J', X_X8_keep g [.ref 42, .ref 7] M = some (none, (I', M.2)) ∧ X_X12_keepsAhead g [.ref 72] N = some (none, (J', N.2)) ∧ KF M.1 I' ∧ KG N.1 J' ∧ CU n (dd 0) (ll 0) (rf 0) I' J' ∧ SP n (fun i => dd (i - 1)) (fun i => ll (i - 1)) (fun i => rf (i - 1)) (min (s + 1) 6) ((nx + 1) % 6) I' J' := by
  obtain ⟨b1, b2, b3, b4, b5, b6, b7⟩ := hs
  -- the rows of the reference behind it
  have hJ : ∃ J', X_X12_keepsAhead g [.ref 72] N = some (none, (J', N.2)) ∧ KG N.1 J' ∧ J' 72 3 = nI (min (s + 1) 6) ∧ (∀ k, k < 148 → J' 74 (148 * (min (s + 1) 6 - 1) + k) = N.1 73 k) ∧ ∀ i k, i + 1 < min (s + 1) 6 → k < 148 → J' 74 (148 * (min (s + 1) 6 - 1 - (i + 1)) + k) = N.1 74 (148 * (s - 1 - i) + k) := by
    rw [keeps_s g b1 b5]
    by_cases h6 : s = 6
    · subst h6
      rw [if_pos rfl]
      refine ⟨_, rfl, ⟨?_, ?_⟩, zu_eq, ?_, ?_⟩
      · intro a ha hb
        rw [zu_ne ha, cpF_ne hb, shF_ne hb, zu_ne ha]
      · intro k hk
        rw [zu_ne2 hk, cpF_ne (by omega), shF_ne (by omega), zu_ne2 hk]
      · intro k hk
        rw [zu_ne (show 74 ≠ 72 by omega), cpF_at, if_pos (by omega)]
        exact congrArg (N.1 73) (by omega)
      · intro i k hi hk
        rw [zu_ne (show 74 ≠ 72 by omega), cpF_at, if_neg (by omega), shF_at, if_pos (by omega), zu_ne (by omega)]
        exact congrArg (N.1 74) (by omega)
    · rw [if_neg h6, Nat.min_eq_left (by omega)]
      refine ⟨_, rfl, ⟨?_, ?_⟩, zu_eq, ?_, ?_⟩
      · intro a ha hb
        rw [zu_ne ha, cpF_ne hb]
      · intro k hk
        rw [zu_ne2 hk, cpF_ne (by omega)]
      · intro k hk
        rw [zu_ne (show 74 ≠ 72 by omega), cpF_at, if_pos (by omega)]
        exact congrArg (N.1 73) (by omega)
      · intro i k hi hk
        rw [zu_ne (show 74 ≠ 72 by omega), cpF_at, if_neg (by omega)]
        exact congrArg (N.1 74) (by omega)
  obtain ⟨J', q1, ⟨q2, q2'⟩, q3, q4, q5⟩ := hJ
  have hI : ∀ a, a ≠ 42 → (a < 44 ∨ 55 < a) → zu (zu (tkI M.1 (44 + 2 * nx) (45 + 2 * nx) 7 8) 42 1 (nI ((nx + 1) % 6))) 42 2 (nI (min (s + 1) 6)) a = M.1 a := by
    intro a h1 h2
    rw [zu_ne h1, zu_ne h1, tk_ne (by omega) (by omega)]
  have hCU : CU n (dd 0) (ll 0) (rf 0) (zu (zu (tkI M.1 (44 + 2 * nx) (45 + 2 * nx) 7 8) 42 1 (nI ((nx + 1) % 6))) 42 2 (nI (min (s + 1) 6))) J' := CU_of hc (hI 7 (by omega) (by omega)) (hI 8 (by omega) (by omega)) (hI 26 (by omega) (by omega)) (hI 28 (by omega) (by omega)) (hI 29 (by omega) (by omega)) (q2' 5 (by omega)) (q2' 6 (by omega)) (q2' 7 (by omega)) (q2' 8 (by omega)) (q2 73 (by omega) (by omega)) (q2 76 (by omega) (by omega)) (q2 77 (by omega) (by omega)) (q2 78 (by omega) (by omega))
  refine ⟨_, J', keepC_s g b2 b1 b3 b4, q1, hI, ⟨q2, q2'⟩, hCU, ?_⟩
  have e28 := hI 28 (by omega) (by omega)
  have e29 := hI 29 (by omega) (by omega)
  refine ⟨by omega, by omega, ?_, zu_eq, q3, ?_, ?_⟩
  · rw [zu_ne2 (by omega)]; exact zu_eq
  · intro i hi
    dsimp only
    cases i with
    | zero => exact ⟨Nat.le_refl _, Nat.le_refl _, Nat.le_refl _, Nat.le_succ _⟩
    | succ i => exact b6 i (by omega)
  · intro i hi
    dsimp only
    cases i with
    | zero =>
      have ej : ((nx + 1) % 6 + 5 - 0) % 6 = nx := by omega
      rw [ej]
      obtain ⟨p1, ⟨_, p2⟩, p3, p4, _, cd, ca, p5⟩ := hc
      refine ⟨?_, ?_, ?_, ?_, p4, cd, ca, ?_⟩
      · rw [q2 76 (by omega) (by omega), q2 77 (by omega) (by omega)]
        refine CR_ext7 p1.1 ?_ ?_ ?_ (q2' 6 (by omega)) (q2' 7 (by omega)) (q2' 8 (by omega))
        · intro k u1 u2
          rw [zu_ne (by omega), zu_ne (by omega), tk_fld u1 (by omega)]
        · intro k u1
          rw [zu_ne (by omega), zu_ne (by omega), tk_row (by omega) u1]
        · intro k u1 _
          exact q4 k (by omega)
      · rw [q2 76 (by omega) (by omega), q2 77 (by omega) (by omega)]
        exact RG_ext p1.2.1 p1.1.1 (fun k u1 _ => q4 k (by omega))
      · exact (q4 2 (by omega)).trans p2
      · rw [zu_ne (by omega), zu_ne (by omega), tk_fld (by omega) (by omega)]
        exact p3
      · exact MR_row p5 (fun k hk => q4 k hk) e28 e29
    | succ i =>
      have ej : ((nx + 1) % 6 + 5 - (i + 1)) % 6 = (nx + 5 - i) % 6 := by omega
      rw [ej]
      refine KC_of (b7 i (by omega)) ?_ ?_ ?_ (q2' 6 (by omega)) (q2' 7 (by omega)) (q2' 8 (by omega)) (q2 76 (by omega) (by omega)) (q2 77 (by omega) (by omega)) ?_
      · intro k _ _
        rw [zu_ne (by omega), zu_ne (by omega), tk_ne (by omega) (by omega)]
      · intro k _
        rw [zu_ne (by omega), zu_ne (by omega), tk_ne (by omega) (by omega)]
      · intro k hk
        exact q5 i k (by omega) hk
      · intro cd ca hm
        rw [e28, e29]
        exact hm
theorem rf_ch {rf : Nat → Nat} {s : Nat} (h : ∀ i, i < s → rf (i + 1) ≤ rf i ∧ rf i ≤ rf (i + 1) + 1) : ∀ i, i ≤ s → rf i ≤ rf 0 ∧ rf 0 ≤ rf i + i := by
  intro i
  induction i with
  | zero => intro _; exact ⟨Nat.le_refl _, Nat.le_refl _⟩
  | succ i ih =>
    intro hi
    have h1 := ih (by omega)
    have h2 := h i (by omega)
    omega
/-- undo on both sides -/
theorem undo_al (g : zg) {n s nx : Nat} {dd ll rf : Nat → Nat} {M N : zM} (hc : CU n (dd 0) (ll 0) (rf 0) M.1 N.1) (hs : SP n dd ll rf s nx M.1 N.1) : ∃ v I' J' s' nx' dd' ll' rf', X_X11_undo g [.ref 0] M = some (some (.int v), (I', M.2)) ∧ X_X12_undo g [.ref 72] N = some (some (.int v), (J', N.2)) ∧ (∀ a, a ≠ 42 → a ≠ 7 → a ≠ 8 → I' a = M.1 a) ∧ (∀ a, a ≠ 72 → a ≠ 73 → J' a = N.1 a) ∧ (∀ k, k ≠ 0 → k ≠ 3 → J' 72 k = N.1 72 k) ∧ CU n (dd' 0) (ll' 0) (rf' 0) I' J' ∧ SP n dd' ll' rf' s' nx' I' J' := by
  have hs' := hs
  obtain ⟨b1, b2, b3, b4, b5, b6, b7⟩ := hs
  rw [undoC_s g b2 b1 b3 b4, undoM_s g b1 b5]
  by_cases h0 : s = 0
  · rw [if_pos h0, if_pos h0]
    refine ⟨0, M.1, zu N.1 72 0 0, s, nx, dd, ll, rf, rfl, rfl, fun _ _ _ _ => rfl, fun a ha _ => zu_ne ha, fun k hk _ => zu_ne2 hk, ?_, ?_⟩
    · exact CU_of hc rfl rfl rfl rfl rfl (zu_ne2 (by omega)) (zu_ne2 (by omega)) (zu_ne2 (by omega)) (zu_ne2 (by omega)) (zu_ne (by omega)) (zu_ne (by omega)) (zu_ne (by omega)) (zu_ne (by omega))
    · exact ⟨b1, b2, b3, b4, by rw [zu_ne2 (by omega)]; exact b5, b6, fun i hi => absurd hi (by omega)⟩
  · rw [if_neg h0, if_neg h0]
    obtain ⟨k1, k2, k3, k4, k5, cd, ca, k6⟩ := b7 0 (by omega)
    have ej : (nx + 5 - 0) % 6 = (nx + 5) % 6 := by omega
    rw [ej] at k1 k4
    have fr : ∀ a, a ≠ 42 → a ≠ 7 → a ≠ 8 → tkI (zu (zu M.1 42 1 (nI ((nx + 5) % 6))) 42 2 (nI (s - 1))) 7 8 (44 + 2 * ((nx + 5) % 6)) (45 + 2 * ((nx + 5) % 6)) a = M.1 a := by
      intro a u1 u2 u3
      rw [tk_ne u2 u3, zu_ne u1, zu_ne u1]
    have fJ : ∀ a, a ≠ 72 → a ≠ 73 → cpF (fun k => N.1 74 (148 * (s - 1) + k)) 73 0 148 0 (zu (zu N.1 72 0 0) 72 3 (nI (s - 1))) a = N.1 a := by
      intro a u1 u2
      rw [cpF_ne u2, zu_ne u1, zu_ne u1]
    have fJ2 : ∀ k, k ≠ 0 → k ≠ 3 → cpF (fun k => N.1 74 (148 * (s - 1) + k)) 73 0 148 0 (zu (zu N.1 72 0 0) 72 3 (nI (s - 1))) 72 k = N.1 72 k := by
      intro k u1 u2
      rw [cpF_ne (by omega), zu_ne2 u2, zu_ne2 u1]
    have f73 : ∀ k, k < 148 → cpF (fun k => N.1 74 (148 * (s - 1) + k)) 73 0 148 0 (zu (zu N.1 72 0 0) 72 3 (nI (s - 1))) 73 k = N.1 74 (148 * (s - 1 - 0) + k) := by
      intro k hk
      rw [cpF_at, if_pos (by omega)]
      rfl
    refine ⟨1, _, _, s - 1, (nx + 5) % 6, fun i => dd (i + 1), fun i => ll (i + 1), fun i => rf (i + 1), rfl, rfl, fr, fJ, fJ2, ?_, ?_⟩
    · obtain ⟨⟨p1, p2, p3, p4, l, hl, p5, p6⟩, ⟨hl0, el0⟩, a3, a4, a5, a6⟩ := hc
      have ell : l = ll 0 := (nI_eq (by omega) (by omega)).mp (p5.symm.trans el0)
      have hb := b6 0 (by omega)
      refine ⟨⟨?_, ?_, ?_, ?_, ll (0 + 1), by omega, ?_, ?_⟩, ⟨by dsimp only; omega, ?_⟩, ?_, k5, by dsimp only; omega, cd, ca, ?_⟩
      · unfold CRJ
        rw [fJ 76 (by omega) (by omega), fJ 77 (by omega) (by omega)]
        refine CR_ext7 k1 ?_ ?_ ?_ (fJ2 6 (by omega) (by omega)) (fJ2 7 (by omega) (by omega)) (fJ2 8 (by omega) (by omega))
        · intro k u1 u2
          rw [tk_fld u1 (by omega), zu_ne (by omega), zu_ne (by omega)]
        · intro k u1
          rw [tk_row (by omega) u1, zu_ne (by omega), zu_ne (by omega)]
        · intro k u1 _
          exact f73 k (by omega)
      · rw [fJ 76 (by omega) (by omega), fJ 77 (by omega) (by omega)]
        exact RG_ext k2 k1.1 (fun k u1 _ => f73 k (by omega))
      · rw [show tkI (zu (zu M.1 42 1 (nI ((nx + 5) % 6))) 42 2 (nI (s - 1))) 7 8 (44 + 2 * ((nx + 5) % 6)) (45 + 2 * ((nx + 5) % 6)) 7 0 = M.1 7 0 from by
          unfold tkI
          rw [zu_ne2 (by omega), zu_ne2 (by omega), zu_ne2 (by omega), zu_ne2 (by omega), zu_ne2 (by omega), zu_ne2 (by omega), zu_ne2 (by omega), zu_ne2 (by omega), zu_ne2 (by omega), zu_ne2 (by omega), zu_ne2 (by omega)]
          unfold zcp
          rw [zr_ne (by omega), zu_ne (by omega), zu_ne (by omega)]]
        exact p3
      · rw [fJ2 5 (by omega) (by omega)]; exact p4
      · exact (f73 2 (by omega)).trans k3
      · intro k hk
        rw [fr 26 (by omega) (by omega) (by omega), fJ 78 (by omega) (by omega)]
        exact p6 k (by omega)
      · exact (f73 2 (by omega)).trans k3
      · rw [tk_fld (by omega) (by omega), zu_ne (by omega), zu_ne (by omega)]
        exact k4
      · exact MR_row k6 (fun k hk => f73 k hk) (fr 28 (by omega) (by omega) (by omega)) (fr 29 (by omega) (by omega) (by omega))
    · refine ⟨by omega, by omega, ?_, ?_, ?_, ?_, ?_⟩
      · rw [tk_ne (by omega) (by omega), zu_ne2 (by omega)]; exact zu_eq
      · rw [tk_ne (by omega) (by omega)]; exact zu_eq
      · rw [cpF_ne (by omega)]; exact zu_eq
      · intro i hi
        exact b6 (i + 1) (by omega)
      · intro i hi
        have ej2 : ((nx + 5) % 6 + 5 - i) % 6 = (nx + 5 - (i + 1)) % 6 := by omega
        rw [ej2]
        refine KC_of (b7 (i + 1) (by omega)) ?_ ?_ ?_ (fJ2 6 (by omega) (by omega)) (fJ2 7 (by omega) (by omega)) (fJ2 8 (by omega) (by omega)) (fJ 76 (by omega) (by omega)) (fJ 77 (by omega) (by omega)) ?_
        · intro k _ _
          rw [fr _ (by omega) (by omega) (by omega)]
        · intro k _
          rw [fr _ (by omega) (by omega) (by omega)]
        · intro k hk
          rw [fJ 74 (by omega) (by omega), show s - 1 - 1 - i = s - 1 - (i + 1) by omega]
        · intro cd ca hm
          rw [fr 28 (by omega) (by omega) (by omega), fr 29 (by omega) (by omega) (by omega)]
          exact hm
