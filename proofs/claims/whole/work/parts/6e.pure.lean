/-! PURE ROWS: the class's tape split -/
theorem spl0_12 (g : zg) {f : Nat → Int32} {L : Nat} (hL : L ≤ 400) (hby : ∀ k, k < L → ∃ b, b < 256 ∧ f k = nI b) (n : Nat) : ∀ (q c i : Nat) (M : zM), L - q ≤ n → q ≤ L → c ≤ i → i ≤ q → M.1 2 = f → M.1 1 5 = nI L → ∃ I', zX (t_X9_split g) 12 [some (.ref 1), some (.ref 1000), some (.int (nI c)), some (.int (nI q)), some (.int (nI i)), none] [] M = some (none, (I', M.2)) ∧ (∀ a, a ≠ 3 → a ≠ 4 → a ≠ 5 → I' a = M.1 a) ∧ (∀ k, k < c → I' 3 k = M.1 3 k ∧ I' 4 k = M.1 4 k ∧ I' 5 k = M.1 5 k) ∧ SPL 0 f L q c I' := by
  have fin : ∀ (c i : Nat) (M : zM), c ≤ 400 → i ≤ 400 → M.1 1 5 = nI L → ∃ I', zX (t_X9_split g) 12 [some (.ref 1), some (.ref 1000), some (.int (nI c)), some (.int (nI L)), some (.int (nI i)), none] [] M = some (none, (I', M.2)) ∧ (∀ a, a ≠ 3 → a ≠ 4 → a ≠ 5 → I' a = M.1 a) ∧ (∀ k, k < c → I' 3 k = M.1 3 k ∧ I' 4 k = M.1 4 k ∧ I' 5 k = M.1 5 k) ∧ SPL 0 f L L c I' := by
    intro c i M hc hi h5
    refine ⟨(zu (zu M.1 3 c 0) 5 c (nI L)), ?_, ?_, ?_, 0, by omega, fun k hk => absurd hk (by omega), nxB_L, ?_, ?_⟩
    · rw [e_X9_split_12, h5, cLtF (a := L) (b := L) (by omega) (by omega), bif_f, zb_nI (by omega), decide_eq_true (by omega), bif_t, bif_t, zx_nI (by omega)]
      cases cLt (nI i) 400 <;> rfl
    · intro a u1 u2 u3
      rw [zu_ne u3, zu_ne u1]
    · intro k hk
      refine ⟨?_, ?_, ?_⟩
      · rw [zu_ne1 (by omega), zu_ne2 (by omega)]
      · rw [zu_ne1 (by omega), zu_ne1 (by omega)]
      · rw [zu_ne2 (by omega), zu_ne1 (by omega)]
    · rw [Nat.add_zero, zu_ne1 (by omega), zu_eq]
    · rw [Nat.add_zero, zu_eq]
  induction n with
  | zero =>
    intro q c i M h1 h2 h3 h4 h5 h6
    have e : q = L := by omega
    subst e
    exact fin c i M (by omega) (by omega) h6
  | succ n ih =>
    intro q c i M h1 h2 h3 h4 h5 h6
    by_cases hq : q < L
    · have rc : X_X9_runFrom g [.ref 1, .int (nI q)] M = some (some (.int (nI (enE f L q))), M) := by
        have r := runC_s g hL h6 hq
        rw [h5] at r
        exact r
      have hen := enE_le (f := f) hq
      have st : zX (t_X9_split g) 12 [some (.ref 1), some (.ref 1000), some (.int (nI c)), some (.int (nI q)), some (.int (nI i)), none] [] M = bif blC (f q) then zX (t_X9_split g) 12 [some (.ref 1), some (.ref 1000), some (.int (nI c)), some (.int (nI (enE f L q))), some (.int (nI (i + 1))), none] [] M else zX (t_X9_split g) 12 [some (.ref 1), some (.ref 1000), some (.int (nI (c + 1))), some (.int (nI (enE f L q))), some (.int (nI (i + 1))), none] [] ((zu (zu (zu M.1 5 c (nI q)) 3 c (tokC 0 f L q)) 4 c (numC 0 f L q)), M.2) := by
        have tk := tok0_s g (M := ((zu M.1 5 c (nI q)), M.2)) hq hL (by dsimp only; rw [zu_ne (by omega), h5]; exact hby q hq)
        dsimp only at tk
        rw [zu_ne (b := 2) (by omega), h5] at tk
        have nm := numC_s g (M := ((zu (zu M.1 5 c (nI q)) 3 c (tokC 0 f L q)), M.2)) (p := q) (e := enE f L q) (by omega) (by omega)
        dsimp only at nm
        rw [zu_ne (b := 2) (by omega), zu_ne (b := 2) (by omega), h5] at nm
        rw [e_X9_split_12, clT (c := 400) (n := 400) rfl (by omega) (by omega), bif_t, h6, cLtT hq (by omega), bif_t, rc, zbI_s, zb_nI (by omega), decide_eq_true (by omega), bif_t, zx_nI (by omega), blaC_s, zbI_s, cEq0_b01, h5, zb_nI (n := c) (by omega), decide_eq_true (p := c < 401) (by omega), zx_nI (n := c) (by omega), nI_s1, nI_s1]
        simp only [bif_t]
        cases hb : blC (f q)
        · rw [Bool.not_false, bif_t, bif_f, tk, zbI_s]
          dsimp only
          rw [zu_eq, nm, zbI_s]
          unfold numC
          cases cEq (tokC 0 f L q) 1 <;> rfl
        · rw [Bool.not_true, bif_f, bif_t]
      cases hb : blC (f q)
      · rw [hb, bif_f] at st
        obtain ⟨I', r1, r2, r3, m, r4, r5, r6, r7, r8⟩ := ih (enE f L q) (c + 1) (i + 1) ((zu (zu (zu M.1 5 c (nI q)) 3 c (tokC 0 f L q)) 4 c (numC 0 f L q)), M.2) (by omega) hen.2 (by omega) (by omega) (by dsimp only; rw [zu_ne (by omega), zu_ne (by omega), zu_ne (by omega)]; exact h5) (by dsimp only; rw [zu_ne (by omega), zu_ne (by omega), zu_ne (by omega)]; exact h6)
        dsimp only at r1 r2 r3
        have p0 : plS f L q 0 = q := nxB_n hq hb
        refine ⟨I', st.trans r1, ?_, ?_, m + 1, by omega, ?_, ?_, ?_, ?_⟩
        · intro a u1 u2 u3
          rw [r2 a u1 u2 u3, zu_ne u2, zu_ne u1, zu_ne u3]
        · intro k hk
          obtain ⟨v1, v2, v3⟩ := r3 k (by omega)
          refine ⟨?_, ?_, ?_⟩
          · rw [v1, zu_ne1 (by omega), zu_ne2 (by omega), zu_ne1 (by omega)]
          · rw [v2, zu_ne2 (by omega), zu_ne1 (by omega), zu_ne1 (by omega)]
          · rw [v3, zu_ne1 (by omega), zu_ne1 (by omega), zu_ne2 (by omega)]
        · intro k hk
          cases k with
          | zero =>
            obtain ⟨v1, v2, v3⟩ := r3 c (by omega)
            rw [p0, Nat.add_zero]
            refine ⟨hq, ?_, ?_, ?_⟩
            · rw [v3, zu_ne1 (by omega), zu_ne1 (by omega), zu_eq]
            · rw [v1, zu_ne1 (by omega), zu_eq]
            · rw [v2, zu_eq]
          | succ k =>
            rw [plS_on hq hb, show c + (k + 1) = c + 1 + k from by omega]
            exact r5 k (by omega)
        · rw [plS_on hq hb]
          exact r6
        · rw [show c + (m + 1) = c + 1 + m from by omega]
          exact r7
        · rw [show c + (m + 1) = c + 1 + m from by omega]
          exact r8
      · rw [hb, bif_t, bl_one hq hb] at st
        obtain ⟨I', r1, r2, r3, m, r4, r5, r6, r7, r8⟩ := ih (q + 1) c (i + 1) M (by omega) (by omega) (by omega) (by omega) h5 h6
        refine ⟨I', st.trans r1, r2, r3, m, r4, fun k hk => ?_, ?_, r7, r8⟩
        · rw [plS_b hq hb]
          exact r5 k hk
        · rw [plS_b hq hb]
          exact r6
    · have e : q = L := by omega
      subst e
      exact fin c i M (by omega) (by omega) h6
theorem spl0_s (g : zg) {L : Nat} {M : zM} (hL : L ≤ 400) (hby : ∀ k, k < L → ∃ b, b < 256 ∧ M.1 2 k = nI b) (h5 : M.1 1 5 = nI L) : ∃ I', X_X9_split g [.ref 1, .ref 1000] M = some (none, (I', M.2)) ∧ (∀ a, a ≠ 1 → a ≠ 3 → a ≠ 4 → a ≠ 5 → I' a = M.1 a) ∧ (∀ k, k ≠ 4 → I' 1 k = M.1 1 k) ∧ I' 1 4 = 0 ∧ SPL 0 (M.1 2) L 0 0 I' := by
  obtain ⟨I', r1, r2, _, r4⟩ := spl0_12 g (f := M.1 2) hL hby L 0 0 0 ((zu M.1 1 4 0), M.2) (by omega) (by omega) (by omega) (by omega) (by dsimp only; rw [zu_ne (by omega)]) (by dsimp only; rw [zu_ne2 (by omega)]; exact h5)
  dsimp only at r1 r2
  refine ⟨I', ?_, ?_, ?_, ?_, r4⟩
  · rw [x_X9_split_0]
    exact r1
  · intro a u0 u1 u2 u3
    rw [r2 a u1 u2 u3, zu_ne u0]
  · intro k hk
    rw [r2 1 (by omega) (by omega) (by omega), zu_ne2 hk]
  · rw [r2 1 (by omega) (by omega) (by omega), zu_eq]
theorem spl1_12 (g : zg) {f : Nat → Int32} {L : Nat} (hL : L ≤ 400) (hby : ∀ k, k < L → ∃ b, b < 256 ∧ f k = nI b) (n : Nat) : ∀ (q c i : Nat) (M : zM), L - q ≤ n → q ≤ L → c ≤ i → i ≤ q → M.1 2 = f → M.1 1 5 = nI L → ∃ I', zX (t_X9_split g) 12 [some (.ref 1), some (.ref 1001), some (.int (nI c)), some (.int (nI q)), some (.int (nI i)), none] [] M = some (none, (I', M.2)) ∧ (∀ a, a ≠ 3 → a ≠ 4 → a ≠ 5 → I' a = M.1 a) ∧ (∀ k, k < c → I' 3 k = M.1 3 k ∧ I' 4 k = M.1 4 k ∧ I' 5 k = M.1 5 k) ∧ SPL 1 f L q c I' := by
  have fin : ∀ (c i : Nat) (M : zM), c ≤ 400 → i ≤ 400 → M.1 1 5 = nI L → ∃ I', zX (t_X9_split g) 12 [some (.ref 1), some (.ref 1001), some (.int (nI c)), some (.int (nI L)), some (.int (nI i)), none] [] M = some (none, (I', M.2)) ∧ (∀ a, a ≠ 3 → a ≠ 4 → a ≠ 5 → I' a = M.1 a) ∧ (∀ k, k < c → I' 3 k = M.1 3 k ∧ I' 4 k = M.1 4 k ∧ I' 5 k = M.1 5 k) ∧ SPL 1 f L L c I' := by
    intro c i M hc hi h5
    refine ⟨(zu (zu M.1 3 c 0) 5 c (nI L)), ?_, ?_, ?_, 0, by omega, fun k hk => absurd hk (by omega), nxB_L, ?_, ?_⟩
    · rw [e_X9_split_12_1, h5, cLtF (a := L) (b := L) (by omega) (by omega), bif_f, zb_nI (by omega), decide_eq_true (by omega), bif_t, bif_t, zx_nI (by omega)]
      cases cLt (nI i) 400 <;> rfl
    · intro a u1 u2 u3
      rw [zu_ne u3, zu_ne u1]
    · intro k hk
      refine ⟨?_, ?_, ?_⟩
      · rw [zu_ne1 (by omega), zu_ne2 (by omega)]
      · rw [zu_ne1 (by omega), zu_ne1 (by omega)]
      · rw [zu_ne2 (by omega), zu_ne1 (by omega)]
    · rw [Nat.add_zero, zu_ne1 (by omega), zu_eq]
    · rw [Nat.add_zero, zu_eq]
  induction n with
  | zero =>
    intro q c i M h1 h2 h3 h4 h5 h6
    have e : q = L := by omega
    subst e
    exact fin c i M (by omega) (by omega) h6
  | succ n ih =>
    intro q c i M h1 h2 h3 h4 h5 h6
    by_cases hq : q < L
    · have rc : X_X9_runFrom g [.ref 1, .int (nI q)] M = some (some (.int (nI (enE f L q))), M) := by
        have r := runC_s g hL h6 hq
        rw [h5] at r
        exact r
      have hen := enE_le (f := f) hq
      have st : zX (t_X9_split g) 12 [some (.ref 1), some (.ref 1001), some (.int (nI c)), some (.int (nI q)), some (.int (nI i)), none] [] M = bif blC (f q) then zX (t_X9_split g) 12 [some (.ref 1), some (.ref 1001), some (.int (nI c)), some (.int (nI (enE f L q))), some (.int (nI (i + 1))), none] [] M else zX (t_X9_split g) 12 [some (.ref 1), some (.ref 1001), some (.int (nI (c + 1))), some (.int (nI (enE f L q))), some (.int (nI (i + 1))), none] [] ((zu (zu (zu M.1 5 c (nI q)) 3 c (tokC 1 f L q)) 4 c (numC 1 f L q)), M.2) := by
        have tk := tok1_s g (M := ((zu M.1 5 c (nI q)), M.2)) hq hL (by dsimp only; rw [zu_ne (by omega), h5]; exact hby q hq)
        dsimp only at tk
        rw [zu_ne (b := 2) (by omega), h5] at tk
        have nm := numC_s g (M := ((zu (zu M.1 5 c (nI q)) 3 c (tokC 1 f L q)), M.2)) (p := q) (e := enE f L q) (by omega) (by omega)
        dsimp only at nm
        rw [zu_ne (b := 2) (by omega), zu_ne (b := 2) (by omega), h5] at nm
        rw [e_X9_split_12_1, clT (c := 400) (n := 400) rfl (by omega) (by omega), bif_t, h6, cLtT hq (by omega), bif_t, rc, zbI_s, zb_nI (by omega), decide_eq_true (by omega), bif_t, zx_nI (by omega), blaC_s, zbI_s, cEq0_b01, h5, zb_nI (n := c) (by omega), decide_eq_true (p := c < 401) (by omega), zx_nI (n := c) (by omega), nI_s1, nI_s1]
        simp only [bif_t]
        cases hb : blC (f q)
        · rw [Bool.not_false, bif_t, bif_f, tk, zbI_s]
          dsimp only
          rw [zu_eq, nm, zbI_s]
          unfold numC
          cases cEq (tokC 1 f L q) 1 <;> rfl
        · rw [Bool.not_true, bif_f, bif_t]
      cases hb : blC (f q)
      · rw [hb, bif_f] at st
        obtain ⟨I', r1, r2, r3, m, r4, r5, r6, r7, r8⟩ := ih (enE f L q) (c + 1) (i + 1) ((zu (zu (zu M.1 5 c (nI q)) 3 c (tokC 1 f L q)) 4 c (numC 1 f L q)), M.2) (by omega) hen.2 (by omega) (by omega) (by dsimp only; rw [zu_ne (by omega), zu_ne (by omega), zu_ne (by omega)]; exact h5) (by dsimp only; rw [zu_ne (by omega), zu_ne (by omega), zu_ne (by omega)]; exact h6)
        dsimp only at r1 r2 r3
        have p0 : plS f L q 0 = q := nxB_n hq hb
        refine ⟨I', st.trans r1, ?_, ?_, m + 1, by omega, ?_, ?_, ?_, ?_⟩
        · intro a u1 u2 u3
          rw [r2 a u1 u2 u3, zu_ne u2, zu_ne u1, zu_ne u3]
        · intro k hk
          obtain ⟨v1, v2, v3⟩ := r3 k (by omega)
          refine ⟨?_, ?_, ?_⟩
          · rw [v1, zu_ne1 (by omega), zu_ne2 (by omega), zu_ne1 (by omega)]
          · rw [v2, zu_ne2 (by omega), zu_ne1 (by omega), zu_ne1 (by omega)]
          · rw [v3, zu_ne1 (by omega), zu_ne1 (by omega), zu_ne2 (by omega)]
        · intro k hk
          cases k with
          | zero =>
            obtain ⟨v1, v2, v3⟩ := r3 c (by omega)
            rw [p0, Nat.add_zero]
            refine ⟨hq, ?_, ?_, ?_⟩
            · rw [v3, zu_ne1 (by omega), zu_ne1 (by omega), zu_eq]
            · rw [v1, zu_ne1 (by omega), zu_eq]
            · rw [v2, zu_eq]
          | succ k =>
            rw [plS_on hq hb, show c + (k + 1) = c + 1 + k from by omega]
            exact r5 k (by omega)
        · rw [plS_on hq hb]
          exact r6
        · rw [show c + (m + 1) = c + 1 + m from by omega]
          exact r7
        · rw [show c + (m + 1) = c + 1 + m from by omega]
          exact r8
      · rw [hb, bif_t, bl_one hq hb] at st
        obtain ⟨I', r1, r2, r3, m, r4, r5, r6, r7, r8⟩ := ih (q + 1) c (i + 1) M (by omega) (by omega) (by omega) (by omega) h5 h6
        refine ⟨I', st.trans r1, r2, r3, m, r4, fun k hk => ?_, ?_, r7, r8⟩
        · rw [plS_b hq hb]
          exact r5 k hk
        · rw [plS_b hq hb]
          exact r6
    · have e : q = L := by omega
      subst e
      exact fin c i M (by omega) (by omega) h6
theorem spl1_s (g : zg) {L : Nat} {M : zM} (hL : L ≤ 400) (hby : ∀ k, k < L → ∃ b, b < 256 ∧ M.1 2 k = nI b) (h5 : M.1 1 5 = nI L) : ∃ I', X_X9_split g [.ref 1, .ref 1001] M = some (none, (I', M.2)) ∧ (∀ a, a ≠ 1 → a ≠ 3 → a ≠ 4 → a ≠ 5 → I' a = M.1 a) ∧ (∀ k, k ≠ 4 → I' 1 k = M.1 1 k) ∧ I' 1 4 = 0 ∧ SPL 1 (M.1 2) L 0 0 I' := by
  obtain ⟨I', r1, r2, _, r4⟩ := spl1_12 g (f := M.1 2) hL hby L 0 0 0 ((zu M.1 1 4 0), M.2) (by omega) (by omega) (by omega) (by omega) (by dsimp only; rw [zu_ne (by omega)]) (by dsimp only; rw [zu_ne2 (by omega)]; exact h5)
  dsimp only at r1 r2
  refine ⟨I', ?_, ?_, ?_, ?_, r4⟩
  · rw [x_X9_split_0_1]
    exact r1
  · intro a u0 u1 u2 u3
    rw [r2 a u1 u2 u3, zu_ne u0]
  · intro k hk
    rw [r2 1 (by omega) (by omega) (by omega), zu_ne2 hk]
  · rw [r2 1 (by omega) (by omega) (by omega), zu_eq]
theorem spl2_12 (g : zg) {f : Nat → Int32} {L : Nat} (hL : L ≤ 400) (hby : ∀ k, k < L → ∃ b, b < 256 ∧ f k = nI b) (n : Nat) : ∀ (q c i : Nat) (M : zM), L - q ≤ n → q ≤ L → c ≤ i → i ≤ q → M.1 2 = f → M.1 1 5 = nI L → ∃ I', zX (t_X9_split g) 12 [some (.ref 1), some (.ref 1002), some (.int (nI c)), some (.int (nI q)), some (.int (nI i)), none] [] M = some (none, (I', M.2)) ∧ (∀ a, a ≠ 3 → a ≠ 4 → a ≠ 5 → I' a = M.1 a) ∧ (∀ k, k < c → I' 3 k = M.1 3 k ∧ I' 4 k = M.1 4 k ∧ I' 5 k = M.1 5 k) ∧ SPL 2 f L q c I' := by
  have fin : ∀ (c i : Nat) (M : zM), c ≤ 400 → i ≤ 400 → M.1 1 5 = nI L → ∃ I', zX (t_X9_split g) 12 [some (.ref 1), some (.ref 1002), some (.int (nI c)), some (.int (nI L)), some (.int (nI i)), none] [] M = some (none, (I', M.2)) ∧ (∀ a, a ≠ 3 → a ≠ 4 → a ≠ 5 → I' a = M.1 a) ∧ (∀ k, k < c → I' 3 k = M.1 3 k ∧ I' 4 k = M.1 4 k ∧ I' 5 k = M.1 5 k) ∧ SPL 2 f L L c I' := by
    intro c i M hc hi h5
    refine ⟨(zu (zu M.1 3 c 0) 5 c (nI L)), ?_, ?_, ?_, 0, by omega, fun k hk => absurd hk (by omega), nxB_L, ?_, ?_⟩
    · rw [e_X9_split_12_2, h5, cLtF (a := L) (b := L) (by omega) (by omega), bif_f, zb_nI (by omega), decide_eq_true (by omega), bif_t, bif_t, zx_nI (by omega)]
      cases cLt (nI i) 400 <;> rfl
    · intro a u1 u2 u3
      rw [zu_ne u3, zu_ne u1]
    · intro k hk
      refine ⟨?_, ?_, ?_⟩
      · rw [zu_ne1 (by omega), zu_ne2 (by omega)]
      · rw [zu_ne1 (by omega), zu_ne1 (by omega)]
      · rw [zu_ne2 (by omega), zu_ne1 (by omega)]
    · rw [Nat.add_zero, zu_ne1 (by omega), zu_eq]
    · rw [Nat.add_zero, zu_eq]
  induction n with
  | zero =>
    intro q c i M h1 h2 h3 h4 h5 h6
    have e : q = L := by omega
    subst e
    exact fin c i M (by omega) (by omega) h6
  | succ n ih =>
    intro q c i M h1 h2 h3 h4 h5 h6
    by_cases hq : q < L
    · have rc : X_X9_runFrom g [.ref 1, .int (nI q)] M = some (some (.int (nI (enE f L q))), M) := by
        have r := runC_s g hL h6 hq
        rw [h5] at r
        exact r
      have hen := enE_le (f := f) hq
      have st : zX (t_X9_split g) 12 [some (.ref 1), some (.ref 1002), some (.int (nI c)), some (.int (nI q)), some (.int (nI i)), none] [] M = bif blC (f q) then zX (t_X9_split g) 12 [some (.ref 1), some (.ref 1002), some (.int (nI c)), some (.int (nI (enE f L q))), some (.int (nI (i + 1))), none] [] M else zX (t_X9_split g) 12 [some (.ref 1), some (.ref 1002), some (.int (nI (c + 1))), some (.int (nI (enE f L q))), some (.int (nI (i + 1))), none] [] ((zu (zu (zu M.1 5 c (nI q)) 3 c (tokC 2 f L q)) 4 c (numC 2 f L q)), M.2) := by
        have tk := tok2_s g (M := ((zu M.1 5 c (nI q)), M.2)) hq hL (by dsimp only; rw [zu_ne (by omega), h5]; exact hby q hq)
        dsimp only at tk
        rw [zu_ne (b := 2) (by omega), h5] at tk
        have nm := numC_s g (M := ((zu (zu M.1 5 c (nI q)) 3 c (tokC 2 f L q)), M.2)) (p := q) (e := enE f L q) (by omega) (by omega)
        dsimp only at nm
        rw [zu_ne (b := 2) (by omega), zu_ne (b := 2) (by omega), h5] at nm
        rw [e_X9_split_12_2, clT (c := 400) (n := 400) rfl (by omega) (by omega), bif_t, h6, cLtT hq (by omega), bif_t, rc, zbI_s, zb_nI (by omega), decide_eq_true (by omega), bif_t, zx_nI (by omega), blaC_s, zbI_s, cEq0_b01, h5, zb_nI (n := c) (by omega), decide_eq_true (p := c < 401) (by omega), zx_nI (n := c) (by omega), nI_s1, nI_s1]
        simp only [bif_t]
        cases hb : blC (f q)
        · rw [Bool.not_false, bif_t, bif_f, tk, zbI_s]
          dsimp only
          rw [zu_eq, nm, zbI_s]
          unfold numC
          cases cEq (tokC 2 f L q) 1 <;> rfl
        · rw [Bool.not_true, bif_f, bif_t]
      cases hb : blC (f q)
      · rw [hb, bif_f] at st
        obtain ⟨I', r1, r2, r3, m, r4, r5, r6, r7, r8⟩ := ih (enE f L q) (c + 1) (i + 1) ((zu (zu (zu M.1 5 c (nI q)) 3 c (tokC 2 f L q)) 4 c (numC 2 f L q)), M.2) (by omega) hen.2 (by omega) (by omega) (by dsimp only; rw [zu_ne (by omega), zu_ne (by omega), zu_ne (by omega)]; exact h5) (by dsimp only; rw [zu_ne (by omega), zu_ne (by omega), zu_ne (by omega)]; exact h6)
        dsimp only at r1 r2 r3
        have p0 : plS f L q 0 = q := nxB_n hq hb
        refine ⟨I', st.trans r1, ?_, ?_, m + 1, by omega, ?_, ?_, ?_, ?_⟩
        · intro a u1 u2 u3
          rw [r2 a u1 u2 u3, zu_ne u2, zu_ne u1, zu_ne u3]
        · intro k hk
          obtain ⟨v1, v2, v3⟩ := r3 k (by omega)
          refine ⟨?_, ?_, ?_⟩
          · rw [v1, zu_ne1 (by omega), zu_ne2 (by omega), zu_ne1 (by omega)]
          · rw [v2, zu_ne2 (by omega), zu_ne1 (by omega), zu_ne1 (by omega)]
          · rw [v3, zu_ne1 (by omega), zu_ne1 (by omega), zu_ne2 (by omega)]
        · intro k hk
          cases k with
          | zero =>
            obtain ⟨v1, v2, v3⟩ := r3 c (by omega)
            rw [p0, Nat.add_zero]
            refine ⟨hq, ?_, ?_, ?_⟩
            · rw [v3, zu_ne1 (by omega), zu_ne1 (by omega), zu_eq]
            · rw [v1, zu_ne1 (by omega), zu_eq]
            · rw [v2, zu_eq]
          | succ k =>
            rw [plS_on hq hb, show c + (k + 1) = c + 1 + k from by omega]
            exact r5 k (by omega)
        · rw [plS_on hq hb]
          exact r6
        · rw [show c + (m + 1) = c + 1 + m from by omega]
          exact r7
        · rw [show c + (m + 1) = c + 1 + m from by omega]
          exact r8
      · rw [hb, bif_t, bl_one hq hb] at st
        obtain ⟨I', r1, r2, r3, m, r4, r5, r6, r7, r8⟩ := ih (q + 1) c (i + 1) M (by omega) (by omega) (by omega) (by omega) h5 h6
        refine ⟨I', st.trans r1, r2, r3, m, r4, fun k hk => ?_, ?_, r7, r8⟩
        · rw [plS_b hq hb]
          exact r5 k hk
        · rw [plS_b hq hb]
          exact r6
    · have e : q = L := by omega
      subst e
      exact fin c i M (by omega) (by omega) h6
theorem spl2_s (g : zg) {L : Nat} {M : zM} (hL : L ≤ 400) (hby : ∀ k, k < L → ∃ b, b < 256 ∧ M.1 2 k = nI b) (h5 : M.1 1 5 = nI L) : ∃ I', X_X9_split g [.ref 1, .ref 1002] M = some (none, (I', M.2)) ∧ (∀ a, a ≠ 1 → a ≠ 3 → a ≠ 4 → a ≠ 5 → I' a = M.1 a) ∧ (∀ k, k ≠ 4 → I' 1 k = M.1 1 k) ∧ I' 1 4 = 0 ∧ SPL 2 (M.1 2) L 0 0 I' := by
  obtain ⟨I', r1, r2, _, r4⟩ := spl2_12 g (f := M.1 2) hL hby L 0 0 0 ((zu M.1 1 4 0), M.2) (by omega) (by omega) (by omega) (by omega) (by dsimp only; rw [zu_ne (by omega)]) (by dsimp only; rw [zu_ne2 (by omega)]; exact h5)
  dsimp only at r1 r2
  refine ⟨I', ?_, ?_, ?_, ?_, r4⟩
  · rw [x_X9_split_0_2]
    exact r1
  · intro a u0 u1 u2 u3
    rw [r2 a u1 u2 u3, zu_ne u0]
  · intro k hk
    rw [r2 1 (by omega) (by omega) (by omega), zu_ne2 hk]
  · rw [r2 1 (by omega) (by omega) (by omega), zu_eq]
