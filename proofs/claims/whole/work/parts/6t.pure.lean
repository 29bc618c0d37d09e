/-! PURE ROWS: where reading begins; what was read is taken, the reference -/
theorem TKS_0 {j : Nat} {f : Nat → Int32} {L : Nat} {I J : zI} (hL : L ≤ 400) (hby : ∀ k, k < L → ∃ b, b < 256 ∧ f k = nI b) (h4 : I 1 4 = 0) (h67 : I 1 6 = 0 ∧ I 1 7 = -1) (hs : SPL j f L 0 0 I) (hr : RTK f L (nxB f L 0) J) (h79 : J 79 = f) (h13 : J 72 13 = nI L) (h80 : ∀ k, k < 125 → J 80 k = wtb k) : ∃ m, TKS j f L 0 m I J := by
  obtain ⟨m, m1, m2, m3, m4, m5⟩ := hs
  rw [Nat.zero_add] at m1 m4 m5
  refine ⟨m, ⟨hL, hby, h67⟩, ⟨m1, by omega, h4.trans rfl, fun k hk => ?_, m3, m4, m5⟩, hr, h79, h13, h80⟩
  have q := m2 k hk
  rw [Nat.zero_add] at q
  exact q
theorem two_nI (n : Nat) : (2 * nI n : Int32) = nI (2 * n) := by
  rw [show (2 : Int32) = nI 2 from rfl]
  unfold nI
  rw [← Int32.ofNat_mul]
theorem four_nI (n : Nat) : (4 * nI n : Int32) = nI (4 * n) := by
  rw [show (4 : Int32) = nI 4 from rfl]
  unfold nI
  rw [← Int32.ofNat_mul]
theorem takR_7 (g : zg) {n : Nat} (hn : n ≤ 12) (k : Nat) : ∀ (i : Nat) (N : zM), i + k = 2 * n → ∃ J', zX (t_X12_takesOther g) 7 [some (.ref 72), none, some (.int (nI n)), some (.int (nI i))] [] N = some (none, (J', N.2)) ∧ (∀ a, a ≠ 72 → a ≠ 89 → J' a = N.1 a) ∧ (∀ x, x ≠ 3 → x ≠ 35 → J' 72 x = N.1 72 x) ∧ J' 72 35 = nI n ∧ J' 72 3 = 0 ∧ ∀ x, J' 89 x = if i ≤ x ∧ x < 2 * n then N.1 89 (24 + x) else N.1 89 x := by
  induction k with
  | zero =>
    intro i N hi
    refine ⟨(zu (zu N.1 72 35 (nI n)) 72 3 0), ?_, ?_, ?_, ?_, zu_eq, ?_⟩
    · rw [e_X12_takesOther_7, two_nI, cLtF (by omega) (by omega), bif_f]
    · intro a u1 _
      rw [zu_ne u1, zu_ne u1]
    · intro x u1 u2
      rw [zu_ne2 u1, zu_ne2 u2]
    · rw [zu_ne2 (by omega), zu_eq]
    · intro x
      rw [zu_ne1 (by omega), zu_ne1 (by omega), if_neg (by omega)]
  | succ k ih =>
    intro i N hi
    obtain ⟨J', r1, r2, r3, r4, r5, r6⟩ := ih (i + 1) ((zu N.1 89 i (N.1 89 (24 + i))), N.2) (by omega)
    dsimp only at r1 r2 r3 r6
    refine ⟨J', ?_, ?_, ?_, r4, r5, ?_⟩
    · rw [e_X12_takesOther_7, two_nI, cLtT (by omega) (by omega), bif_t, show (24 : Int32) + nI i = nI (24 + i) from by rw [show (24 : Int32) = nI 24 from rfl, nI_ad2], zb_nI (n := 24 + i) (by omega), decide_eq_true (p := 24 + i < 48) (by omega), bif_t, zb_nI (n := i) (by omega), decide_eq_true (p := i < 48) (by omega), bif_t, zx_nI (by omega), zx_nI (by omega), nI_s1]
      exact r1
    · intro a u1 u2
      rw [r2 a u1 u2, zu_ne u2]
    · intro x u1 u2
      rw [r3 x u1 u2, zu_ne1 (by omega)]
    · intro x
      rw [r6 x]
      by_cases e : x = i
      · subst e
        rw [if_neg (by omega), zu_eq, if_pos (by omega)]
      · by_cases e2 : i + 1 ≤ x ∧ x < 2 * n
        · rw [if_pos e2, zu_ne2 (by omega), if_pos (by omega)]
        · rw [if_neg e2, zu_ne2 e, if_neg (by omega)]
theorem takA_45 (g : zg) {n : Nat} (hn : n ≤ 16) (k : Nat) : ∀ (i : Nat) (N : zM), i + k = 4 * n → ∃ J', zX (t_X12_takesOther g) 45 [some (.ref 72), none, some (.int (nI n)), some (.int (nI i))] [] N = some (none, (J', N.2)) ∧ (∀ a, a ≠ 72 → a ≠ 90 → J' a = N.1 a) ∧ (∀ x, x ≠ 3 → x ≠ 37 → J' 72 x = N.1 72 x) ∧ J' 72 37 = nI n ∧ J' 72 3 = 0 ∧ ∀ x, J' 90 x = if i ≤ x ∧ x < 4 * n then N.1 90 (64 + x) else N.1 90 x := by
  induction k with
  | zero =>
    intro i N hi
    refine ⟨(zu (zu N.1 72 37 (nI n)) 72 3 0), ?_, ?_, ?_, ?_, zu_eq, ?_⟩
    · rw [e_X12_takesOther_45, four_nI, cLtF (by omega) (by omega), bif_f]
    · intro a u1 _
      rw [zu_ne u1, zu_ne u1]
    · intro x u1 u2
      rw [zu_ne2 u1, zu_ne2 u2]
    · rw [zu_ne2 (by omega), zu_eq]
    · intro x
      rw [zu_ne1 (by omega), zu_ne1 (by omega), if_neg (by omega)]
  | succ k ih =>
    intro i N hi
    obtain ⟨J', r1, r2, r3, r4, r5, r6⟩ := ih (i + 1) ((zu N.1 90 i (N.1 90 (64 + i))), N.2) (by omega)
    dsimp only at r1 r2 r3 r6
    refine ⟨J', ?_, ?_, ?_, r4, r5, ?_⟩
    · rw [e_X12_takesOther_45, four_nI, cLtT (by omega) (by omega), bif_t, show (64 : Int32) + nI i = nI (64 + i) from by rw [show (64 : Int32) = nI 64 from rfl, nI_ad2], zb_nI (n := 64 + i) (by omega), decide_eq_true (p := 64 + i < 128) (by omega), bif_t, zb_nI (n := i) (by omega), decide_eq_true (p := i < 128) (by omega), bif_t, zx_nI (by omega), zx_nI (by omega), nI_s1]
      exact r1
    · intro a u1 u2
      rw [r2 a u1 u2, zu_ne u2]
    · intro x u1 u2
      rw [r3 x u1 u2, zu_ne1 (by omega)]
    · intro x
      rw [r6 x]
      by_cases e : x = i
      · subst e
        rw [if_neg (by omega), zu_eq, if_pos (by omega)]
      · by_cases e2 : i + 1 ≤ x ∧ x < 4 * n
        · rw [if_pos e2, zu_ne2 (by omega), if_pos (by omega)]
        · rw [if_neg e2, zu_ne2 e, if_neg (by omega)]
