/-! PURE ROWS: records on both sides -/
def cdA (u : Nat → Nat) : Nat → Nat
  | 0 => 0
  | n + 1 => cdA u n + u n * 6 ^ n
theorem cdA_lt {u : Nat → Nat} : ∀ n, (∀ t, t < n → u t ≤ 5) → cdA u n < 6 ^ n := by
  intro n
  induction n with
  | zero => intro _; exact Nat.one_pos
  | succ n ih =>
    intro h
    have h1 := ih (fun t ht => h t (by omega))
    have h2 := h n (by omega)
    show cdA u n + u n * 6 ^ n < 6 ^ (n + 1)
    rw [Nat.pow_succ]
    have h3 : u n * 6 ^ n ≤ 5 * 6 ^ n := Nat.mul_le_mul_right _ h2
    omega
theorem cdA_0 {u : Nat → Nat} : ∀ n, cdA u n = 0 ↔ ∀ t, t < n → u t = 0 := by
  intro n
  induction n with
  | zero => exact ⟨fun _ t h => absurd h (by omega), fun _ => rfl⟩
  | succ n ih =>
    constructor
    · intro h t ht
      have h' : cdA u n + u n * 6 ^ n = 0 := h
      have h1 : cdA u n = 0 := by omega
      have h2 : u n * 6 ^ n = 0 := by omega
      by_cases e : t = n
      · subst e
        rcases Nat.mul_eq_zero.mp h2 with h3 | h3
        · exact h3
        · have := Nat.pow_pos (a := 6) (n := t) (by omega)
          omega
      · exact ih.mp h1 t (by omega)
    · intro h
      show cdA u n + u n * 6 ^ n = 0
      rw [ih.mpr (fun t ht => h t (by omega)), h n (by omega), Nat.zero_mul]
theorem cdA_dig {u : Nat → Nat} : ∀ n, (∀ t, t < n → u t ≤ 5) → ∀ t, cdA u n / 6 ^ t % 6 = if t < n then u t else 0 := by
  intro n
  induction n with
  | zero =>
    intro _ t
    rw [if_neg (by omega)]
    show 0 / 6 ^ t % 6 = 0
    rw [Nat.zero_div]
  | succ n ih =>
    intro h t
    have h0 : ∀ t, t < n → u t ≤ 5 := fun t ht => h t (by omega)
    have hl := cdA_lt n h0
    have hn := h n (by omega)
    show (cdA u n + u n * 6 ^ n) / 6 ^ t % 6 = _
    by_cases e : t < n
    · rw [if_pos (by omega)]
      have e1 : 6 ^ n = 6 ^ (n - t - 1) * 6 * 6 ^ t := by
        rw [← Nat.pow_succ, ← Nat.pow_add]
        congr 1
        omega
      rw [e1, ← Nat.mul_assoc, Nat.add_mul_div_right _ _ (Nat.pow_pos (by omega)), ← Nat.mul_assoc, Nat.add_mul_mod_self_right, ih h0 t, if_pos e]
    · by_cases e2 : t = n
      · subst e2
        rw [if_pos (by omega), Nat.add_mul_div_right _ _ (Nat.pow_pos (by omega)), Nat.div_eq_of_lt hl, Nat.zero_add, Nat.mod_eq_of_lt (by omega)]
      · rw [if_neg (by omega)]
        have hl2 := cdA_lt (u := u) (n + 1) h
        have hle : 6 ^ (n + 1) ≤ 6 ^ t := Nat.pow_le_pow_right (by omega) (by omega)
        have hlt : cdA u n + u n * 6 ^ n < 6 ^ t := Nat.lt_of_lt_of_le hl2 hle
        rw [Nat.div_eq_of_lt hlt]
theorem pow6 {i n : Nat} (h : i ≤ n) (hn : n ≤ 10) : 6 ^ i ≤ 60466176 := by
  have := Nat.pow_le_pow_right (n := 6) (by omega) (show i ≤ 10 by omega)
  exact this
theorem rec_6 (g : zg) {n : Nat} {u : Nat → Nat} {N : zM} (hn : n ≤ 10) (hm : N.1 72 6 = nI n) (hu : ∀ t, t < n → N.1 73 (48 + t) = nI (u t) ∧ u t ≤ 5) (f : Nat) : ∀ i, i + f = n → zX (t_X12_records g) 6 [some (.ref 72), some (.int (nI (cdA u i))), some (.int (nI (6 ^ i))), some (.int (nI i))] [] N = zX (t_X12_records g) 6 [some (.ref 72), some (.int (nI (cdA u n))), some (.int (nI (6 ^ n))), some (.int (nI n))] [] N := by
  induction f with
  | zero => intro i hi; rw [show i = n by omega]
  | succ f ih =>
    intro i hi
    obtain ⟨e, _⟩ := hu i (by omega)
    rw [e_X12_records_6, hm, cLtT (by omega) (by omega), bif_t, ix48, zbT (by omega) (by omega), bif_t, zx_nI (by omega), e, nI_mul, nI_ad2, show nI (6 ^ i) * 6 = nI (6 ^ (i + 1)) from (nI_mul (6 ^ i) 6).trans (by rw [Nat.pow_succ]), nI_s1]
    exact ih (i + 1) (by omega)
theorem rec_67 (g : zg) {a1 : Int32} (f : Nat) : ∀ (k : Nat) (N : zM), k + f = 89 → ∃ J', zX (t_X12_records g) 67 [some (.ref 72), some (.int a1), none, some (.int (nI k))] [] N = zX (t_X12_records g) 101 [some (.ref 72), some (.int a1), none, none] [] (J', N.2) ∧ (∀ a, a ≠ 73 → J' a = N.1 a) ∧ (∀ j, j < 58 + k → J' 73 j = N.1 73 j) ∧ ∀ j, k ≤ j → j < 89 → J' 73 (58 + j) = N.1 73 (58 + j + 1) := by
  induction f with
  | zero =>
    intro k N hk
    refine ⟨N.1, ?_, fun _ _ => rfl, fun _ _ => rfl, fun j h1 h2 => absurd h1 (by omega)⟩
    rw [e_X12_records_67, nI_s1, cLtLF (N := 90) (by omega) (by omega), bif_f]
  | succ f ih =>
    intro k N hk
    obtain ⟨J', q1, q2, q3, q4⟩ := ih (k + 1) ((zu N.1 73 (58 + k) (N.1 73 (58 + k + 1))), N.2) (by omega)
    refine ⟨J', ?_, ?_, ?_, ?_⟩
    · rw [e_X12_records_67, nI_s1, cLtLT (N := 90) (by omega) (by omega), bif_t, ix58, nI_s1, zbT (by omega) (by omega), bif_t, zbT (by omega) (by omega), bif_t, zx_nI (by omega), zx_nI (by omega)]
      exact q1
    · intro a ha
      rw [q2 a ha]
      exact zu_ne ha
    · intro j hj
      rw [q3 j (by omega)]
      dsimp only
      rw [zu_ne2 (by omega)]
    · intro j h1 h2
      by_cases e : j = k
      · subst e
        rw [q3 _ (by omega)]
        dsimp only
        rw [zu_eq]
      · rw [q4 j (by omega) h2]
        dsimp only
        rw [zu_ne2 (by omega)]
/-- the reference records a morning -/
theorem rec_s (g : zg) {n k q : Nat} {u : Nat → Nat} {N : zM} (hn : n ≤ 10) (hm : N.1 72 6 = nI n) (hu : ∀ t, t < n → N.1 73 (48 + t) = nI (u t) ∧ u t ≤ 5) (hk : k ≤ 90) (h7 : N.1 73 7 = nI k) (hq : q ≤ 99) (eq : N.1 73 3 + 50 = nI q) : ∃ J', X_X12_records g [.ref 72] N = some (none, (J', N.2)) ∧ (∀ a, a ≠ 73 → J' a = N.1 a) ∧ (∀ j, j < 58 → j ≠ 7 → J' 73 j = N.1 73 j) ∧ (cdA u n = 0 → J' = N.1) ∧ (¬ cdA u n = 0 → J' 73 7 = nI (min (k + 1) 90) ∧ J' 73 (58 + (min (k + 1) 90 - 1)) = nI (5 * cdA u n + q / 20) ∧ ∀ j, j < min (k + 1) 90 - 1 → J' 73 (58 + j) = N.1 73 (58 + (j + if k = 90 then 1 else 0))) := by
  have hlt := cdA_lt n (fun t ht => (hu t ht).2)
  have h6 := pow6 (Nat.le_refl n) hn
  have s0 := rec_6 g hn hm hu n 0 (by omega)
  have e0 : X_X12_records g [.ref 72] N = zX (t_X12_records g) 6 [some (.ref 72), some (.int (nI (cdA u n))), some (.int (nI (6 ^ n))), some (.int (nI n))] [] N := (x_X12_records_0 g N).trans s0
  rw [e0, e_X12_records_6, hm, cLtF (Nat.le_refl n) (by omega), bif_f, cEq0_nI (by omega), h7, cEq_lit (m := k) (k := 90) (y := 90) (by omega) (by omega) rfl]
  by_cases hc : cdA u n = 0
  · rw [decide_eq_true hc, bif_t]
    exact ⟨N.1, rfl, fun _ _ => rfl, fun _ _ _ => rfl, fun _ => rfl, fun h => absurd hc h⟩
  · rw [decide_eq_false hc, bif_f]
    have fin : ∀ (N1 : zM) (kk : Nat), kk < 90 → N1.1 73 7 = nI kk → N1.1 73 3 + 50 = nI q → zX (t_X12_records g) 101 [some (.ref 72), some (.int (nI (cdA u n))), none, none] [] N1 = some (none, ((zu (zu N1.1 73 (58 + kk) (nI (5 * cdA u n + q / 20))) 73 7 (nI (kk + 1))), N1.2)) := by
      intro N1 kk hkk e7 e3
      rw [e_X12_records_101, x_X12_glass_0, zbI_s, x_X12_kindOf_0, zbI_s, e7, ix58, zbT (by omega) (by omega), bif_t, zx_nI (by omega), zu_ne2 (by omega), e7, nI_s1, e3, show nI q / 20 = nI (q / 20) from idiv_nI (d := 20) (by omega) (by omega) (by omega), show 5 * nI (cdA u n) + nI (q / 20) = nI (5 * cdA u n + q / 20) from by
        rw [show (5 : Int32) * nI (cdA u n) = nI (5 * cdA u n) from nI_mul 5 _, nI_ad2]]
    by_cases h90 : k = 90
    · subst h90
      rw [decide_eq_true rfl, bif_t]
      obtain ⟨J', q1, q2, q3, q4⟩ := rec_67 g (a1 := nI (cdA u n)) 89 0 ((zu N.1 73 7 89), N.2) (by omega)
      rw [show zX (t_X12_records g) 67 [some (.ref 72), some (.int (nI (cdA u n))), none, some (.int 0)] [] ((zu N.1 73 7 89), N.2) = _ from q1, fin (J', N.2) 89 (by omega) (by
        dsimp only
        rw [q3 7 (by omega)]
        show zu N.1 73 7 89 73 7 = (89 : Int32)
        exact zu_eq) (by
        dsimp only
        rw [q3 3 (by omega)]
        dsimp only
        rw [zu_ne2 (by omega)]
        exact eq)]
      refine ⟨_, rfl, ?_, ?_, fun h => absurd h hc, fun _ => ⟨?_, ?_, ?_⟩⟩
      · intro a ha
        dsimp only
        rw [zu_ne ha, zu_ne ha, q2 a ha]
        exact zu_ne ha
      · intro j h1 h2
        dsimp only
        rw [zu_ne2 h2, zu_ne2 (by omega), q3 j (by omega)]
        dsimp only
        rw [zu_ne2 h2]
      · dsimp only
        rw [zu_eq]
        rfl
      · dsimp only
        rw [zu_ne2 (by omega)]
        exact zu_eq
      · intro j hj
        have hj' : j < 89 := by omega
        dsimp only
        rw [zu_ne2 (by omega), zu_ne2 (by omega), q4 j (by omega) hj', if_pos rfl]
        dsimp only
        rw [zu_ne2 (by omega)]
        rfl
    · rw [decide_eq_false h90, bif_f, fin N k (by omega) h7 eq]
      refine ⟨_, rfl, ?_, ?_, fun h => absurd h hc, fun _ => ⟨?_, ?_, ?_⟩⟩
      · intro a ha
        rw [zu_ne ha, zu_ne ha]
      · intro j h1 h2
        rw [zu_ne2 h2, zu_ne2 (by omega)]
      · rw [zu_eq, Nat.min_eq_left (by omega)]
      · rw [Nat.min_eq_left (by omega), Nat.add_sub_cancel, zu_ne2 (by omega)]
        exact zu_eq
      · intro j hj
        rw [Nat.min_eq_left (by omega)] at hj
        rw [zu_ne2 (by omega), zu_ne2 (by omega), if_neg h90]
        rfl
theorem add_22 (g : zg) {c r n s : Nat} (hcr : CO c r) (hn : n ≤ 10) (hs : s < 96) (f : Nat) : ∀ (i : Nat) (M : zM), M.1 c 2 = nI n → i + f = 10 → ∃ I1, zX (t_X5_add g) 22 [some (.ref 27), some (.ref c), some (.int (nI s)), some (.int (nI i))] [] M = some (none, ((zu I1 c 12 (M.1 c 12 + 1)), M.2)) ∧ (∀ a, a ≠ 29 → I1 a = M.1 a) ∧ (∀ t, i ≤ t → t < 10 → I1 29 (10 * s + t) = if t < n then M.1 r (7 * t + 6) else -1) ∧ ∀ j, (j < 10 * s + i ∨ 10 * s + 10 ≤ j) → I1 29 j = M.1 29 j := by
  have hc29 : c ≠ 29 ∧ r ≠ 29 := by rcases hcr with ⟨rfl, rfl⟩ | ⟨rfl, rfl⟩ <;> omega
  induction f with
  | zero =>
    intro i M hc hi
    refine ⟨M.1, ?_, fun _ _ => rfl, fun t h1 h2 => absurd h1 (by omega), fun _ _ => rfl⟩
    rw [k_X5_add_22 g hcr, cLtLF (N := 10) (by omega) (by omega), bif_f]
  | succ f ih =>
    intro i M hc hi
    have key : ∀ v : Int32, X_X3_get g [.ref c, .int (nI i), .int 6] M = some (some (.int v), M) → zX (t_X5_add g) 22 [some (.ref 27), some (.ref c), some (.int (nI s)), some (.int (nI i))] [] M = zX (t_X5_add g) 22 [some (.ref 27), some (.ref c), some (.int (nI s)), some (.int (nI (i + 1)))] [] ((zu M.1 29 (10 * s + i) v), M.2) := by
      intro v hv
      rw [k_X5_add_22 g hcr, cLtLT (N := 10) (by omega) (by omega), bif_t, hv, zbI_s, ix10, zbT (by omega) (by omega), bif_t, zx_nI (by omega), nI_s1]
    have hv : X_X3_get g [.ref c, .int (nI i), .int 6] M = some (some (.int (if i < n then M.1 r (7 * i + 6) else -1)), M) := by
      by_cases hin : i < n
      · rw [if_pos hin]
        exact getX g hcr (k := 6) (kk := 6) hn hc hin (by omega) rfl rfl
      · rw [if_neg hin]
        exact getXf g hcr hn hc (by omega) (by omega) rfl
    obtain ⟨I1, q1, q2, q3, q4⟩ := ih (i + 1) ((zu M.1 29 (10 * s + i) (if i < n then M.1 r (7 * i + 6) else -1)), M.2) (by dsimp only; rw [zu_ne hc29.1]; exact hc) (by omega)
    dsimp only at q1 q2 q3 q4
    rw [zu_ne hc29.1] at q1
    refine ⟨I1, (key _ hv).trans q1, ?_, ?_, ?_⟩
    · intro a ha
      rw [q2 a ha, zu_ne ha]
    · intro t h1 h2
      by_cases e : t = i
      · subst e
        rw [q4 _ (by omega), zu_eq]
      · rw [q3 t (by omega) h2, zu_ne hc29.2]
    · intro j hj
      rw [q4 j (by omega), zu_ne2 (by omega)]
/-- the class records a morning -/
theorem add_s' (g : zg) {c r n rr q : Nat} (hcr : CO c r) {M : zM} (hn : n ≤ 10) (hc : M.1 c 2 = nI n) (hr : M.1 c 12 = nI rr) (hrr : rr < 1000000) (hq : q ≤ 99) (eq : M.1 c 4 = nI q) : ∃ I', X_X5_add g [.ref 27, .ref c] M = some (none, (I', M.2)) ∧ (∀ a, a ≠ c → a ≠ 28 → a ≠ 29 → I' a = M.1 a) ∧ (∀ k, k ≠ 12 → I' c k = M.1 c k) ∧ I' c 12 = nI (rr + 1) ∧ I' 28 = upd1 (M.1 28) (rr % 96) (nI (q / 20)) ∧ (∀ t, t < 10 → I' 29 (10 * (rr % 96) + t) = if t < n then M.1 r (7 * t + 6) else -1) ∧ ∀ j, (j < 10 * (rr % 96) ∨ 10 * (rr % 96) + 10 ≤ j) → I' 29 j = M.1 29 j := by
  have hs : rr % 96 < 96 := Nat.mod_lt _ (by omega)
  have hc28 : c ≠ 28 ∧ r ≠ 28 ∧ c ≠ 29 := by rcases hcr with ⟨rfl, rfl⟩ | ⟨rfl, rfl⟩ <;> omega
  obtain ⟨I1, q1, q2, q3, q4⟩ := add_22 g hcr hn hs 10 0 ((zu M.1 28 (rr % 96) (nI (q / 20))), M.2) (by dsimp only; rw [zu_ne hc28.1]; exact hc) (by omega)
  dsimp only at q1 q2 q3 q4
  rw [zu_ne hc28.1, hr, nI_s1] at q1
  refine ⟨zu I1 c 12 (nI (rr + 1)), ?_, ?_, ?_, zu_eq, ?_, ?_, ?_⟩
  · rw [k_X5_add_0 g hcr, hr, floorMod_s g (a := rr) (d := 96) (y := 96) (by omega) (by omega) (by omega) rfl rfl, zbI_s, kindX g hcr, zbI_s, eq, zbT hs (by omega), bif_t, zx_nI (by omega), show nI q / 20 = nI (q / 20) from idiv_nI (d := 20) (by omega) (by omega) (by omega)]
    exact q1
  · intro a h1 h2 h3
    rw [zu_ne h1, q2 a h3, zu_ne h2]
  · intro k hk
    rw [zu_ne2 hk, q2 c hc28.2.2, zu_ne hc28.1]
  · rw [zu_ne hc28.1.symm, q2 28 (by omega), zu_upd]
  · intro t ht
    rw [zu_ne hc28.2.2.symm, q3 t (by omega) ht, zu_ne hc28.2.1]
  · intro j hj
    rw [zu_ne hc28.2.2.symm, q4 j (by omega), zu_ne (by omega)]
