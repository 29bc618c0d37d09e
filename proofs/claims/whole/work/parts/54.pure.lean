/-! PURE ROWS: wins, weighs on both sides -/
theorem all_same {n : Nat} {fe rn : Nat → Int32} (hn : n ≤ 10) : wsN (voC fe rn n) 1023 = wsF (voR fe) (hereN rn n) n 0 := by
  have hb := seF_set (p := fun t => cEq0 (rn (38 + t))) hn
  rw [← vo_and hn, ← vo_same (fe := fe) (rn := rn) hn (fun t h => h)]
  congr 1
  apply bt_ext
  intro t
  rw [and_bt]
  unfold hereN
  by_cases ht : t < 10
  · have : ∀ t : Fin 10, bt10 1023 t.val = true := by decide +kernel
    rw [this ⟨t, ht⟩, Bool.true_and]
  · rw [bt_big (k := 10) hb.2.1 (by omega), Bool.and_false]
/-- the answer of wins -/
def wnA (fe rn : Nat → Int32) (n : Nat) (a : Int32) : Int32 := bif inb a 0 1 then (match wiF (fun s => decide (wsN (voC fe rn n) 1023 < 2 * wsN (voC fe rn n) s)) 1023 1 none with
  | none => -1
  | some u => bif cEq a 1 then nI u else nI (pcN u)) else -1
theorem wiF_b {P : Nat → Bool} (f : Nat) : ∀ (s : Nat) (b : Option Nat), (∀ u, b = some u → u < s + f) → ∀ u, wiF P f s b = some u → u < s + f := by
  induction f with
  | zero => intro s b h u e; exact h u e
  | succ f ih =>
    intro s b h u e
    have h3 := ih (s + 1) _ (by
      intro v hv
      split at hv
      · cases hv; omega
      · have := h v hv; omega) u e
    omega
theorem winnersC_s (g : zg) (h2 : g.2 = true) {n d : Nat} {J : zI} {M : zM} (hc : CRJ n 7 8 M.1 J) (hr : RG n d (J 73) (J 76) (J 77)) : ∃ I', X_X2_winners g [.ref 240, .ref 7] M = some (some (.int (bI (wiF (fun s => decide (wsN (voC (J 77) (J 73) n) 1023 < 2 * wsN (voC (J 77) (J 73) n) s)) 1023 1 none))), (I', M.2)) ∧ ∀ a, a ≠ 241 → I' a = M.1 a := by
  obtain ⟨I', q1, q2, q3⟩ := countVotes_s g h2 hc hr
  refine ⟨I', ?_, q2⟩
  rw [x_X2_winners_0 g h2, q1, zbI_s]
  exact win_11 g h2 (M := (I', M.2)) (voC_le _ _ _) (wsF_le (voC_le _ _ _) 10 0) q3 1023 1 none (by omega) (fun u e => by cases e)
theorem winM_21 (g : zg) {n d : Nat} {a : Int32} {N : zM} (hn : n ≤ 10) (hm : N.1 72 6 = nI n) (hr : RG n d (N.1 73) (N.1 76) (N.1 77)) (f : Nat) : ∀ (s : Nat) (b : Option Nat), s + f = 2 ^ n → (∀ u, b = some u → u < 1024) → zX (t_X12_wins g) 21 [some (.ref 72), some (.int a), some (.int (bI b)), some (.int (nI s))] [] N = zX (t_X12_wins g) 21 [some (.ref 72), some (.int a), some (.int (bI (wiF (fun s => decide (dif s (hereN (N.1 73) n) = 0) && decide (wsF (voR (N.1 77)) (hereN (N.1 73) n) n 0 < 2 * wsF (voR (N.1 77)) s n 0)) f s b))), some (.int (nI (2 ^ n)))] [] N := by
  have h2n : 2 ^ n ≤ 1024 := Nat.pow_le_pow_right (n := 2) (by omega) hn
  induction f with
  | zero => intro s b hs _; rw [show s = 2 ^ n by omega]; rfl
  | succ f ih =>
    intro s b hs hb
    have hd := dif_lt (a := s) (b := hereN (N.1 73) n) (by omega)
    rw [e_X12_wins_21, hm, one_sh (by omega), cLtT (by omega) (by omega), bif_t, here_s g hn hm, zbI_s, dif_s, cEq0_nI (by omega), nI_s1]
    have stp : wiF (fun s => decide (dif s (hereN (N.1 73) n) = 0) && decide (wsF (voR (N.1 77)) (hereN (N.1 73) n) n 0 < 2 * wsF (voR (N.1 77)) s n 0)) (f + 1) s b = wiF (fun s => decide (dif s (hereN (N.1 73) n) = 0) && decide (wsF (voR (N.1 77)) (hereN (N.1 73) n) n 0 < 2 * wsF (voR (N.1 77)) s n 0)) f (s + 1) (if (decide (dif s (hereN (N.1 73) n) = 0) && decide (wsF (voR (N.1 77)) (hereN (N.1 73) n) n 0 < 2 * wsF (voR (N.1 77)) s n 0)) = true ∧ (∀ u, b = some u → pcN s < pcN u) then some s else b) := rfl
    rw [stp]
    cases hP : decide (dif s (hereN (N.1 73) n) = 0)
    · rw [bif_f, if_neg (by simp), ih (s + 1) b (by omega) hb]
    · rw [bif_t, Bool.true_and]
      have hdw := doesWin_s g hn hm hr (s := s) (by omega)
      cases b with
      | none =>
        rw [show cEq (bI none) (-1) = true from by decide, bif_t, hdw, zbI_s, cEq0_b01]
        cases hQ : decide (wsF (voR (N.1 77)) (hereN (N.1 73) n) n 0 < 2 * wsF (voR (N.1 77)) s n 0)
        · rw [Bool.not_false, bif_t, if_neg (by simp)]
          exact ih (s + 1) none (by omega) hb
        · rw [Bool.not_true, bif_f, if_pos ⟨rfl, fun u e => by cases e⟩]
          exact ih (s + 1) (some s) (by omega) (fun u e => by cases e; omega)
      | some u =>
        have hu := hb u rfl
        have hpc : ∀ x, pcN x ≤ 10 := by intro x; unfold pcN; omega
        have p1 := hpc s
        have p2 := hpc u
        have eb : bI (some u) = nI u := rfl
        rw [cEq_n (bI_ne (by omega)), bif_f, ones_s g (by omega), zbI_s, eb, ones_s g hu, zbI_s]
        by_cases hq : pcN s < pcN u
        · rw [cLtT hq (by omega), bif_t, hdw, zbI_s, cEq0_b01]
          cases hQ : decide (wsF (voR (N.1 77)) (hereN (N.1 73) n) n 0 < 2 * wsF (voR (N.1 77)) s n 0)
          · rw [Bool.not_false, bif_t, if_neg (by simp)]
            exact ih (s + 1) (some u) (by omega) hb
          · rw [Bool.not_true, bif_f, if_pos ⟨rfl, fun v e => by cases e; exact hq⟩]
            exact ih (s + 1) (some s) (by omega) (fun u e => by cases e; omega)
        · rw [cLtF (by omega) (by omega), bif_f, if_neg (fun h => hq (h.2 u rfl))]
          exact ih (s + 1) (some u) (by omega) hb
/-- both find the same winners -/
theorem win_same {n : Nat} {fe rn : Nat → Int32} (hn : n ≤ 10) : wiF (fun s => decide (dif s (hereN rn n) = 0) && decide (wsF (voR fe) (hereN rn n) n 0 < 2 * wsF (voR fe) s n 0)) (2 ^ n) 0 none = wiF (fun s => decide (wsN (voC fe rn n) 1023 < 2 * wsN (voC fe rn n) s)) 1023 1 none := by
  have hb := seF_set (p := fun t => cEq0 (rn (38 + t))) hn
  have h2n : 2 ^ n ≤ 1024 := Nat.pow_le_pow_right (n := 2) (by omega) hn
  have hC : wiOk (fun s => decide (wsN (voC fe rn n) 1023 < 2 * wsN (voC fe rn n) s)) 1 none := by
    refine ⟨fun u e => (by cases e), fun _ x hx => ?_⟩
    have : x = 0 := by omega
    subst this
    have e0 : wsN (voC fe rn n) 0 = 0 := by
      have e1 := vo_and (n := n) (s := 0) (fe := fe) (rn := rn) hn
      have : ∀ f t, wsF (voC fe rn n) 0 f t = 0 := by
        intro f
        induction f with
        | zero => intro t; rfl
        | succ f ih =>
          intro t
          show (if bt10 0 t = true then _ else 0) + wsF (voC fe rn n) 0 f (t + 1) = 0
          rw [ih, bt_big (a := 0) (k := 0) (by omega) (by omega)]
          rfl
      exact this 10 0
    show decide (wsN (voC fe rn n) 1023 < 2 * wsN (voC fe rn n) 0) = false
    rw [e0]
    exact decide_eq_false (by omega)
  have h1 := wiF_ok 1023 1 none hC
  have h0 : wiOk (fun s => decide (dif s (hereN rn n) = 0) && decide (wsF (voR fe) (hereN rn n) n 0 < 2 * wsF (voR fe) s n 0)) 0 none := ⟨fun u e => (by cases e), fun _ x hx => absurd hx (by omega)⟩
  have h3 := wiF_ok (2 ^ n) 0 none h0
  rw [Nat.zero_add] at h3
  refine wiOk_uniq h3 (wi_same h1 (by omega) ?_ ?_)
  · intro x hx hq
    simp only [Bool.and_eq_true, decide_eq_true_eq] at hq ⊢
    rw [all_same hn, vo_same hn (dif_0.mp hq.1)]
    exact hq.2
  · intro x hx hp
    simp only [decide_eq_true_eq] at hp
    have hsub : ∀ t, bt10 (x &&& hereN rn n) t = true → bt10 (hereN rn n) t = true := by
      intro t ht
      rw [and_bt] at ht
      exact (Bool.and_eq_true _ _ ▸ ht).2
    have hsub2 : ∀ t, bt10 (x &&& hereN rn n) t = true → bt10 x t = true := by
      intro t ht
      rw [and_bt] at ht
      exact (Bool.and_eq_true _ _ ▸ ht).1
    have hlt : x &&& hereN rn n < 2 ^ n := Nat.lt_of_le_of_lt Nat.and_le_right hb.1
    refine ⟨x &&& hereN rn n, hlt, ?_, pc_sub (by omega) (by omega) hsub2⟩
    simp only [Bool.and_eq_true, decide_eq_true_eq]
    refine ⟨dif_0.mpr hsub, ?_⟩
    rw [← all_same hn, ← vo_same hn hsub, vo_and hn]
    exact hp
theorem winsM_s (g : zg) (a : Int32) {n d : Nat} {N : zM} (hn : n ≤ 10) (hm : N.1 72 6 = nI n) (hr : RG n d (N.1 73) (N.1 76) (N.1 77)) : X_X12_wins g [.ref 72, .int a] N = some (some (.int (wnA (N.1 77) (N.1 73) n a)), ((zu N.1 72 0 0), N.2)) := by
  unfold wnA
  rw [x_X12_wins_0, isIn_s, zbI_s, cEq0_b01]
  cases hi : inb a 0 1
  · rfl
  · have h2n : 2 ^ n ≤ 1024 := Nat.pow_le_pow_right (n := 2) (by omega) hn
    have hm' : (((zu N.1 72 0 0), N.2) : zM).1 72 6 = nI n := by dsimp only; rw [zu_ne2 (by omega)]; exact hm
    have hr' : RG n d ((((zu N.1 72 0 0), N.2) : zM).1 73) ((((zu N.1 72 0 0), N.2) : zM).1 76) ((((zu N.1 72 0 0), N.2) : zM).1 77) := by dsimp only; rw [zu_ne (by omega), zu_ne (by omega), zu_ne (by omega)]; exact hr
    have e := winM_21 g (a := a) hn hm' hr' (2 ^ n) 0 none (by omega) (fun u e => by cases e)
    dsimp only at e
    rw [win_same hn] at e
    simp only [zu_ne (show 73 ≠ 72 by omega), zu_ne (show 77 ≠ 72 by omega)] at e
    rw [Bool.not_true, bif_f, show zX (t_X12_wins g) 21 [some (.ref 72), some (.int a), some (.int (-1)), some (.int 0)] [] ((zu N.1 72 0 0), N.2) = _ from e, e_X12_wins_21]
    dsimp only
    rw [zu_ne2 (show 6 ≠ 0 by omega), hm, one_sh (by omega), cLtF (Nat.le_refl _) (by omega), bif_f, bif_t]
    have hlt := wiF_b (P := fun s => decide (wsN (voC (N.1 77) (N.1 73) n) 1023 < 2 * wsN (voC (N.1 77) (N.1 73) n) s)) 1023 1 none (fun u e => by cases e)
    generalize wiF (fun s => decide (wsN (voC (N.1 77) (N.1 73) n) 1023 < 2 * wsN (voC (N.1 77) (N.1 73) n) s)) 1023 1 none = b at hlt
    cases b with
    | none => rfl
    | some u =>
      have hu := hlt u rfl
      have eb : bI (some u) = nI u := rfl
      rw [cEq_n (bI_ne (by omega)), bif_f, eb, ones_s g (by omega), zbI_s, bif_push]
/-- what wins does with the council's answer -/
theorem winsC_end (g : zg) (a : Int32) {fe rn : Nat → Int32} {n : Nat} {M : zM} (hi : inb a 0 1 = true) : (bif cEq (bI (wiF (fun s => decide (wsN (voC fe rn n) 1023 < 2 * wsN (voC fe rn n) s)) 1023 1 none)) (-1) then some (some (.int (bI (wiF (fun s => decide (wsN (voC fe rn n) 1023 < 2 * wsN (voC fe rn n) s)) 1023 1 none))), M) else (bif cEq a 1 then some (some (.int (bI (wiF (fun s => decide (wsN (voC fe rn n) 1023 < 2 * wsN (voC fe rn n) s)) 1023 1 none))), M) else (zbI (X_J6_bitCount_0f7a4 g [.int (bI (wiF (fun s => decide (wsN (voC fe rn n) 1023 < 2 * wsN (voC fe rn n) s)) 1023 1 none))] M) (fun x2 M2 => (some (some (Value.int x2), M2) : Option (Option Value × zM)))))) = some (some (.int (wnA fe rn n a)), M) := by
  unfold wnA
  rw [hi, bif_t]
  have hlt := wiF_b (P := fun s => decide (wsN (voC fe rn n) 1023 < 2 * wsN (voC fe rn n) s)) 1023 1 none (fun u e => by cases e)
  generalize wiF (fun s => decide (wsN (voC fe rn n) 1023 < 2 * wsN (voC fe rn n) s)) 1023 1 none = b at hlt
  cases b with
  | none => rfl
  | some u =>
    have hu := hlt u rfl
    have eb : bI (some u) = nI u := rfl
    rw [cEq_n (bI_ne (by omega)), bif_f, eb, bitCount_s g (by omega), zbI_s, bif_push]
theorem cntF_add (p : Nat → Bool) (f m : Nat) : ∀ i, cntF p (f + m) i = cntF p f i + cntF p m (i + f) := by
  induction f with
  | zero => intro i; rw [Nat.zero_add, Nat.add_zero]; show _ = 0 + _; rw [Nat.zero_add]
  | succ f ih =>
    intro i
    rw [show f + 1 + m = f + m + 1 by omega, cntF_s, cntF_s, ih (i + 1), show i + 1 + f = i + (f + 1) by omega, Nat.add_assoc]
theorem cntF_zero {p : Nat → Bool} (f : Nat) : ∀ i, (∀ j, i ≤ j → j < i + f → p j = false) → cntF p f i = 0 := by
  induction f with
  | zero => intro i _; rfl
  | succ f ih =>
    intro i h
    rw [cntF_s, h i (Nat.le_refl i) (by omega), ih (i + 1) (fun j h1 h2 => h j (by omega) (by omega))]
    rfl
theorem cntF_ext {p q : Nat → Bool} (f : Nat) : ∀ i, (∀ j, i ≤ j → j < i + f → p j = q j) → cntF p f i = cntF q f i := by
  induction f with
  | zero => intro i _; rfl
  | succ f ih =>
    intro i h
    rw [cntF_s, cntF_s, h i (Nat.le_refl i) (by omega), ih (i + 1) (fun j h1 h2 => h j (by omega) (by omega))]
/-- does it weigh here that t comes -/
def wgP (fe rn : Nat → Int32) (n t s : Nat) : Bool := decide (dif s (dif (hereN rn n) (2 ^ t)) = 0) && (!decide (wsN (voC fe rn n) 1023 < 2 * wsN (voC fe rn n) s) && decide (wsN (voC fe rn n) 1023 < 2 * (wsN (voC fe rn n) s + voC fe rn n t)))
theorem wg_31 (g : zg) (h2 : g.2 = true) {n t : Nat} {fe rn : Nat → Int32} {M : zM} (hn : n ≤ 10) (ht : ∀ x, x < 1024 → M.1 241 x = nI (wsN (voC fe rn n) x)) (f : Nat) : ∀ s c, s + f = 1024 → zX (t_X2_weightOf g) 31 [some (.ref 240), none, none, some (.int (nI (wsN (voC fe rn n) 1023))), some (.int (nI (voC fe rn n t))), some (.int (nI (dif (hereN rn n) (2 ^ t)))), some (.int (nI c)), some (.int (nI s))] [] M = some (some (.int (nI (c + cntF (wgP fe rn n t) f s))), M) := by
  have hal : wsN (voC fe rn n) 1023 ≤ 10 * 10 := wsF_le (voC_le _ _ _) 10 0
  have hv := voC_le fe rn n t
  induction f with
  | zero =>
    intro s c hs
    rw [e_X2_weightOf_31 g h2, cLtLF (N := 1024) (by omega) (by omega), bif_f]
    rfl
  | succ f ih =>
    intro s c hs
    have hle : wsN (voC fe rn n) s ≤ 10 * 10 := wsF_le (voC_le _ _ _) 10 0
    have hd := dif_lt (a := s) (b := dif (hereN rn n) (2 ^ t)) (by omega)
    rw [e_X2_weightOf_31 g h2, cLtLT (N := 1024) (by omega) (by omega), bif_t, dif_s, cEq0_nI (by omega), zbT (by omega) (by omega), bif_t, bif_t, zx_nI (by omega), ht s (by omega), ix2, nI_ad2, ix2, cGt_nI (by omega) (by omega), cGt_nI (by omega) (by omega), nI_s1, nI_s1, cntF_s]
    unfold wgP
    cases decide (dif s (dif (hereN rn n) (2 ^ t)) = 0)
    · rw [bif_f, ih (s + 1) c (by omega)]
      unfold wgP
      simp
    · rw [bif_t]
      cases decide (wsN (voC fe rn n) 1023 < 2 * wsN (voC fe rn n) s)
      · rw [bif_f]
        cases decide (wsN (voC fe rn n) 1023 < 2 * (wsN (voC fe rn n) s + voC fe rn n t))
        · rw [bif_f, ih (s + 1) c (by omega)]
          unfold wgP
          simp
        · rw [bif_t, ih (s + 1) (c + 1) (by omega)]
          unfold wgP
          simp [Nat.add_assoc]
      · rw [bif_t, ih (s + 1) c (by omega)]
        unfold wgP
        simp
def wgA (fe rn : Nat → Int32) (n t : Nat) : Nat := cntF (wgP fe rn n t) 1024 0
theorem weightC_s (g : zg) (h2 : g.2 = true) {n d t : Nat} {J : zI} {M : zM} (hc : CRJ n 7 8 M.1 J) (hr : RG n d (J 73) (J 76) (J 77)) (ht : t < n) : ∃ I', X_X2_weightOf g [.ref 240, .ref 7, .int (nI t)] M = some (some (.int (nI (wgA (J 77) (J 73) n t))), (I', M.2)) ∧ ∀ a, a ≠ 241 → I' a = M.1 a := by
  obtain ⟨hn, _⟩ := CR_f hc
  obtain ⟨I', q1, q2, q3⟩ := countVotes_s g h2 hc hr
  have hc' : CRJ n 7 8 I' J := by
    unfold CRJ
    rw [q2 7 (by omega), q2 8 (by omega)]
    exact hc
  refine ⟨I', ?_, q2⟩
  have e := wg_31 g h2 (t := t) (fe := J 77) (rn := J 73) (M := (I', M.2)) hn q3 1024 0 0 (by omega)
  rw [Nat.zero_add] at e
  rw [x_X2_weightOf_0 g h2, q1, zbI_s, votesC_s g (M := (I', M.2)) hc' hr (by omega), zbI_s, servSet_s g (M := (I', M.2)) hc', zbI_s, one_sh (by omega), dif_s]
  exact e
