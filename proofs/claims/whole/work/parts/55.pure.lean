/-! PURE ROWS: weighs, the reference -/
theorem p2_bt {t k : Nat} (ht : t < 10) : bt10 (2 ^ t) k = decide (k = t) := by
  by_cases hk : k < 10
  · have := pow_bits ⟨t, ht⟩ ⟨k, hk⟩
    exact this
  · rw [bt_big (k := 10) (by have := (p2_lt ht).1; omega) (by omega), decide_eq_false (by omega)]
theorem wsF_ins {w : Nat → Nat} {s t : Nat} (ht : t < 10) (hs : bt10 s t = false) (f : Nat) : ∀ k, wsF w (s ||| 2 ^ t) f k = wsF w s f k + (if k ≤ t ∧ t < k + f then w t else 0) := by
  induction f with
  | zero => intro k; rw [if_neg (by omega)]; rfl
  | succ f ih =>
    intro k
    show (if bt10 (s ||| 2 ^ t) k = true then w k else 0) + wsF w (s ||| 2 ^ t) f (k + 1) = (if bt10 s k = true then w k else 0) + wsF w s f (k + 1) + _
    rw [ih (k + 1), or_bt, p2_bt ht]
    by_cases e : k = t
    · subst e
      rw [decide_eq_true rfl, Bool.or_true, if_pos rfl, hs, if_neg (show ¬ false = true by decide), if_neg (show ¬ (k + 1 ≤ k ∧ k < k + 1 + f) by omega), if_pos (show k ≤ k ∧ k < k + (f + 1) by omega)]
      omega
    · rw [decide_eq_false e, Bool.or_false]
      by_cases e2 : k + 1 ≤ t ∧ t < k + 1 + f
      · rw [if_pos e2, if_pos (show k ≤ t ∧ t < k + (f + 1) by omega)]
        omega
      · rw [if_neg e2, if_neg (show ¬ (k ≤ t ∧ t < k + (f + 1)) by omega)]
        omega
theorem wsN_ins {w : Nat → Nat} {s t : Nat} (ht : t < 10) (hs : bt10 s t = false) : wsN w (s ||| 2 ^ t) = wsN w s + w t := by
  unfold wsN
  rw [wsF_ins ht hs 10 0, if_pos (by omega)]
def wgM (fe rn : Nat → Int32) (n t s : Nat) : Bool := decide (dif s (dif (hereN rn n) (2 ^ t)) = 0) && (!decide (wsF (voR fe) (hereN rn n) n 0 < 2 * wsF (voR fe) s n 0) && decide (wsF (voR fe) (hereN rn n) n 0 < 2 * wsF (voR fe) (s ||| 2 ^ t) n 0))
theorem or_lt {a b : Nat} (ha : a < 1024) (hb : b < 1024) : a ||| b < 1024 := Nat.or_lt_two_pow (n := 10) ha hb
theorem wgM_41 (g : zg) {n d t : Nat} {N : zM} (hn : n ≤ 10) (hm : N.1 72 6 = nI n) (hr : RG n d (N.1 73) (N.1 76) (N.1 77)) (ht : t < n) (f : Nat) : ∀ s c, s + f = dif (hereN (N.1 73) n) (2 ^ t) + 1 → zX (t_X12_weighs g) 41 [some (.ref 72), some (.int (nI t)), some (.int (nI c)), some (.int (nI (dif (hereN (N.1 73) n) (2 ^ t)))), some (.int (nI s))] [] N = some (some (.int (nI (c + cntF (wgM (N.1 77) (N.1 73) n t) f s))), N) := by
  have hb := seF_set (p := fun t => cEq0 (N.1 73 (38 + t))) hn
  have ho : dif (hereN (N.1 73) n) (2 ^ t) < 1024 := dif_lt hb.2.1
  induction f with
  | zero =>
    intro s c hs
    rw [e_X12_weighs_41, cGt_nI (by omega) (by omega), decide_eq_true (by omega), bif_t]
    rfl
  | succ f ih =>
    intro s c hs
    have hd := dif_lt (a := s) (b := dif (hereN (N.1 73) n) (2 ^ t)) (by omega)
    have hp := p2_lt (t := t) (by omega)
    have hor := or_lt (a := s) (b := 2 ^ t) (by omega) hp.1
    rw [e_X12_weighs_41, cGt_nI (by omega) (by omega), decide_eq_false (by omega), bif_f, dif_s, cEq0_nI (by omega), doesWin_s g hn hm hr (by omega), zbI_s, one_sh (by omega), nI_or, doesWin_s g hn hm hr hor, zbI_s, cEq0_b01, cEq0_b01, nI_s1, nI_s1, cntF_s]
    unfold wgM
    cases decide (dif s (dif (hereN (N.1 73) n) (2 ^ t)) = 0)
    · rw [bif_f, ih (s + 1) c (by omega)]
      unfold wgM
      simp
    · rw [bif_t]
      cases decide (wsF (voR (N.1 77)) (hereN (N.1 73) n) n 0 < 2 * wsF (voR (N.1 77)) s n 0)
      · rw [Bool.not_false, bif_t]
        cases decide (wsF (voR (N.1 77)) (hereN (N.1 73) n) n 0 < 2 * wsF (voR (N.1 77)) (s ||| 2 ^ t) n 0)
        · rw [Bool.not_false, bif_t, ih (s + 1) c (by omega)]
          unfold wgM
          simp
        · rw [Bool.not_true, bif_f, ih (s + 1) (c + 1) (by omega)]
          unfold wgM
          simp [Nat.add_assoc]
      · rw [Bool.not_true, bif_f, ih (s + 1) c (by omega)]
        unfold wgM
        simp
theorem wg_same {n t : Nat} {fe rn : Nat → Int32} (hn : n ≤ 10) (ht : t < n) (hh : cEq0 (rn (38 + t)) = true) : cntF (wgM fe rn n t) (dif (hereN rn n) (2 ^ t) + 1) 0 = wgA fe rn n t := by
  have hb := seF_set (p := fun t => cEq0 (rn (38 + t))) hn
  have ho : dif (hereN rn n) (2 ^ t) < 1024 := dif_lt hb.2.1
  unfold wgA
  have e1 := cntF_add (wgP fe rn n t) (dif (hereN rn n) (2 ^ t) + 1) (1023 - dif (hereN rn n) (2 ^ t)) 0
  rw [show dif (hereN rn n) (2 ^ t) + 1 + (1023 - dif (hereN rn n) (2 ^ t)) = 1024 by omega] at e1
  rw [e1, cntF_zero (p := wgP fe rn n t) (1023 - dif (hereN rn n) (2 ^ t)) (0 + (dif (hereN rn n) (2 ^ t) + 1)) (by
    intro j h1 h2
    unfold wgP
    rw [decide_eq_false (by
      intro h
      have := sub_le (dif_0.mp h)
      omega)]
    rfl), Nat.add_zero]
  apply cntF_ext
  intro s h1 h2
  unfold wgM wgP
  by_cases hd : dif s (dif (hereN rn n) (2 ^ t)) = 0
  · have hsub := dif_0.mp hd
    have hsh : ∀ k, bt10 s k = true → bt10 (hereN rn n) k = true := by
      intro k hk
      have := hsub k hk
      rw [dif_bt] at this
      exact (Bool.and_eq_true _ _ ▸ this).1
    have hst : bt10 s t = false := by
      cases h : bt10 s t with
      | false => rfl
      | true =>
        have := hsub t h
        rw [dif_bt, p2_bt (by omega), decide_eq_true rfl, Bool.not_true, Bool.and_false] at this
        cases this
    have hso : ∀ k, bt10 (s ||| 2 ^ t) k = true → bt10 (hereN rn n) k = true := by
      intro k hk
      rw [or_bt, p2_bt (by omega)] at hk
      by_cases e : k = t
      · subst e
        unfold hereN
        rw [hb.2.2 k, decide_eq_true ht, hh]
        rfl
      · rw [decide_eq_false e, Bool.or_false] at hk
        exact hsh k hk
    rw [← all_same hn, ← vo_same hn hsh, ← vo_same hn hso, wsN_ins (by omega) hst]
  · rw [decide_eq_false hd]
    rfl
theorem wgA_0 {n t : Nat} {fe rn : Nat → Int32} (hh : cEq0 (rn (38 + t)) = false) : wgA fe rn n t = 0 := by
  unfold wgA
  apply cntF_zero
  intro s _ _
  unfold wgP
  have : voC fe rn n t = 0 := by
    unfold voC
    rw [if_neg (by rw [hh]; simp)]
  rw [this, Nat.add_zero]
  cases decide (wsN (voC fe rn n) 1023 < 2 * wsN (voC fe rn n) s) <;> simp
/-- the answer of weighs -/
def wghA (fe rn : Nat → Int32) (n : Nat) (a : Int32) : Int32 := bif hsB (nI n) a then nI (wgA fe rn n (zx a)) else -1
theorem weighsM_s (g : zg) (a : Int32) {n d : Nat} {N : zM} (hn : n ≤ 10) (hm : N.1 72 6 = nI n) (hr : RG n d (N.1 73) (N.1 76) (N.1 77)) : X_X12_weighs g [.ref 72, .int a] N = some (some (.int (wghA (N.1 77) (N.1 73) n a)), ((zu N.1 72 0 0), N.2)) := by
  have hm' : (((zu N.1 72 0 0), N.2) : zM).1 72 6 = nI n := by dsimp only; rw [zu_ne2 (by omega)]; exact hm
  have hr' : RG n d ((((zu N.1 72 0 0), N.2) : zM).1 73) ((((zu N.1 72 0 0), N.2) : zM).1 76) ((((zu N.1 72 0 0), N.2) : zM).1 77) := by dsimp only; rw [zu_ne (by omega), zu_ne (by omega), zu_ne (by omega)]; exact hr
  have hb := seF_set (p := fun t => cEq0 (N.1 73 (38 + t))) hn
  unfold wghA
  rw [x_X12_weighs_0, isT_s, zbI_s, cEq0_b01, hm']
  cases ha : hsB (nI n) a
  · rfl
  · obtain ⟨t, ht, rfl⟩ := hsB_ex hn ha
    rw [Bool.not_true, bif_f, isHereN g (by omega), zbI_s, cEq0_b01, zx_nI (by omega), bif_t]
    dsimp only
    rw [zu_ne (show 73 ≠ 72 by omega)]
    cases hE : cEq0 (N.1 73 (38 + t))
    · rw [wgA_0 hE]
      rfl
    · have e := wgM_41 g (t := t) hn hm' hr' ht (dif (hereN (N.1 73) n) (2 ^ t) + 1) 0 0 (by dsimp only; rw [zu_ne (by omega)]; omega)
      dsimp only at e
      simp only [zu_ne (show 73 ≠ 72 by omega), zu_ne (show 77 ≠ 72 by omega)] at e
      rw [wg_same hn ht hE, Nat.zero_add] at e
      have eh := here_s g (N := ((zu N.1 72 0 0), N.2)) hn hm'
      dsimp only at eh
      rw [zu_ne (show 73 ≠ 72 by omega)] at eh
      rw [Bool.not_true, bif_f, eh, zbI_s, one_sh (by omega), dif_s]
      exact e
