/-! PURE ROWS: surest -/
theorem rgt_le (cd ca : Nat → Nat) (r t : Nat) : rgtN cd ca r t ≤ 90 := Nat.le_trans (cntF_le _ _ _) (Nat.min_le_right r 90)
theorem dys_le (cd : Nat → Nat) (r t : Nat) : dysN cd r t ≤ 90 := Nat.le_trans (cntF_le _ _ _) (Nat.min_le_right r 90)
theorem nI_mul (a b : Nat) : nI a * nI b = nI (a * b) := by
  unfold nI
  rw [← Int32.ofNat_mul]
theorem serving7_s (g : zg) {n t : Nat} {M : zM} (hn : n ≤ 10) (hc : M.1 7 2 = nI n) (ht : t < n) : X_X3_serving g [.ref 7, .int (nI t)] M = some (some (.int (b01 (cEq0 (M.1 8 (7 * t + 5))))), M) := by
  rw [x_X3_serving_0, has7_s, zbI_s, cEq0_b01, hc, hsB_nI hn ht, get7_s g hn hc ht (k := 5) (kk := 5) (by omega) rfl rfl, zbI_s]
  cases cEq0 (M.1 8 (7 * t + 5)) <;> rfl
theorem ix38 (d : Nat) : 38 + nI d = nI (38 + d) := by
  unfold nI
  rw [show (38 : Int32) = Int32.ofNat 38 from rfl, ← Int32.ofNat_add]
theorem isHere_s (g : zg) {t : Nat} {M : zM} (ht : t < 10) : X_X12_isHere g [.ref 72, .int (nI t)] M = some (some (.int (b01 (cEq0 (M.1 73 (38 + t))))), M) := by
  have hb : 38 + t < 148 := by omega
  rw [x_X12_isHere_0, ix38, zb_nI (by omega), decide_eq_true hb, bif_t, zx_nI (by omega)]
  cases cEq0 (M.1 73 (38 + t)) <;> rfl
theorem CR_row {n : Nat} {cf cr rn md so fe : Nat → Int32} (h : CR n cf cr rn md so fe) {t k : Nat} (ht : t < n) (hk : k < 7) : cr (7 * t + k) = rcell so fe rn t k := h.2.2.2.2.2.2.2.2.2.2.2.2.1 t ht k hk
theorem CR_gone {n : Nat} {cf cr rn md so fe : Nat → Int32} (h : CR n cf cr rn md so fe) {t : Nat} (ht : t < n) : cr (7 * t + 5) = rn (38 + t) := by
  rw [CR_row h ht (by omega)]
  show rn (38 + t) - 0 = rn (38 + t)
  exact Int32.sub_zero _
/-- the surest of the tellers from t on, b being the surest of those before -/
def sur (rg dy : Nat → Nat) (he : Nat → Bool) : Nat → Nat → Option Nat → Option Nat
  | 0, _, b => b
  | f + 1, t, b => sur rg dy he f (t + 1) (if (decide (dy t = 0) || !he t) then b else match b with
    | none => some t
    | some u => if rg u * dy t < rg t * dy u then some t else some u)
def bI : Option Nat → Int32
  | none => -1
  | some u => nI u
def bR (rg : Nat → Nat) : Option Nat → Int32
  | none => 0
  | some u => nI (rg u)
def bD (dy : Nat → Nat) : Option Nat → Int32
  | none => 1
  | some u => nI (dy u)
theorem surC_9 (g : zg) {n r : Nat} {cd ca : Nat → Nat} {rn : Nat → Int32} {M : zM} (hn : n ≤ 10) (hc : M.1 7 2 = nI n) (h : MR (M.1 28) (M.1 29) r cd ca rn) (hr : r < 2147483648) (h12 : M.1 7 12 = nI r) (f : Nat) : ∀ t b, t + f = n → (∀ u, b = some u → u < 10) → zX (t_X11_surest g) 9 [some (.ref 0), some (.int (bI b)), some (.int (bR (rgtN cd ca r) b)), some (.int (bD (dysN cd r) b)), some (.int (nI t)), none, none] [] M = some (some (.int (bI (sur (rgtN cd ca r) (dysN cd r) (fun t => cEq0 (M.1 8 (7 * t + 5))) f t b))), M) := by
  induction f with
  | zero =>
    intro t b ht hb
    rw [e_X11_surest_9, hc, cLt_nI (by omega) (by omega), decide_eq_false (by omega), bif_f]
    rfl
  | succ f ih =>
    intro t b ht hb
    have d1 := dys_le cd r t
    have r1 := rgt_le cd ca r t
    rw [e_X11_surest_9, hc, cLt_nI (by omega) (by omega), decide_eq_true (by omega), bif_t, toldDays_s g h hr h12 (by omega), zbI_s, serving7_s g hn hc (by omega), zbI_s, rightDays_s g h hr h12 (by omega), zbI_s, cEq0_nI (by omega), cEq0_b01, nI_s1]
    have e0 := ih (t + 1) b (by omega) hb
    have e1 := ih (t + 1) (some t) (by omega) (fun u hu => by cases hu; omega)
    unfold sur
    by_cases hd : dysN cd r t = 0
    · rw [decide_eq_true hd, bif_t, e0]
      simp
    · rw [decide_eq_false hd, bif_f]
      cases hh : cEq0 (M.1 8 (7 * t + 5))
      · simp only [Bool.not_false, bif_t, e0]
        simp
      · simp only [Bool.not_true, bif_f]
        cases b with
        | none =>
          rw [show cEq (bI none) (-1) = true from by decide, bif_t]
          exact e1
        | some u =>
          have d2 := dys_le cd r u
          have r2 := rgt_le cd ca r u
          have hu := hb u rfl
          have q1 : rgtN cd ca r t * dysN cd r u ≤ 90 * 90 := Nat.mul_le_mul r1 d2
          have q2 : rgtN cd ca r u * dysN cd r t ≤ 90 * 90 := Nat.mul_le_mul r2 d1
          have hq : cGt (nI (rgtN cd ca r t) * bD (dysN cd r) (some u)) (bR (rgtN cd ca r) (some u) * nI (dysN cd r t)) = decide (rgtN cd ca r u * dysN cd r t < rgtN cd ca r t * dysN cd r u) := by
            show cGt (nI (rgtN cd ca r t) * nI (dysN cd r u)) (nI (rgtN cd ca r u) * nI (dysN cd r t)) = _
            rw [nI_mul, nI_mul]
            exact cGt_nI (by omega) (by omega)
          rw [cEq_n (show ¬ bI (some u) = -1 from nI_ne1 (n := u) (by omega)), bif_f, hq]
          by_cases hl : rgtN cd ca r u * dysN cd r t < rgtN cd ca r t * dysN cd r u
          · rw [decide_eq_true hl, bif_t]
            simp only [Bool.or_false, if_false, if_pos hl, Bool.false_eq_true]
            exact e1
          · rw [decide_eq_false hl, bif_f, e0]
            simp only [Bool.or_false, if_false, if_neg hl, Bool.false_eq_true]
theorem surM_9 (g : zg) {n r : Nat} {cd ca : Nat → Nat} {cm sd : Nat → Int32} {M : zM} (hn : n ≤ 10) (hc : M.1 72 6 = nI n) (h : MR cm sd r cd ca (M.1 73)) (f : Nat) : ∀ t b, t + f = n → (∀ u, b = some u → u < 10) → zX (t_X12_surest g) 9 [some (.ref 72), some (.int (bI b)), some (.int (nI t))] [] M = some (some (.int (bI (sur (rgtN cd ca r) (dysN cd r) (fun t => cEq0 (M.1 73 (38 + t))) f t b))), M) := by
  induction f with
  | zero =>
    intro t b ht hb
    rw [e_X12_surest_9, hc, cLt_nI (by omega) (by omega), decide_eq_false (by omega), bif_f]
    rfl
  | succ f ih =>
    intro t b ht hb
    have d1 := dys_le cd r t
    have r1 := rgt_le cd ca r t
    have e0 := ih (t + 1) b (by omega) hb
    have e1 := ih (t + 1) (some t) (by omega) (fun u hu => by cases hu; omega)
    rw [e_X12_surest_9, hc, cLt_nI (by omega) (by omega), decide_eq_true (by omega), bif_t, isHere_s g (by omega), zbI_s, cEq0_b01, nI_s1]
    unfold sur
    cases hh : cEq0 (M.1 73 (38 + t))
    · simp only [Bool.not_false, bif_t, e0]
      simp
    · simp only [Bool.not_true, bif_f]
      rw [daysOf_s g h (by omega), zbI_s, cGt0_nI (by omega)]
      by_cases hd : dysN cd r t = 0
      · rw [decide_eq_false (by omega), bif_f, e0]
        simp [hd]
      · rw [decide_eq_true (by omega), bif_t]
        cases b with
        | none =>
          rw [show cEq (bI none) (-1) = true from by decide, bif_t]
          simp only [decide_eq_false hd, Bool.or_false, Bool.false_eq_true, if_false]
          exact e1
        | some u =>
          have d2 := dys_le cd r u
          have r2 := rgt_le cd ca r u
          have hu := hb u rfl
          have q1 : rgtN cd ca r t * dysN cd r u ≤ 90 * 90 := Nat.mul_le_mul r1 d2
          have q2 : rgtN cd ca r u * dysN cd r t ≤ 90 * 90 := Nat.mul_le_mul r2 d1
          have c1 : X_X12_daysOf g [.ref 72, .int (bI (some u))] M = some (some (.int (nI (dysN cd r u))), M) := daysOf_s g h hu
          have c2 : X_X12_rightOf g [.ref 72, .int (bI (some u))] M = some (some (.int (nI (rgtN cd ca r u))), M) := rightOf_s g h hu
          rw [cEq_n (show ¬ bI (some u) = -1 from nI_ne1 (n := u) (by omega)), bif_f, rightOf_s g h (by omega), zbI_s, c1, zbI_s, c2, zbI_s, daysOf_s g h (by omega), zbI_s, nI_mul, nI_mul, cGt_nI (by omega) (by omega)]
          simp only [decide_eq_false hd, Bool.or_false, Bool.false_eq_true, if_false]
          by_cases hl : rgtN cd ca r u * dysN cd r t < rgtN cd ca r t * dysN cd r u
          · rw [decide_eq_true hl, bif_t, if_pos hl]
            exact e1
          · rw [decide_eq_false hl, bif_f, if_neg hl]
            exact e0
theorem sur_alike {rg dy : Nat → Nat} {he he' : Nat → Bool} (n f : Nat) : ∀ t b, t + f = n → (∀ t, t < n → he t = he' t) → sur rg dy he f t b = sur rg dy he' f t b := by
  induction f with
  | zero => intro t b _ _; rfl
  | succ f ih =>
    intro t b ht h
    unfold sur
    rw [h t (by omega), ih (t + 1) _ (by omega) h]
theorem surC_s (g : zg) {n r : Nat} {cd ca : Nat → Nat} {rn : Nat → Int32} {M : zM} (hn : n ≤ 10) (hc : M.1 7 2 = nI n) (h : MR (M.1 28) (M.1 29) r cd ca rn) (hr : r < 2147483648) (h12 : M.1 7 12 = nI r) : X_X11_surest g [.ref 0] M = some (some (.int (bI (sur (rgtN cd ca r) (dysN cd r) (fun t => cEq0 (M.1 8 (7 * t + 5))) n 0 none))), M) := by
  rw [x_X11_surest_0]
  exact surC_9 g hn hc h hr h12 n 0 none (by omega) (fun u hu => by cases hu)
theorem surM_s (g : zg) {n r : Nat} {cd ca : Nat → Nat} {cm sd : Nat → Int32} {M : zM} (hn : n ≤ 10) (hc : M.1 72 6 = nI n) (h : MR cm sd r cd ca (M.1 73)) : X_X12_surest g [.ref 72] M = some (some (.int (bI (sur (rgtN cd ca r) (dysN cd r) (fun t => cEq0 (M.1 73 (38 + t))) n 0 none))), ((zu M.1 72 0 0), M.2)) := by
  rw [x_X12_surest_0]
  exact surM_9 g (M := ((zu M.1 72 0 0), M.2)) hn (by dsimp only; rw [zu_ne2 (by omega)]; exact hc) (cm := cm) (sd := sd) (by dsimp only; rw [zu_ne (by omega)]; exact h) n 0 none (by omega) (fun u hu => by cases hu)
