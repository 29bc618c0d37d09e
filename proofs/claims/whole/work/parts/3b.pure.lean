/-! PURE ROWS: glued on both sides -/
theorem glF_s (v k : Nat → Int32) (f i n : Nat) (s c : Int32) (o : Bool) : glF v k (f + 1) i n s c o = if cEq (v i) (-1) then glF v k f (i + 1) n s c o else if decide (0 < n) && !cEq (v i) s then false else glF v k f (i + 1) (n + 1) (v i) (k i) (o || (decide (0 < n) && !cEq (k i) c)) := rfl
theorem looks_62 (g : zg) {t i n sl : Nat} {c w : Int32} {o : Bool} {M : zM} (hn : n ≤ 1000) (hs : sl < 96) : zX (t_X5_looksGlued g) 62 [some (.ref 27), some (.ref 7), some (.int (nI t)), some (.int (nI n)), none, some (.int c), some (.int (b01 o)), some (.int (nI i)), some (.int (nI sl)), some (.int w)] [] M = zX (t_X5_looksGlued g) 14 [some (.ref 27), some (.ref 7), some (.int (nI t)), some (.int (nI (n + 1))), some (.int w), some (.int (M.1 28 sl)), some (.int (b01 (o || (decide (0 < n) && !cEq (M.1 28 sl) c)))), some (.int (nI (i + 1))), none, none] [] M := by
  rw [e_X5_looksGlued_62, cGt0_nI (by omega), zb_nI (by omega), zx_nI (by omega), decide_eq_true hs, bif_t, nI_s1, nI_s1]
  cases decide (0 < n) <;> cases cEq (M.1 28 sl) c <;> simp [b01]
theorem looks_14 (g : zg) {r t : Nat} {M : zM} (hr : r < 2147483648) (hc : M.1 7 12 = nI r) (ht : t < 10) (f : Nat) : ∀ i n s c o, i + f = min r 90 → n ≤ i → zX (t_X5_looksGlued g) 14 [some (.ref 27), some (.ref 7), some (.int (nI t)), some (.int (nI n)), some (.int s), some (.int c), some (.int (b01 o)), some (.int (nI i)), none, none] [] M = some (some (.int (b01 (glF (fun i => M.1 29 (10 * ((r - 1 - i) % 96) + t)) (fun i => M.1 28 ((r - 1 - i) % 96)) f i n s c o))), M) := by
  induction f with
  | zero =>
    intro i n s c o h hn
    have e : cLt (nI n) 3 = decide (n < 3) := cLt_nI (a := n) (b := 3) (by omega) (by omega)
    rw [e_X5_looksGlued_14, kept_s g hr hc, zbI_s, cLt_nI (by omega) (by omega), decide_eq_false (by omega), bif_f, cEq0_b01, e]
    unfold glF
    by_cases h3 : n < 3
    · rw [decide_eq_true h3, decide_eq_false (show ¬ 3 ≤ n by omega)]
      cases o <;> rfl
    · rw [decide_eq_false h3, decide_eq_true (show 3 ≤ n by omega)]
      cases o <;> rfl
  | succ f ih =>
    intro i n s c o h hn
    have hs : (r - 1 - i) % 96 < 96 := Nat.mod_lt _ (by omega)
    rw [e_X5_looksGlued_14, kept_s g hr hc, zbI_s, cLt_nI (by omega) (by omega), decide_eq_true (by omega), bif_t, slotOf_s g hr hc (by omega), zbI_s, saidIn_s g hs ht, zbI_s, looks_62 g (by omega) hs, cGt0_nI (by omega), nI_s1, ih (i + 1) n s c o (by omega) (by omega), ih (i + 1) (n + 1) _ _ _ (by omega) (by omega), glF_s]
    cases cEq (M.1 29 (10 * ((r - 1 - i) % 96) + t)) (-1)
    · cases hd : decide (0 < n)
      · simp
      · cases cEq (M.1 29 (10 * ((r - 1 - i) % 96) + t)) s
        · simp [b01]
        · simp
    · simp
theorem isGl_55 (g : zg) {t i n cd ca : Nat} {c w : Int32} {o : Bool} {M : zM} (hn : n ≤ 1000) (hi : i < 90) (h5 : ca < 5) (h6 : cd < 60466176) (hv : M.1 73 (58 + i) = nI (5 * cd + ca)) : zX (t_X12_isGlued g) 55 [some (.ref 72), some (.int (nI t)), some (.int (nI n)), none, some (.int c), some (.int (b01 o)), some (.int (nI i)), some (.int w)] [] M = zX (t_X12_isGlued g) 13 [some (.ref 72), some (.int (nI t)), some (.int (nI (n + 1))), some (.int w), some (.int (nI ca)), some (.int (b01 (o || (decide (0 < n) && !cEq (nI ca) c)))), some (.int (nI (i + 1))), none] [] M := by
  rw [e_X12_isGlued_55, cGt0_nI (by omega), cameOn_s g hi h5 h6 hv, zbI_s, zbI_s, cameOn_s g hi h5 h6 hv, zbI_s, zbI_s, nI_s1, nI_s1]
  cases decide (0 < n) <;> cases cEq (nI ca) c <;> simp [b01]
theorem isGl_13 (g : zg) {r t : Nat} {cd ca : Nat → Nat} {cm sd : Nat → Int32} {M : zM} (h : MR cm sd r cd ca (M.1 73)) (ht : t < 10) (f : Nat) : ∀ i n s c o, i + f = min r 90 → n ≤ i → zX (t_X12_isGlued g) 13 [some (.ref 72), some (.int (nI t)), some (.int (nI n)), some (.int s), some (.int c), some (.int (b01 o)), some (.int (nI i)), none] [] M = some (some (.int (b01 (glF (fun d => nI (cd d / 6 ^ t % 6) - 1) (fun d => nI (ca d)) f i n s c o))), M) := by
  induction f with
  | zero =>
    intro i n s c o hi hn
    have e : cLt (nI n) 3 = decide (n < 3) := cLt_nI (a := n) (b := 3) (by omega) (by omega)
    rw [e_X12_isGlued_13, h.1, cLt_nI (by omega) (by omega), decide_eq_false (by omega), bif_f, cEq0_b01, e]
    unfold glF
    by_cases h3 : n < 3
    · rw [decide_eq_true h3, decide_eq_false (show ¬ 3 ≤ n by omega)]
      cases o <;> rfl
    · rw [decide_eq_false h3, decide_eq_true (show 3 ≤ n by omega)]
      cases o <;> rfl
  | succ f ih =>
    intro i n s c o hi hn
    have hd := h.2 i (by omega)
    rw [e_X12_isGlued_13, h.1, cLt_nI (by omega) (by omega), decide_eq_true (by omega), bif_t, toldOn_s g (by omega) ht hd.1 hd.2.1 hd.2.2.1, zbI_s, isGl_55 g (by omega) (by omega) hd.1 hd.2.1 hd.2.2.1, cGt0_nI (by omega), nI_s1, ih (i + 1) n s c o (by omega) (by omega), ih (i + 1) (n + 1) _ _ _ (by omega) (by omega), glF_s]
    cases cEq (nI (cd i / 6 ^ t % 6) - 1) (-1)
    · cases hd : decide (0 < n)
      · simp
      · cases cEq (nI (cd i / 6 ^ t % 6) - 1) s
        · simp [b01]
        · simp
    · simp
/-- teller t looks glued -/
def gluB (cd ca : Nat → Nat) (r t : Nat) : Bool := glF (fun d => nI (cd d / 6 ^ t % 6) - 1) (fun d => nI (ca d)) (min r 90) 0 0 (-1) (-1) false
theorem isGlued_s (g : zg) {r t : Nat} {cd ca : Nat → Nat} {cm sd : Nat → Int32} {M : zM} (h : MR cm sd r cd ca (M.1 73)) (ht : t < 10) : X_X12_isGlued g [.ref 72, .int (nI t)] M = some (some (.int (b01 (gluB cd ca r t))), M) := by
  rw [x_X12_isGlued_0]
  exact isGl_13 g h ht (min r 90) 0 0 (-1) (-1) false (by omega) (by omega)
theorem looksGlued_s (g : zg) {r t : Nat} {cd ca : Nat → Nat} {rn : Nat → Int32} {M : zM} (h : MR (M.1 28) (M.1 29) r cd ca rn) (hr : r < 2147483648) (hc : M.1 7 12 = nI r) (ht : t < 10) : X_X5_looksGlued g [.ref 27, .ref 7, .int (nI t)] M = some (some (.int (b01 (gluB cd ca r t))), M) := by
  rw [x_X5_looksGlued_0]
  have e := looks_14 g hr hc ht (min r 90) 0 0 (-1) (-1) false (by omega) (by omega)
  refine e.trans ?_
  unfold gluB
  rw [glF_rev (v' := fun d => nI (cd d / 6 ^ t % 6) - 1) (k' := fun d => nI (ca d)) ?_ ?_ (-1) (-1) (-1) (-1)]
  · intro j hj
    have hd := (h.2 (min r 90 - 1 - j) (by omega)).2.2.2.2 t ht
    rw [show r - min r 90 + (min r 90 - 1 - j) = r - 1 - j by omega] at hd
    exact hd
  · intro j hj
    have hd := (h.2 (min r 90 - 1 - j) (by omega)).2.2.2.1
    rw [show r - min r 90 + (min r 90 - 1 - j) = r - 1 - j by omega] at hd
    exact hd
/-- the tellers for whom p holds, as bits -/
def bitF (p : Nat → Bool) : Nat → Nat → Int32 → Int32
  | 0, _, a => a
  | f + 1, t, a => bitF p f (t + 1) (if p t then a ||| ((1 : Int32) <<< (nI t &&& 31)) else a)
theorem bitF_s (p : Nat → Bool) (f t : Nat) (a : Int32) : bitF p (f + 1) t a = bitF p f (t + 1) (if p t then a ||| ((1 : Int32) <<< (nI t &&& 31)) else a) := rfl
theorem gluedC_4 (g : zg) {n r : Nat} {cd ca : Nat → Nat} {rn : Nat → Int32} {M : zM} (hn : n ≤ 10) (hc : M.1 7 2 = nI n) (h : MR (M.1 28) (M.1 29) r cd ca rn) (hr : r < 2147483648) (h12 : M.1 7 12 = nI r) (f : Nat) : ∀ t a, t + f = n → zX (t_X11_glued g) 4 [some (.ref 0), some (.int a), some (.int (nI t))] [] M = some (some (.int (bitF (gluB cd ca r) f t a)), M) := by
  induction f with
  | zero =>
    intro t a ht
    rw [e_X11_glued_4, hc, cLt_nI (by omega) (by omega), decide_eq_false (by omega), bif_f]
    rfl
  | succ f ih =>
    intro t a ht
    rw [e_X11_glued_4, hc, cLt_nI (by omega) (by omega), decide_eq_true (by omega), bif_t, looksGlued_s g h hr h12 (by omega), zbI_s, cEq0_b01, nI_s1, ih (t + 1) a (by omega), ih (t + 1) _ (by omega), bitF_s]
    cases gluB cd ca r t <;> simp
theorem gluedM_9 (g : zg) {n r : Nat} {cd ca : Nat → Nat} {cm sd : Nat → Int32} {M : zM} (hn : n ≤ 10) (hc : M.1 72 6 = nI n) (h : MR cm sd r cd ca (M.1 73)) (f : Nat) : ∀ t a, t + f = n → zX (t_X12_glued g) 9 [some (.ref 72), some (.int a), some (.int (nI t))] [] M = some (some (.int (bitF (gluB cd ca r) f t a)), M) := by
  induction f with
  | zero =>
    intro t a ht
    rw [e_X12_glued_9, hc, cLt_nI (by omega) (by omega), decide_eq_false (by omega), bif_f]
    rfl
  | succ f ih =>
    intro t a ht
    rw [e_X12_glued_9, hc, cLt_nI (by omega) (by omega), decide_eq_true (by omega), bif_t, isGlued_s g h (by omega), zbI_s, cEq0_b01, nI_s1, ih (t + 1) a (by omega), ih (t + 1) _ (by omega), bitF_s]
    cases gluB cd ca r t <;> simp
theorem gluedC_s (g : zg) {n r : Nat} {cd ca : Nat → Nat} {rn : Nat → Int32} {M : zM} (hn : n ≤ 10) (hc : M.1 7 2 = nI n) (h : MR (M.1 28) (M.1 29) r cd ca rn) (hr : r < 2147483648) (h12 : M.1 7 12 = nI r) : X_X11_glued g [.ref 0] M = some (some (.int (bitF (gluB cd ca r) n 0 0)), M) := by
  rw [x_X11_glued_0]
  exact gluedC_4 g hn hc h hr h12 n 0 0 (by omega)
theorem gluedM_s (g : zg) {n r : Nat} {cd ca : Nat → Nat} {cm sd : Nat → Int32} {M : zM} (hn : n ≤ 10) (hc : M.1 72 6 = nI n) (h : MR cm sd r cd ca (M.1 73)) : X_X12_glued g [.ref 72] M = some (some (.int (bitF (gluB cd ca r) n 0 0)), ((zu M.1 72 0 0), M.2)) := by
  rw [x_X12_glued_0]
  exact gluedM_9 g (M := ((zu M.1 72 0 0), M.2)) hn (by dsimp only; rw [zu_ne2 (by omega)]; exact hc) (cm := cm) (sd := sd) (by dsimp only; rw [zu_ne (by omega)]; exact h) n 0 0 (by omega)
