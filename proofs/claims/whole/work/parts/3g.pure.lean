/-! PURE ROWS: game -/
def allF (fe : Nat → Int32) (he : Nat → Bool) : Nat → Nat → Int32 → Int32
  | 0, _, a => a
  | f + 1, t, a => allF fe he f (t + 1) (bif he t then a ^^^ (fe t - fe t / 3 * 3) else a)
theorem allF_s (fe : Nat → Int32) (he : Nat → Bool) (f t : Nat) (a : Int32) : allF fe he (f + 1) t a = allF fe he f (t + 1) (bif he t then a ^^^ (fe t - fe t / 3 * 3) else a) := rfl
def tpC (all h k : Int32) : Bool := cEq0 ((all ^^^ (h - h / 3 * 3)) ^^^ ((h - k) - (h - k) / 3 * 3))
/-- how often a teller of fear h is tapped (0: not) -/
def tpN (all h : Int32) : Int32 := bif cGt 1 h then 0 else bif tpC all h 1 then 1 else bif cGt 2 h then 0 else bif tpC all h 2 then 2 else 0
def gmF (fe : Nat → Int32) (he : Nat → Bool) (all w : Int32) : Nat → Nat → Int32
  | 0, _ => -1
  | f + 1, t => bif he t && !cEq0 (tpN all (fe t)) then (bif cEq0 w then nI t else tpN all (fe t)) else gmF fe he all w f (t + 1)
theorem gmF_s (fe : Nat → Int32) (he : Nat → Bool) (all w : Int32) (f t : Nat) : gmF fe he all w (f + 1) t = bif he t && !cEq0 (tpN all (fe t)) then (bif cEq0 w then nI t else tpN all (fe t)) else gmF fe he all w f (t + 1) := rfl
theorem tapC_62 (g : zg) {n t : Nat} {w all : Int32} {M : zM} (hn : n ≤ 10) (hc : M.1 7 2 = nI n) (ht : t < n) {R : Option (Option Value × zM)} (hR : zX (t_X2_goodTap g) 43 [some (.ref 7), some (.int w), some (.int all), some (.int (nI (t + 1))), none, none] [] M = R) : zX (t_X2_goodTap g) 62 [some (.ref 7), some (.int w), some (.int all), some (.int (nI t)), some (.int (M.1 8 (7 * t + 1))), some (.int 1)] [] M = bif cEq0 (M.1 8 (7 * t + 5)) && !cEq0 (tpN all (M.1 8 (7 * t + 1))) then some (some (.int (bif cEq0 w then nI t else tpN all (M.1 8 (7 * t + 1)))), M) else R := by
  rw [e_X2_goodTap_62, show cGt 1 2 = false from by decide, bif_f, serving7_s g hn hc ht, zbI_s, cEq0_b01, nI_s1, hR]
  rw [e_X2_goodTap_62, show cGt (1 + 1) 2 = false from by decide, bif_f, serving7_s g hn hc ht, zbI_s, cEq0_b01, nI_s1, hR]
  rw [e_X2_goodTap_62, show cGt (1 + 1 + 1) 2 = true from by decide, bif_t, nI_s1, hR]
  rw [show (1 : Int32) + 1 = 2 from by decide]
  unfold tpN tpC
  cases cEq0 (M.1 8 (7 * t + 5))
  · cases cGt 1 (M.1 8 (7 * t + 1)) <;> rfl
  · cases cGt 1 (M.1 8 (7 * t + 1))
    · cases cEq0 ((all ^^^ (M.1 8 (7 * t + 1) - M.1 8 (7 * t + 1) / 3 * 3)) ^^^ ((M.1 8 (7 * t + 1) - 1) - (M.1 8 (7 * t + 1) - 1) / 3 * 3))
      · cases cGt 2 (M.1 8 (7 * t + 1))
        · cases cEq0 ((all ^^^ (M.1 8 (7 * t + 1) - M.1 8 (7 * t + 1) / 3 * 3)) ^^^ ((M.1 8 (7 * t + 1) - 2) - (M.1 8 (7 * t + 1) - 2) / 3 * 3))
          · rfl
          · cases cEq0 w <;> rfl
        · rfl
      · cases cEq0 w <;> rfl
    · rfl
theorem tapC_43 (g : zg) {n : Nat} {w all : Int32} {M : zM} (hn : n ≤ 10) (hc : M.1 7 2 = nI n) (f : Nat) : ∀ t, t + f = n → zX (t_X2_goodTap g) 43 [some (.ref 7), some (.int w), some (.int all), some (.int (nI t)), none, none] [] M = some (some (.int (gmF (fun t => M.1 8 (7 * t + 1)) (fun t => cEq0 (M.1 8 (7 * t + 5))) all w f t)), M) := by
  induction f with
  | zero =>
    intro t ht
    rw [e_X2_goodTap_43, hc, cLt_nI (by omega) (by omega), decide_eq_false (by omega), bif_f]
    rfl
  | succ f ih =>
    intro t ht
    rw [e_X2_goodTap_43, hc, cLt_nI (by omega) (by omega), decide_eq_true (by omega), bif_t, get7_s g hn hc (show t < n by omega) (k := 1) (kk := 1) (by omega) rfl rfl, zbI_s, tapC_62 g hn hc (by omega) (ih (t + 1) (by omega)), gmF_s]
    cases cEq0 (M.1 8 (7 * t + 5)) && !cEq0 (tpN all (M.1 8 (7 * t + 1))) <;> rfl
theorem tapC_4 (g : zg) {n : Nat} {w : Int32} {M : zM} (hn : n ≤ 10) (hc : M.1 7 2 = nI n) (f : Nat) : ∀ t a, t + f = n → zX (t_X2_goodTap g) 4 [some (.ref 7), some (.int w), some (.int a), some (.int (nI t)), none, none] [] M = some (some (.int (gmF (fun t => M.1 8 (7 * t + 1)) (fun t => cEq0 (M.1 8 (7 * t + 5))) (allF (fun t => M.1 8 (7 * t + 1)) (fun t => cEq0 (M.1 8 (7 * t + 5))) f t a) w n 0)), M) := by
  induction f with
  | zero =>
    intro t a ht
    rw [e_X2_goodTap_4, hc, cLt_nI (by omega) (by omega), decide_eq_false (by omega), bif_f]
    exact tapC_43 g hn hc n 0 (by omega)
  | succ f ih =>
    intro t a ht
    rw [e_X2_goodTap_4, hc, cLt_nI (by omega) (by omega), decide_eq_true (by omega), bif_t, serving7_s g hn hc (by omega), zbI_s, cEq0_b01, get7_s g hn hc (show t < n by omega) (k := 1) (kk := 1) (by omega) rfl rfl, zbI_s, nI_s1, Int32.xor_zero, ih (t + 1) a (by omega), ih (t + 1) _ (by omega), allF_s]
    cases cEq0 (M.1 8 (7 * t + 5)) <;> rfl
theorem lesser_s (g : zg) (x y : Int32) (M : zM) : X_X12_lesser g [.ref 72, .int x, .int y] M = some (some (.int (bif cLt x y then x else y)), M) := by
  rw [x_X12_lesser_0]
  cases cLt x y <;> rfl
theorem les1 (h : Int32) : cGt 1 (bif cLt 2 h then 2 else h) = cGt 1 h := by
  unfold cGt cLt
  by_cases e : (2 : Int32) < h
  · rw [decide_eq_true e, bif_t]
    rw [Int32.lt_iff_toInt_lt] at e
    simp only [Int32.lt_iff_toInt_lt]
    rw [show (2 : Int32).toInt = 2 from by decide] at e ⊢
    rw [show (1 : Int32).toInt = 1 from by decide]
    rw [decide_eq_decide]
    omega
  · rw [decide_eq_false e, bif_f]
theorem les2 (h : Int32) : cGt 2 (bif cLt 2 h then 2 else h) = cGt 2 h := by
  unfold cGt cLt
  by_cases e : (2 : Int32) < h
  · rw [decide_eq_true e, bif_t]
    rw [Int32.lt_iff_toInt_lt] at e
    simp only [Int32.lt_iff_toInt_lt]
    rw [show (2 : Int32).toInt = 2 from by decide] at e ⊢
    rw [decide_eq_decide]
    omega
  · rw [decide_eq_false e, bif_f]
theorem les3 (h : Int32) : cGt 3 (bif cLt 2 h then 2 else h) = true := by
  unfold cGt cLt
  by_cases e : (2 : Int32) < h
  · rw [decide_eq_true e, bif_t]; decide
  · rw [decide_eq_false e, bif_f, decide_eq_true]
    rw [Int32.lt_iff_toInt_lt] at e ⊢
    rw [show (2 : Int32).toInt = 2 from by decide] at e
    rw [show (3 : Int32).toInt = 3 from by decide]
    omega
theorem tapM_87 (g : zg) {t : Nat} {w all h : Int32} {M : zM} {R : Option (Option Value × zM)} (hR : zX (t_X12_game g) 56 [some (.ref 72), some (.int w), some (.int all), some (.int (nI (t + 1))), none, none] [] M = R) : zX (t_X12_game g) 87 [some (.ref 72), some (.int w), some (.int all), some (.int (nI t)), some (.int h), some (.int 1)] [] M = bif !cEq0 (tpN all h) then some (some (.int (bif cEq0 w then nI t else tpN all h)), M) else R := by
  rw [e_X12_game_87, lesser_s, zbI_s, les1, nI_s1, hR]
  rw [e_X12_game_87, lesser_s, zbI_s, show (1 : Int32) + 1 = 2 from by decide, les2, nI_s1, hR]
  rw [e_X12_game_87, lesser_s, zbI_s, show (2 : Int32) + 1 = 3 from by decide, les3, bif_t, nI_s1, hR]
  unfold tpN tpC
  cases cGt 1 h
  · cases cEq0 ((all ^^^ (h - h / 3 * 3)) ^^^ ((h - 1) - (h - 1) / 3 * 3))
    · cases cGt 2 h
      · cases cEq0 ((all ^^^ (h - h / 3 * 3)) ^^^ ((h - 2) - (h - 2) / 3 * 3))
        · rfl
        · cases cEq0 w <;> rfl
      · rfl
    · cases cEq0 w <;> rfl
  · rfl
theorem tapM_56 (g : zg) {n : Nat} {w all : Int32} {M : zM} (hn : n ≤ 10) (hc : M.1 72 6 = nI n) (f : Nat) : ∀ t, t + f = n → zX (t_X12_game g) 56 [some (.ref 72), some (.int w), some (.int all), some (.int (nI t)), none, none] [] M = some (some (.int (gmF (M.1 77) (fun t => cEq0 (M.1 73 (38 + t))) all w f t)), M) := by
  induction f with
  | zero =>
    intro t ht
    rw [e_X12_game_56, hc, cLt_nI (by omega) (by omega), decide_eq_false (by omega), bif_f]
    rfl
  | succ f ih =>
    intro t ht
    have h10 : t < 10 := by omega
    rw [e_X12_game_56, hc, cLt_nI (by omega) (by omega), decide_eq_true (by omega), bif_t, isHere_s g h10, zbI_s, cEq0_b01, zb_nI (by omega), decide_eq_true h10, bif_t, zx_nI (by omega), tapM_87 g (ih (t + 1) (by omega)), tapM_87 g (ih (t + 1) (by omega)), gmF_s]
    cases cEq0 (M.1 73 (38 + t))
    · rw [show tpN all 0 = 0 from rfl]
      rfl
    · cases cEq0 (tpN all (M.1 77 t)) <;> rfl
theorem tapM_21 (g : zg) {n : Nat} {w : Int32} {M : zM} (hn : n ≤ 10) (hc : M.1 72 6 = nI n) (f : Nat) : ∀ t a, t + f = n → zX (t_X12_game g) 21 [some (.ref 72), some (.int w), some (.int a), some (.int (nI t)), none, none] [] M = some (some (.int (gmF (M.1 77) (fun t => cEq0 (M.1 73 (38 + t))) (allF (M.1 77) (fun t => cEq0 (M.1 73 (38 + t))) f t a) w n 0)), M) := by
  induction f with
  | zero =>
    intro t a ht
    rw [e_X12_game_21, hc, cLt_nI (by omega) (by omega), decide_eq_false (by omega), bif_f]
    exact tapM_56 g hn hc n 0 (by omega)
  | succ f ih =>
    intro t a ht
    have h10 : t < 10 := by omega
    rw [e_X12_game_21, hc, cLt_nI (by omega) (by omega), decide_eq_true (by omega), bif_t, isHere_s g h10, zbI_s, cEq0_b01, zb_nI (by omega), decide_eq_true h10, bif_t, zx_nI (by omega), nI_s1, ih (t + 1) a (by omega), ih (t + 1) _ (by omega), allF_s]
    cases cEq0 (M.1 73 (38 + t)) <;> rfl
