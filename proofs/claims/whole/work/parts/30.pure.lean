/-! PURE ROWS: numbers, memory, calls -/
theorem ni_lit (n : Nat) : (OfNat.ofNat n : Int32) = nI n := rfl
theorem zx_nI {n : Nat} (h : n < 2147483648) : zx (nI n) = n := nI_clamp (by omega)
theorem zb_nI {n N : Nat} (h : n < 2147483648) : zb (nI n) N = decide (n < N) := by
  unfold zb
  have h1 : ¬ nI n < 0 := nI_pos (by omega)
  rw [nI_clamp (by omega)]
  simp only [h1, decide_false, Bool.not_false, Bool.true_and]
  cases hb : Nat.blt n N with
  | true => simp only [Nat.blt_eq] at hb; simp [hb]
  | false =>
    have : ¬ n < N := fun h2 => by rw [(Nat.blt_eq).mpr h2] at hb; cases hb
    simp [this]
theorem cLt_nI {a b : Nat} (ha : a < 2147483648) (hb : b < 2147483648) : cLt (nI a) (nI b) = decide (a < b) := by
  unfold cLt
  rw [decide_eq_decide]
  exact nI_ltI (by omega) (by omega)
theorem cGt_nI {a b : Nat} (ha : a < 2147483648) (hb : b < 2147483648) : cGt (nI a) (nI b) = decide (b < a) := by
  unfold cGt
  rw [decide_eq_decide]
  exact nI_ltI (by omega) (by omega)
theorem cEq_nI {a b : Nat} (ha : a < 2147483648) (hb : b < 2147483648) : cEq (nI a) (nI b) = decide (a = b) := by
  unfold cEq
  rw [decide_eq_decide]
  exact nI_eq (by omega) (by omega)
theorem cEq0_nI {a : Nat} (ha : a < 2147483648) : cEq0 (nI a) = decide (a = 0) := by
  unfold cEq0
  rw [decide_eq_decide]
  exact nI_eq (a := a) (b := 0) (by omega) (by omega)
theorem cGt0_nI {a : Nat} (ha : a < 2147483648) : cGt0 (nI a) = decide (0 < a) := by
  unfold cGt0
  rw [decide_eq_decide]
  exact nI_ltI (a := 0) (b := a) (by omega) (by omega)
theorem cLt0_nI {a : Nat} (ha : a < 2147483648) : cLt0 (nI a) = false := by
  unfold cLt0
  rw [decide_eq_false_iff_not]
  exact nI_pos (by omega)
theorem irem_nI {a d : Nat} (ha : a < 2147483648) (h0 : 0 < d) (hd : d < 2147483648) : nI a - nI a / nI d * nI d = nI (a % d) := pk_rem (by omega) h0 (by omega)
theorem idiv_nI {a d : Nat} (ha : a < 2147483648) (h0 : 0 < d) (hd : d < 2147483648) : nI a / nI d = nI (a / d) := pk_div (by omega) h0 (by omega)
theorem zbI_s {μ ρ : Type} {x : Int32} {M : μ} {k : Int32 → μ → Option ρ} : zbI (some (some (.int x), M)) k = k x M := rfl
theorem zbV_s {μ ρ : Type} {M : μ} {k : μ → Option ρ} : zbV (some (none, M)) k = k M := rfl
theorem zu_eq {I : zI} {a i : Nat} {v : Int32} : zu I a i v a i = v := by simp [zu]
theorem zu_ne1 {I : zI} {a i b j : Nat} {v : Int32} (h : b ≠ a) : zu I a i v b j = I b j := by rw [zu_ne h]
theorem zu_ne2 {I : zI} {a i j : Nat} {v : Int32} (h : j ≠ i) : zu I a i v a j = I a j := by rw [zu_row]; simp [h]
/-- between bounds: the answer of within, isIn -/
def inb (x a b : Int32) : Bool := !cLt x a && !cGt x b
def b01 (b : Bool) : Int32 := bif b then 1 else 0
theorem within_s (g : zg) (x a b : Int32) (M : zM) : X_X11_within g [.int x, .int a, .int b] M = some (some (.int (b01 (inb x a b))), M) := by
  rw [x_X11_within_0]
  unfold inb b01
  cases cLt x a <;> cases cGt x b <;> rfl
theorem isIn_s (g : zg) (x a b : Int32) (M : zM) : X_X12_isIn g [.ref 72, .int x, .int a, .int b] M = some (some (.int (b01 (inb x a b))), M) := by
  rw [x_X12_isIn_0]
  unfold inb b01
  cases cLt x a <;> cases cGt x b <;> rfl
theorem cEq0_b01 (b : Bool) : cEq0 (b01 b) = !b := by cases b <;> decide +kernel
theorem b01_and1 (b : Bool) : cEq (b01 b &&& 1) (b01 b) = true := by cases b <;> decide +kernel
/-- a value held between bounds -/
def hld (x a b : Int32) : Int32 := bif cLt x a then a else bif cGt x b then b else x
theorem held_s (g : zg) (x a b : Int32) (M : zM) : X_X12_held g [.ref 72, .int x, .int a, .int b] M = some (some (.int (hld x a b)), M) := by
  rw [x_X12_held_0]
  unfold hld
  cases cLt x a <;> cases cGt x b <;> rfl
theorem max_s (g : zg) (a b : Int32) (M : zM) : X_J9_max_7cf53 g [.int a, .int b] M = some (some (.int (bif cLt a b then b else a)), M) := by
  rw [x_J9_max_7cf53_0]
  cases cLt a b <;> rfl
theorem min_s (g : zg) (a b : Int32) (M : zM) : X_J9_min_7cf53 g [.int a, .int b] M = some (some (.int (bif cGt a b then b else a)), M) := by
  rw [x_J9_min_7cf53_0]
  cases cGt a b <;> rfl
theorem hold_s (g : zg) {x a b : Int32} (hab : a ≤ b) (M : zM) : X_X11_hold g [.int x, .int a, .int b] M = some (some (.int (hld x a b)), M) := by
  rw [x_X11_hold_0, min_s, zbI_s, max_s, zbI_s]
  have key : (bif cLt a (bif cGt b x then x else b) then (bif cGt b x then x else b) else a) = hld x a b := by
    unfold hld cLt cGt
    simp only [Bool.cond_decide]
    simp only [Int32.lt_iff_toInt_lt, Int32.le_iff_toInt_le] at *
    split <;> split <;> split <;> (try split) <;> first | rfl | (rw [← Int32.toInt_inj]; omega) | omega
  rw [key]
