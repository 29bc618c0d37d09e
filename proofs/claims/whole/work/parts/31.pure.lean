/-! PURE ROWS: the court on both sides -/
theorem nI_zx {x : Int32} (h : ¬ x < 0) : x = nI (zx x) := (Int32.ofNat_toNatClampNeg x (Int32.not_lt.mp h)).symm
theorem zx_lt (x : Int32) : zx x < 2147483648 := by
  unfold zx Int32.toNatClampNeg
  have h1 := Int32.toInt_lt x
  omega
theorem inb_nI {a b k : Nat} (ha : a < 2147483648) (hb : b < 2147483648) (hk : k < 2147483648) : inb (nI k) (nI a) (nI b) = (decide (a ≤ k) && decide (k ≤ b)) := by
  unfold inb
  rw [cLt_nI hk ha, cGt_nI hk hb]
  by_cases h1 : k < a <;> by_cases h2 : b < k <;> simp [h1, h2] <;> omega
theorem inb_ex {x : Int32} {b : Nat} (hb : b < 2147483648) (h : inb x 0 (nI b) = true) : ∃ k, k ≤ b ∧ x = nI k := by
  have h0 : ¬ x < 0 := by
    intro h0
    unfold inb cLt at h
    simp [h0] at h
  refine ⟨zx x, ?_, nI_zx h0⟩
  rw [nI_zx h0] at h
  have h2 := (inb_nI (a := 0) (by omega) hb (zx_lt x)).symm.trans h
  simp at h2
  exact h2
def hsB (n x : Int32) : Bool := !cLt0 x && cLt x n
theorem has7_s (g : zg) (x : Int32) (M : zM) : X_X3_has g [.ref 7, .int x] M = some (some (.int (b01 (hsB (M.1 7 2) x))), M) := by
  rw [x_X3_has_0]
  unfold hsB b01
  cases cLt0 x <;> cases cLt x (M.1 7 2) <;> rfl
theorem has40_s (g : zg) (x : Int32) (M : zM) : X_X3_has g [.ref 40, .int x] M = some (some (.int (b01 (hsB (M.1 40 2) x))), M) := by
  rw [x_X3_has_0_1]
  unfold hsB b01
  cases cLt0 x <;> cases cLt x (M.1 40 2) <;> rfl
theorem isT_s (g : zg) (x : Int32) (M : zM) : X_X12_isTeller g [.ref 72, .int x] M = some (some (.int (b01 (hsB (M.1 72 6) x))), M) := by
  rw [x_X12_isTeller_0]
  unfold hsB b01
  cases cLt0 x <;> cases cLt x (M.1 72 6) <;> rfl
theorem hsB_nI {n t : Nat} (hn : n ≤ 10) (ht : t < n) : hsB (nI n) (nI t) = true := by
  unfold hsB
  rw [cLt0_nI (by omega), cLt_nI (by omega) (by omega)]
  simp [ht]
theorem hsB_ex {n : Nat} {x : Int32} (hn : n ≤ 10) (h : hsB (nI n) x = true) : ∃ t, t < n ∧ x = nI t := by
  have h0 : ¬ x < 0 := by
    intro h0
    unfold hsB cLt0 at h
    simp [h0] at h
  refine ⟨zx x, ?_, nI_zx h0⟩
  unfold hsB at h
  rw [nI_zx h0, cLt_nI (zx_lt x) (by omega)] at h
  simp at h
  exact h.2
theorem ix7 (t k : Nat) : nI t * 7 + nI k = nI (7 * t + k) := by
  unfold nI
  rw [show (7 : Int32) = Int32.ofNat 7 from rfl, ← Int32.ofNat_mul, ← Int32.ofNat_add, Nat.mul_comm]
theorem put7_s (g : zg) {n t k : Nat} {x kk v : Int32} {M : zM} (hn : n ≤ 10) (hc : M.1 7 2 = nI n) (ht : t < n) (hk : k < 7) (hx : x = nI t) (hkk : kk = nI k) : X_X3_put g [.ref 7, .int x, .int kk, .int v] M = some (none, ((zu M.1 8 (7 * t + k) v), M.2)) := by
  subst hx; subst hkk
  have h6 : inb (nI k) 0 6 = true := (inb_nI (k := k) (a := 0) (b := 6) (by omega) (by omega) (by omega)).trans (by simp; omega)
  rw [x_X3_put_0, has7_s, zbI_s, hc, hsB_nI hn ht, cEq0_b01, within_s, zbI_s, h6, cEq0_b01, ix7, zb_nI (by omega), zx_nI (by omega)]
  have h7 : 7 * t + k < 70 := by omega
  simp [h7]
theorem get7_s (g : zg) {n t k : Nat} {x kk : Int32} {M : zM} (hn : n ≤ 10) (hc : M.1 7 2 = nI n) (ht : t < n) (hk : k < 7) (hx : x = nI t) (hkk : kk = nI k) : X_X3_get g [.ref 7, .int x, .int kk] M = some (some (.int (M.1 8 (7 * t + k))), M) := by
  subst hx; subst hkk
  have h6 : inb (nI k) 0 6 = true := (inb_nI (k := k) (a := 0) (b := 6) (by omega) (by omega) (by omega)).trans (by simp; omega)
  rw [x_X3_get_0, has7_s, zbI_s, hc, hsB_nI hn ht, cEq0_b01, within_s, zbI_s, h6, cEq0_b01, ix7, zb_nI (by omega), zx_nI (by omega)]
  have h7 : 7 * t + k < 70 := by omega
  simp [h7]
/-- a row with one cell put -/
def upd1 (f : Nat → Int32) (i : Nat) (v : Int32) : Nat → Int32 := fun j => if j = i then v else f j
theorem zu_upd {I : zI} {a i : Nat} {v : Int32} : zu I a i v a = upd1 (I a) i v := zu_row
theorem upd1_eq {f : Nat → Int32} {i : Nat} {v : Int32} : upd1 f i v i = v := by simp [upd1]
theorem upd1_ne {f : Nat → Int32} {i j : Nat} {v : Int32} (h : j ≠ i) : upd1 f i v j = f j := by simp [upd1, h]
/-- what the reference holds for cell k of teller t -/
def rcell (so fe rn : Nat → Int32) (t k : Nat) : Int32 := if k = 0 then so t else if k = 1 then fe t else rn (10 * k - 12 + t) - (if k = 3 ∨ k = 6 then 1 else 0)
/-- a court of the class (fields cf, rows cr) and a court of the reference (row rn; fields md, sorts so, fears fe) -/
def CR (n : Nat) (cf cr rn md so fe : Nat → Int32) : Prop :=
  n ≤ 10 ∧ cf 2 = nI n ∧ md 6 = nI n ∧ cf 3 = rn 1 ∧ cf 4 = rn 3 + 50 ∧ cf 5 = md 7 ∧ cf 6 = md 8 - 10 ∧ cf 7 = rn 4 - 1 ∧ cf 8 = rn 5 ∧ cf 9 = rn 6 ∧ cf 10 = rn 0 ∧ cf 11 = rn 2
  ∧ (∀ t, t < n → ∀ k, k < 7 → cr (7 * t + k) = rcell so fe rn t k)
  ∧ (∀ t, n ≤ t → t < 10 → ∀ k, 2 ≤ k → k < 7 → rn (10 * k - 12 + t) = 0)
/-- a cell of a teller that both put -/
theorem CR_cell {n : Nat} {cf cr rn md so fe : Nat → Int32} (h : CR n cf cr rn md so fe) {t k : Nat} {v w : Int32} (ht : t < n) (h2 : 2 ≤ k) (hk : k < 7) (hw : v = w - (if k = 3 ∨ k = 6 then 1 else 0)) : CR n cf (upd1 cr (7 * t + k) v) (upd1 rn (10 * k - 12 + t) w) md so fe := by
  obtain ⟨hn, a1, a2, a3, a4, a5, a6, a7, a8, a9, a10, a11, hr, he⟩ := h
  have hf : ∀ j, j < 8 → upd1 rn (10 * k - 12 + t) w j = rn j := fun j hj => upd1_ne (by omega)
  refine ⟨hn, a1, a2, by rw [hf _ (by omega)]; exact a3, by rw [hf _ (by omega)]; exact a4, a5, a6, by rw [hf _ (by omega)]; exact a7, by rw [hf _ (by omega)]; exact a8, by rw [hf _ (by omega)]; exact a9, by rw [hf _ (by omega)]; exact a10, by rw [hf _ (by omega)]; exact a11, ?_, ?_⟩
  · intro t' ht' k' hk'
    by_cases hs : t' = t ∧ k' = k
    · obtain ⟨rfl, rfl⟩ := hs
      rw [upd1_eq]
      unfold rcell
      rw [if_neg (by omega), if_neg (by omega), upd1_eq]
      exact hw
    · rw [upd1_ne (by omega), hr t' ht' k' hk']
      unfold rcell
      by_cases k0 : k' = 0
      · rw [if_pos k0, if_pos k0]
      · by_cases k1 : k' = 1
        · rw [if_neg k0, if_pos k1, if_neg k0, if_pos k1]
        · rw [if_neg k0, if_neg k1, if_neg k0, if_neg k1, upd1_ne (by omega)]
  · intro t' h1 h3 k' h4 h5
    rw [upd1_ne (by omega)]
    exact he t' h1 h3 k' h4 h5
