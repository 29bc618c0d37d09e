/-! PURE ROWS: the reference's rows kept and taken back -/
/-- src copied to row r from place off + k on (f places) -/
def cpF (src : Nat → Int32) (r off : Nat) : Nat → Nat → zI → zI
  | 0, _, I => I
  | f + 1, k, I => cpF src r off f (k + 1) (zu I r (off + k) (src k))
theorem cpF_s (src : Nat → Int32) (r off f k : Nat) (I : zI) : cpF src r off (f + 1) k I = cpF src r off f (k + 1) (zu I r (off + k) (src k)) := rfl
theorem cpF_ne {src : Nat → Int32} {r off b : Nat} (hb : b ≠ r) (f : Nat) : ∀ k I, cpF src r off f k I b = I b := by
  induction f with
  | zero => intro k I; rfl
  | succ f ih =>
    intro k I
    rw [cpF_s, ih, zu_ne hb]
theorem cpF_at {src : Nat → Int32} {r off : Nat} (f : Nat) : ∀ k I j, cpF src r off f k I r j = if off + k ≤ j ∧ j < off + k + f then src (j - off) else I r j := by
  induction f with
  | zero => intro k I j; rw [if_neg (by omega)]; rfl
  | succ f ih =>
    intro k I j
    rw [cpF_s, ih, zu_upd]
    by_cases e : j = off + k
    · subst e
      rw [if_neg (by omega), upd1_eq, if_pos (by omega), Nat.add_sub_cancel_left]
    · rw [upd1_ne e]
      by_cases e2 : off + (k + 1) ≤ j ∧ j < off + (k + 1) + f
      · rw [if_pos e2, if_pos (by omega)]
      · rw [if_neg e2, if_neg (by omega)]
theorem ix148 (c k : Nat) : 148 * nI c + nI k = nI (148 * c + k) := by
  unfold nI
  rw [show (148 : Int32) = Int32.ofNat 148 from rfl, ← Int32.ofNat_mul, ← Int32.ofNat_add]
theorem undo_26 (g : zg) {c : Nat} {src : Nat → Int32} (hc6 : c < 6) (f : Nat) : ∀ k (M : zM), k + f = 148 → M.1 72 3 = nI c → (∀ k, k < 148 → M.1 74 (148 * c + k) = src k) → zX (t_X12_undo g) 26 [some (.ref 72), some (.int (nI k))] [] M = some (some (.int 1), (cpF src 73 0 f k M.1, M.2)) := by
  induction f with
  | zero =>
    intro k M hk hc hs
    rw [e_X12_undo_26, cLt_lit (m := k) (k := 148) (y := 148) (by omega) (by omega) rfl, decide_eq_false (by omega), bif_f]
    rfl
  | succ f ih =>
    intro k M hk hc hs
    have h1 : 148 * c + k < 888 := by omega
    have h2 : k < 148 := by omega
    rw [e_X12_undo_26, cLt_lit (m := k) (k := 148) (y := 148) (by omega) (by omega) rfl, decide_eq_true h2, bif_t, hc, ix148, zb_nI (by omega), decide_eq_true h1, bif_t, zb_nI (by omega), decide_eq_true h2, bif_t, zx_nI (by omega), zx_nI (by omega), nI_s1, hs k h2, cpF_s, Nat.zero_add]
    exact ih (k + 1) _ (by omega) (by dsimp only; rw [zu_ne1 (by omega)]; exact hc) (by intro j hj; dsimp only; rw [zu_ne1 (by omega)]; exact hs j hj)
theorem undoM_s (g : zg) {c : Nat} {M : zM} (hc6 : c ≤ 6) (hc : M.1 72 3 = nI c) : X_X12_undo g [.ref 72] M = if c = 0 then some (some (.int 0), ((zu M.1 72 0 0), M.2)) else some (some (.int 1), (cpF (fun k => M.1 74 (148 * (c - 1) + k)) 73 0 148 0 (zu (zu M.1 72 0 0) 72 3 (nI (c - 1))), M.2)) := by
  rw [x_X12_undo_0, hc, cEq0_nI (by omega)]
  by_cases h0 : c = 0
  · rw [decide_eq_true h0, bif_t, if_pos h0]
  · rw [decide_eq_false h0, bif_f, if_neg h0, show nI c - 1 = nI (c - 1) from nI_sub (a := c) (b := 1) (by omega)]
    exact undo_26 g (c := c - 1) (by omega) 148 0 _ (by omega) (by dsimp only; exact zu_eq) (by intro k _; dsimp only; rw [zu_ne1 (by omega), zu_ne1 (by omega)])
theorem keeps_57 (g : zg) {c : Nat} {src : Nat → Int32} (hc6 : c < 6) (f : Nat) : ∀ k (M : zM), k + f = 148 → M.1 72 3 = nI c → (∀ k, k < 148 → M.1 73 k = src k) → zX (t_X12_keepsAhead g) 57 [some (.ref 72), some (.int (nI k))] [] M = some (none, (zu (cpF src 74 (148 * c) f k M.1) 72 3 (nI (c + 1)), M.2)) := by
  induction f with
  | zero =>
    intro k M hk hc hs
    rw [e_X12_keepsAhead_57, cLt_lit (m := k) (k := 148) (y := 148) (by omega) (by omega) rfl, decide_eq_false (by omega), bif_f, hc, nI_s1]
    rfl
  | succ f ih =>
    intro k M hk hc hs
    have h1 : 148 * c + k < 888 := by omega
    have h2 : k < 148 := by omega
    rw [e_X12_keepsAhead_57, cLt_lit (m := k) (k := 148) (y := 148) (by omega) (by omega) rfl, decide_eq_true h2, bif_t, hc, ix148, zb_nI (by omega), decide_eq_true h2, bif_t, zb_nI (by omega), decide_eq_true h1, bif_t, zx_nI (by omega), zx_nI (by omega), nI_s1, hs k h2, cpF_s]
    exact ih (k + 1) _ (by omega) (by dsimp only; rw [zu_ne1 (by omega)]; exact hc) (by intro j hj; dsimp only; rw [zu_ne1 (by omega)]; exact hs j hj)
/-- row 74 moved one court ahead from place k on (f places) -/
def shF : Nat → Nat → zI → zI
  | 0, _, I => I
  | f + 1, k, I => shF f (k + 1) (zu I 74 k (I 74 (k + 148)))
theorem shF_s (f k : Nat) (I : zI) : shF (f + 1) k I = shF f (k + 1) (zu I 74 k (I 74 (k + 148))) := rfl
theorem shF_ne {b : Nat} (hb : b ≠ 74) (f : Nat) : ∀ k I, shF f k I b = I b := by
  induction f with
  | zero => intro k I; rfl
  | succ f ih =>
    intro k I
    rw [shF_s, ih, zu_ne hb]
theorem shF_at (f : Nat) : ∀ k I j, shF f k I 74 j = if k ≤ j ∧ j < k + f then I 74 (j + 148) else I 74 j := by
  induction f with
  | zero => intro k I j; rw [if_neg (by omega)]; rfl
  | succ f ih =>
    intro k I j
    rw [shF_s, ih, zu_upd]
    by_cases e : j = k
    · subst e
      rw [if_neg (by omega), upd1_eq, if_pos (by omega)]
    · rw [upd1_ne e]
      by_cases e2 : k + 1 ≤ j ∧ j < k + 1 + f
      · rw [if_pos e2, if_pos (by omega), upd1_ne (by omega)]
      · rw [if_neg e2, if_neg (by omega)]
theorem keeps_21 (g : zg) {c : Nat} (hc6 : c < 6) (f : Nat) : ∀ k (M : zM), k + f = 148 * c → M.1 72 3 = nI c → zX (t_X12_keepsAhead g) 21 [some (.ref 72), some (.int (nI k))] [] M = zX (t_X12_keepsAhead g) 57 [some (.ref 72), some (.int (nI 0))] [] (shF f k M.1, M.2) := by
  have e148 : 148 * nI c = nI (148 * c) := by
    unfold nI
    rw [show (148 : Int32) = Int32.ofNat 148 from rfl, ← Int32.ofNat_mul]
  have ek : ∀ k, nI k + 148 = nI (k + 148) := by
    intro k
    unfold nI
    rw [show (148 : Int32) = Int32.ofNat 148 from rfl, ← Int32.ofNat_add]
  induction f with
  | zero =>
    intro k M hk hc
    rw [e_X12_keepsAhead_21, hc, e148, cLt_nI (by omega) (by omega), decide_eq_false (by omega), bif_f]
    rfl
  | succ f ih =>
    intro k M hk hc
    have h1 : k + 148 < 888 := by omega
    have h2 : k < 888 := by omega
    rw [e_X12_keepsAhead_21, hc, e148, cLt_nI (by omega) (by omega), decide_eq_true (by omega), bif_t, ek, zb_nI (by omega), decide_eq_true h1, bif_t, zb_nI (by omega), decide_eq_true h2, bif_t, zx_nI (by omega), zx_nI (by omega), nI_s1, shF_s]
    exact ih (k + 1) _ (by omega) (by dsimp only; rw [zu_ne1 (by omega)]; exact hc)
theorem keeps_s (g : zg) {c : Nat} {M : zM} (hc6 : c ≤ 6) (hc : M.1 72 3 = nI c) : X_X12_keepsAhead g [.ref 72] M = if c = 6 then some (none, (zu (cpF (M.1 73) 74 740 148 0 (shF 740 0 (zu M.1 72 3 (nI 5)))) 72 3 (nI 6), M.2)) else some (none, (zu (cpF (M.1 73) 74 (148 * c) 148 0 M.1) 72 3 (nI (c + 1)), M.2)) := by
  rw [x_X12_keepsAhead_0, hc, cEq_lit (m := c) (k := 6) (y := 6) (by omega) (by omega) rfl]
  by_cases h6 : c = 6
  · subst h6
    rw [decide_eq_true rfl, bif_t, if_pos rfl, show nI 6 - 1 = nI 5 from by decide]
    refine (keeps_21 g (c := 5) (by omega) 740 0 _ (by omega) (by dsimp only; exact zu_eq)).trans ?_
    have q1 : shF 740 0 (zu M.1 72 3 (nI 5)) 72 3 = nI 5 := by rw [shF_ne (by omega)]; exact zu_eq
    have q2 : ∀ k, shF 740 0 (zu M.1 72 3 (nI 5)) 73 k = M.1 73 k := by intro k; rw [shF_ne (by omega), zu_ne1 (by omega)]
    dsimp only
    generalize shF 740 0 (zu M.1 72 3 (nI 5)) = q at q1 q2 ⊢
    exact keeps_57 g (c := 5) (src := M.1 73) (by omega) 148 0 (q, M.2) (by omega) q1 (fun k _ => q2 k)
  · rw [decide_eq_false h6, bif_f, if_neg h6]
    exact keeps_57 g (by omega) 148 0 M (by omega) hc (fun _ _ => rfl)
