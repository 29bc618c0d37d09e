/-! PURE ROWS: the tape (feed, end) -/
theorem nI_s1 (n : Nat) : nI n + 1 = nI (n + 1) := by
  unfold nI
  rw [show (1 : Int32) = Int32.ofNat 1 from rfl, ← Int32.ofNat_add]
/-- four bytes put behind place L of row r, whose count stands in field f of o -/
def put4 (I : zI) (r o f L : Nat) (b : Int32 → Int32) : zI :=
  zu (zu (zu (zu (zu (zu (zu (zu I r L (b 24)) o f (nI (L + 1))) r (L + 1) (b 16)) o f (nI (L + 2))) r (L + 2) (b 8)) o f (nI (L + 3))) r (L + 3) (b 0)) o f (nI (L + 4))
theorem add_step (g : zg) {a s : Int32} {L : Nat} {M : zM} (hs : cLt0 s = false) (hc : M.1 1 5 = nI L) (hL : L < 400) : zX (t_X9_add g) 3 [some (.ref 1), some (.int a), some (.int s)] [] M = zX (t_X9_add g) 3 [some (.ref 1), some (.int a), some (.int (s + (-8)))] [] ((zu (zu M.1 2 L ((zushr a s) &&& 255)) 1 5 (nI (L + 1))), M.2) := by
  have h400 : cLt (nI L) 400 = true := (cLt_nI (a := L) (b := 400) (by omega) (by omega)).trans (by simp; omega)
  rw [e_X9_add_3, hs, bif_f, hc, h400, bif_t, zb_nI (by omega), zx_nI (by omega), nI_s1]
  simp [hL]
theorem add_s (g : zg) (a : Int32) {L : Nat} {M : zM} (hc : M.1 1 5 = nI L) (hL : L + 4 ≤ 400) : X_X9_add g [.ref 1, .int a] M = some (none, (put4 M.1 2 1 5 L (fun s => (zushr a s) &&& 255), M.2)) := by
  rw [x_X9_add_0, add_step g (by decide) hc (by omega), add_step g (s := 24 + (-8)) (by decide) (by dsimp only; exact zu_eq) (by omega), add_step g (s := 24 + (-8) + (-8)) (by decide) (by dsimp only; exact zu_eq) (by omega), add_step g (s := 24 + (-8) + (-8) + (-8)) (by decide) (by dsimp only; exact zu_eq) (by omega), e_X9_add_3, show cLt0 (24 + (-8) + (-8) + (-8) + (-8)) = true from by decide, bif_t]
  rfl
theorem types_step (g : zg) {a s : Int32} {L : Nat} {M : zM} (hs : cLt0 s = false) (hc : M.1 72 13 = nI L) (hL : L < 400) : zX (t_X12_types g) 3 [some (.ref 72), some (.int a), some (.int s)] [] M = zX (t_X12_types g) 3 [some (.ref 72), some (.int a), some (.int (s + (-8)))] [] ((zu (zu M.1 79 L ((a >>> (s &&& 31)) &&& 255)) 72 13 (nI (L + 1))), M.2) := by
  rw [e_X12_types_3, hs, bif_f, hc, zb_nI (by omega), zx_nI (by omega), nI_s1]
  simp [hL]
theorem types_s (g : zg) (a : Int32) {L : Nat} {M : zM} (hc : M.1 72 13 = nI L) (hL : L + 4 ≤ 400) : X_X12_types g [.ref 72, .int a] M = some (none, (put4 M.1 79 72 13 L (fun s => (a >>> (s &&& 31)) &&& 255), M.2)) := by
  rw [x_X12_types_0, types_step g (by decide) hc (by omega), types_step g (s := 24 + (-8)) (by decide) (by dsimp only; exact zu_eq) (by omega), types_step g (s := 24 + (-8) + (-8)) (by decide) (by dsimp only; exact zu_eq) (by omega), types_step g (s := 24 + (-8) + (-8) + (-8)) (by decide) (by dsimp only; exact zu_eq) (by omega), e_X12_types_3, show cLt0 (24 + (-8) + (-8) + (-8) + (-8)) = true from by decide, bif_t]
  rfl
theorem put4_n {I : zI} {r o f L : Nat} {b : Int32 → Int32} : put4 I r o f L b o f = nI (L + 4) := zu_eq
theorem put4_ne {I : zI} {r o f L a : Nat} {b : Int32 → Int32} (h1 : a ≠ r) (h2 : a ≠ o) : put4 I r o f L b a = I a := by
  unfold put4
  rw [zu_ne h2, zu_ne h1, zu_ne h2, zu_ne h1, zu_ne h2, zu_ne h1, zu_ne h2, zu_ne h1]
theorem put4_f {I : zI} {r o f L j : Nat} {b : Int32 → Int32} (h1 : o ≠ r) (h2 : j ≠ f) : put4 I r o f L b o j = I o j := by
  unfold put4
  rw [zu_ne2 h2, zu_ne h1, zu_ne2 h2, zu_ne h1, zu_ne2 h2, zu_ne h1, zu_ne2 h2, zu_ne h1]
theorem put4_row {I : zI} {r o f L : Nat} {b : Int32 → Int32} (h1 : r ≠ o) : put4 I r o f L b r = upd1 (upd1 (upd1 (upd1 (I r) L (b 24)) (L + 1) (b 16)) (L + 2) (b 8)) (L + 3) (b 0) := by
  unfold put4
  rw [zu_ne h1, zu_upd, zu_ne h1, zu_upd, zu_ne h1, zu_upd, zu_ne h1, zu_upd]
theorem b255 : ∀ i : Fin 32, 8 ≤ i.val → (255#32).getLsbD i.val = false := by decide
theorem byte_sh (x : BitVec 32) {s : Nat} (hs : s ≤ 24) : (x >>> s) &&& 255#32 = (x.sshiftRight s) &&& 255#32 := by
  apply BitVec.eq_of_getLsbD_eq
  intro i hi
  rw [BitVec.getLsbD_and, BitVec.getLsbD_and]
  by_cases h8 : i < 8
  · rw [BitVec.getLsbD_ushiftRight, BitVec.getLsbD_sshiftRight]
    simp [show ¬ 32 ≤ i by omega, show s + i < 32 by omega]
  · rw [b255 ⟨i, hi⟩ (by dsimp only; omega), Bool.and_false, Bool.and_false]
theorem byte_eq (a : Int32) {s : Int32} (h : s = 24 ∨ s = 16 ∨ s = 8 ∨ s = 0) : (zushr a s) &&& 255 = (a >>> (s &&& 31)) &&& 255 := by
  apply Int32.toBitVec_inj.mp
  rcases h with rfl | rfl | rfl | rfl
  · exact byte_sh a.toBitVec (s := 24) (by omega)
  · exact byte_sh a.toBitVec (s := 16) (by omega)
  · exact byte_sh a.toBitVec (s := 8) (by omega)
  · exact byte_sh a.toBitVec (s := 0) (by omega)
/-- the tapes alike -/
def TP (L : Nat) (I : zI) : Prop := L ≤ 400 ∧ I 1 5 = nI L ∧ I 72 13 = nI L ∧ ∀ k, k < L → I 2 k = I 79 k
theorem put4_alike {f h : Nat → Int32} {L : Nat} {b c : Int32 → Int32} (ha : ∀ k, k < L → f k = h k) (hb : ∀ s, s = 24 ∨ s = 16 ∨ s = 8 ∨ s = 0 → b s = c s) : ∀ k, k < L + 4 → upd1 (upd1 (upd1 (upd1 f L (b 24)) (L + 1) (b 16)) (L + 2) (b 8)) (L + 3) (b 0) k = upd1 (upd1 (upd1 (upd1 h L (c 24)) (L + 1) (c 16)) (L + 2) (c 8)) (L + 3) (c 0) k := by
  intro k hk
  rw [hb 24 (by simp), hb 16 (by simp), hb 8 (by simp), hb 0 (by simp)]
  by_cases h3 : k = L + 3
  · subst h3; rw [upd1_eq, upd1_eq]
  · rw [upd1_ne h3, upd1_ne h3]
    by_cases h2 : k = L + 2
    · subst h2; rw [upd1_eq, upd1_eq]
    · rw [upd1_ne h2, upd1_ne h2]
      by_cases h1 : k = L + 1
      · subst h1; rw [upd1_eq, upd1_eq]
      · rw [upd1_ne h1, upd1_ne h1]
        by_cases h0 : k = L
        · subst h0; rw [upd1_eq, upd1_eq]
        · rw [upd1_ne h0, upd1_ne h0]
          exact ha k (by omega)
/-- five words put -/
def feedC (I : zI) (L : Nat) (a1 a2 a3 a4 a5 : Int32) : zI := put4 (put4 (put4 (put4 (put4 I 2 1 5 L (fun s => (zushr a1 s) &&& 255)) 2 1 5 (L + 4) (fun s => (zushr a2 s) &&& 255)) 2 1 5 (L + 8) (fun s => (zushr a3 s) &&& 255)) 2 1 5 (L + 12) (fun s => (zushr a4 s) &&& 255)) 2 1 5 (L + 16) (fun s => (zushr a5 s) &&& 255)
def feedM (I : zI) (L : Nat) (a1 a2 a3 a4 a5 : Int32) : zI := put4 (put4 (put4 (put4 (put4 I 79 72 13 L (fun s => (a1 >>> (s &&& 31)) &&& 255)) 79 72 13 (L + 4) (fun s => (a2 >>> (s &&& 31)) &&& 255)) 79 72 13 (L + 8) (fun s => (a3 >>> (s &&& 31)) &&& 255)) 79 72 13 (L + 12) (fun s => (a4 >>> (s &&& 31)) &&& 255)) 79 72 13 (L + 16) (fun s => (a5 >>> (s &&& 31)) &&& 255)
theorem feedC_s (g : zg) (a1 a2 a3 a4 a5 : Int32) {L : Nat} {M : zM} (hc : M.1 1 5 = nI L) (hL : L ≤ 400) : X_X11_feed g [.ref 0, .int a1, .int a2, .int a3, .int a4, .int a5] M = if L ≤ 380 then some (some (.int (nI (L + 20))), (feedC M.1 L a1 a2 a3 a4 a5, M.2)) else some (some (.int (-1)), M) := by
  have e : nI L + 20 = nI (L + 20) := by
    unfold nI
    rw [show (20 : Int32) = Int32.ofNat 20 from rfl, ← Int32.ofNat_add]
  have e2 : cGt (nI (L + 20)) 400 = decide (400 < L + 20) := cGt_nI (a := L + 20) (b := 400) (by omega) (by omega)
  rw [x_X11_feed_0, x_X9_hasRoom_0, hc, e, e2]
  by_cases h : L ≤ 380
  · rw [if_pos h, decide_eq_false (by omega), bif_f, zbI_s, cEq0_n (by decide), bif_f]
    rw [add_s g a1 hc (by omega), zbV_s, add_s g a2 (L := L + 4) (by dsimp only; exact put4_n) (by omega), zbV_s, add_s g a3 (L := L + 8) (by dsimp only; exact put4_n) (by omega), zbV_s, add_s g a4 (L := L + 12) (by dsimp only; exact put4_n) (by omega), zbV_s, add_s g a5 (L := L + 16) (by dsimp only; exact put4_n) (by omega), zbV_s]
    dsimp only
    rw [put4_n]
    rfl
  · rw [if_neg h, decide_eq_true (by omega), bif_t, zbI_s, cEq0_s rfl, bif_t]
theorem feedM_s (g : zg) (a1 a2 a3 a4 a5 : Int32) {L : Nat} {M : zM} (hc : M.1 72 13 = nI L) (hL : L ≤ 400) : X_X12_feed g [.ref 72, .int a1, .int a2, .int a3, .int a4, .int a5] M = if L ≤ 380 then some (some (.int (nI (L + 20))), (feedM (zu M.1 72 0 0) L a1 a2 a3 a4 a5, M.2)) else some (some (.int (-1)), ((zu M.1 72 0 0), M.2)) := by
  have e2 : cGt (nI L) 380 = decide (380 < L) := cGt_nI (a := L) (b := 380) (by omega) (by omega)
  rw [x_X12_feed_0, hc, e2]
  by_cases h : L ≤ 380
  · rw [if_pos h, decide_eq_false (by omega), bif_f]
    rw [types_s g a1 (L := L) (by dsimp only; rw [zu_ne2 (by omega)]; exact hc) (by omega), zbV_s, types_s g a2 (L := L + 4) (by dsimp only; exact put4_n) (by omega), zbV_s, types_s g a3 (L := L + 8) (by dsimp only; exact put4_n) (by omega), zbV_s, types_s g a4 (L := L + 12) (by dsimp only; exact put4_n) (by omega), zbV_s, types_s g a5 (L := L + 16) (by dsimp only; exact put4_n) (by omega), zbV_s]
    dsimp only
    rw [put4_n]
    rfl
  · rw [if_neg h, decide_eq_true (by omega), bif_t]
theorem TP4 {L : Nat} {I : zI} (h : TP L I) (hL : L + 4 ≤ 400) {a : Int32} : TP (L + 4) (put4 (put4 I 2 1 5 L (fun s => (zushr a s) &&& 255)) 79 72 13 L (fun s => (a >>> (s &&& 31)) &&& 255)) := by
  obtain ⟨h0, h1, h2, h3⟩ := h
  refine ⟨hL, ?_, put4_n, ?_⟩
  · rw [put4_ne (by omega) (by omega)]; exact put4_n
  · rw [put4_ne (by omega) (by omega), put4_row (by omega), put4_row (by omega), put4_ne (by omega) (by omega)]
    exact put4_alike h3 (fun s hs => byte_eq a hs)
