/-! PURE ROWS: rounds of pressure (moves, ahead, works) -/
def sF (la : Nat → Nat) : Nat → Nat → Nat
  | 0, _ => 0
  | f + 1, i => la i + sF la f (i + 1)
def rdF (la : Nat → Nat) (mv : Nat → Int32) : Nat → Nat → Nat → Int32
  | 0, _, _ => 0
  | f + 1, i, left => if left < la i then mv i else rdF la mv f (i + 1) (left - la i)
def mvA (la : Nat → Nat) (mv : Nat → Int32) (m d : Nat) : Int32 := if sF la m 0 = 0 then 0 else rdF la mv m 0 (d % sF la m 0)
/-- the rounds alike -/
def RO (m : Nat) (la : Nat → Nat) (mv : Nat → Int32) (I J : zI) : Prop :=
  m ≤ 12 ∧ I 17 3 = nI m ∧ J 72 35 = nI m ∧ I 17 2 = nI (sF la m 0) ∧ ∀ i, i < m → (1 ≤ la i ∧ la i ≤ 30) ∧ I 18 i = nI (la i) ∧ J 89 (2 * i) = nI (la i) ∧ I 19 i = mv i ∧ J 89 (2 * i + 1) = mv i
theorem RO_of {m : Nat} {la : Nat → Nat} {mv : Nat → Int32} {I J I' J' : zI} (h : RO m la mv I J) (h1 : I' 17 = I 17) (h2 : I' 18 = I 18) (h3 : I' 19 = I 19) (h4 : J' 72 35 = J 72 35) (h5 : J' 89 = J 89) : RO m la mv I' J' := by
  obtain ⟨a1, a2, a3, a4, a5⟩ := h
  refine ⟨a1, by rw [h1]; exact a2, h4.trans a3, by rw [h1]; exact a4, ?_⟩
  rw [h2, h3, h5]
  exact a5
theorem sF_le {la : Nat → Nat} (f : Nat) : ∀ i, (∀ j, i ≤ j → j < i + f → la j ≤ 30) → sF la f i ≤ 30 * f := by
  induction f with
  | zero => intro i _; exact Nat.le_refl 0
  | succ f ih =>
    intro i h
    have h1 := h i (by omega) (by omega)
    have h2 := ih (i + 1) (fun j a b => h j (by omega) (by omega))
    show la i + sF la f (i + 1) ≤ _
    omega
theorem sub_nI {a b : Nat} (h : b ≤ a) : nI a - nI b = nI (a - b) := nI_sub h
theorem moveOn_18 (g : zg) {m : Nat} {la : Nat → Nat} {mv : Nat → Int32} {M : zM} (hm : m ≤ 12) (h3 : M.1 17 3 = nI m) (hr : ∀ i, i < m → (1 ≤ la i ∧ la i ≤ 30) ∧ M.1 18 i = nI (la i) ∧ M.1 19 i = mv i) (f : Nat) : ∀ i left, i + f = m → left < 1000000 → zX (t_X7_moveOn g) 18 [some (.ref 17), none, some (.int (nI left)), some (.int (nI i))] [] M = some (some (.int (rdF la mv f i left)), M) := by
  induction f with
  | zero =>
    intro i left hi hl
    rw [e_X7_moveOn_18, h3, cLtF (by omega) (by omega), bif_f]
    rfl
  | succ f ih =>
    intro i left hi hl
    obtain ⟨⟨a1, a2⟩, a3, a4⟩ := hr i (by omega)
    rw [e_X7_moveOn_18, h3, cLtT (by omega) (by omega), bif_t, zbT (by omega) (by omega), bif_t, zx_nI (by omega), a3, a4, bif_t, bif_t, nI_s1]
    show _ = some (some (Value.int (if left < la i then mv i else rdF la mv f (i + 1) (left - la i))), M)
    by_cases hq : left < la i
    · rw [cLtT hq (by omega), bif_t, if_pos hq]
    · rw [cLtF (by omega) (by omega), bif_f, if_neg hq, nI_sub (by omega)]
      exact ih (i + 1) (left - la i) (by omega) (by omega)
theorem moveC_s (g : zg) {m d : Nat} {la : Nat → Nat} {mv : Nat → Int32} {M : zM} (hm : m ≤ 12) (h3 : M.1 17 3 = nI m) (h2 : M.1 17 2 = nI (sF la m 0)) (hr : ∀ i, i < m → (1 ≤ la i ∧ la i ≤ 30) ∧ M.1 18 i = nI (la i) ∧ M.1 19 i = mv i) (hd : d < 1000000) : X_X7_moveOn g [.ref 17, .int (nI d)] M = some (some (.int (mvA la mv m d)), M) := by
  have hs : sF la m 0 ≤ 30 * m := sF_le m 0 (fun j _ b => (hr j (by omega)).1.2)
  unfold mvA
  rw [x_X7_moveOn_0, h2, cGt0_nI (by omega)]
  by_cases h0 : sF la m 0 = 0
  · rw [decide_eq_false (by omega), bif_f, if_pos h0]
  · rw [decide_eq_true (by omega), bif_t, if_neg h0, decide_eq_false (nI_ne0 (by omega) (by omega)), irem_nI (by omega) (by omega) (by omega)]
    exact moveOn_18 g hm h3 hr m 0 (d % sF la m 0) (by omega) (by have := Nat.mod_le d (sF la m 0); omega)
theorem ix2 (i : Nat) : 2 * nI i = nI (2 * i) := by
  unfold nI
  rw [show (2 : Int32) = Int32.ofNat 2 from rfl, ← Int32.ofNat_mul]
theorem rounded_42 (g : zg) {m : Nat} {la : Nat → Nat} {mv : Nat → Int32} {N : zM} (hm : m ≤ 12) (hr : ∀ i, i < m → (1 ≤ la i ∧ la i ≤ 30) ∧ N.1 89 (2 * i) = nI (la i) ∧ N.1 89 (2 * i + 1) = mv i) (f : Nat) : ∀ i left, i + f = m → left < sF la f i → left < 1000000 → zX (t_X12_rounded g) 42 [some (.ref 72), none, none, some (.int (nI left)), some (.int (nI i))] [] N = some (some (.int (rdF la mv f i left)), N) := by
  induction f with
  | zero =>
    intro i left hi hs
    exact absurd hs (Nat.not_lt_zero _)
  | succ f ih =>
    intro i left hi hs hl
    have hs' : left < la i + sF la f (i + 1) := hs
    obtain ⟨⟨a1, a2⟩, a3, a4⟩ := hr i (by omega)
    rw [e_X12_rounded_42, ix2, zbT (by omega) (by omega), bif_t, zx_nI (by omega), a3, nI_s1, zbT (by omega) (by omega), bif_t, bif_t, zx_nI (by omega), a4, nI_s1]
    show _ = some (some (Value.int (if left < la i then mv i else rdF la mv f (i + 1) (left - la i))), N)
    by_cases hq : left < la i
    · rw [cLtT hq (by omega), bif_t, if_pos hq]
    · rw [cLtF (by omega) (by omega), bif_f, if_neg hq, nI_sub (by omega)]
      exact ih (i + 1) (left - la i) (by omega) (by omega) (by omega)
theorem rounded_4 (g : zg) {m d : Nat} {la : Nat → Nat} {mv : Nat → Int32} {N : zM} (hm : m ≤ 12) (h3 : N.1 72 35 = nI m) (hr : ∀ i, i < m → (1 ≤ la i ∧ la i ≤ 30) ∧ N.1 89 (2 * i) = nI (la i) ∧ N.1 89 (2 * i + 1) = mv i) (f : Nat) : ∀ i acc, i + f = m → zX (t_X12_rounded g) 4 [some (.ref 72), some (.int (nI d)), some (.int (nI acc)), some (.int (nI i)), none] [] N = zX (t_X12_rounded g) 4 [some (.ref 72), some (.int (nI d)), some (.int (nI (acc + sF la f i))), some (.int (nI m)), none] [] N := by
  induction f with
  | zero =>
    intro i acc hi
    rw [show i = m by omega]
    rfl
  | succ f ih =>
    intro i acc hi
    obtain ⟨⟨a1, a2⟩, a3, a4⟩ := hr i (by omega)
    rw [e_X12_rounded_4, h3, cLtT (by omega) (by omega), bif_t, ix2, zbT (by omega) (by omega), bif_t, zx_nI (by omega), a3, nI_ad2, nI_s1, ih (i + 1) (acc + la i) (by omega), Nat.add_assoc]
    rfl
theorem moveM_s (g : zg) {m d : Nat} {la : Nat → Nat} {mv : Nat → Int32} {N : zM} (hm : m ≤ 12) (h3 : N.1 72 35 = nI m) (hr : ∀ i, i < m → (1 ≤ la i ∧ la i ≤ 30) ∧ N.1 89 (2 * i) = nI (la i) ∧ N.1 89 (2 * i + 1) = mv i) (hd : d < 1000000) : X_X12_rounded g [.ref 72, .int (nI d)] N = some (some (.int (mvA la mv m d)), N) := by
  have hs : sF la m 0 ≤ 30 * m := sF_le m 0 (fun j _ b => (hr j (by omega)).1.2)
  unfold mvA
  rw [x_X12_rounded_0]
  refine (rounded_4 g (d := d) hm h3 hr m 0 0 (by omega)).trans ?_
  rw [Nat.zero_add, e_X12_rounded_4, h3, cLtF (Nat.le_refl m) (by omega), bif_f, cEq0_nI (by omega)]
  by_cases h0 : sF la m 0 = 0
  · rw [decide_eq_true h0, bif_t, if_pos h0]
  · rw [decide_eq_false h0, bif_f, if_neg h0, decide_eq_false (nI_ne0 (by omega) (by omega)), irem_nI (by omega) (by omega) (by omega)]
    exact rounded_42 g hm hr m 0 (d % sF la m 0) (by omega) (Nat.mod_lt _ (by omega)) (by have := Nat.mod_le d (sF la m 0); omega)
theorem RO_C {m : Nat} {la : Nat → Nat} {mv : Nat → Int32} {I J : zI} (h : RO m la mv I J) : ∀ i, i < m → (1 ≤ la i ∧ la i ≤ 30) ∧ I 18 i = nI (la i) ∧ I 19 i = mv i := fun i hi => ⟨(h.2.2.2.2 i hi).1, (h.2.2.2.2 i hi).2.1, (h.2.2.2.2 i hi).2.2.2.1⟩
theorem RO_M {m : Nat} {la : Nat → Nat} {mv : Nat → Int32} {I J : zI} (h : RO m la mv I J) : ∀ i, i < m → (1 ≤ la i ∧ la i ≤ 30) ∧ J 89 (2 * i) = nI (la i) ∧ J 89 (2 * i + 1) = mv i := fun i hi => ⟨(h.2.2.2.2 i hi).1, (h.2.2.2.2 i hi).2.2.1, (h.2.2.2.2 i hi).2.2.2.2⟩
theorem moveC_r (g : zg) {m d : Nat} {la : Nat → Nat} {mv : Nat → Int32} {M : zM} {J : zI} (h : RO m la mv M.1 J) (hd : d < 1000000) : X_X7_moveOn g [.ref 17, .int (nI d)] M = some (some (.int (mvA la mv m d)), M) := moveC_s g h.1 h.2.1 h.2.2.2.1 (RO_C h) hd
theorem moveM_r (g : zg) {m d : Nat} {la : Nat → Nat} {mv : Nat → Int32} {N : zM} {I : zI} (h : RO m la mv I N.1) (hd : d < 1000000) : X_X12_rounded g [.ref 72, .int (nI d)] N = some (some (.int (mvA la mv m d)), N) := moveM_s g h.1 h.2.2.1 (RO_M h) hd
theorem movesC_s (g : zg) (a : Int32) {m : Nat} {la : Nat → Nat} {mv : Nat → Int32} {M : zM} {J : zI} (h : RO m la mv M.1 J) : X_X11_moves g [.ref 0, .int a] M = some (some (.int (bif inb a 0 9999 then mvA la mv m (zx a) else -100)), M) := by
  rw [x_X11_moves_0, within_s, zbI_s, cEq0_b01]
  cases hi : inb a 0 9999
  · rfl
  · obtain ⟨d, hd, rfl⟩ := inb_ex (b := 9999) (by omega) hi
    rw [moveC_r g h (by omega), zbI_s, zx_nI (by omega)]
    rfl
theorem movesM_s (g : zg) (a : Int32) {m : Nat} {la : Nat → Nat} {mv : Nat → Int32} {N : zM} {I : zI} (h : RO m la mv I N.1) : X_X12_moves g [.ref 72, .int a] N = some (some (.int (bif inb a 0 9999 then mvA la mv m (zx a) else -100)), ((zu N.1 72 0 0), N.2)) := by
  rw [x_X12_moves_0, isIn_s, zbI_s, cEq0_b01]
  cases hi : inb a 0 9999
  · rfl
  · obtain ⟨d, hd, rfl⟩ := inb_ex (b := 9999) (by omega) hi
    have h' : RO m la mv I (zu N.1 72 0 0) := RO_of h rfl rfl rfl (zu_ne2 (by omega)) (zu_ne (by omega))
    rw [moveM_r g (N := ((zu N.1 72 0 0), N.2)) h' (by omega), zbI_s, zx_nI (by omega)]
    rfl
/-- pressure f days behind day d -/
def ghF (la : Nat → Nat) (mv : Nat → Int32) (m : Nat) : Nat → Nat → Int32 → Int32
  | 0, _, x => x
  | f + 1, d, x => ghF la mv m f (d + 1) (hld (x + mvA la mv m d) 0 99)
theorem behindG_s (g : zg) {m d : Nat} {la : Nat → Nat} {mv : Nat → Int32} {M : zM} {J : zI} (h : RO m la mv M.1 J) (hd : d < 1000000) (x : Int32) : X_X10_glassBehind g [.ref 6, .int x, .int (nI d)] M = some (some (.int (hld (x + mvA la mv m d) 0 99)), M) := by
  rw [x_X10_glassBehind_0, moveC_r g h hd, zbI_s, hold_s g (by decide), zbI_s]
theorem ahead_25 (g : zg) {m d n : Nat} {la : Nat → Nat} {mv : Nat → Int32} {M : zM} {J : zI} (h : RO m la mv M.1 J) (hn : n ≤ 99) (hd : d ≤ 9999) (hc : M.1 7 10 = nI d) (f : Nat) : ∀ i x, i + f = n → zX (t_X11_ahead g) 25 [some (.ref 0), some (.int (nI n)), some (.int x), some (.int (nI i))] [] M = some (some (.int (ghF la mv m f (d + i) x / 20)), M) := by
  induction f with
  | zero =>
    intro i x hi
    rw [e_X11_ahead_25, cLtF (by omega) (by omega), bif_f]
    rfl
  | succ f ih =>
    intro i x hi
    rw [e_X11_ahead_25, cLtT (by omega) (by omega), bif_t, hc, nI_ad2, behindG_s g h (by omega), zbI_s, nI_s1, ih (i + 1) _ (by omega)]
    rfl
theorem aheadM_7 (g : zg) {m d n : Nat} {la : Nat → Nat} {mv : Nat → Int32} {N : zM} {I : zI} (h : RO m la mv I N.1) (hn : n ≤ 99) (hd : d ≤ 9999) (hc : N.1 73 0 = nI d) (f : Nat) : ∀ i x, i + f = n → zX (t_X12_glassAhead g) 7 [some (.ref 72), some (.int (nI n)), some (.int x), some (.int (nI i))] [] N = some (some (.int (ghF la mv m f (d + i) x)), N) := by
  induction f with
  | zero =>
    intro i x hi
    rw [e_X12_glassAhead_7, cLtF (by omega) (by omega), bif_f]
    rfl
  | succ f ih =>
    intro i x hi
    rw [e_X12_glassAhead_7, cLtT (by omega) (by omega), bif_t, hc, nI_ad2, moveM_r g h (by omega), zbI_s, held_s, zbI_s, nI_s1, ih (i + 1) _ (by omega)]
    rfl
theorem inb1_ex {x : Int32} {b : Nat} {y : Int32} (hb : b < 2147483648) (hy : y = nI b) (h : inb x 1 y = true) : ∃ k, 1 ≤ k ∧ k ≤ b ∧ x = nI k := by
  subst hy
  have h0 : inb x 0 (nI b) = true := by
    unfold inb cLt cGt at h ⊢
    simp only [Bool.and_eq_true, Bool.not_eq_true', decide_eq_false_iff_not] at h ⊢
    refine ⟨?_, h.2⟩
    have h1 := h.1
    simp only [Int32.lt_iff_toInt_lt] at h1 ⊢
    have e0 : (0 : Int32).toInt = 0 := by decide
    have e1 : (1 : Int32).toInt = 1 := by decide
    omega
  obtain ⟨k, hk, rfl⟩ := inb_ex hb h0
  refine ⟨k, ?_, hk, rfl⟩
  rw [show (1 : Int32) = nI 1 from rfl, inb_nI (by omega) hb (by omega)] at h
  simp at h
  omega
def ahA (la : Nat → Nat) (mv : Nat → Int32) (m d : Nat) (x a : Int32) : Int32 := bif inb a 1 99 then ghF la mv m (zx a) d x / 20 else -1
theorem aheadC_s (g : zg) (a : Int32) {m d : Nat} {la : Nat → Nat} {mv : Nat → Int32} {M : zM} {J : zI} (h : RO m la mv M.1 J) (hd : d ≤ 9999) (hc : M.1 7 10 = nI d) : X_X11_ahead g [.ref 0, .int a] M = some (some (.int (ahA la mv m d (M.1 7 4) a)), M) := by
  unfold ahA
  rw [x_X11_ahead_0, within_s, zbI_s, cEq0_b01]
  cases hi : inb a 1 99
  · rfl
  · obtain ⟨n, h1, h2, rfl⟩ := inb1_ex (b := 99) (by omega) rfl hi
    rw [zx_nI (by omega)]
    exact ahead_25 g h h2 hd hc n 0 _ (by omega)
theorem aheadM_s (g : zg) (a : Int32) {m d : Nat} {la : Nat → Nat} {mv : Nat → Int32} {N : zM} {I : zI} (h : RO m la mv I N.1) (hd : d ≤ 9999) (hc : N.1 73 0 = nI d) : X_X12_ahead g [.ref 72, .int a] N = some (some (.int (ahA la mv m d (N.1 73 3 + 50) a)), ((zu N.1 72 0 0), N.2)) := by
  unfold ahA
  rw [x_X12_ahead_0, isIn_s, zbI_s, cEq0_b01]
  cases hi : inb a 1 99
  · rfl
  · obtain ⟨n, h1, h2, rfl⟩ := inb1_ex (b := 99) (by omega) rfl hi
    have h' : RO m la mv I (zu N.1 72 0 0) := RO_of h rfl rfl rfl (zu_ne2 (by omega)) (zu_ne (by omega))
    have e := aheadM_7 g (N := ((zu N.1 72 0 0), N.2)) h' h2 hd (by dsimp only; rw [zu_ne (by omega)]; exact hc) n 0 (N.1 73 3 + 50) (by omega)
    rw [zx_nI (by omega), Bool.not_true, bif_f, x_X12_glassAhead_0, x_X12_glass_0, zbI_s]
    dsimp only
    rw [zu_ne (show 73 ≠ 72 by omega), show (some (Value.int 0)) = some (.int (nI 0)) from rfl, e, zbI_s, x_X12_kindOf_0, zbI_s]
    rfl
