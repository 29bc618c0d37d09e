/-! PURE ROWS: deeds, taps and the agenda on both sides -/
theorem PR_n {b : Bool} {c r n d : Nat} {I J : zI} (h : PR b c r n d I J) : n ≤ 10 ∧ I c 2 = nI n ∧ J 72 6 = nI n := ⟨h.1.1, h.1.2.1, h.1.2.2.1⟩
theorem isHereN (g : zg) {t : Nat} {N : zM} (ht : t < 10) : X_X12_isHere g [.ref 72, .int (nI t)] N = some (some (.int (b01 (cEq0 (N.1 73 (38 + t))))), N) := isHere_s g ht
theorem saidN (g : zg) {t : Nat} {N : zM} (ht : t < 10) : X_X12_saidBy g [.ref 72, .int (nI t)] N = some (some (.int (N.1 73 (48 + t) - 1)), N) := by
  rw [x_X12_saidBy_0, ix48, zbT (by omega) (by omega), bif_t, zx_nI (by omega)]
theorem allow_al (g : zg) {b : Bool} {c r n d w t : Nat} (hcr : CO c r) {v : Int32} {M N : zM} (h : PR b c r n d M.1 N.1) (hw : w ≤ 4) (ht : t < n) (h1 : w = 1 → inb v 0 99 = true) (h2 : w = 2 → inb v 0 4 = true) : ∃ ok, X_X3_allows g [.ref c, .int (nI w), .int (nI t), .int v] M = some (some (.int (b01 ok)), M) ∧ X_X12_canAct g [.ref 72, .int (nI w), .int (nI t)] N = some (some (.int (b01 ok)), N) := by
  obtain ⟨hn, hc, hm⟩ := PR_n h
  have hk : w = 0 ∨ w = 1 ∨ w = 2 ∨ w = 3 ∨ w = 4 := by omega
  rw [k_X3_allows_0 g hcr, x_X12_canAct_0, hasX g hcr, zbI_s, hc, hsB_nI hn ht, cEq0_b01, Bool.not_true, bif_f]
  rcases hk with rfl | rfl | rfl | rfl | rfl
  · refine ⟨cEq0 (N.1 73 (38 + t)), ?_, ?_⟩
    · show zbI (X_X3_serving g [.ref c, .int (nI t)] M) _ = _
      rw [servX g hcr hn hc ht, zbI_s, b01_and1, bif_t, CR_get h.1 ht (k := 5) (by omega)]
    · show zbI (X_X12_isHere g [.ref 72, .int (nI t)] N) _ = _
      rw [isHereN g (by omega), zbI_s, b01_and1, bif_t]
  · refine ⟨true, ?_, rfl⟩
    show zbI (X_X11_within g [.int v, .int 0, .int 99] M) _ = _
    rw [within_s, zbI_s, h1 rfl, b01_and1, bif_t]
  · refine ⟨true, ?_, rfl⟩
    show zbI (X_X11_within g [.int v, .int 0, .int 4] M) _ = _
    rw [within_s, zbI_s, h2 rfl, b01_and1, bif_t]
  · obtain ⟨⟨x, hx, ex⟩, _⟩ := h.2.1.2.2.2 t ht
    refine ⟨decide (0 < x), ?_, ?_⟩
    · show zbI (X_X3_get g [.ref c, .int (nI t), .int 3] M) _ = _
      rw [getX g hcr (k := 3) (kk := 3) hn hc ht (by omega) rfl rfl, zbI_s, CR_get1 h.1 ht (k := 3) (by omega)]
      show (bif cEq (N.1 73 (18 + t) - 1) (-1) then _ else _) = _
      rw [ex]
      cases x with
      | zero => rfl
      | succ x => rw [nI_p1, cEq_n (nI_ne1 (by omega)), bif_f, decide_eq_true (by omega)]; rfl
    · show (bif zb (18 + nI t) 148 then (bif cGt0 (N.1 73 (zx (18 + nI t))) then some (some (Value.int 1), N) else some (some (.int 0), N)) else none) = _
      rw [ix18, zbT (by omega) (by omega), bif_t, zx_nI (by omega), ex, cGt0_nI (by omega), cif01]
  · refine ⟨!cEq0 (N.1 73 (38 + t)), ?_, ?_⟩
    · show zbI (X_X3_serving g [.ref c, .int (nI t)] M) _ = _
      rw [servX g hcr hn hc ht, zbI_s, CR_get h.1 ht (k := 5) (by omega), cEq0_b01, cif01]
    · show zbI (X_X12_isHere g [.ref 72, .int (nI t)] N) _ = _
      rw [isHereN g (by omega), zbI_s, cEq0_b01, cif01]
/-- a deed carried out on both sides -/
theorem deed_al (g : zg) {b : Bool} {c r n d w t : Nat} (hcr : CO c r) {v : Int32} {M N : zM} (h : PR b c r n d M.1 N.1) (hw : w ≤ 4) (ht : t < n) (h2 : w = 2 → inb v 0 4 = true) : ∃ I' J', X_X10_carryOut g [.ref 6, .ref c, .int (nI w), .int (nI t), .int v] M = some (none, (I', M.2)) ∧ X_X12_acts g [.ref 72, .int (nI w), .int (nI t), .int v] N = some (none, (J', N.2)) ∧ ST b c r n d M.1 N.1 I' J' := by
  obtain ⟨hn, hc, hm⟩ := PR_n h
  have hcr' : c ≠ r := by rcases hcr with ⟨rfl, rfl⟩ | ⟨rfl, rfl⟩ <;> omega
  have hk : w = 0 ∨ w = 1 ∨ w = 2 ∨ w = 3 ∨ w = 4 := by omega
  rw [k_X10_carryOut_0 g hcr, x_X12_acts_0]
  rcases hk with rfl | rfl | rfl | rfl | rfl
  · have s1 : ST b c r n d M.1 N.1 (zu M.1 c 7 (nI t)) (zu N.1 73 4 (nI (t + 1))) := ST_fld hcr h (Or.inr (Or.inr (Or.inl ⟨rfl, rfl, (nI_p1 t).symm⟩))) (by omega) (fun _ => ⟨t + 1, ht, rfl⟩)
    obtain ⟨I', J', q1, q2, s2⟩ := note_al g hcr (4 + nI 0) (nI t) 0 (M := ((zu M.1 c 7 (nI t)), M.2)) (N := ((zu N.1 73 4 (nI (t + 1))), N.2)) s1.1
    refine ⟨I', J', ?_, ?_, ST_tr s1 s2⟩
    · show zbV (X_X1_write g [.ref 25, .ref c, .int (4 + nI 0), .int (nI t), .int 0] ((zu M.1 c 7 (nI t)), M.2)) _ = _
      rw [q1, zbV_s]
    · show zX (t_X12_acts g) 44 [some (.ref 72), some (.int (nI 0)), some (.int (nI t)), some (.int v)] [] ((zu N.1 73 4 (nI t + 1)), N.2) = _
      rw [nI_s1, e_X12_acts_44]
      show zX (t_X12_acts g) 76 [some (.ref 72), some (.int (nI 0)), some (.int (nI t)), some (.int v)] [] ((zu N.1 73 4 (nI (t + 1))), N.2) = _
      rw [e_X12_acts_76]
      show zbV (X_X12_notes g [.ref 72, .int (4 + nI 0), .int (nI t), .int 0] ((zu N.1 73 4 (nI (t + 1))), N.2)) _ = _
      rw [q2, zbV_s]
  · have s1 : ST b c r n d M.1 N.1 (zu M.1 r (7 * t + 2) v) (zu N.1 73 (8 + t) v) := ST_cell hcr h (k := 2) ht (by omega) (by omega) (Int32.sub_zero v).symm (by omega) (by omega) (by omega)
    have e6 : zu M.1 r (7 * t + 2) v c 9 = zu N.1 73 (8 + t) v 73 6 := (CR_f s1.1.1).2.2.2.2.2.2.2.2.2.1
    have s2 := ST_fld hcr s1.1 (k := 9) (j := 6) (v := zu M.1 r (7 * t + 2) v c 9 - v) (w := zu N.1 73 (8 + t) v 73 6 - v) (Or.inr (Or.inr (Or.inr (Or.inr ⟨rfl, rfl, by rw [e6]⟩)))) (by omega) (by omega)
    obtain ⟨I', J', q1, q2, s3⟩ := note_al g hcr (4 + nI 1) (nI t) v (M := ((zu (zu M.1 r (7 * t + 2) v) c 9 (zu M.1 r (7 * t + 2) v c 9 - v)), M.2)) (N := ((zu (zu N.1 73 (8 + t) v) 73 6 (zu N.1 73 (8 + t) v 73 6 - v)), N.2)) s2.1
    refine ⟨I', J', ?_, ?_, ST_tr (ST_tr s1 s2) s3⟩
    · show zbV (X_X3_put g [.ref c, .int (nI t), .int 2, .int v] M) _ = _
      rw [putX g hcr (k := 2) (kk := 2) hn hc ht (by omega) rfl rfl, zbV_s]
      dsimp only
      rw [q1, zbV_s]
    · show (bif zb (8 + nI t) 148 then zX (t_X12_acts g) 44 [some (.ref 72), some (.int (nI 1)), some (.int (nI t)), some (.int v)] [] ((zu (zu N.1 73 (zx (8 + nI t)) v) 73 6 (((zu N.1 73 (zx (8 + nI t)) v) 73 6) - v)), N.2) else none) = _
      rw [ix8, zbT (by omega) (by omega), bif_t, zx_nI (by omega), e_X12_acts_44]
      show zX (t_X12_acts g) 76 [some (.ref 72), some (.int (nI 1)), some (.int (nI t)), some (.int v)] [] _ = _
      rw [e_X12_acts_76]
      show zbV (X_X12_notes g [.ref 72, .int (4 + nI 1), .int (nI t), .int v] _) _ = _
      rw [q2, zbV_s]
  · obtain ⟨x, hx, rfl⟩ := inb_ex (b := 4) (by omega) (h2 rfl)
    have s1 : ST b c r n d M.1 N.1 (zu M.1 r (7 * t + 3) (nI x)) (zu N.1 73 (18 + t) (nI (x + 1))) := ST_cell hcr h (k := 3) ht (by omega) (by omega) (nI_p1 x).symm (fun _ => ⟨x + 1, by omega, rfl⟩) (by omega) (by omega)
    obtain ⟨I', J', q1, q2, s3⟩ := note_al g hcr (4 + nI 2) (nI t) (nI x) (M := ((zu M.1 r (7 * t + 3) (nI x)), M.2)) (N := ((zu N.1 73 (18 + t) (nI (x + 1))), N.2)) s1.1
    refine ⟨I', J', ?_, ?_, ST_tr s1 s3⟩
    · show zbV (X_X3_put g [.ref c, .int (nI t), .int 3, .int (nI x)] M) _ = _
      rw [putX g hcr (k := 3) (kk := 3) hn hc ht (by omega) rfl rfl, zbV_s, q1, zbV_s]
    · show zX (t_X12_acts g) 44 [some (.ref 72), some (.int (nI 2)), some (.int (nI t)), some (.int (nI x))] [] N = _
      rw [e_X12_acts_44]
      show (bif zb (18 + nI t) 148 then zX (t_X12_acts g) 76 [some (.ref 72), some (.int (nI 2)), some (.int (nI t)), some (.int (nI x))] [] ((zu N.1 73 (zx (18 + nI t)) (nI x + 1)), N.2) else none) = _
      rw [ix18, zbT (by omega) (by omega), bif_t, zx_nI (by omega), nI_s1, e_X12_acts_76]
      show zbV (X_X12_notes g [.ref 72, .int (4 + nI 2), .int (nI t), .int (nI x)] _) _ = _
      rw [q2, zbV_s]
  · have s1 : ST b c r n d M.1 N.1 (zu M.1 r (7 * t + 3) (-1)) (zu N.1 73 (18 + t) 0) := ST_cell hcr h (k := 3) ht (by omega) (by omega) (by decide) (fun _ => ⟨0, by omega, rfl⟩) (by omega) (by omega)
    obtain ⟨I', J', q1, q2, s3⟩ := note_al g hcr (4 + nI 3) (nI t) 0 (M := ((zu M.1 r (7 * t + 3) (-1)), M.2)) (N := ((zu N.1 73 (18 + t) 0), N.2)) s1.1
    refine ⟨I', J', ?_, ?_, ST_tr s1 s3⟩
    · show zbV (X_X3_put g [.ref c, .int (nI t), .int 3, .int (-1)] M) _ = _
      rw [putX g hcr (k := 3) (kk := 3) hn hc ht (by omega) rfl rfl, zbV_s, q1, zbV_s]
    · show zX (t_X12_acts g) 44 [some (.ref 72), some (.int (nI 3)), some (.int (nI t)), some (.int v)] [] N = _
      rw [e_X12_acts_44]
      show (bif zb (18 + nI t) 148 then zX (t_X12_acts g) 76 [some (.ref 72), some (.int (nI 3)), some (.int (nI t)), some (.int v)] [] ((zu N.1 73 (zx (18 + nI t)) 0), N.2) else none) = _
      rw [ix18, zbT (by omega) (by omega), bif_t, zx_nI (by omega), e_X12_acts_76]
      show zbV (X_X12_notes g [.ref 72, .int (4 + nI 3), .int (nI t), .int 0] _) _ = _
      rw [q2, zbV_s]
  · have s1 : ST b c r n d M.1 N.1 (zu M.1 r (7 * t + 5) 0) (zu N.1 73 (38 + t) 0) := ST_cell hcr h (k := 5) ht (by omega) (by omega) (Int32.sub_zero 0).symm (by omega) (by omega) (by omega)
    have s2 : ST b c r n d (zu M.1 r (7 * t + 5) 0) (zu N.1 73 (38 + t) 0) (zu (zu M.1 r (7 * t + 5) 0) r (7 * t + 4) 0) (zu (zu N.1 73 (38 + t) 0) 73 (28 + t) 0) := ST_cell hcr s1.1 (k := 4) ht (by omega) (by omega) (Int32.sub_zero 0).symm (by omega) (fun _ => by decide) (by omega)
    obtain ⟨I', J', q1, q2, s3⟩ := note_al g hcr (4 + nI 4) (nI t) 0 (M := ((zu (zu M.1 r (7 * t + 5) 0) r (7 * t + 4) 0), M.2)) (N := ((zu (zu N.1 73 (38 + t) 0) 73 (28 + t) 0), N.2)) s2.1
    refine ⟨I', J', ?_, ?_, ST_tr (ST_tr s1 s2) s3⟩
    · show zbV (X_X3_put g [.ref c, .int (nI t), .int 5, .int 0] M) _ = _
      rw [putX g hcr (k := 5) (kk := 5) hn hc ht (by omega) rfl rfl, zbV_s, putX g hcr (k := 4) (kk := 4) hn (by dsimp only; rw [zu_ne hcr']; exact hc) ht (by omega) rfl rfl, zbV_s, q1, zbV_s]
    · show zX (t_X12_acts g) 44 [some (.ref 72), some (.int (nI 4)), some (.int (nI t)), some (.int v)] [] N = _
      rw [e_X12_acts_44]
      show zX (t_X12_acts g) 76 [some (.ref 72), some (.int (nI 4)), some (.int (nI t)), some (.int v)] [] N = _
      rw [e_X12_acts_76]
      show (bif zb (38 + nI t) 148 then (bif zb (28 + nI t) 148 then zbV (X_X12_notes g [.ref 72, .int (4 + nI 4), .int (nI t), .int 0] ((zu (zu N.1 73 (zx (38 + nI t)) 0) 73 (zx (28 + nI t)) 0), N.2)) (fun M3 => some (none, M3)) else none) else none) = _
      rw [ix38, ix28, zbT (by omega) (by omega), bif_t, zbT (by omega) (by omega), bif_t, zx_nI (by omega), zx_nI (by omega), q2, zbV_s]
/-- all that serve are tapped -/
theorem taps_al (g : zg) {b : Bool} {c r n d : Nat} (hcr : CO c r) (f : Nat) : ∀ (i : Nat) (M N : zM), PR b c r n d M.1 N.1 → i + f = n → ∃ I' J', zX (t_X3_tapAll g) 2 [some (.ref c), some (.int (nI i))] [] M = some (none, (I', M.2)) ∧ zX (t_X12_taps g) 2 [some (.ref 72), some (.int (nI i))] [] N = some (none, (J', N.2)) ∧ ST b c r n d M.1 N.1 I' J' := by
  induction f with
  | zero =>
    intro i M N h hi
    obtain ⟨hn, hc, hm⟩ := PR_n h
    refine ⟨M.1, N.1, ?_, ?_, ST_rfl h⟩
    · rw [k_X3_tapAll_2 g hcr, hc, cLtF (by omega) (by omega), bif_f]
    · rw [e_X12_taps_2, hm, cLtF (by omega) (by omega), bif_f]
  | succ f ih =>
    intro i M N h hi
    obtain ⟨hn, hc, hm⟩ := PR_n h
    obtain ⟨⟨x, hx, ex⟩, _⟩ := h.2.1.2.2.2 i (by omega)
    rw [k_X3_tapAll_2 g hcr, hc, cLtT (by omega) (by omega), bif_t, servX g hcr hn hc (by omega), zbI_s, CR_get h.1 (by omega) (k := 5) (by omega), nI_s1]
    rw [e_X12_taps_2, hm, cLtT (by omega) (by omega), bif_t, isHereN g (by omega), zbI_s, nI_s1]
    show ∃ I' J', (bif cEq0 (b01 (cEq0 (N.1 73 (38 + i)))) then _ else _) = _ ∧ _
    rw [cEq0_b01]
    cases cEq0 (N.1 73 (38 + i))
    · exact ih (i + 1) M N h (by omega)
    · rw [Bool.not_true, bif_f, bif_f, getX g hcr (k := 3) (kk := 3) hn hc (by omega) (by omega) rfl rfl, zbI_s, CR_get1 h.1 (by omega) (k := 3) (by omega), ix18, zbT (by omega) (by omega), bif_t, zx_nI (by omega)]
      show ∃ I' J', (bif cEq (N.1 73 (18 + i) - 1) (-1) then _ else _) = _ ∧ _
      have e6 : M.1 c 9 = N.1 73 6 := (CR_f h.1).2.2.2.2.2.2.2.2.2.1
      have go : ∀ y : Int32, ∃ I' J', zX (t_X3_tapAll g) 2 [some (.ref c), some (.int (nI (i + 1)))] [] ((zu M.1 c 9 (M.1 c 9 + y)), M.2) = some (none, (I', M.2)) ∧ zX (t_X12_taps g) 2 [some (.ref 72), some (.int (nI (i + 1)))] [] ((zu N.1 73 6 (N.1 73 6 + y)), N.2) = some (none, (J', N.2)) ∧ ST b c r n d M.1 N.1 I' J' := by
        intro y
        have s1 := ST_fld hcr h (k := 9) (j := 6) (v := M.1 c 9 + y) (w := N.1 73 6 + y) (Or.inr (Or.inr (Or.inr (Or.inr ⟨rfl, rfl, by rw [e6]⟩)))) (by omega) (by omega)
        obtain ⟨I', J', q1, q2, s2⟩ := ih (i + 1) ((zu M.1 c 9 (M.1 c 9 + y)), M.2) ((zu N.1 73 6 (N.1 73 6 + y)), N.2) s1.1 (by omega)
        exact ⟨I', J', q1, q2, ST_tr s1 s2⟩
      rw [ex, cEq0_nI (by omega)]
      cases x with
      | zero => exact go 1
      | succ x =>
        rw [nI_p1, cEq_n (nI_ne1 (by omega)), bif_f, decide_eq_false (by omega), bif_f]
        exact go (-1)
/-- the agendas alike -/
def AG (m n : Nat) (dy wt wm mu : Nat → Nat) (I J : zI) : Prop := m ≤ 16 ∧ I 20 4 = nI m ∧ J 72 37 = nI m ∧ ∀ i, i < m → (I 21 i = nI (dy i) ∧ J 90 (4 * i) = nI (dy i) ∧ I 22 i = nI (wt i) ∧ J 90 (4 * i + 1) = nI (wt i) ∧ wt i ≤ 5) ∧ (wt i ≤ 4 → (I 23 i = nI (wm i) ∧ J 90 (4 * i + 2) = nI (wm i) ∧ wm i < n) ∧ (I 24 i = nI (mu i) ∧ J 90 (4 * i + 3) = nI (mu i) ∧ (wt i = 1 → inb (nI (mu i)) 0 99 = true) ∧ (wt i = 2 → inb (nI (mu i)) 0 4 = true)))
theorem AG_of {m n : Nat} {dy wt wm mu : Nat → Nat} {I J I' J' : zI} (h : AG m n dy wt wm mu I J) (h0 : I' 20 = I 20) (h1 : I' 21 = I 21) (h2 : I' 22 = I 22) (h3 : I' 23 = I 23) (h4 : I' 24 = I 24) (h5 : J' 72 37 = J 72 37) (h6 : J' 90 = J 90) : AG m n dy wt wm mu I' J' := by
  obtain ⟨a1, a2, a3, a4⟩ := h
  refine ⟨a1, by rw [h0]; exact a2, h5.trans a3, ?_⟩
  rw [h1, h2, h3, h4, h6]
  exact a4
theorem AG_st {m n : Nat} {dy wt wm mu : Nat → Nat} {c r : Nat} (hcr : CO c r) {I J I' J' : zI} (h : AG m n dy wt wm mu I J) (h1 : PF c r I I') (h2 : QF J J') : AG m n dy wt wm mu I' J' := by
  have p : ∀ a, 20 ≤ a → a ≤ 24 → I' a = I a := fun a u1 u2 => h1.1 a (by rcases hcr with ⟨rfl, rfl⟩ | ⟨rfl, rfl⟩ <;> omega) (by rcases hcr with ⟨rfl, rfl⟩ | ⟨rfl, rfl⟩ <;> omega) (by omega) (by omega) (by omega)
  exact AG_of h (p 20 (by omega) (by omega)) (p 21 (by omega) (by omega)) (p 22 (by omega) (by omega)) (p 23 (by omega) (by omega)) (p 24 (by omega) (by omega)) (h2.2.1 37) (h2.1 90 (by omega) (by omega) (by omega) (by omega) (by omega))
theorem agenda_al (g : zg) {b : Bool} {c r n d m : Nat} {dy wt wm mu : Nat → Nat} (hcr : CO c r) (f : Nat) : ∀ (i : Nat) (M N : zM), PR b c r n d M.1 N.1 → AG m n dy wt wm mu M.1 N.1 → i + f = m → ∃ I' J', zX (t_X10_followAgenda g) 2 [some (.ref 6), some (.ref c), some (.int (nI i))] [] M = some (none, (I', M.2)) ∧ zX (t_X12_goesBy g) 2 [some (.ref 72), some (.int (nI i))] [] N = zX (t_X12_goesBy g) 42 [some (.ref 72), some (.int 0)] [] (J', N.2) ∧ ST b c r n d M.1 N.1 I' J' := by
  induction f with
  | zero =>
    intro i M N h ha hi
    obtain ⟨a1, a2, a3, _⟩ := ha
    refine ⟨M.1, N.1, ?_, ?_, ST_rfl h⟩
    · rw [k_X10_followAgenda_2 g hcr, a2, cLtF (by omega) (by omega), bif_f]
    · rw [e_X12_goesBy_2, a3, cLtF (by omega) (by omega), bif_f]
  | succ f ih =>
    intro i M N h ha hi
    have ha' := ha
    obtain ⟨a1, a2, a3, a4⟩ := ha
    obtain ⟨⟨b1, b2, b3, b4, b5⟩, b6⟩ := a4 i (by omega)
    have e4 : 4 * nI i = nI (4 * i) := by
      have := ix4' i 0
      rw [show 4 * nI i + nI 0 = 4 * nI i from Int32.add_zero _] at this
      exact this
    have hday : M.1 c 10 = N.1 73 0 := (CR_f h.1).2.2.2.2.2.2.2.2.2.2.1
    rw [k_X10_followAgenda_2 g hcr, a2, cLtT (by omega) (by omega), bif_t, zbT (by omega) (by omega), bif_t, zx_nI (by omega), b1, hday, nI_s1, bif_t, bif_t, bif_t, bif_t, b3]
    rw [e_X12_goesBy_2, a3, cLtT (by omega) (by omega), bif_t, e4, zbT (by omega) (by omega), bif_t, zx_nI (by omega), b2, nI_s1]
    show ∃ I' J', (bif cEq (nI (dy i)) (N.1 73 0) then _ else _) = _ ∧ _
    cases cEq (nI (dy i)) (N.1 73 0)
    · exact ih (i + 1) M N h ha' (by omega)
    · rw [bif_t, bif_t, cEq_lit (m := wt i) (k := 5) (y := 5) (by omega) (by omega) rfl, x_X12_does_0, nI_s1, show nI (4 * i) + 2 = nI (4 * i + 2) from nI_ad2 (4 * i) 2, show nI (4 * i) + 3 = nI (4 * i + 3) from nI_ad2 (4 * i) 3, zbT (by omega) (by omega), bif_t, zx_nI (by omega), b4, cEq_lit (m := wt i) (k := 5) (y := 5) (by omega) (by omega) rfl]
      by_cases h5 : wt i = 5
      · rw [decide_eq_true h5, bif_t, bif_t, k_X3_tapAll_0 g hcr, x_X12_taps_0]
        obtain ⟨I1, J1, q1, q2, s1⟩ := taps_al g hcr n 0 M N h (by omega)
        rw [show zX (t_X3_tapAll g) 2 [some (.ref c), some (.int 0)] [] M = _ from q1, show zX (t_X12_taps g) 2 [some (.ref 72), some (.int 0)] [] N = _ from q2, zbV_s, zbV_s, zbV_s]
        obtain ⟨I', J', p1, p2, s2⟩ := ih (i + 1) (I1, M.2) (J1, N.2) s1.1 (AG_st hcr ha' s1.2.1 s1.2.2) (by omega)
        exact ⟨I', J', p1, p2, ST_tr s1 s2⟩
      · obtain ⟨⟨c1, c2, c3⟩, c4, c5, c6, c7⟩ := b6 (by omega)
        obtain ⟨ok, o1, o2⟩ := allow_al g hcr (w := wt i) (t := wm i) (v := nI (mu i)) h (by omega) c3 c6 c7
        rw [decide_eq_false h5, bif_f, bif_f, c1, c4, o1, zbI_s, cEq0_b01, bif_t, zbT (by omega) (by omega), bif_t, zx_nI (by omega), c2, o2, zbI_s, cEq0_b01]
        cases ok
        · exact ih (i + 1) M N h ha' (by omega)
        · obtain ⟨I1, J1, q1, q2, s1⟩ := deed_al g hcr (w := wt i) (t := wm i) (v := nI (mu i)) h (by omega) c3 c7
          rw [Bool.not_true, bif_f, bif_f, bif_t, bif_t, bif_t, bif_t, bif_t, zbT (by omega) (by omega), bif_t, zx_nI (by omega), b3, c1, c4, b4, c2, c5, q1, q2, zbV_s, zbV_s, zbV_s]
          obtain ⟨I', J', p1, p2, s2⟩ := ih (i + 1) (I1, M.2) (J1, N.2) s1.1 (AG_st hcr ha' s1.2.1 s1.2.2) (by omega)
          exact ⟨I', J', p1, p2, ST_tr s1 s2⟩
