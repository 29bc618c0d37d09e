/-! PURE ROWS: ministers fall and are named -/
theorem bI_ne {u : Nat} (h : u < 10000) : ¬ bI (some u) = -1 := nI_ne1 (by omega)
theorem best_al (g : zg) {b : Bool} {c r n d : Nat} (hcr : CO c r) {M N : zM} (h : PR b c r n d M.1 N.1) (f : Nat) : ∀ (i : Nat) (bo : Option Nat), i + f = n → (∀ u, bo = some u → u < n) → ∃ bo' : Option Nat, (∀ u, bo' = some u → u < n) ∧ zX (t_X3_bestStanding g) 4 [some (.ref c), some (.int (bI bo)), some (.int (nI i))] [] M = some (some (.int (bI bo')), M) ∧ zX (t_X12_bestStanding g) 4 [some (.ref 72), some (.int (bI bo)), some (.int (nI i))] [] N = some (some (.int (bI bo')), N) := by
  obtain ⟨hn, hc, hm⟩ := PR_n h
  induction f with
  | zero =>
    intro i bo hi hb
    refine ⟨bo, hb, ?_, ?_⟩
    · rw [k_X3_bestStanding_4 g hcr, hc, cLtF (by omega) (by omega), bif_f]
    · rw [e_X12_bestStanding_4, hm, cLtF (by omega) (by omega), bif_f]
  | succ f ih =>
    intro i bo hi hb
    rw [k_X3_bestStanding_4 g hcr, hc, cLtT (by omega) (by omega), bif_t, servX g hcr hn hc (by omega), zbI_s, CR_gone h.1 (by omega), nI_s1, cEq0_b01]
    rw [e_X12_bestStanding_4, hm, cLtT (by omega) (by omega), bif_t, isHereN g (by omega), zbI_s, nI_s1, cEq0_b01]
    cases cEq0 (N.1 73 (38 + i))
    · exact ih (i + 1) bo (by omega) hb
    · rw [Bool.not_true, bif_f, bif_f]
      cases bo with
      | none => exact ih (i + 1) (some i) (by omega) (fun u e => by cases e; omega)
      | some u =>
        have hu := hb u rfl
        have eb : bI (some u) = nI u := rfl
        rw [cEq_n (bI_ne (by omega)), bif_f, bif_f, eb, getX g hcr (k := 4) (kk := 4) hn hc (by omega) (by omega) rfl rfl, zbI_s, getX g hcr (k := 4) (kk := 4) hn hc hu (by omega) rfl rfl, zbI_s, CR_std h.1 (by omega), CR_std h.1 hu, ix28, ix28, zbT (by omega) (by omega), bif_t, zbT (by omega) (by omega), bif_t, zx_nI (by omega), zx_nI (by omega)]
        cases cGt (N.1 73 (28 + i)) (N.1 73 (28 + u))
        · exact ih (i + 1) (some u) (by omega) hb
        · exact ih (i + 1) (some i) (by omega) (fun u e => by cases e; omega)
theorem best_s (g : zg) {b : Bool} {c r n d : Nat} (hcr : CO c r) {M N : zM} (h : PR b c r n d M.1 N.1) : ∃ bo : Option Nat, (∀ u, bo = some u → u < n) ∧ X_X3_bestStanding g [.ref c] M = some (some (.int (bI bo)), M) ∧ X_X12_bestStanding g [.ref 72] N = some (some (.int (bI bo)), N) := by
  obtain ⟨bo, h1, h2, h3⟩ := best_al g hcr h n 0 none (by omega) (fun u e => by cases e)
  exact ⟨bo, h1, (k_X3_bestStanding_0 g hcr M).trans h2, (x_X12_bestStanding_0 g N).trans h3⟩
/-- who fell first in thought, and when -/
def fel (J : zI) (d : Nat) : Option Nat → zI
  | none => J
  | some m => bif cEq (J 72 41) (-1) then zu (zu J 72 41 (nI m)) 72 42 (nI d) else J
theorem fel_ne {J : zI} {d a : Nat} (h : a ≠ 72) (fo : Option Nat) : fel J d fo a = J a := by
  cases fo with
  | none => rfl
  | some m =>
    unfold fel
    cases cEq (J 72 41) (-1)
    · rfl
    · show zu (zu J 72 41 (nI m)) 72 42 (nI d) a = J a
      rw [zu_ne h, zu_ne h]
theorem fel_ne2 {J : zI} {d k : Nat} (h1 : k ≠ 41) (h2 : k ≠ 42) (fo : Option Nat) : fel J d fo 72 k = J 72 k := by
  cases fo with
  | none => rfl
  | some m =>
    unfold fel
    cases cEq (J 72 41) (-1)
    · rfl
    · show zu (zu J 72 41 (nI m)) 72 42 (nI d) 72 k = J 72 k
      rw [zu_ne2 h2, zu_ne2 h1]
theorem PR_fel {b : Bool} {c r n d d' : Nat} {I J : zI} (fo : Option Nat) (h : PR b c r n d I J) : PR b c r n d I (fel J d' fo) := by
  obtain ⟨p1, p2, p3, p4, p5⟩ := h
  refine ⟨?_, ?_, p3, ?_, ?_⟩
  · unfold CRJ
    rw [fel_ne (show 73 ≠ 72 by omega), fel_ne (show 76 ≠ 72 by omega), fel_ne (show 77 ≠ 72 by omega)]
    exact CR_md p1 (fel_ne2 (by omega) (by omega) fo) (fel_ne2 (by omega) (by omega) fo) (fel_ne2 (by omega) (by omega) fo)
  · rw [fel_ne (by omega), fel_ne (by omega), fel_ne (by omega)]; exact p2
  · rw [fel_ne2 (by omega) (by omega)]; exact p4
  · rw [fel_ne (by omega), fel_ne (by omega)]; exact p5
theorem fall_al (g : zg) {b : Bool} {c r n d : Nat} (hcr : CO c r) {M N : zM} (h : PR b c r n d M.1 N.1) : ∃ (fo : Option Nat) (I' J' : zI), (∀ u, fo = some u → u < n) ∧ X_X10_fallAny g [.ref 6, .ref c] M = some (some (.int (bI fo)), (I', M.2)) ∧ X_X12_falling g [.ref 72] N = zX (t_X12_falling g) 91 [some (.ref 72), none, some (.int (b01 fo.isSome))] [] ((fel J' d fo), N.2) ∧ ST b c r n d M.1 N.1 I' J' := by
  obtain ⟨hn, hc, hm⟩ := PR_n h
  obtain ⟨w, hw, ew⟩ := h.2.1.2.2.1
  have e7 : M.1 c 7 = nI w - 1 := by rw [(CR_f h.1).2.2.2.2.2.2.2.1, ew]
  have e6 : M.1 c 6 = N.1 72 8 - 10 := (CR_f h.1).2.2.2.2.2.2.1
  have hcr' : c ≠ r := by rcases hcr with ⟨rfl, rfl⟩ | ⟨rfl, rfl⟩ <;> omega
  rw [k_X10_fallAny_0 g hcr, e7, x_X12_falling_0, x_X12_minister_0, zbI_s, ew]
  cases w with
  | zero =>
    refine ⟨none, M.1, N.1, (fun u e => by cases e), rfl, ?_, ST_rfl h⟩
    show zX (t_X12_falling g) 31 [some (.ref 72), some (.int (nI 0 - 1)), none] [.int 0] N = _
    rw [e_X12_falling_31]
    rfl
  | succ t =>
    rw [nI_p1, cEq_n (nI_ne1 (by omega)), bif_f, bif_f, getX g hcr (k := 4) (kk := 4) hn hc (by omega) (by omega) rfl rfl, zbI_s, CR_std h.1 (by omega), e6, ix28, zbT (by omega) (by omega), bif_t, zx_nI (by omega), x_X12_falls_0, zbI_s]
    cases cLt (N.1 73 (28 + t)) (N.1 72 8 - 10)
    · refine ⟨none, M.1, N.1, (fun u e => by cases e), rfl, ?_, ST_rfl h⟩
      rw [bif_f, e_X12_falling_31]
      rfl
    · have s1 : ST b c r n d M.1 N.1 (zu M.1 r (7 * t + 5) 1) (zu N.1 73 (38 + t) 1) := ST_cell hcr h (k := 5) (by omega) (by omega) (by omega) (Int32.sub_zero 1).symm (by omega) (by omega) (by omega)
      have s2 : ST b c r n d (zu M.1 r (7 * t + 5) 1) (zu N.1 73 (38 + t) 1) (zu (zu M.1 r (7 * t + 5) 1) c 7 (-1)) (zu (zu N.1 73 (38 + t) 1) 73 4 0) := ST_fld hcr s1.1 (Or.inr (Or.inr (Or.inl ⟨rfl, rfl, by decide⟩))) (by omega) (fun _ => ⟨0, by omega, rfl⟩)
      obtain ⟨I', J', q1, q2, q3, q4⟩ := note_alk g hcr 3 (nI t) (N.1 73 (28 + t)) (M := ((zu (zu M.1 r (7 * t + 5) 1) c 7 (-1)), M.2)) (N := ((zu (zu N.1 73 (38 + t) 1) 73 4 0), N.2)) s2.1
      have S := ST_tr (ST_tr s1 s2) q3
      refine ⟨some t, I', J', (fun u e => by cases e; omega), ?_, ?_, S⟩
      · rw [bif_t, putX g hcr (k := 5) (kk := 5) hn hc (by omega) (by omega) rfl rfl, zbV_s, getX g hcr (k := 4) (kk := 4) hn (by dsimp only; rw [zu_ne2 (by omega), zu_ne hcr']; exact hc) (show t < n by omega) (by omega) rfl rfl, zbI_s]
        dsimp only
        rw [zu_ne hcr'.symm, zu_ne2 (by omega), CR_std h.1 (by omega), q1, zbV_s]
        rfl
      · rw [bif_t, e_X12_falling_31, show cEq0 (1 : Int32) = false from by decide, bif_f, ix38, ix28, zbT (by omega) (by omega), bif_t, zbT (by omega) (by omega), bif_t, zx_nI (by omega), zx_nI (by omega), zu_ne2 (show 28 + t ≠ 4 by omega), zu_ne2 (show 28 + t ≠ 38 + t by omega), q2, zbV_s]
        dsimp only
        rw [show J' 73 0 = nI d from S.1.2.1.1]
        unfold fel
        cases cEq (J' 72 41) (-1) <;> rfl
theorem name_al (g : zg) {b : Bool} {c r n d : Nat} (hcr : CO c r) {M N : zM} (h : PR b c r n d M.1 N.1) (ok : Bool) : ∃ I' J', X_X10_nameAny g [.ref 6, .ref c] M = some (none, (I', M.2)) ∧ zX (t_X12_falling g) 91 [some (.ref 72), none, some (.int (b01 ok))] [] N = some (some (.int (b01 ok)), (J', N.2)) ∧ ST b c r n d M.1 N.1 I' J' := by
  obtain ⟨hn, hc, hm⟩ := PR_n h
  obtain ⟨w, hw, ew⟩ := h.2.1.2.2.1
  have e7 : M.1 c 7 = nI w - 1 := by rw [(CR_f h.1).2.2.2.2.2.2.2.1, ew]
  rw [k_X10_nameAny_0 g hcr, e7, e_X12_falling_91, x_X12_minister_0, zbI_s, ew, b01_and1]
  cases w with
  | succ t =>
    rw [nI_p1, cEq_n (nI_ne1 (by omega)), bif_f, bif_f, bif_t]
    exact ⟨M.1, N.1, rfl, rfl, ST_rfl h⟩
  | zero =>
    obtain ⟨bo, hb, q1, q2⟩ := best_s g hcr h
    rw [show cEq (nI 0 - 1) (-1) = true from by decide, bif_t, bif_t, q1, q2, zbI_s, zbI_s, q2, zbI_s, bif_t]
    cases bo with
    | none =>
      have s1 : ST b c r n d M.1 N.1 (zu M.1 c 7 (-1)) N.1 := by
        have := ST_fld hcr h (k := 7) (j := 4) (v := -1) (w := nI 0) (Or.inr (Or.inr (Or.inl ⟨rfl, rfl, by decide⟩))) (by omega) (fun _ => ⟨0, by omega, rfl⟩)
        rw [show zu N.1 73 4 (nI 0) = N.1 from by
          rw [zu_zr0]
          have e : upd1 (N.1 73) 4 (nI 0) = N.1 73 := by
            funext j
            by_cases hj : j = 4
            · subst hj; rw [upd1_eq]; exact ew.symm
            · rw [upd1_ne hj]
          rw [e, zr_self]] at this
        exact this
      exact ⟨_, N.1, rfl, rfl, s1⟩
    | some t =>
      have ht := hb t rfl
      have eb : bI (some t) = nI t := rfl
      have s1 : ST b c r n d M.1 N.1 (zu M.1 c 7 (nI t)) (zu N.1 73 4 (nI (t + 1))) := ST_fld hcr h (Or.inr (Or.inr (Or.inl ⟨rfl, rfl, (nI_p1 t).symm⟩))) (by omega) (fun _ => ⟨t + 1, ht, rfl⟩)
      obtain ⟨I', J', p1, p2, p3⟩ := note_al g hcr 4 (nI t) 0 (M := ((zu M.1 c 7 (nI t)), M.2)) (N := ((zu N.1 73 4 (nI (t + 1))), N.2)) s1.1
      rw [cEq_n (bI_ne (by omega)), bif_f, bif_f, eb, nI_s1, x_X12_minister_0, zbI_s]
      dsimp only
      rw [zu_eq, nI_p1, p1, p2, zbV_s, zbV_s]
      exact ⟨I', J', rfl, rfl, ST_tr s1 p3⟩
