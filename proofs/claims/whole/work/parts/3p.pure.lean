/-! PURE ROWS: the law's lines on both sides -/
/-- the laws alike: m lines; words, places and codes -/
def LW (m : Nat) (wd fr wh en o k : Nat → Nat) (I J : zI) : Prop :=
  m ≤ 16 ∧ I 9 8 = nI m ∧ J 81 0 = nI m ∧
  ∀ l, l < m → (wd l < 3 ∧ I 10 l = nI (137 + wd l) ∧ J 82 l = nI (wd l)) ∧ (I 11 l = nI (fr l) ∧ J 83 l = nI (fr l) ∧ I 12 l = nI (wh l) ∧ J 84 l = nI (wh l) ∧ I 13 l = nI (en l) ∧ J 85 l = nI (en l)) ∧ (fr l ≤ wh l ∧ wh l ≤ en l ∧ en l ≤ 400) ∧ (∃ x, tyR o k (wh l - fr l) (fr l) [] [x]) ∧ (wh l < en l → tyR o k (en l - wh l) (wh l) [] [1]) ∧ ∀ j, fr l ≤ j → j < en l → I 14 j = cdOf (o j) (k j) ∧ J 86 j = nI (o j) ∧ J 87 j = nI (k j)
theorem LW_of {m : Nat} {wd fr wh en o k : Nat → Nat} {I J I' J' : zI} (h : LW m wd fr wh en o k I J) (h9 : I' 9 8 = I 9 8) (h10 : I' 10 = I 10) (h11 : I' 11 = I 11) (h12 : I' 12 = I 12) (h13 : I' 13 = I 13) (h14 : I' 14 = I 14) (h81 : J' 81 0 = J 81 0) (h82 : J' 82 = J 82) (h83 : J' 83 = J 83) (h84 : J' 84 = J 84) (h85 : J' 85 = J 85) (h86 : J' 86 = J 86) (h87 : J' 87 = J 87) : LW m wd fr wh en o k I' J' := by
  obtain ⟨a1, a2, a3, a4⟩ := h
  refine ⟨a1, h9.trans a2, h81.trans a3, ?_⟩
  rw [h10, h11, h12, h13, h14, h82, h83, h84, h85, h86, h87]
  exact a4
theorem law_ans (g : zg) {m : Nat} {wd fr wh en o k : Nat → Nat} {M N : zM} (h : LW m wd fr wh en o k M.1 N.1) (hfa : ∀ j, j < 9 → M.1 16 j = N.1 91 j) {w : Nat} (hw : w < 3) (d : Int32) (f : Nat) : ∀ (i : Nat) (cs rs : Nat → Int32), i + f = m → ∃ cs' rs',
    (∃ l v rs1, l < m ∧ zX (t_X4_answer g) 11 [some (.ref 9), some (.int (nI (137 + w))), none, some (.int d), some (.int (nI i))] [] ((zr M.1 15 cs), M.2) = some (some (.int v), ((zr M.1 15 cs'), M.2)) ∧ zX (t_X12_lineOf g) 2 [some (.ref 72), some (.int (nI w)), some (.int (nI i))] [] ((zr N.1 92 rs), N.2) = some (some (.int (nI l)), ((zr N.1 92 rs1), N.2)) ∧ X_X12_runs g [.ref 72, .int 0, .int (N.1 83 l), .int (N.1 84 l)] ((zr N.1 92 rs1), N.2) = some (some (.int v), ((zr N.1 92 rs'), N.2))) ∨
    (zX (t_X4_answer g) 11 [some (.ref 9), some (.int (nI (137 + w))), none, some (.int d), some (.int (nI i))] [] ((zr M.1 15 cs), M.2) = some (some (.int d), ((zr M.1 15 cs'), M.2)) ∧ zX (t_X12_lineOf g) 2 [some (.ref 72), some (.int (nI w)), some (.int (nI i))] [] ((zr N.1 92 rs), N.2) = some (some (.int (-1)), ((zr N.1 92 rs'), N.2))) := by
  obtain ⟨hm, h9, h81, hl⟩ := h
  induction f with
  | zero =>
    intro i cs rs hi
    refine ⟨cs, rs, Or.inr ⟨?_, ?_⟩⟩
    · rw [e_X4_answer_11]
      dsimp only
      rw [zr_ne (show 9 ≠ 15 by omega), h9, cLtF (by omega) (by omega), bif_f]
    · rw [e_X12_lineOf_2]
      dsimp only
      rw [zr_ne (show 81 ≠ 92 by omega), h81, cLtF (by omega) (by omega), bif_f]
  | succ f ih =>
    intro i cs rs hi
    obtain ⟨⟨b1, b2, b3⟩, ⟨c1, c2, c3, c4, c5, c6⟩, ⟨d1, d2, d3⟩, ⟨x, t1⟩, t2, hc⟩ := hl i (by omega)
    have hA : zX (t_X4_answer g) 11 [some (.ref 9), some (.int (nI (137 + w))), none, some (.int d), some (.int (nI i))] [] ((zr M.1 15 cs), M.2) = (bif decide (wd i = w) then (bif decide (wh i = en i) then X_X4_reckon g [.ref 9, .int (nI (fr i)), .int (nI (wh i))] ((zr M.1 15 cs), M.2) else (zbI (X_X4_reckon g [.ref 9, .int (nI (wh i)), .int (nI (en i))] ((zr M.1 15 cs), M.2)) (fun x2 M2 => (bif cEq0 x2 then zX (t_X4_answer g) 11 [some (.ref 9), some (.int (nI (137 + w))), none, some (.int d), some (.int (nI (i + 1)))] [] M2 else (zbI (X_X4_reckon g [.ref 9, .int (M2.1 11 i), .int (M2.1 12 i)] M2) (fun x3 M3 => some (some (.int x3), M3))))))) else zX (t_X4_answer g) 11 [some (.ref 9), some (.int (nI (137 + w))), none, some (.int d), some (.int (nI (i + 1)))] [] ((zr M.1 15 cs), M.2)) := by
      rw [e_X4_answer_11]
      dsimp only
      rw [zr_ne (show 9 ≠ 15 by omega), zr_ne (show 10 ≠ 15 by omega), zr_ne (show 11 ≠ 15 by omega), zr_ne (show 12 ≠ 15 by omega), zr_ne (show 13 ≠ 15 by omega), zx_nI (by omega), h9, b2, c1, c3, c5, cLtT (by omega) (by omega), bif_t, cLtLT (N := 16) (by omega) (by omega), bif_t, zbT (by omega) (by omega), bif_t, bif_t, bif_t, bif_t, bif_t, bif_t, bif_t, nI_s1, cEq_nI (by omega) (by omega), cEq_nI (by omega) (by omega)]
      rw [show decide (137 + wd i = 137 + w) = decide (wd i = w) from by rw [decide_eq_decide]; omega]
      cases decide (wd i = w)
      · rfl
      · cases hb : decide (wh i = en i)
        · rfl
        · rw [bif_t, bif_t, bif_t, bif_t]
          obtain ⟨cs', rs', v, q1, q2⟩ := law_reck g (o := o) (k := k) hfa d1 (by omega) (fun j u1 u2 => hc j u1 (by omega)) t1 (by simp) cs rs
          rw [q1, zbI_s]
    have hB : zX (t_X12_lineOf g) 2 [some (.ref 72), some (.int (nI w)), some (.int (nI i))] [] ((zr N.1 92 rs), N.2) = (bif decide (wd i = w) then (bif decide (wh i = en i) then some (some (.int (nI i)), ((zr N.1 92 rs), N.2)) else (zbI (X_X12_runs g [.ref 72, .int 0, .int (nI (wh i)), .int (nI (en i))] ((zr N.1 92 rs), N.2)) (fun x1 M1 => (bif cEq0 x1 then zX (t_X12_lineOf g) 2 [some (.ref 72), some (.int (nI w)), some (.int (nI (i + 1)))] [] M1 else some (some (.int (nI i)), M1))))) else zX (t_X12_lineOf g) 2 [some (.ref 72), some (.int (nI w)), some (.int (nI (i + 1)))] [] ((zr N.1 92 rs), N.2)) := by
      rw [e_X12_lineOf_2]
      dsimp only
      rw [zr_ne (show 81 ≠ 92 by omega), zr_ne (show 82 ≠ 92 by omega), zr_ne (show 84 ≠ 92 by omega), zr_ne (show 85 ≠ 92 by omega), zx_nI (by omega), h81, b3, c4, c6, cLtT (by omega) (by omega), bif_t, zbT (by omega) (by omega), bif_t, bif_t, bif_t, bif_t, bif_t, nI_s1, cEq_nI (by omega) (by omega), cEq_nI (by omega) (by omega)]
    rw [hA, hB]
    by_cases hq : wd i = w
    · rw [decide_eq_true hq, bif_t, bif_t]
      by_cases he : wh i = en i
      · rw [decide_eq_true he, bif_t, bif_t]
        obtain ⟨cs', rs', v, q1, q2⟩ := law_reck g (o := o) (k := k) hfa d1 (by omega) (fun j u1 u2 => hc j u1 (by omega)) t1 (by simp) cs rs
        refine ⟨cs', rs', Or.inl ⟨i, v, rs, by omega, q1, rfl, ?_⟩⟩
        rw [c2, c4]
        exact q2
      · rw [decide_eq_false he, bif_f, bif_f]
        obtain ⟨cs1, rs1, v1, q1, q2⟩ := law_reck g (o := o) (k := k) hfa d2 d3 (fun j u1 u2 => hc j (by omega) u2) (t2 (by omega)) (by simp) cs rs
        rw [q1, q2, zbI_s, zbI_s]
        by_cases h0 : v1 = 0
        · rw [cEq0_s h0, bif_t, bif_t]
          exact ih (i + 1) cs1 rs1 (by omega)
        · rw [cEq0_n h0, bif_f, bif_f]
          dsimp only
          rw [zr_ne (show 11 ≠ 15 by omega), zr_ne (show 12 ≠ 15 by omega), c1, c3]
          obtain ⟨cs', rs', v, p1, p2⟩ := law_reck g (o := o) (k := k) hfa d1 (by omega) (fun j u1 u2 => hc j u1 (by omega)) t1 (by simp) cs1 rs1
          refine ⟨cs', rs', Or.inl ⟨i, v, rs1, by omega, ?_, rfl, ?_⟩⟩
          · rw [p1, zbI_s]
          · rw [c2, c4]
            exact p2
    · rw [decide_eq_false hq, bif_f, bif_f]
      exact ih (i + 1) cs rs (by omega)
/-- the law asked on both sides -/
theorem law_tells (g : zg) {m : Nat} {wd fr wh en o k : Nat → Nat} {M N : zM} (h : LW m wd fr wh en o k M.1 N.1) (hfa : ∀ j, j < 8 → M.1 16 j = N.1 91 j) {w : Nat} (hw : w < 3) (off d top : Int32) (hoff : N.1 91 8 = off) (ht : 0 ≤ top) {ww mw : Int32} (hww : ww = nI (137 + w)) (hmw : mw = nI w) :
    ∃ cs' rs' v, X_X4_answer g [.ref 9, .int ww, .int off, .int d] M = some (some (.int v), ((zr (zu M.1 16 8 off) 15 cs'), M.2)) ∧ X_X12_lawTells g [.ref 72, .int mw, .int d, .int top] N = some (some (.int (hld v 0 top)), ((zr N.1 92 rs'), N.2)) := by
  subst hww; subst hmw
  have h' : LW m wd fr wh en o k (zu M.1 16 8 off) N.1 := LW_of h (by rw [zu_ne (by omega)]) (zu_ne (by omega)) (zu_ne (by omega)) (zu_ne (by omega)) (zu_ne (by omega)) (zu_ne (by omega)) rfl rfl rfl rfl rfl rfl rfl
  have hfa' : ∀ j, j < 9 → (((zu M.1 16 8 off), M.2) : zM).1 16 j = N.1 91 j := by
    intro j hj
    dsimp only
    by_cases h8 : j = 8
    · subst h8; rw [zu_eq]; exact hoff.symm
    · rw [zu_ne2 h8]; exact hfa j (by omega)
  obtain ⟨cs', rs', hq⟩ := law_ans g (M := ((zu M.1 16 8 off), M.2)) h' hfa' hw d m 0 (M.1 15) (N.1 92) (by omega)
  have eM : (((zr (zu M.1 16 8 off) 15 (M.1 15)), M.2) : zM) = ((zu M.1 16 8 off), M.2) := by
    rw [show M.1 15 = zu M.1 16 8 off 15 from (zu_ne (by omega)).symm, zr_self]
  have eN : (((zr N.1 92 (N.1 92)), N.2) : zM) = N := by rw [zr_self]
  dsimp only at hq
  rw [eM, eN] at hq
  rw [x_X4_answer_0, x_X12_lawTells_0, x_X12_lineOf_0]
  rcases hq with ⟨l, v, rs1, hlm, q1, q2, q3⟩ | ⟨q1, q2⟩
  · refine ⟨cs', rs', v, q1, ?_⟩
    have hm := h.1
    rw [show zX (t_X12_lineOf g) 2 [some (.ref 72), some (.int (nI w)), some (.int 0)] [] N = _ from q2, zbI_s, cEq_n (by
      intro e
      have h1 := nI_pos (n := l) (by omega)
      rw [e] at h1
      exact h1 (by decide)), bif_f, zbT (by omega) (by omega), bif_t, bif_t, zx_nI (by omega)]
    dsimp only
    rw [zr_ne (show 83 ≠ 92 by omega), zr_ne (show 84 ≠ 92 by omega), q3, zbI_s, held_s, zbI_s]
  · refine ⟨cs', rs', d, q1, ?_⟩
    rw [show zX (t_X12_lineOf g) 2 [some (.ref 72), some (.int (nI w)), some (.int 0)] [] N = _ from q2, zbI_s, cEq_s rfl, bif_t, held_s, zbI_s]
