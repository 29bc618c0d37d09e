/-! PURE ROWS: what comes, blame, floods -/
theorem inb_hld {x a b : Int32} (h : a ≤ b) : inb (hld x a b) a b = true := by
  unfold inb hld cLt cGt
  simp only [Bool.cond_decide]
  simp only [Int32.lt_iff_toInt_lt, Int32.le_iff_toInt_le] at *
  split
  · simp; omega
  · split
    · simp; omega
    · simp; omega
theorem PR_q {b : Bool} {c r n d : Nat} {I J : zI} (h : PR b c r n d I J) : ∃ q, q ≤ 99 ∧ I c 4 = nI q ∧ J 73 3 + 50 = nI q := by
  obtain ⟨q, hq, e⟩ := RG_q h.2.1
  exact ⟨q, hq, by rw [(CR_f h.1).2.2.2.2.1]; exact e, e⟩
theorem PR_d {b : Bool} {c r n d : Nat} {I J : zI} (h : PR b c r n d I J) : I c 10 = nI d ∧ J 73 0 = nI d := ⟨by rw [(CR_f h.1).2.2.2.2.2.2.2.2.2.2.1]; exact h.2.1.1, h.2.1.1⟩
theorem come_end (g : zg) {b : Bool} {c r n d : Nat} (hcr : CO c r) {M N : zM} (h : PR b c r n d M.1 N.1) (y : Int32) : ∃ q I' J', q ≤ 99 ∧ hld y 0 99 = nI q ∧ X_X1_write g [.ref 25, .ref c, .int 0, .int (nI (q / 20)), .int (nI q)] ((zu M.1 c 4 (nI q)), M.2) = some (none, (I', M.2)) ∧ zbV (X_X12_glassBe g [.ref 72, .int (nI q)] N) (fun M6 => (zbI (X_X12_glass g [.ref 72] M6) (fun x7 M7 => (zbI (X_X12_kindOf g [.ref 72, .int x7] M7) (fun x8 M8 => (zbI (X_X12_glass g [.ref 72] M8) (fun x9 M9 => (zbV (X_X12_notes g [.ref 72, .int 0, .int x8, .int x9] M9) (fun M10 => (some (none, M10) : Option (Option Value × zM))))))))))) = some (none, (J', N.2)) ∧ ST b c r n d M.1 N.1 I' J' ∧ ∀ k, 8 ≤ k → J' 73 k = N.1 73 k := by
  obtain ⟨q, hq, eq⟩ := hld_ex (b := 99) (by omega) y
  have s1 : ST b c r n d M.1 N.1 (zu M.1 c 4 (nI q)) (zu N.1 73 3 (nI q - 50)) := ST_fld hcr h (Or.inr (Or.inl ⟨rfl, rfl, (Int32.sub_add_cancel _ _).symm⟩)) (fun _ => ⟨q, hq, rfl⟩) (by omega)
  obtain ⟨I', J', q1, q2, q3, q4⟩ := note_alk g hcr 0 (nI (q / 20)) (nI q) (M := ((zu M.1 c 4 (nI q)), M.2)) (N := ((zu N.1 73 3 (nI q - 50)), N.2)) s1.1
  refine ⟨q, I', J', hq, eq, q1, ?_, ST_tr s1 q3, ?_⟩
  · rw [x_X12_glassBe_0, zbV_s, x_X12_glass_0, zbI_s, x_X12_kindOf_0, zbI_s, x_X12_glass_0, zbI_s]
    dsimp only
    rw [zu_eq, Int32.sub_add_cancel, show nI q / 20 = nI (q / 20) from idiv_nI (d := 20) (by omega) (by omega) (by omega), q2, zbV_s]
  · intro k hk
    rw [q4 k (by omega)]
    dsimp only
    rw [zu_ne2 (by omega)]
theorem come_al (g : zg) {b : Bool} {c r n d m : Nat} {la : Nat → Nat} {mv : Nat → Int32} (hcr : CO c r) {M N : zM} (h : PR b c r n d M.1 N.1) (ho : RO m la mv M.1 N.1) (hd : d < 100000) : ∃ I1 I' J', X_X10_moveGlass g [.ref 6, .ref c] M = some (none, (I1, M.2)) ∧ X_X1_write g [.ref 25, .ref c, .int 0, .int (I1 c 4 / 20), .int (I1 c 4)] (I1, M.2) = some (none, (I', M.2)) ∧ X_X12_comes g [.ref 72] N = some (none, (J', N.2)) ∧ ST b c r n d M.1 N.1 I' J' ∧ ∀ k, 8 ≤ k → J' 73 k = N.1 73 k := by
  obtain ⟨e1, e2⟩ := PR_d h
  obtain ⟨q0, hq0, eq0, eq1⟩ := PR_q h
  have p3 := h.2.2.1
  have p4 := h.2.2.2.1
  rw [k_X10_moveGlass_0 g hcr, e1, moveC_r g ho (by omega), zbI_s, p3, x_X12_comes_0, e2, moveM_r g ho (by omega), zbI_s, p4, cEq0_b01, cEq0_b01, eq0]
  have e5 : M.1 c 5 = N.1 72 7 := (CR_f h.1).2.2.2.2.2.1
  have fin : ∀ (M1 N1 : zM) (y y' : Int32), y' = y → ST b c r n d M.1 N.1 M1.1 N1.1 → M1.2 = M.2 → N1.2 = N.2 → (∀ k, 8 ≤ k → N1.1 73 k = N.1 73 k) → ∃ I1 I' J', zbI (X_X11_hold g [.int y, .int 0, .int 99] M1) (fun x2 M2 => (some (none, ((zu M2.1 c 4 x2), M2.2)) : Option (Option Value × zM))) = some (none, (I1, M.2)) ∧ X_X1_write g [.ref 25, .ref c, .int 0, .int (I1 c 4 / 20), .int (I1 c 4)] (I1, M.2) = some (none, (I', M.2)) ∧ (zbI (X_X12_held g [.ref 72, .int y', .int 0, .int 99] N1) (fun x26 M26 => (zbV (X_X12_glassBe g [.ref 72, .int x26] M26) (fun M27 => (zbI (X_X12_glass g [.ref 72] M27) (fun x28 M28 => (zbI (X_X12_kindOf g [.ref 72, .int x28] M28) (fun x29 M29 => (zbI (X_X12_glass g [.ref 72] M29) (fun x30 M30 => (zbV (X_X12_notes g [.ref 72, .int 0, .int x29, .int x30] M30) (fun M31 => (some (none, M31) : Option (Option Value × zM)))))))))))))) = some (none, (J', N.2)) ∧ ST b c r n d M.1 N.1 I' J' ∧ ∀ k, 8 ≤ k → J' 73 k = N.1 73 k := by
    intro M1 N1 y y' ey s1 f1 f2 hk
    subst ey
    obtain ⟨q, I', J', hq, eq, q1, q2, q3, q4⟩ := come_end g hcr s1.1 y'
    refine ⟨zu M1.1 c 4 (nI q), I', J', ?_, ?_, ?_, ST_tr s1 q3, fun k u => (q4 k u).trans (hk k u)⟩
    · rw [hold_s g (by decide), zbI_s, eq, f1]
    · rw [zu_eq, show nI q / 20 = nI (q / 20) from idiv_nI (d := 20) (by omega) (by omega) (by omega), ← f1]
      exact q1
    · rw [held_s, zbI_s, eq, ← f2]
      exact q2
  cases b with
  | false =>
    rw [Bool.not_false, bif_t, Bool.not_true, bif_f, x_X12_glass_0, zbI_s, eq1]
    exact fin M N _ _ rfl (ST_rfl h) rfl rfl (fun _ _ => rfl)
  | true =>
    rw [Bool.not_true, bif_f, Bool.not_false, bif_t, e5]
    cases cGt0 (N.1 72 7)
    · rw [bif_f, bif_f, x_X12_glass_0, zbI_s, eq1]
      exact fin M N _ _ rfl (ST_rfl h) rfl rfl (fun _ _ => rfl)
    · rw [bif_t, bif_t]
      obtain ⟨x, u1, v1, p1, p2, S1⟩ := draw_al g hcr (m := 1000) (mm := 1000) h rfl (by omega) (by omega)
      rw [p1, p2, zbI_s, zbI_s]
      dsimp only
      rw [zu_ne2 (show 5 ≠ 3 by omega), e5, zu_ne (show 72 ≠ 73 by omega)]
      have f3 : zu N.1 73 1 u1 73 3 + 50 = nI q0 := by rw [zu_ne2 (by omega)]; exact eq1
      cases cLt x (N.1 72 7)
      · rw [bif_f, bif_f, x_X12_glass_0, zbI_s]
        dsimp only
        rw [f3]
        exact fin ((zu M.1 c 3 v1), M.2) ((zu N.1 73 1 u1), N.2) _ _ rfl S1 rfl rfl (fun k hk => by dsimp only; rw [zu_ne2 (by omega)])
      · rw [bif_t, bif_t]
        obtain ⟨x2, u2, v2, p3', p4', S2⟩ := draw_al g hcr (m := 21) (mm := 21) (M := ((zu M.1 c 3 v1), M.2)) (N := ((zu N.1 73 1 u1), N.2)) S1.1 rfl (by omega) (by omega)
        dsimp only at p3' p4' ⊢
        rw [p3', p4', zbI_s, zbI_s, x_X12_glass_0, zbI_s]
        dsimp only
        have f4 : zu (zu N.1 73 1 u1) 73 1 u2 73 3 + 50 = nI q0 := by rw [zu_ne2 (by omega)]; exact f3
        rw [f4]
        exact fin ((zu (zu M.1 c 3 v1) c 3 v2), M.2) ((zu (zu N.1 73 1 u1) 73 1 u2), N.2) _ _ (by rw [Int32.sub_eq_add_neg, Int32.sub_eq_add_neg, ← Int32.add_assoc, ← Int32.add_assoc, ← Int32.add_assoc]) (ST_tr S1 S2) rfl rfl (fun k hk => by dsimp only; rw [zu_ne2 (by omega), zu_ne2 (by omega)])
theorem stand_al (g : zg) {b : Bool} {c r n d t : Nat} (hcr : CO c r) {M N : zM} (h : PR b c r n d M.1 N.1) (ht : t < n) (a : Int32) : X_X3_addStand g [.ref c, .int (nI t), .int a] M = some (none, ((zu M.1 r (7 * t + 4) (hld (N.1 73 (28 + t) + a) (-999) 999)), M.2)) ∧ ST b c r n d M.1 N.1 (zu M.1 r (7 * t + 4) (hld (N.1 73 (28 + t) + a) (-999) 999)) (zu N.1 73 (28 + t) (hld (N.1 73 (28 + t) + a) (-999) 999)) := by
  obtain ⟨hn, hc, hm⟩ := PR_n h
  refine ⟨?_, ST_cell hcr h (k := 4) ht (by omega) (by omega) (Int32.sub_zero _).symm (by omega) (fun _ => inb_hld (by decide)) (by omega)⟩
  rw [k_X3_addStand_0 g hcr, getX g hcr (k := 4) (kk := 4) hn hc ht (by omega) rfl rfl, zbI_s, CR_std h.1 ht, hold_s g (by decide), zbI_s, putX g hcr (k := 4) (kk := 4) hn hc ht (by omega) rfl rfl, zbV_s]
theorem judge_al (g : zg) {b : Bool} {c r n d : Nat} {m : Nat} {wd fr wh en o k : Nat → Nat} (hcr : CO c r) (f : Nat) : ∀ (i : Nat) (fi rt : Int32) (M N : zM), PR b c r n d M.1 N.1 → LW m wd fr wh en o k M.1 N.1 → i + f = n → ∃ I' J', zX (t_X10_blameAll g) 7 [some (.ref 6), some (.ref c), some (.int fi), some (.int rt), some (.int (nI i)), none] [] M = some (none, (I', M.2)) ∧ zX (t_X12_judges g) 6 [some (.ref 72), some (.int fi), some (.int rt), some (.int (nI i)), none, none] [] N = some (none, (J', N.2)) ∧ ST b c r n d M.1 N.1 I' J' := by
  have hcr' : c ≠ r := by rcases hcr with ⟨rfl, rfl⟩ | ⟨rfl, rfl⟩ <;> omega
  induction f with
  | zero =>
    intro i fi rt M N h hl hi
    obtain ⟨hn, hc, hm⟩ := PR_n h
    rw [k_X10_blameAll_7 g hcr, hc, cLtF (by omega) (by omega), bif_f, e_X12_judges_6, hm, cLtF (by omega) (by omega), bif_f]
    cases cEq fi (-1)
    · obtain ⟨I', J', q1, q2, q3⟩ := note_al g hcr 1 fi rt h
      rw [bif_f, bif_f, q1, q2, zbV_s, zbV_s]
      exact ⟨I', J', rfl, rfl, q3⟩
    · exact ⟨M.1, N.1, rfl, rfl, ST_rfl h⟩
  | succ f ih =>
    intro i fi rt M N h hl hi
    obtain ⟨hn, hc, hm⟩ := PR_n h
    obtain ⟨_, hst, ⟨y, hy, ey⟩, _⟩ := h.2.1.2.2.2 i (by omega)
    obtain ⟨q, hq, eq0, eq1⟩ := PR_q h
    have hk20 : nI q / 20 = nI (q / 20) := idiv_nI (d := 20) (by omega) (by omega) (by omega)
    rw [k_X10_blameAll_7 g hcr, hc, cLtT (by omega) (by omega), bif_t, servX g hcr hn hc (by omega), zbI_s, CR_gone h.1 (by omega), nI_s1, cEq0_b01]
    rw [e_X12_judges_6, hm, cLtT (by omega) (by omega), bif_t, isHereN g (by omega), zbI_s, nI_s1, cEq0_b01]
    cases cEq0 (N.1 73 (38 + i))
    · exact ih (i + 1) fi rt M N h hl (by omega)
    · rw [Bool.not_true, bif_f, bif_f, getX g hcr (k := 6) (kk := 6) hn hc (by omega) (by omega) rfl rfl, zbI_s, CR_sd h.1 (by omega), kindX g hcr, zbI_s, eq0, saidN g (by omega), zbI_s, x_X12_glass_0, zbI_s, x_X12_kindOf_0, zbI_s, eq1, hk20, ey]
      cases hE : cEq (nI y - 1) (nI (q / 20))
      · rw [bif_f, bif_f, saidN g (by omega), zbI_s, ey]
        obtain ⟨f1, s1, f2, s2, w, hw, q1, q2⟩ := blame_al6 g hcr (s := y) (q := q) hl h.1 (t := i) (by omega) hy hq eq0
        have S1 := ST_scr hcr h f1 s1 f2 s2
        rw [q1, q2, zbI_s, zbI_s, e_X12_judges_68, ix28, zbT (by omega) (by omega), bif_t, zx_nI (by omega), held_s, zbI_s, bif_t, show cEq0 (0 : Int32) = true from by decide, bif_t]
        obtain ⟨p1, S2⟩ := stand_al g hcr (t := i) (M := ((zr (zr M.1 16 f1) 15 s1), M.2)) (N := ((zr (zr N.1 91 f2) 92 s2), N.2)) S1.1 (by omega) (-(nI w))
        rw [p1, zbV_s, nI_s1]
        have S3 := ST_tr S1 S2
        obtain ⟨I', J', r1, r2, r3⟩ := ih (i + 1) fi rt (_, M.2) (_, N.2) S2.1 (LW_st hcr hl S3.2.1 S3.2.2) (by omega)
        exact ⟨I', J', r1, r2, ST_tr S3 r3⟩
      · rw [bif_t, bif_t, e_X12_judges_68, ix28, zbT (by omega) (by omega), bif_t, zx_nI (by omega), held_s, zbI_s, bif_t, show cEq0 (1 : Int32) = false from by decide, bif_f]
        obtain ⟨p1, S2⟩ := stand_al g hcr (t := i) h (by omega) 1
        rw [p1, zbV_s, nI_s1]
        cases cEq fi (-1)
        · obtain ⟨I', J', r1, r2, r3⟩ := ih (i + 1) fi (rt + 1) (_, M.2) (_, N.2) S2.1 (LW_st hcr hl S2.2.1 S2.2.2) (by omega)
          exact ⟨I', J', r1, r2, ST_tr S2 r3⟩
        · obtain ⟨I', J', r1, r2, r3⟩ := ih (i + 1) (nI i) (rt + 1) (_, M.2) (_, N.2) S2.1 (LW_st hcr hl S2.2.1 S2.2.2) (by omega)
          exact ⟨I', J', r1, r2, ST_tr S2 r3⟩
theorem flood_eq {x : Int32} (h : inb x (-999) 999 = true) : (bif cGt (-999) (x - 20) then (-999) else x - 20) = hld (x + (-20)) (-999) 999 := by
  have e20 : x - 20 = x + (-20) := Int32.sub_eq_add_neg x 20
  rw [← e20]
  unfold inb at h
  unfold hld
  have h1 : (x - 20).toInt = x.toInt - 20 := by
    unfold cLt cGt at h
    simp only [Bool.and_eq_true, Bool.not_eq_true', decide_eq_false_iff_not, Int32.lt_iff_toInt_lt] at h
    rw [Int32.toInt_sub]
    have e1 : (-999 : Int32).toInt = -999 := by decide
    have e2 : (999 : Int32).toInt = 999 := by decide
    have e3 : (20 : Int32).toInt = 20 := by decide
    rw [e3]
    exact Int.bmod_eq_of_le (by omega) (by omega)
  have h2 : cGt (x - 20) 999 = false := by
    unfold cLt cGt at h
    simp only [Bool.and_eq_true, Bool.not_eq_true', decide_eq_false_iff_not, Int32.lt_iff_toInt_lt] at h
    unfold cGt
    rw [decide_eq_false_iff_not, Int32.lt_iff_toInt_lt, h1]
    have e2 : (999 : Int32).toInt = 999 := by decide
    omega
  rw [h2, bif_f]
  rfl
theorem flood_al (g : zg) {b : Bool} {c r n d : Nat} (hcr : CO c r) {M N : zM} (h : PR b c r n d M.1 N.1) : ∃ I' J', X_X10_floodAny g [.ref 6, .ref c] M = some (none, (I', M.2)) ∧ X_X12_floods g [.ref 72] N = some (none, (J', N.2)) ∧ ST b c r n d M.1 N.1 I' J' := by
  obtain ⟨hn, hc, hm⟩ := PR_n h
  obtain ⟨q, hq, eq0, eq1⟩ := PR_q h
  obtain ⟨w, hw, ew⟩ := h.2.1.2.2.1
  have e7 : M.1 c 7 = nI w - 1 := by rw [(CR_f h.1).2.2.2.2.2.2.2.1, ew]
  have hcr' : c ≠ r := by rcases hcr with ⟨rfl, rfl⟩ | ⟨rfl, rfl⟩ <;> omega
  rw [k_X10_floodAny_0 g hcr, kindX g hcr, zbI_s, eq0, x_X12_floods_0, x_X12_minister_0, zbI_s, x_X12_glass_0, zbI_s, x_X12_kindOf_0, zbI_s, eq1, ew, e7]
  cases cEq0 (nI q / 20)
  · exact ⟨M.1, N.1, rfl, rfl, ST_rfl h⟩
  · rw [bif_t, bif_t]
    cases w with
    | zero => exact ⟨M.1, N.1, rfl, rfl, ST_rfl h⟩
    | succ t =>
      rw [nI_p1, cEq_n (nI_ne1 (by omega)), bif_f, bif_f, getX g hcr (k := 6) (kk := 6) hn hc (by omega) (by omega) rfl rfl, zbI_s, CR_sd h.1 (by omega), saidN g (by omega), zbI_s]
      cases cLt (N.1 73 (48 + t) - 1) 2
      · rw [bif_f, bif_f]
        have e8 : M.1 c 8 = N.1 73 5 := (CR_f h.1).2.2.2.2.2.2.2.2.1
        rw [nI_p1] at e7
        have s1 : ST b c r n d M.1 N.1 (zu M.1 c 8 (M.1 c 8 + 1)) (zu N.1 73 5 (N.1 73 5 + 1)) := ST_fld hcr h (Or.inr (Or.inr (Or.inr (Or.inl ⟨rfl, rfl, by rw [e8]⟩)))) (by omega) (by omega)
        obtain ⟨p1, s2⟩ := stand_al g hcr (t := t) (M := ((zu M.1 c 8 (M.1 c 8 + 1)), M.2)) (N := ((zu N.1 73 5 (N.1 73 5 + 1)), N.2)) s1.1 (by omega) (-20)
        have hst := (s1.1.2.1.2.2.2 t (by omega)).2.1
        rw [e7, p1, zbV_s, ix28, zbT (by omega) (by omega), bif_t, zx_nI (by omega), x_X12_greater_0, bif_push, flood_eq hst, zbI_s, bif_t, bif_t, zu_eq]
        dsimp only
        have e7' : zu (zu M.1 c 8 (M.1 c 8 + 1)) r (7 * t + 4) (hld (zu N.1 73 5 (N.1 73 5 + 1) 73 (28 + t) + -20) (-999) 999) c 7 = nI t := by
          rw [zu_ne hcr', zu_ne2 (by omega)]
          exact e7
        rw [e7', getX g hcr (k := 4) (kk := 4) hn (by dsimp only; rw [zu_ne hcr', zu_ne2 (by omega)]; exact hc) (by omega) (by omega) rfl rfl, zbI_s]
        dsimp only
        rw [zu_eq]
        have S := ST_tr s1 s2
        obtain ⟨I', J', q1, q2, q3⟩ := note_al g hcr 2 (nI t) (hld (zu N.1 73 5 (N.1 73 5 + 1) 73 (28 + t) + -20) (-999) 999) (M := ((zu (zu M.1 c 8 (M.1 c 8 + 1)) r (7 * t + 4) (hld (zu N.1 73 5 (N.1 73 5 + 1) 73 (28 + t) + -20) (-999) 999)), M.2)) (N := ((zu (zu N.1 73 5 (N.1 73 5 + 1)) 73 (28 + t) (hld (zu N.1 73 5 (N.1 73 5 + 1) 73 (28 + t) + -20) (-999) 999)), N.2)) s2.1
        rw [q1, q2, zbV_s, zbV_s]
        exact ⟨I', J', rfl, rfl, ST_tr S q3⟩
      · exact ⟨M.1, N.1, rfl, rfl, ST_rfl h⟩
