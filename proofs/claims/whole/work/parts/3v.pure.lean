/-! PURE ROWS: what all tell, and what comes -/
theorem CR_glu {n : Nat} {cf cr rn md so fe : Nat → Int32} (h : CR n cf cr rn md so fe) {t : Nat} (ht : t < n) : cr (7 * t + 3) = rn (18 + t) - 1 := CR_get1 h ht (k := 3) (by omega)
theorem CR_std {n : Nat} {cf cr rn md so fe : Nat → Int32} (h : CR n cf cr rn md so fe) {t : Nat} (ht : t < n) : cr (7 * t + 4) = rn (28 + t) := CR_get h ht (k := 4) (by omega)
theorem CR_sd {n : Nat} {cf cr rn md so fe : Nat → Int32} (h : CR n cf cr rn md so fe) {t : Nat} (ht : t < n) : cr (7 * t + 6) = rn (48 + t) - 1 := CR_get1 h ht (k := 6) (by omega)
theorem hld_id {x a b : Int32} (h : inb x a b = true) : hld x a b = x := by
  unfold inb at h
  unfold hld
  cases h1 : cLt x a
  · cases h2 : cGt x b
    · rfl
    · rw [h1, h2] at h; exact absurd h (by decide)
  · rw [h1] at h; exact absurd h (by simp)
theorem hld4 {w : Nat} (hw : w ≤ 4) : hld (nI w) 0 4 = nI w := hld_id ((inb_nI (k := w) (a := 0) (b := 4) (by omega) (by omega) (by omega)).trans (by simp; omega))
theorem draw_al (g : zg) {b : Bool} {c r n d m : Nat} {mm : Int32} (hcr : CO c r) {M N : zM} (h : PR b c r n d M.1 N.1) (hm : mm = nI m) (h0 : 0 < m) (h1 : m < 100000) : ∃ x w v, X_X3_draw g [.ref c, .int mm] M = some (some (.int x), ((zu M.1 c 3 v), M.2)) ∧ X_X12_draw g [.ref 72, .int mm] N = some (some (.int x), ((zu N.1 73 1 w), N.2)) ∧ ST b c r n d M.1 N.1 (zu M.1 c 3 v) (zu N.1 73 1 w) := by
  subst hm
  have e1 : M.1 c 3 = N.1 73 1 := (CR_f h.1).2.2.2.1
  refine ⟨(zushr ((1664525 * (N.1 73 1)) + 1013904223) 8) - (zushr ((1664525 * (N.1 73 1)) + 1013904223) 8) / nI m * nI m, (1664525 * (N.1 73 1)) + 1013904223, (1664525 * (N.1 73 1)) + 1013904223, ?_, ?_, ST_fld hcr h (Or.inl ⟨rfl, rfl, rfl⟩) (by omega) (by omega)⟩
  · rw [k_X3_draw_0 g hcr, cGt0_nI (by omega), decide_eq_true h0, bif_t, decide_eq_false (nI_ne0 h0 (by omega)), e1]; rfl
  · rw [x_X12_draw_0, decide_eq_false (nI_ne0 h0 (by omega))]; rfl
theorem K1 {J : zI} {w : Int32} : ∀ k, k ≠ 1 → zu J 73 1 w 73 k = J 73 k := fun k hk => zu_ne2 hk
theorem Kscr {J : zI} {f2 s2 : Nat → Int32} : ∀ k, zr (zr J 91 f2) 92 s2 73 k = J 73 k := fun k => by rw [zr_ne (by omega), zr_ne (by omega)]
theorem says_al (g : zg) {b : Bool} {c r n d t : Nat} {m : Nat} {wd fr wh en o k : Nat → Nat} (hcr : CO c r) {M N : zM} (h : PR b c r n d M.1 N.1) (hl : LW m wd fr wh en o k M.1 N.1) (ht : t < n) (hg : N.1 73 (18 + t) = 0) : ∃ w I' J', w ≤ 4 ∧ X_X10_freeWord g [.ref 6, .ref c, .int (nI t)] M = some (some (.int (nI w)), (I', M.2)) ∧ X_X12_saysOf g [.ref 72, .int (nI t)] N = some (some (.int (nI w)), (J', N.2)) ∧ ST b c r n d M.1 N.1 I' J' ∧ ∀ k, k ≠ 1 → J' 73 k = N.1 73 k := by
  obtain ⟨hn, hc, hm⟩ := PR_n h
  obtain ⟨f1, s1, f2, s2, w, hw, q1, q2⟩ := tell_al g hcr hl h.1 ht
  have S1 := ST_scr hcr h f1 s1 f2 s2
  have hl1 := LW_st hcr hl S1.2.1 S1.2.2
  obtain ⟨f3, s3, f4, s4, er, her, q3, q4⟩ := err_al g hcr (M := ((zr (zr M.1 16 f1) 15 s1), M.2)) (N := ((zr (zr N.1 91 f2) 92 s2), N.2)) hl1 S1.1.1 ht
  rw [k_X10_freeWord_0 g hcr, q1, zbI_s, x_X12_saysOf_0, ix18, zbT (by omega) (by omega), bif_t, zx_nI (by omega), hg, show cGt0 (0 : Int32) = false from by decide, bif_f, q2, zbI_s, q4, zbI_s]
  have fC : zr (zr M.1 16 f1) 15 s1 c 0 = b01 b := S1.1.2.2.1
  dsimp only
  rw [fC, cEq0_b01]
  cases b with
  | false =>
    have S2 : ST false c r n d (zr (zr M.1 16 f1) 15 s1) (zr (zr N.1 91 f2) 92 s2) (zr (zr M.1 16 f1) 15 s1) (zr (zr (zr (zr N.1 91 f2) 92 s2) 91 f4) 92 s4) := by
      have := ST_scr hcr S1.1 (zr (zr M.1 16 f1) 15 s1 16) (zr (zr M.1 16 f1) 15 s1 15) f4 s4
      rw [zr2_self (by omega)] at this
      exact this
    have fM : zr (zr (zr (zr N.1 91 f2) 92 s2) 91 f4) 92 s4 72 5 = b01 (!false) := S2.1.2.2.2.1
    refine ⟨w, _, _, hw, ?_, ?_, ST_tr S1 S2, fun k _ => by rw [Kscr, Kscr]⟩
    · show zX (t_X10_freeWord g) 24 [none, some (.ref c), none, some (.int (nI w)), none] [.int 0] _ = _
      rw [k_X10_freeWord_24 g hcr, show cGt0 (0 : Int32) = false from by decide, bif_f, hold_s g (by decide), zbI_s, hld4 hw]
    · rw [fM]
      rfl
  | true =>
    have S2 := ST_scr hcr S1.1 f3 s3 f4 s4
    have fM : zr (zr (zr (zr N.1 91 f2) 92 s2) 91 f4) 92 s4 72 5 = b01 (!true) := S2.1.2.2.2.1
    rw [fM, Bool.not_true, bif_f, q3, zbI_s, k_X10_freeWord_24 g hcr, cEq0_b01, Bool.not_false, bif_t, cGt0_nI (by omega), cEq0_nI (by omega)]
    by_cases h0 : er = 0
    · subst h0
      refine ⟨w, _, _, hw, ?_, rfl, ST_tr S1 S2, fun k _ => by rw [Kscr, Kscr]⟩
      show zbI (X_X11_hold g [.int (nI w), .int 0, .int 4] _) _ = _
      rw [hold_s g (by decide), zbI_s, hld4 hw]
    · rw [decide_eq_true (by omega), bif_t, decide_eq_false h0, bif_f]
      obtain ⟨x, u1, v1, p1, p2, S3⟩ := draw_al g hcr (m := 1000) (mm := 1000) (M := ((zr (zr (zr (zr M.1 16 f1) 15 s1) 16 f3) 15 s3), M.2)) (N := ((zr (zr (zr (zr N.1 91 f2) 92 s2) 91 f4) 92 s4), N.2)) S2.1 rfl (by omega) (by omega)
      rw [p1, p2, zbI_s, zbI_s]
      cases cLt x (nI er)
      · refine ⟨w, _, _, hw, ?_, rfl, ST_tr (ST_tr S1 S2) S3, fun k hk => by dsimp only; rw [K1 k hk, Kscr, Kscr]⟩
        rw [bif_f, hold_s g (by decide), zbI_s, hld4 hw]
      · rw [bif_t, bif_t]
        obtain ⟨y, u2, v2, p3, p4, S4⟩ := draw_al g hcr (m := 2) (mm := 2) (M := ((zu (zr (zr (zr (zr M.1 16 f1) 15 s1) 16 f3) 15 s3) c 3 v1), M.2)) (N := ((zu (zr (zr (zr (zr N.1 91 f2) 92 s2) 91 f4) 92 s4) 73 1 u1), N.2)) S3.1 rfl (by omega) (by omega)
        dsimp only at p3 p4 ⊢
        rw [p3, p4, zbI_s, zbI_s, hold_s g (by decide), zbI_s, hold_s g (by decide), zbI_s, held_s, zbI_s, held_s, zbI_s, ← Int32.sub_eq_add_neg]
        obtain ⟨w1, hw1, e1⟩ := hld_ex (b := 4) (by omega) (nI w - 1)
        obtain ⟨w2, hw2, e2⟩ := hld_ex (b := 4) (by omega) (nI w + 1)
        rw [show hld (nI w - 1) 0 4 = nI w1 from e1, show hld (nI w + 1) 0 4 = nI w2 from e2]
        cases cEq0 y
        · exact ⟨w2, _, _, hw2, rfl, rfl, ST_tr (ST_tr (ST_tr S1 S2) S3) S4, fun k hk => by rw [K1 k hk, K1 k hk, Kscr, Kscr]⟩
        · exact ⟨w1, _, _, hw1, rfl, rfl, ST_tr (ST_tr (ST_tr S1 S2) S3) S4, fun k hk => by rw [K1 k hk, K1 k hk, Kscr, Kscr]⟩
/-- all tell -/
theorem tellall_al (g : zg) {b : Bool} {c r n d : Nat} {m : Nat} {wd fr wh en o k : Nat → Nat} (hcr : CO c r) (f : Nat) : ∀ (i : Nat) (an : Bool) (M N : zM), PR b c r n d M.1 N.1 → LW m wd fr wh en o k M.1 N.1 → i + f = n → (an = true ↔ ∃ t, t < i ∧ ¬ N.1 73 (48 + t) = 0) → ∃ an' I' J', zX (t_X10_tellAll g) 4 [some (.ref 6), some (.ref c), some (.int (b01 an)), some (.int (nI i)), none] [] M = some (some (.int (b01 an')), (I', M.2)) ∧ zX (t_X12_goesBy g) 42 [some (.ref 72), some (.int (nI i))] [] N = zX (t_X12_goesBy g) 42 [some (.ref 72), some (.int (nI n))] [] (J', N.2) ∧ ST b c r n d M.1 N.1 I' J' ∧ (an' = true ↔ ∃ t, t < n ∧ ¬ J' 73 (48 + t) = 0) := by
  have hcr' : c ≠ r := by rcases hcr with ⟨rfl, rfl⟩ | ⟨rfl, rfl⟩ <;> omega
  induction f with
  | zero =>
    intro i an M N h hl hi ha
    obtain ⟨hn, hc, hm⟩ := PR_n h
    have hin : i = n := by omega
    subst hin
    refine ⟨an, M.1, N.1, ?_, rfl, ST_rfl h, ha⟩
    rw [k_X10_tellAll_4 g hcr, hc, cLtF (by omega) (by omega), bif_f, b01_and1, bif_t]
  | succ f ih =>
    intro i an M N h hl hi ha
    obtain ⟨hn, hc, hm⟩ := PR_n h
    obtain ⟨⟨x, hx, ex⟩, _⟩ := h.2.1.2.2.2 i (by omega)
    rw [k_X10_tellAll_4 g hcr, hc, cLtT (by omega) (by omega), bif_t, servX g hcr hn hc (by omega), zbI_s, CR_gone h.1 (by omega), nI_s1]
    rw [e_X12_goesBy_42, hm, cLtT (by omega) (by omega), bif_t, isHereN g (by omega), zbI_s, nI_s1, ix48, zbT (by omega) (by omega), bif_t, zx_nI (by omega), cEq0_b01]
    have go : ∀ (y : Nat) (M1 N1 : zM), y ≤ 5 → ST b c r n d M.1 N.1 M1.1 N1.1 → M1.2 = M.2 → N1.2 = N.2 → (∀ k, k ≠ 1 → N1.1 73 k = N.1 73 k) → ∃ an' I' J', zX (t_X10_tellAll g) 4 [some (.ref 6), some (.ref c), some (.int (b01 (if y = 0 then an else true))), some (.int (nI (i + 1))), none] [] ((zu M1.1 r (7 * i + 6) (nI y - 1)), M1.2) = some (some (.int (b01 an')), (I', M.2)) ∧ zX (t_X12_goesBy g) 42 [some (.ref 72), some (.int (nI (i + 1)))] [] ((zu N1.1 73 (48 + i) (nI y)), N1.2) = zX (t_X12_goesBy g) 42 [some (.ref 72), some (.int (nI n))] [] (J', N.2) ∧ ST b c r n d M.1 N.1 I' J' ∧ (an' = true ↔ ∃ t, t < n ∧ ¬ J' 73 (48 + t) = 0) := by
      intro y M1 N1 hy s1 e1 e2 hk
      have s2 : ST b c r n d M1.1 N1.1 (zu M1.1 r (7 * i + 6) (nI y - 1)) (zu N1.1 73 (48 + i) (nI y)) := ST_cell hcr s1.1 (k := 6) (by omega) (by omega) (by omega) rfl (by omega) (by omega) (fun _ => ⟨y, hy, rfl⟩)
      have s3 := ST_tr s1 s2
      obtain ⟨an', I', J', q1, q2, q3, q4⟩ := ih (i + 1) (if y = 0 then an else true) ((zu M1.1 r (7 * i + 6) (nI y - 1)), M1.2) ((zu N1.1 73 (48 + i) (nI y)), N1.2) s2.1 (LW_st hcr hl s3.2.1 s3.2.2) (by omega) (by
        dsimp only
        constructor
        · intro hA
          by_cases y0 : y = 0
          · rw [if_pos y0] at hA
            obtain ⟨t, ht, ht'⟩ := ha.mp hA
            exact ⟨t, by omega, by rw [zu_ne2 (by omega), hk _ (by omega)]; exact ht'⟩
          · exact ⟨i, by omega, by rw [zu_eq]; exact nI_ne0 (by omega) (by omega)⟩
        · rintro ⟨t, ht, ht'⟩
          by_cases y0 : y = 0
          · rw [if_pos y0]
            by_cases ti : t = i
            · subst ti; subst y0
              rw [zu_eq] at ht'
              exact absurd rfl ht'
            · rw [zu_ne2 (by omega), hk _ (by omega)] at ht'
              exact ha.mpr ⟨t, by omega, ht'⟩
          · rw [if_neg y0])
      rw [e1] at q1
      rw [e2] at q2
      rw [e1, e2]
      exact ⟨an', I', J', q1, q2, ST_tr s3 q3, q4⟩
    cases cEq0 (N.1 73 (38 + i))
    · rw [Bool.not_false, bif_t, bif_t, putX g hcr (k := 6) (kk := 6) hn hc (by omega) (by omega) rfl rfl, zbV_s]
      exact go 0 M N (by omega) (ST_rfl h) rfl rfl (fun _ _ => rfl)
    · rw [Bool.not_true, bif_f, bif_f, getX g hcr (k := 3) (kk := 3) hn hc (by omega) (by omega) rfl rfl, zbI_s, CR_glu h.1 (by omega)]
      cases x with
      | zero =>
        obtain ⟨w, I1, J1, hw, q1, q2, q3, q4⟩ := says_al g hcr h hl (t := i) (by omega) ex
        rw [ex, show cEq (nI 0 - 1) (-1) = true from by decide, bif_t, q1, zbI_s, q2, zbI_s, putX g hcr (k := 6) (kk := 6) hn (by dsimp only; rw [q3.2.1.2 2 (by omega)]; exact hc) (by omega) (by omega) rfl rfl, zbV_s, bif_t, nI_s1]
        have := go (w + 1) (I1, M.2) (J1, N.2) (by omega) q3 rfl rfl q4
        rw [if_neg (by omega), nI_p1] at this
        exact this
      | succ x =>
        have eS : X_X12_saysOf g [.ref 72, .int (nI i)] N = some (some (.int (nI x)), N) := by
          rw [x_X12_saysOf_0, ix18, zbT (by omega) (by omega), bif_t, zx_nI (by omega), ex, cGt0_nI (by omega), decide_eq_true (by omega), bif_t, bif_t, nI_p1]
        rw [ex, nI_p1, cEq_n (nI_ne1 (by omega)), bif_f, eS, zbI_s, bif_t, nI_s1, putX g hcr (k := 6) (kk := 6) hn hc (by omega) (by omega) rfl rfl, zbV_s]
        have := go (x + 1) M N (by omega) (ST_rfl h) rfl rfl (fun _ _ => rfl)
        rw [if_neg (by omega), nI_p1] at this
        exact this
