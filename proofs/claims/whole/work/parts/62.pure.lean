/-! PURE ROWS: calls that change nothing but scratch -/
theorem k_right (g : zg) (a b : Int32) {M : zM} (h : Inv g M.1) : OKc g (X_X11_right g [.ref 0, .int a, .int b]) (X_X12_right g [.ref 72, .int a, .int b]) M := by
  obtain ⟨⟨n, s, nx, dd, ll, rf, ⟨h1, _, e12, r1, r2, cd, ca, hm⟩, _⟩, _⟩ := id h
  obtain ⟨hn, hc, hm6⟩ := PR_n h1
  exact OK_ro h (rightC_s g a b hn hc hm (by omega) e12) (rightM_s g a b hn hm6 hm)
theorem k_surest (g : zg) {M : zM} (h : Inv g M.1) : OKc g (X_X11_surest g [.ref 0]) (X_X12_surest g [.ref 72]) M := by
  obtain ⟨⟨n, s, nx, dd, ll, rf, ⟨h1, _, e12, r1, r2, cd, ca, hm⟩, _⟩, _⟩ := id h
  obtain ⟨hn, hc, hm6⟩ := PR_n h1
  have c := surC_s g hn hc hm (by omega) e12
  rw [sur_alike (he' := fun t => cEq0 (M.1 73 (38 + t))) n n 0 none (by omega) (fun t ht => by
    show cEq0 (M.1 8 (7 * t + 5)) = _
    rw [CR_gone h1.1 ht])] at c
  exact OK_ro h c (surM_s g hn hm6 hm)
theorem k_glued (g : zg) {M : zM} (h : Inv g M.1) : OKc g (X_X11_glued g [.ref 0]) (X_X12_glued g [.ref 72]) M := by
  obtain ⟨⟨n, s, nx, dd, ll, rf, ⟨h1, _, e12, r1, r2, cd, ca, hm⟩, _⟩, _⟩ := id h
  obtain ⟨hn, hc, hm6⟩ := PR_n h1
  exact OK_ro h (gluedC_s g hn hc hm (by omega) e12) (gluedM_s g hn hm6 hm)
theorem k_round (g : zg) (a : Int32) {M : zM} (h : Inv g M.1) : OKc g (X_X11_round g [.ref 0, .int a]) (X_X12_round g [.ref 72, .int a]) M := by
  obtain ⟨⟨n, s, nx, dd, ll, rf, _, _, _, _, _, ⟨m, hs⟩, _⟩, _⟩ := id h
  have c := roundC_s g a hs.1 hs.2.1
  rw [rndA_alike (y := M.1 93) (fun k hk => (hs.2.2.2 k hk).1)] at c
  exact OK_ro h c (roundM_s g a hs.1 hs.2.2.1)
theorem k_mixes (g : zg) (a : Int32) {M : zM} (h : Inv g M.1) : OKc g (X_X11_mixes g [.ref 0, .int a]) (X_X12_mixes g [.ref 72, .int a]) M := by
  obtain ⟨⟨n, s, nx, dd, ll, rf, _, _, _, _, _, _, _, hx⟩, _⟩ := id h
  have c := mixesC_s g a M
  rw [mixA_alike (h := M.1 99) (fun k hk => (hx k hk).1)] at c
  exact OK_ro h c (mixesM_s g a M)
theorem k_game (g : zg) (a : Int32) {M : zM} (h : Inv g M.1) : OKc g (X_X11_game g [.ref 0, .int a]) (X_X12_game g [.ref 72, .int a]) M := by
  obtain ⟨⟨n, s, nx, dd, ll, rf, h1, _⟩, _⟩ := id h
  obtain ⟨hn, hc, hm6⟩ := PR_n h1.1
  have c := gameC_s g a hn hc
  rw [game_alike (n := n) (I := M.1) h1.1.1 a] at c
  exact OK_ro h c (gameM_s g a hn hm6)
theorem k_book (g : zg) (a b : Int32) {M : zM} (h : Inv g M.1) : OKc g (X_X11_book g [.ref 0, .int a, .int b]) (X_X12_book g [.ref 72, .int a, .int b]) M := by
  obtain ⟨⟨n, s, nx, dd, ll, rf, h1, _⟩, _⟩ := id h
  obtain ⟨_, _, _, _, l, hl, e2, hb⟩ := h1.1
  have e11 : M.1 7 11 = nI l := ((CR_f h1.1.1).2.2.2.2.2.2.2.2.2.2.2).trans e2
  have c := bookC_s g a b hl e11
  rw [book_alike (l := l) (I := M.1) (I' := M.1) ⟨hl, e11, e2, hb⟩ rfl] at c
  exact OK_ro h c (bookM_s g a b hl e2)
theorem k_fault (g : zg) (a : Int32) {M : zM} (h : Inv g M.1) : OKc g (X_X11_fault g [.ref 0, .int a]) (X_X12_fault g [.ref 72, .int a]) M := by
  obtain ⟨_, _, ⟨e1, e2⟩, _⟩ := id h
  have c := faultC_s g a M
  rw [e1, e2] at c
  exact OK_ro h c (faultM_s g a M)
theorem k_look (g : zg) (a : Int32) {M : zM} (h : Inv g M.1) : OKc g (X_X11_look g [.ref 0, .int a]) (X_X12_look g [.ref 72, .int a]) M := by
  obtain ⟨⟨n, s, nx, dd, ll, rf, ⟨h1, _, e12, r1, r2, cd, ca, hm⟩, hsp, ⟨⟨m1, dy, wt, wm, mu, ha⟩, m2, wo, wm2, hu⟩, ⟨⟨m3, wd, fr, wh, en, o, k, hl⟩, ⟨m4, la, mv, ho⟩, ⟨m5, hs⟩, ⟨m6, hp⟩, _⟩⟩, _⟩ := id h
  obtain ⟨_, a2, a2', a3, a4, a5, a6, a7, a8, a9, a10, a11⟩ := CR_f h1.1
  have c := lookC_s g a (r := rf 0) (by omega) e12
  rw [a2, a10, a4, a7, a8, a9, a5, a6, a11, a3, hl.2.1, ho.2.1, ha.2.1, hs.2.1, hu.2.1, hp.2.1, hsp.2.2.2.1] at c
  have m := lookM_s g a (M := M)
  rw [a2', hl.2.2.1, ho.2.2.1, ha.2.2.1, hs.2.2.1, hu.2.2.1, hp.2.2.1, hsp.2.2.2.2.1, hm.1] at m
  exact OK_ro h c m
theorem k_likely (g : zg) (a : Int32) {M : zM} (h : Inv g M.1) : OKc g (X_X11_likely g [.ref 0, .int a]) (X_X12_likely g [.ref 72, .int a]) M := by
  obtain ⟨⟨n, s, nx, dd, ll, rf, ⟨h1, _, e12, r1, r2, cd, ca, hm⟩, _⟩, _⟩ := id h
  obtain ⟨hn, hc, hm6⟩ := PR_n h1
  obtain ⟨I', L', q1, q2, q3⟩ := likelyC_s g a (r := rf 0) (J := M.1) (by omega) h1.1 hm e12
  have m := likelyM_s g a (N := (I', L')) hn (by dsimp only; rw [q2 72 (by omega) (by omega)]; exact hm6) (cm := M.1 28) (sd' := M.1 29) (r := rf 0) (cd := cd) (ca := ca) (by dsimp only; rw [q2 73 (by omega) (by omega)]; exact hm)
  dsimp only at m
  rw [q2 73 (by omega) (by omega)] at m
  refine ⟨_, I', L', _, q1, m, Inv_of h ?_ ?_ ?_⟩
  · intro b hb h72
    unfold scr at hb
    rw [zu_ne h72]
    exact q2 b (by omega) (by omega)
  · intro k hk _ _
    rw [zu_ne2 hk, q2 72 (by omega) (by omega)]
  · rw [zu_ne (by omega), q2 40 (by omega) (by omega)]
/-- behind act, days, undo -/
theorem Inv_new {g : zg} {I I' J' : zI} (h : Inv g I) {n s nx : Nat} {dd ll rf : Nat → Nat} (hc : CORE n s nx dd ll rf I' J') (hI : ∀ a, a < 72 → J' a = I' a) (h1 : J' 1 = I 1) (h2 : J' 2 = I 2) (h79 : J' 79 = I 79) (h72 : ∀ k, k = 13 ∨ k = 33 ∨ k = 34 ∨ k = 54 → J' 72 k = I 72 k) (h40 : J' 40 0 = I 40 0) (hw : ∀ a, 206 ≤ a → a ≤ 239 → J' a = I a) (h100 : J' 100 = I 100) (h80 : J' 80 = I 80) : Inv g J' := by
  obtain ⟨_, ⟨L, b2⟩, b3, b4, b5⟩ := h
  refine ⟨⟨n, s, nx, dd, ll, rf, CORE_I hc hI⟩, ⟨L, TPW_of b2 (by rw [h1]) (h72 13 (by omega)) h2 h79 h80⟩, ?_, h40.trans b4, IMG_of b5 (h72 54 (by omega)) hw h100⟩
  rw [h1, h72 33 (by omega), h72 34 (by omega)]
  exact b3
theorem k_days (g : zg) (a : Int32) {M : zM} (h : Inv g M.1) : OKc g (X_X11_days g [.ref 0, .int a]) (X_X12_days g [.ref 72, .int a]) M := by
  obtain ⟨⟨n, s, nx, dd, ll, rf, hcore⟩, _⟩ := id h
  obtain ⟨v, I', J', q1, q2, q3, q4, s', nx', dd', ll', rf', q5⟩ := two_step (XC := X_X11_days g [.ref 0, .int a]) (XM := X_X12_days g [.ref 72, .int a]) (M := M) (P := fun J => CORE n s nx dd ll rf M.1 J) (Q := fun I' J J' => VF M.1 I' ∧ VG J J' ∧ ∃ s' nx' dd' ll' rf', CORE n s' nx' dd' ll' rf' I' J') (by
    intro N hN
    obtain ⟨c1, c2, ⟨⟨m1, dy, wt, wm, mu, ha⟩, m2, wo, wm2, hu⟩, ⟨⟨m3, wd, fr, wh, en, o, k, hl⟩, ⟨m4, la, mv, ho⟩, ⟨m5, hs⟩, ⟨m6, hp⟩, hx⟩⟩ := hN
    obtain ⟨v, I', J', s', nx', dd', ll', rf', q1, q2, q3, q4, q5, q6⟩ := days_al g a c1 c2 hl ho ha
    refine ⟨v, I', J', q1, q2, q3, q4, s', nx', dd', ll', rf', q5, q6, ⟨⟨m1, dy, wt, wm, mu, AG_v ha q3 q4⟩, m2, wo, wm2, UM_x hu ?_ ?_ ?_ ?_⟩, ⟨⟨m3, wd, fr, wh, en, o, k, LW_v hl q3 q4⟩, ⟨m4, la, mv, RO_v ho q3 q4⟩, ⟨m5, SE_x hs ?_ ?_ ?_ ?_⟩, ⟨m6, PO_x hp ?_ ?_ ?_ ?_⟩, MX_x hx ?_ ?_⟩⟩
    all_goals first
      | exact q4.2 _ (by omega) (by omega) (by omega) (by omega)
      | (rw [q3 32 (by omega) (by omega) (by omega) (by omega) (by omega) (by omega) (by omega) (by omega) (by omega)])
      | (intro j _; constructor <;> first | (rw [q3 _ (by omega) (by omega) (by omega) (by omega) (by omega) (by omega) (by omega) (by omega) (by omega)]) | (rw [q4.1 _ (by omega) (by omega) (by omega) (by omega) (by omega) (by omega)]))
      | (intro j _; rw [q3 _ (by omega) (by omega) (by omega) (by omega) (by omega) (by omega) (by omega) (by omega) (by omega)])
      | (intro j _; rw [q4.1 _ (by omega) (by omega) (by omega) (by omega) (by omega) (by omega)])) hcore (by
    rintro I' J' ⟨e, _⟩
    exact CORE_J hcore (fun a u1 u2 => e a (by omega) (by omega) (by omega) (by omega) (by omega) (by omega) (by omega) (by omega) (by omega)))
  refine ⟨v, I', M.2, J', q1, q2, Inv_new h q5 (fun a ha => q4.1 a (by omega) (by omega) (by omega) (by omega) (by omega) (by omega)) ?_ ?_ ?_ ?_ ?_ ?_ ?_ ?_⟩
  · exact (q4.1 1 (by omega) (by omega) (by omega) (by omega) (by omega) (by omega)).trans (q3 1 (by omega) (by omega) (by omega) (by omega) (by omega) (by omega) (by omega) (by omega) (by omega))
  · exact (q4.1 2 (by omega) (by omega) (by omega) (by omega) (by omega) (by omega)).trans (q3 2 (by omega) (by omega) (by omega) (by omega) (by omega) (by omega) (by omega) (by omega) (by omega))
  · exact (q4.1 79 (by omega) (by omega) (by omega) (by omega) (by omega) (by omega)).trans (q3 79 (by omega) (by omega) (by omega) (by omega) (by omega) (by omega) (by omega) (by omega) (by omega))
  · intro k hk
    rw [q4.2 k (by omega) (by omega) (by omega) (by omega), q3 72 (by omega) (by omega) (by omega) (by omega) (by omega) (by omega) (by omega) (by omega) (by omega)]
  · rw [q4.1 40 (by omega) (by omega) (by omega) (by omega) (by omega) (by omega), q3 40 (by omega) (by omega) (by omega) (by omega) (by omega) (by omega) (by omega) (by omega) (by omega)]
  · intro b u1 u2
    exact (q4.1 b (by omega) (by omega) (by omega) (by omega) (by omega) (by omega)).trans (q3 b (by omega) (by omega) (by omega) (by omega) (by omega) (by omega) (by omega) (by omega) (by omega))
  · exact (q4.1 100 (by omega) (by omega) (by omega) (by omega) (by omega) (by omega)).trans (q3 100 (by omega) (by omega) (by omega) (by omega) (by omega) (by omega) (by omega) (by omega) (by omega))
  · exact (q4.1 80 (by omega) (by omega) (by omega) (by omega) (by omega) (by omega)).trans (q3 80 (by omega) (by omega) (by omega) (by omega) (by omega) (by omega) (by omega) (by omega) (by omega))
