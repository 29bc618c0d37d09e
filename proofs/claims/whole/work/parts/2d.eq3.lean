set_option maxRecDepth 20000 in
theorem e_X11_of_0 (g : zg) (a1 : Int32) (a2 : Int32) (M : zM) : zX (t_X11_of g) 0 [some (.ref 0), some (.int a1), some (.int a2), none, none] [] M = (zbI (X_X3_has g [.ref 7, .int a1] M) (fun x1 M1 => (bif cEq0 x1 then some (some (.int (-10000)), M1) else (zbI (X_X11_within g [.int a2, .int 0, .int 9] M1) (fun x2 M2 => (bif cEq0 x2 then some (some (.int (-10000)), M2) else (bif cEq a2 7 then (zbI (X_X10_tellBy g [.ref 6, .ref 7, .int a1] M2) (fun x3 M3 => some (some (.int x3), M3))) else (bif cEq a2 8 then (zbI (X_X10_errBy g [.ref 6, .ref 7, .int a1] M2) (fun x4 M4 => some (some (.int x4), M4))) else (bif cEq a2 9 then (zbI (X_X3_get g [.ref 7, .int a1, .int 6] M2) (fun x5 M5 => (bif cEq x5 (-1) then some (some (.int 0), M5) else (zbI (X_X10_blameBy g [.ref 6, .ref 7, .int a1, .int x5] M5) (fun x6 M6 => some (some (.int x6), M6)))))) else (zbI (X_X3_get g [.ref 7, .int a1, .int a2] M2) (fun x7 M7 => some (some (.int x7), M7)))))))))))) := by
  refine Eq.trans (zX_rgN (tl_X11_of g) (hc_X11_of g) 38 _ _ _ _) ?_
  refine Eq.trans (Eq.trans (r_0 (act := oS (fAld 1 0)) rfl) (a_ald rfl)) ?_
  refine Eq.trans (Eq.trans (r_go (act := oS (fGr g 4 11 1)) rfl rfl) (a_gr (zO_0 g) (zR_0_1 g))) ?_
  refine Eq.trans (Eq.trans (r_go (act := oS (fGr g 7 10 0)) rfl rfl) (a_gr (zO_6 g) (zR_6_0 g))) ?_
  refine Eq.trans (Eq.trans (r_go (act := oS (fAst 8 3)) rfl rfl) (a_ast rfl rfl)) ?_
  refine Eq.trans (Eq.trans (r_go (act := oS (fAld 9 3)) rfl rfl) (a_ald rfl)) ?_
  refine Eq.trans (Eq.trans (r_go (act := oS (fIld 10 1)) rfl rfl) (a_ild rfl)) ?_
  refine Eq.trans (Eq.trans (r_go (act := oCI 13 2 (zcv g 3) (X_X3_has g)) rfl rfl) (a_cI rfl (zck (zO_7 g) rfl))) (zbI_cg (fun x1 M1 => ?_))
  refine Eq.trans (Eq.trans (r_go (act := oS (fIf 26 16 cEq0)) rfl rfl) (a_if)) (bcg ?_ ?_)
  · refine Eq.trans (Eq.trans (r_go (act := oS (fSt 29 (gC (.int (-10000))))) rfl rfl) (a_C)) ?_
    exact Eq.trans (r_go (act := oIret) rfl rfl) (a_iret)
  · refine Eq.trans (Eq.trans (r_go (act := oS (fIld 17 2)) rfl rfl) (a_ild rfl)) ?_
    refine Eq.trans (Eq.trans (r_go (act := oS (fSt 18 (gC (.int 0)))) rfl rfl) (a_C)) ?_
    refine Eq.trans (Eq.trans (r_go (act := oS (fSt 20 (gC (.int 9)))) rfl rfl) (a_C)) ?_
    refine Eq.trans (Eq.trans (r_go (act := oCI 23 3 zcs (X_X11_within g)) rfl rfl) (a_cI rfl rfl)) (zbI_cg (fun x2 M2 => ?_))
    refine Eq.trans (Eq.trans (r_go (act := oS (fIf 26 30 cEq0)) rfl rfl) (a_if)) (bcg ?_ ?_)
    · refine Eq.trans (Eq.trans (r_go (act := oS (fSt 29 (gC (.int (-10000))))) rfl rfl) (a_C)) ?_
      exact Eq.trans (r_go (act := oIret) rfl rfl) (a_iret)
    · refine Eq.trans (Eq.trans (r_go (act := oS (fIld 31 2)) rfl rfl) (a_ild rfl)) ?_
      refine Eq.trans (Eq.trans (r_go (act := oS (fSt 33 (gC (.int 7)))) rfl rfl) (a_C)) ?_
      refine Eq.trans (Eq.trans (r_go (act := oS (fCm 36 46 cEq)) rfl rfl) (a_cm)) (bcg ?_ ?_)
      · refine Eq.trans (Eq.trans (r_go (act := oS (fAld 37 0)) rfl rfl) (a_ald rfl)) ?_
        refine Eq.trans (Eq.trans (r_go (act := oS (fGr g 40 11 1)) rfl rfl) (a_gr (zO_0 g) (zR_0_1 g))) ?_
        refine Eq.trans (Eq.trans (r_go (act := oS (fAld 41 3)) rfl rfl) (a_ald rfl)) ?_
        refine Eq.trans (Eq.trans (r_go (act := oS (fIld 42 1)) rfl rfl) (a_ild rfl)) ?_
        refine Eq.trans (Eq.trans (r_go (act := oCI 45 3 (zcv g 10) (X_X10_tellBy g)) rfl rfl) (a_cI rfl (zck (zO_6 g) rfl))) (zbI_cg (fun x3 M3 => ?_))
        exact Eq.trans (r_go (act := oIret) rfl rfl) (a_iret)
      · refine Eq.trans (Eq.trans (r_go (act := oS (fIld 47 2)) rfl rfl) (a_ild rfl)) ?_
        refine Eq.trans (Eq.trans (r_go (act := oS (fSt 49 (gC (.int 8)))) rfl rfl) (a_C)) ?_
        refine Eq.trans (Eq.trans (r_go (act := oS (fCm 52 62 cEq)) rfl rfl) (a_cm)) (bcg ?_ ?_)
        · refine Eq.trans (Eq.trans (r_go (act := oS (fAld 53 0)) rfl rfl) (a_ald rfl)) ?_
          refine Eq.trans (Eq.trans (r_go (act := oS (fGr g 56 11 1)) rfl rfl) (a_gr (zO_0 g) (zR_0_1 g))) ?_
          refine Eq.trans (Eq.trans (r_go (act := oS (fAld 57 3)) rfl rfl) (a_ald rfl)) ?_
          refine Eq.trans (Eq.trans (r_go (act := oS (fIld 58 1)) rfl rfl) (a_ild rfl)) ?_
          refine Eq.trans (Eq.trans (r_go (act := oCI 61 3 (zcv g 10) (X_X10_errBy g)) rfl rfl) (a_cI rfl (zck (zO_6 g) rfl))) (zbI_cg (fun x4 M4 => ?_))
          exact Eq.trans (r_go (act := oIret) rfl rfl) (a_iret)
        · refine Eq.trans (Eq.trans (r_go (act := oS (fIld 63 2)) rfl rfl) (a_ild rfl)) ?_
          refine Eq.trans (Eq.trans (r_go (act := oS (fSt 65 (gC (.int 9)))) rfl rfl) (a_C)) ?_
          refine Eq.trans (Eq.trans (r_go (act := oS (fCm 68 99 cEq)) rfl rfl) (a_cm)) (bcg ?_ ?_)
          · refine Eq.trans (Eq.trans (r_go (act := oS (fAld 69 3)) rfl rfl) (a_ald rfl)) ?_
            refine Eq.trans (Eq.trans (r_go (act := oS (fIld 70 1)) rfl rfl) (a_ild rfl)) ?_
            refine Eq.trans (Eq.trans (r_go (act := oS (fSt 72 (gC (.int 6)))) rfl rfl) (a_C)) ?_
            refine Eq.trans (Eq.trans (r_go (act := oCI 75 3 (zcv g 3) (X_X3_get g)) rfl rfl) (a_cI rfl (zck (zO_7 g) rfl))) (zbI_cg (fun x5 M5 => ?_))
            refine Eq.trans (Eq.trans (r_go (act := oS (fIst 77 4)) rfl rfl) (a_ist rfl rfl)) ?_
            refine Eq.trans (Eq.trans (r_go (act := oS (fIld 79 4)) rfl rfl) (a_ild rfl)) ?_
            refine Eq.trans (Eq.trans (r_go (act := oS (fSt 80 (gC (.int (-1))))) rfl rfl) (a_C)) ?_
            refine Eq.trans (Eq.trans (r_go (act := oS (fCm 83 87 cEq)) rfl rfl) (a_cm)) (bcg ?_ ?_)
            · refine Eq.trans (Eq.trans (r_go (act := oS (fSt 84 (gC (.int 0)))) rfl rfl) (a_C)) ?_
              refine Eq.trans (Eq.trans (r_go (act := oS (fGo 98)) rfl rfl) (a_goto)) ?_
              exact Eq.trans (r_go (act := oIret) rfl rfl) (a_iret)
            · refine Eq.trans (Eq.trans (r_go (act := oS (fAld 88 0)) rfl rfl) (a_ald rfl)) ?_
              refine Eq.trans (Eq.trans (r_go (act := oS (fGr g 91 11 1)) rfl rfl) (a_gr (zO_0 g) (zR_0_1 g))) ?_
              refine Eq.trans (Eq.trans (r_go (act := oS (fAld 92 3)) rfl rfl) (a_ald rfl)) ?_
              refine Eq.trans (Eq.trans (r_go (act := oS (fIld 93 1)) rfl rfl) (a_ild rfl)) ?_
              refine Eq.trans (Eq.trans (r_go (act := oS (fIld 95 4)) rfl rfl) (a_ild rfl)) ?_
              refine Eq.trans (Eq.trans (r_go (act := oCI 98 4 (zcv g 10) (X_X10_blameBy g)) rfl rfl) (a_cI rfl (zck (zO_6 g) rfl))) (zbI_cg (fun x6 M6 => ?_))
              exact Eq.trans (r_go (act := oIret) rfl rfl) (a_iret)
          · refine Eq.trans (Eq.trans (r_go (act := oS (fAld 100 3)) rfl rfl) (a_ald rfl)) ?_
            refine Eq.trans (Eq.trans (r_go (act := oS (fIld 101 1)) rfl rfl) (a_ild rfl)) ?_
            refine Eq.trans (Eq.trans (r_go (act := oS (fIld 102 2)) rfl rfl) (a_ild rfl)) ?_
            refine Eq.trans (Eq.trans (r_go (act := oCI 105 3 (zcv g 3) (X_X3_get g)) rfl rfl) (a_cI rfl (zck (zO_7 g) rfl))) (zbI_cg (fun x7 M7 => ?_))
            exact Eq.trans (r_go (act := oIret) rfl rfl) (a_iret)
theorem x_X11_of_0 (g : zg) (a1 : Int32) (a2 : Int32) (M : zM) : X_X11_of g [.ref 0, .int a1, .int a2] M = (zbI (X_X3_has g [.ref 7, .int a1] M) (fun x1 M1 => (bif cEq0 x1 then some (some (.int (-10000)), M1) else (zbI (X_X11_within g [.int a2, .int 0, .int 9] M1) (fun x2 M2 => (bif cEq0 x2 then some (some (.int (-10000)), M2) else (bif cEq a2 7 then (zbI (X_X10_tellBy g [.ref 6, .ref 7, .int a1] M2) (fun x3 M3 => some (some (.int x3), M3))) else (bif cEq a2 8 then (zbI (X_X10_errBy g [.ref 6, .ref 7, .int a1] M2) (fun x4 M4 => some (some (.int x4), M4))) else (bif cEq a2 9 then (zbI (X_X3_get g [.ref 7, .int a1, .int 6] M2) (fun x5 M5 => (bif cEq x5 (-1) then some (some (.int 0), M5) else (zbI (X_X10_blameBy g [.ref 6, .ref 7, .int a1, .int x5] M5) (fun x6 M6 => some (some (.int x6), M6)))))) else (zbI (X_X3_get g [.ref 7, .int a1, .int a2] M2) (fun x7 M7 => some (some (.int x7), M7)))))))))))) := e_X11_of_0 g a1 a2 M
set_option maxRecDepth 20000 in
theorem e_X11_moves_0 (g : zg) (a1 : Int32) (M : zM) : zX (t_X11_moves g) 0 [some (.ref 0), some (.int a1)] [] M = (zbI (X_X11_within g [.int a1, .int 0, .int 9999] M) (fun x1 M1 => (bif cEq0 x1 then some (some (.int (-100)), M1) else (zbI (X_X7_moveOn g [.ref 17, .int a1] M1) (fun x2 M2 => some (some (.int x2), M2)))))) := by
  refine Eq.trans (zX_rgN (tl_X11_moves g) (hc_X11_moves g) 13 _ _ _ _) ?_
  refine Eq.trans (Eq.trans (r_0 (act := oS (fIld 1 1)) rfl) (a_ild rfl)) ?_
  refine Eq.trans (Eq.trans (r_go (act := oS (fSt 2 (gC (.int 0)))) rfl rfl) (a_C)) ?_
  refine Eq.trans (Eq.trans (r_go (act := oS (fSt 5 (gC (.int 9999)))) rfl rfl) (a_C)) ?_
  refine Eq.trans (Eq.trans (r_go (act := oCI 8 3 zcs (X_X11_within g)) rfl rfl) (a_cI rfl rfl)) (zbI_cg (fun x1 M1 => ?_))
  refine Eq.trans (Eq.trans (r_go (act := oS (fIf 25 11 cEq0)) rfl rfl) (a_if)) (bcg ?_ ?_)
  · refine Eq.trans (Eq.trans (r_go (act := oS (fSt 27 (gC (.int (-100))))) rfl rfl) (a_C)) ?_
    exact Eq.trans (r_go (act := oIret) rfl rfl) (a_iret)
  · refine Eq.trans (Eq.trans (r_go (act := oS (fAld 12 0)) rfl rfl) (a_ald rfl)) ?_
    refine Eq.trans (Eq.trans (r_go (act := oS (fGr g 15 11 1)) rfl rfl) (a_gr (zO_0 g) (zR_0_1 g))) ?_
    refine Eq.trans (Eq.trans (r_go (act := oS (fGr g 18 10 2)) rfl rfl) (a_gr (zO_6 g) (zR_6_2 g))) ?_
    refine Eq.trans (Eq.trans (r_go (act := oS (fIld 19 1)) rfl rfl) (a_ild rfl)) ?_
    refine Eq.trans (Eq.trans (r_go (act := oCI 22 2 (zcv g 7) (X_X7_moveOn g)) rfl rfl) (a_cI rfl (zck (zO_17 g) rfl))) (zbI_cg (fun x2 M2 => ?_))
    refine Eq.trans (Eq.trans (r_go (act := oS (fGo 27)) rfl rfl) (a_goto)) ?_
    exact Eq.trans (r_go (act := oIret) rfl rfl) (a_iret)
theorem x_X11_moves_0 (g : zg) (a1 : Int32) (M : zM) : X_X11_moves g [.ref 0, .int a1] M = (zbI (X_X11_within g [.int a1, .int 0, .int 9999] M) (fun x1 M1 => (bif cEq0 x1 then some (some (.int (-100)), M1) else (zbI (X_X7_moveOn g [.ref 17, .int a1] M1) (fun x2 M2 => some (some (.int x2), M2)))))) := e_X11_moves_0 g a1 M
set_option maxRecDepth 20000 in
theorem e_X1_read_0 (g : zg) (a1 : Int32) (a2 : Int32) (M : zM) : zX (t_X1_read g) 0 [some (.ref 25), some (.int a1), some (.int a2)] [] M = (zbI (X_X11_within g [.int a1, .int 0, .int 149] M) (fun x1 M1 => (bif cEq0 x1 then some (some (.int (-1)), M1) else (zbI (X_X11_within g [.int a2, .int 0, .int 3] M1) (fun x2 M2 => (bif cEq0 x2 then some (some (.int (-1)), M2) else (bif zb ((a1 * 4) + a2) 600 then some (some (.int (M2.1 26 (zx ((a1 * 4) + a2)))), M2) else none))))))) := by
  refine Eq.trans (zX_rgN (tl_X1_read g) (hc_X1_read g) 21 _ _ _ _) ?_
  refine Eq.trans (Eq.trans (r_0 (act := oS (fIld 1 1)) rfl) (a_ild rfl)) ?_
  refine Eq.trans (Eq.trans (r_go (act := oS (fSt 2 (gC (.int 0)))) rfl rfl) (a_C)) ?_
  refine Eq.trans (Eq.trans (r_go (act := oS (fSt 5 (gC (.int 149)))) rfl rfl) (a_C)) ?_
  refine Eq.trans (Eq.trans (r_go (act := oCI 8 3 zcs (X_X11_within g)) rfl rfl) (a_cI rfl rfl)) (zbI_cg (fun x1 M1 => ?_))
  refine Eq.trans (Eq.trans (r_go (act := oS (fIf 33 11 cEq0)) rfl rfl) (a_if)) (bcg ?_ ?_)
  · refine Eq.trans (Eq.trans (r_go (act := oS (fSt 34 (gC (.int (-1))))) rfl rfl) (a_C)) ?_
    exact Eq.trans (r_go (act := oIret) rfl rfl) (a_iret)
  · refine Eq.trans (Eq.trans (r_go (act := oS (fIld 12 2)) rfl rfl) (a_ild rfl)) ?_
    refine Eq.trans (Eq.trans (r_go (act := oS (fSt 13 (gC (.int 0)))) rfl rfl) (a_C)) ?_
    refine Eq.trans (Eq.trans (r_go (act := oS (fSt 14 (gC (.int 3)))) rfl rfl) (a_C)) ?_
    refine Eq.trans (Eq.trans (r_go (act := oCI 17 3 zcs (X_X11_within g)) rfl rfl) (a_cI rfl rfl)) (zbI_cg (fun x2 M2 => ?_))
    refine Eq.trans (Eq.trans (r_go (act := oS (fIf 33 20 cEq0)) rfl rfl) (a_if)) (bcg ?_ ?_)
    · refine Eq.trans (Eq.trans (r_go (act := oS (fSt 34 (gC (.int (-1))))) rfl rfl) (a_C)) ?_
      exact Eq.trans (r_go (act := oIret) rfl rfl) (a_iret)
    · refine Eq.trans (Eq.trans (r_go (act := oS (fAld 21 0)) rfl rfl) (a_ald rfl)) ?_
      refine Eq.trans (Eq.trans (r_go (act := oS (fGr g 24 1 0)) rfl rfl) (a_gr (zO_25 g) (zR_25_0 g))) ?_
      refine Eq.trans (Eq.trans (r_go (act := oS (fIld 25 1)) rfl rfl) (a_ild rfl)) ?_
      refine Eq.trans (Eq.trans (r_go (act := oS (fSt 26 (gC (.int 4)))) rfl rfl) (a_C)) ?_
      refine Eq.trans (Eq.trans (r_go (act := oS (fSt 27 (g2 (fun x y => x * y)))) rfl rfl) (a_mul)) ?_
      refine Eq.trans (Eq.trans (r_go (act := oS (fIld 28 2)) rfl rfl) (a_ild rfl)) ?_
      refine Eq.trans (Eq.trans (r_go (act := oS (fSt 29 (g2 (fun x y => x + y)))) rfl rfl) (a_add)) ?_
      refine Eq.trans (Eq.trans (r_go (act := oS (fIa g 30)) rfl rfl) (a_ia (zA_26 g) zS_26)) (bcg ?_ rfl)
      refine Eq.trans (Eq.trans (r_go (act := oS (fGo 34)) rfl rfl) (a_goto)) ?_
      exact Eq.trans (r_go (act := oIret) rfl rfl) (a_iret)
theorem x_X1_read_0 (g : zg) (a1 : Int32) (a2 : Int32) (M : zM) : X_X1_read g [.ref 25, .int a1, .int a2] M = (zbI (X_X11_within g [.int a1, .int 0, .int 149] M) (fun x1 M1 => (bif cEq0 x1 then some (some (.int (-1)), M1) else (zbI (X_X11_within g [.int a2, .int 0, .int 3] M1) (fun x2 M2 => (bif cEq0 x2 then some (some (.int (-1)), M2) else (bif zb ((a1 * 4) + a2) 600 then some (some (.int (M2.1 26 (zx ((a1 * 4) + a2)))), M2) else none))))))) := e_X1_read_0 g a1 a2 M
set_option maxRecDepth 20000 in
theorem e_X11_book_0 (g : zg) (a1 : Int32) (a2 : Int32) (M : zM) : zX (t_X11_book g) 0 [some (.ref 0), some (.int a1), some (.int a2)] [] M = (zbI (X_X11_within g [.int a1, .int 0, .int ((M.1 7 11) - 1)] M) (fun x1 M1 => (bif cEq0 x1 then some (some (.int (-10000)), M1) else (zbI (X_X11_within g [.int a2, .int 0, .int 3] M1) (fun x2 M2 => (bif cEq0 x2 then some (some (.int (-10000)), M2) else (zbI (X_X1_read g [.ref 25, .int a1, .int a2] M2) (fun x3 M3 => some (some (.int x3), M3))))))))) := by
  refine Eq.trans (zX_rgN (tl_X11_book g) (hc_X11_book g) 23 _ _ _ _) ?_
  refine Eq.trans (Eq.trans (r_0 (act := oS (fIld 1 1)) rfl) (a_ild rfl)) ?_
  refine Eq.trans (Eq.trans (r_go (act := oS (fSt 2 (gC (.int 0)))) rfl rfl) (a_C)) ?_
  refine Eq.trans (Eq.trans (r_go (act := oS (fAld 3 0)) rfl rfl) (a_ald rfl)) ?_
  refine Eq.trans (Eq.trans (r_go (act := oS (fGr g 6 11 1)) rfl rfl) (a_gr (zO_0 g) (zR_0_1 g))) ?_
  refine Eq.trans (Eq.trans (r_go (act := oS (fGr g 9 10 0)) rfl rfl) (a_gr (zO_6 g) (zR_6_0 g))) ?_
  refine Eq.trans (Eq.trans (r_go (act := oS (fGi g 12 3 11)) rfl rfl) (a_gi (zO_7 g))) ?_
  refine Eq.trans (Eq.trans (r_go (act := oS (fSt 13 (gC (.int 1)))) rfl rfl) (a_C)) ?_
  refine Eq.trans (Eq.trans (r_go (act := oS (fSt 14 (g2 (fun x y => x - y)))) rfl rfl) (a_sub)) ?_
  refine Eq.trans (Eq.trans (r_go (act := oCI 17 3 zcs (X_X11_within g)) rfl rfl) (a_cI rfl rfl)) (zbI_cg (fun x1 M1 => ?_))
  refine Eq.trans (Eq.trans (r_go (act := oS (fIf 29 20 cEq0)) rfl rfl) (a_if)) (bcg ?_ ?_)
  · refine Eq.trans (Eq.trans (r_go (act := oS (fSt 32 (gC (.int (-10000))))) rfl rfl) (a_C)) ?_
    exact Eq.trans (r_go (act := oIret) rfl rfl) (a_iret)
  · refine Eq.trans (Eq.trans (r_go (act := oS (fIld 21 2)) rfl rfl) (a_ild rfl)) ?_
    refine Eq.trans (Eq.trans (r_go (act := oS (fSt 22 (gC (.int 0)))) rfl rfl) (a_C)) ?_
    refine Eq.trans (Eq.trans (r_go (act := oS (fSt 23 (gC (.int 3)))) rfl rfl) (a_C)) ?_
    refine Eq.trans (Eq.trans (r_go (act := oCI 26 3 zcs (X_X11_within g)) rfl rfl) (a_cI rfl rfl)) (zbI_cg (fun x2 M2 => ?_))
    refine Eq.trans (Eq.trans (r_go (act := oS (fIf 29 33 cEq0)) rfl rfl) (a_if)) (bcg ?_ ?_)
    · refine Eq.trans (Eq.trans (r_go (act := oS (fSt 32 (gC (.int (-10000))))) rfl rfl) (a_C)) ?_
      exact Eq.trans (r_go (act := oIret) rfl rfl) (a_iret)
    · refine Eq.trans (Eq.trans (r_go (act := oS (fAld 34 0)) rfl rfl) (a_ald rfl)) ?_
      refine Eq.trans (Eq.trans (r_go (act := oS (fGr g 37 11 1)) rfl rfl) (a_gr (zO_0 g) (zR_0_1 g))) ?_
      refine Eq.trans (Eq.trans (r_go (act := oS (fGr g 40 10 4)) rfl rfl) (a_gr (zO_6 g) (zR_6_4 g))) ?_
      refine Eq.trans (Eq.trans (r_go (act := oS (fIld 41 1)) rfl rfl) (a_ild rfl)) ?_
      refine Eq.trans (Eq.trans (r_go (act := oS (fIld 42 2)) rfl rfl) (a_ild rfl)) ?_
      refine Eq.trans (Eq.trans (r_go (act := oCI 45 3 (zcv g 1) (X_X1_read g)) rfl rfl) (a_cI rfl (zck (zO_25 g) rfl))) (zbI_cg (fun x3 M3 => ?_))
      exact Eq.trans (r_go (act := oIret) rfl rfl) (a_iret)
theorem x_X11_book_0 (g : zg) (a1 : Int32) (a2 : Int32) (M : zM) : X_X11_book g [.ref 0, .int a1, .int a2] M = (zbI (X_X11_within g [.int a1, .int 0, .int ((M.1 7 11) - 1)] M) (fun x1 M1 => (bif cEq0 x1 then some (some (.int (-10000)), M1) else (zbI (X_X11_within g [.int a2, .int 0, .int 3] M1) (fun x2 M2 => (bif cEq0 x2 then some (some (.int (-10000)), M2) else (zbI (X_X1_read g [.ref 25, .int a1, .int a2] M2) (fun x3 M3 => some (some (.int x3), M3))))))))) := e_X11_book_0 g a1 a2 M
set_option maxRecDepth 20000 in
theorem e_X11_goes_0 (g : zg) (a1 : Int32) (a2 : Int32) (M : zM) : zX (t_X11_goes g) 0 [some (.ref 0), some (.int a1), some (.int a2), none, none, none, none, none] [] M = (zbI (X_X11_within g [.int a1, .int 1, .int 99] M) (fun x1 M1 => (bif cEq0 x1 then some (some (.int (-100000)), M1) else (zbI (X_X11_within g [.int a2, .int 0, .int 5] M1) (fun x2 M2 => (bif cEq0 x2 then some (some (.int (-100000)), M2) else (zbV (X_X3_take g [.ref 40, .ref 7] M2) (fun M3 => zX (t_X11_goes g) 44 [some (.ref 0), some (.int a1), some (.int a2), some (.int (-1)), some (.int (-1)), some (.int 0), none, none] [] M3)))))))) := by
  refine Eq.trans (zX_rgN (tl_X11_goes g) (hc_X11_goes g) 24 _ _ _ _) ?_
  refine Eq.trans (Eq.trans (r_0 (act := oS (fIld 1 1)) rfl) (a_ild rfl)) ?_
  refine Eq.trans (Eq.trans (r_go (act := oS (fSt 2 (gC (.int 1)))) rfl rfl) (a_C)) ?_
  refine Eq.trans (Eq.trans (r_go (act := oS (fSt 4 (gC (.int 99)))) rfl rfl) (a_C)) ?_
  refine Eq.trans (Eq.trans (r_go (act := oCI 7 3 zcs (X_X11_within g)) rfl rfl) (a_cI rfl rfl)) (zbI_cg (fun x1 M1 => ?_))
  refine Eq.trans (Eq.trans (r_go (act := oS (fIf 19 10 cEq0)) rfl rfl) (a_if)) (bcg ?_ ?_)
  · refine Eq.trans (Eq.trans (r_go (act := oS (fSt 21 (gC (.int (-100000))))) rfl rfl) (a_C)) ?_
    exact Eq.trans (r_go (act := oIret) rfl rfl) (a_iret)
  · refine Eq.trans (Eq.trans (r_go (act := oS (fIld 11 2)) rfl rfl) (a_ild rfl)) ?_
    refine Eq.trans (Eq.trans (r_go (act := oS (fSt 12 (gC (.int 0)))) rfl rfl) (a_C)) ?_
    refine Eq.trans (Eq.trans (r_go (act := oS (fSt 13 (gC (.int 5)))) rfl rfl) (a_C)) ?_
    refine Eq.trans (Eq.trans (r_go (act := oCI 16 3 zcs (X_X11_within g)) rfl rfl) (a_cI rfl rfl)) (zbI_cg (fun x2 M2 => ?_))
    refine Eq.trans (Eq.trans (r_go (act := oS (fIf 19 22 cEq0)) rfl rfl) (a_if)) (bcg ?_ ?_)
    · refine Eq.trans (Eq.trans (r_go (act := oS (fSt 21 (gC (.int (-100000))))) rfl rfl) (a_C)) ?_
      exact Eq.trans (r_go (act := oIret) rfl rfl) (a_iret)
    · refine Eq.trans (Eq.trans (r_go (act := oS (fSt 23 (gC (.int (-1))))) rfl rfl) (a_C)) ?_
      refine Eq.trans (Eq.trans (r_go (act := oS (fIst 24 3)) rfl rfl) (a_ist rfl rfl)) ?_
      refine Eq.trans (Eq.trans (r_go (act := oS (fSt 25 (gC (.int (-1))))) rfl rfl) (a_C)) ?_
      refine Eq.trans (Eq.trans (r_go (act := oS (fIst 27 4)) rfl rfl) (a_ist rfl rfl)) ?_
      refine Eq.trans (Eq.trans (r_go (act := oS (fAld 28 0)) rfl rfl) (a_ald rfl)) ?_
      refine Eq.trans (Eq.trans (r_go (act := oS (fGr g 31 11 2)) rfl rfl) (a_gr (zO_0 g) (zR_0_2 g))) ?_
      refine Eq.trans (Eq.trans (r_go (act := oS (fAld 32 0)) rfl rfl) (a_ald rfl)) ?_
      refine Eq.trans (Eq.trans (r_go (act := oS (fGr g 35 11 1)) rfl rfl) (a_gr (zO_0 g) (zR_0_1 g))) ?_
      refine Eq.trans (Eq.trans (r_go (act := oS (fGr g 38 10 0)) rfl rfl) (a_gr (zO_6 g) (zR_6_0 g))) ?_
      refine Eq.trans (Eq.trans (r_go (act := oCV 41 2 (zcv g 3) (X_X3_take g)) rfl rfl) (a_cV rfl (zck (zO_40 g) rfl))) (zbV_cg (fun M3 => ?_))
      refine Eq.trans (Eq.trans (r_go (act := oS (fSt 42 (gC (.int 0)))) rfl rfl) (a_C)) ?_
      refine Eq.trans (Eq.trans (r_go (act := oS (fIst 44 5)) rfl rfl) (a_ist rfl rfl)) ?_
      exact r_cut rfl rfl
theorem x_X11_goes_0 (g : zg) (a1 : Int32) (a2 : Int32) (M : zM) : X_X11_goes g [.ref 0, .int a1, .int a2] M = (zbI (X_X11_within g [.int a1, .int 1, .int 99] M) (fun x1 M1 => (bif cEq0 x1 then some (some (.int (-100000)), M1) else (zbI (X_X11_within g [.int a2, .int 0, .int 5] M1) (fun x2 M2 => (bif cEq0 x2 then some (some (.int (-100000)), M2) else (zbV (X_X3_take g [.ref 40, .ref 7] M2) (fun M3 => zX (t_X11_goes g) 44 [some (.ref 0), some (.int a1), some (.int a2), some (.int (-1)), some (.int (-1)), some (.int 0), none, none] [] M3)))))))) := e_X11_goes_0 g a1 a2 M
set_option maxRecDepth 20000 in
theorem e_X11_goes_44 (g : zg) (a1 : Int32) (a2 : Int32) (a3 : Int32) (a4 : Int32) (a5 : Int32) (M : zM) : zX (t_X11_goes g) 44 [some (.ref 0), some (.int a1), some (.int a2), some (.int a3), some (.int a4), some (.int a5), none, none] [] M = (bif cLt a5 a1 then (zbI (X_X10_pass g [.ref 6, .ref 40] M) (fun x1 M1 => (bif cEq x1 (-1) then zX (t_X11_goes g) 44 [some (.ref 0), some (.int a1), some (.int a2), some (.int a3), some (.int a4), some (.int (a5 + 1)), none, none] [] M1 else (bif cEq a3 (-1) then zX (t_X11_goes g) 44 [some (.ref 0), some (.int a1), some (.int a2), some (.int x1), some (.int (M.1 40 10)), some (.int (a5 + 1)), none, none] [] M1 else zX (t_X11_goes g) 44 [some (.ref 0), some (.int a1), some (.int a2), some (.int a3), some (.int a4), some (.int (a5 + 1)), none, none] [] M1)))) else (bif cEq a2 0 then some (some (.int (M.1 40 7)), M) else (bif cEq a2 1 then some (some (.int (M.1 40 8)), M) else (bif cEq a2 2 then some (some (.int (M.1 40 4)), M) else (bif cEq a2 3 then some (some (.int (M.1 40 9)), M) else (bif cEq a2 4 then some (some (.int a3), M) else some (some (.int a4), M))))))) := by
  refine Eq.trans (zX_rgN (tl_X11_goes g) (hc_X11_goes g) 27 _ _ _ _) ?_
  refine Eq.trans (Eq.trans (Eq.trans (r_0 (act := oF [6, 7] (oS (fIld 46 5))) rfl) (a_F rfl)) (a_ild rfl)) ?_
  refine Eq.trans (Eq.trans (r_go (act := oS (fIld 47 1)) rfl rfl) (a_ild rfl)) ?_
  refine Eq.trans (Eq.trans (r_go (act := oS (fCm 50 96 cLt)) rfl rfl) (a_cm)) (bcg ?_ ?_)
  · refine Eq.trans (Eq.trans (r_go (act := oS (fAld 51 0)) rfl rfl) (a_ald rfl)) ?_
    refine Eq.trans (Eq.trans (r_go (act := oS (fGr g 54 11 2)) rfl rfl) (a_gr (zO_0 g) (zR_0_2 g))) ?_
    refine Eq.trans (Eq.trans (r_go (act := oS (fGi g 57 3 10)) rfl rfl) (a_gi (zO_40 g))) ?_
    refine Eq.trans (Eq.trans (r_go (act := oS (fIst 59 6)) rfl rfl) (a_ist rfl rfl)) ?_
    refine Eq.trans (Eq.trans (r_go (act := oS (fAld 60 0)) rfl rfl) (a_ald rfl)) ?_
    refine Eq.trans (Eq.trans (r_go (act := oS (fGr g 63 11 1)) rfl rfl) (a_gr (zO_0 g) (zR_0_1 g))) ?_
    refine Eq.trans (Eq.trans (r_go (act := oS (fAld 64 0)) rfl rfl) (a_ald rfl)) ?_
    refine Eq.trans (Eq.trans (r_go (act := oS (fGr g 67 11 2)) rfl rfl) (a_gr (zO_0 g) (zR_0_2 g))) ?_
    refine Eq.trans (Eq.trans (r_go (act := oCI 70 2 (zcv g 10) (X_X10_pass g)) rfl rfl) (a_cI rfl (zck (zO_6 g) rfl))) (zbI_cg (fun x1 M1 => ?_))
    refine Eq.trans (Eq.trans (r_go (act := oS (fIst 72 7)) rfl rfl) (a_ist rfl rfl)) ?_
    refine Eq.trans (Eq.trans (r_go (act := oS (fIld 74 7)) rfl rfl) (a_ild rfl)) ?_
    refine Eq.trans (Eq.trans (r_go (act := oS (fSt 75 (gC (.int (-1))))) rfl rfl) (a_C)) ?_
    refine Eq.trans (Eq.trans (r_go (act := oS (fCm 90 78 cEq)) rfl rfl) (a_cm)) (bcg ?_ ?_)
    · refine Eq.trans (Eq.trans (r_go (act := oS (fInc 93 5 1)) rfl rfl) (a_inc rfl rfl rfl)) ?_
      refine Eq.trans (Eq.trans (r_go (act := oS (fGo 44)) rfl rfl) (a_goto)) ?_
      exact r_cut rfl rfl
    · refine Eq.trans (Eq.trans (r_go (act := oS (fIld 79 3)) rfl rfl) (a_ild rfl)) ?_
      refine Eq.trans (Eq.trans (r_go (act := oS (fSt 80 (gC (.int (-1))))) rfl rfl) (a_C)) ?_
      refine Eq.trans (Eq.trans (r_go (act := oS (fCm 83 90 cEq)) rfl rfl) (a_cm)) (bcg ?_ ?_)
      · refine Eq.trans (Eq.trans (r_go (act := oS (fIld 85 7)) rfl rfl) (a_ild rfl)) ?_
        refine Eq.trans (Eq.trans (r_go (act := oS (fIst 86 3)) rfl rfl) (a_ist rfl rfl)) ?_
        refine Eq.trans (Eq.trans (r_go (act := oS (fIld 88 6)) rfl rfl) (a_ild rfl)) ?_
        refine Eq.trans (Eq.trans (r_go (act := oS (fIst 90 4)) rfl rfl) (a_ist rfl rfl)) ?_
        refine Eq.trans (Eq.trans (r_go (act := oS (fInc 93 5 1)) rfl rfl) (a_inc rfl rfl rfl)) ?_
        refine Eq.trans (Eq.trans (r_go (act := oS (fGo 44)) rfl rfl) (a_goto)) ?_
        exact r_cut rfl rfl
      · refine Eq.trans (Eq.trans (r_go (act := oS (fInc 93 5 1)) rfl rfl) (a_inc rfl rfl rfl)) ?_
        refine Eq.trans (Eq.trans (r_go (act := oS (fGo 44)) rfl rfl) (a_goto)) ?_
        exact r_cut rfl rfl
  · refine Eq.trans (Eq.trans (r_go (act := oS (fIld 97 2)) rfl rfl) (a_ild rfl)) ?_
    refine Eq.trans (Eq.trans (r_go (act := oSw 166 [(0, 132), (1, 140), (2, 148), (3, 156), (4, 164)]) rfl rfl) (a_sw)) ?_
    refine Eq.trans a_swC (bcg ?_ ?_)
    · refine Eq.trans (Eq.trans (r_go (act := oS (fAld 133 0)) rfl rfl) (a_ald rfl)) ?_
      refine Eq.trans (Eq.trans (r_go (act := oS (fGr g 136 11 2)) rfl rfl) (a_gr (zO_0 g) (zR_0_2 g))) ?_
      refine Eq.trans (Eq.trans (r_go (act := oS (fGi g 139 3 7)) rfl rfl) (a_gi (zO_40 g))) ?_
      exact Eq.trans (r_go (act := oIret) rfl rfl) (a_iret)
    refine Eq.trans a_swC (bcg ?_ ?_)
    · refine Eq.trans (Eq.trans (r_go (act := oS (fAld 141 0)) rfl rfl) (a_ald rfl)) ?_
      refine Eq.trans (Eq.trans (r_go (act := oS (fGr g 144 11 2)) rfl rfl) (a_gr (zO_0 g) (zR_0_2 g))) ?_
      refine Eq.trans (Eq.trans (r_go (act := oS (fGi g 147 3 8)) rfl rfl) (a_gi (zO_40 g))) ?_
      exact Eq.trans (r_go (act := oIret) rfl rfl) (a_iret)
    refine Eq.trans a_swC (bcg ?_ ?_)
    · refine Eq.trans (Eq.trans (r_go (act := oS (fAld 149 0)) rfl rfl) (a_ald rfl)) ?_
      refine Eq.trans (Eq.trans (r_go (act := oS (fGr g 152 11 2)) rfl rfl) (a_gr (zO_0 g) (zR_0_2 g))) ?_
      refine Eq.trans (Eq.trans (r_go (act := oS (fGi g 155 3 4)) rfl rfl) (a_gi (zO_40 g))) ?_
      exact Eq.trans (r_go (act := oIret) rfl rfl) (a_iret)
    refine Eq.trans a_swC (bcg ?_ ?_)
    · refine Eq.trans (Eq.trans (r_go (act := oS (fAld 157 0)) rfl rfl) (a_ald rfl)) ?_
      refine Eq.trans (Eq.trans (r_go (act := oS (fGr g 160 11 2)) rfl rfl) (a_gr (zO_0 g) (zR_0_2 g))) ?_
      refine Eq.trans (Eq.trans (r_go (act := oS (fGi g 163 3 9)) rfl rfl) (a_gi (zO_40 g))) ?_
      exact Eq.trans (r_go (act := oIret) rfl rfl) (a_iret)
    refine Eq.trans a_swC (bcg ?_ ?_)
    · refine Eq.trans (Eq.trans (r_go (act := oS (fIld 165 3)) rfl rfl) (a_ild rfl)) ?_
      exact Eq.trans (r_go (act := oIret) rfl rfl) (a_iret)
    refine Eq.trans a_swN ?_
    refine Eq.trans (Eq.trans (r_go (act := oS (fIld 168 4)) rfl rfl) (a_ild rfl)) ?_
    exact Eq.trans (r_go (act := oIret) rfl rfl) (a_iret)
set_option maxRecDepth 20000 in
theorem e_X10_glassBehind_0 (g : zg) (a1 : Int32) (a2 : Int32) (M : zM) : zX (t_X10_glassBehind g) 0 [some (.ref 6), some (.int a1), some (.int a2)] [] M = (zbI (X_X7_moveOn g [.ref 17, .int a2] M) (fun x1 M1 => (zbI (X_X11_hold g [.int (a1 + x1), .int 0, .int 99] M1) (fun x2 M2 => some (some (.int x2), M2))))) := by
  refine Eq.trans (zX_rgN (tl_X10_glassBehind g) (hc_X10_glassBehind g) 11 _ _ _ _) ?_
  refine Eq.trans (Eq.trans (r_0 (act := oS (fIld 1 1)) rfl) (a_ild rfl)) ?_
  refine Eq.trans (Eq.trans (r_go (act := oS (fAld 2 0)) rfl rfl) (a_ald rfl)) ?_
  refine Eq.trans (Eq.trans (r_go (act := oS (fGr g 5 10 2)) rfl rfl) (a_gr (zO_6 g) (zR_6_2 g))) ?_
  refine Eq.trans (Eq.trans (r_go (act := oS (fIld 6 2)) rfl rfl) (a_ild rfl)) ?_
  refine Eq.trans (Eq.trans (r_go (act := oCI 9 2 (zcv g 7) (X_X7_moveOn g)) rfl rfl) (a_cI rfl (zck (zO_17 g) rfl))) (zbI_cg (fun x1 M1 => ?_))
  refine Eq.trans (Eq.trans (r_go (act := oS (fSt 10 (g2 (fun x y => x + y)))) rfl rfl) (a_add)) ?_
  refine Eq.trans (Eq.trans (r_go (act := oS (fSt 11 (gC (.int 0)))) rfl rfl) (a_C)) ?_
  refine Eq.trans (Eq.trans (r_go (act := oS (fSt 13 (gC (.int 99)))) rfl rfl) (a_C)) ?_
  refine Eq.trans (Eq.trans (r_go (act := oCI 16 3 zcs (X_X11_hold g)) rfl rfl) (a_cI rfl rfl)) (zbI_cg (fun x2 M2 => ?_))
  exact Eq.trans (r_go (act := oIret) rfl rfl) (a_iret)
theorem x_X10_glassBehind_0 (g : zg) (a1 : Int32) (a2 : Int32) (M : zM) : X_X10_glassBehind g [.ref 6, .int a1, .int a2] M = (zbI (X_X7_moveOn g [.ref 17, .int a2] M) (fun x1 M1 => (zbI (X_X11_hold g [.int (a1 + x1), .int 0, .int 99] M1) (fun x2 M2 => some (some (.int x2), M2))))) := e_X10_glassBehind_0 g a1 a2 M
set_option maxRecDepth 20000 in
theorem e_X11_ahead_0 (g : zg) (a1 : Int32) (M : zM) : zX (t_X11_ahead g) 0 [some (.ref 0), some (.int a1), none, none] [] M = (zbI (X_X11_within g [.int a1, .int 1, .int 99] M) (fun x1 M1 => (bif cEq0 x1 then some (some (.int (-1)), M1) else zX (t_X11_ahead g) 25 [some (.ref 0), some (.int a1), some (.int (M1.1 7 4)), some (.int 0)] [] M1))) := by
  refine Eq.trans (zX_rgN (tl_X11_ahead g) (hc_X11_ahead g) 14 _ _ _ _) ?_
  refine Eq.trans (Eq.trans (r_0 (act := oS (fIld 1 1)) rfl) (a_ild rfl)) ?_
  refine Eq.trans (Eq.trans (r_go (act := oS (fSt 2 (gC (.int 1)))) rfl rfl) (a_C)) ?_
  refine Eq.trans (Eq.trans (r_go (act := oS (fSt 4 (gC (.int 99)))) rfl rfl) (a_C)) ?_
  refine Eq.trans (Eq.trans (r_go (act := oCI 7 3 zcs (X_X11_within g)) rfl rfl) (a_cI rfl rfl)) (zbI_cg (fun x1 M1 => ?_))
  refine Eq.trans (Eq.trans (r_go (act := oS (fIf 10 12 cEq0)) rfl rfl) (a_if)) (bcg ?_ ?_)
  · refine Eq.trans (Eq.trans (r_go (act := oS (fSt 11 (gC (.int (-1))))) rfl rfl) (a_C)) ?_
    exact Eq.trans (r_go (act := oIret) rfl rfl) (a_iret)
  · refine Eq.trans (Eq.trans (r_go (act := oS (fAld 13 0)) rfl rfl) (a_ald rfl)) ?_
    refine Eq.trans (Eq.trans (r_go (act := oS (fGr g 16 11 1)) rfl rfl) (a_gr (zO_0 g) (zR_0_1 g))) ?_
    refine Eq.trans (Eq.trans (r_go (act := oS (fGr g 19 10 0)) rfl rfl) (a_gr (zO_6 g) (zR_6_0 g))) ?_
    refine Eq.trans (Eq.trans (r_go (act := oS (fGi g 22 3 4)) rfl rfl) (a_gi (zO_7 g))) ?_
    refine Eq.trans (Eq.trans (r_go (act := oS (fIst 23 2)) rfl rfl) (a_ist rfl rfl)) ?_
    refine Eq.trans (Eq.trans (r_go (act := oS (fSt 24 (gC (.int 0)))) rfl rfl) (a_C)) ?_
    refine Eq.trans (Eq.trans (r_go (act := oS (fIst 25 3)) rfl rfl) (a_ist rfl rfl)) ?_
    exact r_cut rfl rfl
theorem x_X11_ahead_0 (g : zg) (a1 : Int32) (M : zM) : X_X11_ahead g [.ref 0, .int a1] M = (zbI (X_X11_within g [.int a1, .int 1, .int 99] M) (fun x1 M1 => (bif cEq0 x1 then some (some (.int (-1)), M1) else zX (t_X11_ahead g) 25 [some (.ref 0), some (.int a1), some (.int (M1.1 7 4)), some (.int 0)] [] M1))) := e_X11_ahead_0 g a1 M
set_option maxRecDepth 20000 in
theorem e_X11_ahead_25 (g : zg) (a1 : Int32) (a2 : Int32) (a3 : Int32) (M : zM) : zX (t_X11_ahead g) 25 [some (.ref 0), some (.int a1), some (.int a2), some (.int a3)] [] M = (bif cLt a3 a1 then (zbI (X_X10_glassBehind g [.ref 6, .int a2, .int ((M.1 7 10) + a3)] M) (fun x1 M1 => zX (t_X11_ahead g) 25 [some (.ref 0), some (.int a1), some (.int x1), some (.int (a3 + 1))] [] M1)) else some (some (.int (a2 / 20)), M)) := by
  refine Eq.trans (zX_rgN (tl_X11_ahead g) (hc_X11_ahead g) 18 _ _ _ _) ?_
  refine Eq.trans (Eq.trans (Eq.trans (r_0 (act := oF [] (oS (fIld 26 3))) rfl) (a_F rfl)) (a_ild rfl)) ?_
  refine Eq.trans (Eq.trans (r_go (act := oS (fIld 27 1)) rfl rfl) (a_ild rfl)) ?_
  refine Eq.trans (Eq.trans (r_go (act := oS (fCm 30 57 cLt)) rfl rfl) (a_cm)) (bcg ?_ ?_)
  · refine Eq.trans (Eq.trans (r_go (act := oS (fAld 31 0)) rfl rfl) (a_ald rfl)) ?_
    refine Eq.trans (Eq.trans (r_go (act := oS (fGr g 34 11 1)) rfl rfl) (a_gr (zO_0 g) (zR_0_1 g))) ?_
    refine Eq.trans (Eq.trans (r_go (act := oS (fIld 35 2)) rfl rfl) (a_ild rfl)) ?_
    refine Eq.trans (Eq.trans (r_go (act := oS (fAld 36 0)) rfl rfl) (a_ald rfl)) ?_
    refine Eq.trans (Eq.trans (r_go (act := oS (fGr g 39 11 1)) rfl rfl) (a_gr (zO_0 g) (zR_0_1 g))) ?_
    refine Eq.trans (Eq.trans (r_go (act := oS (fGr g 42 10 0)) rfl rfl) (a_gr (zO_6 g) (zR_6_0 g))) ?_
    refine Eq.trans (Eq.trans (r_go (act := oS (fGi g 45 3 10)) rfl rfl) (a_gi (zO_7 g))) ?_
    refine Eq.trans (Eq.trans (r_go (act := oS (fIld 46 3)) rfl rfl) (a_ild rfl)) ?_
    refine Eq.trans (Eq.trans (r_go (act := oS (fSt 47 (g2 (fun x y => x + y)))) rfl rfl) (a_add)) ?_
    refine Eq.trans (Eq.trans (r_go (act := oCI 50 3 (zcv g 10) (X_X10_glassBehind g)) rfl rfl) (a_cI rfl (zck (zO_6 g) rfl))) (zbI_cg (fun x1 M1 => ?_))
    refine Eq.trans (Eq.trans (r_go (act := oS (fIst 51 2)) rfl rfl) (a_ist rfl rfl)) ?_
    refine Eq.trans (Eq.trans (r_go (act := oS (fInc 54 3 1)) rfl rfl) (a_inc rfl rfl rfl)) ?_
    refine Eq.trans (Eq.trans (r_go (act := oS (fGo 25)) rfl rfl) (a_goto)) ?_
    exact r_cut rfl rfl
  · refine Eq.trans (Eq.trans (r_go (act := oS (fIld 58 2)) rfl rfl) (a_ild rfl)) ?_
    refine Eq.trans (Eq.trans (r_go (act := oS (fSt 60 (gC (.int 20)))) rfl rfl) (a_C)) ?_
    refine Eq.trans (Eq.trans (r_go (act := oS (fDiv 61)) rfl rfl) (a_div)) (Eq.trans (bcT (by decide)) ?_)
    exact Eq.trans (r_go (act := oIret) rfl rfl) (a_iret)
set_option maxRecDepth 20000 in
theorem e_X5_kept_0 (g : zg) (M : zM) : zX (t_X5_kept g) 0 [some (.ref 7)] [] M = (zbI (X_J9_min_7cf53 g [.int (M.1 7 12), .int 90] M) (fun x1 M1 => some (some (.int x1), M1))) := by
  refine Eq.trans (zX_rgN (tl_X5_kept g) (hc_X5_kept g) 6 _ _ _ _) ?_
  refine Eq.trans (Eq.trans (r_0 (act := oS (fAld 1 0)) rfl) (a_ald rfl)) ?_
  refine Eq.trans (Eq.trans (r_go (act := oS (fGi g 4 3 12)) rfl rfl) (a_gi (zO_7 g))) ?_
  refine Eq.trans (Eq.trans (r_go (act := oS (fSt 6 (gC (.int 90)))) rfl rfl) (a_C)) ?_
  refine Eq.trans (Eq.trans (r_go (act := oCI 9 2 zcs (X_J9_min_7cf53 g)) rfl rfl) (a_cI rfl rfl)) (zbI_cg (fun x1 M1 => ?_))
  exact Eq.trans (r_go (act := oIret) rfl rfl) (a_iret)
theorem x_X5_kept_0 (g : zg) (M : zM) : X_X5_kept g [.ref 7] M = (zbI (X_J9_min_7cf53 g [.int (M.1 7 12), .int 90] M) (fun x1 M1 => some (some (.int x1), M1))) := e_X5_kept_0 g M
set_option maxRecDepth 20000 in
theorem e_X5_slotOf_0 (g : zg) (a1 : Int32) (M : zM) : zX (t_X5_slotOf g) 0 [some (.ref 7), some (.int a1)] [] M = (zbI (X_J9_floorMod_7cf53 g [.int (((M.1 7 12) - 1) - a1), .int 96] M) (fun x1 M1 => some (some (.int x1), M1))) := by
  refine Eq.trans (zX_rgN (tl_X5_slotOf g) (hc_X5_slotOf g) 10 _ _ _ _) ?_
  refine Eq.trans (Eq.trans (r_0 (act := oS (fAld 1 0)) rfl) (a_ald rfl)) ?_
  refine Eq.trans (Eq.trans (r_go (act := oS (fGi g 4 3 12)) rfl rfl) (a_gi (zO_7 g))) ?_
  refine Eq.trans (Eq.trans (r_go (act := oS (fSt 5 (gC (.int 1)))) rfl rfl) (a_C)) ?_
  refine Eq.trans (Eq.trans (r_go (act := oS (fSt 6 (g2 (fun x y => x - y)))) rfl rfl) (a_sub)) ?_
  refine Eq.trans (Eq.trans (r_go (act := oS (fIld 7 1)) rfl rfl) (a_ild rfl)) ?_
  refine Eq.trans (Eq.trans (r_go (act := oS (fSt 8 (g2 (fun x y => x - y)))) rfl rfl) (a_sub)) ?_
  refine Eq.trans (Eq.trans (r_go (act := oS (fSt 10 (gC (.int 96)))) rfl rfl) (a_C)) ?_
  refine Eq.trans (Eq.trans (r_go (act := oCI 13 2 zcs (X_J9_floorMod_7cf53 g)) rfl rfl) (a_cI rfl rfl)) (zbI_cg (fun x1 M1 => ?_))
  exact Eq.trans (r_go (act := oIret) rfl rfl) (a_iret)
theorem x_X5_slotOf_0 (g : zg) (a1 : Int32) (M : zM) : X_X5_slotOf g [.ref 7, .int a1] M = (zbI (X_J9_floorMod_7cf53 g [.int (((M.1 7 12) - 1) - a1), .int 96] M) (fun x1 M1 => some (some (.int x1), M1))) := e_X5_slotOf_0 g a1 M
set_option maxRecDepth 20000 in
theorem e_X5_saidIn_0 (g : zg) (a1 : Int32) (a2 : Int32) (M : zM) : zX (t_X5_saidIn g) 0 [some (.ref 27), some (.int a1), some (.int a2)] [] M = (zbI (X_X11_within g [.int a2, .int 0, .int 9] M) (fun x1 M1 => (bif cEq0 x1 then some (some (.int (-1)), M1) else (bif zb ((a1 * 10) + a2) 960 then some (some (.int (M1.1 29 (zx ((a1 * 10) + a2)))), M1) else none)))) := by
  refine Eq.trans (zX_rgN (tl_X5_saidIn g) (hc_X5_saidIn g) 16 _ _ _ _) ?_
  refine Eq.trans (Eq.trans (r_0 (act := oS (fIld 1 2)) rfl) (a_ild rfl)) ?_
  refine Eq.trans (Eq.trans (r_go (act := oS (fSt 2 (gC (.int 0)))) rfl rfl) (a_C)) ?_
  refine Eq.trans (Eq.trans (r_go (act := oS (fSt 4 (gC (.int 9)))) rfl rfl) (a_C)) ?_
  refine Eq.trans (Eq.trans (r_go (act := oCI 7 3 zcs (X_X11_within g)) rfl rfl) (a_cI rfl rfl)) (zbI_cg (fun x1 M1 => ?_))
  refine Eq.trans (Eq.trans (r_go (act := oS (fIf 24 10 cEq0)) rfl rfl) (a_if)) (bcg ?_ ?_)
  · refine Eq.trans (Eq.trans (r_go (act := oS (fSt 25 (gC (.int (-1))))) rfl rfl) (a_C)) ?_
    exact Eq.trans (r_go (act := oIret) rfl rfl) (a_iret)
  · refine Eq.trans (Eq.trans (r_go (act := oS (fAld 11 0)) rfl rfl) (a_ald rfl)) ?_
    refine Eq.trans (Eq.trans (r_go (act := oS (fGr g 14 5 1)) rfl rfl) (a_gr (zO_27 g) (zR_27_1 g))) ?_
    refine Eq.trans (Eq.trans (r_go (act := oS (fIld 15 1)) rfl rfl) (a_ild rfl)) ?_
    refine Eq.trans (Eq.trans (r_go (act := oS (fSt 17 (gC (.int 10)))) rfl rfl) (a_C)) ?_
    refine Eq.trans (Eq.trans (r_go (act := oS (fSt 18 (g2 (fun x y => x * y)))) rfl rfl) (a_mul)) ?_
    refine Eq.trans (Eq.trans (r_go (act := oS (fIld 19 2)) rfl rfl) (a_ild rfl)) ?_
    refine Eq.trans (Eq.trans (r_go (act := oS (fSt 20 (g2 (fun x y => x + y)))) rfl rfl) (a_add)) ?_
    refine Eq.trans (Eq.trans (r_go (act := oS (fIa g 21)) rfl rfl) (a_ia (zA_29 g) zS_29)) (bcg ?_ rfl)
    refine Eq.trans (Eq.trans (r_go (act := oS (fGo 25)) rfl rfl) (a_goto)) ?_
    exact Eq.trans (r_go (act := oIret) rfl rfl) (a_iret)
theorem x_X5_saidIn_0 (g : zg) (a1 : Int32) (a2 : Int32) (M : zM) : X_X5_saidIn g [.ref 27, .int a1, .int a2] M = (zbI (X_X11_within g [.int a2, .int 0, .int 9] M) (fun x1 M1 => (bif cEq0 x1 then some (some (.int (-1)), M1) else (bif zb ((a1 * 10) + a2) 960 then some (some (.int (M1.1 29 (zx ((a1 * 10) + a2)))), M1) else none)))) := e_X5_saidIn_0 g a1 a2 M
set_option maxRecDepth 20000 in
theorem e_X5_rightDays_0 (g : zg) (a2 : Int32) (M : zM) : zX (t_X5_rightDays g) 0 [some (.ref 27), some (.ref 7), some (.int a2), none, none, none] [] M = zX (t_X5_rightDays g) 5 [some (.ref 27), some (.ref 7), some (.int a2), some (.int 0), some (.int 0), none] [] M := by
  refine Eq.trans (zX_rgN (tl_X5_rightDays g) (hc_X5_rightDays g) 6 _ _ _ _) ?_
  refine Eq.trans (Eq.trans (r_0 (act := oS (fSt 1 (gC (.int 0)))) rfl) (a_C)) ?_
  refine Eq.trans (Eq.trans (r_go (act := oS (fIst 2 3)) rfl rfl) (a_ist rfl rfl)) ?_
  refine Eq.trans (Eq.trans (r_go (act := oS (fSt 3 (gC (.int 0)))) rfl rfl) (a_C)) ?_
  refine Eq.trans (Eq.trans (r_go (act := oS (fIst 5 4)) rfl rfl) (a_ist rfl rfl)) ?_
  exact r_cut rfl rfl
theorem x_X5_rightDays_0 (g : zg) (a2 : Int32) (M : zM) : X_X5_rightDays g [.ref 27, .ref 7, .int a2] M = zX (t_X5_rightDays g) 5 [some (.ref 27), some (.ref 7), some (.int a2), some (.int 0), some (.int 0), none] [] M := e_X5_rightDays_0 g a2 M
set_option maxRecDepth 20000 in
theorem e_X5_rightDays_5 (g : zg) (a2 : Int32) (a3 : Int32) (a4 : Int32) (M : zM) : zX (t_X5_rightDays g) 5 [some (.ref 27), some (.ref 7), some (.int a2), some (.int a3), some (.int a4), none] [] M = (zbI (X_X5_kept g [.ref 7] M) (fun x1 M1 => (bif cLt a4 x1 then (zbI (X_X5_slotOf g [.ref 7, .int a4] M1) (fun x2 M2 => (zbI (X_X5_saidIn g [.ref 27, .int x2, .int a2] M2) (fun x3 M3 => (bif zb x2 96 then (bif cEq x3 (M3.1 28 (zx x2)) then zX (t_X5_rightDays g) 5 [some (.ref 27), some (.ref 7), some (.int a2), some (.int (a3 + 1)), some (.int (a4 + 1)), none] [] M3 else zX (t_X5_rightDays g) 5 [some (.ref 27), some (.ref 7), some (.int a2), some (.int a3), some (.int (a4 + 1)), none] [] M3) else none))))) else some (some (.int a3), M1)))) := by
  refine Eq.trans (zX_rgN (tl_X5_rightDays g) (hc_X5_rightDays g) 22 _ _ _ _) ?_
  refine Eq.trans (Eq.trans (Eq.trans (r_0 (act := oF [5] (oS (fIld 7 4))) rfl) (a_F rfl)) (a_ild rfl)) ?_
  refine Eq.trans (Eq.trans (r_go (act := oS (fAld 8 1)) rfl rfl) (a_ald rfl)) ?_
  refine Eq.trans (Eq.trans (r_go (act := oCI 11 1 zcs (X_X5_kept g)) rfl rfl) (a_cI rfl rfl)) (zbI_cg (fun x1 M1 => ?_))
  refine Eq.trans (Eq.trans (r_go (act := oS (fCm 14 48 cLt)) rfl rfl) (a_cm)) (bcg ?_ ?_)
  · refine Eq.trans (Eq.trans (r_go (act := oS (fAld 15 1)) rfl rfl) (a_ald rfl)) ?_
    refine Eq.trans (Eq.trans (r_go (act := oS (fIld 17 4)) rfl rfl) (a_ild rfl)) ?_
    refine Eq.trans (Eq.trans (r_go (act := oCI 20 2 zcs (X_X5_slotOf g)) rfl rfl) (a_cI rfl rfl)) (zbI_cg (fun x2 M2 => ?_))
    refine Eq.trans (Eq.trans (r_go (act := oS (fIst 22 5)) rfl rfl) (a_ist rfl rfl)) ?_
    refine Eq.trans (Eq.trans (r_go (act := oS (fAld 23 0)) rfl rfl) (a_ald rfl)) ?_
    refine Eq.trans (Eq.trans (r_go (act := oS (fIld 25 5)) rfl rfl) (a_ild rfl)) ?_
    refine Eq.trans (Eq.trans (r_go (act := oS (fIld 26 2)) rfl rfl) (a_ild rfl)) ?_
    refine Eq.trans (Eq.trans (r_go (act := oCI 29 3 (zcv g 5) (X_X5_saidIn g)) rfl rfl) (a_cI rfl (zck (zO_27 g) rfl))) (zbI_cg (fun x3 M3 => ?_))
    refine Eq.trans (Eq.trans (r_go (act := oS (fAld 30 0)) rfl rfl) (a_ald rfl)) ?_
    refine Eq.trans (Eq.trans (r_go (act := oS (fGr g 33 5 0)) rfl rfl) (a_gr (zO_27 g) (zR_27_0 g))) ?_
    refine Eq.trans (Eq.trans (r_go (act := oS (fIld 35 5)) rfl rfl) (a_ild rfl)) ?_
    refine Eq.trans (Eq.trans (r_go (act := oS (fIa g 36)) rfl rfl) (a_ia (zA_28 g) zS_28)) (bcg ?_ rfl)
    refine Eq.trans (Eq.trans (r_go (act := oS (fCm 39 42 cEq)) rfl rfl) (a_cm)) (bcg ?_ ?_)
    · refine Eq.trans (Eq.trans (r_go (act := oS (fInc 42 3 1)) rfl rfl) (a_inc rfl rfl rfl)) ?_
      refine Eq.trans (Eq.trans (r_go (act := oS (fInc 45 4 1)) rfl rfl) (a_inc rfl rfl rfl)) ?_
      refine Eq.trans (Eq.trans (r_go (act := oS (fGo 5)) rfl rfl) (a_goto)) ?_
      exact r_cut rfl rfl
    · refine Eq.trans (Eq.trans (r_go (act := oS (fInc 45 4 1)) rfl rfl) (a_inc rfl rfl rfl)) ?_
      refine Eq.trans (Eq.trans (r_go (act := oS (fGo 5)) rfl rfl) (a_goto)) ?_
      exact r_cut rfl rfl
  · refine Eq.trans (Eq.trans (r_go (act := oS (fIld 49 3)) rfl rfl) (a_ild rfl)) ?_
    exact Eq.trans (r_go (act := oIret) rfl rfl) (a_iret)
set_option maxRecDepth 20000 in
theorem e_X5_toldDays_0 (g : zg) (a2 : Int32) (M : zM) : zX (t_X5_toldDays g) 0 [some (.ref 27), some (.ref 7), some (.int a2), none, none] [] M = zX (t_X5_toldDays g) 5 [some (.ref 27), some (.ref 7), some (.int a2), some (.int 0), some (.int 0)] [] M := by
  refine Eq.trans (zX_rgN (tl_X5_toldDays g) (hc_X5_toldDays g) 6 _ _ _ _) ?_
  refine Eq.trans (Eq.trans (r_0 (act := oS (fSt 1 (gC (.int 0)))) rfl) (a_C)) ?_
  refine Eq.trans (Eq.trans (r_go (act := oS (fIst 2 3)) rfl rfl) (a_ist rfl rfl)) ?_
  refine Eq.trans (Eq.trans (r_go (act := oS (fSt 3 (gC (.int 0)))) rfl rfl) (a_C)) ?_
  refine Eq.trans (Eq.trans (r_go (act := oS (fIst 5 4)) rfl rfl) (a_ist rfl rfl)) ?_
  exact r_cut rfl rfl
theorem x_X5_toldDays_0 (g : zg) (a2 : Int32) (M : zM) : X_X5_toldDays g [.ref 27, .ref 7, .int a2] M = zX (t_X5_toldDays g) 5 [some (.ref 27), some (.ref 7), some (.int a2), some (.int 0), some (.int 0)] [] M := e_X5_toldDays_0 g a2 M
set_option maxRecDepth 20000 in
theorem e_X5_toldDays_5 (g : zg) (a2 : Int32) (a3 : Int32) (a4 : Int32) (M : zM) : zX (t_X5_toldDays g) 5 [some (.ref 27), some (.ref 7), some (.int a2), some (.int a3), some (.int a4)] [] M = (zbI (X_X5_kept g [.ref 7] M) (fun x1 M1 => (bif cLt a4 x1 then (zbI (X_X5_slotOf g [.ref 7, .int a4] M1) (fun x2 M2 => (zbI (X_X5_saidIn g [.ref 27, .int x2, .int a2] M2) (fun x3 M3 => (bif cEq x3 (-1) then zX (t_X5_toldDays g) 5 [some (.ref 27), some (.ref 7), some (.int a2), some (.int a3), some (.int (a4 + 1))] [] M3 else zX (t_X5_toldDays g) 5 [some (.ref 27), some (.ref 7), some (.int a2), some (.int (a3 + 1)), some (.int (a4 + 1))] [] M3))))) else some (some (.int a3), M1)))) := by
  refine Eq.trans (zX_rgN (tl_X5_toldDays g) (hc_X5_toldDays g) 17 _ _ _ _) ?_
  refine Eq.trans (Eq.trans (Eq.trans (r_0 (act := oF [] (oS (fIld 7 4))) rfl) (a_F rfl)) (a_ild rfl)) ?_
  refine Eq.trans (Eq.trans (r_go (act := oS (fAld 8 1)) rfl rfl) (a_ald rfl)) ?_
  refine Eq.trans (Eq.trans (r_go (act := oCI 11 1 zcs (X_X5_kept g)) rfl rfl) (a_cI rfl rfl)) (zbI_cg (fun x1 M1 => ?_))
  refine Eq.trans (Eq.trans (r_go (act := oS (fCm 14 38 cLt)) rfl rfl) (a_cm)) (bcg ?_ ?_)
  · refine Eq.trans (Eq.trans (r_go (act := oS (fAld 15 0)) rfl rfl) (a_ald rfl)) ?_
    refine Eq.trans (Eq.trans (r_go (act := oS (fAld 16 1)) rfl rfl) (a_ald rfl)) ?_
    refine Eq.trans (Eq.trans (r_go (act := oS (fIld 18 4)) rfl rfl) (a_ild rfl)) ?_
    refine Eq.trans (Eq.trans (r_go (act := oCI 21 2 zcs (X_X5_slotOf g)) rfl rfl) (a_cI rfl rfl)) (zbI_cg (fun x2 M2 => ?_))
    refine Eq.trans (Eq.trans (r_go (act := oS (fIld 22 2)) rfl rfl) (a_ild rfl)) ?_
    refine Eq.trans (Eq.trans (r_go (act := oCI 25 3 (zcv g 5) (X_X5_saidIn g)) rfl rfl) (a_cI rfl (zck (zO_27 g) rfl))) (zbI_cg (fun x3 M3 => ?_))
    refine Eq.trans (Eq.trans (r_go (act := oS (fSt 26 (gC (.int (-1))))) rfl rfl) (a_C)) ?_
    refine Eq.trans (Eq.trans (r_go (act := oS (fCm 32 29 cEq)) rfl rfl) (a_cm)) (bcg ?_ ?_)
    · refine Eq.trans (Eq.trans (r_go (act := oS (fInc 35 4 1)) rfl rfl) (a_inc rfl rfl rfl)) ?_
      refine Eq.trans (Eq.trans (r_go (act := oS (fGo 5)) rfl rfl) (a_goto)) ?_
      exact r_cut rfl rfl
    · refine Eq.trans (Eq.trans (r_go (act := oS (fInc 32 3 1)) rfl rfl) (a_inc rfl rfl rfl)) ?_
      refine Eq.trans (Eq.trans (r_go (act := oS (fInc 35 4 1)) rfl rfl) (a_inc rfl rfl rfl)) ?_
      refine Eq.trans (Eq.trans (r_go (act := oS (fGo 5)) rfl rfl) (a_goto)) ?_
      exact r_cut rfl rfl
  · refine Eq.trans (Eq.trans (r_go (act := oS (fIld 39 3)) rfl rfl) (a_ild rfl)) ?_
    exact Eq.trans (r_go (act := oIret) rfl rfl) (a_iret)
set_option maxRecDepth 20000 in
theorem e_X11_right_0 (g : zg) (a1 : Int32) (a2 : Int32) (M : zM) : zX (t_X11_right g) 0 [some (.ref 0), some (.int a1), some (.int a2)] [] M = (zbI (X_X3_has g [.ref 7, .int a1] M) (fun x1 M1 => (bif cEq0 x1 then some (some (.int (-1)), M1) else (zbI (X_X11_within g [.int a2, .int 0, .int 1] M1) (fun x2 M2 => (bif cEq0 x2 then some (some (.int (-1)), M2) else (bif cEq0 a2 then (zbI (X_X5_rightDays g [.ref 27, .ref 7, .int a1] M2) (fun x3 M3 => some (some (.int x3), M3))) else (zbI (X_X5_toldDays g [.ref 27, .ref 7, .int a1] M2) (fun x4 M4 => some (some (.int x4), M4)))))))))) := by
  refine Eq.trans (zX_rgN (tl_X11_right g) (hc_X11_right g) 23 _ _ _ _) ?_
  refine Eq.trans (Eq.trans (r_0 (act := oS (fAld 1 0)) rfl) (a_ald rfl)) ?_
  refine Eq.trans (Eq.trans (r_go (act := oS (fGr g 4 11 1)) rfl rfl) (a_gr (zO_0 g) (zR_0_1 g))) ?_
  refine Eq.trans (Eq.trans (r_go (act := oS (fGr g 7 10 0)) rfl rfl) (a_gr (zO_6 g) (zR_6_0 g))) ?_
  refine Eq.trans (Eq.trans (r_go (act := oS (fIld 8 1)) rfl rfl) (a_ild rfl)) ?_
  refine Eq.trans (Eq.trans (r_go (act := oCI 11 2 (zcv g 3) (X_X3_has g)) rfl rfl) (a_cI rfl (zck (zO_7 g) rfl))) (zbI_cg (fun x1 M1 => ?_))
  refine Eq.trans (Eq.trans (r_go (act := oS (fIf 23 14 cEq0)) rfl rfl) (a_if)) (bcg ?_ ?_)
  · refine Eq.trans (Eq.trans (r_go (act := oS (fSt 24 (gC (.int (-1))))) rfl rfl) (a_C)) ?_
    exact Eq.trans (r_go (act := oIret) rfl rfl) (a_iret)
  · refine Eq.trans (Eq.trans (r_go (act := oS (fIld 15 2)) rfl rfl) (a_ild rfl)) ?_
    refine Eq.trans (Eq.trans (r_go (act := oS (fSt 16 (gC (.int 0)))) rfl rfl) (a_C)) ?_
    refine Eq.trans (Eq.trans (r_go (act := oS (fSt 17 (gC (.int 1)))) rfl rfl) (a_C)) ?_
    refine Eq.trans (Eq.trans (r_go (act := oCI 20 3 zcs (X_X11_within g)) rfl rfl) (a_cI rfl rfl)) (zbI_cg (fun x2 M2 => ?_))
    refine Eq.trans (Eq.trans (r_go (act := oS (fIf 23 25 cEq0)) rfl rfl) (a_if)) (bcg ?_ ?_)
    · refine Eq.trans (Eq.trans (r_go (act := oS (fSt 24 (gC (.int (-1))))) rfl rfl) (a_C)) ?_
      exact Eq.trans (r_go (act := oIret) rfl rfl) (a_iret)
    · refine Eq.trans (Eq.trans (r_go (act := oS (fIld 26 2)) rfl rfl) (a_ild rfl)) ?_
      refine Eq.trans (Eq.trans (r_go (act := oS (fIf 29 48 cEq0)) rfl rfl) (a_if)) (bcg ?_ ?_)
      · refine Eq.trans (Eq.trans (r_go (act := oS (fAld 30 0)) rfl rfl) (a_ald rfl)) ?_
        refine Eq.trans (Eq.trans (r_go (act := oS (fGr g 33 11 1)) rfl rfl) (a_gr (zO_0 g) (zR_0_1 g))) ?_
        refine Eq.trans (Eq.trans (r_go (act := oS (fGr g 36 10 5)) rfl rfl) (a_gr (zO_6 g) (zR_6_5 g))) ?_
        refine Eq.trans (Eq.trans (r_go (act := oS (fAld 37 0)) rfl rfl) (a_ald rfl)) ?_
        refine Eq.trans (Eq.trans (r_go (act := oS (fGr g 40 11 1)) rfl rfl) (a_gr (zO_0 g) (zR_0_1 g))) ?_
        refine Eq.trans (Eq.trans (r_go (act := oS (fGr g 43 10 0)) rfl rfl) (a_gr (zO_6 g) (zR_6_0 g))) ?_
        refine Eq.trans (Eq.trans (r_go (act := oS (fIld 44 1)) rfl rfl) (a_ild rfl)) ?_
        refine Eq.trans (Eq.trans (r_go (act := oCI 47 3 (zcv g 5) (X_X5_rightDays g)) rfl rfl) (a_cI rfl (zck (zO_27 g) rfl))) (zbI_cg (fun x3 M3 => ?_))
        exact Eq.trans (r_go (act := oIret) rfl rfl) (a_iret)
      · refine Eq.trans (Eq.trans (r_go (act := oS (fAld 49 0)) rfl rfl) (a_ald rfl)) ?_
        refine Eq.trans (Eq.trans (r_go (act := oS (fGr g 52 11 1)) rfl rfl) (a_gr (zO_0 g) (zR_0_1 g))) ?_
        refine Eq.trans (Eq.trans (r_go (act := oS (fGr g 55 10 5)) rfl rfl) (a_gr (zO_6 g) (zR_6_5 g))) ?_
        refine Eq.trans (Eq.trans (r_go (act := oS (fAld 56 0)) rfl rfl) (a_ald rfl)) ?_
        refine Eq.trans (Eq.trans (r_go (act := oS (fGr g 59 11 1)) rfl rfl) (a_gr (zO_0 g) (zR_0_1 g))) ?_
        refine Eq.trans (Eq.trans (r_go (act := oS (fGr g 62 10 0)) rfl rfl) (a_gr (zO_6 g) (zR_6_0 g))) ?_
        refine Eq.trans (Eq.trans (r_go (act := oS (fIld 63 1)) rfl rfl) (a_ild rfl)) ?_
        refine Eq.trans (Eq.trans (r_go (act := oCI 66 3 (zcv g 5) (X_X5_toldDays g)) rfl rfl) (a_cI rfl (zck (zO_27 g) rfl))) (zbI_cg (fun x4 M4 => ?_))
        exact Eq.trans (r_go (act := oIret) rfl rfl) (a_iret)
theorem x_X11_right_0 (g : zg) (a1 : Int32) (a2 : Int32) (M : zM) : X_X11_right g [.ref 0, .int a1, .int a2] M = (zbI (X_X3_has g [.ref 7, .int a1] M) (fun x1 M1 => (bif cEq0 x1 then some (some (.int (-1)), M1) else (zbI (X_X11_within g [.int a2, .int 0, .int 1] M1) (fun x2 M2 => (bif cEq0 x2 then some (some (.int (-1)), M2) else (bif cEq0 a2 then (zbI (X_X5_rightDays g [.ref 27, .ref 7, .int a1] M2) (fun x3 M3 => some (some (.int x3), M3))) else (zbI (X_X5_toldDays g [.ref 27, .ref 7, .int a1] M2) (fun x4 M4 => some (some (.int x4), M4)))))))))) := e_X11_right_0 g a1 a2 M
set_option maxRecDepth 20000 in
theorem e_X11_surest_0 (g : zg) (M : zM) : zX (t_X11_surest g) 0 [some (.ref 0), none, none, none, none, none, none] [] M = zX (t_X11_surest g) 9 [some (.ref 0), some (.int (-1)), some (.int 0), some (.int 1), some (.int 0), none, none] [] M := by
  refine Eq.trans (zX_rgN (tl_X11_surest g) (hc_X11_surest g) 10 _ _ _ _) ?_
  refine Eq.trans (Eq.trans (r_0 (act := oS (fSt 1 (gC (.int (-1))))) rfl) (a_C)) ?_
  refine Eq.trans (Eq.trans (r_go (act := oS (fIst 2 1)) rfl rfl) (a_ist rfl rfl)) ?_
  refine Eq.trans (Eq.trans (r_go (act := oS (fSt 3 (gC (.int 0)))) rfl rfl) (a_C)) ?_
  refine Eq.trans (Eq.trans (r_go (act := oS (fIst 4 2)) rfl rfl) (a_ist rfl rfl)) ?_
  refine Eq.trans (Eq.trans (r_go (act := oS (fSt 5 (gC (.int 1)))) rfl rfl) (a_C)) ?_
  refine Eq.trans (Eq.trans (r_go (act := oS (fIst 6 3)) rfl rfl) (a_ist rfl rfl)) ?_
  refine Eq.trans (Eq.trans (r_go (act := oS (fSt 7 (gC (.int 0)))) rfl rfl) (a_C)) ?_
  refine Eq.trans (Eq.trans (r_go (act := oS (fIst 9 4)) rfl rfl) (a_ist rfl rfl)) ?_
  exact r_cut rfl rfl
theorem x_X11_surest_0 (g : zg) (M : zM) : X_X11_surest g [.ref 0] M = zX (t_X11_surest g) 9 [some (.ref 0), some (.int (-1)), some (.int 0), some (.int 1), some (.int 0), none, none] [] M := e_X11_surest_0 g M
set_option maxRecDepth 20000 in
theorem e_X11_surest_9 (g : zg) (a1 : Int32) (a2 : Int32) (a3 : Int32) (a4 : Int32) (M : zM) : zX (t_X11_surest g) 9 [some (.ref 0), some (.int a1), some (.int a2), some (.int a3), some (.int a4), none, none] [] M = (bif cLt a4 (M.1 7 2) then (zbI (X_X5_toldDays g [.ref 27, .ref 7, .int a4] M) (fun x1 M1 => (bif cEq0 x1 then zX (t_X11_surest g) 9 [some (.ref 0), some (.int a1), some (.int a2), some (.int a3), some (.int (a4 + 1)), none, none] [] M1 else (zbI (X_X3_serving g [.ref 7, .int a4] M1) (fun x2 M2 => (bif cEq0 x2 then zX (t_X11_surest g) 9 [some (.ref 0), some (.int a1), some (.int a2), some (.int a3), some (.int (a4 + 1)), none, none] [] M2 else (zbI (X_X5_rightDays g [.ref 27, .ref 7, .int a4] M2) (fun x3 M3 => (bif cEq a1 (-1) then zX (t_X11_surest g) 9 [some (.ref 0), some (.int a4), some (.int x3), some (.int x1), some (.int (a4 + 1)), none, none] [] M3 else (bif cGt (x3 * a3) (a2 * x1) then zX (t_X11_surest g) 9 [some (.ref 0), some (.int a4), some (.int x3), some (.int x1), some (.int (a4 + 1)), none, none] [] M3 else zX (t_X11_surest g) 9 [some (.ref 0), some (.int a1), some (.int a2), some (.int a3), some (.int (a4 + 1)), none, none] [] M3)))))))))) else some (some (.int a1), M)) := by
  refine Eq.trans (zX_rgN (tl_X11_surest g) (hc_X11_surest g) 52 _ _ _ _) ?_
  refine Eq.trans (Eq.trans (Eq.trans (r_0 (act := oF [5, 6] (oS (fIld 11 4))) rfl) (a_F rfl)) (a_ild rfl)) ?_
  refine Eq.trans (Eq.trans (r_go (act := oS (fAld 12 0)) rfl rfl) (a_ald rfl)) ?_
  refine Eq.trans (Eq.trans (r_go (act := oS (fGr g 15 11 1)) rfl rfl) (a_gr (zO_0 g) (zR_0_1 g))) ?_
  refine Eq.trans (Eq.trans (r_go (act := oS (fGr g 18 10 0)) rfl rfl) (a_gr (zO_6 g) (zR_6_0 g))) ?_
  refine Eq.trans (Eq.trans (r_go (act := oS (fGi g 21 3 2)) rfl rfl) (a_gi (zO_7 g))) ?_
  refine Eq.trans (Eq.trans (r_go (act := oS (fCm 24 120 cLt)) rfl rfl) (a_cm)) (bcg ?_ ?_)
  · refine Eq.trans (Eq.trans (r_go (act := oS (fAld 25 0)) rfl rfl) (a_ald rfl)) ?_
    refine Eq.trans (Eq.trans (r_go (act := oS (fGr g 28 11 1)) rfl rfl) (a_gr (zO_0 g) (zR_0_1 g))) ?_
    refine Eq.trans (Eq.trans (r_go (act := oS (fGr g 31 10 5)) rfl rfl) (a_gr (zO_6 g) (zR_6_5 g))) ?_
    refine Eq.trans (Eq.trans (r_go (act := oS (fAld 32 0)) rfl rfl) (a_ald rfl)) ?_
    refine Eq.trans (Eq.trans (r_go (act := oS (fGr g 35 11 1)) rfl rfl) (a_gr (zO_0 g) (zR_0_1 g))) ?_
    refine Eq.trans (Eq.trans (r_go (act := oS (fGr g 38 10 0)) rfl rfl) (a_gr (zO_6 g) (zR_6_0 g))) ?_
    refine Eq.trans (Eq.trans (r_go (act := oS (fIld 40 4)) rfl rfl) (a_ild rfl)) ?_
    refine Eq.trans (Eq.trans (r_go (act := oCI 43 3 (zcv g 5) (X_X5_toldDays g)) rfl rfl) (a_cI rfl (zck (zO_27 g) rfl))) (zbI_cg (fun x1 M1 => ?_))
    refine Eq.trans (Eq.trans (r_go (act := oS (fIst 45 5)) rfl rfl) (a_ist rfl rfl)) ?_
    refine Eq.trans (Eq.trans (r_go (act := oS (fIld 47 5)) rfl rfl) (a_ild rfl)) ?_
    refine Eq.trans (Eq.trans (r_go (act := oS (fIf 114 50 cEq0)) rfl rfl) (a_if)) (bcg ?_ ?_)
    · refine Eq.trans (Eq.trans (r_go (act := oS (fInc 117 4 1)) rfl rfl) (a_inc rfl rfl rfl)) ?_
      refine Eq.trans (Eq.trans (r_go (act := oS (fGo 9)) rfl rfl) (a_goto)) ?_
      exact r_cut rfl rfl
    · refine Eq.trans (Eq.trans (r_go (act := oS (fAld 51 0)) rfl rfl) (a_ald rfl)) ?_
      refine Eq.trans (Eq.trans (r_go (act := oS (fGr g 54 11 1)) rfl rfl) (a_gr (zO_0 g) (zR_0_1 g))) ?_
      refine Eq.trans (Eq.trans (r_go (act := oS (fGr g 57 10 0)) rfl rfl) (a_gr (zO_6 g) (zR_6_0 g))) ?_
      refine Eq.trans (Eq.trans (r_go (act := oS (fIld 59 4)) rfl rfl) (a_ild rfl)) ?_
      refine Eq.trans (Eq.trans (r_go (act := oCI 62 2 (zcv g 3) (X_X3_serving g)) rfl rfl) (a_cI rfl (zck (zO_7 g) rfl))) (zbI_cg (fun x2 M2 => ?_))
      refine Eq.trans (Eq.trans (r_go (act := oS (fIf 65 68 cEq0)) rfl rfl) (a_if)) (bcg ?_ ?_)
      · refine Eq.trans (Eq.trans (r_go (act := oS (fGo 114)) rfl rfl) (a_goto)) ?_
        refine Eq.trans (Eq.trans (r_go (act := oS (fInc 117 4 1)) rfl rfl) (a_inc rfl rfl rfl)) ?_
        refine Eq.trans (Eq.trans (r_go (act := oS (fGo 9)) rfl rfl) (a_goto)) ?_
        exact r_cut rfl rfl
      · refine Eq.trans (Eq.trans (r_go (act := oS (fAld 69 0)) rfl rfl) (a_ald rfl)) ?_
        refine Eq.trans (Eq.trans (r_go (act := oS (fGr g 72 11 1)) rfl rfl) (a_gr (zO_0 g) (zR_0_1 g))) ?_
        refine Eq.trans (Eq.trans (r_go (act := oS (fGr g 75 10 5)) rfl rfl) (a_gr (zO_6 g) (zR_6_5 g))) ?_
        refine Eq.trans (Eq.trans (r_go (act := oS (fAld 76 0)) rfl rfl) (a_ald rfl)) ?_
        refine Eq.trans (Eq.trans (r_go (act := oS (fGr g 79 11 1)) rfl rfl) (a_gr (zO_0 g) (zR_0_1 g))) ?_
        refine Eq.trans (Eq.trans (r_go (act := oS (fGr g 82 10 0)) rfl rfl) (a_gr (zO_6 g) (zR_6_0 g))) ?_
        refine Eq.trans (Eq.trans (r_go (act := oS (fIld 84 4)) rfl rfl) (a_ild rfl)) ?_
        refine Eq.trans (Eq.trans (r_go (act := oCI 87 3 (zcv g 5) (X_X5_rightDays g)) rfl rfl) (a_cI rfl (zck (zO_27 g) rfl))) (zbI_cg (fun x3 M3 => ?_))
        refine Eq.trans (Eq.trans (r_go (act := oS (fIst 89 6)) rfl rfl) (a_ist rfl rfl)) ?_
        refine Eq.trans (Eq.trans (r_go (act := oS (fIld 90 1)) rfl rfl) (a_ild rfl)) ?_
        refine Eq.trans (Eq.trans (r_go (act := oS (fSt 91 (gC (.int (-1))))) rfl rfl) (a_C)) ?_
        refine Eq.trans (Eq.trans (r_go (act := oS (fCm 105 94 cEq)) rfl rfl) (a_cm)) (bcg ?_ ?_)
        · refine Eq.trans (Eq.trans (r_go (act := oS (fIld 107 4)) rfl rfl) (a_ild rfl)) ?_
          refine Eq.trans (Eq.trans (r_go (act := oS (fIst 108 1)) rfl rfl) (a_ist rfl rfl)) ?_
          refine Eq.trans (Eq.trans (r_go (act := oS (fIld 110 6)) rfl rfl) (a_ild rfl)) ?_
          refine Eq.trans (Eq.trans (r_go (act := oS (fIst 111 2)) rfl rfl) (a_ist rfl rfl)) ?_
          refine Eq.trans (Eq.trans (r_go (act := oS (fIld 113 5)) rfl rfl) (a_ild rfl)) ?_
          refine Eq.trans (Eq.trans (r_go (act := oS (fIst 114 3)) rfl rfl) (a_ist rfl rfl)) ?_
          refine Eq.trans (Eq.trans (r_go (act := oS (fInc 117 4 1)) rfl rfl) (a_inc rfl rfl rfl)) ?_
          refine Eq.trans (Eq.trans (r_go (act := oS (fGo 9)) rfl rfl) (a_goto)) ?_
          exact r_cut rfl rfl
        · refine Eq.trans (Eq.trans (r_go (act := oS (fIld 96 6)) rfl rfl) (a_ild rfl)) ?_
          refine Eq.trans (Eq.trans (r_go (act := oS (fIld 97 3)) rfl rfl) (a_ild rfl)) ?_
          refine Eq.trans (Eq.trans (r_go (act := oS (fSt 98 (g2 (fun x y => x * y)))) rfl rfl) (a_mul)) ?_
          refine Eq.trans (Eq.trans (r_go (act := oS (fIld 99 2)) rfl rfl) (a_ild rfl)) ?_
          refine Eq.trans (Eq.trans (r_go (act := oS (fIld 101 5)) rfl rfl) (a_ild rfl)) ?_
          refine Eq.trans (Eq.trans (r_go (act := oS (fSt 102 (g2 (fun x y => x * y)))) rfl rfl) (a_mul)) ?_
          refine Eq.trans (Eq.trans (r_go (act := oS (fCm 105 114 cGt)) rfl rfl) (a_cm)) (bcg ?_ ?_)
          · refine Eq.trans (Eq.trans (r_go (act := oS (fIld 107 4)) rfl rfl) (a_ild rfl)) ?_
            refine Eq.trans (Eq.trans (r_go (act := oS (fIst 108 1)) rfl rfl) (a_ist rfl rfl)) ?_
            refine Eq.trans (Eq.trans (r_go (act := oS (fIld 110 6)) rfl rfl) (a_ild rfl)) ?_
            refine Eq.trans (Eq.trans (r_go (act := oS (fIst 111 2)) rfl rfl) (a_ist rfl rfl)) ?_
            refine Eq.trans (Eq.trans (r_go (act := oS (fIld 113 5)) rfl rfl) (a_ild rfl)) ?_
            refine Eq.trans (Eq.trans (r_go (act := oS (fIst 114 3)) rfl rfl) (a_ist rfl rfl)) ?_
            refine Eq.trans (Eq.trans (r_go (act := oS (fInc 117 4 1)) rfl rfl) (a_inc rfl rfl rfl)) ?_
            refine Eq.trans (Eq.trans (r_go (act := oS (fGo 9)) rfl rfl) (a_goto)) ?_
            exact r_cut rfl rfl
          · refine Eq.trans (Eq.trans (r_go (act := oS (fInc 117 4 1)) rfl rfl) (a_inc rfl rfl rfl)) ?_
            refine Eq.trans (Eq.trans (r_go (act := oS (fGo 9)) rfl rfl) (a_goto)) ?_
            exact r_cut rfl rfl
  · refine Eq.trans (Eq.trans (r_go (act := oS (fIld 121 1)) rfl rfl) (a_ild rfl)) ?_
    exact Eq.trans (r_go (act := oIret) rfl rfl) (a_iret)
set_option maxRecDepth 20000 in
theorem e_X5_countDays_0 (g : zg) (a2 : Int32) (a3 : Int32) (M : zM) : zX (t_X5_countDays g) 0 [some (.ref 27), some (.ref 7), some (.int a2), some (.int a3), none, none, none, none] [] M = zX (t_X5_countDays g) 3 [some (.ref 27), some (.ref 7), some (.int a2), some (.int a3), some (.int 0), none, none, none] [] M := by
  refine Eq.trans (zX_rgN (tl_X5_countDays g) (hc_X5_countDays g) 4 _ _ _ _) ?_
  refine Eq.trans (Eq.trans (r_0 (act := oS (fSt 1 (gC (.int 0)))) rfl) (a_C)) ?_
  refine Eq.trans (Eq.trans (r_go (act := oS (fIst 3 4)) rfl rfl) (a_ist rfl rfl)) ?_
  exact r_cut rfl rfl
theorem x_X5_countDays_0 (g : zg) (a2 : Int32) (a3 : Int32) (M : zM) : X_X5_countDays g [.ref 27, .ref 7, .int a2, .int a3] M = zX (t_X5_countDays g) 3 [some (.ref 27), some (.ref 7), some (.int a2), some (.int a3), some (.int 0), none, none, none] [] M := e_X5_countDays_0 g a2 a3 M
set_option maxRecDepth 20000 in
theorem e_X5_countDays_3 (g : zg) (a2 : Int32) (a3 : Int32) (a4 : Int32) (M : zM) : zX (t_X5_countDays g) 3 [some (.ref 27), some (.ref 7), some (.int a2), some (.int a3), some (.int a4), none, none, none] [] M = (bif cLt a4 5 then (bif zb a4 5 then (bif zb a4 5 then zX (t_X5_countDays g) 3 [some (.ref 27), some (.ref 7), some (.int a2), some (.int a3), some (.int (a4 + 1)), none, none, none] [] ((zu (zu M.1 30 (zx a4) 0) 31 (zx a4) 0), M.2) else none) else none) else zX (t_X5_countDays g) 34 [some (.ref 27), some (.ref 7), some (.int a2), some (.int a3), some (.int 0), none, none, none] [] M) := by
  refine Eq.trans (zX_rgN (tl_X5_countDays g) (hc_X5_countDays g) 17 _ _ _ _) ?_
  refine Eq.trans (Eq.trans (Eq.trans (r_0 (act := oF [5, 6, 7] (oS (fIld 5 4))) rfl) (a_F rfl)) (a_ild rfl)) ?_
  refine Eq.trans (Eq.trans (r_go (act := oS (fSt 6 (gC (.int 5)))) rfl rfl) (a_C)) ?_
  refine Eq.trans (Eq.trans (r_go (act := oS (fCm 9 31 cLt)) rfl rfl) (a_cm)) (bcg ?_ ?_)
  · refine Eq.trans (Eq.trans (r_go (act := oS (fAld 10 0)) rfl rfl) (a_ald rfl)) ?_
    refine Eq.trans (Eq.trans (r_go (act := oS (fGr g 13 5 2)) rfl rfl) (a_gr (zO_27 g) (zR_27_2 g))) ?_
    refine Eq.trans (Eq.trans (r_go (act := oS (fIld 15 4)) rfl rfl) (a_ild rfl)) ?_
    refine Eq.trans (Eq.trans (r_go (act := oS (fSt 16 (gC (.int 0)))) rfl rfl) (a_C)) ?_
    refine Eq.trans (Eq.trans (r_go (act := oS (fIs g 17)) rfl rfl) (a_is (zA_30 g) zS_30)) (bcg ?_ rfl)
    refine Eq.trans (Eq.trans (r_go (act := oS (fAld 18 0)) rfl rfl) (a_ald rfl)) ?_
    refine Eq.trans (Eq.trans (r_go (act := oS (fGr g 21 5 3)) rfl rfl) (a_gr (zO_27 g) (zR_27_3 g))) ?_
    refine Eq.trans (Eq.trans (r_go (act := oS (fIld 23 4)) rfl rfl) (a_ild rfl)) ?_
    refine Eq.trans (Eq.trans (r_go (act := oS (fSt 24 (gC (.int 0)))) rfl rfl) (a_C)) ?_
    refine Eq.trans (Eq.trans (r_go (act := oS (fIs g 25)) rfl rfl) (a_is (zA_31 g) zS_31)) (bcg ?_ rfl)
    refine Eq.trans (Eq.trans (r_go (act := oS (fInc 28 4 1)) rfl rfl) (a_inc rfl rfl rfl)) ?_
    refine Eq.trans (Eq.trans (r_go (act := oS (fGo 3)) rfl rfl) (a_goto)) ?_
    exact r_cut rfl rfl
  · refine Eq.trans (Eq.trans (r_go (act := oS (fSt 32 (gC (.int 0)))) rfl rfl) (a_C)) ?_
    refine Eq.trans (Eq.trans (r_go (act := oS (fIst 34 4)) rfl rfl) (a_ist rfl rfl)) ?_
    exact r_cut rfl rfl
set_option maxRecDepth 20000 in
theorem e_X5_countDays_34 (g : zg) (a2 : Int32) (a3 : Int32) (a4 : Int32) (M : zM) : zX (t_X5_countDays g) 34 [some (.ref 27), some (.ref 7), some (.int a2), some (.int a3), some (.int a4), none, none, none] [] M = (zbI (X_X5_kept g [.ref 7] M) (fun x1 M1 => (bif cLt a4 x1 then (zbI (X_X5_slotOf g [.ref 7, .int a4] M1) (fun x2 M2 => (zbI (X_X5_saidIn g [.ref 27, .int x2, .int a2] M2) (fun x3 M3 => (bif zb x2 96 then (bif cEq x3 (-1) then zX (t_X5_countDays g) 34 [some (.ref 27), some (.ref 7), some (.int a2), some (.int a3), some (.int (a4 + 1)), none, none, none] [] M3 else (zbI (X_X11_within g [.int (M3.1 28 (zx x2)), .int 0, .int 4] M3) (fun x4 M4 => (bif cEq0 x4 then zX (t_X5_countDays g) 34 [some (.ref 27), some (.ref 7), some (.int a2), some (.int a3), some (.int (a4 + 1)), none, none, none] [] M4 else (bif zb (M3.1 28 (zx x2)) 5 then (bif zb (M3.1 28 (zx x2)) 5 then (bif zb (M3.1 28 (zx x2)) 5 then (bif cEq x3 a3 then (bif zb (M3.1 28 (zx x2)) 5 then zX (t_X5_countDays g) 34 [some (.ref 27), some (.ref 7), some (.int a2), some (.int a3), some (.int (a4 + 1)), none, none, none] [] ((zu (zu M4.1 30 (zx (M3.1 28 (zx x2))) ((M4.1 30 (zx (M3.1 28 (zx x2)))) + 1)) 31 (zx (M3.1 28 (zx x2))) ((M4.1 31 (zx (M3.1 28 (zx x2)))) + 1)), M4.2) else none) else (bif zb (M3.1 28 (zx x2)) 5 then zX (t_X5_countDays g) 34 [some (.ref 27), some (.ref 7), some (.int a2), some (.int a3), some (.int (a4 + 1)), none, none, none] [] ((zu (zu M4.1 30 (zx (M3.1 28 (zx x2))) ((M4.1 30 (zx (M3.1 28 (zx x2)))) + 1)) 31 (zx (M3.1 28 (zx x2))) ((M4.1 31 (zx (M3.1 28 (zx x2)))) + 0)), M4.2) else none)) else none) else none) else none))))) else none))))) else some (none, M1)))) := by
  refine Eq.trans (zX_rgN (tl_X5_countDays g) (hc_X5_countDays g) 50 _ _ _ _) ?_
  refine Eq.trans (Eq.trans (Eq.trans (r_0 (act := oF [5, 6, 7] (oS (fIld 36 4))) rfl) (a_F rfl)) (a_ild rfl)) ?_
  refine Eq.trans (Eq.trans (r_go (act := oS (fAld 37 1)) rfl rfl) (a_ald rfl)) ?_
  refine Eq.trans (Eq.trans (r_go (act := oCI 40 1 zcs (X_X5_kept g)) rfl rfl) (a_cI rfl rfl)) (zbI_cg (fun x1 M1 => ?_))
  refine Eq.trans (Eq.trans (r_go (act := oS (fCm 43 123 cLt)) rfl rfl) (a_cm)) (bcg ?_ ?_)
  · refine Eq.trans (Eq.trans (r_go (act := oS (fAld 44 1)) rfl rfl) (a_ald rfl)) ?_
    refine Eq.trans (Eq.trans (r_go (act := oS (fIld 46 4)) rfl rfl) (a_ild rfl)) ?_
    refine Eq.trans (Eq.trans (r_go (act := oCI 49 2 zcs (X_X5_slotOf g)) rfl rfl) (a_cI rfl rfl)) (zbI_cg (fun x2 M2 => ?_))
    refine Eq.trans (Eq.trans (r_go (act := oS (fIst 51 5)) rfl rfl) (a_ist rfl rfl)) ?_
    refine Eq.trans (Eq.trans (r_go (act := oS (fAld 52 0)) rfl rfl) (a_ald rfl)) ?_
    refine Eq.trans (Eq.trans (r_go (act := oS (fIld 54 5)) rfl rfl) (a_ild rfl)) ?_
    refine Eq.trans (Eq.trans (r_go (act := oS (fIld 55 2)) rfl rfl) (a_ild rfl)) ?_
    refine Eq.trans (Eq.trans (r_go (act := oCI 58 3 (zcv g 5) (X_X5_saidIn g)) rfl rfl) (a_cI rfl (zck (zO_27 g) rfl))) (zbI_cg (fun x3 M3 => ?_))
    refine Eq.trans (Eq.trans (r_go (act := oS (fIst 60 6)) rfl rfl) (a_ist rfl rfl)) ?_
    refine Eq.trans (Eq.trans (r_go (act := oS (fAld 61 0)) rfl rfl) (a_ald rfl)) ?_
    refine Eq.trans (Eq.trans (r_go (act := oS (fGr g 64 5 0)) rfl rfl) (a_gr (zO_27 g) (zR_27_0 g))) ?_
    refine Eq.trans (Eq.trans (r_go (act := oS (fIld 66 5)) rfl rfl) (a_ild rfl)) ?_
    refine Eq.trans (Eq.trans (r_go (act := oS (fIa g 67)) rfl rfl) (a_ia (zA_28 g) zS_28)) (bcg ?_ rfl)
    refine Eq.trans (Eq.trans (r_go (act := oS (fIst 69 7)) rfl rfl) (a_ist rfl rfl)) ?_
    refine Eq.trans (Eq.trans (r_go (act := oS (fIld 71 6)) rfl rfl) (a_ild rfl)) ?_
    refine Eq.trans (Eq.trans (r_go (act := oS (fSt 72 (gC (.int (-1))))) rfl rfl) (a_C)) ?_
    refine Eq.trans (Eq.trans (r_go (act := oS (fCm 117 75 cEq)) rfl rfl) (a_cm)) (bcg ?_ ?_)
    · refine Eq.trans (Eq.trans (r_go (act := oS (fInc 120 4 1)) rfl rfl) (a_inc rfl rfl rfl)) ?_
      refine Eq.trans (Eq.trans (r_go (act := oS (fGo 34)) rfl rfl) (a_goto)) ?_
      exact r_cut rfl rfl
    · refine Eq.trans (Eq.trans (r_go (act := oS (fIld 77 7)) rfl rfl) (a_ild rfl)) ?_
      refine Eq.trans (Eq.trans (r_go (act := oS (fSt 78 (gC (.int 0)))) rfl rfl) (a_C)) ?_
      refine Eq.trans (Eq.trans (r_go (act := oS (fSt 79 (gC (.int 4)))) rfl rfl) (a_C)) ?_
      refine Eq.trans (Eq.trans (r_go (act := oCI 82 3 zcs (X_X11_within g)) rfl rfl) (a_cI rfl rfl)) (zbI_cg (fun x4 M4 => ?_))
      refine Eq.trans (Eq.trans (r_go (act := oS (fIf 117 85 cEq0)) rfl rfl) (a_if)) (bcg ?_ ?_)
      · refine Eq.trans (Eq.trans (r_go (act := oS (fInc 120 4 1)) rfl rfl) (a_inc rfl rfl rfl)) ?_
        refine Eq.trans (Eq.trans (r_go (act := oS (fGo 34)) rfl rfl) (a_goto)) ?_
        exact r_cut rfl rfl
      · refine Eq.trans (Eq.trans (r_go (act := oS (fAld 86 0)) rfl rfl) (a_ald rfl)) ?_
        refine Eq.trans (Eq.trans (r_go (act := oS (fGr g 89 5 2)) rfl rfl) (a_gr (zO_27 g) (zR_27_2 g))) ?_
        refine Eq.trans (Eq.trans (r_go (act := oS (fIld 91 7)) rfl rfl) (a_ild rfl)) ?_
        refine Eq.trans (Eq.trans (r_go (act := oS (fSt 92 gDup2)) rfl rfl) (a_dup2)) ?_
        refine Eq.trans (Eq.trans (r_go (act := oS (fIa g 93)) rfl rfl) (a_ia (zA_30 g) zS_30)) (bcg ?_ rfl)
        refine Eq.trans (Eq.trans (r_go (act := oS (fSt 94 (gC (.int 1)))) rfl rfl) (a_C)) ?_
        refine Eq.trans (Eq.trans (r_go (act := oS (fSt 95 (g2 (fun x y => x + y)))) rfl rfl) (a_add)) ?_
        refine Eq.trans (Eq.trans (r_go (act := oS (fIs g 96)) rfl rfl) (a_is (zA_30 g) zS_30)) (bcg ?_ rfl)
        refine Eq.trans (Eq.trans (r_go (act := oS (fAld 97 0)) rfl rfl) (a_ald rfl)) ?_
        refine Eq.trans (Eq.trans (r_go (act := oS (fGr g 100 5 3)) rfl rfl) (a_gr (zO_27 g) (zR_27_3 g))) ?_
        refine Eq.trans (Eq.trans (r_go (act := oS (fIld 102 7)) rfl rfl) (a_ild rfl)) ?_
        refine Eq.trans (Eq.trans (r_go (act := oS (fSt 103 gDup2)) rfl rfl) (a_dup2)) ?_
        refine Eq.trans (Eq.trans (r_go (act := oS (fIa g 104)) rfl rfl) (a_iaV (zA_31 g) zS_31 rfl)) (bcg ?_ rfl)
        refine Eq.trans (Eq.trans (r_go (act := oS (fIld 106 6)) rfl rfl) (a_ild rfl)) ?_
        refine Eq.trans (Eq.trans (r_go (act := oS (fIld 107 3)) rfl rfl) (a_ild rfl)) ?_
        refine Eq.trans (Eq.trans (r_go (act := oS (fCm 110 114 cEq)) rfl rfl) (a_cm)) (bcg ?_ ?_)
        · refine Eq.trans (Eq.trans (r_go (act := oS (fSt 111 (gC (.int 1)))) rfl rfl) (a_C)) ?_
          refine Eq.trans (Eq.trans (r_go (act := oS (fGo 115)) rfl rfl) (a_goto)) ?_
          refine Eq.trans (Eq.trans (r_go (act := oS (fSt 116 (g2 (fun x y => x + y)))) rfl rfl) (a_add)) ?_
          refine Eq.trans (Eq.trans (r_go (act := oS (fIs g 117)) rfl rfl) (a_is (zA_31 g) zS_31)) (bcg ?_ rfl)
          refine Eq.trans (Eq.trans (r_go (act := oS (fInc 120 4 1)) rfl rfl) (a_inc rfl rfl rfl)) ?_
          refine Eq.trans (Eq.trans (r_go (act := oS (fGo 34)) rfl rfl) (a_goto)) ?_
          exact r_cut rfl rfl
        · refine Eq.trans (Eq.trans (r_go (act := oS (fSt 115 (gC (.int 0)))) rfl rfl) (a_C)) ?_
          refine Eq.trans (Eq.trans (r_go (act := oS (fSt 116 (g2 (fun x y => x + y)))) rfl rfl) (a_add)) ?_
          refine Eq.trans (Eq.trans (r_go (act := oS (fIs g 117)) rfl rfl) (a_is (zA_31 g) zS_31)) (bcg ?_ rfl)
          refine Eq.trans (Eq.trans (r_go (act := oS (fInc 120 4 1)) rfl rfl) (a_inc rfl rfl rfl)) ?_
          refine Eq.trans (Eq.trans (r_go (act := oS (fGo 34)) rfl rfl) (a_goto)) ?_
          exact r_cut rfl rfl
  · exact Eq.trans (r_go (act := oVret) rfl rfl) (a_vret)
set_option maxRecDepth 20000 in
theorem e_X10_weighKinds_0 (g : zg) (M : zM) : zX (t_X10_weighKinds g) 0 [some (.ref 6), none, none, none, none] [] M = zX (t_X10_weighKinds g) 4 [some (.ref 6), some (.int 0), some (.int 0), none, none] [] M := by
  refine Eq.trans (zX_rgN (tl_X10_weighKinds g) (hc_X10_weighKinds g) 6 _ _ _ _) ?_
  refine Eq.trans (Eq.trans (r_0 (act := oS (fSt 1 (gC (.int 0)))) rfl) (a_C)) ?_
  refine Eq.trans (Eq.trans (r_go (act := oS (fIst 2 1)) rfl rfl) (a_ist rfl rfl)) ?_
  refine Eq.trans (Eq.trans (r_go (act := oS (fSt 3 (gC (.int 0)))) rfl rfl) (a_C)) ?_
  refine Eq.trans (Eq.trans (r_go (act := oS (fIst 4 2)) rfl rfl) (a_ist rfl rfl)) ?_
  exact r_cut rfl rfl
theorem x_X10_weighKinds_0 (g : zg) (M : zM) : X_X10_weighKinds g [.ref 6] M = zX (t_X10_weighKinds g) 4 [some (.ref 6), some (.int 0), some (.int 0), none, none] [] M := e_X10_weighKinds_0 g M
set_option maxRecDepth 20000 in
theorem e_X10_weighKinds_4 (g : zg) (a1 : Int32) (a2 : Int32) (M : zM) : zX (t_X10_weighKinds g) 4 [some (.ref 6), some (.int a1), some (.int a2), none, none] [] M = (bif cLt a2 5 then (bif zb a2 5 then zX (t_X10_weighKinds g) 4 [some (.ref 6), some (.int a1), some (.int (a2 + 1)), none, none] [] (M.1, (zuL M.2 39 (zx a2) 200000)) else none) else zX (t_X10_weighKinds g) 26 [some (.ref 6), some (.int a1), some (.int 0), none, none] [] M) := by
  refine Eq.trans (zX_rgN (tl_X10_weighKinds g) (hc_X10_weighKinds g) 12 _ _ _ _) ?_
  refine Eq.trans (Eq.trans (Eq.trans (r_0 (act := oF [3, 4] (oS (fIld 5 2))) rfl) (a_F rfl)) (a_ild rfl)) ?_
  refine Eq.trans (Eq.trans (r_go (act := oS (fSt 6 (gC (.int 5)))) rfl rfl) (a_C)) ?_
  refine Eq.trans (Eq.trans (r_go (act := oS (fCm 9 24 cLt)) rfl rfl) (a_cm)) (bcg ?_ ?_)
  · refine Eq.trans (Eq.trans (r_go (act := oS (fAld 10 0)) rfl rfl) (a_ald rfl)) ?_
    refine Eq.trans (Eq.trans (r_go (act := oS (fGr g 13 10 7)) rfl rfl) (a_gr (zO_6 g) (zR_6_7 g))) ?_
    refine Eq.trans (Eq.trans (r_go (act := oS (fIld 14 2)) rfl rfl) (a_ild rfl)) ?_
    refine Eq.trans (Eq.trans (r_go (act := oS (fSt 17 (gC (.long 200000)))) rfl rfl) (a_C)) ?_
    refine Eq.trans (Eq.trans (r_go (act := oS (fLs g 18)) rfl rfl) (a_ls (zA_39 g) zS_39)) (bcg ?_ rfl)
    refine Eq.trans (Eq.trans (r_go (act := oS (fInc 21 2 1)) rfl rfl) (a_inc rfl rfl rfl)) ?_
    refine Eq.trans (Eq.trans (r_go (act := oS (fGo 4)) rfl rfl) (a_goto)) ?_
    exact r_cut rfl rfl
  · refine Eq.trans (Eq.trans (r_go (act := oS (fSt 25 (gC (.int 0)))) rfl rfl) (a_C)) ?_
    refine Eq.trans (Eq.trans (r_go (act := oS (fIst 26 2)) rfl rfl) (a_ist rfl rfl)) ?_
    exact r_cut rfl rfl
set_option maxRecDepth 20000 in
theorem e_X10_weighKinds_26 (g : zg) (a1 : Int32) (a2 : Int32) (M : zM) : zX (t_X10_weighKinds g) 26 [some (.ref 6), some (.int a1), some (.int a2), none, none] [] M = (bif cLt a2 (M.1 7 2) then (zbI (X_X3_get g [.ref 7, .int a2, .int 6] M) (fun x1 M1 => (zbI (X_X3_serving g [.ref 7, .int a2] M1) (fun x2 M2 => (bif cEq0 x2 then zX (t_X10_weighKinds g) 26 [some (.ref 6), some (.int a1), some (.int (a2 + 1)), none, none] [] M2 else (bif cEq x1 (-1) then zX (t_X10_weighKinds g) 26 [some (.ref 6), some (.int a1), some (.int (a2 + 1)), none, none] [] M2 else (zbV (X_X5_countDays g [.ref 27, .ref 7, .int a2, .int x1] M2) (fun M3 => zX (t_X10_weighKinds g) 85 [some (.ref 6), some (.int 1), some (.int a2), none, some (.int 0)] [] M3)))))))) else (bif cEq (a1 &&& 1) a1 then some (some (.int a1), M) else none)) := by
  refine Eq.trans (zX_rgN (tl_X10_weighKinds g) (hc_X10_weighKinds g) 32 _ _ _ _) ?_
  refine Eq.trans (Eq.trans (Eq.trans (r_0 (act := oF [3, 4] (oS (fIld 27 2))) rfl) (a_F rfl)) (a_ild rfl)) ?_
  refine Eq.trans (Eq.trans (r_go (act := oS (fAld 28 0)) rfl rfl) (a_ald rfl)) ?_
  refine Eq.trans (Eq.trans (r_go (act := oS (fGr g 31 10 0)) rfl rfl) (a_gr (zO_6 g) (zR_6_0 g))) ?_
  refine Eq.trans (Eq.trans (r_go (act := oS (fGi g 34 3 2)) rfl rfl) (a_gi (zO_7 g))) ?_
  refine Eq.trans (Eq.trans (r_go (act := oS (fCm 37 145 cLt)) rfl rfl) (a_cm)) (bcg ?_ ?_)
  · refine Eq.trans (Eq.trans (r_go (act := oS (fAld 38 0)) rfl rfl) (a_ald rfl)) ?_
    refine Eq.trans (Eq.trans (r_go (act := oS (fGr g 41 10 0)) rfl rfl) (a_gr (zO_6 g) (zR_6_0 g))) ?_
    refine Eq.trans (Eq.trans (r_go (act := oS (fIld 42 2)) rfl rfl) (a_ild rfl)) ?_
    refine Eq.trans (Eq.trans (r_go (act := oS (fSt 44 (gC (.int 6)))) rfl rfl) (a_C)) ?_
    refine Eq.trans (Eq.trans (r_go (act := oCI 47 3 (zcv g 3) (X_X3_get g)) rfl rfl) (a_cI rfl (zck (zO_7 g) rfl))) (zbI_cg (fun x1 M1 => ?_))
    refine Eq.trans (Eq.trans (r_go (act := oS (fIst 48 3)) rfl rfl) (a_ist rfl rfl)) ?_
    refine Eq.trans (Eq.trans (r_go (act := oS (fAld 49 0)) rfl rfl) (a_ald rfl)) ?_
    refine Eq.trans (Eq.trans (r_go (act := oS (fGr g 52 10 0)) rfl rfl) (a_gr (zO_6 g) (zR_6_0 g))) ?_
    refine Eq.trans (Eq.trans (r_go (act := oS (fIld 53 2)) rfl rfl) (a_ild rfl)) ?_
    refine Eq.trans (Eq.trans (r_go (act := oCI 56 2 (zcv g 3) (X_X3_serving g)) rfl rfl) (a_cI rfl (zck (zO_7 g) rfl))) (zbI_cg (fun x2 M2 => ?_))
    refine Eq.trans (Eq.trans (r_go (act := oS (fIf 139 59 cEq0)) rfl rfl) (a_if)) (bcg ?_ ?_)
    · refine Eq.trans (Eq.trans (r_go (act := oS (fInc 142 2 1)) rfl rfl) (a_inc rfl rfl rfl)) ?_
      refine Eq.trans (Eq.trans (r_go (act := oS (fGo 26)) rfl rfl) (a_goto)) ?_
      exact r_cut rfl rfl
    · refine Eq.trans (Eq.trans (r_go (act := oS (fIld 60 3)) rfl rfl) (a_ild rfl)) ?_
      refine Eq.trans (Eq.trans (r_go (act := oS (fSt 61 (gC (.int (-1))))) rfl rfl) (a_C)) ?_
      refine Eq.trans (Eq.trans (r_go (act := oS (fCm 64 67 cEq)) rfl rfl) (a_cm)) (bcg ?_ ?_)
      · refine Eq.trans (Eq.trans (r_go (act := oS (fGo 139)) rfl rfl) (a_goto)) ?_
        refine Eq.trans (Eq.trans (r_go (act := oS (fInc 142 2 1)) rfl rfl) (a_inc rfl rfl rfl)) ?_
        refine Eq.trans (Eq.trans (r_go (act := oS (fGo 26)) rfl rfl) (a_goto)) ?_
        exact r_cut rfl rfl
      · refine Eq.trans (Eq.trans (r_go (act := oS (fSt 68 (gC (.int 1)))) rfl rfl) (a_C)) ?_
        refine Eq.trans (Eq.trans (r_go (act := oS (fIst 69 1)) rfl rfl) (a_ist rfl rfl)) ?_
        refine Eq.trans (Eq.trans (r_go (act := oS (fAld 70 0)) rfl rfl) (a_ald rfl)) ?_
        refine Eq.trans (Eq.trans (r_go (act := oS (fGr g 73 10 5)) rfl rfl) (a_gr (zO_6 g) (zR_6_5 g))) ?_
        refine Eq.trans (Eq.trans (r_go (act := oS (fAld 74 0)) rfl rfl) (a_ald rfl)) ?_
        refine Eq.trans (Eq.trans (r_go (act := oS (fGr g 77 10 0)) rfl rfl) (a_gr (zO_6 g) (zR_6_0 g))) ?_
        refine Eq.trans (Eq.trans (r_go (act := oS (fIld 78 2)) rfl rfl) (a_ild rfl)) ?_
        refine Eq.trans (Eq.trans (r_go (act := oS (fIld 79 3)) rfl rfl) (a_ild rfl)) ?_
        refine Eq.trans (Eq.trans (r_go (act := oCV 82 4 (zcv g 5) (X_X5_countDays g)) rfl rfl) (a_cV rfl (zck (zO_27 g) rfl))) (zbV_cg (fun M3 => ?_))
        refine Eq.trans (Eq.trans (r_go (act := oS (fSt 83 (gC (.int 0)))) rfl rfl) (a_C)) ?_
        refine Eq.trans (Eq.trans (r_go (act := oS (fIst 85 4)) rfl rfl) (a_ist rfl rfl)) ?_
        exact r_cut rfl rfl
  · refine Eq.trans (Eq.trans (r_go (act := oS (fIld 146 1)) rfl rfl) (a_ild rfl)) ?_
    exact Eq.trans (r_go (act := oZret) rfl rfl) (a_zret)
set_option maxRecDepth 20000 in
theorem e_X10_weighKinds_85 (g : zg) (a1 : Int32) (a2 : Int32) (a4 : Int32) (M : zM) : zX (t_X10_weighKinds g) 85 [some (.ref 6), some (.int a1), some (.int a2), none, some (.int a4)] [] M = (bif cLt a4 5 then (bif zb a4 5 then (bif zb a4 5 then (bif zb a4 5 then (bif !decide ((5 + (M.1 30 (zx a4))).toInt64 = 0) then (bif zb a4 5 then zX (t_X10_weighKinds g) 85 [some (.ref 6), some (.int a1), some (.int a2), none, some (.int (a4 + 1))] [] (M.1, (zuL M.2 39 (zx a4) (((M.2 39 (zx a4)) * ((1 + (M.1 31 (zx a4))).toInt64)) / ((5 + (M.1 30 (zx a4))).toInt64)))) else none) else none) else none) else none) else none) else zX (t_X10_weighKinds g) 26 [some (.ref 6), some (.int a1), some (.int (a2 + 1)), none, none] [] M) := by
  refine Eq.trans (zX_rgN (tl_X10_weighKinds g) (hc_X10_weighKinds g) 33 _ _ _ _) ?_
  refine Eq.trans (Eq.trans (Eq.trans (r_0 (act := oF [3] (oS (fIld 87 4))) rfl) (a_F rfl)) (a_ild rfl)) ?_
  refine Eq.trans (Eq.trans (r_go (act := oS (fSt 88 (gC (.int 5)))) rfl rfl) (a_C)) ?_
  refine Eq.trans (Eq.trans (r_go (act := oS (fCm 91 139 cLt)) rfl rfl) (a_cm)) (bcg ?_ ?_)
  · refine Eq.trans (Eq.trans (r_go (act := oS (fAld 92 0)) rfl rfl) (a_ald rfl)) ?_
    refine Eq.trans (Eq.trans (r_go (act := oS (fGr g 95 10 7)) rfl rfl) (a_gr (zO_6 g) (zR_6_7 g))) ?_
    refine Eq.trans (Eq.trans (r_go (act := oS (fIld 97 4)) rfl rfl) (a_ild rfl)) ?_
    refine Eq.trans (Eq.trans (r_go (act := oS (fAld 98 0)) rfl rfl) (a_ald rfl)) ?_
    refine Eq.trans (Eq.trans (r_go (act := oS (fGr g 101 10 7)) rfl rfl) (a_gr (zO_6 g) (zR_6_7 g))) ?_
    refine Eq.trans (Eq.trans (r_go (act := oS (fIld 103 4)) rfl rfl) (a_ild rfl)) ?_
    refine Eq.trans (Eq.trans (r_go (act := oS (fLa g 104)) rfl rfl) (a_la (zA_39 g) zS_39)) (bcg ?_ rfl)
    refine Eq.trans (Eq.trans (r_go (act := oS (fSt 105 (gC (.int 1)))) rfl rfl) (a_C)) ?_
    refine Eq.trans (Eq.trans (r_go (act := oS (fAld 106 0)) rfl rfl) (a_ald rfl)) ?_
    refine Eq.trans (Eq.trans (r_go (act := oS (fGr g 109 10 5)) rfl rfl) (a_gr (zO_6 g) (zR_6_5 g))) ?_
    refine Eq.trans (Eq.trans (r_go (act := oS (fGr g 112 5 3)) rfl rfl) (a_gr (zO_27 g) (zR_27_3 g))) ?_
    refine Eq.trans (Eq.trans (r_go (act := oS (fIld 114 4)) rfl rfl) (a_ild rfl)) ?_
    refine Eq.trans (Eq.trans (r_go (act := oS (fIa g 115)) rfl rfl) (a_ia (zA_31 g) zS_31)) (bcg ?_ rfl)
    refine Eq.trans (Eq.trans (r_go (act := oS (fSt 116 (g2 (fun x y => x + y)))) rfl rfl) (a_add)) ?_
    refine Eq.trans (Eq.trans (r_go (act := oS (fSt 117 gI2l)) rfl rfl) (a_i2l)) ?_
    refine Eq.trans (Eq.trans (r_go (act := oS (fSt 118 (gL2 (fun x y => x * y)))) rfl rfl) (a_lmul)) ?_
    refine Eq.trans (Eq.trans (r_go (act := oS (fSt 119 (gC (.int 5)))) rfl rfl) (a_C)) ?_
    refine Eq.trans (Eq.trans (r_go (act := oS (fAld 120 0)) rfl rfl) (a_ald rfl)) ?_
    refine Eq.trans (Eq.trans (r_go (act := oS (fGr g 123 10 5)) rfl rfl) (a_gr (zO_6 g) (zR_6_5 g))) ?_
    refine Eq.trans (Eq.trans (r_go (act := oS (fGr g 126 5 2)) rfl rfl) (a_gr (zO_27 g) (zR_27_2 g))) ?_
    refine Eq.trans (Eq.trans (r_go (act := oS (fIld 128 4)) rfl rfl) (a_ild rfl)) ?_
    refine Eq.trans (Eq.trans (r_go (act := oS (fIa g 129)) rfl rfl) (a_ia (zA_30 g) zS_30)) (bcg ?_ rfl)
    refine Eq.trans (Eq.trans (r_go (act := oS (fSt 130 (g2 (fun x y => x + y)))) rfl rfl) (a_add)) ?_
    refine Eq.trans (Eq.trans (r_go (act := oS (fSt 131 gI2l)) rfl rfl) (a_i2l)) ?_
    refine Eq.trans (Eq.trans (r_go (act := oS (fLdiv 132)) rfl rfl) (a_ldv)) (bcg ?_ rfl)
    refine Eq.trans (Eq.trans (r_go (act := oS (fLs g 133)) rfl rfl) (a_ls (zA_39 g) zS_39)) (bcg ?_ rfl)
    refine Eq.trans (Eq.trans (r_go (act := oS (fInc 136 4 1)) rfl rfl) (a_inc rfl rfl rfl)) ?_
    refine Eq.trans (Eq.trans (r_go (act := oS (fGo 85)) rfl rfl) (a_goto)) ?_
    exact r_cut rfl rfl
  · refine Eq.trans (Eq.trans (r_go (act := oS (fInc 142 2 1)) rfl rfl) (a_inc rfl rfl rfl)) ?_
    refine Eq.trans (Eq.trans (r_go (act := oS (fGo 26)) rfl rfl) (a_goto)) ?_
    exact r_cut rfl rfl
set_option maxRecDepth 20000 in
theorem e_X10_heaviestKind_0 (g : zg) (M : zM) : zX (t_X10_heaviestKind g) 0 [some (.ref 6), none, none] [] M = zX (t_X10_heaviestKind g) 4 [some (.ref 6), some (.int 0), some (.int 1)] [] M := by
  refine Eq.trans (zX_rgN (tl_X10_heaviestKind g) (hc_X10_heaviestKind g) 6 _ _ _ _) ?_
  refine Eq.trans (Eq.trans (r_0 (act := oS (fSt 1 (gC (.int 0)))) rfl) (a_C)) ?_
  refine Eq.trans (Eq.trans (r_go (act := oS (fIst 2 1)) rfl rfl) (a_ist rfl rfl)) ?_
  refine Eq.trans (Eq.trans (r_go (act := oS (fSt 3 (gC (.int 1)))) rfl rfl) (a_C)) ?_
  refine Eq.trans (Eq.trans (r_go (act := oS (fIst 4 2)) rfl rfl) (a_ist rfl rfl)) ?_
  exact r_cut rfl rfl
theorem x_X10_heaviestKind_0 (g : zg) (M : zM) : X_X10_heaviestKind g [.ref 6] M = zX (t_X10_heaviestKind g) 4 [some (.ref 6), some (.int 0), some (.int 1)] [] M := e_X10_heaviestKind_0 g M
set_option maxRecDepth 20000 in
theorem e_X10_heaviestKind_4 (g : zg) (a1 : Int32) (a2 : Int32) (M : zM) : zX (t_X10_heaviestKind g) 4 [some (.ref 6), some (.int a1), some (.int a2)] [] M = (bif cLt a2 5 then (bif zb a2 5 then (bif zb a1 5 then (bif cGt0 (lg_cmp (M.2 39 (zx a2)) (M.2 39 (zx a1))) then zX (t_X10_heaviestKind g) 4 [some (.ref 6), some (.int a2), some (.int (a2 + 1))] [] M else zX (t_X10_heaviestKind g) 4 [some (.ref 6), some (.int a1), some (.int (a2 + 1))] [] M) else none) else none) else some (some (.int a1), M)) := by
  refine Eq.trans (zX_rgN (tl_X10_heaviestKind g) (hc_X10_heaviestKind g) 19 _ _ _ _) ?_
  refine Eq.trans (Eq.trans (Eq.trans (r_0 (act := oF [] (oS (fIld 5 2))) rfl) (a_F rfl)) (a_ild rfl)) ?_
  refine Eq.trans (Eq.trans (r_go (act := oS (fSt 6 (gC (.int 5)))) rfl rfl) (a_C)) ?_
  refine Eq.trans (Eq.trans (r_go (act := oS (fCm 9 33 cLt)) rfl rfl) (a_cm)) (bcg ?_ ?_)
  · refine Eq.trans (Eq.trans (r_go (act := oS (fAld 10 0)) rfl rfl) (a_ald rfl)) ?_
    refine Eq.trans (Eq.trans (r_go (act := oS (fGr g 13 10 7)) rfl rfl) (a_gr (zO_6 g) (zR_6_7 g))) ?_
    refine Eq.trans (Eq.trans (r_go (act := oS (fIld 14 2)) rfl rfl) (a_ild rfl)) ?_
    refine Eq.trans (Eq.trans (r_go (act := oS (fLa g 15)) rfl rfl) (a_la (zA_39 g) zS_39)) (bcg ?_ rfl)
    refine Eq.trans (Eq.trans (r_go (act := oS (fAld 16 0)) rfl rfl) (a_ald rfl)) ?_
    refine Eq.trans (Eq.trans (r_go (act := oS (fGr g 19 10 7)) rfl rfl) (a_gr (zO_6 g) (zR_6_7 g))) ?_
    refine Eq.trans (Eq.trans (r_go (act := oS (fIld 20 1)) rfl rfl) (a_ild rfl)) ?_
    refine Eq.trans (Eq.trans (r_go (act := oS (fLa g 21)) rfl rfl) (a_la (zA_39 g) zS_39)) (bcg ?_ rfl)
    refine Eq.trans (Eq.trans (r_go (act := oS (fSt 22 gLcmp)) rfl rfl) (a_lcmp)) ?_
    refine Eq.trans (Eq.trans (r_go (act := oS (fIf 25 27 cGt0)) rfl rfl) (a_if)) (bcg ?_ ?_)
    · refine Eq.trans (Eq.trans (r_go (act := oS (fIld 26 2)) rfl rfl) (a_ild rfl)) ?_
      refine Eq.trans (Eq.trans (r_go (act := oS (fIst 27 1)) rfl rfl) (a_ist rfl rfl)) ?_
      refine Eq.trans (Eq.trans (r_go (act := oS (fInc 30 2 1)) rfl rfl) (a_inc rfl rfl rfl)) ?_
      refine Eq.trans (Eq.trans (r_go (act := oS (fGo 4)) rfl rfl) (a_goto)) ?_
      exact r_cut rfl rfl
    · refine Eq.trans (Eq.trans (r_go (act := oS (fInc 30 2 1)) rfl rfl) (a_inc rfl rfl rfl)) ?_
      refine Eq.trans (Eq.trans (r_go (act := oS (fGo 4)) rfl rfl) (a_goto)) ?_
      exact r_cut rfl rfl
  · refine Eq.trans (Eq.trans (r_go (act := oS (fIld 34 1)) rfl rfl) (a_ild rfl)) ?_
    exact Eq.trans (r_go (act := oIret) rfl rfl) (a_iret)
set_option maxRecDepth 20000 in
theorem e_X10_shareOfMillion_0 (g : zg) (a1 : Int32) (M : zM) : zX (t_X10_shareOfMillion g) 0 [some (.ref 6), some (.int a1), none, none, none] [] M = zX (t_X10_shareOfMillion g) 5 [some (.ref 6), some (.int a1), some (.long 0), none, some (.int 0)] [] M := by
  refine Eq.trans (zX_rgN (tl_X10_shareOfMillion g) (hc_X10_shareOfMillion g) 6 _ _ _ _) ?_
  refine Eq.trans (Eq.trans (r_0 (act := oS (fSt 1 (gC (.long 0)))) rfl) (a_C)) ?_
  refine Eq.trans (Eq.trans (r_go (act := oS (fLst 2 2)) rfl rfl) (a_lst rfl rfl)) ?_
  refine Eq.trans (Eq.trans (r_go (act := oS (fSt 3 (gC (.int 0)))) rfl rfl) (a_C)) ?_
  refine Eq.trans (Eq.trans (r_go (act := oS (fIst 5 4)) rfl rfl) (a_ist rfl rfl)) ?_
  exact r_cut rfl rfl
theorem x_X10_shareOfMillion_0 (g : zg) (a1 : Int32) (M : zM) : X_X10_shareOfMillion g [.ref 6, .int a1] M = zX (t_X10_shareOfMillion g) 5 [some (.ref 6), some (.int a1), some (.long 0), none, some (.int 0)] [] M := e_X10_shareOfMillion_0 g a1 M
set_option maxRecDepth 20000 in
theorem e_X10_shareOfMillion_5 (g : zg) (a1 : Int32) (a2 : Int64) (a4 : Int32) (M : zM) : zX (t_X10_shareOfMillion g) 5 [some (.ref 6), some (.int a1), some (.long a2), none, some (.int a4)] [] M = (bif cLt a4 5 then (bif zb a4 5 then zX (t_X10_shareOfMillion g) 5 [some (.ref 6), some (.int a1), some (.long (a2 + (M.2 39 (zx a4)))), none, some (.int (a4 + 1))] [] M else none) else (bif cGt0 (lg_cmp a2 0) then (zbI (X_X11_within g [.int a1, .int 0, .int 4] M) (fun x1 M1 => (bif cEq0 x1 then some (some (.int 0), M1) else (bif zb a1 5 then (bif !decide (a2 = 0) then some (some (.int ((((M1.2 39 (zx a1)) * 1000000) / a2).toInt32)), M1) else none) else none)))) else some (some (.int 0), M))) := by
  refine Eq.trans (zX_rgN (tl_X10_shareOfMillion g) (hc_X10_shareOfMillion g) 24 _ _ _ _) ?_
  refine Eq.trans (Eq.trans (Eq.trans (r_0 (act := oF [] (oS (fIld 7 4))) rfl) (a_F rfl)) (a_ild rfl)) ?_
  refine Eq.trans (Eq.trans (r_go (act := oS (fSt 8 (gC (.int 5)))) rfl rfl) (a_C)) ?_
  refine Eq.trans (Eq.trans (r_go (act := oS (fCm 11 27 cLt)) rfl rfl) (a_cm)) (bcg ?_ ?_)
  · refine Eq.trans (Eq.trans (r_go (act := oS (fLld 12 2)) rfl rfl) (a_lld rfl)) ?_
    refine Eq.trans (Eq.trans (r_go (act := oS (fAld 13 0)) rfl rfl) (a_ald rfl)) ?_
    refine Eq.trans (Eq.trans (r_go (act := oS (fGr g 16 10 7)) rfl rfl) (a_gr (zO_6 g) (zR_6_7 g))) ?_
    refine Eq.trans (Eq.trans (r_go (act := oS (fIld 18 4)) rfl rfl) (a_ild rfl)) ?_
    refine Eq.trans (Eq.trans (r_go (act := oS (fLa g 19)) rfl rfl) (a_la (zA_39 g) zS_39)) (bcg ?_ rfl)
    refine Eq.trans (Eq.trans (r_go (act := oS (fSt 20 (gL2 (fun x y => x + y)))) rfl rfl) (a_ladd)) ?_
    refine Eq.trans (Eq.trans (r_go (act := oS (fLst 21 2)) rfl rfl) (a_lst rfl rfl)) ?_
    refine Eq.trans (Eq.trans (r_go (act := oS (fInc 24 4 1)) rfl rfl) (a_inc rfl rfl rfl)) ?_
    refine Eq.trans (Eq.trans (r_go (act := oS (fGo 5)) rfl rfl) (a_goto)) ?_
    exact r_cut rfl rfl
  · refine Eq.trans (Eq.trans (r_go (act := oS (fLld 28 2)) rfl rfl) (a_lld rfl)) ?_
    refine Eq.trans (Eq.trans (r_go (act := oS (fSt 29 (gC (.long 0)))) rfl rfl) (a_C)) ?_
    refine Eq.trans (Eq.trans (r_go (act := oS (fSt 30 gLcmp)) rfl rfl) (a_lcmp)) ?_
    refine Eq.trans (Eq.trans (r_go (act := oS (fIf 33 58 cGt0)) rfl rfl) (a_if)) (bcg ?_ ?_)
    · refine Eq.trans (Eq.trans (r_go (act := oS (fIld 34 1)) rfl rfl) (a_ild rfl)) ?_
      refine Eq.trans (Eq.trans (r_go (act := oS (fSt 35 (gC (.int 0)))) rfl rfl) (a_C)) ?_
      refine Eq.trans (Eq.trans (r_go (act := oS (fSt 36 (gC (.int 4)))) rfl rfl) (a_C)) ?_
      refine Eq.trans (Eq.trans (r_go (act := oCI 39 3 zcs (X_X11_within g)) rfl rfl) (a_cI rfl rfl)) (zbI_cg (fun x1 M1 => ?_))
      refine Eq.trans (Eq.trans (r_go (act := oS (fIf 58 42 cEq0)) rfl rfl) (a_if)) (bcg ?_ ?_)
      · refine Eq.trans (Eq.trans (r_go (act := oS (fSt 59 (gC (.int 0)))) rfl rfl) (a_C)) ?_
        exact Eq.trans (r_go (act := oIret) rfl rfl) (a_iret)
      · refine Eq.trans (Eq.trans (r_go (act := oS (fAld 43 0)) rfl rfl) (a_ald rfl)) ?_
        refine Eq.trans (Eq.trans (r_go (act := oS (fGr g 46 10 7)) rfl rfl) (a_gr (zO_6 g) (zR_6_7 g))) ?_
        refine Eq.trans (Eq.trans (r_go (act := oS (fIld 47 1)) rfl rfl) (a_ild rfl)) ?_
        refine Eq.trans (Eq.trans (r_go (act := oS (fLa g 48)) rfl rfl) (a_la (zA_39 g) zS_39)) (bcg ?_ rfl)
        refine Eq.trans (Eq.trans (r_go (act := oS (fSt 51 (gC (.long 1000000)))) rfl rfl) (a_C)) ?_
        refine Eq.trans (Eq.trans (r_go (act := oS (fSt 52 (gL2 (fun x y => x * y)))) rfl rfl) (a_lmul)) ?_
        refine Eq.trans (Eq.trans (r_go (act := oS (fLld 53 2)) rfl rfl) (a_lld rfl)) ?_
        refine Eq.trans (Eq.trans (r_go (act := oS (fLdiv 54)) rfl rfl) (a_ldv)) (bcg ?_ rfl)
        refine Eq.trans (Eq.trans (r_go (act := oS (fSt 55 gL2i)) rfl rfl) (a_l2i)) ?_
        refine Eq.trans (Eq.trans (r_go (act := oS (fGo 59)) rfl rfl) (a_goto)) ?_
        exact Eq.trans (r_go (act := oIret) rfl rfl) (a_iret)
    · refine Eq.trans (Eq.trans (r_go (act := oS (fSt 59 (gC (.int 0)))) rfl rfl) (a_C)) ?_
      exact Eq.trans (r_go (act := oIret) rfl rfl) (a_iret)
set_option maxRecDepth 20000 in
theorem e_X11_likely_0 (g : zg) (a1 : Int32) (M : zM) : zX (t_X11_likely g) 0 [some (.ref 0), some (.int a1)] [] M = (zbI (X_X11_within g [.int a1, .int (-1), .int 4] M) (fun x1 M1 => (bif cEq0 x1 then some (some (.int (-1)), M1) else (zbI (X_X10_weighKinds g [.ref 6] M1) (fun x2 M2 => (bif cEq0 x2 then some (some (.int (-1)), M2) else (bif cEq a1 (-1) then (zbI (X_X10_heaviestKind g [.ref 6] M2) (fun x3 M3 => some (some (.int x3), M3))) else (zbI (X_X10_shareOfMillion g [.ref 6, .int a1] M2) (fun x4 M4 => some (some (.int x4), M4)))))))))) := by
  refine Eq.trans (zX_rgN (tl_X11_likely g) (hc_X11_likely g) 18 _ _ _ _) ?_
  refine Eq.trans (Eq.trans (r_0 (act := oS (fIld 1 1)) rfl) (a_ild rfl)) ?_
  refine Eq.trans (Eq.trans (r_go (act := oS (fSt 2 (gC (.int (-1))))) rfl rfl) (a_C)) ?_
  refine Eq.trans (Eq.trans (r_go (act := oS (fSt 3 (gC (.int 4)))) rfl rfl) (a_C)) ?_
  refine Eq.trans (Eq.trans (r_go (act := oCI 6 3 zcs (X_X11_within g)) rfl rfl) (a_cI rfl rfl)) (zbI_cg (fun x1 M1 => ?_))
  refine Eq.trans (Eq.trans (r_go (act := oS (fIf 19 9 cEq0)) rfl rfl) (a_if)) (bcg ?_ ?_)
  · refine Eq.trans (Eq.trans (r_go (act := oS (fSt 20 (gC (.int (-1))))) rfl rfl) (a_C)) ?_
    exact Eq.trans (r_go (act := oIret) rfl rfl) (a_iret)
  · refine Eq.trans (Eq.trans (r_go (act := oS (fAld 10 0)) rfl rfl) (a_ald rfl)) ?_
    refine Eq.trans (Eq.trans (r_go (act := oS (fGr g 13 11 1)) rfl rfl) (a_gr (zO_0 g) (zR_0_1 g))) ?_
    refine Eq.trans (Eq.trans (r_go (act := oCI 16 1 (zcv g 10) (X_X10_weighKinds g)) rfl rfl) (a_cI rfl (zck (zO_6 g) rfl))) (zbI_cg (fun x2 M2 => ?_))
    refine Eq.trans (Eq.trans (r_go (act := oS (fIf 19 21 cEq0)) rfl rfl) (a_if)) (bcg ?_ ?_)
    · refine Eq.trans (Eq.trans (r_go (act := oS (fSt 20 (gC (.int (-1))))) rfl rfl) (a_C)) ?_
      exact Eq.trans (r_go (act := oIret) rfl rfl) (a_iret)
    · refine Eq.trans (Eq.trans (r_go (act := oS (fIld 22 1)) rfl rfl) (a_ild rfl)) ?_
      refine Eq.trans (Eq.trans (r_go (act := oS (fSt 23 (gC (.int (-1))))) rfl rfl) (a_C)) ?_
      refine Eq.trans (Eq.trans (r_go (act := oS (fCm 26 36 cEq)) rfl rfl) (a_cm)) (bcg ?_ ?_)
      · refine Eq.trans (Eq.trans (r_go (act := oS (fAld 27 0)) rfl rfl) (a_ald rfl)) ?_
        refine Eq.trans (Eq.trans (r_go (act := oS (fGr g 30 11 1)) rfl rfl) (a_gr (zO_0 g) (zR_0_1 g))) ?_
        refine Eq.trans (Eq.trans (r_go (act := oCI 33 1 (zcv g 10) (X_X10_heaviestKind g)) rfl rfl) (a_cI rfl (zck (zO_6 g) rfl))) (zbI_cg (fun x3 M3 => ?_))
        refine Eq.trans (Eq.trans (r_go (act := oS (fGo 44)) rfl rfl) (a_goto)) ?_
        exact Eq.trans (r_go (act := oIret) rfl rfl) (a_iret)
      · refine Eq.trans (Eq.trans (r_go (act := oS (fAld 37 0)) rfl rfl) (a_ald rfl)) ?_
        refine Eq.trans (Eq.trans (r_go (act := oS (fGr g 40 11 1)) rfl rfl) (a_gr (zO_0 g) (zR_0_1 g))) ?_
        refine Eq.trans (Eq.trans (r_go (act := oS (fIld 41 1)) rfl rfl) (a_ild rfl)) ?_
        refine Eq.trans (Eq.trans (r_go (act := oCI 44 2 (zcv g 10) (X_X10_shareOfMillion g)) rfl rfl) (a_cI rfl (zck (zO_6 g) rfl))) (zbI_cg (fun x4 M4 => ?_))
        exact Eq.trans (r_go (act := oIret) rfl rfl) (a_iret)
theorem x_X11_likely_0 (g : zg) (a1 : Int32) (M : zM) : X_X11_likely g [.ref 0, .int a1] M = (zbI (X_X11_within g [.int a1, .int (-1), .int 4] M) (fun x1 M1 => (bif cEq0 x1 then some (some (.int (-1)), M1) else (zbI (X_X10_weighKinds g [.ref 6] M1) (fun x2 M2 => (bif cEq0 x2 then some (some (.int (-1)), M2) else (bif cEq a1 (-1) then (zbI (X_X10_heaviestKind g [.ref 6] M2) (fun x3 M3 => some (some (.int x3), M3))) else (zbI (X_X10_shareOfMillion g [.ref 6, .int a1] M2) (fun x4 M4 => some (some (.int x4), M4)))))))))) := e_X11_likely_0 g a1 M
set_option maxRecDepth 20000 in
theorem e_X5_looksGlued_0 (g : zg) (a2 : Int32) (M : zM) : zX (t_X5_looksGlued g) 0 [some (.ref 27), some (.ref 7), some (.int a2), none, none, none, none, none, none, none] [] M = zX (t_X5_looksGlued g) 14 [some (.ref 27), some (.ref 7), some (.int a2), some (.int 0), some (.int (-1)), some (.int (-1)), some (.int 0), some (.int 0), none, none] [] M := by
  refine Eq.trans (zX_rgN (tl_X5_looksGlued g) (hc_X5_looksGlued g) 12 _ _ _ _) ?_
  refine Eq.trans (Eq.trans (r_0 (act := oS (fSt 1 (gC (.int 0)))) rfl) (a_C)) ?_
  refine Eq.trans (Eq.trans (r_go (act := oS (fIst 2 3)) rfl rfl) (a_ist rfl rfl)) ?_
  refine Eq.trans (Eq.trans (r_go (act := oS (fSt 3 (gC (.int (-1))))) rfl rfl) (a_C)) ?_
  refine Eq.trans (Eq.trans (r_go (act := oS (fIst 5 4)) rfl rfl) (a_ist rfl rfl)) ?_
  refine Eq.trans (Eq.trans (r_go (act := oS (fSt 6 (gC (.int (-1))))) rfl rfl) (a_C)) ?_
  refine Eq.trans (Eq.trans (r_go (act := oS (fIst 8 5)) rfl rfl) (a_ist rfl rfl)) ?_
  refine Eq.trans (Eq.trans (r_go (act := oS (fSt 9 (gC (.int 0)))) rfl rfl) (a_C)) ?_
  refine Eq.trans (Eq.trans (r_go (act := oS (fIst 11 6)) rfl rfl) (a_ist rfl rfl)) ?_
  refine Eq.trans (Eq.trans (r_go (act := oS (fSt 12 (gC (.int 0)))) rfl rfl) (a_C)) ?_
  refine Eq.trans (Eq.trans (r_go (act := oS (fIst 14 7)) rfl rfl) (a_ist rfl rfl)) ?_
  exact r_cut rfl rfl
theorem x_X5_looksGlued_0 (g : zg) (a2 : Int32) (M : zM) : X_X5_looksGlued g [.ref 27, .ref 7, .int a2] M = zX (t_X5_looksGlued g) 14 [some (.ref 27), some (.ref 7), some (.int a2), some (.int 0), some (.int (-1)), some (.int (-1)), some (.int 0), some (.int 0), none, none] [] M := e_X5_looksGlued_0 g a2 M
set_option maxRecDepth 20000 in
theorem e_X5_looksGlued_14 (g : zg) (a2 : Int32) (a3 : Int32) (a4 : Int32) (a5 : Int32) (a6 : Int32) (a7 : Int32) (M : zM) : zX (t_X5_looksGlued g) 14 [some (.ref 27), some (.ref 7), some (.int a2), some (.int a3), some (.int a4), some (.int a5), some (.int a6), some (.int a7), none, none] [] M = (zbI (X_X5_kept g [.ref 7] M) (fun x1 M1 => (bif cLt a7 x1 then (zbI (X_X5_slotOf g [.ref 7, .int a7] M1) (fun x2 M2 => (zbI (X_X5_saidIn g [.ref 27, .int x2, .int a2] M2) (fun x3 M3 => (bif cEq x3 (-1) then zX (t_X5_looksGlued g) 14 [some (.ref 27), some (.ref 7), some (.int a2), some (.int a3), some (.int a4), some (.int a5), some (.int a6), some (.int (a7 + 1)), none, none] [] M3 else (bif cGt0 a3 then (bif cEq x3 a4 then zX (t_X5_looksGlued g) 62 [some (.ref 27), some (.ref 7), some (.int a2), some (.int a3), none, some (.int a5), some (.int a6), some (.int a7), some (.int x2), some (.int x3)] [] M3 else some (some (.int 0), M3)) else zX (t_X5_looksGlued g) 62 [some (.ref 27), some (.ref 7), some (.int a2), some (.int a3), none, some (.int a5), some (.int a6), some (.int a7), some (.int x2), some (.int x3)] [] M3)))))) else (bif cEq0 a6 then some (some (.int 0), M1) else (bif cLt a3 3 then some (some (.int 0), M1) else some (some (.int 1), M1)))))) := by
  refine Eq.trans (zX_rgN (tl_X5_looksGlued g) (hc_X5_looksGlued g) 24 _ _ _ _) ?_
  refine Eq.trans (Eq.trans (Eq.trans (r_0 (act := oF [8, 9] (oS (fIld 16 7))) rfl) (a_F rfl)) (a_ild rfl)) ?_
  refine Eq.trans (Eq.trans (r_go (act := oS (fAld 17 1)) rfl rfl) (a_ald rfl)) ?_
  refine Eq.trans (Eq.trans (r_go (act := oCI 20 1 zcs (X_X5_kept g)) rfl rfl) (a_cI rfl rfl)) (zbI_cg (fun x1 M1 => ?_))
  refine Eq.trans (Eq.trans (r_go (act := oS (fCm 23 103 cLt)) rfl rfl) (a_cm)) (bcg ?_ ?_)
  · refine Eq.trans (Eq.trans (r_go (act := oS (fAld 24 1)) rfl rfl) (a_ald rfl)) ?_
    refine Eq.trans (Eq.trans (r_go (act := oS (fIld 26 7)) rfl rfl) (a_ild rfl)) ?_
    refine Eq.trans (Eq.trans (r_go (act := oCI 29 2 zcs (X_X5_slotOf g)) rfl rfl) (a_cI rfl rfl)) (zbI_cg (fun x2 M2 => ?_))
    refine Eq.trans (Eq.trans (r_go (act := oS (fIst 31 8)) rfl rfl) (a_ist rfl rfl)) ?_
    refine Eq.trans (Eq.trans (r_go (act := oS (fAld 32 0)) rfl rfl) (a_ald rfl)) ?_
    refine Eq.trans (Eq.trans (r_go (act := oS (fIld 34 8)) rfl rfl) (a_ild rfl)) ?_
    refine Eq.trans (Eq.trans (r_go (act := oS (fIld 35 2)) rfl rfl) (a_ild rfl)) ?_
    refine Eq.trans (Eq.trans (r_go (act := oCI 38 3 (zcv g 5) (X_X5_saidIn g)) rfl rfl) (a_cI rfl (zck (zO_27 g) rfl))) (zbI_cg (fun x3 M3 => ?_))
    refine Eq.trans (Eq.trans (r_go (act := oS (fIst 40 9)) rfl rfl) (a_ist rfl rfl)) ?_
    refine Eq.trans (Eq.trans (r_go (act := oS (fIld 42 9)) rfl rfl) (a_ild rfl)) ?_
    refine Eq.trans (Eq.trans (r_go (act := oS (fSt 43 (gC (.int (-1))))) rfl rfl) (a_C)) ?_
    refine Eq.trans (Eq.trans (r_go (act := oS (fCm 46 49 cEq)) rfl rfl) (a_cm)) (bcg ?_ ?_)
    · refine Eq.trans (Eq.trans (r_go (act := oS (fGo 97)) rfl rfl) (a_goto)) ?_
      refine Eq.trans (Eq.trans (r_go (act := oS (fInc 100 7 1)) rfl rfl) (a_inc rfl rfl rfl)) ?_
      refine Eq.trans (Eq.trans (r_go (act := oS (fGo 14)) rfl rfl) (a_goto)) ?_
      exact r_cut rfl rfl
    · refine Eq.trans (Eq.trans (r_go (act := oS (fIld 50 3)) rfl rfl) (a_ild rfl)) ?_
      refine Eq.trans (Eq.trans (r_go (act := oS (fIf 53 62 cGt0)) rfl rfl) (a_if)) (bcg ?_ ?_)
      · refine Eq.trans (Eq.trans (r_go (act := oS (fIld 55 9)) rfl rfl) (a_ild rfl)) ?_
        refine Eq.trans (Eq.trans (r_go (act := oS (fIld 57 4)) rfl rfl) (a_ild rfl)) ?_
        refine Eq.trans (Eq.trans (r_go (act := oS (fCm 62 60 cEq)) rfl rfl) (a_cm)) (bcg ?_ ?_)
        · exact r_cut rfl rfl
        · refine Eq.trans (Eq.trans (r_go (act := oS (fSt 61 (gC (.int 0)))) rfl rfl) (a_C)) ?_
          exact Eq.trans (Eq.trans (r_go (act := oZret) rfl rfl) a_zret) (bcT (by decide +kernel))
      · exact r_cut rfl rfl
  · refine Eq.trans (Eq.trans (r_go (act := oS (fIld 105 6)) rfl rfl) (a_ild rfl)) ?_
    refine Eq.trans (Eq.trans (r_go (act := oS (fIf 117 108 cEq0)) rfl rfl) (a_if)) (bcg ?_ ?_)
    · refine Eq.trans (Eq.trans (r_go (act := oS (fSt 118 (gC (.int 0)))) rfl rfl) (a_C)) ?_
      exact Eq.trans (Eq.trans (r_go (act := oZret) rfl rfl) a_zret) (bcT (by decide +kernel))
    · refine Eq.trans (Eq.trans (r_go (act := oS (fIld 109 3)) rfl rfl) (a_ild rfl)) ?_
      refine Eq.trans (Eq.trans (r_go (act := oS (fSt 110 (gC (.int 3)))) rfl rfl) (a_C)) ?_
      refine Eq.trans (Eq.trans (r_go (act := oS (fCm 117 113 cLt)) rfl rfl) (a_cm)) (bcg ?_ ?_)
      · refine Eq.trans (Eq.trans (r_go (act := oS (fSt 118 (gC (.int 0)))) rfl rfl) (a_C)) ?_
        exact Eq.trans (Eq.trans (r_go (act := oZret) rfl rfl) a_zret) (bcT (by decide +kernel))
      · refine Eq.trans (Eq.trans (r_go (act := oS (fSt 114 (gC (.int 1)))) rfl rfl) (a_C)) ?_
        refine Eq.trans (Eq.trans (r_go (act := oS (fGo 118)) rfl rfl) (a_goto)) ?_
        exact Eq.trans (Eq.trans (r_go (act := oZret) rfl rfl) a_zret) (bcT (by decide +kernel))
set_option maxRecDepth 20000 in
theorem e_X5_looksGlued_62 (g : zg) (a2 : Int32) (a3 : Int32) (a5 : Int32) (a6 : Int32) (a7 : Int32) (a8 : Int32) (a9 : Int32) (M : zM) : zX (t_X5_looksGlued g) 62 [some (.ref 27), some (.ref 7), some (.int a2), some (.int a3), none, some (.int a5), some (.int a6), some (.int a7), some (.int a8), some (.int a9)] [] M = (bif cGt0 a3 then (bif zb a8 96 then (bif cEq (M.1 28 (zx a8)) a5 then (bif zb a8 96 then zX (t_X5_looksGlued g) 14 [some (.ref 27), some (.ref 7), some (.int a2), some (.int (a3 + 1)), some (.int a9), some (.int (M.1 28 (zx a8))), some (.int a6), some (.int (a7 + 1)), none, none] [] M else none) else (bif zb a8 96 then zX (t_X5_looksGlued g) 14 [some (.ref 27), some (.ref 7), some (.int a2), some (.int (a3 + 1)), some (.int a9), some (.int (M.1 28 (zx a8))), some (.int 1), some (.int (a7 + 1)), none, none] [] M else none)) else none) else (bif zb a8 96 then zX (t_X5_looksGlued g) 14 [some (.ref 27), some (.ref 7), some (.int a2), some (.int (a3 + 1)), some (.int a9), some (.int (M.1 28 (zx a8))), some (.int a6), some (.int (a7 + 1)), none, none] [] M else none)) := by
  refine Eq.trans (zX_rgN (tl_X5_looksGlued g) (hc_X5_looksGlued g) 22 _ _ _ _) ?_
  refine Eq.trans (Eq.trans (Eq.trans (r_0 (act := oF [4] (oS (fIld 63 3))) rfl) (a_F rfl)) (a_ild rfl)) ?_
  refine Eq.trans (Eq.trans (r_go (act := oS (fIf 66 81 cGt0)) rfl rfl) (a_if)) (bcg ?_ ?_)
  · refine Eq.trans (Eq.trans (r_go (act := oS (fAld 67 0)) rfl rfl) (a_ald rfl)) ?_
    refine Eq.trans (Eq.trans (r_go (act := oS (fGr g 70 5 0)) rfl rfl) (a_gr (zO_27 g) (zR_27_0 g))) ?_
    refine Eq.trans (Eq.trans (r_go (act := oS (fIld 72 8)) rfl rfl) (a_ild rfl)) ?_
    refine Eq.trans (Eq.trans (r_go (act := oS (fIa g 73)) rfl rfl) (a_ia (zA_28 g) zS_28)) (bcg ?_ rfl)
    refine Eq.trans (Eq.trans (r_go (act := oS (fIld 75 5)) rfl rfl) (a_ild rfl)) ?_
    refine Eq.trans (Eq.trans (r_go (act := oS (fCm 81 78 cEq)) rfl rfl) (a_cm)) (bcg ?_ ?_)
    · refine Eq.trans (Eq.trans (r_go (act := oS (fIld 83 9)) rfl rfl) (a_ild rfl)) ?_
      refine Eq.trans (Eq.trans (r_go (act := oS (fIst 85 4)) rfl rfl) (a_ist rfl rfl)) ?_
      refine Eq.trans (Eq.trans (r_go (act := oS (fAld 86 0)) rfl rfl) (a_ald rfl)) ?_
      refine Eq.trans (Eq.trans (r_go (act := oS (fGr g 89 5 0)) rfl rfl) (a_gr (zO_27 g) (zR_27_0 g))) ?_
      refine Eq.trans (Eq.trans (r_go (act := oS (fIld 91 8)) rfl rfl) (a_ild rfl)) ?_
      refine Eq.trans (Eq.trans (r_go (act := oS (fIa g 92)) rfl rfl) (a_ia (zA_28 g) zS_28)) (bcg ?_ rfl)
      refine Eq.trans (Eq.trans (r_go (act := oS (fIst 94 5)) rfl rfl) (a_ist rfl rfl)) ?_
      refine Eq.trans (Eq.trans (r_go (act := oS (fInc 97 3 1)) rfl rfl) (a_inc rfl rfl rfl)) ?_
      refine Eq.trans (Eq.trans (r_go (act := oS (fInc 100 7 1)) rfl rfl) (a_inc rfl rfl rfl)) ?_
      refine Eq.trans (Eq.trans (r_go (act := oS (fGo 14)) rfl rfl) (a_goto)) ?_
      exact r_cut rfl rfl
    · refine Eq.trans (Eq.trans (r_go (act := oS (fSt 79 (gC (.int 1)))) rfl rfl) (a_C)) ?_
      refine Eq.trans (Eq.trans (r_go (act := oS (fIst 81 6)) rfl rfl) (a_ist rfl rfl)) ?_
      refine Eq.trans (Eq.trans (r_go (act := oS (fIld 83 9)) rfl rfl) (a_ild rfl)) ?_
      refine Eq.trans (Eq.trans (r_go (act := oS (fIst 85 4)) rfl rfl) (a_ist rfl rfl)) ?_
      refine Eq.trans (Eq.trans (r_go (act := oS (fAld 86 0)) rfl rfl) (a_ald rfl)) ?_
      refine Eq.trans (Eq.trans (r_go (act := oS (fGr g 89 5 0)) rfl rfl) (a_gr (zO_27 g) (zR_27_0 g))) ?_
      refine Eq.trans (Eq.trans (r_go (act := oS (fIld 91 8)) rfl rfl) (a_ild rfl)) ?_
      refine Eq.trans (Eq.trans (r_go (act := oS (fIa g 92)) rfl rfl) (a_ia (zA_28 g) zS_28)) (bcg ?_ rfl)
      refine Eq.trans (Eq.trans (r_go (act := oS (fIst 94 5)) rfl rfl) (a_ist rfl rfl)) ?_
      refine Eq.trans (Eq.trans (r_go (act := oS (fInc 97 3 1)) rfl rfl) (a_inc rfl rfl rfl)) ?_
      refine Eq.trans (Eq.trans (r_go (act := oS (fInc 100 7 1)) rfl rfl) (a_inc rfl rfl rfl)) ?_
      refine Eq.trans (Eq.trans (r_go (act := oS (fGo 14)) rfl rfl) (a_goto)) ?_
      exact r_cut rfl rfl
  · refine Eq.trans (Eq.trans (r_go (act := oS (fIld 83 9)) rfl rfl) (a_ild rfl)) ?_
    refine Eq.trans (Eq.trans (r_go (act := oS (fIst 85 4)) rfl rfl) (a_ist rfl rfl)) ?_
    refine Eq.trans (Eq.trans (r_go (act := oS (fAld 86 0)) rfl rfl) (a_ald rfl)) ?_
    refine Eq.trans (Eq.trans (r_go (act := oS (fGr g 89 5 0)) rfl rfl) (a_gr (zO_27 g) (zR_27_0 g))) ?_
    refine Eq.trans (Eq.trans (r_go (act := oS (fIld 91 8)) rfl rfl) (a_ild rfl)) ?_
    refine Eq.trans (Eq.trans (r_go (act := oS (fIa g 92)) rfl rfl) (a_ia (zA_28 g) zS_28)) (bcg ?_ rfl)
    refine Eq.trans (Eq.trans (r_go (act := oS (fIst 94 5)) rfl rfl) (a_ist rfl rfl)) ?_
    refine Eq.trans (Eq.trans (r_go (act := oS (fInc 97 3 1)) rfl rfl) (a_inc rfl rfl rfl)) ?_
    refine Eq.trans (Eq.trans (r_go (act := oS (fInc 100 7 1)) rfl rfl) (a_inc rfl rfl rfl)) ?_
    refine Eq.trans (Eq.trans (r_go (act := oS (fGo 14)) rfl rfl) (a_goto)) ?_
    exact r_cut rfl rfl
set_option maxRecDepth 20000 in
theorem e_X11_glued_0 (g : zg) (M : zM) : zX (t_X11_glued g) 0 [some (.ref 0), none, none] [] M = zX (t_X11_glued g) 4 [some (.ref 0), some (.int 0), some (.int 0)] [] M := by
  refine Eq.trans (zX_rgN (tl_X11_glued g) (hc_X11_glued g) 6 _ _ _ _) ?_
  refine Eq.trans (Eq.trans (r_0 (act := oS (fSt 1 (gC (.int 0)))) rfl) (a_C)) ?_
  refine Eq.trans (Eq.trans (r_go (act := oS (fIst 2 1)) rfl rfl) (a_ist rfl rfl)) ?_
  refine Eq.trans (Eq.trans (r_go (act := oS (fSt 3 (gC (.int 0)))) rfl rfl) (a_C)) ?_
  refine Eq.trans (Eq.trans (r_go (act := oS (fIst 4 2)) rfl rfl) (a_ist rfl rfl)) ?_
  exact r_cut rfl rfl
theorem x_X11_glued_0 (g : zg) (M : zM) : X_X11_glued g [.ref 0] M = zX (t_X11_glued g) 4 [some (.ref 0), some (.int 0), some (.int 0)] [] M := e_X11_glued_0 g M
set_option maxRecDepth 20000 in
theorem e_X11_glued_4 (g : zg) (a1 : Int32) (a2 : Int32) (M : zM) : zX (t_X11_glued g) 4 [some (.ref 0), some (.int a1), some (.int a2)] [] M = (bif cLt a2 (M.1 7 2) then (zbI (X_X5_looksGlued g [.ref 27, .ref 7, .int a2] M) (fun x1 M1 => (bif cEq0 x1 then zX (t_X11_glued g) 4 [some (.ref 0), some (.int a1), some (.int (a2 + 1))] [] M1 else zX (t_X11_glued g) 4 [some (.ref 0), some (.int (a1 ||| ((1 : Int32) <<< (a2 &&& 31)))), some (.int (a2 + 1))] [] M1))) else some (some (.int a1), M)) := by
  refine Eq.trans (zX_rgN (tl_X11_glued g) (hc_X11_glued g) 25 _ _ _ _) ?_
  refine Eq.trans (Eq.trans (Eq.trans (r_0 (act := oF [] (oS (fIld 5 2))) rfl) (a_F rfl)) (a_ild rfl)) ?_
  refine Eq.trans (Eq.trans (r_go (act := oS (fAld 6 0)) rfl rfl) (a_ald rfl)) ?_
  refine Eq.trans (Eq.trans (r_go (act := oS (fGr g 9 11 1)) rfl rfl) (a_gr (zO_0 g) (zR_0_1 g))) ?_
  refine Eq.trans (Eq.trans (r_go (act := oS (fGr g 12 10 0)) rfl rfl) (a_gr (zO_6 g) (zR_6_0 g))) ?_
  refine Eq.trans (Eq.trans (r_go (act := oS (fGi g 15 3 2)) rfl rfl) (a_gi (zO_7 g))) ?_
  refine Eq.trans (Eq.trans (r_go (act := oS (fCm 18 51 cLt)) rfl rfl) (a_cm)) (bcg ?_ ?_)
  · refine Eq.trans (Eq.trans (r_go (act := oS (fAld 19 0)) rfl rfl) (a_ald rfl)) ?_
    refine Eq.trans (Eq.trans (r_go (act := oS (fGr g 22 11 1)) rfl rfl) (a_gr (zO_0 g) (zR_0_1 g))) ?_
    refine Eq.trans (Eq.trans (r_go (act := oS (fGr g 25 10 5)) rfl rfl) (a_gr (zO_6 g) (zR_6_5 g))) ?_
    refine Eq.trans (Eq.trans (r_go (act := oS (fAld 26 0)) rfl rfl) (a_ald rfl)) ?_
    refine Eq.trans (Eq.trans (r_go (act := oS (fGr g 29 11 1)) rfl rfl) (a_gr (zO_0 g) (zR_0_1 g))) ?_
    refine Eq.trans (Eq.trans (r_go (act := oS (fGr g 32 10 0)) rfl rfl) (a_gr (zO_6 g) (zR_6_0 g))) ?_
    refine Eq.trans (Eq.trans (r_go (act := oS (fIld 33 2)) rfl rfl) (a_ild rfl)) ?_
    refine Eq.trans (Eq.trans (r_go (act := oCI 36 3 (zcv g 5) (X_X5_looksGlued g)) rfl rfl) (a_cI rfl (zck (zO_27 g) rfl))) (zbI_cg (fun x1 M1 => ?_))
    refine Eq.trans (Eq.trans (r_go (act := oS (fIf 45 39 cEq0)) rfl rfl) (a_if)) (bcg ?_ ?_)
    · refine Eq.trans (Eq.trans (r_go (act := oS (fInc 48 2 1)) rfl rfl) (a_inc rfl rfl rfl)) ?_
      refine Eq.trans (Eq.trans (r_go (act := oS (fGo 4)) rfl rfl) (a_goto)) ?_
      exact r_cut rfl rfl
    · refine Eq.trans (Eq.trans (r_go (act := oS (fIld 40 1)) rfl rfl) (a_ild rfl)) ?_
      refine Eq.trans (Eq.trans (r_go (act := oS (fSt 41 (gC (.int 1)))) rfl rfl) (a_C)) ?_
      refine Eq.trans (Eq.trans (r_go (act := oS (fIld 42 2)) rfl rfl) (a_ild rfl)) ?_
      refine Eq.trans (Eq.trans (r_go (act := oS (fSt 43 (g2 (fun x y => x <<< (y &&& 31))))) rfl rfl) (a_shl)) ?_
      refine Eq.trans (Eq.trans (r_go (act := oS (fSt 44 (g2 (fun x y => x ||| y)))) rfl rfl) (a_or)) ?_
      refine Eq.trans (Eq.trans (r_go (act := oS (fIst 45 1)) rfl rfl) (a_ist rfl rfl)) ?_
      refine Eq.trans (Eq.trans (r_go (act := oS (fInc 48 2 1)) rfl rfl) (a_inc rfl rfl rfl)) ?_
      refine Eq.trans (Eq.trans (r_go (act := oS (fGo 4)) rfl rfl) (a_goto)) ?_
      exact r_cut rfl rfl
  · refine Eq.trans (Eq.trans (r_go (act := oS (fIld 52 1)) rfl rfl) (a_ild rfl)) ?_
    exact Eq.trans (r_go (act := oIret) rfl rfl) (a_iret)
set_option maxRecDepth 20000 in
theorem e_X6_addSeen_0 (g : zg) (a1 : Int32) (M : zM) : zX (t_X6_addSeen g) 0 [some (.ref 32), some (.int a1)] [] M = (bif cEq a1 (-1) then some (some (.int 0), ((zu M.1 32 6 0), M.2)) else (zbI (X_X11_within g [.int a1, .int 0, .int 99] M) (fun x1 M1 => (bif cEq0 x1 then some (some (.int (-1)), M1) else (bif cLt (M1.1 32 6) 12 then (bif zb (M1.1 32 6) 12 then some (some (.int ((M1.1 32 6) + 1)), ((zu (zu M1.1 33 (zx (M1.1 32 6)) a1) 32 6 ((M1.1 32 6) + 1)), M1.2)) else none) else some (some (.int (-1)), M1)))))) := by
  refine Eq.trans (zX_rgN (tl_X6_addSeen g) (hc_X6_addSeen g) 28 _ _ _ _) ?_
  refine Eq.trans (Eq.trans (r_0 (act := oS (fIld 1 1)) rfl) (a_ild rfl)) ?_
  refine Eq.trans (Eq.trans (r_go (act := oS (fSt 2 (gC (.int (-1))))) rfl rfl) (a_C)) ?_
  refine Eq.trans (Eq.trans (r_go (act := oS (fCm 5 12 cEq)) rfl rfl) (a_cm)) (bcg ?_ ?_)
  · refine Eq.trans (Eq.trans (r_go (act := oS (fAld 6 0)) rfl rfl) (a_ald rfl)) ?_
    refine Eq.trans (Eq.trans (r_go (act := oS (fSt 7 (gC (.int 0)))) rfl rfl) (a_C)) ?_
    refine Eq.trans (Eq.trans (r_go (act := oS (fPi g 10 6 6)) rfl rfl) (a_pi (zO_32 g))) ?_
    refine Eq.trans (Eq.trans (r_go (act := oS (fSt 11 (gC (.int 0)))) rfl rfl) (a_C)) ?_
    exact Eq.trans (r_go (act := oIret) rfl rfl) (a_iret)
  · refine Eq.trans (Eq.trans (r_go (act := oS (fIld 13 1)) rfl rfl) (a_ild rfl)) ?_
    refine Eq.trans (Eq.trans (r_go (act := oS (fSt 14 (gC (.int 0)))) rfl rfl) (a_C)) ?_
    refine Eq.trans (Eq.trans (r_go (act := oS (fSt 16 (gC (.int 99)))) rfl rfl) (a_C)) ?_
    refine Eq.trans (Eq.trans (r_go (act := oCI 19 3 zcs (X_X11_within g)) rfl rfl) (a_cI rfl rfl)) (zbI_cg (fun x1 M1 => ?_))
    refine Eq.trans (Eq.trans (r_go (act := oS (fIf 31 22 cEq0)) rfl rfl) (a_if)) (bcg ?_ ?_)
    · refine Eq.trans (Eq.trans (r_go (act := oS (fSt 32 (gC (.int (-1))))) rfl rfl) (a_C)) ?_
      exact Eq.trans (r_go (act := oIret) rfl rfl) (a_iret)
    · refine Eq.trans (Eq.trans (r_go (act := oS (fAld 23 0)) rfl rfl) (a_ald rfl)) ?_
      refine Eq.trans (Eq.trans (r_go (act := oS (fGi g 26 6 6)) rfl rfl) (a_gi (zO_32 g))) ?_
      refine Eq.trans (Eq.trans (r_go (act := oS (fSt 28 (gC (.int 12)))) rfl rfl) (a_C)) ?_
      refine Eq.trans (Eq.trans (r_go (act := oS (fCm 33 31 cLt)) rfl rfl) (a_cm)) (bcg ?_ ?_)
      · refine Eq.trans (Eq.trans (r_go (act := oS (fAld 34 0)) rfl rfl) (a_ald rfl)) ?_
        refine Eq.trans (Eq.trans (r_go (act := oS (fGr g 37 6 0)) rfl rfl) (a_gr (zO_32 g) (zR_32_0 g))) ?_
        refine Eq.trans (Eq.trans (r_go (act := oS (fAld 38 0)) rfl rfl) (a_ald rfl)) ?_
        refine Eq.trans (Eq.trans (r_go (act := oS (fGi g 41 6 6)) rfl rfl) (a_gi (zO_32 g))) ?_
        refine Eq.trans (Eq.trans (r_go (act := oS (fIld 42 1)) rfl rfl) (a_ild rfl)) ?_
        refine Eq.trans (Eq.trans (r_go (act := oS (fIs g 43)) rfl rfl) (a_is (zA_33 g) zS_33)) (bcg ?_ rfl)
        refine Eq.trans (Eq.trans (r_go (act := oS (fAld 44 0)) rfl rfl) (a_ald rfl)) ?_
        refine Eq.trans (Eq.trans (r_go (act := oS (fSt 45 gDup)) rfl rfl) (a_dupR)) ?_
        refine Eq.trans (Eq.trans (r_go (act := oS (fGi g 48 6 6)) rfl rfl) (a_giV (zO_32 g) rfl)) ?_
        refine Eq.trans (Eq.trans (r_go (act := oS (fSt 49 (gC (.int 1)))) rfl rfl) (a_C)) ?_
        refine Eq.trans (Eq.trans (r_go (act := oS (fSt 50 (g2 (fun x y => x + y)))) rfl rfl) (a_add)) ?_
        refine Eq.trans (Eq.trans (r_go (act := oS (fPi g 53 6 6)) rfl rfl) (a_pi (zO_32 g))) ?_
        refine Eq.trans (Eq.trans (r_go (act := oS (fAld 54 0)) rfl rfl) (a_ald rfl)) ?_
        refine Eq.trans (Eq.trans (r_go (act := oS (fGi g 57 6 6)) rfl rfl) (a_giV (zO_32 g) rfl)) ?_
        exact Eq.trans (r_go (act := oIret) rfl rfl) (a_iret)
      · refine Eq.trans (Eq.trans (r_go (act := oS (fSt 32 (gC (.int (-1))))) rfl rfl) (a_C)) ?_
        exact Eq.trans (r_go (act := oIret) rfl rfl) (a_iret)
theorem x_X6_addSeen_0 (g : zg) (a1 : Int32) (M : zM) : X_X6_addSeen g [.ref 32, .int a1] M = (bif cEq a1 (-1) then some (some (.int 0), ((zu M.1 32 6 0), M.2)) else (zbI (X_X11_within g [.int a1, .int 0, .int 99] M) (fun x1 M1 => (bif cEq0 x1 then some (some (.int (-1)), M1) else (bif cLt (M1.1 32 6) 12 then (bif zb (M1.1 32 6) 12 then some (some (.int ((M1.1 32 6) + 1)), ((zu (zu M1.1 33 (zx (M1.1 32 6)) a1) 32 6 ((M1.1 32 6) + 1)), M1.2)) else none) else some (some (.int (-1)), M1)))))) := e_X6_addSeen_0 g a1 M
set_option maxRecDepth 20000 in
theorem e_X11_seen_0 (g : zg) (a1 : Int32) (M : zM) : zX (t_X11_seen g) 0 [some (.ref 0), some (.int a1)] [] M = (zbI (X_X6_addSeen g [.ref 32, .int a1] M) (fun x1 M1 => some (some (.int x1), M1))) := by
  refine Eq.trans (zX_rgN (tl_X11_seen g) (hc_X11_seen g) 7 _ _ _ _) ?_
  refine Eq.trans (Eq.trans (r_0 (act := oS (fAld 1 0)) rfl) (a_ald rfl)) ?_
  refine Eq.trans (Eq.trans (r_go (act := oS (fGr g 4 11 1)) rfl rfl) (a_gr (zO_0 g) (zR_0_1 g))) ?_
  refine Eq.trans (Eq.trans (r_go (act := oS (fGr g 7 10 6)) rfl rfl) (a_gr (zO_6 g) (zR_6_6 g))) ?_
  refine Eq.trans (Eq.trans (r_go (act := oS (fIld 8 1)) rfl rfl) (a_ild rfl)) ?_
  refine Eq.trans (Eq.trans (r_go (act := oCI 11 2 (zcv g 6) (X_X6_addSeen g)) rfl rfl) (a_cI rfl (zck (zO_32 g) rfl))) (zbI_cg (fun x1 M1 => ?_))
  exact Eq.trans (r_go (act := oIret) rfl rfl) (a_iret)
theorem x_X11_seen_0 (g : zg) (a1 : Int32) (M : zM) : X_X11_seen g [.ref 0, .int a1] M = (zbI (X_X6_addSeen g [.ref 32, .int a1] M) (fun x1 M1 => some (some (.int x1), M1))) := e_X11_seen_0 g a1 M
set_option maxRecDepth 20000 in
theorem e_X6_repeatsAfter_0 (g : zg) (a1 : Int32) (M : zM) : zX (t_X6_repeatsAfter g) 0 [some (.ref 32), some (.int a1), none] [] M = zX (t_X6_repeatsAfter g) 2 [some (.ref 32), some (.int a1), some (.int a1)] [] M := by
  refine Eq.trans (zX_rgN (tl_X6_repeatsAfter g) (hc_X6_repeatsAfter g) 4 _ _ _ _) ?_
  refine Eq.trans (Eq.trans (r_0 (act := oS (fIld 1 1)) rfl) (a_ild rfl)) ?_
  refine Eq.trans (Eq.trans (r_go (act := oS (fIst 2 2)) rfl rfl) (a_ist rfl rfl)) ?_
  exact r_cut rfl rfl
theorem x_X6_repeatsAfter_0 (g : zg) (a1 : Int32) (M : zM) : X_X6_repeatsAfter g [.ref 32, .int a1] M = zX (t_X6_repeatsAfter g) 2 [some (.ref 32), some (.int a1), some (.int a1)] [] M := e_X6_repeatsAfter_0 g a1 M
set_option maxRecDepth 20000 in
theorem e_X6_repeatsAfter_2 (g : zg) (a1 : Int32) (a2 : Int32) (M : zM) : zX (t_X6_repeatsAfter g) 2 [some (.ref 32), some (.int a1), some (.int a2)] [] M = (bif cLt a2 (M.1 32 6) then (bif zb a2 12 then (bif zb (a2 - a1) 12 then (bif cEq (M.1 33 (zx a2)) (M.1 33 (zx (a2 - a1))) then zX (t_X6_repeatsAfter g) 2 [some (.ref 32), some (.int a1), some (.int (a2 + 1))] [] M else some (some (.int 0), M)) else none) else none) else some (some (.int 1), M)) := by
  refine Eq.trans (zX_rgN (tl_X6_repeatsAfter g) (hc_X6_repeatsAfter g) 19 _ _ _ _) ?_
  refine Eq.trans (Eq.trans (Eq.trans (r_0 (act := oF [] (oS (fIld 3 2))) rfl) (a_F rfl)) (a_ild rfl)) ?_
  refine Eq.trans (Eq.trans (r_go (act := oS (fAld 4 0)) rfl rfl) (a_ald rfl)) ?_
  refine Eq.trans (Eq.trans (r_go (act := oS (fGi g 7 6 6)) rfl rfl) (a_gi (zO_32 g))) ?_
  refine Eq.trans (Eq.trans (r_go (act := oS (fCm 10 35 cLt)) rfl rfl) (a_cm)) (bcg ?_ ?_)
  · refine Eq.trans (Eq.trans (r_go (act := oS (fAld 11 0)) rfl rfl) (a_ald rfl)) ?_
    refine Eq.trans (Eq.trans (r_go (act := oS (fGr g 14 6 0)) rfl rfl) (a_gr (zO_32 g) (zR_32_0 g))) ?_
    refine Eq.trans (Eq.trans (r_go (act := oS (fIld 15 2)) rfl rfl) (a_ild rfl)) ?_
    refine Eq.trans (Eq.trans (r_go (act := oS (fIa g 16)) rfl rfl) (a_ia (zA_33 g) zS_33)) (bcg ?_ rfl)
    refine Eq.trans (Eq.trans (r_go (act := oS (fAld 17 0)) rfl rfl) (a_ald rfl)) ?_
    refine Eq.trans (Eq.trans (r_go (act := oS (fGr g 20 6 0)) rfl rfl) (a_gr (zO_32 g) (zR_32_0 g))) ?_
    refine Eq.trans (Eq.trans (r_go (act := oS (fIld 21 2)) rfl rfl) (a_ild rfl)) ?_
    refine Eq.trans (Eq.trans (r_go (act := oS (fIld 22 1)) rfl rfl) (a_ild rfl)) ?_
    refine Eq.trans (Eq.trans (r_go (act := oS (fSt 23 (g2 (fun x y => x - y)))) rfl rfl) (a_sub)) ?_
    refine Eq.trans (Eq.trans (r_go (act := oS (fIa g 24)) rfl rfl) (a_ia (zA_33 g) zS_33)) (bcg ?_ rfl)
    refine Eq.trans (Eq.trans (r_go (act := oS (fCm 29 27 cEq)) rfl rfl) (a_cm)) (bcg ?_ ?_)
    · refine Eq.trans (Eq.trans (r_go (act := oS (fInc 32 2 1)) rfl rfl) (a_inc rfl rfl rfl)) ?_
      refine Eq.trans (Eq.trans (r_go (act := oS (fGo 2)) rfl rfl) (a_goto)) ?_
      exact r_cut rfl rfl
    · refine Eq.trans (Eq.trans (r_go (act := oS (fSt 28 (gC (.int 0)))) rfl rfl) (a_C)) ?_
      exact Eq.trans (Eq.trans (r_go (act := oZret) rfl rfl) a_zret) (bcT (by decide +kernel))
  · refine Eq.trans (Eq.trans (r_go (act := oS (fSt 36 (gC (.int 1)))) rfl rfl) (a_C)) ?_
    exact Eq.trans (Eq.trans (r_go (act := oZret) rfl rfl) a_zret) (bcT (by decide +kernel))
set_option maxRecDepth 20000 in
theorem e_X6_period_0 (g : zg) (M : zM) : zX (t_X6_period g) 0 [some (.ref 32), none] [] M = zX (t_X6_period g) 2 [some (.ref 32), some (.int 1)] [] M := by
  refine Eq.trans (zX_rgN (tl_X6_period g) (hc_X6_period g) 4 _ _ _ _) ?_
  refine Eq.trans (Eq.trans (r_0 (act := oS (fSt 1 (gC (.int 1)))) rfl) (a_C)) ?_
  refine Eq.trans (Eq.trans (r_go (act := oS (fIst 2 1)) rfl rfl) (a_ist rfl rfl)) ?_
  exact r_cut rfl rfl
theorem x_X6_period_0 (g : zg) (M : zM) : X_X6_period g [.ref 32] M = zX (t_X6_period g) 2 [some (.ref 32), some (.int 1)] [] M := e_X6_period_0 g M
set_option maxRecDepth 20000 in
theorem e_X6_period_2 (g : zg) (a1 : Int32) (M : zM) : zX (t_X6_period g) 2 [some (.ref 32), some (.int a1)] [] M = (bif cLt a1 (M.1 32 6) then (zbI (X_X6_repeatsAfter g [.ref 32, .int a1] M) (fun x1 M1 => (bif cEq0 x1 then zX (t_X6_period g) 2 [some (.ref 32), some (.int (a1 + 1))] [] M1 else some (some (.int a1), M1)))) else some (some (.int (M.1 32 6)), M)) := by
  refine Eq.trans (zX_rgN (tl_X6_period g) (hc_X6_period g) 12 _ _ _ _) ?_
  refine Eq.trans (Eq.trans (Eq.trans (r_0 (act := oF [] (oS (fIld 3 1))) rfl) (a_F rfl)) (a_ild rfl)) ?_
  refine Eq.trans (Eq.trans (r_go (act := oS (fAld 4 0)) rfl rfl) (a_ald rfl)) ?_
  refine Eq.trans (Eq.trans (r_go (act := oS (fGi g 7 6 6)) rfl rfl) (a_gi (zO_32 g))) ?_
  refine Eq.trans (Eq.trans (r_go (act := oS (fCm 10 26 cLt)) rfl rfl) (a_cm)) (bcg ?_ ?_)
  · refine Eq.trans (Eq.trans (r_go (act := oS (fAld 11 0)) rfl rfl) (a_ald rfl)) ?_
    refine Eq.trans (Eq.trans (r_go (act := oS (fIld 12 1)) rfl rfl) (a_ild rfl)) ?_
    refine Eq.trans (Eq.trans (r_go (act := oCI 15 2 (zcv g 6) (X_X6_repeatsAfter g)) rfl rfl) (a_cI rfl (zck (zO_32 g) rfl))) (zbI_cg (fun x1 M1 => ?_))
    refine Eq.trans (Eq.trans (r_go (act := oS (fIf 20 18 cEq0)) rfl rfl) (a_if)) (bcg ?_ ?_)
    · refine Eq.trans (Eq.trans (r_go (act := oS (fInc 23 1 1)) rfl rfl) (a_inc rfl rfl rfl)) ?_
      refine Eq.trans (Eq.trans (r_go (act := oS (fGo 2)) rfl rfl) (a_goto)) ?_
      exact r_cut rfl rfl
    · refine Eq.trans (Eq.trans (r_go (act := oS (fIld 19 1)) rfl rfl) (a_ild rfl)) ?_
      exact Eq.trans (r_go (act := oIret) rfl rfl) (a_iret)
  · refine Eq.trans (Eq.trans (r_go (act := oS (fAld 27 0)) rfl rfl) (a_ald rfl)) ?_
    refine Eq.trans (Eq.trans (r_go (act := oS (fGi g 30 6 6)) rfl rfl) (a_gi (zO_32 g))) ?_
    exact Eq.trans (r_go (act := oIret) rfl rfl) (a_iret)
set_option maxRecDepth 20000 in
theorem e_X6_seenBehind_0 (g : zg) (a1 : Int32) (M : zM) : zX (t_X6_seenBehind g) 0 [some (.ref 32), some (.int a1), none] [] M = (zbI (X_X6_period g [.ref 32] M) (fun x1 M1 => (bif cGt0 x1 then (zbI (X_J9_floorMod_7cf53 g [.int (((M1.1 32 6) - 1) + a1), .int x1] M1) (fun x2 M2 => (bif zb x2 12 then some (some (.int (M2.1 33 (zx x2))), M2) else none))) else some (some (.int (-1)), M1)))) := by
  refine Eq.trans (zX_rgN (tl_X6_seenBehind g) (hc_X6_seenBehind g) 18 _ _ _ _) ?_
  refine Eq.trans (Eq.trans (r_0 (act := oS (fAld 1 0)) rfl) (a_ald rfl)) ?_
  refine Eq.trans (Eq.trans (r_go (act := oCI 4 1 (zcv g 6) (X_X6_period g)) rfl rfl) (a_cI rfl (zck (zO_32 g) rfl))) (zbI_cg (fun x1 M1 => ?_))
  refine Eq.trans (Eq.trans (r_go (act := oS (fIst 5 2)) rfl rfl) (a_ist rfl rfl)) ?_
  refine Eq.trans (Eq.trans (r_go (act := oS (fIld 6 2)) rfl rfl) (a_ild rfl)) ?_
  refine Eq.trans (Eq.trans (r_go (act := oS (fIf 11 9 cGt0)) rfl rfl) (a_if)) (bcg ?_ ?_)
  · refine Eq.trans (Eq.trans (r_go (act := oS (fAld 12 0)) rfl rfl) (a_ald rfl)) ?_
    refine Eq.trans (Eq.trans (r_go (act := oS (fGr g 15 6 0)) rfl rfl) (a_gr (zO_32 g) (zR_32_0 g))) ?_
    refine Eq.trans (Eq.trans (r_go (act := oS (fAld 16 0)) rfl rfl) (a_ald rfl)) ?_
    refine Eq.trans (Eq.trans (r_go (act := oS (fGi g 19 6 6)) rfl rfl) (a_gi (zO_32 g))) ?_
    refine Eq.trans (Eq.trans (r_go (act := oS (fSt 20 (gC (.int 1)))) rfl rfl) (a_C)) ?_
    refine Eq.trans (Eq.trans (r_go (act := oS (fSt 21 (g2 (fun x y => x - y)))) rfl rfl) (a_sub)) ?_
    refine Eq.trans (Eq.trans (r_go (act := oS (fIld 22 1)) rfl rfl) (a_ild rfl)) ?_
    refine Eq.trans (Eq.trans (r_go (act := oS (fSt 23 (g2 (fun x y => x + y)))) rfl rfl) (a_add)) ?_
    refine Eq.trans (Eq.trans (r_go (act := oS (fIld 24 2)) rfl rfl) (a_ild rfl)) ?_
    refine Eq.trans (Eq.trans (r_go (act := oCI 27 2 zcs (X_J9_floorMod_7cf53 g)) rfl rfl) (a_cI rfl rfl)) (zbI_cg (fun x2 M2 => ?_))
    refine Eq.trans (Eq.trans (r_go (act := oS (fIa g 28)) rfl rfl) (a_ia (zA_33 g) zS_33)) (bcg ?_ rfl)
    exact Eq.trans (r_go (act := oIret) rfl rfl) (a_iret)
  · refine Eq.trans (Eq.trans (r_go (act := oS (fSt 10 (gC (.int (-1))))) rfl rfl) (a_C)) ?_
    exact Eq.trans (r_go (act := oIret) rfl rfl) (a_iret)
theorem x_X6_seenBehind_0 (g : zg) (a1 : Int32) (M : zM) : X_X6_seenBehind g [.ref 32, .int a1] M = (zbI (X_X6_period g [.ref 32] M) (fun x1 M1 => (bif cGt0 x1 then (zbI (X_J9_floorMod_7cf53 g [.int (((M1.1 32 6) - 1) + a1), .int x1] M1) (fun x2 M2 => (bif zb x2 12 then some (some (.int (M2.1 33 (zx x2))), M2) else none))) else some (some (.int (-1)), M1)))) := e_X6_seenBehind_0 g a1 M
set_option maxRecDepth 20000 in
theorem e_X11_round_0 (g : zg) (a1 : Int32) (M : zM) : zX (t_X11_round g) 0 [some (.ref 0), some (.int a1)] [] M = (bif cEq0 (M.1 32 6) then some (some (.int (-1)), M) else (zbI (X_X11_within g [.int a1, .int (-1), .int 99] M) (fun x1 M1 => (bif cEq0 x1 then some (some (.int (-1)), M1) else (bif cEq a1 (-1) then (zbI (X_X6_period g [.ref 32] M1) (fun x2 M2 => some (some (.int x2), M2))) else (zbI (X_X6_seenBehind g [.ref 32, .int a1] M1) (fun x3 M3 => some (some (.int x3), M3)))))))) := by
  refine Eq.trans (zX_rgN (tl_X11_round g) (hc_X11_round g) 20 _ _ _ _) ?_
  refine Eq.trans (Eq.trans (r_0 (act := oS (fAld 1 0)) rfl) (a_ald rfl)) ?_
  refine Eq.trans (Eq.trans (r_go (act := oS (fGr g 4 11 1)) rfl rfl) (a_gr (zO_0 g) (zR_0_1 g))) ?_
  refine Eq.trans (Eq.trans (r_go (act := oS (fGr g 7 10 6)) rfl rfl) (a_gr (zO_6 g) (zR_6_6 g))) ?_
  refine Eq.trans (Eq.trans (r_go (act := oS (fGi g 10 6 6)) rfl rfl) (a_gi (zO_32 g))) ?_
  refine Eq.trans (Eq.trans (r_go (act := oS (fIf 23 13 cEq0)) rfl rfl) (a_if)) (bcg ?_ ?_)
  · refine Eq.trans (Eq.trans (r_go (act := oS (fSt 24 (gC (.int (-1))))) rfl rfl) (a_C)) ?_
    exact Eq.trans (r_go (act := oIret) rfl rfl) (a_iret)
  · refine Eq.trans (Eq.trans (r_go (act := oS (fIld 14 1)) rfl rfl) (a_ild rfl)) ?_
    refine Eq.trans (Eq.trans (r_go (act := oS (fSt 15 (gC (.int (-1))))) rfl rfl) (a_C)) ?_
    refine Eq.trans (Eq.trans (r_go (act := oS (fSt 17 (gC (.int 99)))) rfl rfl) (a_C)) ?_
    refine Eq.trans (Eq.trans (r_go (act := oCI 20 3 zcs (X_X11_within g)) rfl rfl) (a_cI rfl rfl)) (zbI_cg (fun x1 M1 => ?_))
    refine Eq.trans (Eq.trans (r_go (act := oS (fIf 23 25 cEq0)) rfl rfl) (a_if)) (bcg ?_ ?_)
    · refine Eq.trans (Eq.trans (r_go (act := oS (fSt 24 (gC (.int (-1))))) rfl rfl) (a_C)) ?_
      exact Eq.trans (r_go (act := oIret) rfl rfl) (a_iret)
    · refine Eq.trans (Eq.trans (r_go (act := oS (fIld 26 1)) rfl rfl) (a_ild rfl)) ?_
      refine Eq.trans (Eq.trans (r_go (act := oS (fSt 27 (gC (.int (-1))))) rfl rfl) (a_C)) ?_
      refine Eq.trans (Eq.trans (r_go (act := oS (fCm 30 43 cEq)) rfl rfl) (a_cm)) (bcg ?_ ?_)
      · refine Eq.trans (Eq.trans (r_go (act := oS (fAld 31 0)) rfl rfl) (a_ald rfl)) ?_
        refine Eq.trans (Eq.trans (r_go (act := oS (fGr g 34 11 1)) rfl rfl) (a_gr (zO_0 g) (zR_0_1 g))) ?_
        refine Eq.trans (Eq.trans (r_go (act := oS (fGr g 37 10 6)) rfl rfl) (a_gr (zO_6 g) (zR_6_6 g))) ?_
        refine Eq.trans (Eq.trans (r_go (act := oCI 40 1 (zcv g 6) (X_X6_period g)) rfl rfl) (a_cI rfl (zck (zO_32 g) rfl))) (zbI_cg (fun x2 M2 => ?_))
        refine Eq.trans (Eq.trans (r_go (act := oS (fGo 54)) rfl rfl) (a_goto)) ?_
        exact Eq.trans (r_go (act := oIret) rfl rfl) (a_iret)
      · refine Eq.trans (Eq.trans (r_go (act := oS (fAld 44 0)) rfl rfl) (a_ald rfl)) ?_
        refine Eq.trans (Eq.trans (r_go (act := oS (fGr g 47 11 1)) rfl rfl) (a_gr (zO_0 g) (zR_0_1 g))) ?_
        refine Eq.trans (Eq.trans (r_go (act := oS (fGr g 50 10 6)) rfl rfl) (a_gr (zO_6 g) (zR_6_6 g))) ?_
        refine Eq.trans (Eq.trans (r_go (act := oS (fIld 51 1)) rfl rfl) (a_ild rfl)) ?_
        refine Eq.trans (Eq.trans (r_go (act := oCI 54 2 (zcv g 6) (X_X6_seenBehind g)) rfl rfl) (a_cI rfl (zck (zO_32 g) rfl))) (zbI_cg (fun x3 M3 => ?_))
        exact Eq.trans (r_go (act := oIret) rfl rfl) (a_iret)
theorem x_X11_round_0 (g : zg) (a1 : Int32) (M : zM) : X_X11_round g [.ref 0, .int a1] M = (bif cEq0 (M.1 32 6) then some (some (.int (-1)), M) else (zbI (X_X11_within g [.int a1, .int (-1), .int 99] M) (fun x1 M1 => (bif cEq0 x1 then some (some (.int (-1)), M1) else (bif cEq a1 (-1) then (zbI (X_X6_period g [.ref 32] M1) (fun x2 M2 => some (some (.int x2), M2))) else (zbI (X_X6_seenBehind g [.ref 32, .int a1] M1) (fun x3 M3 => some (some (.int x3), M3)))))))) := e_X11_round_0 g a1 M
set_option maxRecDepth 20000 in
theorem e_X10_blameTomorrow_0 (g : zg) (a2 : Int32) (a3 : Int32) (M : zM) : zX (t_X10_blameTomorrow g) 0 [some (.ref 6), some (.ref 40), some (.int a2), some (.int a3), none, none, none] [] M = (zbI (X_X7_moveOn g [.ref 17, .int (M.1 40 10)] M) (fun x1 M1 => zX (t_X10_blameTomorrow g) 25 [some (.ref 6), some (.ref 40), some (.int a2), some (.int a3), some (.int ((M.1 40 4) + x1)), some (.int 0), some (.int (-10))] [] M1)) := by
  refine Eq.trans (zX_rgN (tl_X10_blameTomorrow g) (hc_X10_blameTomorrow g) 15 _ _ _ _) ?_
  refine Eq.trans (Eq.trans (r_0 (act := oS (fAld 1 1)) rfl) (a_ald rfl)) ?_
  refine Eq.trans (Eq.trans (r_go (act := oS (fGi g 4 3 4)) rfl rfl) (a_gi (zO_40 g))) ?_
  refine Eq.trans (Eq.trans (r_go (act := oS (fAld 5 0)) rfl rfl) (a_ald rfl)) ?_
  refine Eq.trans (Eq.trans (r_go (act := oS (fGr g 8 10 2)) rfl rfl) (a_gr (zO_6 g) (zR_6_2 g))) ?_
  refine Eq.trans (Eq.trans (r_go (act := oS (fAld 9 1)) rfl rfl) (a_ald rfl)) ?_
  refine Eq.trans (Eq.trans (r_go (act := oS (fGi g 12 3 10)) rfl rfl) (a_gi (zO_40 g))) ?_
  refine Eq.trans (Eq.trans (r_go (act := oCI 15 2 (zcv g 7) (X_X7_moveOn g)) rfl rfl) (a_cI rfl (zck (zO_17 g) rfl))) (zbI_cg (fun x1 M1 => ?_))
  refine Eq.trans (Eq.trans (r_go (act := oS (fSt 16 (g2 (fun x y => x + y)))) rfl rfl) (a_add)) ?_
  refine Eq.trans (Eq.trans (r_go (act := oS (fIst 18 4)) rfl rfl) (a_ist rfl rfl)) ?_
  refine Eq.trans (Eq.trans (r_go (act := oS (fSt 19 (gC (.int 0)))) rfl rfl) (a_C)) ?_
  refine Eq.trans (Eq.trans (r_go (act := oS (fIst 21 5)) rfl rfl) (a_ist rfl rfl)) ?_
  refine Eq.trans (Eq.trans (r_go (act := oS (fSt 23 (gC (.int (-10))))) rfl rfl) (a_C)) ?_
  refine Eq.trans (Eq.trans (r_go (act := oS (fIst 25 6)) rfl rfl) (a_ist rfl rfl)) ?_
  exact r_cut rfl rfl
theorem x_X10_blameTomorrow_0 (g : zg) (a2 : Int32) (a3 : Int32) (M : zM) : X_X10_blameTomorrow g [.ref 6, .ref 40, .int a2, .int a3] M = (zbI (X_X7_moveOn g [.ref 17, .int (M.1 40 10)] M) (fun x1 M1 => zX (t_X10_blameTomorrow g) 25 [some (.ref 6), some (.ref 40), some (.int a2), some (.int a3), some (.int ((M.1 40 4) + x1)), some (.int 0), some (.int (-10))] [] M1)) := e_X10_blameTomorrow_0 g a2 a3 M
set_option maxRecDepth 20000 in
theorem e_X10_blameTomorrow_25 (g : zg) (a2 : Int32) (a3 : Int32) (a4 : Int32) (a5 : Int32) (a6 : Int32) (M : zM) : zX (t_X10_blameTomorrow g) 25 [some (.ref 6), some (.ref 40), some (.int a2), some (.int a3), some (.int a4), some (.int a5), some (.int a6)] [] M = (bif cGt a6 10 then some (some (.int a5), M) else (zbI (X_X11_hold g [.int (a4 + a6), .int 0, .int 99] M) (fun x1 M1 => (zbI (X_X3_kind g [.ref 40] ((zu M1.1 40 4 x1), M1.2)) (fun x2 M2 => (bif cEq x2 a3 then zX (t_X10_blameTomorrow g) 25 [some (.ref 6), some (.ref 40), some (.int a2), some (.int a3), some (.int a4), some (.int (a5 + (-1))), some (.int (a6 + 1))] [] M2 else (zbI (X_X10_blameBy g [.ref 6, .ref 40, .int a2, .int a3] M2) (fun x3 M3 => zX (t_X10_blameTomorrow g) 25 [some (.ref 6), some (.ref 40), some (.int a2), some (.int a3), some (.int a4), some (.int (a5 + x3)), some (.int (a6 + 1))] [] M3)))))))) := by
  refine Eq.trans (zX_rgN (tl_X10_blameTomorrow g) (hc_X10_blameTomorrow g) 27 _ _ _ _) ?_
  refine Eq.trans (Eq.trans (Eq.trans (r_0 (act := oF [] (oS (fIld 27 6))) rfl) (a_F rfl)) (a_ild rfl)) ?_
  refine Eq.trans (Eq.trans (r_go (act := oS (fSt 29 (gC (.int 10)))) rfl rfl) (a_C)) ?_
  refine Eq.trans (Eq.trans (r_go (act := oS (fCm 77 32 cGt)) rfl rfl) (a_cm)) (bcg ?_ ?_)
  · refine Eq.trans (Eq.trans (r_go (act := oS (fIld 79 5)) rfl rfl) (a_ild rfl)) ?_
    exact Eq.trans (r_go (act := oIret) rfl rfl) (a_iret)
  · refine Eq.trans (Eq.trans (r_go (act := oS (fAld 33 1)) rfl rfl) (a_ald rfl)) ?_
    refine Eq.trans (Eq.trans (r_go (act := oS (fIld 35 4)) rfl rfl) (a_ild rfl)) ?_
    refine Eq.trans (Eq.trans (r_go (act := oS (fIld 37 6)) rfl rfl) (a_ild rfl)) ?_
    refine Eq.trans (Eq.trans (r_go (act := oS (fSt 38 (g2 (fun x y => x + y)))) rfl rfl) (a_add)) ?_
    refine Eq.trans (Eq.trans (r_go (act := oS (fSt 39 (gC (.int 0)))) rfl rfl) (a_C)) ?_
    refine Eq.trans (Eq.trans (r_go (act := oS (fSt 41 (gC (.int 99)))) rfl rfl) (a_C)) ?_
    refine Eq.trans (Eq.trans (r_go (act := oCI 44 3 zcs (X_X11_hold g)) rfl rfl) (a_cI rfl rfl)) (zbI_cg (fun x1 M1 => ?_))
    refine Eq.trans (Eq.trans (r_go (act := oS (fPi g 47 3 4)) rfl rfl) (a_pi (zO_40 g))) ?_
    refine Eq.trans (Eq.trans (r_go (act := oS (fIld 49 5)) rfl rfl) (a_ild rfl)) ?_
    refine Eq.trans (Eq.trans (r_go (act := oS (fAld 50 1)) rfl rfl) (a_ald rfl)) ?_
    refine Eq.trans (Eq.trans (r_go (act := oCI 53 1 (zcv g 3) (X_X3_kind g)) rfl rfl) (a_cI rfl (zck (zO_40 g) rfl))) (zbI_cg (fun x2 M2 => ?_))
    refine Eq.trans (Eq.trans (r_go (act := oS (fIld 54 3)) rfl rfl) (a_ild rfl)) ?_
    refine Eq.trans (Eq.trans (r_go (act := oS (fCm 57 61 cEq)) rfl rfl) (a_cm)) (bcg ?_ ?_)
    · refine Eq.trans (Eq.trans (r_go (act := oS (fSt 58 (gC (.int (-1))))) rfl rfl) (a_C)) ?_
      refine Eq.trans (Eq.trans (r_go (act := oS (fGo 68)) rfl rfl) (a_goto)) ?_
      refine Eq.trans (Eq.trans (r_go (act := oS (fSt 69 (g2 (fun x y => x + y)))) rfl rfl) (a_add)) ?_
      refine Eq.trans (Eq.trans (r_go (act := oS (fIst 71 5)) rfl rfl) (a_ist rfl rfl)) ?_
      refine Eq.trans (Eq.trans (r_go (act := oS (fInc 74 6 1)) rfl rfl) (a_inc rfl rfl rfl)) ?_
      refine Eq.trans (Eq.trans (r_go (act := oS (fGo 25)) rfl rfl) (a_goto)) ?_
      exact r_cut rfl rfl
    · refine Eq.trans (Eq.trans (r_go (act := oS (fAld 62 0)) rfl rfl) (a_ald rfl)) ?_
      refine Eq.trans (Eq.trans (r_go (act := oS (fAld 63 1)) rfl rfl) (a_ald rfl)) ?_
      refine Eq.trans (Eq.trans (r_go (act := oS (fIld 64 2)) rfl rfl) (a_ild rfl)) ?_
      refine Eq.trans (Eq.trans (r_go (act := oS (fIld 65 3)) rfl rfl) (a_ild rfl)) ?_
      refine Eq.trans (Eq.trans (r_go (act := oCI 68 4 (zcv g 10) (X_X10_blameBy g)) rfl rfl) (a_cI rfl (zck (zO_6 g) rfl))) (zbI_cg (fun x3 M3 => ?_))
      refine Eq.trans (Eq.trans (r_go (act := oS (fSt 69 (g2 (fun x y => x + y)))) rfl rfl) (a_add)) ?_
      refine Eq.trans (Eq.trans (r_go (act := oS (fIst 71 5)) rfl rfl) (a_ist rfl rfl)) ?_
      refine Eq.trans (Eq.trans (r_go (act := oS (fInc 74 6 1)) rfl rfl) (a_inc rfl rfl rfl)) ?_
      refine Eq.trans (Eq.trans (r_go (act := oS (fGo 25)) rfl rfl) (a_goto)) ?_
      exact r_cut rfl rfl
set_option maxRecDepth 20000 in
theorem e_X11_safe_0 (g : zg) (a1 : Int32) (a2 : Int32) (M : zM) : zX (t_X11_safe g) 0 [some (.ref 0), some (.int a1), some (.int a2), none, none, none, none] [] M = (zbI (X_X3_has g [.ref 7, .int a1] M) (fun x1 M1 => (bif cEq0 x1 then some (some (.int (-10000)), M1) else (zbI (X_X11_within g [.int a2, .int 0, .int 1] M1) (fun x2 M2 => (bif cEq0 x2 then some (some (.int (-10000)), M2) else zX (t_X11_safe g) 35 [some (.ref 0), some (.int a1), some (.int a2), some (.int 0), some (.int 0), some (.int 0), none] [] M2)))))) := by
  refine Eq.trans (zX_rgN (tl_X11_safe g) (hc_X11_safe g) 19 _ _ _ _) ?_
  refine Eq.trans (Eq.trans (r_0 (act := oS (fAld 1 0)) rfl) (a_ald rfl)) ?_
  refine Eq.trans (Eq.trans (r_go (act := oS (fGr g 4 11 1)) rfl rfl) (a_gr (zO_0 g) (zR_0_1 g))) ?_
  refine Eq.trans (Eq.trans (r_go (act := oS (fGr g 7 10 0)) rfl rfl) (a_gr (zO_6 g) (zR_6_0 g))) ?_
  refine Eq.trans (Eq.trans (r_go (act := oS (fIld 8 1)) rfl rfl) (a_ild rfl)) ?_
  refine Eq.trans (Eq.trans (r_go (act := oCI 11 2 (zcv g 3) (X_X3_has g)) rfl rfl) (a_cI rfl (zck (zO_7 g) rfl))) (zbI_cg (fun x1 M1 => ?_))
  refine Eq.trans (Eq.trans (r_go (act := oS (fIf 23 14 cEq0)) rfl rfl) (a_if)) (bcg ?_ ?_)
  · refine Eq.trans (Eq.trans (r_go (act := oS (fSt 26 (gC (.int (-10000))))) rfl rfl) (a_C)) ?_
    exact Eq.trans (r_go (act := oIret) rfl rfl) (a_iret)
  · refine Eq.trans (Eq.trans (r_go (act := oS (fIld 15 2)) rfl rfl) (a_ild rfl)) ?_
    refine Eq.trans (Eq.trans (r_go (act := oS (fSt 16 (gC (.int 0)))) rfl rfl) (a_C)) ?_
    refine Eq.trans (Eq.trans (r_go (act := oS (fSt 17 (gC (.int 1)))) rfl rfl) (a_C)) ?_
    refine Eq.trans (Eq.trans (r_go (act := oCI 20 3 zcs (X_X11_within g)) rfl rfl) (a_cI rfl rfl)) (zbI_cg (fun x2 M2 => ?_))
    refine Eq.trans (Eq.trans (r_go (act := oS (fIf 23 27 cEq0)) rfl rfl) (a_if)) (bcg ?_ ?_)
    · refine Eq.trans (Eq.trans (r_go (act := oS (fSt 26 (gC (.int (-10000))))) rfl rfl) (a_C)) ?_
      exact Eq.trans (r_go (act := oIret) rfl rfl) (a_iret)
    · refine Eq.trans (Eq.trans (r_go (act := oS (fSt 28 (gC (.int 0)))) rfl rfl) (a_C)) ?_
      refine Eq.trans (Eq.trans (r_go (act := oS (fIst 29 3)) rfl rfl) (a_ist rfl rfl)) ?_
      refine Eq.trans (Eq.trans (r_go (act := oS (fSt 30 (gC (.int 0)))) rfl rfl) (a_C)) ?_
      refine Eq.trans (Eq.trans (r_go (act := oS (fIst 32 4)) rfl rfl) (a_ist rfl rfl)) ?_
      refine Eq.trans (Eq.trans (r_go (act := oS (fSt 33 (gC (.int 0)))) rfl rfl) (a_C)) ?_
      refine Eq.trans (Eq.trans (r_go (act := oS (fIst 35 5)) rfl rfl) (a_ist rfl rfl)) ?_
      exact r_cut rfl rfl
theorem x_X11_safe_0 (g : zg) (a1 : Int32) (a2 : Int32) (M : zM) : X_X11_safe g [.ref 0, .int a1, .int a2] M = (zbI (X_X3_has g [.ref 7, .int a1] M) (fun x1 M1 => (bif cEq0 x1 then some (some (.int (-10000)), M1) else (zbI (X_X11_within g [.int a2, .int 0, .int 1] M1) (fun x2 M2 => (bif cEq0 x2 then some (some (.int (-10000)), M2) else zX (t_X11_safe g) 35 [some (.ref 0), some (.int a1), some (.int a2), some (.int 0), some (.int 0), some (.int 0), none] [] M2)))))) := e_X11_safe_0 g a1 a2 M
set_option maxRecDepth 20000 in
theorem e_X11_safe_35 (g : zg) (a1 : Int32) (a2 : Int32) (a3 : Int32) (a4 : Int32) (a5 : Int32) (M : zM) : zX (t_X11_safe g) 35 [some (.ref 0), some (.int a1), some (.int a2), some (.int a3), some (.int a4), some (.int a5), none] [] M = (bif cLt a5 5 then (zbV (X_X3_take g [.ref 40, .ref 7] M) (fun M1 => (zbI (X_X10_blameTomorrow g [.ref 6, .ref 40, .int a1, .int a5] M1) (fun x2 M2 => (bif cEq0 a5 then zX (t_X11_safe g) 35 [some (.ref 0), some (.int a1), some (.int a2), some (.int a5), some (.int x2), some (.int (a5 + 1)), none] [] M2 else (bif cLt x2 a4 then zX (t_X11_safe g) 35 [some (.ref 0), some (.int a1), some (.int a2), some (.int a5), some (.int x2), some (.int (a5 + 1)), none] [] M2 else zX (t_X11_safe g) 35 [some (.ref 0), some (.int a1), some (.int a2), some (.int a3), some (.int a4), some (.int (a5 + 1)), none] [] M2)))))) else (bif cEq0 a2 then some (some (.int a3), M) else some (some (.int a4), M))) := by
  refine Eq.trans (zX_rgN (tl_X11_safe g) (hc_X11_safe g) 30 _ _ _ _) ?_
  refine Eq.trans (Eq.trans (Eq.trans (r_0 (act := oF [6] (oS (fIld 37 5))) rfl) (a_F rfl)) (a_ild rfl)) ?_
  refine Eq.trans (Eq.trans (r_go (act := oS (fSt 38 (gC (.int 5)))) rfl rfl) (a_C)) ?_
  refine Eq.trans (Eq.trans (r_go (act := oS (fCm 41 96 cLt)) rfl rfl) (a_cm)) (bcg ?_ ?_)
  · refine Eq.trans (Eq.trans (r_go (act := oS (fAld 42 0)) rfl rfl) (a_ald rfl)) ?_
    refine Eq.trans (Eq.trans (r_go (act := oS (fGr g 45 11 2)) rfl rfl) (a_gr (zO_0 g) (zR_0_2 g))) ?_
    refine Eq.trans (Eq.trans (r_go (act := oS (fAld 46 0)) rfl rfl) (a_ald rfl)) ?_
    refine Eq.trans (Eq.trans (r_go (act := oS (fGr g 49 11 1)) rfl rfl) (a_gr (zO_0 g) (zR_0_1 g))) ?_
    refine Eq.trans (Eq.trans (r_go (act := oS (fGr g 52 10 0)) rfl rfl) (a_gr (zO_6 g) (zR_6_0 g))) ?_
    refine Eq.trans (Eq.trans (r_go (act := oCV 55 2 (zcv g 3) (X_X3_take g)) rfl rfl) (a_cV rfl (zck (zO_40 g) rfl))) (zbV_cg (fun M1 => ?_))
    refine Eq.trans (Eq.trans (r_go (act := oS (fAld 56 0)) rfl rfl) (a_ald rfl)) ?_
    refine Eq.trans (Eq.trans (r_go (act := oS (fGr g 59 11 1)) rfl rfl) (a_gr (zO_0 g) (zR_0_1 g))) ?_
    refine Eq.trans (Eq.trans (r_go (act := oS (fAld 60 0)) rfl rfl) (a_ald rfl)) ?_
    refine Eq.trans (Eq.trans (r_go (act := oS (fGr g 63 11 2)) rfl rfl) (a_gr (zO_0 g) (zR_0_2 g))) ?_
    refine Eq.trans (Eq.trans (r_go (act := oS (fIld 64 1)) rfl rfl) (a_ild rfl)) ?_
    refine Eq.trans (Eq.trans (r_go (act := oS (fIld 66 5)) rfl rfl) (a_ild rfl)) ?_
    refine Eq.trans (Eq.trans (r_go (act := oCI 69 4 (zcv g 10) (X_X10_blameTomorrow g)) rfl rfl) (a_cI rfl (zck (zO_6 g) rfl))) (zbI_cg (fun x2 M2 => ?_))
    refine Eq.trans (Eq.trans (r_go (act := oS (fIst 71 6)) rfl rfl) (a_ist rfl rfl)) ?_
    refine Eq.trans (Eq.trans (r_go (act := oS (fIld 73 5)) rfl rfl) (a_ild rfl)) ?_
    refine Eq.trans (Eq.trans (r_go (act := oS (fIf 83 76 cEq0)) rfl rfl) (a_if)) (bcg ?_ ?_)
    · refine Eq.trans (Eq.trans (r_go (act := oS (fIld 85 5)) rfl rfl) (a_ild rfl)) ?_
      refine Eq.trans (Eq.trans (r_go (act := oS (fIst 86 3)) rfl rfl) (a_ist rfl rfl)) ?_
      refine Eq.trans (Eq.trans (r_go (act := oS (fIld 88 6)) rfl rfl) (a_ild rfl)) ?_
      refine Eq.trans (Eq.trans (r_go (act := oS (fIst 90 4)) rfl rfl) (a_ist rfl rfl)) ?_
      refine Eq.trans (Eq.trans (r_go (act := oS (fInc 93 5 1)) rfl rfl) (a_inc rfl rfl rfl)) ?_
      refine Eq.trans (Eq.trans (r_go (act := oS (fGo 35)) rfl rfl) (a_goto)) ?_
      exact r_cut rfl rfl
    · refine Eq.trans (Eq.trans (r_go (act := oS (fIld 78 6)) rfl rfl) (a_ild rfl)) ?_
      refine Eq.trans (Eq.trans (r_go (act := oS (fIld 80 4)) rfl rfl) (a_ild rfl)) ?_
      refine Eq.trans (Eq.trans (r_go (act := oS (fCm 83 90 cLt)) rfl rfl) (a_cm)) (bcg ?_ ?_)
      · refine Eq.trans (Eq.trans (r_go (act := oS (fIld 85 5)) rfl rfl) (a_ild rfl)) ?_
        refine Eq.trans (Eq.trans (r_go (act := oS (fIst 86 3)) rfl rfl) (a_ist rfl rfl)) ?_
        refine Eq.trans (Eq.trans (r_go (act := oS (fIld 88 6)) rfl rfl) (a_ild rfl)) ?_
        refine Eq.trans (Eq.trans (r_go (act := oS (fIst 90 4)) rfl rfl) (a_ist rfl rfl)) ?_
        refine Eq.trans (Eq.trans (r_go (act := oS (fInc 93 5 1)) rfl rfl) (a_inc rfl rfl rfl)) ?_
        refine Eq.trans (Eq.trans (r_go (act := oS (fGo 35)) rfl rfl) (a_goto)) ?_
        exact r_cut rfl rfl
      · refine Eq.trans (Eq.trans (r_go (act := oS (fInc 93 5 1)) rfl rfl) (a_inc rfl rfl rfl)) ?_
        refine Eq.trans (Eq.trans (r_go (act := oS (fGo 35)) rfl rfl) (a_goto)) ?_
        exact r_cut rfl rfl
  · refine Eq.trans (Eq.trans (r_go (act := oS (fIld 97 2)) rfl rfl) (a_ild rfl)) ?_
    refine Eq.trans (Eq.trans (r_go (act := oS (fIf 100 104 cEq0)) rfl rfl) (a_if)) (bcg ?_ ?_)
    · refine Eq.trans (Eq.trans (r_go (act := oS (fIld 101 3)) rfl rfl) (a_ild rfl)) ?_
      refine Eq.trans (Eq.trans (r_go (act := oS (fGo 106)) rfl rfl) (a_goto)) ?_
      exact Eq.trans (r_go (act := oIret) rfl rfl) (a_iret)
    · refine Eq.trans (Eq.trans (r_go (act := oS (fIld 106 4)) rfl rfl) (a_ild rfl)) ?_
      exact Eq.trans (r_go (act := oIret) rfl rfl) (a_iret)
set_option maxRecDepth 20000 in
theorem e_X11_works_0 (g : zg) (a1 : Int32) (a2 : Int32) (a3 : Int32) (a4 : Int32) (M : zM) : zX (t_X11_works g) 0 [some (.ref 0), some (.int a1), some (.int a2), some (.int a3), some (.int a4), none, none, none, none, none] [] M = (zbI (X_X11_within g [.int a1, .int 1, .int 20] M) (fun x1 M1 => (bif cEq0 x1 then some (some (.int (-1)), M1) else (zbI (X_X11_within g [.int a2, .int 0, .int 4] M1) (fun x2 M2 => (bif cEq0 x2 then some (some (.int (-1)), M2) else (zbI (X_X11_within g [.int a3, .int 1, .int 99] M2) (fun x3 M3 => (bif cEq0 x3 then some (some (.int (-1)), M3) else (zbI (X_X11_within g [.int a4, .int 0, .int 1] M3) (fun x4 M4 => (bif cEq0 x4 then some (some (.int (-1)), M4) else zX (t_X11_works g) 65 [some (.ref 0), some (.int a1), some (.int a2), some (.int a3), some (.int a4), some (.int (M4.1 7 4)), some (.int 0), some (.int 0), some (.int (-1)), some (.int 1)] [] M4)))))))))))) := by
  refine Eq.trans (zX_rgN (tl_X11_works g) (hc_X11_works g) 35 _ _ _ _) ?_
  refine Eq.trans (Eq.trans (r_0 (act := oS (fIld 1 1)) rfl) (a_ild rfl)) ?_
  refine Eq.trans (Eq.trans (r_go (act := oS (fSt 2 (gC (.int 1)))) rfl rfl) (a_C)) ?_
  refine Eq.trans (Eq.trans (r_go (act := oS (fSt 4 (gC (.int 20)))) rfl rfl) (a_C)) ?_
  refine Eq.trans (Eq.trans (r_go (act := oCI 7 3 zcs (X_X11_within g)) rfl rfl) (a_cI rfl rfl)) (zbI_cg (fun x1 M1 => ?_))
  refine Eq.trans (Eq.trans (r_go (act := oS (fIf 39 10 cEq0)) rfl rfl) (a_if)) (bcg ?_ ?_)
  · refine Eq.trans (Eq.trans (r_go (act := oS (fSt 40 (gC (.int (-1))))) rfl rfl) (a_C)) ?_
    exact Eq.trans (r_go (act := oIret) rfl rfl) (a_iret)
  · refine Eq.trans (Eq.trans (r_go (act := oS (fIld 11 2)) rfl rfl) (a_ild rfl)) ?_
    refine Eq.trans (Eq.trans (r_go (act := oS (fSt 12 (gC (.int 0)))) rfl rfl) (a_C)) ?_
    refine Eq.trans (Eq.trans (r_go (act := oS (fSt 13 (gC (.int 4)))) rfl rfl) (a_C)) ?_
    refine Eq.trans (Eq.trans (r_go (act := oCI 16 3 zcs (X_X11_within g)) rfl rfl) (a_cI rfl rfl)) (zbI_cg (fun x2 M2 => ?_))
    refine Eq.trans (Eq.trans (r_go (act := oS (fIf 39 19 cEq0)) rfl rfl) (a_if)) (bcg ?_ ?_)
    · refine Eq.trans (Eq.trans (r_go (act := oS (fSt 40 (gC (.int (-1))))) rfl rfl) (a_C)) ?_
      exact Eq.trans (r_go (act := oIret) rfl rfl) (a_iret)
    · refine Eq.trans (Eq.trans (r_go (act := oS (fIld 20 3)) rfl rfl) (a_ild rfl)) ?_
      refine Eq.trans (Eq.trans (r_go (act := oS (fSt 21 (gC (.int 1)))) rfl rfl) (a_C)) ?_
      refine Eq.trans (Eq.trans (r_go (act := oS (fSt 23 (gC (.int 99)))) rfl rfl) (a_C)) ?_
      refine Eq.trans (Eq.trans (r_go (act := oCI 26 3 zcs (X_X11_within g)) rfl rfl) (a_cI rfl rfl)) (zbI_cg (fun x3 M3 => ?_))
      refine Eq.trans (Eq.trans (r_go (act := oS (fIf 39 29 cEq0)) rfl rfl) (a_if)) (bcg ?_ ?_)
      · refine Eq.trans (Eq.trans (r_go (act := oS (fSt 40 (gC (.int (-1))))) rfl rfl) (a_C)) ?_
        exact Eq.trans (r_go (act := oIret) rfl rfl) (a_iret)
      · refine Eq.trans (Eq.trans (r_go (act := oS (fIld 31 4)) rfl rfl) (a_ild rfl)) ?_
        refine Eq.trans (Eq.trans (r_go (act := oS (fSt 32 (gC (.int 0)))) rfl rfl) (a_C)) ?_
        refine Eq.trans (Eq.trans (r_go (act := oS (fSt 33 (gC (.int 1)))) rfl rfl) (a_C)) ?_
        refine Eq.trans (Eq.trans (r_go (act := oCI 36 3 zcs (X_X11_within g)) rfl rfl) (a_cI rfl rfl)) (zbI_cg (fun x4 M4 => ?_))
        refine Eq.trans (Eq.trans (r_go (act := oS (fIf 39 41 cEq0)) rfl rfl) (a_if)) (bcg ?_ ?_)
        · refine Eq.trans (Eq.trans (r_go (act := oS (fSt 40 (gC (.int (-1))))) rfl rfl) (a_C)) ?_
          exact Eq.trans (r_go (act := oIret) rfl rfl) (a_iret)
        · refine Eq.trans (Eq.trans (r_go (act := oS (fAld 42 0)) rfl rfl) (a_ald rfl)) ?_
          refine Eq.trans (Eq.trans (r_go (act := oS (fGr g 45 11 1)) rfl rfl) (a_gr (zO_0 g) (zR_0_1 g))) ?_
          refine Eq.trans (Eq.trans (r_go (act := oS (fGr g 48 10 0)) rfl rfl) (a_gr (zO_6 g) (zR_6_0 g))) ?_
          refine Eq.trans (Eq.trans (r_go (act := oS (fGi g 51 3 4)) rfl rfl) (a_gi (zO_7 g))) ?_
          refine Eq.trans (Eq.trans (r_go (act := oS (fIst 53 5)) rfl rfl) (a_ist rfl rfl)) ?_
          refine Eq.trans (Eq.trans (r_go (act := oS (fSt 54 (gC (.int 0)))) rfl rfl) (a_C)) ?_
          refine Eq.trans (Eq.trans (r_go (act := oS (fIst 56 6)) rfl rfl) (a_ist rfl rfl)) ?_
          refine Eq.trans (Eq.trans (r_go (act := oS (fSt 57 (gC (.int 0)))) rfl rfl) (a_C)) ?_
          refine Eq.trans (Eq.trans (r_go (act := oS (fIst 59 7)) rfl rfl) (a_ist rfl rfl)) ?_
          refine Eq.trans (Eq.trans (r_go (act := oS (fSt 60 (gC (.int (-1))))) rfl rfl) (a_C)) ?_
          refine Eq.trans (Eq.trans (r_go (act := oS (fIst 62 8)) rfl rfl) (a_ist rfl rfl)) ?_
          refine Eq.trans (Eq.trans (r_go (act := oS (fSt 63 (gC (.int 1)))) rfl rfl) (a_C)) ?_
          refine Eq.trans (Eq.trans (r_go (act := oS (fIst 65 9)) rfl rfl) (a_ist rfl rfl)) ?_
          exact r_cut rfl rfl
theorem x_X11_works_0 (g : zg) (a1 : Int32) (a2 : Int32) (a3 : Int32) (a4 : Int32) (M : zM) : X_X11_works g [.ref 0, .int a1, .int a2, .int a3, .int a4] M = (zbI (X_X11_within g [.int a1, .int 1, .int 20] M) (fun x1 M1 => (bif cEq0 x1 then some (some (.int (-1)), M1) else (zbI (X_X11_within g [.int a2, .int 0, .int 4] M1) (fun x2 M2 => (bif cEq0 x2 then some (some (.int (-1)), M2) else (zbI (X_X11_within g [.int a3, .int 1, .int 99] M2) (fun x3 M3 => (bif cEq0 x3 then some (some (.int (-1)), M3) else (zbI (X_X11_within g [.int a4, .int 0, .int 1] M3) (fun x4 M4 => (bif cEq0 x4 then some (some (.int (-1)), M4) else zX (t_X11_works g) 65 [some (.ref 0), some (.int a1), some (.int a2), some (.int a3), some (.int a4), some (.int (M4.1 7 4)), some (.int 0), some (.int 0), some (.int (-1)), some (.int 1)] [] M4)))))))))))) := e_X11_works_0 g a1 a2 a3 a4 M
set_option maxRecDepth 20000 in
theorem e_X11_works_65 (g : zg) (a1 : Int32) (a2 : Int32) (a3 : Int32) (a4 : Int32) (a5 : Int32) (a6 : Int32) (a7 : Int32) (a8 : Int32) (a9 : Int32) (M : zM) : zX (t_X11_works g) 65 [some (.ref 0), some (.int a1), some (.int a2), some (.int a3), some (.int a4), some (.int a5), some (.int a6), some (.int a7), some (.int a8), some (.int a9)] [] M = (bif cGt a9 a3 then (bif cEq0 a4 then some (some (.int a8), M) else some (some (.int a7), M)) else (zbI (X_X10_glassBehind g [.ref 6, .int a5, .int (((M.1 7 10) + a9) - 1)] M) (fun x1 M1 => (bif cLt (x1 / 20) a2 then zX (t_X11_works g) 65 [some (.ref 0), some (.int a1), some (.int a2), some (.int a3), some (.int a4), some (.int x1), some (.int 0), some (.int a7), some (.int a8), some (.int (a9 + 1))] [] M1 else (bif cEq (a6 + 1) a1 then (bif cEq a8 (-1) then zX (t_X11_works g) 65 [some (.ref 0), some (.int a1), some (.int a2), some (.int a3), some (.int a4), some (.int x1), some (.int (a6 + 1)), some (.int (a7 + 1)), some (.int ((a9 - a1) + 1)), some (.int (a9 + 1))] [] M1 else zX (t_X11_works g) 65 [some (.ref 0), some (.int a1), some (.int a2), some (.int a3), some (.int a4), some (.int x1), some (.int (a6 + 1)), some (.int (a7 + 1)), some (.int a8), some (.int (a9 + 1))] [] M1) else zX (t_X11_works g) 65 [some (.ref 0), some (.int a1), some (.int a2), some (.int a3), some (.int a4), some (.int x1), some (.int (a6 + 1)), some (.int (a7 + 1)), some (.int a8), some (.int (a9 + 1))] [] M1))))) := by
  refine Eq.trans (zX_rgN (tl_X11_works g) (hc_X11_works g) 39 _ _ _ _) ?_
  refine Eq.trans (Eq.trans (Eq.trans (r_0 (act := oF [] (oS (fIld 67 9))) rfl) (a_F rfl)) (a_ild rfl)) ?_
  refine Eq.trans (Eq.trans (r_go (act := oS (fIld 68 3)) rfl rfl) (a_ild rfl)) ?_
  refine Eq.trans (Eq.trans (r_go (act := oS (fCm 144 71 cGt)) rfl rfl) (a_cm)) (bcg ?_ ?_)
  · refine Eq.trans (Eq.trans (r_go (act := oS (fIld 146 4)) rfl rfl) (a_ild rfl)) ?_
    refine Eq.trans (Eq.trans (r_go (act := oS (fIf 149 154 cEq0)) rfl rfl) (a_if)) (bcg ?_ ?_)
    · refine Eq.trans (Eq.trans (r_go (act := oS (fIld 151 8)) rfl rfl) (a_ild rfl)) ?_
      refine Eq.trans (Eq.trans (r_go (act := oS (fGo 156)) rfl rfl) (a_goto)) ?_
      exact Eq.trans (r_go (act := oIret) rfl rfl) (a_iret)
    · refine Eq.trans (Eq.trans (r_go (act := oS (fIld 156 7)) rfl rfl) (a_ild rfl)) ?_
      exact Eq.trans (r_go (act := oIret) rfl rfl) (a_iret)
  · refine Eq.trans (Eq.trans (r_go (act := oS (fAld 72 0)) rfl rfl) (a_ald rfl)) ?_
    refine Eq.trans (Eq.trans (r_go (act := oS (fGr g 75 11 1)) rfl rfl) (a_gr (zO_0 g) (zR_0_1 g))) ?_
    refine Eq.trans (Eq.trans (r_go (act := oS (fIld 77 5)) rfl rfl) (a_ild rfl)) ?_
    refine Eq.trans (Eq.trans (r_go (act := oS (fAld 78 0)) rfl rfl) (a_ald rfl)) ?_
    refine Eq.trans (Eq.trans (r_go (act := oS (fGr g 81 11 1)) rfl rfl) (a_gr (zO_0 g) (zR_0_1 g))) ?_
    refine Eq.trans (Eq.trans (r_go (act := oS (fGr g 84 10 0)) rfl rfl) (a_gr (zO_6 g) (zR_6_0 g))) ?_
    refine Eq.trans (Eq.trans (r_go (act := oS (fGi g 87 3 10)) rfl rfl) (a_gi (zO_7 g))) ?_
    refine Eq.trans (Eq.trans (r_go (act := oS (fIld 89 9)) rfl rfl) (a_ild rfl)) ?_
    refine Eq.trans (Eq.trans (r_go (act := oS (fSt 90 (g2 (fun x y => x + y)))) rfl rfl) (a_add)) ?_
    refine Eq.trans (Eq.trans (r_go (act := oS (fSt 91 (gC (.int 1)))) rfl rfl) (a_C)) ?_
    refine Eq.trans (Eq.trans (r_go (act := oS (fSt 92 (g2 (fun x y => x - y)))) rfl rfl) (a_sub)) ?_
    refine Eq.trans (Eq.trans (r_go (act := oCI 95 3 (zcv g 10) (X_X10_glassBehind g)) rfl rfl) (a_cI rfl (zck (zO_6 g) rfl))) (zbI_cg (fun x1 M1 => ?_))
    refine Eq.trans (Eq.trans (r_go (act := oS (fIst 97 5)) rfl rfl) (a_ist rfl rfl)) ?_
    refine Eq.trans (Eq.trans (r_go (act := oS (fIld 99 5)) rfl rfl) (a_ild rfl)) ?_
    refine Eq.trans (Eq.trans (r_go (act := oS (fSt 101 (gC (.int 20)))) rfl rfl) (a_C)) ?_
    refine Eq.trans (Eq.trans (r_go (act := oS (fDiv 102)) rfl rfl) (a_div)) (Eq.trans (bcT (by decide)) ?_)
    refine Eq.trans (Eq.trans (r_go (act := oS (fIld 103 2)) rfl rfl) (a_ild rfl)) ?_
    refine Eq.trans (Eq.trans (r_go (act := oS (fCm 106 112 cLt)) rfl rfl) (a_cm)) (bcg ?_ ?_)
    · refine Eq.trans (Eq.trans (r_go (act := oS (fSt 107 (gC (.int 0)))) rfl rfl) (a_C)) ?_
      refine Eq.trans (Eq.trans (r_go (act := oS (fIst 109 6)) rfl rfl) (a_ist rfl rfl)) ?_
      refine Eq.trans (Eq.trans (r_go (act := oS (fGo 138)) rfl rfl) (a_goto)) ?_
      refine Eq.trans (Eq.trans (r_go (act := oS (fInc 141 9 1)) rfl rfl) (a_inc rfl rfl rfl)) ?_
      refine Eq.trans (Eq.trans (r_go (act := oS (fGo 65)) rfl rfl) (a_goto)) ?_
      exact r_cut rfl rfl
    · refine Eq.trans (Eq.trans (r_go (act := oS (fInc 115 7 1)) rfl rfl) (a_inc rfl rfl rfl)) ?_
      refine Eq.trans (Eq.trans (r_go (act := oS (fInc 118 6 1)) rfl rfl) (a_inc rfl rfl rfl)) ?_
      refine Eq.trans (Eq.trans (r_go (act := oS (fIld 120 6)) rfl rfl) (a_ild rfl)) ?_
      refine Eq.trans (Eq.trans (r_go (act := oS (fIld 121 1)) rfl rfl) (a_ild rfl)) ?_
      refine Eq.trans (Eq.trans (r_go (act := oS (fCm 124 138 cEq)) rfl rfl) (a_cm)) (bcg ?_ ?_)
      · refine Eq.trans (Eq.trans (r_go (act := oS (fIld 126 8)) rfl rfl) (a_ild rfl)) ?_
        refine Eq.trans (Eq.trans (r_go (act := oS (fSt 127 (gC (.int (-1))))) rfl rfl) (a_C)) ?_
        refine Eq.trans (Eq.trans (r_go (act := oS (fCm 130 138 cEq)) rfl rfl) (a_cm)) (bcg ?_ ?_)
        · refine Eq.trans (Eq.trans (r_go (act := oS (fIld 132 9)) rfl rfl) (a_ild rfl)) ?_
          refine Eq.trans (Eq.trans (r_go (act := oS (fIld 133 1)) rfl rfl) (a_ild rfl)) ?_
          refine Eq.trans (Eq.trans (r_go (act := oS (fSt 134 (g2 (fun x y => x - y)))) rfl rfl) (a_sub)) ?_
          refine Eq.trans (Eq.trans (r_go (act := oS (fSt 135 (gC (.int 1)))) rfl rfl) (a_C)) ?_
          refine Eq.trans (Eq.trans (r_go (act := oS (fSt 136 (g2 (fun x y => x + y)))) rfl rfl) (a_add)) ?_
          refine Eq.trans (Eq.trans (r_go (act := oS (fIst 138 8)) rfl rfl) (a_ist rfl rfl)) ?_
          refine Eq.trans (Eq.trans (r_go (act := oS (fInc 141 9 1)) rfl rfl) (a_inc rfl rfl rfl)) ?_
          refine Eq.trans (Eq.trans (r_go (act := oS (fGo 65)) rfl rfl) (a_goto)) ?_
          exact r_cut rfl rfl
        · refine Eq.trans (Eq.trans (r_go (act := oS (fInc 141 9 1)) rfl rfl) (a_inc rfl rfl rfl)) ?_
          refine Eq.trans (Eq.trans (r_go (act := oS (fGo 65)) rfl rfl) (a_goto)) ?_
          exact r_cut rfl rfl
      · refine Eq.trans (Eq.trans (r_go (act := oS (fInc 141 9 1)) rfl rfl) (a_inc rfl rfl rfl)) ?_
        refine Eq.trans (Eq.trans (r_go (act := oS (fGo 65)) rfl rfl) (a_goto)) ?_
        exact r_cut rfl rfl
set_option maxRecDepth 20000 in
theorem e_X6_addUmbrella_0 (g : zg) (a1 : Int32) (a2 : Int32) (a3 : Int32) (M : zM) : zX (t_X6_addUmbrella g) 0 [some (.ref 32), some (.int a1), some (.int a2), some (.int a3)] [] M = (bif cEq a1 (-1) then some (some (.int 0), ((zu M.1 32 7 0), M.2)) else (zbI (X_X11_within g [.int a1, .int 0, .int (a3 - 1)] M) (fun x1 M1 => (bif cEq0 x1 then some (some (.int (-1)), M1) else (zbI (X_X11_within g [.int a2, .int 0, .int 11] M1) (fun x2 M2 => (bif cEq0 x2 then some (some (.int (-1)), M2) else (bif cLt (M2.1 32 7) 20 then (bif zb (M2.1 32 7) 20 then (bif zb (M2.1 32 7) 20 then some (some (.int ((M2.1 32 7) + 1)), ((zu (zu (zu M2.1 34 (zx (M2.1 32 7)) a1) 35 (zx (M2.1 32 7)) a2) 32 7 ((M2.1 32 7) + 1)), M2.2)) else none) else none) else some (some (.int (-1)), M2))))))))) := by
  refine Eq.trans (zX_rgN (tl_X6_addUmbrella g) (hc_X6_addUmbrella g) 41 _ _ _ _) ?_
  refine Eq.trans (Eq.trans (r_0 (act := oS (fIld 1 1)) rfl) (a_ild rfl)) ?_
  refine Eq.trans (Eq.trans (r_go (act := oS (fSt 2 (gC (.int (-1))))) rfl rfl) (a_C)) ?_
  refine Eq.trans (Eq.trans (r_go (act := oS (fCm 5 12 cEq)) rfl rfl) (a_cm)) (bcg ?_ ?_)
  · refine Eq.trans (Eq.trans (r_go (act := oS (fAld 6 0)) rfl rfl) (a_ald rfl)) ?_
    refine Eq.trans (Eq.trans (r_go (act := oS (fSt 7 (gC (.int 0)))) rfl rfl) (a_C)) ?_
    refine Eq.trans (Eq.trans (r_go (act := oS (fPi g 10 6 7)) rfl rfl) (a_pi (zO_32 g))) ?_
    refine Eq.trans (Eq.trans (r_go (act := oS (fSt 11 (gC (.int 0)))) rfl rfl) (a_C)) ?_
    exact Eq.trans (r_go (act := oIret) rfl rfl) (a_iret)
  · refine Eq.trans (Eq.trans (r_go (act := oS (fIld 13 1)) rfl rfl) (a_ild rfl)) ?_
    refine Eq.trans (Eq.trans (r_go (act := oS (fSt 14 (gC (.int 0)))) rfl rfl) (a_C)) ?_
    refine Eq.trans (Eq.trans (r_go (act := oS (fIld 15 3)) rfl rfl) (a_ild rfl)) ?_
    refine Eq.trans (Eq.trans (r_go (act := oS (fSt 16 (gC (.int 1)))) rfl rfl) (a_C)) ?_
    refine Eq.trans (Eq.trans (r_go (act := oS (fSt 17 (g2 (fun x y => x - y)))) rfl rfl) (a_sub)) ?_
    refine Eq.trans (Eq.trans (r_go (act := oCI 20 3 zcs (X_X11_within g)) rfl rfl) (a_cI rfl rfl)) (zbI_cg (fun x1 M1 => ?_))
    refine Eq.trans (Eq.trans (r_go (act := oS (fIf 42 23 cEq0)) rfl rfl) (a_if)) (bcg ?_ ?_)
    · refine Eq.trans (Eq.trans (r_go (act := oS (fSt 43 (gC (.int (-1))))) rfl rfl) (a_C)) ?_
      exact Eq.trans (r_go (act := oIret) rfl rfl) (a_iret)
    · refine Eq.trans (Eq.trans (r_go (act := oS (fIld 24 2)) rfl rfl) (a_ild rfl)) ?_
      refine Eq.trans (Eq.trans (r_go (act := oS (fSt 25 (gC (.int 0)))) rfl rfl) (a_C)) ?_
      refine Eq.trans (Eq.trans (r_go (act := oS (fSt 27 (gC (.int 11)))) rfl rfl) (a_C)) ?_
      refine Eq.trans (Eq.trans (r_go (act := oCI 30 3 zcs (X_X11_within g)) rfl rfl) (a_cI rfl rfl)) (zbI_cg (fun x2 M2 => ?_))
      refine Eq.trans (Eq.trans (r_go (act := oS (fIf 42 33 cEq0)) rfl rfl) (a_if)) (bcg ?_ ?_)
      · refine Eq.trans (Eq.trans (r_go (act := oS (fSt 43 (gC (.int (-1))))) rfl rfl) (a_C)) ?_
        exact Eq.trans (r_go (act := oIret) rfl rfl) (a_iret)
      · refine Eq.trans (Eq.trans (r_go (act := oS (fAld 34 0)) rfl rfl) (a_ald rfl)) ?_
        refine Eq.trans (Eq.trans (r_go (act := oS (fGi g 37 6 7)) rfl rfl) (a_gi (zO_32 g))) ?_
        refine Eq.trans (Eq.trans (r_go (act := oS (fSt 39 (gC (.int 20)))) rfl rfl) (a_C)) ?_
        refine Eq.trans (Eq.trans (r_go (act := oS (fCm 44 42 cLt)) rfl rfl) (a_cm)) (bcg ?_ ?_)
        · refine Eq.trans (Eq.trans (r_go (act := oS (fAld 45 0)) rfl rfl) (a_ald rfl)) ?_
          refine Eq.trans (Eq.trans (r_go (act := oS (fGr g 48 6 1)) rfl rfl) (a_gr (zO_32 g) (zR_32_1 g))) ?_
          refine Eq.trans (Eq.trans (r_go (act := oS (fAld 49 0)) rfl rfl) (a_ald rfl)) ?_
          refine Eq.trans (Eq.trans (r_go (act := oS (fGi g 52 6 7)) rfl rfl) (a_gi (zO_32 g))) ?_
          refine Eq.trans (Eq.trans (r_go (act := oS (fIld 53 1)) rfl rfl) (a_ild rfl)) ?_
          refine Eq.trans (Eq.trans (r_go (act := oS (fIs g 54)) rfl rfl) (a_is (zA_34 g) zS_34)) (bcg ?_ rfl)
          refine Eq.trans (Eq.trans (r_go (act := oS (fAld 55 0)) rfl rfl) (a_ald rfl)) ?_
          refine Eq.trans (Eq.trans (r_go (act := oS (fGr g 58 6 2)) rfl rfl) (a_gr (zO_32 g) (zR_32_2 g))) ?_
          refine Eq.trans (Eq.trans (r_go (act := oS (fAld 59 0)) rfl rfl) (a_ald rfl)) ?_
          refine Eq.trans (Eq.trans (r_go (act := oS (fGi g 62 6 7)) rfl rfl) (a_giV (zO_32 g) rfl)) ?_
          refine Eq.trans (Eq.trans (r_go (act := oS (fIld 63 2)) rfl rfl) (a_ild rfl)) ?_
          refine Eq.trans (Eq.trans (r_go (act := oS (fIs g 64)) rfl rfl) (a_is (zA_35 g) zS_35)) (bcg ?_ rfl)
          refine Eq.trans (Eq.trans (r_go (act := oS (fAld 65 0)) rfl rfl) (a_ald rfl)) ?_
          refine Eq.trans (Eq.trans (r_go (act := oS (fSt 66 gDup)) rfl rfl) (a_dupR)) ?_
          refine Eq.trans (Eq.trans (r_go (act := oS (fGi g 69 6 7)) rfl rfl) (a_giV (zO_32 g) rfl)) ?_
          refine Eq.trans (Eq.trans (r_go (act := oS (fSt 70 (gC (.int 1)))) rfl rfl) (a_C)) ?_
          refine Eq.trans (Eq.trans (r_go (act := oS (fSt 71 (g2 (fun x y => x + y)))) rfl rfl) (a_add)) ?_
          refine Eq.trans (Eq.trans (r_go (act := oS (fPi g 74 6 7)) rfl rfl) (a_pi (zO_32 g))) ?_
          refine Eq.trans (Eq.trans (r_go (act := oS (fAld 75 0)) rfl rfl) (a_ald rfl)) ?_
          refine Eq.trans (Eq.trans (r_go (act := oS (fGi g 78 6 7)) rfl rfl) (a_giV (zO_32 g) rfl)) ?_
          exact Eq.trans (r_go (act := oIret) rfl rfl) (a_iret)
        · refine Eq.trans (Eq.trans (r_go (act := oS (fSt 43 (gC (.int (-1))))) rfl rfl) (a_C)) ?_
          exact Eq.trans (r_go (act := oIret) rfl rfl) (a_iret)
theorem x_X6_addUmbrella_0 (g : zg) (a1 : Int32) (a2 : Int32) (a3 : Int32) (M : zM) : X_X6_addUmbrella g [.ref 32, .int a1, .int a2, .int a3] M = (bif cEq a1 (-1) then some (some (.int 0), ((zu M.1 32 7 0), M.2)) else (zbI (X_X11_within g [.int a1, .int 0, .int (a3 - 1)] M) (fun x1 M1 => (bif cEq0 x1 then some (some (.int (-1)), M1) else (zbI (X_X11_within g [.int a2, .int 0, .int 11] M1) (fun x2 M2 => (bif cEq0 x2 then some (some (.int (-1)), M2) else (bif cLt (M2.1 32 7) 20 then (bif zb (M2.1 32 7) 20 then (bif zb (M2.1 32 7) 20 then some (some (.int ((M2.1 32 7) + 1)), ((zu (zu (zu M2.1 34 (zx (M2.1 32 7)) a1) 35 (zx (M2.1 32 7)) a2) 32 7 ((M2.1 32 7) + 1)), M2.2)) else none) else none) else some (some (.int (-1)), M2))))))))) := e_X6_addUmbrella_0 g a1 a2 a3 M
set_option maxRecDepth 20000 in
theorem e_X11_umbrella_0 (g : zg) (a1 : Int32) (a2 : Int32) (M : zM) : zX (t_X11_umbrella g) 0 [some (.ref 0), some (.int a1), some (.int a2)] [] M = (zbI (X_X6_addUmbrella g [.ref 32, .int a1, .int a2, .int (M.1 7 2)] M) (fun x1 M1 => some (some (.int x1), M1))) := by
  refine Eq.trans (zX_rgN (tl_X11_umbrella g) (hc_X11_umbrella g) 12 _ _ _ _) ?_
  refine Eq.trans (Eq.trans (r_0 (act := oS (fAld 1 0)) rfl) (a_ald rfl)) ?_
  refine Eq.trans (Eq.trans (r_go (act := oS (fGr g 4 11 1)) rfl rfl) (a_gr (zO_0 g) (zR_0_1 g))) ?_
  refine Eq.trans (Eq.trans (r_go (act := oS (fGr g 7 10 6)) rfl rfl) (a_gr (zO_6 g) (zR_6_6 g))) ?_
  refine Eq.trans (Eq.trans (r_go (act := oS (fIld 8 1)) rfl rfl) (a_ild rfl)) ?_
  refine Eq.trans (Eq.trans (r_go (act := oS (fIld 9 2)) rfl rfl) (a_ild rfl)) ?_
  refine Eq.trans (Eq.trans (r_go (act := oS (fAld 10 0)) rfl rfl) (a_ald rfl)) ?_
  refine Eq.trans (Eq.trans (r_go (act := oS (fGr g 13 11 1)) rfl rfl) (a_gr (zO_0 g) (zR_0_1 g))) ?_
  refine Eq.trans (Eq.trans (r_go (act := oS (fGr g 16 10 0)) rfl rfl) (a_gr (zO_6 g) (zR_6_0 g))) ?_
  refine Eq.trans (Eq.trans (r_go (act := oS (fGi g 19 3 2)) rfl rfl) (a_gi (zO_7 g))) ?_
  refine Eq.trans (Eq.trans (r_go (act := oCI 22 4 (zcv g 6) (X_X6_addUmbrella g)) rfl rfl) (a_cI rfl (zck (zO_32 g) rfl))) (zbI_cg (fun x1 M1 => ?_))
  exact Eq.trans (r_go (act := oIret) rfl rfl) (a_iret)
theorem x_X11_umbrella_0 (g : zg) (a1 : Int32) (a2 : Int32) (M : zM) : X_X11_umbrella g [.ref 0, .int a1, .int a2] M = (zbI (X_X6_addUmbrella g [.ref 32, .int a1, .int a2, .int (M.1 7 2)] M) (fun x1 M1 => some (some (.int x1), M1))) := e_X11_umbrella_0 g a1 a2 M
set_option maxRecDepth 20000 in
theorem e_X6_addPost_0 (g : zg) (a1 : Int32) (a2 : Int32) (M : zM) : zX (t_X6_addPost g) 0 [some (.ref 32), some (.int a1), some (.int a2)] [] M = (bif cEq a1 (-1) then some (some (.int 0), ((zu M.1 32 8 0), M.2)) else (zbI (X_X11_within g [.int a1, .int 0, .int 5] M) (fun x1 M1 => (bif cEq0 x1 then some (some (.int (-1)), M1) else (zbI (X_X11_within g [.int a2, .int 1, .int 99] M1) (fun x2 M2 => (bif cEq0 x2 then some (some (.int (-1)), M2) else (bif cLt (M2.1 32 8) 6 then (bif zb (M2.1 32 8) 6 then (bif zb (M2.1 32 8) 6 then some (some (.int ((M2.1 32 8) + 1)), ((zu (zu (zu M2.1 36 (zx (M2.1 32 8)) a1) 37 (zx (M2.1 32 8)) a2) 32 8 ((M2.1 32 8) + 1)), M2.2)) else none) else none) else some (some (.int (-1)), M2))))))))) := by
  refine Eq.trans (zX_rgN (tl_X6_addPost g) (hc_X6_addPost g) 39 _ _ _ _) ?_
  refine Eq.trans (Eq.trans (r_0 (act := oS (fIld 1 1)) rfl) (a_ild rfl)) ?_
  refine Eq.trans (Eq.trans (r_go (act := oS (fSt 2 (gC (.int (-1))))) rfl rfl) (a_C)) ?_
  refine Eq.trans (Eq.trans (r_go (act := oS (fCm 5 12 cEq)) rfl rfl) (a_cm)) (bcg ?_ ?_)
  · refine Eq.trans (Eq.trans (r_go (act := oS (fAld 6 0)) rfl rfl) (a_ald rfl)) ?_
    refine Eq.trans (Eq.trans (r_go (act := oS (fSt 7 (gC (.int 0)))) rfl rfl) (a_C)) ?_
    refine Eq.trans (Eq.trans (r_go (act := oS (fPi g 10 6 8)) rfl rfl) (a_pi (zO_32 g))) ?_
    refine Eq.trans (Eq.trans (r_go (act := oS (fSt 11 (gC (.int 0)))) rfl rfl) (a_C)) ?_
    exact Eq.trans (r_go (act := oIret) rfl rfl) (a_iret)
  · refine Eq.trans (Eq.trans (r_go (act := oS (fIld 13 1)) rfl rfl) (a_ild rfl)) ?_
    refine Eq.trans (Eq.trans (r_go (act := oS (fSt 14 (gC (.int 0)))) rfl rfl) (a_C)) ?_
    refine Eq.trans (Eq.trans (r_go (act := oS (fSt 15 (gC (.int 5)))) rfl rfl) (a_C)) ?_
    refine Eq.trans (Eq.trans (r_go (act := oCI 18 3 zcs (X_X11_within g)) rfl rfl) (a_cI rfl rfl)) (zbI_cg (fun x1 M1 => ?_))
    refine Eq.trans (Eq.trans (r_go (act := oS (fIf 40 21 cEq0)) rfl rfl) (a_if)) (bcg ?_ ?_)
    · refine Eq.trans (Eq.trans (r_go (act := oS (fSt 41 (gC (.int (-1))))) rfl rfl) (a_C)) ?_
      exact Eq.trans (r_go (act := oIret) rfl rfl) (a_iret)
    · refine Eq.trans (Eq.trans (r_go (act := oS (fIld 22 2)) rfl rfl) (a_ild rfl)) ?_
      refine Eq.trans (Eq.trans (r_go (act := oS (fSt 23 (gC (.int 1)))) rfl rfl) (a_C)) ?_
      refine Eq.trans (Eq.trans (r_go (act := oS (fSt 25 (gC (.int 99)))) rfl rfl) (a_C)) ?_
      refine Eq.trans (Eq.trans (r_go (act := oCI 28 3 zcs (X_X11_within g)) rfl rfl) (a_cI rfl rfl)) (zbI_cg (fun x2 M2 => ?_))
      refine Eq.trans (Eq.trans (r_go (act := oS (fIf 40 31 cEq0)) rfl rfl) (a_if)) (bcg ?_ ?_)
      · refine Eq.trans (Eq.trans (r_go (act := oS (fSt 41 (gC (.int (-1))))) rfl rfl) (a_C)) ?_
        exact Eq.trans (r_go (act := oIret) rfl rfl) (a_iret)
      · refine Eq.trans (Eq.trans (r_go (act := oS (fAld 32 0)) rfl rfl) (a_ald rfl)) ?_
        refine Eq.trans (Eq.trans (r_go (act := oS (fGi g 35 6 8)) rfl rfl) (a_gi (zO_32 g))) ?_
        refine Eq.trans (Eq.trans (r_go (act := oS (fSt 37 (gC (.int 6)))) rfl rfl) (a_C)) ?_
        refine Eq.trans (Eq.trans (r_go (act := oS (fCm 42 40 cLt)) rfl rfl) (a_cm)) (bcg ?_ ?_)
        · refine Eq.trans (Eq.trans (r_go (act := oS (fAld 43 0)) rfl rfl) (a_ald rfl)) ?_
          refine Eq.trans (Eq.trans (r_go (act := oS (fGr g 46 6 3)) rfl rfl) (a_gr (zO_32 g) (zR_32_3 g))) ?_
          refine Eq.trans (Eq.trans (r_go (act := oS (fAld 47 0)) rfl rfl) (a_ald rfl)) ?_
          refine Eq.trans (Eq.trans (r_go (act := oS (fGi g 50 6 8)) rfl rfl) (a_gi (zO_32 g))) ?_
          refine Eq.trans (Eq.trans (r_go (act := oS (fIld 51 1)) rfl rfl) (a_ild rfl)) ?_
          refine Eq.trans (Eq.trans (r_go (act := oS (fIs g 52)) rfl rfl) (a_is (zA_36 g) zS_36)) (bcg ?_ rfl)
          refine Eq.trans (Eq.trans (r_go (act := oS (fAld 53 0)) rfl rfl) (a_ald rfl)) ?_
          refine Eq.trans (Eq.trans (r_go (act := oS (fGr g 56 6 4)) rfl rfl) (a_gr (zO_32 g) (zR_32_4 g))) ?_
          refine Eq.trans (Eq.trans (r_go (act := oS (fAld 57 0)) rfl rfl) (a_ald rfl)) ?_
          refine Eq.trans (Eq.trans (r_go (act := oS (fGi g 60 6 8)) rfl rfl) (a_giV (zO_32 g) rfl)) ?_
          refine Eq.trans (Eq.trans (r_go (act := oS (fIld 61 2)) rfl rfl) (a_ild rfl)) ?_
          refine Eq.trans (Eq.trans (r_go (act := oS (fIs g 62)) rfl rfl) (a_is (zA_37 g) zS_37)) (bcg ?_ rfl)
          refine Eq.trans (Eq.trans (r_go (act := oS (fAld 63 0)) rfl rfl) (a_ald rfl)) ?_
          refine Eq.trans (Eq.trans (r_go (act := oS (fSt 64 gDup)) rfl rfl) (a_dupR)) ?_
          refine Eq.trans (Eq.trans (r_go (act := oS (fGi g 67 6 8)) rfl rfl) (a_giV (zO_32 g) rfl)) ?_
          refine Eq.trans (Eq.trans (r_go (act := oS (fSt 68 (gC (.int 1)))) rfl rfl) (a_C)) ?_
          refine Eq.trans (Eq.trans (r_go (act := oS (fSt 69 (g2 (fun x y => x + y)))) rfl rfl) (a_add)) ?_
          refine Eq.trans (Eq.trans (r_go (act := oS (fPi g 72 6 8)) rfl rfl) (a_pi (zO_32 g))) ?_
          refine Eq.trans (Eq.trans (r_go (act := oS (fAld 73 0)) rfl rfl) (a_ald rfl)) ?_
          refine Eq.trans (Eq.trans (r_go (act := oS (fGi g 76 6 8)) rfl rfl) (a_giV (zO_32 g) rfl)) ?_
          exact Eq.trans (r_go (act := oIret) rfl rfl) (a_iret)
        · refine Eq.trans (Eq.trans (r_go (act := oS (fSt 41 (gC (.int (-1))))) rfl rfl) (a_C)) ?_
          exact Eq.trans (r_go (act := oIret) rfl rfl) (a_iret)
theorem x_X6_addPost_0 (g : zg) (a1 : Int32) (a2 : Int32) (M : zM) : X_X6_addPost g [.ref 32, .int a1, .int a2] M = (bif cEq a1 (-1) then some (some (.int 0), ((zu M.1 32 8 0), M.2)) else (zbI (X_X11_within g [.int a1, .int 0, .int 5] M) (fun x1 M1 => (bif cEq0 x1 then some (some (.int (-1)), M1) else (zbI (X_X11_within g [.int a2, .int 1, .int 99] M1) (fun x2 M2 => (bif cEq0 x2 then some (some (.int (-1)), M2) else (bif cLt (M2.1 32 8) 6 then (bif zb (M2.1 32 8) 6 then (bif zb (M2.1 32 8) 6 then some (some (.int ((M2.1 32 8) + 1)), ((zu (zu (zu M2.1 36 (zx (M2.1 32 8)) a1) 37 (zx (M2.1 32 8)) a2) 32 8 ((M2.1 32 8) + 1)), M2.2)) else none) else none) else some (some (.int (-1)), M2))))))))) := e_X6_addPost_0 g a1 a2 M
set_option maxRecDepth 20000 in
theorem e_X11_post_0 (g : zg) (a1 : Int32) (a2 : Int32) (M : zM) : zX (t_X11_post g) 0 [some (.ref 0), some (.int a1), some (.int a2)] [] M = (zbI (X_X6_addPost g [.ref 32, .int a1, .int a2] M) (fun x1 M1 => some (some (.int x1), M1))) := by
  refine Eq.trans (zX_rgN (tl_X11_post g) (hc_X11_post g) 8 _ _ _ _) ?_
  refine Eq.trans (Eq.trans (r_0 (act := oS (fAld 1 0)) rfl) (a_ald rfl)) ?_
  refine Eq.trans (Eq.trans (r_go (act := oS (fGr g 4 11 1)) rfl rfl) (a_gr (zO_0 g) (zR_0_1 g))) ?_
  refine Eq.trans (Eq.trans (r_go (act := oS (fGr g 7 10 6)) rfl rfl) (a_gr (zO_6 g) (zR_6_6 g))) ?_
  refine Eq.trans (Eq.trans (r_go (act := oS (fIld 8 1)) rfl rfl) (a_ild rfl)) ?_
  refine Eq.trans (Eq.trans (r_go (act := oS (fIld 9 2)) rfl rfl) (a_ild rfl)) ?_
  refine Eq.trans (Eq.trans (r_go (act := oCI 12 3 (zcv g 6) (X_X6_addPost g)) rfl rfl) (a_cI rfl (zck (zO_32 g) rfl))) (zbI_cg (fun x1 M1 => ?_))
  exact Eq.trans (r_go (act := oIret) rfl rfl) (a_iret)
theorem x_X11_post_0 (g : zg) (a1 : Int32) (a2 : Int32) (M : zM) : X_X11_post g [.ref 0, .int a1, .int a2] M = (zbI (X_X6_addPost g [.ref 32, .int a1, .int a2] M) (fun x1 M1 => some (some (.int x1), M1))) := e_X11_post_0 g a1 a2 M
set_option maxRecDepth 20000 in
theorem e_X6_setMix_0 (g : zg) (a1 : Int32) (a2 : Int32) (M : zM) : zX (t_X6_setMix g) 0 [some (.ref 32), some (.int a1), some (.int a2)] [] M = (zbI (X_X11_within g [.int a1, .int 0, .int 3] M) (fun x1 M1 => (bif cEq0 x1 then some (some (.int 0), M1) else (zbI (X_X11_within g [.int a2, .int 0, .int 99] M1) (fun x2 M2 => (bif cEq0 x2 then some (some (.int 0), M2) else (bif zb a1 4 then some (some (.int 1), ((zu M2.1 38 (zx a1) a2), M2.2)) else none))))))) := by
  refine Eq.trans (zX_rgN (tl_X6_setMix g) (hc_X6_setMix g) 18 _ _ _ _) ?_
  refine Eq.trans (Eq.trans (r_0 (act := oS (fIld 1 1)) rfl) (a_ild rfl)) ?_
  refine Eq.trans (Eq.trans (r_go (act := oS (fSt 2 (gC (.int 0)))) rfl rfl) (a_C)) ?_
  refine Eq.trans (Eq.trans (r_go (act := oS (fSt 3 (gC (.int 3)))) rfl rfl) (a_C)) ?_
  refine Eq.trans (Eq.trans (r_go (act := oCI 6 3 zcs (X_X11_within g)) rfl rfl) (a_cI rfl rfl)) (zbI_cg (fun x1 M1 => ?_))
  refine Eq.trans (Eq.trans (r_go (act := oS (fIf 19 9 cEq0)) rfl rfl) (a_if)) (bcg ?_ ?_)
  · refine Eq.trans (Eq.trans (r_go (act := oS (fSt 20 (gC (.int 0)))) rfl rfl) (a_C)) ?_
    exact Eq.trans (Eq.trans (r_go (act := oZret) rfl rfl) a_zret) (bcT (by decide +kernel))
  · refine Eq.trans (Eq.trans (r_go (act := oS (fIld 10 2)) rfl rfl) (a_ild rfl)) ?_
    refine Eq.trans (Eq.trans (r_go (act := oS (fSt 11 (gC (.int 0)))) rfl rfl) (a_C)) ?_
    refine Eq.trans (Eq.trans (r_go (act := oS (fSt 13 (gC (.int 99)))) rfl rfl) (a_C)) ?_
    refine Eq.trans (Eq.trans (r_go (act := oCI 16 3 zcs (X_X11_within g)) rfl rfl) (a_cI rfl rfl)) (zbI_cg (fun x2 M2 => ?_))
    refine Eq.trans (Eq.trans (r_go (act := oS (fIf 19 21 cEq0)) rfl rfl) (a_if)) (bcg ?_ ?_)
    · refine Eq.trans (Eq.trans (r_go (act := oS (fSt 20 (gC (.int 0)))) rfl rfl) (a_C)) ?_
      exact Eq.trans (Eq.trans (r_go (act := oZret) rfl rfl) a_zret) (bcT (by decide +kernel))
    · refine Eq.trans (Eq.trans (r_go (act := oS (fAld 22 0)) rfl rfl) (a_ald rfl)) ?_
      refine Eq.trans (Eq.trans (r_go (act := oS (fGr g 25 6 5)) rfl rfl) (a_gr (zO_32 g) (zR_32_5 g))) ?_
      refine Eq.trans (Eq.trans (r_go (act := oS (fIld 26 1)) rfl rfl) (a_ild rfl)) ?_
      refine Eq.trans (Eq.trans (r_go (act := oS (fIld 27 2)) rfl rfl) (a_ild rfl)) ?_
      refine Eq.trans (Eq.trans (r_go (act := oS (fIs g 28)) rfl rfl) (a_is (zA_38 g) zS_38)) (bcg ?_ rfl)
      refine Eq.trans (Eq.trans (r_go (act := oS (fSt 29 (gC (.int 1)))) rfl rfl) (a_C)) ?_
      exact Eq.trans (Eq.trans (r_go (act := oZret) rfl rfl) a_zret) (bcT (by decide +kernel))
theorem x_X6_setMix_0 (g : zg) (a1 : Int32) (a2 : Int32) (M : zM) : X_X6_setMix g [.ref 32, .int a1, .int a2] M = (zbI (X_X11_within g [.int a1, .int 0, .int 3] M) (fun x1 M1 => (bif cEq0 x1 then some (some (.int 0), M1) else (zbI (X_X11_within g [.int a2, .int 0, .int 99] M1) (fun x2 M2 => (bif cEq0 x2 then some (some (.int 0), M2) else (bif zb a1 4 then some (some (.int 1), ((zu M2.1 38 (zx a1) a2), M2.2)) else none))))))) := e_X6_setMix_0 g a1 a2 M
set_option maxRecDepth 20000 in
theorem e_X11_mix_0 (g : zg) (a1 : Int32) (a2 : Int32) (M : zM) : zX (t_X11_mix g) 0 [some (.ref 0), some (.int a1), some (.int a2)] [] M = (zbI (X_X6_setMix g [.ref 32, .int a1, .int a2] M) (fun x1 M1 => (bif cEq (x1 &&& 1) x1 then some (some (.int x1), M1) else none))) := by
  refine Eq.trans (zX_rgN (tl_X11_mix g) (hc_X11_mix g) 8 _ _ _ _) ?_
  refine Eq.trans (Eq.trans (r_0 (act := oS (fAld 1 0)) rfl) (a_ald rfl)) ?_
  refine Eq.trans (Eq.trans (r_go (act := oS (fGr g 4 11 1)) rfl rfl) (a_gr (zO_0 g) (zR_0_1 g))) ?_
  refine Eq.trans (Eq.trans (r_go (act := oS (fGr g 7 10 6)) rfl rfl) (a_gr (zO_6 g) (zR_6_6 g))) ?_
  refine Eq.trans (Eq.trans (r_go (act := oS (fIld 8 1)) rfl rfl) (a_ild rfl)) ?_
  refine Eq.trans (Eq.trans (r_go (act := oS (fIld 9 2)) rfl rfl) (a_ild rfl)) ?_
  refine Eq.trans (Eq.trans (r_go (act := oCI 12 3 (zcv g 6) (X_X6_setMix g)) rfl rfl) (a_cI rfl (zck (zO_32 g) rfl))) (zbI_cg (fun x1 M1 => ?_))
  exact Eq.trans (r_go (act := oZret) rfl rfl) (a_zret)
theorem x_X11_mix_0 (g : zg) (a1 : Int32) (a2 : Int32) (M : zM) : X_X11_mix g [.ref 0, .int a1, .int a2] M = (zbI (X_X6_setMix g [.ref 32, .int a1, .int a2] M) (fun x1 M1 => (bif cEq (x1 &&& 1) x1 then some (some (.int x1), M1) else none))) := e_X11_mix_0 g a1 a2 M
set_option maxRecDepth 20000 in
theorem e_X6_mixWorth_0 (g : zg) (a1 : Int32) (M : zM) : zX (t_X6_mixWorth g) 0 [some (.ref 32), some (.int a1), none, none] [] M = (zbI (X_J9_min_7cf53 g [.int ((a1 * (M.1 38 2)) + ((1000 - a1) * (M.1 38 0))), .int ((a1 * (M.1 38 3)) + ((1000 - a1) * (M.1 38 1)))] M) (fun x1 M1 => some (some (.int x1), M1))) := by
  refine Eq.trans (zX_rgN (tl_X6_mixWorth g) (hc_X6_mixWorth g) 37 _ _ _ _) ?_
  refine Eq.trans (Eq.trans (r_0 (act := oS (fIld 1 1)) rfl) (a_ild rfl)) ?_
  refine Eq.trans (Eq.trans (r_go (act := oS (fAld 2 0)) rfl rfl) (a_ald rfl)) ?_
  refine Eq.trans (Eq.trans (r_go (act := oS (fGr g 5 6 5)) rfl rfl) (a_gr (zO_32 g) (zR_32_5 g))) ?_
  refine Eq.trans (Eq.trans (r_go (act := oS (fSt 6 (gC (.int 2)))) rfl rfl) (a_C)) ?_
  refine Eq.trans (Eq.trans (r_go (act := oS (fIa g 7)) rfl rfl) (a_iaK (j := 2) (zA_38 g) zS_38 (by decide +kernel) (by decide +kernel))) ?_
  refine Eq.trans (Eq.trans (r_go (act := oS (fSt 8 (g2 (fun x y => x * y)))) rfl rfl) (a_mul)) ?_
  refine Eq.trans (Eq.trans (r_go (act := oS (fSt 11 (gC (.int 1000)))) rfl rfl) (a_C)) ?_
  refine Eq.trans (Eq.trans (r_go (act := oS (fIld 12 1)) rfl rfl) (a_ild rfl)) ?_
  refine Eq.trans (Eq.trans (r_go (act := oS (fSt 13 (g2 (fun x y => x - y)))) rfl rfl) (a_sub)) ?_
  refine Eq.trans (Eq.trans (r_go (act := oS (fAld 14 0)) rfl rfl) (a_ald rfl)) ?_
  refine Eq.trans (Eq.trans (r_go (act := oS (fGr g 17 6 5)) rfl rfl) (a_gr (zO_32 g) (zR_32_5 g))) ?_
  refine Eq.trans (Eq.trans (r_go (act := oS (fSt 18 (gC (.int 0)))) rfl rfl) (a_C)) ?_
  refine Eq.trans (Eq.trans (r_go (act := oS (fIa g 19)) rfl rfl) (a_iaK (j := 0) (zA_38 g) zS_38 (by decide +kernel) (by decide +kernel))) ?_
  refine Eq.trans (Eq.trans (r_go (act := oS (fSt 20 (g2 (fun x y => x * y)))) rfl rfl) (a_mul)) ?_
  refine Eq.trans (Eq.trans (r_go (act := oS (fSt 21 (g2 (fun x y => x + y)))) rfl rfl) (a_add)) ?_
  refine Eq.trans (Eq.trans (r_go (act := oS (fIst 22 2)) rfl rfl) (a_ist rfl rfl)) ?_
  refine Eq.trans (Eq.trans (r_go (act := oS (fIld 23 1)) rfl rfl) (a_ild rfl)) ?_
  refine Eq.trans (Eq.trans (r_go (act := oS (fAld 24 0)) rfl rfl) (a_ald rfl)) ?_
  refine Eq.trans (Eq.trans (r_go (act := oS (fGr g 27 6 5)) rfl rfl) (a_gr (zO_32 g) (zR_32_5 g))) ?_
  refine Eq.trans (Eq.trans (r_go (act := oS (fSt 28 (gC (.int 3)))) rfl rfl) (a_C)) ?_
  refine Eq.trans (Eq.trans (r_go (act := oS (fIa g 29)) rfl rfl) (a_iaK (j := 3) (zA_38 g) zS_38 (by decide +kernel) (by decide +kernel))) ?_
  refine Eq.trans (Eq.trans (r_go (act := oS (fSt 30 (g2 (fun x y => x * y)))) rfl rfl) (a_mul)) ?_
  refine Eq.trans (Eq.trans (r_go (act := oS (fSt 33 (gC (.int 1000)))) rfl rfl) (a_C)) ?_
  refine Eq.trans (Eq.trans (r_go (act := oS (fIld 34 1)) rfl rfl) (a_ild rfl)) ?_
  refine Eq.trans (Eq.trans (r_go (act := oS (fSt 35 (g2 (fun x y => x - y)))) rfl rfl) (a_sub)) ?_
  refine Eq.trans (Eq.trans (r_go (act := oS (fAld 36 0)) rfl rfl) (a_ald rfl)) ?_
  refine Eq.trans (Eq.trans (r_go (act := oS (fGr g 39 6 5)) rfl rfl) (a_gr (zO_32 g) (zR_32_5 g))) ?_
  refine Eq.trans (Eq.trans (r_go (act := oS (fSt 40 (gC (.int 1)))) rfl rfl) (a_C)) ?_
  refine Eq.trans (Eq.trans (r_go (act := oS (fIa g 41)) rfl rfl) (a_iaK (j := 1) (zA_38 g) zS_38 (by decide +kernel) (by decide +kernel))) ?_
  refine Eq.trans (Eq.trans (r_go (act := oS (fSt 42 (g2 (fun x y => x * y)))) rfl rfl) (a_mul)) ?_
  refine Eq.trans (Eq.trans (r_go (act := oS (fSt 43 (g2 (fun x y => x + y)))) rfl rfl) (a_add)) ?_
  refine Eq.trans (Eq.trans (r_go (act := oS (fIst 44 3)) rfl rfl) (a_ist rfl rfl)) ?_
  refine Eq.trans (Eq.trans (r_go (act := oS (fIld 45 2)) rfl rfl) (a_ild rfl)) ?_
  refine Eq.trans (Eq.trans (r_go (act := oS (fIld 46 3)) rfl rfl) (a_ild rfl)) ?_
  refine Eq.trans (Eq.trans (r_go (act := oCI 49 2 zcs (X_J9_min_7cf53 g)) rfl rfl) (a_cI rfl rfl)) (zbI_cg (fun x1 M1 => ?_))
  exact Eq.trans (r_go (act := oIret) rfl rfl) (a_iret)
theorem x_X6_mixWorth_0 (g : zg) (a1 : Int32) (M : zM) : X_X6_mixWorth g [.ref 32, .int a1] M = (zbI (X_J9_min_7cf53 g [.int ((a1 * (M.1 38 2)) + ((1000 - a1) * (M.1 38 0))), .int ((a1 * (M.1 38 3)) + ((1000 - a1) * (M.1 38 1)))] M) (fun x1 M1 => some (some (.int x1), M1))) := e_X6_mixWorth_0 g a1 M
set_option maxRecDepth 20000 in
theorem e_X6_bestMix_0 (g : zg) (M : zM) : zX (t_X6_bestMix g) 0 [some (.ref 32), none, none, none, none] [] M = (zbI (X_X6_mixWorth g [.ref 32, .int 0] M) (fun x1 M1 => zX (t_X6_bestMix g) 10 [some (.ref 32), some (.int 0), some (.int x1), some (.int 1), none] [] M1)) := by
  refine Eq.trans (zX_rgN (tl_X6_bestMix g) (hc_X6_bestMix g) 10 _ _ _ _) ?_
  refine Eq.trans (Eq.trans (r_0 (act := oS (fSt 1 (gC (.int 0)))) rfl) (a_C)) ?_
  refine Eq.trans (Eq.trans (r_go (act := oS (fIst 2 1)) rfl rfl) (a_ist rfl rfl)) ?_
  refine Eq.trans (Eq.trans (r_go (act := oS (fAld 3 0)) rfl rfl) (a_ald rfl)) ?_
  refine Eq.trans (Eq.trans (r_go (act := oS (fSt 4 (gC (.int 0)))) rfl rfl) (a_C)) ?_
  refine Eq.trans (Eq.trans (r_go (act := oCI 7 2 (zcv g 6) (X_X6_mixWorth g)) rfl rfl) (a_cI rfl (zck (zO_32 g) rfl))) (zbI_cg (fun x1 M1 => ?_))
  refine Eq.trans (Eq.trans (r_go (act := oS (fIst 8 2)) rfl rfl) (a_ist rfl rfl)) ?_
  refine Eq.trans (Eq.trans (r_go (act := oS (fSt 9 (gC (.int 1)))) rfl rfl) (a_C)) ?_
  refine Eq.trans (Eq.trans (r_go (act := oS (fIst 10 3)) rfl rfl) (a_ist rfl rfl)) ?_
  exact r_cut rfl rfl
theorem x_X6_bestMix_0 (g : zg) (M : zM) : X_X6_bestMix g [.ref 32] M = (zbI (X_X6_mixWorth g [.ref 32, .int 0] M) (fun x1 M1 => zX (t_X6_bestMix g) 10 [some (.ref 32), some (.int 0), some (.int x1), some (.int 1), none] [] M1)) := e_X6_bestMix_0 g M
set_option maxRecDepth 20000 in
theorem e_X6_bestMix_10 (g : zg) (a1 : Int32) (a2 : Int32) (a3 : Int32) (M : zM) : zX (t_X6_bestMix g) 10 [some (.ref 32), some (.int a1), some (.int a2), some (.int a3), none] [] M = (bif cGt a3 1000 then some (some (.int a1), M) else (zbI (X_X6_mixWorth g [.ref 32, .int a3] M) (fun x1 M1 => (bif cGt x1 a2 then zX (t_X6_bestMix g) 10 [some (.ref 32), some (.int a3), some (.int x1), some (.int (a3 + 1)), none] [] M1 else zX (t_X6_bestMix g) 10 [some (.ref 32), some (.int a1), some (.int a2), some (.int (a3 + 1)), none] [] M1)))) := by
  refine Eq.trans (zX_rgN (tl_X6_bestMix g) (hc_X6_bestMix g) 18 _ _ _ _) ?_
  refine Eq.trans (Eq.trans (Eq.trans (r_0 (act := oF [4] (oS (fIld 11 3))) rfl) (a_F rfl)) (a_ild rfl)) ?_
  refine Eq.trans (Eq.trans (r_go (act := oS (fSt 14 (gC (.int 1000)))) rfl rfl) (a_C)) ?_
  refine Eq.trans (Eq.trans (r_go (act := oS (fCm 41 17 cGt)) rfl rfl) (a_cm)) (bcg ?_ ?_)
  · refine Eq.trans (Eq.trans (r_go (act := oS (fIld 42 1)) rfl rfl) (a_ild rfl)) ?_
    exact Eq.trans (r_go (act := oIret) rfl rfl) (a_iret)
  · refine Eq.trans (Eq.trans (r_go (act := oS (fAld 18 0)) rfl rfl) (a_ald rfl)) ?_
    refine Eq.trans (Eq.trans (r_go (act := oS (fIld 19 3)) rfl rfl) (a_ild rfl)) ?_
    refine Eq.trans (Eq.trans (r_go (act := oCI 22 2 (zcv g 6) (X_X6_mixWorth g)) rfl rfl) (a_cI rfl (zck (zO_32 g) rfl))) (zbI_cg (fun x1 M1 => ?_))
    refine Eq.trans (Eq.trans (r_go (act := oS (fIst 24 4)) rfl rfl) (a_ist rfl rfl)) ?_
    refine Eq.trans (Eq.trans (r_go (act := oS (fIld 26 4)) rfl rfl) (a_ild rfl)) ?_
    refine Eq.trans (Eq.trans (r_go (act := oS (fIld 27 2)) rfl rfl) (a_ild rfl)) ?_
    refine Eq.trans (Eq.trans (r_go (act := oS (fCm 30 35 cGt)) rfl rfl) (a_cm)) (bcg ?_ ?_)
    · refine Eq.trans (Eq.trans (r_go (act := oS (fIld 31 3)) rfl rfl) (a_ild rfl)) ?_
      refine Eq.trans (Eq.trans (r_go (act := oS (fIst 32 1)) rfl rfl) (a_ist rfl rfl)) ?_
      refine Eq.trans (Eq.trans (r_go (act := oS (fIld 34 4)) rfl rfl) (a_ild rfl)) ?_
      refine Eq.trans (Eq.trans (r_go (act := oS (fIst 35 2)) rfl rfl) (a_ist rfl rfl)) ?_
      refine Eq.trans (Eq.trans (r_go (act := oS (fInc 38 3 1)) rfl rfl) (a_inc rfl rfl rfl)) ?_
      refine Eq.trans (Eq.trans (r_go (act := oS (fGo 10)) rfl rfl) (a_goto)) ?_
      exact r_cut rfl rfl
    · refine Eq.trans (Eq.trans (r_go (act := oS (fInc 38 3 1)) rfl rfl) (a_inc rfl rfl rfl)) ?_
      refine Eq.trans (Eq.trans (r_go (act := oS (fGo 10)) rfl rfl) (a_goto)) ?_
      exact r_cut rfl rfl
set_option maxRecDepth 20000 in
theorem e_X11_mixes_0 (g : zg) (a1 : Int32) (M : zM) : zX (t_X11_mixes g) 0 [some (.ref 0), some (.int a1), none] [] M = (zbI (X_X11_within g [.int a1, .int 0, .int 1] M) (fun x1 M1 => (bif cEq0 x1 then some (some (.int (-1)), M1) else (zbI (X_X6_bestMix g [.ref 32] M1) (fun x2 M2 => (bif cEq0 a1 then some (some (.int x2), M2) else (zbI (X_X6_mixWorth g [.ref 32, .int x2] M2) (fun x3 M3 => some (some (.int x3), M3))))))))) := by
  refine Eq.trans (zX_rgN (tl_X11_mixes g) (hc_X11_mixes g) 19 _ _ _ _) ?_
  refine Eq.trans (Eq.trans (r_0 (act := oS (fIld 1 1)) rfl) (a_ild rfl)) ?_
  refine Eq.trans (Eq.trans (r_go (act := oS (fSt 2 (gC (.int 0)))) rfl rfl) (a_C)) ?_
  refine Eq.trans (Eq.trans (r_go (act := oS (fSt 3 (gC (.int 1)))) rfl rfl) (a_C)) ?_
  refine Eq.trans (Eq.trans (r_go (act := oCI 6 3 zcs (X_X11_within g)) rfl rfl) (a_cI rfl rfl)) (zbI_cg (fun x1 M1 => ?_))
  refine Eq.trans (Eq.trans (r_go (act := oS (fIf 9 11 cEq0)) rfl rfl) (a_if)) (bcg ?_ ?_)
  · refine Eq.trans (Eq.trans (r_go (act := oS (fSt 10 (gC (.int (-1))))) rfl rfl) (a_C)) ?_
    exact Eq.trans (r_go (act := oIret) rfl rfl) (a_iret)
  · refine Eq.trans (Eq.trans (r_go (act := oS (fAld 12 0)) rfl rfl) (a_ald rfl)) ?_
    refine Eq.trans (Eq.trans (r_go (act := oS (fGr g 15 11 1)) rfl rfl) (a_gr (zO_0 g) (zR_0_1 g))) ?_
    refine Eq.trans (Eq.trans (r_go (act := oS (fGr g 18 10 6)) rfl rfl) (a_gr (zO_6 g) (zR_6_6 g))) ?_
    refine Eq.trans (Eq.trans (r_go (act := oCI 21 1 (zcv g 6) (X_X6_bestMix g)) rfl rfl) (a_cI rfl (zck (zO_32 g) rfl))) (zbI_cg (fun x2 M2 => ?_))
    refine Eq.trans (Eq.trans (r_go (act := oS (fIst 22 2)) rfl rfl) (a_ist rfl rfl)) ?_
    refine Eq.trans (Eq.trans (r_go (act := oS (fIld 23 1)) rfl rfl) (a_ild rfl)) ?_
    refine Eq.trans (Eq.trans (r_go (act := oS (fIf 26 30 cEq0)) rfl rfl) (a_if)) (bcg ?_ ?_)
    · refine Eq.trans (Eq.trans (r_go (act := oS (fIld 27 2)) rfl rfl) (a_ild rfl)) ?_
      refine Eq.trans (Eq.trans (r_go (act := oS (fGo 41)) rfl rfl) (a_goto)) ?_
      exact Eq.trans (r_go (act := oIret) rfl rfl) (a_iret)
    · refine Eq.trans (Eq.trans (r_go (act := oS (fAld 31 0)) rfl rfl) (a_ald rfl)) ?_
      refine Eq.trans (Eq.trans (r_go (act := oS (fGr g 34 11 1)) rfl rfl) (a_gr (zO_0 g) (zR_0_1 g))) ?_
      refine Eq.trans (Eq.trans (r_go (act := oS (fGr g 37 10 6)) rfl rfl) (a_gr (zO_6 g) (zR_6_6 g))) ?_
      refine Eq.trans (Eq.trans (r_go (act := oS (fIld 38 2)) rfl rfl) (a_ild rfl)) ?_
      refine Eq.trans (Eq.trans (r_go (act := oCI 41 2 (zcv g 6) (X_X6_mixWorth g)) rfl rfl) (a_cI rfl (zck (zO_32 g) rfl))) (zbI_cg (fun x3 M3 => ?_))
      exact Eq.trans (r_go (act := oIret) rfl rfl) (a_iret)
theorem x_X11_mixes_0 (g : zg) (a1 : Int32) (M : zM) : X_X11_mixes g [.ref 0, .int a1] M = (zbI (X_X11_within g [.int a1, .int 0, .int 1] M) (fun x1 M1 => (bif cEq0 x1 then some (some (.int (-1)), M1) else (zbI (X_X6_bestMix g [.ref 32] M1) (fun x2 M2 => (bif cEq0 a1 then some (some (.int x2), M2) else (zbI (X_X6_mixWorth g [.ref 32, .int x2] M2) (fun x3 M3 => some (some (.int x3), M3))))))))) := e_X11_mixes_0 g a1 M
set_option maxRecDepth 20000 in
theorem e_X2_goodTap_0 (g : zg) (a1 : Int32) (M : zM) : zX (t_X2_goodTap g) 0 [some (.ref 7), some (.int a1), none, none, none, none] [] M = zX (t_X2_goodTap g) 4 [some (.ref 7), some (.int a1), some (.int 0), some (.int 0), none, none] [] M := by
  refine Eq.trans (zX_rgN (tl_X2_goodTap g) (hc_X2_goodTap g) 6 _ _ _ _) ?_
  refine Eq.trans (Eq.trans (r_0 (act := oS (fSt 1 (gC (.int 0)))) rfl) (a_C)) ?_
  refine Eq.trans (Eq.trans (r_go (act := oS (fIst 2 2)) rfl rfl) (a_ist rfl rfl)) ?_
  refine Eq.trans (Eq.trans (r_go (act := oS (fSt 3 (gC (.int 0)))) rfl rfl) (a_C)) ?_
  refine Eq.trans (Eq.trans (r_go (act := oS (fIst 4 3)) rfl rfl) (a_ist rfl rfl)) ?_
  exact r_cut rfl rfl
theorem x_X2_goodTap_0 (g : zg) (a1 : Int32) (M : zM) : X_X2_goodTap g [.ref 7, .int a1] M = zX (t_X2_goodTap g) 4 [some (.ref 7), some (.int a1), some (.int 0), some (.int 0), none, none] [] M := e_X2_goodTap_0 g a1 M
set_option maxRecDepth 20000 in
theorem e_X2_goodTap_4 (g : zg) (a1 : Int32) (a2 : Int32) (a3 : Int32) (M : zM) : zX (t_X2_goodTap g) 4 [some (.ref 7), some (.int a1), some (.int a2), some (.int a3), none, none] [] M = (bif cLt a3 (M.1 7 2) then (zbI (X_X3_serving g [.ref 7, .int a3] M) (fun x1 M1 => (bif cEq0 x1 then zX (t_X2_goodTap g) 4 [some (.ref 7), some (.int a1), some (.int (a2 ^^^ 0)), some (.int (a3 + 1)), none, none] [] M1 else (zbI (X_X3_get g [.ref 7, .int a3, .int 1] M1) (fun x2 M2 => zX (t_X2_goodTap g) 4 [some (.ref 7), some (.int a1), some (.int (a2 ^^^ (x2 - x2 / 3 * 3))), some (.int (a3 + 1)), none, none] [] M2))))) else zX (t_X2_goodTap g) 43 [some (.ref 7), some (.int a1), some (.int a2), some (.int 0), none, none] [] M) := by
  refine Eq.trans (zX_rgN (tl_X2_goodTap g) (hc_X2_goodTap g) 22 _ _ _ _) ?_
  refine Eq.trans (Eq.trans (Eq.trans (r_0 (act := oF [4, 5] (oS (fIld 5 3))) rfl) (a_F rfl)) (a_ild rfl)) ?_
  refine Eq.trans (Eq.trans (r_go (act := oS (fAld 6 0)) rfl rfl) (a_ald rfl)) ?_
  refine Eq.trans (Eq.trans (r_go (act := oS (fGi g 9 3 2)) rfl rfl) (a_gi (zO_7 g))) ?_
  refine Eq.trans (Eq.trans (r_go (act := oS (fCm 12 41 cLt)) rfl rfl) (a_cm)) (bcg ?_ ?_)
  · refine Eq.trans (Eq.trans (r_go (act := oS (fIld 13 2)) rfl rfl) (a_ild rfl)) ?_
    refine Eq.trans (Eq.trans (r_go (act := oS (fAld 14 0)) rfl rfl) (a_ald rfl)) ?_
    refine Eq.trans (Eq.trans (r_go (act := oS (fIld 15 3)) rfl rfl) (a_ild rfl)) ?_
    refine Eq.trans (Eq.trans (r_go (act := oCI 18 2 (zcv g 3) (X_X3_serving g)) rfl rfl) (a_cI rfl (zck (zO_7 g) rfl))) (zbI_cg (fun x1 M1 => ?_))
    refine Eq.trans (Eq.trans (r_go (act := oS (fIf 32 21 cEq0)) rfl rfl) (a_if)) (bcg ?_ ?_)
    · refine Eq.trans (Eq.trans (r_go (act := oS (fSt 33 (gC (.int 0)))) rfl rfl) (a_C)) ?_
      refine Eq.trans (Eq.trans (r_go (act := oS (fSt 34 (g2 (fun x y => x ^^^ y)))) rfl rfl) (a_xor)) ?_
      refine Eq.trans (Eq.trans (r_go (act := oS (fIst 35 2)) rfl rfl) (a_ist rfl rfl)) ?_
      refine Eq.trans (Eq.trans (r_go (act := oS (fInc 38 3 1)) rfl rfl) (a_inc rfl rfl rfl)) ?_
      refine Eq.trans (Eq.trans (r_go (act := oS (fGo 4)) rfl rfl) (a_goto)) ?_
      exact r_cut rfl rfl
    · refine Eq.trans (Eq.trans (r_go (act := oS (fAld 22 0)) rfl rfl) (a_ald rfl)) ?_
      refine Eq.trans (Eq.trans (r_go (act := oS (fIld 23 3)) rfl rfl) (a_ild rfl)) ?_
      refine Eq.trans (Eq.trans (r_go (act := oS (fSt 24 (gC (.int 1)))) rfl rfl) (a_C)) ?_
      refine Eq.trans (Eq.trans (r_go (act := oCI 27 3 (zcv g 3) (X_X3_get g)) rfl rfl) (a_cI rfl (zck (zO_7 g) rfl))) (zbI_cg (fun x2 M2 => ?_))
      refine Eq.trans (Eq.trans (r_go (act := oS (fSt 28 (gC (.int 3)))) rfl rfl) (a_C)) ?_
      refine Eq.trans (Eq.trans (r_go (act := oS (fRem 29)) rfl rfl) (a_rem)) (Eq.trans (bcT (by decide)) ?_)
      refine Eq.trans (Eq.trans (r_go (act := oS (fGo 33)) rfl rfl) (a_goto)) ?_
      refine Eq.trans (Eq.trans (r_go (act := oS (fSt 34 (g2 (fun x y => x ^^^ y)))) rfl rfl) (a_xor)) ?_
      refine Eq.trans (Eq.trans (r_go (act := oS (fIst 35 2)) rfl rfl) (a_ist rfl rfl)) ?_
      refine Eq.trans (Eq.trans (r_go (act := oS (fInc 38 3 1)) rfl rfl) (a_inc rfl rfl rfl)) ?_
      refine Eq.trans (Eq.trans (r_go (act := oS (fGo 4)) rfl rfl) (a_goto)) ?_
      exact r_cut rfl rfl
  · refine Eq.trans (Eq.trans (r_go (act := oS (fSt 42 (gC (.int 0)))) rfl rfl) (a_C)) ?_
    refine Eq.trans (Eq.trans (r_go (act := oS (fIst 43 3)) rfl rfl) (a_ist rfl rfl)) ?_
    exact r_cut rfl rfl
set_option maxRecDepth 20000 in
theorem e_X2_goodTap_43 (g : zg) (a1 : Int32) (a2 : Int32) (a3 : Int32) (M : zM) : zX (t_X2_goodTap g) 43 [some (.ref 7), some (.int a1), some (.int a2), some (.int a3), none, none] [] M = (bif cLt a3 (M.1 7 2) then (zbI (X_X3_get g [.ref 7, .int a3, .int 1] M) (fun x1 M1 => zX (t_X2_goodTap g) 62 [some (.ref 7), some (.int a1), some (.int a2), some (.int a3), some (.int x1), some (.int 1)] [] M1)) else some (some (.int (-1)), M)) := by
  refine Eq.trans (zX_rgN (tl_X2_goodTap g) (hc_X2_goodTap g) 13 _ _ _ _) ?_
  refine Eq.trans (Eq.trans (Eq.trans (r_0 (act := oF [4, 5] (oS (fIld 44 3))) rfl) (a_F rfl)) (a_ild rfl)) ?_
  refine Eq.trans (Eq.trans (r_go (act := oS (fAld 45 0)) rfl rfl) (a_ald rfl)) ?_
  refine Eq.trans (Eq.trans (r_go (act := oS (fGi g 48 3 2)) rfl rfl) (a_gi (zO_7 g))) ?_
  refine Eq.trans (Eq.trans (r_go (act := oS (fCm 51 123 cLt)) rfl rfl) (a_cm)) (bcg ?_ ?_)
  · refine Eq.trans (Eq.trans (r_go (act := oS (fAld 52 0)) rfl rfl) (a_ald rfl)) ?_
    refine Eq.trans (Eq.trans (r_go (act := oS (fIld 53 3)) rfl rfl) (a_ild rfl)) ?_
    refine Eq.trans (Eq.trans (r_go (act := oS (fSt 54 (gC (.int 1)))) rfl rfl) (a_C)) ?_
    refine Eq.trans (Eq.trans (r_go (act := oCI 57 3 (zcv g 3) (X_X3_get g)) rfl rfl) (a_cI rfl (zck (zO_7 g) rfl))) (zbI_cg (fun x1 M1 => ?_))
    refine Eq.trans (Eq.trans (r_go (act := oS (fIst 59 4)) rfl rfl) (a_ist rfl rfl)) ?_
    refine Eq.trans (Eq.trans (r_go (act := oS (fSt 60 (gC (.int 1)))) rfl rfl) (a_C)) ?_
    refine Eq.trans (Eq.trans (r_go (act := oS (fIst 62 5)) rfl rfl) (a_ist rfl rfl)) ?_
    exact r_cut rfl rfl
  · refine Eq.trans (Eq.trans (r_go (act := oS (fSt 124 (gC (.int (-1))))) rfl rfl) (a_C)) ?_
    exact Eq.trans (r_go (act := oIret) rfl rfl) (a_iret)
set_option maxRecDepth 20000 in
theorem e_X2_goodTap_62 (g : zg) (a1 : Int32) (a2 : Int32) (a3 : Int32) (a4 : Int32) (a5 : Int32) (M : zM) : zX (t_X2_goodTap g) 62 [some (.ref 7), some (.int a1), some (.int a2), some (.int a3), some (.int a4), some (.int a5)] [] M = (bif cGt a5 2 then zX (t_X2_goodTap g) 43 [some (.ref 7), some (.int a1), some (.int a2), some (.int (a3 + 1)), none, none] [] M else (bif cGt a5 a4 then zX (t_X2_goodTap g) 43 [some (.ref 7), some (.int a1), some (.int a2), some (.int (a3 + 1)), none, none] [] M else (zbI (X_X3_serving g [.ref 7, .int a3] M) (fun x1 M1 => (bif cEq0 x1 then zX (t_X2_goodTap g) 43 [some (.ref 7), some (.int a1), some (.int a2), some (.int (a3 + 1)), none, none] [] M1 else (bif cEq0 ((a2 ^^^ (a4 - a4 / 3 * 3)) ^^^ ((a4 - a5) - (a4 - a5) / 3 * 3)) then (bif cEq0 a1 then some (some (.int a3), M1) else some (some (.int a5), M1)) else zX (t_X2_goodTap g) 62 [some (.ref 7), some (.int a1), some (.int a2), some (.int a3), some (.int a4), some (.int (a5 + 1))] [] M1)))))) := by
  refine Eq.trans (zX_rgN (tl_X2_goodTap g) (hc_X2_goodTap g) 28 _ _ _ _) ?_
  refine Eq.trans (Eq.trans (Eq.trans (r_0 (act := oF [] (oS (fIld 64 5))) rfl) (a_F rfl)) (a_ild rfl)) ?_
  refine Eq.trans (Eq.trans (r_go (act := oS (fSt 65 (gC (.int 2)))) rfl rfl) (a_C)) ?_
  refine Eq.trans (Eq.trans (r_go (act := oS (fCm 117 68 cGt)) rfl rfl) (a_cm)) (bcg ?_ ?_)
  · refine Eq.trans (Eq.trans (r_go (act := oS (fInc 120 3 1)) rfl rfl) (a_inc rfl rfl rfl)) ?_
    refine Eq.trans (Eq.trans (r_go (act := oS (fGo 43)) rfl rfl) (a_goto)) ?_
    exact r_cut rfl rfl
  · refine Eq.trans (Eq.trans (r_go (act := oS (fIld 70 5)) rfl rfl) (a_ild rfl)) ?_
    refine Eq.trans (Eq.trans (r_go (act := oS (fIld 72 4)) rfl rfl) (a_ild rfl)) ?_
    refine Eq.trans (Eq.trans (r_go (act := oS (fCm 117 75 cGt)) rfl rfl) (a_cm)) (bcg ?_ ?_)
    · refine Eq.trans (Eq.trans (r_go (act := oS (fInc 120 3 1)) rfl rfl) (a_inc rfl rfl rfl)) ?_
      refine Eq.trans (Eq.trans (r_go (act := oS (fGo 43)) rfl rfl) (a_goto)) ?_
      exact r_cut rfl rfl
    · refine Eq.trans (Eq.trans (r_go (act := oS (fAld 76 0)) rfl rfl) (a_ald rfl)) ?_
      refine Eq.trans (Eq.trans (r_go (act := oS (fIld 77 3)) rfl rfl) (a_ild rfl)) ?_
      refine Eq.trans (Eq.trans (r_go (act := oCI 80 2 (zcv g 3) (X_X3_serving g)) rfl rfl) (a_cI rfl (zck (zO_7 g) rfl))) (zbI_cg (fun x1 M1 => ?_))
      refine Eq.trans (Eq.trans (r_go (act := oS (fIf 117 83 cEq0)) rfl rfl) (a_if)) (bcg ?_ ?_)
      · refine Eq.trans (Eq.trans (r_go (act := oS (fInc 120 3 1)) rfl rfl) (a_inc rfl rfl rfl)) ?_
        refine Eq.trans (Eq.trans (r_go (act := oS (fGo 43)) rfl rfl) (a_goto)) ?_
        exact r_cut rfl rfl
      · refine Eq.trans (Eq.trans (r_go (act := oS (fIld 84 2)) rfl rfl) (a_ild rfl)) ?_
        refine Eq.trans (Eq.trans (r_go (act := oS (fIld 86 4)) rfl rfl) (a_ild rfl)) ?_
        refine Eq.trans (Eq.trans (r_go (act := oS (fSt 87 (gC (.int 3)))) rfl rfl) (a_C)) ?_
        refine Eq.trans (Eq.trans (r_go (act := oS (fRem 88)) rfl rfl) (a_rem)) (Eq.trans (bcT (by decide)) ?_)
        refine Eq.trans (Eq.trans (r_go (act := oS (fSt 89 (g2 (fun x y => x ^^^ y)))) rfl rfl) (a_xor)) ?_
        refine Eq.trans (Eq.trans (r_go (act := oS (fIld 91 4)) rfl rfl) (a_ild rfl)) ?_
        refine Eq.trans (Eq.trans (r_go (act := oS (fIld 93 5)) rfl rfl) (a_ild rfl)) ?_
        refine Eq.trans (Eq.trans (r_go (act := oS (fSt 94 (g2 (fun x y => x - y)))) rfl rfl) (a_sub)) ?_
        refine Eq.trans (Eq.trans (r_go (act := oS (fSt 95 (gC (.int 3)))) rfl rfl) (a_C)) ?_
        refine Eq.trans (Eq.trans (r_go (act := oS (fRem 96)) rfl rfl) (a_rem)) (Eq.trans (bcT (by decide)) ?_)
        refine Eq.trans (Eq.trans (r_go (act := oS (fSt 97 (g2 (fun x y => x ^^^ y)))) rfl rfl) (a_xor)) ?_
        refine Eq.trans (Eq.trans (r_go (act := oS (fIf 100 111 cEq0)) rfl rfl) (a_if)) (bcg ?_ ?_)
        · refine Eq.trans (Eq.trans (r_go (act := oS (fIld 101 1)) rfl rfl) (a_ild rfl)) ?_
          refine Eq.trans (Eq.trans (r_go (act := oS (fIf 109 104 cEq0)) rfl rfl) (a_if)) (bcg ?_ ?_)
          · refine Eq.trans (Eq.trans (r_go (act := oS (fIld 110 3)) rfl rfl) (a_ild rfl)) ?_
            exact Eq.trans (r_go (act := oIret) rfl rfl) (a_iret)
          · refine Eq.trans (Eq.trans (r_go (act := oS (fIld 106 5)) rfl rfl) (a_ild rfl)) ?_
            refine Eq.trans (Eq.trans (r_go (act := oS (fGo 110)) rfl rfl) (a_goto)) ?_
            exact Eq.trans (r_go (act := oIret) rfl rfl) (a_iret)
        · refine Eq.trans (Eq.trans (r_go (act := oS (fInc 114 5 1)) rfl rfl) (a_inc rfl rfl rfl)) ?_
          refine Eq.trans (Eq.trans (r_go (act := oS (fGo 62)) rfl rfl) (a_goto)) ?_
          exact r_cut rfl rfl
set_option maxRecDepth 20000 in
theorem e_X11_game_0 (g : zg) (a1 : Int32) (M : zM) : zX (t_X11_game g) 0 [some (.ref 0), some (.int a1)] [] M = (zbI (X_X11_within g [.int a1, .int 0, .int 1] M) (fun x1 M1 => (bif cEq0 x1 then some (some (.int (-1)), M1) else (bif cEq a1 1 then (zbI (X_X2_goodTap g [.ref 7, .int 1] M1) (fun x2 M2 => some (some (.int x2), M2))) else (zbI (X_X2_goodTap g [.ref 7, .int 0] M1) (fun x3 M3 => some (some (.int x3), M3))))))) := by
  refine Eq.trans (zX_rgN (tl_X11_game g) (hc_X11_game g) 16 _ _ _ _) ?_
  refine Eq.trans (Eq.trans (r_0 (act := oS (fIld 1 1)) rfl) (a_ild rfl)) ?_
  refine Eq.trans (Eq.trans (r_go (act := oS (fSt 2 (gC (.int 0)))) rfl rfl) (a_C)) ?_
  refine Eq.trans (Eq.trans (r_go (act := oS (fSt 3 (gC (.int 1)))) rfl rfl) (a_C)) ?_
  refine Eq.trans (Eq.trans (r_go (act := oCI 6 3 zcs (X_X11_within g)) rfl rfl) (a_cI rfl rfl)) (zbI_cg (fun x1 M1 => ?_))
  refine Eq.trans (Eq.trans (r_go (act := oS (fIf 9 11 cEq0)) rfl rfl) (a_if)) (bcg ?_ ?_)
  · refine Eq.trans (Eq.trans (r_go (act := oS (fSt 10 (gC (.int (-1))))) rfl rfl) (a_C)) ?_
    exact Eq.trans (r_go (act := oIret) rfl rfl) (a_iret)
  · refine Eq.trans (Eq.trans (r_go (act := oS (fAld 12 0)) rfl rfl) (a_ald rfl)) ?_
    refine Eq.trans (Eq.trans (r_go (act := oS (fGr g 15 11 1)) rfl rfl) (a_gr (zO_0 g) (zR_0_1 g))) ?_
    refine Eq.trans (Eq.trans (r_go (act := oS (fGr g 18 10 0)) rfl rfl) (a_gr (zO_6 g) (zR_6_0 g))) ?_
    refine Eq.trans (Eq.trans (r_go (act := oS (fIld 19 1)) rfl rfl) (a_ild rfl)) ?_
    refine Eq.trans (Eq.trans (r_go (act := oS (fSt 20 (gC (.int 1)))) rfl rfl) (a_C)) ?_
    refine Eq.trans (Eq.trans (r_go (act := oS (fCm 23 27 cEq)) rfl rfl) (a_cm)) (bcg ?_ ?_)
    · refine Eq.trans (Eq.trans (r_go (act := oS (fSt 24 (gC (.int 1)))) rfl rfl) (a_C)) ?_
      refine Eq.trans (Eq.trans (r_go (act := oS (fGo 28)) rfl rfl) (a_goto)) ?_
      refine Eq.trans (Eq.trans (r_go (act := oCI 31 2 zcs (X_X2_goodTap g)) rfl rfl) (a_cI rfl rfl)) (zbI_cg (fun x2 M2 => ?_))
      exact Eq.trans (r_go (act := oIret) rfl rfl) (a_iret)
    · refine Eq.trans (Eq.trans (r_go (act := oS (fSt 28 (gC (.int 0)))) rfl rfl) (a_C)) ?_
      refine Eq.trans (Eq.trans (r_go (act := oCI 31 2 zcs (X_X2_goodTap g)) rfl rfl) (a_cI rfl rfl)) (zbI_cg (fun x3 M3 => ?_))
      exact Eq.trans (r_go (act := oIret) rfl rfl) (a_iret)
theorem x_X11_game_0 (g : zg) (a1 : Int32) (M : zM) : X_X11_game g [.ref 0, .int a1] M = (zbI (X_X11_within g [.int a1, .int 0, .int 1] M) (fun x1 M1 => (bif cEq0 x1 then some (some (.int (-1)), M1) else (bif cEq a1 1 then (zbI (X_X2_goodTap g [.ref 7, .int 1] M1) (fun x2 M2 => some (some (.int x2), M2))) else (zbI (X_X2_goodTap g [.ref 7, .int 0] M1) (fun x3 M3 => some (some (.int x3), M3))))))) := e_X11_game_0 g a1 M
set_option maxRecDepth 20000 in
theorem e_X8_back_0 (g : zg) (M : zM) : zX (t_X8_back g) 0 [some (.ref 42), some (.ref 7), none] [] M = (bif cGt0 (M.1 42 2) then (bif cGt0 (M.1 42 1) then (bif cEq ((M.1 42 1) - 1) 0 then (zbV (X_X3_take g [.ref 7, .ref 44] ((zu (zu M.1 42 1 ((M.1 42 1) - 1)) 42 2 ((M.1 42 2) - 1)), M.2)) (fun M1 => some (some (.int 1), M1))) else (bif cEq ((M.1 42 1) - 1) 1 then (zbV (X_X3_take g [.ref 7, .ref 46] ((zu (zu M.1 42 1 ((M.1 42 1) - 1)) 42 2 ((M.1 42 2) - 1)), M.2)) (fun M2 => some (some (.int 1), M2))) else (bif cEq ((M.1 42 1) - 1) 2 then (zbV (X_X3_take g [.ref 7, .ref 48] ((zu (zu M.1 42 1 ((M.1 42 1) - 1)) 42 2 ((M.1 42 2) - 1)), M.2)) (fun M3 => some (some (.int 1), M3))) else (bif cEq ((M.1 42 1) - 1) 3 then (zbV (X_X3_take g [.ref 7, .ref 50] ((zu (zu M.1 42 1 ((M.1 42 1) - 1)) 42 2 ((M.1 42 2) - 1)), M.2)) (fun M4 => some (some (.int 1), M4))) else (bif cEq ((M.1 42 1) - 1) 4 then (zbV (X_X3_take g [.ref 7, .ref 52] ((zu (zu M.1 42 1 ((M.1 42 1) - 1)) 42 2 ((M.1 42 2) - 1)), M.2)) (fun M5 => some (some (.int 1), M5))) else (bif cEq ((M.1 42 1) - 1) 5 then (zbV (X_X3_take g [.ref 7, .ref 54] ((zu (zu M.1 42 1 ((M.1 42 1) - 1)) 42 2 ((M.1 42 2) - 1)), M.2)) (fun M6 => some (some (.int 1), M6))) else none)))))) else (bif cEq 5 0 then (zbV (X_X3_take g [.ref 7, .ref 44] ((zu (zu M.1 42 1 5) 42 2 ((M.1 42 2) - 1)), M.2)) (fun M7 => some (some (.int 1), M7))) else (bif cEq 5 1 then (zbV (X_X3_take g [.ref 7, .ref 46] ((zu (zu M.1 42 1 5) 42 2 ((M.1 42 2) - 1)), M.2)) (fun M8 => some (some (.int 1), M8))) else (bif cEq 5 2 then (zbV (X_X3_take g [.ref 7, .ref 48] ((zu (zu M.1 42 1 5) 42 2 ((M.1 42 2) - 1)), M.2)) (fun M9 => some (some (.int 1), M9))) else (bif cEq 5 3 then (zbV (X_X3_take g [.ref 7, .ref 50] ((zu (zu M.1 42 1 5) 42 2 ((M.1 42 2) - 1)), M.2)) (fun M10 => some (some (.int 1), M10))) else (bif cEq 5 4 then (zbV (X_X3_take g [.ref 7, .ref 52] ((zu (zu M.1 42 1 5) 42 2 ((M.1 42 2) - 1)), M.2)) (fun M11 => some (some (.int 1), M11))) else (bif cEq 5 5 then (zbV (X_X3_take g [.ref 7, .ref 54] ((zu (zu M.1 42 1 5) 42 2 ((M.1 42 2) - 1)), M.2)) (fun M12 => some (some (.int 1), M12))) else none))))))) else some (some (.int 0), M)) := by
  refine Eq.trans (zX_rgN (tl_X8_back g) (hc_X8_back g) 33 _ _ _ _) ?_
  refine Eq.trans (Eq.trans (r_0 (act := oS (fAld 1 0)) rfl) (a_ald rfl)) ?_
  refine Eq.trans (Eq.trans (r_go (act := oS (fGi g 4 8 2)) rfl rfl) (a_gi (zO_42 g))) ?_
  refine Eq.trans (Eq.trans (r_go (act := oS (fIf 9 7 cGt0)) rfl rfl) (a_if)) (bcg ?_ ?_)
  · refine Eq.trans (Eq.trans (r_go (act := oS (fAld 10 0)) rfl rfl) (a_ald rfl)) ?_
    refine Eq.trans (Eq.trans (r_go (act := oS (fAld 11 0)) rfl rfl) (a_ald rfl)) ?_
    refine Eq.trans (Eq.trans (r_go (act := oS (fGi g 14 8 1)) rfl rfl) (a_gi (zO_42 g))) ?_
    refine Eq.trans (Eq.trans (r_go (act := oS (fIf 17 26 cGt0)) rfl rfl) (a_if)) (bcg ?_ ?_)
    · refine Eq.trans (Eq.trans (r_go (act := oS (fAld 18 0)) rfl rfl) (a_ald rfl)) ?_
      refine Eq.trans (Eq.trans (r_go (act := oS (fGi g 21 8 1)) rfl rfl) (a_gi (zO_42 g))) ?_
      refine Eq.trans (Eq.trans (r_go (act := oS (fSt 22 (gC (.int 1)))) rfl rfl) (a_C)) ?_
      refine Eq.trans (Eq.trans (r_go (act := oS (fSt 23 (g2 (fun x y => x - y)))) rfl rfl) (a_sub)) ?_
      refine Eq.trans (Eq.trans (r_go (act := oS (fGo 27)) rfl rfl) (a_goto)) ?_
      refine Eq.trans (Eq.trans (r_go (act := oS (fPi g 30 8 1)) rfl rfl) (a_pi (zO_42 g))) ?_
      refine Eq.trans (Eq.trans (r_go (act := oS (fAld 31 0)) rfl rfl) (a_ald rfl)) ?_
      refine Eq.trans (Eq.trans (r_go (act := oS (fSt 32 gDup)) rfl rfl) (a_dupR)) ?_
      refine Eq.trans (Eq.trans (r_go (act := oS (fGi g 35 8 2)) rfl rfl) (a_giV (zO_42 g) rfl)) ?_
      refine Eq.trans (Eq.trans (r_go (act := oS (fSt 36 (gC (.int 1)))) rfl rfl) (a_C)) ?_
      refine Eq.trans (Eq.trans (r_go (act := oS (fSt 37 (g2 (fun x y => x - y)))) rfl rfl) (a_sub)) ?_
      refine Eq.trans (Eq.trans (r_go (act := oS (fPi g 40 8 2)) rfl rfl) (a_pi (zO_42 g))) ?_
      refine Eq.trans (Eq.trans (r_go (act := oS (fAld 41 0)) rfl rfl) (a_ald rfl)) ?_
      refine Eq.trans (Eq.trans (r_go (act := oS (fGr g 44 8 0)) rfl rfl) (a_gr (zO_42 g) (zR_42_0 g))) ?_
      refine Eq.trans (Eq.trans (r_go (act := oS (fAld 45 0)) rfl rfl) (a_ald rfl)) ?_
      refine Eq.trans (Eq.trans (r_go (act := oS (fGi g 48 8 1)) rfl rfl) (a_giV (zO_42 g) rfl)) ?_
      refine Eq.trans (Eq.trans (r_go (act := oAa g 49 43 [(0, 44), (1, 46), (2, 48), (3, 50), (4, 52), (5, 54)]) rfl rfl) (a_aa zAA)) ?_
      refine Eq.trans a_saC (bcg ?_ ?_)
      · refine Eq.trans (Eq.trans (r_go (act := oS (fAst 50 2)) rfl rfl) (a_ast rfl rfl)) ?_
        refine Eq.trans (Eq.trans (r_go (act := oS (fAld 51 2)) rfl rfl) (a_ald rfl)) ?_
        refine Eq.trans (Eq.trans (r_go (act := oS (fNul 59 54)) rfl rfl) (a_nulR)) ?_
        refine Eq.trans (Eq.trans (r_go (act := oS (fAld 55 1)) rfl rfl) (a_ald rfl)) ?_
        refine Eq.trans (Eq.trans (r_go (act := oS (fAld 56 2)) rfl rfl) (a_ald rfl)) ?_
        refine Eq.trans (Eq.trans (r_go (act := oCV 59 2 (zcv g 3) (X_X3_take g)) rfl rfl) (a_cV rfl (zck (zO_7 g) rfl))) (zbV_cg (fun M1 => ?_))
        refine Eq.trans (Eq.trans (r_go (act := oS (fSt 60 (gC (.int 1)))) rfl rfl) (a_C)) ?_
        exact Eq.trans (Eq.trans (r_go (act := oZret) rfl rfl) a_zret) (bcT (by decide +kernel))
      refine Eq.trans a_saC (bcg ?_ ?_)
      · refine Eq.trans (Eq.trans (r_go (act := oS (fAst 50 2)) rfl rfl) (a_ast rfl rfl)) ?_
        refine Eq.trans (Eq.trans (r_go (act := oS (fAld 51 2)) rfl rfl) (a_ald rfl)) ?_
        refine Eq.trans (Eq.trans (r_go (act := oS (fNul 59 54)) rfl rfl) (a_nulR)) ?_
        refine Eq.trans (Eq.trans (r_go (act := oS (fAld 55 1)) rfl rfl) (a_ald rfl)) ?_
        refine Eq.trans (Eq.trans (r_go (act := oS (fAld 56 2)) rfl rfl) (a_ald rfl)) ?_
        refine Eq.trans (Eq.trans (r_go (act := oCV 59 2 (zcv g 3) (X_X3_take g)) rfl rfl) (a_cV rfl (zck (zO_7 g) rfl))) (zbV_cg (fun M2 => ?_))
        refine Eq.trans (Eq.trans (r_go (act := oS (fSt 60 (gC (.int 1)))) rfl rfl) (a_C)) ?_
        exact Eq.trans (Eq.trans (r_go (act := oZret) rfl rfl) a_zret) (bcT (by decide +kernel))
      refine Eq.trans a_saC (bcg ?_ ?_)
      · refine Eq.trans (Eq.trans (r_go (act := oS (fAst 50 2)) rfl rfl) (a_ast rfl rfl)) ?_
        refine Eq.trans (Eq.trans (r_go (act := oS (fAld 51 2)) rfl rfl) (a_ald rfl)) ?_
        refine Eq.trans (Eq.trans (r_go (act := oS (fNul 59 54)) rfl rfl) (a_nulR)) ?_
        refine Eq.trans (Eq.trans (r_go (act := oS (fAld 55 1)) rfl rfl) (a_ald rfl)) ?_
        refine Eq.trans (Eq.trans (r_go (act := oS (fAld 56 2)) rfl rfl) (a_ald rfl)) ?_
        refine Eq.trans (Eq.trans (r_go (act := oCV 59 2 (zcv g 3) (X_X3_take g)) rfl rfl) (a_cV rfl (zck (zO_7 g) rfl))) (zbV_cg (fun M3 => ?_))
        refine Eq.trans (Eq.trans (r_go (act := oS (fSt 60 (gC (.int 1)))) rfl rfl) (a_C)) ?_
        exact Eq.trans (Eq.trans (r_go (act := oZret) rfl rfl) a_zret) (bcT (by decide +kernel))
      refine Eq.trans a_saC (bcg ?_ ?_)
      · refine Eq.trans (Eq.trans (r_go (act := oS (fAst 50 2)) rfl rfl) (a_ast rfl rfl)) ?_
        refine Eq.trans (Eq.trans (r_go (act := oS (fAld 51 2)) rfl rfl) (a_ald rfl)) ?_
        refine Eq.trans (Eq.trans (r_go (act := oS (fNul 59 54)) rfl rfl) (a_nulR)) ?_
        refine Eq.trans (Eq.trans (r_go (act := oS (fAld 55 1)) rfl rfl) (a_ald rfl)) ?_
        refine Eq.trans (Eq.trans (r_go (act := oS (fAld 56 2)) rfl rfl) (a_ald rfl)) ?_
        refine Eq.trans (Eq.trans (r_go (act := oCV 59 2 (zcv g 3) (X_X3_take g)) rfl rfl) (a_cV rfl (zck (zO_7 g) rfl))) (zbV_cg (fun M4 => ?_))
        refine Eq.trans (Eq.trans (r_go (act := oS (fSt 60 (gC (.int 1)))) rfl rfl) (a_C)) ?_
        exact Eq.trans (Eq.trans (r_go (act := oZret) rfl rfl) a_zret) (bcT (by decide +kernel))
      refine Eq.trans a_saC (bcg ?_ ?_)
      · refine Eq.trans (Eq.trans (r_go (act := oS (fAst 50 2)) rfl rfl) (a_ast rfl rfl)) ?_
        refine Eq.trans (Eq.trans (r_go (act := oS (fAld 51 2)) rfl rfl) (a_ald rfl)) ?_
        refine Eq.trans (Eq.trans (r_go (act := oS (fNul 59 54)) rfl rfl) (a_nulR)) ?_
        refine Eq.trans (Eq.trans (r_go (act := oS (fAld 55 1)) rfl rfl) (a_ald rfl)) ?_
        refine Eq.trans (Eq.trans (r_go (act := oS (fAld 56 2)) rfl rfl) (a_ald rfl)) ?_
        refine Eq.trans (Eq.trans (r_go (act := oCV 59 2 (zcv g 3) (X_X3_take g)) rfl rfl) (a_cV rfl (zck (zO_7 g) rfl))) (zbV_cg (fun M5 => ?_))
        refine Eq.trans (Eq.trans (r_go (act := oS (fSt 60 (gC (.int 1)))) rfl rfl) (a_C)) ?_
        exact Eq.trans (Eq.trans (r_go (act := oZret) rfl rfl) a_zret) (bcT (by decide +kernel))
      refine Eq.trans a_saC (bcg ?_ ?_)
      · refine Eq.trans (Eq.trans (r_go (act := oS (fAst 50 2)) rfl rfl) (a_ast rfl rfl)) ?_
        refine Eq.trans (Eq.trans (r_go (act := oS (fAld 51 2)) rfl rfl) (a_ald rfl)) ?_
        refine Eq.trans (Eq.trans (r_go (act := oS (fNul 59 54)) rfl rfl) (a_nulR)) ?_
        refine Eq.trans (Eq.trans (r_go (act := oS (fAld 55 1)) rfl rfl) (a_ald rfl)) ?_
        refine Eq.trans (Eq.trans (r_go (act := oS (fAld 56 2)) rfl rfl) (a_ald rfl)) ?_
        refine Eq.trans (Eq.trans (r_go (act := oCV 59 2 (zcv g 3) (X_X3_take g)) rfl rfl) (a_cV rfl (zck (zO_7 g) rfl))) (zbV_cg (fun M6 => ?_))
        refine Eq.trans (Eq.trans (r_go (act := oS (fSt 60 (gC (.int 1)))) rfl rfl) (a_C)) ?_
        exact Eq.trans (Eq.trans (r_go (act := oZret) rfl rfl) a_zret) (bcT (by decide +kernel))
      exact a_saN
    · refine Eq.trans (Eq.trans (r_go (act := oS (fSt 27 (gC (.int 5)))) rfl rfl) (a_C)) ?_
      refine Eq.trans (Eq.trans (r_go (act := oS (fPi g 30 8 1)) rfl rfl) (a_pi (zO_42 g))) ?_
      refine Eq.trans (Eq.trans (r_go (act := oS (fAld 31 0)) rfl rfl) (a_ald rfl)) ?_
      refine Eq.trans (Eq.trans (r_go (act := oS (fSt 32 gDup)) rfl rfl) (a_dupR)) ?_
      refine Eq.trans (Eq.trans (r_go (act := oS (fGi g 35 8 2)) rfl rfl) (a_giV (zO_42 g) rfl)) ?_
      refine Eq.trans (Eq.trans (r_go (act := oS (fSt 36 (gC (.int 1)))) rfl rfl) (a_C)) ?_
      refine Eq.trans (Eq.trans (r_go (act := oS (fSt 37 (g2 (fun x y => x - y)))) rfl rfl) (a_sub)) ?_
      refine Eq.trans (Eq.trans (r_go (act := oS (fPi g 40 8 2)) rfl rfl) (a_pi (zO_42 g))) ?_
      refine Eq.trans (Eq.trans (r_go (act := oS (fAld 41 0)) rfl rfl) (a_ald rfl)) ?_
      refine Eq.trans (Eq.trans (r_go (act := oS (fGr g 44 8 0)) rfl rfl) (a_gr (zO_42 g) (zR_42_0 g))) ?_
      refine Eq.trans (Eq.trans (r_go (act := oS (fAld 45 0)) rfl rfl) (a_ald rfl)) ?_
      refine Eq.trans (Eq.trans (r_go (act := oS (fGi g 48 8 1)) rfl rfl) (a_giV (zO_42 g) rfl)) ?_
      refine Eq.trans (Eq.trans (r_go (act := oAa g 49 43 [(0, 44), (1, 46), (2, 48), (3, 50), (4, 52), (5, 54)]) rfl rfl) (a_aa zAA)) ?_
      refine Eq.trans a_saC (bcg ?_ ?_)
      · refine Eq.trans (Eq.trans (r_go (act := oS (fAst 50 2)) rfl rfl) (a_ast rfl rfl)) ?_
        refine Eq.trans (Eq.trans (r_go (act := oS (fAld 51 2)) rfl rfl) (a_ald rfl)) ?_
        refine Eq.trans (Eq.trans (r_go (act := oS (fNul 59 54)) rfl rfl) (a_nulR)) ?_
        refine Eq.trans (Eq.trans (r_go (act := oS (fAld 55 1)) rfl rfl) (a_ald rfl)) ?_
        refine Eq.trans (Eq.trans (r_go (act := oS (fAld 56 2)) rfl rfl) (a_ald rfl)) ?_
        refine Eq.trans (Eq.trans (r_go (act := oCV 59 2 (zcv g 3) (X_X3_take g)) rfl rfl) (a_cV rfl (zck (zO_7 g) rfl))) (zbV_cg (fun M7 => ?_))
        refine Eq.trans (Eq.trans (r_go (act := oS (fSt 60 (gC (.int 1)))) rfl rfl) (a_C)) ?_
        exact Eq.trans (Eq.trans (r_go (act := oZret) rfl rfl) a_zret) (bcT (by decide +kernel))
      refine Eq.trans a_saC (bcg ?_ ?_)
      · refine Eq.trans (Eq.trans (r_go (act := oS (fAst 50 2)) rfl rfl) (a_ast rfl rfl)) ?_
        refine Eq.trans (Eq.trans (r_go (act := oS (fAld 51 2)) rfl rfl) (a_ald rfl)) ?_
        refine Eq.trans (Eq.trans (r_go (act := oS (fNul 59 54)) rfl rfl) (a_nulR)) ?_
        refine Eq.trans (Eq.trans (r_go (act := oS (fAld 55 1)) rfl rfl) (a_ald rfl)) ?_
        refine Eq.trans (Eq.trans (r_go (act := oS (fAld 56 2)) rfl rfl) (a_ald rfl)) ?_
        refine Eq.trans (Eq.trans (r_go (act := oCV 59 2 (zcv g 3) (X_X3_take g)) rfl rfl) (a_cV rfl (zck (zO_7 g) rfl))) (zbV_cg (fun M8 => ?_))
        refine Eq.trans (Eq.trans (r_go (act := oS (fSt 60 (gC (.int 1)))) rfl rfl) (a_C)) ?_
        exact Eq.trans (Eq.trans (r_go (act := oZret) rfl rfl) a_zret) (bcT (by decide +kernel))
      refine Eq.trans a_saC (bcg ?_ ?_)
      · refine Eq.trans (Eq.trans (r_go (act := oS (fAst 50 2)) rfl rfl) (a_ast rfl rfl)) ?_
        refine Eq.trans (Eq.trans (r_go (act := oS (fAld 51 2)) rfl rfl) (a_ald rfl)) ?_
        refine Eq.trans (Eq.trans (r_go (act := oS (fNul 59 54)) rfl rfl) (a_nulR)) ?_
        refine Eq.trans (Eq.trans (r_go (act := oS (fAld 55 1)) rfl rfl) (a_ald rfl)) ?_
        refine Eq.trans (Eq.trans (r_go (act := oS (fAld 56 2)) rfl rfl) (a_ald rfl)) ?_
        refine Eq.trans (Eq.trans (r_go (act := oCV 59 2 (zcv g 3) (X_X3_take g)) rfl rfl) (a_cV rfl (zck (zO_7 g) rfl))) (zbV_cg (fun M9 => ?_))
        refine Eq.trans (Eq.trans (r_go (act := oS (fSt 60 (gC (.int 1)))) rfl rfl) (a_C)) ?_
        exact Eq.trans (Eq.trans (r_go (act := oZret) rfl rfl) a_zret) (bcT (by decide +kernel))
      refine Eq.trans a_saC (bcg ?_ ?_)
      · refine Eq.trans (Eq.trans (r_go (act := oS (fAst 50 2)) rfl rfl) (a_ast rfl rfl)) ?_
        refine Eq.trans (Eq.trans (r_go (act := oS (fAld 51 2)) rfl rfl) (a_ald rfl)) ?_
        refine Eq.trans (Eq.trans (r_go (act := oS (fNul 59 54)) rfl rfl) (a_nulR)) ?_
        refine Eq.trans (Eq.trans (r_go (act := oS (fAld 55 1)) rfl rfl) (a_ald rfl)) ?_
        refine Eq.trans (Eq.trans (r_go (act := oS (fAld 56 2)) rfl rfl) (a_ald rfl)) ?_
        refine Eq.trans (Eq.trans (r_go (act := oCV 59 2 (zcv g 3) (X_X3_take g)) rfl rfl) (a_cV rfl (zck (zO_7 g) rfl))) (zbV_cg (fun M10 => ?_))
        refine Eq.trans (Eq.trans (r_go (act := oS (fSt 60 (gC (.int 1)))) rfl rfl) (a_C)) ?_
        exact Eq.trans (Eq.trans (r_go (act := oZret) rfl rfl) a_zret) (bcT (by decide +kernel))
      refine Eq.trans a_saC (bcg ?_ ?_)
      · refine Eq.trans (Eq.trans (r_go (act := oS (fAst 50 2)) rfl rfl) (a_ast rfl rfl)) ?_
        refine Eq.trans (Eq.trans (r_go (act := oS (fAld 51 2)) rfl rfl) (a_ald rfl)) ?_
        refine Eq.trans (Eq.trans (r_go (act := oS (fNul 59 54)) rfl rfl) (a_nulR)) ?_
        refine Eq.trans (Eq.trans (r_go (act := oS (fAld 55 1)) rfl rfl) (a_ald rfl)) ?_
        refine Eq.trans (Eq.trans (r_go (act := oS (fAld 56 2)) rfl rfl) (a_ald rfl)) ?_
        refine Eq.trans (Eq.trans (r_go (act := oCV 59 2 (zcv g 3) (X_X3_take g)) rfl rfl) (a_cV rfl (zck (zO_7 g) rfl))) (zbV_cg (fun M11 => ?_))
        refine Eq.trans (Eq.trans (r_go (act := oS (fSt 60 (gC (.int 1)))) rfl rfl) (a_C)) ?_
        exact Eq.trans (Eq.trans (r_go (act := oZret) rfl rfl) a_zret) (bcT (by decide +kernel))
      refine Eq.trans a_saC (bcg ?_ ?_)
      · refine Eq.trans (Eq.trans (r_go (act := oS (fAst 50 2)) rfl rfl) (a_ast rfl rfl)) ?_
        refine Eq.trans (Eq.trans (r_go (act := oS (fAld 51 2)) rfl rfl) (a_ald rfl)) ?_
        refine Eq.trans (Eq.trans (r_go (act := oS (fNul 59 54)) rfl rfl) (a_nulR)) ?_
        refine Eq.trans (Eq.trans (r_go (act := oS (fAld 55 1)) rfl rfl) (a_ald rfl)) ?_
        refine Eq.trans (Eq.trans (r_go (act := oS (fAld 56 2)) rfl rfl) (a_ald rfl)) ?_
        refine Eq.trans (Eq.trans (r_go (act := oCV 59 2 (zcv g 3) (X_X3_take g)) rfl rfl) (a_cV rfl (zck (zO_7 g) rfl))) (zbV_cg (fun M12 => ?_))
        refine Eq.trans (Eq.trans (r_go (act := oS (fSt 60 (gC (.int 1)))) rfl rfl) (a_C)) ?_
        exact Eq.trans (Eq.trans (r_go (act := oZret) rfl rfl) a_zret) (bcT (by decide +kernel))
      exact a_saN
  · refine Eq.trans (Eq.trans (r_go (act := oS (fSt 8 (gC (.int 0)))) rfl rfl) (a_C)) ?_
    exact Eq.trans (Eq.trans (r_go (act := oZret) rfl rfl) a_zret) (bcT (by decide +kernel))
theorem x_X8_back_0 (g : zg) (M : zM) : X_X8_back g [.ref 42, .ref 7] M = (bif cGt0 (M.1 42 2) then (bif cGt0 (M.1 42 1) then (bif cEq ((M.1 42 1) - 1) 0 then (zbV (X_X3_take g [.ref 7, .ref 44] ((zu (zu M.1 42 1 ((M.1 42 1) - 1)) 42 2 ((M.1 42 2) - 1)), M.2)) (fun M1 => some (some (.int 1), M1))) else (bif cEq ((M.1 42 1) - 1) 1 then (zbV (X_X3_take g [.ref 7, .ref 46] ((zu (zu M.1 42 1 ((M.1 42 1) - 1)) 42 2 ((M.1 42 2) - 1)), M.2)) (fun M2 => some (some (.int 1), M2))) else (bif cEq ((M.1 42 1) - 1) 2 then (zbV (X_X3_take g [.ref 7, .ref 48] ((zu (zu M.1 42 1 ((M.1 42 1) - 1)) 42 2 ((M.1 42 2) - 1)), M.2)) (fun M3 => some (some (.int 1), M3))) else (bif cEq ((M.1 42 1) - 1) 3 then (zbV (X_X3_take g [.ref 7, .ref 50] ((zu (zu M.1 42 1 ((M.1 42 1) - 1)) 42 2 ((M.1 42 2) - 1)), M.2)) (fun M4 => some (some (.int 1), M4))) else (bif cEq ((M.1 42 1) - 1) 4 then (zbV (X_X3_take g [.ref 7, .ref 52] ((zu (zu M.1 42 1 ((M.1 42 1) - 1)) 42 2 ((M.1 42 2) - 1)), M.2)) (fun M5 => some (some (.int 1), M5))) else (bif cEq ((M.1 42 1) - 1) 5 then (zbV (X_X3_take g [.ref 7, .ref 54] ((zu (zu M.1 42 1 ((M.1 42 1) - 1)) 42 2 ((M.1 42 2) - 1)), M.2)) (fun M6 => some (some (.int 1), M6))) else none)))))) else (bif cEq 5 0 then (zbV (X_X3_take g [.ref 7, .ref 44] ((zu (zu M.1 42 1 5) 42 2 ((M.1 42 2) - 1)), M.2)) (fun M7 => some (some (.int 1), M7))) else (bif cEq 5 1 then (zbV (X_X3_take g [.ref 7, .ref 46] ((zu (zu M.1 42 1 5) 42 2 ((M.1 42 2) - 1)), M.2)) (fun M8 => some (some (.int 1), M8))) else (bif cEq 5 2 then (zbV (X_X3_take g [.ref 7, .ref 48] ((zu (zu M.1 42 1 5) 42 2 ((M.1 42 2) - 1)), M.2)) (fun M9 => some (some (.int 1), M9))) else (bif cEq 5 3 then (zbV (X_X3_take g [.ref 7, .ref 50] ((zu (zu M.1 42 1 5) 42 2 ((M.1 42 2) - 1)), M.2)) (fun M10 => some (some (.int 1), M10))) else (bif cEq 5 4 then (zbV (X_X3_take g [.ref 7, .ref 52] ((zu (zu M.1 42 1 5) 42 2 ((M.1 42 2) - 1)), M.2)) (fun M11 => some (some (.int 1), M11))) else (bif cEq 5 5 then (zbV (X_X3_take g [.ref 7, .ref 54] ((zu (zu M.1 42 1 5) 42 2 ((M.1 42 2) - 1)), M.2)) (fun M12 => some (some (.int 1), M12))) else none))))))) else some (some (.int 0), M)) := e_X8_back_0 g M
set_option maxRecDepth 20000 in
theorem e_X11_undo_0 (g : zg) (M : zM) : zX (t_X11_undo g) 0 [some (.ref 0)] [] M = (zbI (X_X8_back g [.ref 42, .ref 7] M) (fun x1 M1 => (bif cEq (x1 &&& 1) x1 then some (some (.int x1), M1) else none))) := by
  refine Eq.trans (zX_rgN (tl_X11_undo g) (hc_X11_undo g) 8 _ _ _ _) ?_
  refine Eq.trans (Eq.trans (r_0 (act := oS (fAld 1 0)) rfl) (a_ald rfl)) ?_
  refine Eq.trans (Eq.trans (r_go (act := oS (fGr g 4 11 3)) rfl rfl) (a_gr (zO_0 g) (zR_0_3 g))) ?_
  refine Eq.trans (Eq.trans (r_go (act := oS (fAld 5 0)) rfl rfl) (a_ald rfl)) ?_
  refine Eq.trans (Eq.trans (r_go (act := oS (fGr g 8 11 1)) rfl rfl) (a_gr (zO_0 g) (zR_0_1 g))) ?_
  refine Eq.trans (Eq.trans (r_go (act := oS (fGr g 11 10 0)) rfl rfl) (a_gr (zO_6 g) (zR_6_0 g))) ?_
  refine Eq.trans (Eq.trans (r_go (act := oCI 14 2 (zcv g 8) (X_X8_back g)) rfl rfl) (a_cI rfl (zck (zO_42 g) rfl))) (zbI_cg (fun x1 M1 => ?_))
  exact Eq.trans (r_go (act := oZret) rfl rfl) (a_zret)
theorem x_X11_undo_0 (g : zg) (M : zM) : X_X11_undo g [.ref 0] M = (zbI (X_X8_back g [.ref 42, .ref 7] M) (fun x1 M1 => (bif cEq (x1 &&& 1) x1 then some (some (.int x1), M1) else none))) := e_X11_undo_0 g M
set_option maxRecDepth 20000 in
theorem e_X11_look_0 (g : zg) (a1 : Int32) (M : zM) : zX (t_X11_look g) 0 [some (.ref 0), some (.int a1), none] [] M = (bif cEq a1 0 then some (some (.int (M.1 7 2)), M) else (bif cEq a1 1 then some (some (.int (M.1 7 10)), M) else (bif cEq a1 2 then some (some (.int (M.1 7 4)), M) else (bif cEq a1 3 then (zbI (X_X3_kind g [.ref 7] M) (fun x1 M1 => some (some (.int x1), M1))) else (bif cEq a1 4 then some (some (.int (M.1 7 7)), M) else (bif cEq a1 5 then some (some (.int (M.1 7 8)), M) else (bif cEq a1 6 then some (some (.int (M.1 7 9)), M) else (bif cEq a1 7 then some (some (.int (M.1 7 5)), M) else (bif cEq a1 8 then some (some (.int (M.1 7 6)), M) else (bif cEq a1 9 then some (some (.int (M.1 7 11)), M) else (bif cEq a1 10 then some (some (.int (M.1 7 3)), M) else (bif cEq a1 11 then some (some (.int (M.1 9 8)), M) else (bif cEq a1 12 then some (some (.int (M.1 17 3)), M) else (bif cEq a1 13 then some (some (.int (M.1 20 4)), M) else (bif cEq a1 14 then some (some (.int (M.1 32 6)), M) else (bif cEq a1 15 then some (some (.int (M.1 32 7)), M) else (bif cEq a1 16 then some (some (.int (M.1 32 8)), M) else (bif cEq a1 17 then some (some (.int (M.1 42 2)), M) else (bif cEq a1 18 then (zbI (X_X5_kept g [.ref 7] M) (fun x2 M2 => some (some (.int x2), M2))) else some (some (.int (-100000)), M)))))))))))))))))))) := by
  refine Eq.trans (zX_rgN (tl_X11_look g) (hc_X11_look g) 12 _ _ _ _) ?_
  refine Eq.trans (Eq.trans (r_0 (act := oS (fAld 1 0)) rfl) (a_ald rfl)) ?_
  refine Eq.trans (Eq.trans (r_go (act := oS (fGr g 4 11 1)) rfl rfl) (a_gr (zO_0 g) (zR_0_1 g))) ?_
  refine Eq.trans (Eq.trans (r_go (act := oS (fGr g 7 10 0)) rfl rfl) (a_gr (zO_6 g) (zR_6_0 g))) ?_
  refine Eq.trans (Eq.trans (r_go (act := oS (fAst 8 2)) rfl rfl) (a_ast rfl rfl)) ?_
  refine Eq.trans (Eq.trans (r_go (act := oS (fIld 9 1)) rfl rfl) (a_ild rfl)) ?_
  refine Eq.trans (Eq.trans (r_go (act := oSw 234 [(0, 100), (1, 105), (2, 110), (3, 115), (4, 120), (5, 125), (6, 130), (7, 135), (8, 140), (9, 145), (10, 150), (11, 155), (12, 166), (13, 177), (14, 188), (15, 199), (16, 210), (17, 221), (18, 229)]) rfl rfl) (a_sw)) ?_
  refine Eq.trans a_swC (bcg ?_ ?_)
  · refine Eq.trans (Eq.trans (r_go (act := oS (fAld 101 2)) rfl rfl) (a_ald rfl)) ?_
    refine Eq.trans (Eq.trans (r_go (act := oS (fGi g 104 3 2)) rfl rfl) (a_gi (zO_7 g))) ?_
    exact Eq.trans (r_go (act := oIret) rfl rfl) (a_iret)
  refine Eq.trans a_swC (bcg ?_ ?_)
  · refine Eq.trans (Eq.trans (r_go (act := oS (fAld 106 2)) rfl rfl) (a_ald rfl)) ?_
    refine Eq.trans (Eq.trans (r_go (act := oS (fGi g 109 3 10)) rfl rfl) (a_gi (zO_7 g))) ?_
    exact Eq.trans (r_go (act := oIret) rfl rfl) (a_iret)
  refine Eq.trans a_swC (bcg ?_ ?_)
  · refine Eq.trans (Eq.trans (r_go (act := oS (fAld 111 2)) rfl rfl) (a_ald rfl)) ?_
    refine Eq.trans (Eq.trans (r_go (act := oS (fGi g 114 3 4)) rfl rfl) (a_gi (zO_7 g))) ?_
    exact Eq.trans (r_go (act := oIret) rfl rfl) (a_iret)
  refine Eq.trans a_swC (bcg ?_ ?_)
  · refine Eq.trans (Eq.trans (r_go (act := oS (fAld 116 2)) rfl rfl) (a_ald rfl)) ?_
    refine Eq.trans (Eq.trans (r_go (act := oCI 119 1 (zcv g 3) (X_X3_kind g)) rfl rfl) (a_cI rfl (zck (zO_7 g) rfl))) (zbI_cg (fun x1 M1 => ?_))
    exact Eq.trans (r_go (act := oIret) rfl rfl) (a_iret)
  refine Eq.trans a_swC (bcg ?_ ?_)
  · refine Eq.trans (Eq.trans (r_go (act := oS (fAld 121 2)) rfl rfl) (a_ald rfl)) ?_
    refine Eq.trans (Eq.trans (r_go (act := oS (fGi g 124 3 7)) rfl rfl) (a_gi (zO_7 g))) ?_
    exact Eq.trans (r_go (act := oIret) rfl rfl) (a_iret)
  refine Eq.trans a_swC (bcg ?_ ?_)
  · refine Eq.trans (Eq.trans (r_go (act := oS (fAld 126 2)) rfl rfl) (a_ald rfl)) ?_
    refine Eq.trans (Eq.trans (r_go (act := oS (fGi g 129 3 8)) rfl rfl) (a_gi (zO_7 g))) ?_
    exact Eq.trans (r_go (act := oIret) rfl rfl) (a_iret)
  refine Eq.trans a_swC (bcg ?_ ?_)
  · refine Eq.trans (Eq.trans (r_go (act := oS (fAld 131 2)) rfl rfl) (a_ald rfl)) ?_
    refine Eq.trans (Eq.trans (r_go (act := oS (fGi g 134 3 9)) rfl rfl) (a_gi (zO_7 g))) ?_
    exact Eq.trans (r_go (act := oIret) rfl rfl) (a_iret)
  refine Eq.trans a_swC (bcg ?_ ?_)
  · refine Eq.trans (Eq.trans (r_go (act := oS (fAld 136 2)) rfl rfl) (a_ald rfl)) ?_
    refine Eq.trans (Eq.trans (r_go (act := oS (fGi g 139 3 5)) rfl rfl) (a_gi (zO_7 g))) ?_
    exact Eq.trans (r_go (act := oIret) rfl rfl) (a_iret)
  refine Eq.trans a_swC (bcg ?_ ?_)
  · refine Eq.trans (Eq.trans (r_go (act := oS (fAld 141 2)) rfl rfl) (a_ald rfl)) ?_
    refine Eq.trans (Eq.trans (r_go (act := oS (fGi g 144 3 6)) rfl rfl) (a_gi (zO_7 g))) ?_
    exact Eq.trans (r_go (act := oIret) rfl rfl) (a_iret)
  refine Eq.trans a_swC (bcg ?_ ?_)
  · refine Eq.trans (Eq.trans (r_go (act := oS (fAld 146 2)) rfl rfl) (a_ald rfl)) ?_
    refine Eq.trans (Eq.trans (r_go (act := oS (fGi g 149 3 11)) rfl rfl) (a_gi (zO_7 g))) ?_
    exact Eq.trans (r_go (act := oIret) rfl rfl) (a_iret)
  refine Eq.trans a_swC (bcg ?_ ?_)
  · refine Eq.trans (Eq.trans (r_go (act := oS (fAld 151 2)) rfl rfl) (a_ald rfl)) ?_
    refine Eq.trans (Eq.trans (r_go (act := oS (fGi g 154 3 3)) rfl rfl) (a_gi (zO_7 g))) ?_
    exact Eq.trans (r_go (act := oIret) rfl rfl) (a_iret)
  refine Eq.trans a_swC (bcg ?_ ?_)
  · refine Eq.trans (Eq.trans (r_go (act := oS (fAld 156 0)) rfl rfl) (a_ald rfl)) ?_
    refine Eq.trans (Eq.trans (r_go (act := oS (fGr g 159 11 1)) rfl rfl) (a_gr (zO_0 g) (zR_0_1 g))) ?_
    refine Eq.trans (Eq.trans (r_go (act := oS (fGr g 162 10 1)) rfl rfl) (a_gr (zO_6 g) (zR_6_1 g))) ?_
    refine Eq.trans (Eq.trans (r_go (act := oS (fGi g 165 4 8)) rfl rfl) (a_gi (zO_9 g))) ?_
    exact Eq.trans (r_go (act := oIret) rfl rfl) (a_iret)
  refine Eq.trans a_swC (bcg ?_ ?_)
  · refine Eq.trans (Eq.trans (r_go (act := oS (fAld 167 0)) rfl rfl) (a_ald rfl)) ?_
    refine Eq.trans (Eq.trans (r_go (act := oS (fGr g 170 11 1)) rfl rfl) (a_gr (zO_0 g) (zR_0_1 g))) ?_
    refine Eq.trans (Eq.trans (r_go (act := oS (fGr g 173 10 2)) rfl rfl) (a_gr (zO_6 g) (zR_6_2 g))) ?_
    refine Eq.trans (Eq.trans (r_go (act := oS (fGi g 176 7 3)) rfl rfl) (a_gi (zO_17 g))) ?_
    exact Eq.trans (r_go (act := oIret) rfl rfl) (a_iret)
  refine Eq.trans a_swC (bcg ?_ ?_)
  · refine Eq.trans (Eq.trans (r_go (act := oS (fAld 178 0)) rfl rfl) (a_ald rfl)) ?_
    refine Eq.trans (Eq.trans (r_go (act := oS (fGr g 181 11 1)) rfl rfl) (a_gr (zO_0 g) (zR_0_1 g))) ?_
    refine Eq.trans (Eq.trans (r_go (act := oS (fGr g 184 10 3)) rfl rfl) (a_gr (zO_6 g) (zR_6_3 g))) ?_
    refine Eq.trans (Eq.trans (r_go (act := oS (fGi g 187 0 4)) rfl rfl) (a_gi (zO_20 g))) ?_
    exact Eq.trans (r_go (act := oIret) rfl rfl) (a_iret)
  refine Eq.trans a_swC (bcg ?_ ?_)
  · refine Eq.trans (Eq.trans (r_go (act := oS (fAld 189 0)) rfl rfl) (a_ald rfl)) ?_
    refine Eq.trans (Eq.trans (r_go (act := oS (fGr g 192 11 1)) rfl rfl) (a_gr (zO_0 g) (zR_0_1 g))) ?_
    refine Eq.trans (Eq.trans (r_go (act := oS (fGr g 195 10 6)) rfl rfl) (a_gr (zO_6 g) (zR_6_6 g))) ?_
    refine Eq.trans (Eq.trans (r_go (act := oS (fGi g 198 6 6)) rfl rfl) (a_gi (zO_32 g))) ?_
    exact Eq.trans (r_go (act := oIret) rfl rfl) (a_iret)
  refine Eq.trans a_swC (bcg ?_ ?_)
  · refine Eq.trans (Eq.trans (r_go (act := oS (fAld 200 0)) rfl rfl) (a_ald rfl)) ?_
    refine Eq.trans (Eq.trans (r_go (act := oS (fGr g 203 11 1)) rfl rfl) (a_gr (zO_0 g) (zR_0_1 g))) ?_
    refine Eq.trans (Eq.trans (r_go (act := oS (fGr g 206 10 6)) rfl rfl) (a_gr (zO_6 g) (zR_6_6 g))) ?_
    refine Eq.trans (Eq.trans (r_go (act := oS (fGi g 209 6 7)) rfl rfl) (a_gi (zO_32 g))) ?_
    exact Eq.trans (r_go (act := oIret) rfl rfl) (a_iret)
  refine Eq.trans a_swC (bcg ?_ ?_)
  · refine Eq.trans (Eq.trans (r_go (act := oS (fAld 211 0)) rfl rfl) (a_ald rfl)) ?_
    refine Eq.trans (Eq.trans (r_go (act := oS (fGr g 214 11 1)) rfl rfl) (a_gr (zO_0 g) (zR_0_1 g))) ?_
    refine Eq.trans (Eq.trans (r_go (act := oS (fGr g 217 10 6)) rfl rfl) (a_gr (zO_6 g) (zR_6_6 g))) ?_
    refine Eq.trans (Eq.trans (r_go (act := oS (fGi g 220 6 8)) rfl rfl) (a_gi (zO_32 g))) ?_
    exact Eq.trans (r_go (act := oIret) rfl rfl) (a_iret)
  refine Eq.trans a_swC (bcg ?_ ?_)
  · refine Eq.trans (Eq.trans (r_go (act := oS (fAld 222 0)) rfl rfl) (a_ald rfl)) ?_
    refine Eq.trans (Eq.trans (r_go (act := oS (fGr g 225 11 3)) rfl rfl) (a_gr (zO_0 g) (zR_0_3 g))) ?_
    refine Eq.trans (Eq.trans (r_go (act := oS (fGi g 228 8 2)) rfl rfl) (a_gi (zO_42 g))) ?_
    exact Eq.trans (r_go (act := oIret) rfl rfl) (a_iret)
  refine Eq.trans a_swC (bcg ?_ ?_)
  · refine Eq.trans (Eq.trans (r_go (act := oS (fAld 230 2)) rfl rfl) (a_ald rfl)) ?_
    refine Eq.trans (Eq.trans (r_go (act := oCI 233 1 zcs (X_X5_kept g)) rfl rfl) (a_cI rfl rfl)) (zbI_cg (fun x2 M2 => ?_))
    exact Eq.trans (r_go (act := oIret) rfl rfl) (a_iret)
  refine Eq.trans a_swN ?_
  refine Eq.trans (Eq.trans (r_go (act := oS (fSt 236 (gC (.int (-100000))))) rfl rfl) (a_C)) ?_
  exact Eq.trans (r_go (act := oIret) rfl rfl) (a_iret)
theorem x_X11_look_0 (g : zg) (a1 : Int32) (M : zM) : X_X11_look g [.ref 0, .int a1] M = (bif cEq a1 0 then some (some (.int (M.1 7 2)), M) else (bif cEq a1 1 then some (some (.int (M.1 7 10)), M) else (bif cEq a1 2 then some (some (.int (M.1 7 4)), M) else (bif cEq a1 3 then (zbI (X_X3_kind g [.ref 7] M) (fun x1 M1 => some (some (.int x1), M1))) else (bif cEq a1 4 then some (some (.int (M.1 7 7)), M) else (bif cEq a1 5 then some (some (.int (M.1 7 8)), M) else (bif cEq a1 6 then some (some (.int (M.1 7 9)), M) else (bif cEq a1 7 then some (some (.int (M.1 7 5)), M) else (bif cEq a1 8 then some (some (.int (M.1 7 6)), M) else (bif cEq a1 9 then some (some (.int (M.1 7 11)), M) else (bif cEq a1 10 then some (some (.int (M.1 7 3)), M) else (bif cEq a1 11 then some (some (.int (M.1 9 8)), M) else (bif cEq a1 12 then some (some (.int (M.1 17 3)), M) else (bif cEq a1 13 then some (some (.int (M.1 20 4)), M) else (bif cEq a1 14 then some (some (.int (M.1 32 6)), M) else (bif cEq a1 15 then some (some (.int (M.1 32 7)), M) else (bif cEq a1 16 then some (some (.int (M.1 32 8)), M) else (bif cEq a1 17 then some (some (.int (M.1 42 2)), M) else (bif cEq a1 18 then (zbI (X_X5_kept g [.ref 7] M) (fun x2 M2 => some (some (.int x2), M2))) else some (some (.int (-100000)), M)))))))))))))))))))) := e_X11_look_0 g a1 M
set_option maxRecDepth 20000 in
theorem e_X12_undo_0 (g : zg) (M : zM) : zX (t_X12_undo g) 0 [some (.ref 72), none] [] M = (bif cEq0 (M.1 72 3) then some (some (.int 0), ((zu M.1 72 0 0), M.2)) else zX (t_X12_undo g) 26 [some (.ref 72), some (.int 0)] [] ((zu (zu M.1 72 0 0) 72 3 ((M.1 72 3) - 1)), M.2)) := by
  refine Eq.trans (zX_rgN (tl_X12_undo g) (hc_X12_undo g) 16 _ _ _ _) ?_
  refine Eq.trans (Eq.trans (r_0 (act := oS (fAld 1 0)) rfl) (a_ald rfl)) ?_
  refine Eq.trans (Eq.trans (r_go (act := oS (fSt 2 (gC (.int 0)))) rfl rfl) (a_C)) ?_
  refine Eq.trans (Eq.trans (r_go (act := oS (fPi g 5 12 0)) rfl rfl) (a_pi (zO_72 g))) ?_
  refine Eq.trans (Eq.trans (r_go (act := oS (fAld 6 0)) rfl rfl) (a_ald rfl)) ?_
  refine Eq.trans (Eq.trans (r_go (act := oS (fGi g 9 12 3)) rfl rfl) (a_giV (zO_72 g) rfl)) ?_
  refine Eq.trans (Eq.trans (r_go (act := oS (fIf 12 14 cEq0)) rfl rfl) (a_if)) (bcg ?_ ?_)
  · refine Eq.trans (Eq.trans (r_go (act := oS (fSt 13 (gC (.int 0)))) rfl rfl) (a_C)) ?_
    exact Eq.trans (Eq.trans (r_go (act := oZret) rfl rfl) a_zret) (bcT (by decide +kernel))
  · refine Eq.trans (Eq.trans (r_go (act := oS (fAld 15 0)) rfl rfl) (a_ald rfl)) ?_
    refine Eq.trans (Eq.trans (r_go (act := oS (fAld 16 0)) rfl rfl) (a_ald rfl)) ?_
    refine Eq.trans (Eq.trans (r_go (act := oS (fGi g 19 12 3)) rfl rfl) (a_giV (zO_72 g) rfl)) ?_
    refine Eq.trans (Eq.trans (r_go (act := oS (fSt 20 (gC (.int 1)))) rfl rfl) (a_C)) ?_
    refine Eq.trans (Eq.trans (r_go (act := oS (fSt 21 (g2 (fun x y => x - y)))) rfl rfl) (a_sub)) ?_
    refine Eq.trans (Eq.trans (r_go (act := oS (fPi g 24 12 3)) rfl rfl) (a_pi (zO_72 g))) ?_
    refine Eq.trans (Eq.trans (r_go (act := oS (fSt 25 (gC (.int 0)))) rfl rfl) (a_C)) ?_
    refine Eq.trans (Eq.trans (r_go (act := oS (fIst 26 1)) rfl rfl) (a_ist rfl rfl)) ?_
    exact r_cut rfl rfl
theorem x_X12_undo_0 (g : zg) (M : zM) : X_X12_undo g [.ref 72] M = (bif cEq0 (M.1 72 3) then some (some (.int 0), ((zu M.1 72 0 0), M.2)) else zX (t_X12_undo g) 26 [some (.ref 72), some (.int 0)] [] ((zu (zu M.1 72 0 0) 72 3 ((M.1 72 3) - 1)), M.2)) := e_X12_undo_0 g M
set_option maxRecDepth 20000 in
theorem e_X12_undo_26 (g : zg) (a1 : Int32) (M : zM) : zX (t_X12_undo g) 26 [some (.ref 72), some (.int a1)] [] M = (bif cLt a1 148 then (bif zb ((148 * (M.1 72 3)) + a1) 888 then (bif zb a1 148 then zX (t_X12_undo g) 26 [some (.ref 72), some (.int (a1 + 1))] [] ((zu M.1 73 (zx a1) (M.1 74 (zx ((148 * (M.1 72 3)) + a1)))), M.2) else none) else none) else some (some (.int 1), M)) := by
  refine Eq.trans (zX_rgN (tl_X12_undo g) (hc_X12_undo g) 20 _ _ _ _) ?_
  refine Eq.trans (Eq.trans (Eq.trans (r_0 (act := oF [] (oS (fIld 27 1))) rfl) (a_F rfl)) (a_ild rfl)) ?_
  refine Eq.trans (Eq.trans (r_go (act := oS (fSt 30 (gC (.int 148)))) rfl rfl) (a_C)) ?_
  refine Eq.trans (Eq.trans (r_go (act := oS (fCm 33 60 cLt)) rfl rfl) (a_cm)) (bcg ?_ ?_)
  · refine Eq.trans (Eq.trans (r_go (act := oS (fAld 34 0)) rfl rfl) (a_ald rfl)) ?_
    refine Eq.trans (Eq.trans (r_go (act := oS (fGr g 37 12 1)) rfl rfl) (a_gr (zO_72 g) (zR_72_1 g))) ?_
    refine Eq.trans (Eq.trans (r_go (act := oS (fIld 38 1)) rfl rfl) (a_ild rfl)) ?_
    refine Eq.trans (Eq.trans (r_go (act := oS (fAld 39 0)) rfl rfl) (a_ald rfl)) ?_
    refine Eq.trans (Eq.trans (r_go (act := oS (fGr g 42 12 2)) rfl rfl) (a_gr (zO_72 g) (zR_72_2 g))) ?_
    refine Eq.trans (Eq.trans (r_go (act := oS (fSt 45 (gC (.int 148)))) rfl rfl) (a_C)) ?_
    refine Eq.trans (Eq.trans (r_go (act := oS (fAld 46 0)) rfl rfl) (a_ald rfl)) ?_
    refine Eq.trans (Eq.trans (r_go (act := oS (fGi g 49 12 3)) rfl rfl) (a_gi (zO_72 g))) ?_
    refine Eq.trans (Eq.trans (r_go (act := oS (fSt 50 (g2 (fun x y => x * y)))) rfl rfl) (a_mul)) ?_
    refine Eq.trans (Eq.trans (r_go (act := oS (fIld 51 1)) rfl rfl) (a_ild rfl)) ?_
    refine Eq.trans (Eq.trans (r_go (act := oS (fSt 52 (g2 (fun x y => x + y)))) rfl rfl) (a_add)) ?_
    refine Eq.trans (Eq.trans (r_go (act := oS (fIa g 53)) rfl rfl) (a_ia (zA_74 g) zS_74)) (bcg ?_ rfl)
    refine Eq.trans (Eq.trans (r_go (act := oS (fIs g 54)) rfl rfl) (a_is (zA_73 g) zS_73)) (bcg ?_ rfl)
    refine Eq.trans (Eq.trans (r_go (act := oS (fInc 57 1 1)) rfl rfl) (a_inc rfl rfl rfl)) ?_
    refine Eq.trans (Eq.trans (r_go (act := oS (fGo 26)) rfl rfl) (a_goto)) ?_
    exact r_cut rfl rfl
  · refine Eq.trans (Eq.trans (r_go (act := oS (fSt 61 (gC (.int 1)))) rfl rfl) (a_C)) ?_
    exact Eq.trans (Eq.trans (r_go (act := oZret) rfl rfl) a_zret) (bcT (by decide +kernel))
set_option maxRecDepth 20000 in
theorem e_X12_state_0 (g : zg) (a1 : Int32) (M : zM) : zX (t_X12_state g) 0 [some (.ref 72), some (.int a1), none] [] M = some (some (.int (M.1 73 1)), ((zu (zu (zu M.1 72 0 0) 73 1 a1) 72 3 0), M.2)) := by
  refine Eq.trans (zX_rgN (tl_X12_state g) (hc_X12_state g) 19 _ _ _ _) ?_
  refine Eq.trans (Eq.trans (r_0 (act := oS (fAld 1 0)) rfl) (a_ald rfl)) ?_
  refine Eq.trans (Eq.trans (r_go (act := oS (fSt 2 (gC (.int 0)))) rfl rfl) (a_C)) ?_
  refine Eq.trans (Eq.trans (r_go (act := oS (fPi g 5 12 0)) rfl rfl) (a_pi (zO_72 g))) ?_
  refine Eq.trans (Eq.trans (r_go (act := oS (fAld 6 0)) rfl rfl) (a_ald rfl)) ?_
  refine Eq.trans (Eq.trans (r_go (act := oS (fGr g 9 12 1)) rfl rfl) (a_gr (zO_72 g) (zR_72_1 g))) ?_
  refine Eq.trans (Eq.trans (r_go (act := oS (fSt 10 (gC (.int 1)))) rfl rfl) (a_C)) ?_
  refine Eq.trans (Eq.trans (r_go (act := oS (fIa g 11)) rfl rfl) (a_iaKV (j := 1) (zA_73 g) zS_73 (by decide +kernel) (by decide +kernel) rfl)) ?_
  refine Eq.trans (Eq.trans (r_go (act := oS (fIst 12 2)) rfl rfl) (a_ist rfl rfl)) ?_
  refine Eq.trans (Eq.trans (r_go (act := oS (fAld 13 0)) rfl rfl) (a_ald rfl)) ?_
  refine Eq.trans (Eq.trans (r_go (act := oS (fGr g 16 12 1)) rfl rfl) (a_gr (zO_72 g) (zR_72_1 g))) ?_
  refine Eq.trans (Eq.trans (r_go (act := oS (fSt 17 (gC (.int 1)))) rfl rfl) (a_C)) ?_
  refine Eq.trans (Eq.trans (r_go (act := oS (fIld 18 1)) rfl rfl) (a_ild rfl)) ?_
  refine Eq.trans (Eq.trans (r_go (act := oS (fIs g 19)) rfl rfl) (a_isK (j := 1) (zA_73 g) zS_73 (by decide +kernel) (by decide +kernel))) ?_
  refine Eq.trans (Eq.trans (r_go (act := oS (fAld 20 0)) rfl rfl) (a_ald rfl)) ?_
  refine Eq.trans (Eq.trans (r_go (act := oS (fSt 21 (gC (.int 0)))) rfl rfl) (a_C)) ?_
  refine Eq.trans (Eq.trans (r_go (act := oS (fPi g 24 12 3)) rfl rfl) (a_pi (zO_72 g))) ?_
  refine Eq.trans (Eq.trans (r_go (act := oS (fIld 25 2)) rfl rfl) (a_ild rfl)) ?_
  exact Eq.trans (r_go (act := oIret) rfl rfl) (a_iret)
theorem x_X12_state_0 (g : zg) (a1 : Int32) (M : zM) : X_X12_state g [.ref 72, .int a1] M = some (some (.int (M.1 73 1)), ((zu (zu (zu M.1 72 0 0) 73 1 a1) 72 3 0), M.2)) := e_X12_state_0 g a1 M
set_option maxRecDepth 20000 in
theorem e_X12_isIn_0 (g : zg) (a1 : Int32) (a2 : Int32) (a3 : Int32) (M : zM) : zX (t_X12_isIn g) 0 [some (.ref 72), some (.int a1), some (.int a2), some (.int a3)] [] M = (bif cLt a1 a2 then some (some (.int 0), M) else (bif cGt a1 a3 then some (some (.int 0), M) else some (some (.int 1), M))) := by
  refine Eq.trans (zX_rgN (tl_X12_isIn g) (hc_X12_isIn g) 10 _ _ _ _) ?_
  refine Eq.trans (Eq.trans (r_0 (act := oS (fIld 1 1)) rfl) (a_ild rfl)) ?_
  refine Eq.trans (Eq.trans (r_go (act := oS (fIld 2 2)) rfl rfl) (a_ild rfl)) ?_
  refine Eq.trans (Eq.trans (r_go (act := oS (fCm 14 5 cLt)) rfl rfl) (a_cm)) (bcg ?_ ?_)
  · refine Eq.trans (Eq.trans (r_go (act := oS (fSt 15 (gC (.int 0)))) rfl rfl) (a_C)) ?_
    exact Eq.trans (Eq.trans (r_go (act := oZret) rfl rfl) a_zret) (bcT (by decide +kernel))
  · refine Eq.trans (Eq.trans (r_go (act := oS (fIld 6 1)) rfl rfl) (a_ild rfl)) ?_
    refine Eq.trans (Eq.trans (r_go (act := oS (fIld 7 3)) rfl rfl) (a_ild rfl)) ?_
    refine Eq.trans (Eq.trans (r_go (act := oS (fCm 14 10 cGt)) rfl rfl) (a_cm)) (bcg ?_ ?_)
    · refine Eq.trans (Eq.trans (r_go (act := oS (fSt 15 (gC (.int 0)))) rfl rfl) (a_C)) ?_
      exact Eq.trans (Eq.trans (r_go (act := oZret) rfl rfl) a_zret) (bcT (by decide +kernel))
    · refine Eq.trans (Eq.trans (r_go (act := oS (fSt 11 (gC (.int 1)))) rfl rfl) (a_C)) ?_
      refine Eq.trans (Eq.trans (r_go (act := oS (fGo 15)) rfl rfl) (a_goto)) ?_
      exact Eq.trans (Eq.trans (r_go (act := oZret) rfl rfl) a_zret) (bcT (by decide +kernel))
theorem x_X12_isIn_0 (g : zg) (a1 : Int32) (a2 : Int32) (a3 : Int32) (M : zM) : X_X12_isIn g [.ref 72, .int a1, .int a2, .int a3] M = (bif cLt a1 a2 then some (some (.int 0), M) else (bif cGt a1 a3 then some (some (.int 0), M) else some (some (.int 1), M))) := e_X12_isIn_0 g a1 a2 a3 M
set_option maxRecDepth 20000 in
theorem e_X12_teller_0 (g : zg) (a1 : Int32) (a2 : Int32) (M : zM) : zX (t_X12_teller g) 0 [some (.ref 72), some (.int a1), some (.int a2)] [] M = (zbI (X_X12_isIn g [.ref 72, .int a1, .int 0, .int 5] ((zu M.1 72 0 0), M.2)) (fun x1 M1 => (bif cEq0 x1 then some (some (.int (-1)), M1) else (zbI (X_X12_isIn g [.ref 72, .int a2, .int 0, .int 9] M1) (fun x2 M2 => (bif cEq0 x2 then some (some (.int (-1)), M2) else (bif cEq (M2.1 72 6) 10 then some (some (.int (-1)), M2) else (bif zb (M2.1 72 6) 10 then (bif zb (M2.1 72 6) 10 then some (some (.int (((M2.1 72 6) + 1) - 1)), ((zu (zu (zu (zu M2.1 76 (zx (M2.1 72 6)) a1) 77 (zx (M2.1 72 6)) a2) 72 6 ((M2.1 72 6) + 1)) 72 3 0), M2.2)) else none) else none)))))))) := by
  refine Eq.trans (zX_rgN (tl_X12_teller g) (hc_X12_teller g) 46 _ _ _ _) ?_
  refine Eq.trans (Eq.trans (r_0 (act := oS (fAld 1 0)) rfl) (a_ald rfl)) ?_
  refine Eq.trans (Eq.trans (r_go (act := oS (fSt 2 (gC (.int 0)))) rfl rfl) (a_C)) ?_
  refine Eq.trans (Eq.trans (r_go (act := oS (fPi g 5 12 0)) rfl rfl) (a_pi (zO_72 g))) ?_
  refine Eq.trans (Eq.trans (r_go (act := oS (fAld 6 0)) rfl rfl) (a_ald rfl)) ?_
  refine Eq.trans (Eq.trans (r_go (act := oS (fIld 7 1)) rfl rfl) (a_ild rfl)) ?_
  refine Eq.trans (Eq.trans (r_go (act := oS (fSt 8 (gC (.int 0)))) rfl rfl) (a_C)) ?_
  refine Eq.trans (Eq.trans (r_go (act := oS (fSt 9 (gC (.int 5)))) rfl rfl) (a_C)) ?_
  refine Eq.trans (Eq.trans (r_go (act := oCI 12 4 (zcv g 12) (X_X12_isIn g)) rfl rfl) (a_cI rfl (zck (zO_72 g) rfl))) (zbI_cg (fun x1 M1 => ?_))
  refine Eq.trans (Eq.trans (r_go (act := oS (fIf 35 15 cEq0)) rfl rfl) (a_if)) (bcg ?_ ?_)
  · refine Eq.trans (Eq.trans (r_go (act := oS (fSt 36 (gC (.int (-1))))) rfl rfl) (a_C)) ?_
    exact Eq.trans (r_go (act := oIret) rfl rfl) (a_iret)
  · refine Eq.trans (Eq.trans (r_go (act := oS (fAld 16 0)) rfl rfl) (a_ald rfl)) ?_
    refine Eq.trans (Eq.trans (r_go (act := oS (fIld 17 2)) rfl rfl) (a_ild rfl)) ?_
    refine Eq.trans (Eq.trans (r_go (act := oS (fSt 18 (gC (.int 0)))) rfl rfl) (a_C)) ?_
    refine Eq.trans (Eq.trans (r_go (act := oS (fSt 20 (gC (.int 9)))) rfl rfl) (a_C)) ?_
    refine Eq.trans (Eq.trans (r_go (act := oCI 23 4 (zcv g 12) (X_X12_isIn g)) rfl rfl) (a_cI rfl (zck (zO_72 g) rfl))) (zbI_cg (fun x2 M2 => ?_))
    refine Eq.trans (Eq.trans (r_go (act := oS (fIf 35 26 cEq0)) rfl rfl) (a_if)) (bcg ?_ ?_)
    · refine Eq.trans (Eq.trans (r_go (act := oS (fSt 36 (gC (.int (-1))))) rfl rfl) (a_C)) ?_
      exact Eq.trans (r_go (act := oIret) rfl rfl) (a_iret)
    · refine Eq.trans (Eq.trans (r_go (act := oS (fAld 27 0)) rfl rfl) (a_ald rfl)) ?_
      refine Eq.trans (Eq.trans (r_go (act := oS (fGi g 30 12 6)) rfl rfl) (a_gi (zO_72 g))) ?_
      refine Eq.trans (Eq.trans (r_go (act := oS (fSt 32 (gC (.int 10)))) rfl rfl) (a_C)) ?_
      refine Eq.trans (Eq.trans (r_go (act := oS (fCm 35 37 cEq)) rfl rfl) (a_cm)) (bcg ?_ ?_)
      · refine Eq.trans (Eq.trans (r_go (act := oS (fSt 36 (gC (.int (-1))))) rfl rfl) (a_C)) ?_
        exact Eq.trans (r_go (act := oIret) rfl rfl) (a_iret)
      · refine Eq.trans (Eq.trans (r_go (act := oS (fAld 38 0)) rfl rfl) (a_ald rfl)) ?_
        refine Eq.trans (Eq.trans (r_go (act := oS (fGr g 41 12 9)) rfl rfl) (a_gr (zO_72 g) (zR_72_9 g))) ?_
        refine Eq.trans (Eq.trans (r_go (act := oS (fAld 42 0)) rfl rfl) (a_ald rfl)) ?_
        refine Eq.trans (Eq.trans (r_go (act := oS (fGi g 45 12 6)) rfl rfl) (a_gi (zO_72 g))) ?_
        refine Eq.trans (Eq.trans (r_go (act := oS (fIld 46 1)) rfl rfl) (a_ild rfl)) ?_
        refine Eq.trans (Eq.trans (r_go (act := oS (fIs g 47)) rfl rfl) (a_is (zA_76 g) zS_76)) (bcg ?_ rfl)
        refine Eq.trans (Eq.trans (r_go (act := oS (fAld 48 0)) rfl rfl) (a_ald rfl)) ?_
        refine Eq.trans (Eq.trans (r_go (act := oS (fGr g 51 12 10)) rfl rfl) (a_gr (zO_72 g) (zR_72_10 g))) ?_
        refine Eq.trans (Eq.trans (r_go (act := oS (fAld 52 0)) rfl rfl) (a_ald rfl)) ?_
        refine Eq.trans (Eq.trans (r_go (act := oS (fGi g 55 12 6)) rfl rfl) (a_giV (zO_72 g) rfl)) ?_
        refine Eq.trans (Eq.trans (r_go (act := oS (fIld 56 2)) rfl rfl) (a_ild rfl)) ?_
        refine Eq.trans (Eq.trans (r_go (act := oS (fIs g 57)) rfl rfl) (a_is (zA_77 g) zS_77)) (bcg ?_ rfl)
        refine Eq.trans (Eq.trans (r_go (act := oS (fAld 58 0)) rfl rfl) (a_ald rfl)) ?_
        refine Eq.trans (Eq.trans (r_go (act := oS (fAld 59 0)) rfl rfl) (a_ald rfl)) ?_
        refine Eq.trans (Eq.trans (r_go (act := oS (fGi g 62 12 6)) rfl rfl) (a_giV (zO_72 g) rfl)) ?_
        refine Eq.trans (Eq.trans (r_go (act := oS (fSt 63 (gC (.int 1)))) rfl rfl) (a_C)) ?_
        refine Eq.trans (Eq.trans (r_go (act := oS (fSt 64 (g2 (fun x y => x + y)))) rfl rfl) (a_add)) ?_
        refine Eq.trans (Eq.trans (r_go (act := oS (fPi g 67 12 6)) rfl rfl) (a_pi (zO_72 g))) ?_
        refine Eq.trans (Eq.trans (r_go (act := oS (fAld 68 0)) rfl rfl) (a_ald rfl)) ?_
        refine Eq.trans (Eq.trans (r_go (act := oS (fSt 69 (gC (.int 0)))) rfl rfl) (a_C)) ?_
        refine Eq.trans (Eq.trans (r_go (act := oS (fPi g 72 12 3)) rfl rfl) (a_pi (zO_72 g))) ?_
        refine Eq.trans (Eq.trans (r_go (act := oS (fAld 73 0)) rfl rfl) (a_ald rfl)) ?_
        refine Eq.trans (Eq.trans (r_go (act := oS (fGi g 76 12 6)) rfl rfl) (a_giV (zO_72 g) rfl)) ?_
        refine Eq.trans (Eq.trans (r_go (act := oS (fSt 77 (gC (.int 1)))) rfl rfl) (a_C)) ?_
        refine Eq.trans (Eq.trans (r_go (act := oS (fSt 78 (g2 (fun x y => x - y)))) rfl rfl) (a_sub)) ?_
        exact Eq.trans (r_go (act := oIret) rfl rfl) (a_iret)
theorem x_X12_teller_0 (g : zg) (a1 : Int32) (a2 : Int32) (M : zM) : X_X12_teller g [.ref 72, .int a1, .int a2] M = (zbI (X_X12_isIn g [.ref 72, .int a1, .int 0, .int 5] ((zu M.1 72 0 0), M.2)) (fun x1 M1 => (bif cEq0 x1 then some (some (.int (-1)), M1) else (zbI (X_X12_isIn g [.ref 72, .int a2, .int 0, .int 9] M1) (fun x2 M2 => (bif cEq0 x2 then some (some (.int (-1)), M2) else (bif cEq (M2.1 72 6) 10 then some (some (.int (-1)), M2) else (bif zb (M2.1 72 6) 10 then (bif zb (M2.1 72 6) 10 then some (some (.int (((M2.1 72 6) + 1) - 1)), ((zu (zu (zu (zu M2.1 76 (zx (M2.1 72 6)) a1) 77 (zx (M2.1 72 6)) a2) 72 6 ((M2.1 72 6) + 1)) 72 3 0), M2.2)) else none) else none)))))))) := e_X12_teller_0 g a1 a2 M
set_option maxRecDepth 20000 in
theorem e_X12_isTeller_0 (g : zg) (a1 : Int32) (M : zM) : zX (t_X12_isTeller g) 0 [some (.ref 72), some (.int a1)] [] M = (bif cLt0 a1 then some (some (.int 0), M) else (bif cLt a1 (M.1 72 6) then some (some (.int 1), M) else some (some (.int 0), M))) := by
  refine Eq.trans (zX_rgN (tl_X12_isTeller g) (hc_X12_isTeller g) 10 _ _ _ _) ?_
  refine Eq.trans (Eq.trans (r_0 (act := oS (fIld 1 1)) rfl) (a_ild rfl)) ?_
  refine Eq.trans (Eq.trans (r_go (act := oS (fIf 16 4 cLt0)) rfl rfl) (a_if)) (bcg ?_ ?_)
  · refine Eq.trans (Eq.trans (r_go (act := oS (fSt 17 (gC (.int 0)))) rfl rfl) (a_C)) ?_
    exact Eq.trans (Eq.trans (r_go (act := oZret) rfl rfl) a_zret) (bcT (by decide +kernel))
  · refine Eq.trans (Eq.trans (r_go (act := oS (fIld 5 1)) rfl rfl) (a_ild rfl)) ?_
    refine Eq.trans (Eq.trans (r_go (act := oS (fAld 6 0)) rfl rfl) (a_ald rfl)) ?_
    refine Eq.trans (Eq.trans (r_go (act := oS (fGi g 9 12 6)) rfl rfl) (a_gi (zO_72 g))) ?_
    refine Eq.trans (Eq.trans (r_go (act := oS (fCm 12 16 cLt)) rfl rfl) (a_cm)) (bcg ?_ ?_)
    · refine Eq.trans (Eq.trans (r_go (act := oS (fSt 13 (gC (.int 1)))) rfl rfl) (a_C)) ?_
      refine Eq.trans (Eq.trans (r_go (act := oS (fGo 17)) rfl rfl) (a_goto)) ?_
      exact Eq.trans (Eq.trans (r_go (act := oZret) rfl rfl) a_zret) (bcT (by decide +kernel))
    · refine Eq.trans (Eq.trans (r_go (act := oS (fSt 17 (gC (.int 0)))) rfl rfl) (a_C)) ?_
      exact Eq.trans (Eq.trans (r_go (act := oZret) rfl rfl) a_zret) (bcT (by decide +kernel))
theorem x_X12_isTeller_0 (g : zg) (a1 : Int32) (M : zM) : X_X12_isTeller g [.ref 72, .int a1] M = (bif cLt0 a1 then some (some (.int 0), M) else (bif cLt a1 (M.1 72 6) then some (some (.int 1), M) else some (some (.int 0), M))) := e_X12_isTeller_0 g a1 M
set_option maxRecDepth 20000 in
theorem e_X12_canSet_0 (g : zg) (a1 : Int32) (a2 : Int32) (a3 : Int32) (M : zM) : zX (t_X12_canSet g) 0 [some (.ref 72), some (.int a1), some (.int a2), some (.int a3)] [] M = (bif cEq0 a1 then (zbI (X_X12_isIn g [.ref 72, .int a3, .int 0, .int 99] M) (fun x1 M1 => (bif cEq (x1 &&& 1) x1 then some (some (.int x1), M1) else none))) else (bif cEq a1 1 then (zbI (X_X12_isIn g [.ref 72, .int a3, .int 0, .int 1000] M) (fun x2 M2 => (bif cEq (x2 &&& 1) x2 then some (some (.int x2), M2) else none))) else (bif cEq a1 2 then (zbI (X_X12_isIn g [.ref 72, .int a3, .int (-999), .int 0] M) (fun x3 M3 => (bif cEq (x3 &&& 1) x3 then some (some (.int x3), M3) else none))) else (bif cEq a1 3 then (zbI (X_X12_isTeller g [.ref 72, .int a2] M) (fun x4 M4 => (bif cEq0 x4 then some (some (.int 0), M4) else (zbI (X_X12_isIn g [.ref 72, .int a3, .int 0, .int 9] M4) (fun x5 M5 => (bif cEq0 x5 then some (some (.int 0), M5) else some (some (.int 1), M5))))))) else (bif cEq a1 4 then (zbI (X_X12_isTeller g [.ref 72, .int a2] M) (fun x6 M6 => (bif cEq0 x6 then some (some (.int 0), M6) else (zbI (X_X12_isIn g [.ref 72, .int a3, .int (-999), .int 999] M6) (fun x7 M7 => (bif cEq0 x7 then some (some (.int 0), M7) else some (some (.int 1), M7))))))) else some (some (.int 0), M)))))) := by
  refine Eq.trans (zX_rgN (tl_X12_canSet g) (hc_X12_canSet g) 28 _ _ _ _) ?_
  refine Eq.trans (Eq.trans (r_0 (act := oS (fIld 1 1)) rfl) (a_ild rfl)) ?_
  refine Eq.trans (Eq.trans (r_go (act := oS (fIf 4 13 cEq0)) rfl rfl) (a_if)) (bcg ?_ ?_)
  · refine Eq.trans (Eq.trans (r_go (act := oS (fAld 5 0)) rfl rfl) (a_ald rfl)) ?_
    refine Eq.trans (Eq.trans (r_go (act := oS (fIld 6 3)) rfl rfl) (a_ild rfl)) ?_
    refine Eq.trans (Eq.trans (r_go (act := oS (fSt 7 (gC (.int 0)))) rfl rfl) (a_C)) ?_
    refine Eq.trans (Eq.trans (r_go (act := oS (fSt 9 (gC (.int 99)))) rfl rfl) (a_C)) ?_
    refine Eq.trans (Eq.trans (r_go (act := oCI 12 4 (zcv g 12) (X_X12_isIn g)) rfl rfl) (a_cI rfl (zck (zO_72 g) rfl))) (zbI_cg (fun x1 M1 => ?_))
    exact Eq.trans (r_go (act := oZret) rfl rfl) (a_zret)
  · refine Eq.trans (Eq.trans (r_go (act := oS (fIld 14 1)) rfl rfl) (a_ild rfl)) ?_
    refine Eq.trans (Eq.trans (r_go (act := oS (fSt 15 (gC (.int 1)))) rfl rfl) (a_C)) ?_
    refine Eq.trans (Eq.trans (r_go (act := oS (fCm 18 28 cEq)) rfl rfl) (a_cm)) (bcg ?_ ?_)
    · refine Eq.trans (Eq.trans (r_go (act := oS (fAld 19 0)) rfl rfl) (a_ald rfl)) ?_
      refine Eq.trans (Eq.trans (r_go (act := oS (fIld 20 3)) rfl rfl) (a_ild rfl)) ?_
      refine Eq.trans (Eq.trans (r_go (act := oS (fSt 21 (gC (.int 0)))) rfl rfl) (a_C)) ?_
      refine Eq.trans (Eq.trans (r_go (act := oS (fSt 24 (gC (.int 1000)))) rfl rfl) (a_C)) ?_
      refine Eq.trans (Eq.trans (r_go (act := oCI 27 4 (zcv g 12) (X_X12_isIn g)) rfl rfl) (a_cI rfl (zck (zO_72 g) rfl))) (zbI_cg (fun x2 M2 => ?_))
      exact Eq.trans (r_go (act := oZret) rfl rfl) (a_zret)
    · refine Eq.trans (Eq.trans (r_go (act := oS (fIld 29 1)) rfl rfl) (a_ild rfl)) ?_
      refine Eq.trans (Eq.trans (r_go (act := oS (fSt 30 (gC (.int 2)))) rfl rfl) (a_C)) ?_
      refine Eq.trans (Eq.trans (r_go (act := oS (fCm 33 43 cEq)) rfl rfl) (a_cm)) (bcg ?_ ?_)
      · refine Eq.trans (Eq.trans (r_go (act := oS (fAld 34 0)) rfl rfl) (a_ald rfl)) ?_
        refine Eq.trans (Eq.trans (r_go (act := oS (fIld 35 3)) rfl rfl) (a_ild rfl)) ?_
        refine Eq.trans (Eq.trans (r_go (act := oS (fSt 38 (gC (.int (-999))))) rfl rfl) (a_C)) ?_
        refine Eq.trans (Eq.trans (r_go (act := oS (fSt 39 (gC (.int 0)))) rfl rfl) (a_C)) ?_
        refine Eq.trans (Eq.trans (r_go (act := oCI 42 4 (zcv g 12) (X_X12_isIn g)) rfl rfl) (a_cI rfl (zck (zO_72 g) rfl))) (zbI_cg (fun x3 M3 => ?_))
        exact Eq.trans (r_go (act := oZret) rfl rfl) (a_zret)
      · refine Eq.trans (Eq.trans (r_go (act := oS (fIld 44 1)) rfl rfl) (a_ild rfl)) ?_
        refine Eq.trans (Eq.trans (r_go (act := oS (fSt 45 (gC (.int 3)))) rfl rfl) (a_C)) ?_
        refine Eq.trans (Eq.trans (r_go (act := oS (fCm 48 73 cEq)) rfl rfl) (a_cm)) (bcg ?_ ?_)
        · refine Eq.trans (Eq.trans (r_go (act := oS (fAld 49 0)) rfl rfl) (a_ald rfl)) ?_
          refine Eq.trans (Eq.trans (r_go (act := oS (fIld 50 2)) rfl rfl) (a_ild rfl)) ?_
          refine Eq.trans (Eq.trans (r_go (act := oCI 53 2 (zcv g 12) (X_X12_isTeller g)) rfl rfl) (a_cI rfl (zck (zO_72 g) rfl))) (zbI_cg (fun x4 M4 => ?_))
          refine Eq.trans (Eq.trans (r_go (act := oS (fIf 71 56 cEq0)) rfl rfl) (a_if)) (bcg ?_ ?_)
          · refine Eq.trans (Eq.trans (r_go (act := oS (fSt 72 (gC (.int 0)))) rfl rfl) (a_C)) ?_
            exact Eq.trans (Eq.trans (r_go (act := oZret) rfl rfl) a_zret) (bcT (by decide +kernel))
          · refine Eq.trans (Eq.trans (r_go (act := oS (fAld 57 0)) rfl rfl) (a_ald rfl)) ?_
            refine Eq.trans (Eq.trans (r_go (act := oS (fIld 58 3)) rfl rfl) (a_ild rfl)) ?_
            refine Eq.trans (Eq.trans (r_go (act := oS (fSt 59 (gC (.int 0)))) rfl rfl) (a_C)) ?_
            refine Eq.trans (Eq.trans (r_go (act := oS (fSt 61 (gC (.int 9)))) rfl rfl) (a_C)) ?_
            refine Eq.trans (Eq.trans (r_go (act := oCI 64 4 (zcv g 12) (X_X12_isIn g)) rfl rfl) (a_cI rfl (zck (zO_72 g) rfl))) (zbI_cg (fun x5 M5 => ?_))
            refine Eq.trans (Eq.trans (r_go (act := oS (fIf 71 67 cEq0)) rfl rfl) (a_if)) (bcg ?_ ?_)
            · refine Eq.trans (Eq.trans (r_go (act := oS (fSt 72 (gC (.int 0)))) rfl rfl) (a_C)) ?_
              exact Eq.trans (Eq.trans (r_go (act := oZret) rfl rfl) a_zret) (bcT (by decide +kernel))
            · refine Eq.trans (Eq.trans (r_go (act := oS (fSt 68 (gC (.int 1)))) rfl rfl) (a_C)) ?_
              refine Eq.trans (Eq.trans (r_go (act := oS (fGo 72)) rfl rfl) (a_goto)) ?_
              exact Eq.trans (Eq.trans (r_go (act := oZret) rfl rfl) a_zret) (bcT (by decide +kernel))
        · refine Eq.trans (Eq.trans (r_go (act := oS (fIld 74 1)) rfl rfl) (a_ild rfl)) ?_
          refine Eq.trans (Eq.trans (r_go (act := oS (fSt 75 (gC (.int 4)))) rfl rfl) (a_C)) ?_
          refine Eq.trans (Eq.trans (r_go (act := oS (fCm 78 104 cEq)) rfl rfl) (a_cm)) (bcg ?_ ?_)
          · refine Eq.trans (Eq.trans (r_go (act := oS (fAld 79 0)) rfl rfl) (a_ald rfl)) ?_
            refine Eq.trans (Eq.trans (r_go (act := oS (fIld 80 2)) rfl rfl) (a_ild rfl)) ?_
            refine Eq.trans (Eq.trans (r_go (act := oCI 83 2 (zcv g 12) (X_X12_isTeller g)) rfl rfl) (a_cI rfl (zck (zO_72 g) rfl))) (zbI_cg (fun x6 M6 => ?_))
            refine Eq.trans (Eq.trans (r_go (act := oS (fIf 104 86 cEq0)) rfl rfl) (a_if)) (bcg ?_ ?_)
            · refine Eq.trans (Eq.trans (r_go (act := oS (fSt 105 (gC (.int 0)))) rfl rfl) (a_C)) ?_
              exact Eq.trans (Eq.trans (r_go (act := oZret) rfl rfl) a_zret) (bcT (by decide +kernel))
            · refine Eq.trans (Eq.trans (r_go (act := oS (fAld 87 0)) rfl rfl) (a_ald rfl)) ?_
              refine Eq.trans (Eq.trans (r_go (act := oS (fIld 88 3)) rfl rfl) (a_ild rfl)) ?_
              refine Eq.trans (Eq.trans (r_go (act := oS (fSt 91 (gC (.int (-999))))) rfl rfl) (a_C)) ?_
              refine Eq.trans (Eq.trans (r_go (act := oS (fSt 94 (gC (.int 999)))) rfl rfl) (a_C)) ?_
              refine Eq.trans (Eq.trans (r_go (act := oCI 97 4 (zcv g 12) (X_X12_isIn g)) rfl rfl) (a_cI rfl (zck (zO_72 g) rfl))) (zbI_cg (fun x7 M7 => ?_))
              refine Eq.trans (Eq.trans (r_go (act := oS (fIf 104 100 cEq0)) rfl rfl) (a_if)) (bcg ?_ ?_)
              · refine Eq.trans (Eq.trans (r_go (act := oS (fSt 105 (gC (.int 0)))) rfl rfl) (a_C)) ?_
                exact Eq.trans (Eq.trans (r_go (act := oZret) rfl rfl) a_zret) (bcT (by decide +kernel))
              · refine Eq.trans (Eq.trans (r_go (act := oS (fSt 101 (gC (.int 1)))) rfl rfl) (a_C)) ?_
                refine Eq.trans (Eq.trans (r_go (act := oS (fGo 105)) rfl rfl) (a_goto)) ?_
                exact Eq.trans (Eq.trans (r_go (act := oZret) rfl rfl) a_zret) (bcT (by decide +kernel))
          · refine Eq.trans (Eq.trans (r_go (act := oS (fSt 105 (gC (.int 0)))) rfl rfl) (a_C)) ?_
            exact Eq.trans (Eq.trans (r_go (act := oZret) rfl rfl) a_zret) (bcT (by decide +kernel))
theorem x_X12_canSet_0 (g : zg) (a1 : Int32) (a2 : Int32) (a3 : Int32) (M : zM) : X_X12_canSet g [.ref 72, .int a1, .int a2, .int a3] M = (bif cEq0 a1 then (zbI (X_X12_isIn g [.ref 72, .int a3, .int 0, .int 99] M) (fun x1 M1 => (bif cEq (x1 &&& 1) x1 then some (some (.int x1), M1) else none))) else (bif cEq a1 1 then (zbI (X_X12_isIn g [.ref 72, .int a3, .int 0, .int 1000] M) (fun x2 M2 => (bif cEq (x2 &&& 1) x2 then some (some (.int x2), M2) else none))) else (bif cEq a1 2 then (zbI (X_X12_isIn g [.ref 72, .int a3, .int (-999), .int 0] M) (fun x3 M3 => (bif cEq (x3 &&& 1) x3 then some (some (.int x3), M3) else none))) else (bif cEq a1 3 then (zbI (X_X12_isTeller g [.ref 72, .int a2] M) (fun x4 M4 => (bif cEq0 x4 then some (some (.int 0), M4) else (zbI (X_X12_isIn g [.ref 72, .int a3, .int 0, .int 9] M4) (fun x5 M5 => (bif cEq0 x5 then some (some (.int 0), M5) else some (some (.int 1), M5))))))) else (bif cEq a1 4 then (zbI (X_X12_isTeller g [.ref 72, .int a2] M) (fun x6 M6 => (bif cEq0 x6 then some (some (.int 0), M6) else (zbI (X_X12_isIn g [.ref 72, .int a3, .int (-999), .int 999] M6) (fun x7 M7 => (bif cEq0 x7 then some (some (.int 0), M7) else some (some (.int 1), M7))))))) else some (some (.int 0), M)))))) := e_X12_canSet_0 g a1 a2 a3 M
