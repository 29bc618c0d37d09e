set_option maxRecDepth 20000 in
theorem e_X8_forget_0 (g : zg) (M : zM) : zX (t_X8_forget g) 0 [some (.ref 42)] [] M = some (none, ((zu M.1 42 2 0), M.2)) := by
  refine Eq.trans (zX_rgN (tl_X8_forget g) (hc_X8_forget g) 5 _ _ _ _) ?_
  refine Eq.trans (Eq.trans (r_0 (act := oS (fAld 1 0)) rfl) (a_ald rfl)) ?_
  refine Eq.trans (Eq.trans (r_go (act := oS (fSt 2 (gC (.int 0)))) rfl rfl) (a_C)) ?_
  refine Eq.trans (Eq.trans (r_go (act := oS (fPi g 5 8 2)) rfl rfl) (a_pi (zO_42 g))) ?_
  exact Eq.trans (r_go (act := oVret) rfl rfl) (a_vret)
theorem x_X8_forget_0 (g : zg) (M : zM) : X_X8_forget g [.ref 42] M = some (none, ((zu M.1 42 2 0), M.2)) := e_X8_forget_0 g M
set_option maxRecDepth 20000 in
theorem e_X11_state_0 (g : zg) (a1 : Int32) (M : zM) : zX (t_X11_state g) 0 [some (.ref 0), some (.int a1), none] [] M = (zbV (X_X8_forget g [.ref 42] ((zu M.1 7 3 a1), M.2)) (fun M1 => some (some (.int (M.1 7 3)), M1))) := by
  refine Eq.trans (zX_rgN (tl_X11_state g) (hc_X11_state g) 16 _ _ _ _) ?_
  refine Eq.trans (Eq.trans (r_0 (act := oS (fAld 1 0)) rfl) (a_ald rfl)) ?_
  refine Eq.trans (Eq.trans (r_go (act := oS (fGr g 4 11 1)) rfl rfl) (a_gr (zO_0 g) (zR_0_1 g))) ?_
  refine Eq.trans (Eq.trans (r_go (act := oS (fGr g 7 10 0)) rfl rfl) (a_gr (zO_6 g) (zR_6_0 g))) ?_
  refine Eq.trans (Eq.trans (r_go (act := oS (fGi g 10 3 3)) rfl rfl) (a_gi (zO_7 g))) ?_
  refine Eq.trans (Eq.trans (r_go (act := oS (fIst 11 2)) rfl rfl) (a_ist rfl rfl)) ?_
  refine Eq.trans (Eq.trans (r_go (act := oS (fAld 12 0)) rfl rfl) (a_ald rfl)) ?_
  refine Eq.trans (Eq.trans (r_go (act := oS (fGr g 15 11 1)) rfl rfl) (a_gr (zO_0 g) (zR_0_1 g))) ?_
  refine Eq.trans (Eq.trans (r_go (act := oS (fGr g 18 10 0)) rfl rfl) (a_gr (zO_6 g) (zR_6_0 g))) ?_
  refine Eq.trans (Eq.trans (r_go (act := oS (fIld 19 1)) rfl rfl) (a_ild rfl)) ?_
  refine Eq.trans (Eq.trans (r_go (act := oS (fPi g 22 3 3)) rfl rfl) (a_pi (zO_7 g))) ?_
  refine Eq.trans (Eq.trans (r_go (act := oS (fAld 23 0)) rfl rfl) (a_ald rfl)) ?_
  refine Eq.trans (Eq.trans (r_go (act := oS (fGr g 26 11 3)) rfl rfl) (a_gr (zO_0 g) (zR_0_3 g))) ?_
  refine Eq.trans (Eq.trans (r_go (act := oCV 29 1 (zcv g 8) (X_X8_forget g)) rfl rfl) (a_cV rfl (zck (zO_42 g) rfl))) (zbV_cg (fun M1 => ?_))
  refine Eq.trans (Eq.trans (r_go (act := oS (fIld 30 2)) rfl rfl) (a_ild rfl)) ?_
  exact Eq.trans (r_go (act := oIret) rfl rfl) (a_iret)
theorem x_X11_state_0 (g : zg) (a1 : Int32) (M : zM) : X_X11_state g [.ref 0, .int a1] M = (zbV (X_X8_forget g [.ref 42] ((zu M.1 7 3 a1), M.2)) (fun M1 => some (some (.int (M.1 7 3)), M1))) := e_X11_state_0 g a1 M
set_option maxRecDepth 20000 in
theorem e_X11_within_0 (g : zg) (a0 : Int32) (a1 : Int32) (a2 : Int32) (M : zM) : zX (t_X11_within g) 0 [some (.int a0), some (.int a1), some (.int a2)] [] M = (bif cLt a0 a1 then some (some (.int 0), M) else (bif cGt a0 a2 then some (some (.int 0), M) else some (some (.int 1), M))) := by
  refine Eq.trans (zX_rgN (tl_X11_within g) (hc_X11_within g) 10 _ _ _ _) ?_
  refine Eq.trans (Eq.trans (r_0 (act := oS (fIld 1 0)) rfl) (a_ild rfl)) ?_
  refine Eq.trans (Eq.trans (r_go (act := oS (fIld 2 1)) rfl rfl) (a_ild rfl)) ?_
  refine Eq.trans (Eq.trans (r_go (act := oS (fCm 14 5 cLt)) rfl rfl) (a_cm)) (bcg ?_ ?_)
  · refine Eq.trans (Eq.trans (r_go (act := oS (fSt 15 (gC (.int 0)))) rfl rfl) (a_C)) ?_
    exact Eq.trans (Eq.trans (r_go (act := oZret) rfl rfl) a_zret) (bcT (by decide +kernel))
  · refine Eq.trans (Eq.trans (r_go (act := oS (fIld 6 0)) rfl rfl) (a_ild rfl)) ?_
    refine Eq.trans (Eq.trans (r_go (act := oS (fIld 7 2)) rfl rfl) (a_ild rfl)) ?_
    refine Eq.trans (Eq.trans (r_go (act := oS (fCm 14 10 cGt)) rfl rfl) (a_cm)) (bcg ?_ ?_)
    · refine Eq.trans (Eq.trans (r_go (act := oS (fSt 15 (gC (.int 0)))) rfl rfl) (a_C)) ?_
      exact Eq.trans (Eq.trans (r_go (act := oZret) rfl rfl) a_zret) (bcT (by decide +kernel))
    · refine Eq.trans (Eq.trans (r_go (act := oS (fSt 11 (gC (.int 1)))) rfl rfl) (a_C)) ?_
      refine Eq.trans (Eq.trans (r_go (act := oS (fGo 15)) rfl rfl) (a_goto)) ?_
      exact Eq.trans (Eq.trans (r_go (act := oZret) rfl rfl) a_zret) (bcT (by decide +kernel))
theorem x_X11_within_0 (g : zg) (a0 : Int32) (a1 : Int32) (a2 : Int32) (M : zM) : X_X11_within g [.int a0, .int a1, .int a2] M = (bif cLt a0 a1 then some (some (.int 0), M) else (bif cGt a0 a2 then some (some (.int 0), M) else some (some (.int 1), M))) := e_X11_within_0 g a0 a1 a2 M
set_option maxRecDepth 20000 in
theorem e_X3_has_0 (g : zg) (a1 : Int32) (M : zM) : zX (t_X3_has g) 0 [some (.ref 7), some (.int a1)] [] M = (bif cLt0 a1 then some (some (.int 0), M) else (bif cLt a1 (M.1 7 2) then some (some (.int 1), M) else some (some (.int 0), M))) := by
  refine Eq.trans (zX_rgN (tl_X3_has g) (hc_X3_has g) 10 _ _ _ _) ?_
  refine Eq.trans (Eq.trans (r_0 (act := oS (fIld 1 1)) rfl) (a_ild rfl)) ?_
  refine Eq.trans (Eq.trans (r_go (act := oS (fIf 16 4 cLt0)) rfl rfl) (a_if)) (bcg ?_ ?_)
  · refine Eq.trans (Eq.trans (r_go (act := oS (fSt 17 (gC (.int 0)))) rfl rfl) (a_C)) ?_
    exact Eq.trans (Eq.trans (r_go (act := oZret) rfl rfl) a_zret) (bcT (by decide +kernel))
  · refine Eq.trans (Eq.trans (r_go (act := oS (fIld 5 1)) rfl rfl) (a_ild rfl)) ?_
    refine Eq.trans (Eq.trans (r_go (act := oS (fAld 6 0)) rfl rfl) (a_ald rfl)) ?_
    refine Eq.trans (Eq.trans (r_go (act := oS (fGi g 9 3 2)) rfl rfl) (a_gi (zO_7 g))) ?_
    refine Eq.trans (Eq.trans (r_go (act := oS (fCm 12 16 cLt)) rfl rfl) (a_cm)) (bcg ?_ ?_)
    · refine Eq.trans (Eq.trans (r_go (act := oS (fSt 13 (gC (.int 1)))) rfl rfl) (a_C)) ?_
      refine Eq.trans (Eq.trans (r_go (act := oS (fGo 17)) rfl rfl) (a_goto)) ?_
      exact Eq.trans (Eq.trans (r_go (act := oZret) rfl rfl) a_zret) (bcT (by decide +kernel))
    · refine Eq.trans (Eq.trans (r_go (act := oS (fSt 17 (gC (.int 0)))) rfl rfl) (a_C)) ?_
      exact Eq.trans (Eq.trans (r_go (act := oZret) rfl rfl) a_zret) (bcT (by decide +kernel))
theorem x_X3_has_0 (g : zg) (a1 : Int32) (M : zM) : X_X3_has g [.ref 7, .int a1] M = (bif cLt0 a1 then some (some (.int 0), M) else (bif cLt a1 (M.1 7 2) then some (some (.int 1), M) else some (some (.int 0), M))) := e_X3_has_0 g a1 M
set_option maxRecDepth 20000 in
theorem e_X3_has_0_1 (g : zg) (a1 : Int32) (M : zM) : zX (t_X3_has g) 0 [some (.ref 40), some (.int a1)] [] M = (bif cLt0 a1 then some (some (.int 0), M) else (bif cLt a1 (M.1 40 2) then some (some (.int 1), M) else some (some (.int 0), M))) := by
  refine Eq.trans (zX_rgN (tl_X3_has g) (hc_X3_has g) 10 _ _ _ _) ?_
  refine Eq.trans (Eq.trans (r_0 (act := oS (fIld 1 1)) rfl) (a_ild rfl)) ?_
  refine Eq.trans (Eq.trans (r_go (act := oS (fIf 16 4 cLt0)) rfl rfl) (a_if)) (bcg ?_ ?_)
  · refine Eq.trans (Eq.trans (r_go (act := oS (fSt 17 (gC (.int 0)))) rfl rfl) (a_C)) ?_
    exact Eq.trans (Eq.trans (r_go (act := oZret) rfl rfl) a_zret) (bcT (by decide +kernel))
  · refine Eq.trans (Eq.trans (r_go (act := oS (fIld 5 1)) rfl rfl) (a_ild rfl)) ?_
    refine Eq.trans (Eq.trans (r_go (act := oS (fAld 6 0)) rfl rfl) (a_ald rfl)) ?_
    refine Eq.trans (Eq.trans (r_go (act := oS (fGi g 9 3 2)) rfl rfl) (a_gi (zO_40 g))) ?_
    refine Eq.trans (Eq.trans (r_go (act := oS (fCm 12 16 cLt)) rfl rfl) (a_cm)) (bcg ?_ ?_)
    · refine Eq.trans (Eq.trans (r_go (act := oS (fSt 13 (gC (.int 1)))) rfl rfl) (a_C)) ?_
      refine Eq.trans (Eq.trans (r_go (act := oS (fGo 17)) rfl rfl) (a_goto)) ?_
      exact Eq.trans (Eq.trans (r_go (act := oZret) rfl rfl) a_zret) (bcT (by decide +kernel))
    · refine Eq.trans (Eq.trans (r_go (act := oS (fSt 17 (gC (.int 0)))) rfl rfl) (a_C)) ?_
      exact Eq.trans (Eq.trans (r_go (act := oZret) rfl rfl) a_zret) (bcT (by decide +kernel))
theorem x_X3_has_0_1 (g : zg) (a1 : Int32) (M : zM) : X_X3_has g [.ref 40, .int a1] M = (bif cLt0 a1 then some (some (.int 0), M) else (bif cLt a1 (M.1 40 2) then some (some (.int 1), M) else some (some (.int 0), M))) := e_X3_has_0_1 g a1 M
set_option maxRecDepth 20000 in
theorem e_X3_put_0 (g : zg) (a1 : Int32) (a2 : Int32) (a3 : Int32) (M : zM) : zX (t_X3_put g) 0 [some (.ref 7), some (.int a1), some (.int a2), some (.int a3)] [] M = (zbI (X_X3_has g [.ref 7, .int a1] M) (fun x1 M1 => (bif cEq0 x1 then some (none, M1) else (zbI (X_X11_within g [.int a2, .int 0, .int 6] M1) (fun x2 M2 => (bif cEq0 x2 then some (none, M2) else (bif zb ((a1 * 7) + a2) 70 then some (none, ((zu M2.1 8 (zx ((a1 * 7) + a2)) a3), M2.2)) else none))))))) := by
  refine Eq.trans (zX_rgN (tl_X3_put g) (hc_X3_put g) 20 _ _ _ _) ?_
  refine Eq.trans (Eq.trans (r_0 (act := oS (fAld 1 0)) rfl) (a_ald rfl)) ?_
  refine Eq.trans (Eq.trans (r_go (act := oS (fIld 2 1)) rfl rfl) (a_ild rfl)) ?_
  refine Eq.trans (Eq.trans (r_go (act := oCI 5 2 (zcv g 3) (X_X3_has g)) rfl rfl) (a_cI rfl (zck (zO_7 g) rfl))) (zbI_cg (fun x1 M1 => ?_))
  refine Eq.trans (Eq.trans (r_go (act := oS (fIf 30 8 cEq0)) rfl rfl) (a_if)) (bcg ?_ ?_)
  · exact Eq.trans (r_go (act := oVret) rfl rfl) (a_vret)
  · refine Eq.trans (Eq.trans (r_go (act := oS (fIld 9 2)) rfl rfl) (a_ild rfl)) ?_
    refine Eq.trans (Eq.trans (r_go (act := oS (fSt 10 (gC (.int 0)))) rfl rfl) (a_C)) ?_
    refine Eq.trans (Eq.trans (r_go (act := oS (fSt 12 (gC (.int 6)))) rfl rfl) (a_C)) ?_
    refine Eq.trans (Eq.trans (r_go (act := oCI 15 3 zcs (X_X11_within g)) rfl rfl) (a_cI rfl rfl)) (zbI_cg (fun x2 M2 => ?_))
    refine Eq.trans (Eq.trans (r_go (act := oS (fIf 30 18 cEq0)) rfl rfl) (a_if)) (bcg ?_ ?_)
    · exact Eq.trans (r_go (act := oVret) rfl rfl) (a_vret)
    · refine Eq.trans (Eq.trans (r_go (act := oS (fAld 19 0)) rfl rfl) (a_ald rfl)) ?_
      refine Eq.trans (Eq.trans (r_go (act := oS (fGr g 22 3 1)) rfl rfl) (a_gr (zO_7 g) (zR_7_1 g))) ?_
      refine Eq.trans (Eq.trans (r_go (act := oS (fIld 23 1)) rfl rfl) (a_ild rfl)) ?_
      refine Eq.trans (Eq.trans (r_go (act := oS (fSt 25 (gC (.int 7)))) rfl rfl) (a_C)) ?_
      refine Eq.trans (Eq.trans (r_go (act := oS (fSt 26 (g2 (fun x y => x * y)))) rfl rfl) (a_mul)) ?_
      refine Eq.trans (Eq.trans (r_go (act := oS (fIld 27 2)) rfl rfl) (a_ild rfl)) ?_
      refine Eq.trans (Eq.trans (r_go (act := oS (fSt 28 (g2 (fun x y => x + y)))) rfl rfl) (a_add)) ?_
      refine Eq.trans (Eq.trans (r_go (act := oS (fIld 29 3)) rfl rfl) (a_ild rfl)) ?_
      refine Eq.trans (Eq.trans (r_go (act := oS (fIs g 30)) rfl rfl) (a_is (zA_8 g) zS_8)) (bcg ?_ rfl)
      exact Eq.trans (r_go (act := oVret) rfl rfl) (a_vret)
theorem x_X3_put_0 (g : zg) (a1 : Int32) (a2 : Int32) (a3 : Int32) (M : zM) : X_X3_put g [.ref 7, .int a1, .int a2, .int a3] M = (zbI (X_X3_has g [.ref 7, .int a1] M) (fun x1 M1 => (bif cEq0 x1 then some (none, M1) else (zbI (X_X11_within g [.int a2, .int 0, .int 6] M1) (fun x2 M2 => (bif cEq0 x2 then some (none, M2) else (bif zb ((a1 * 7) + a2) 70 then some (none, ((zu M2.1 8 (zx ((a1 * 7) + a2)) a3), M2.2)) else none))))))) := e_X3_put_0 g a1 a2 a3 M
set_option maxRecDepth 20000 in
theorem e_X3_put_0_1 (g : zg) (a1 : Int32) (a2 : Int32) (a3 : Int32) (M : zM) : zX (t_X3_put g) 0 [some (.ref 40), some (.int a1), some (.int a2), some (.int a3)] [] M = (zbI (X_X3_has g [.ref 40, .int a1] M) (fun x1 M1 => (bif cEq0 x1 then some (none, M1) else (zbI (X_X11_within g [.int a2, .int 0, .int 6] M1) (fun x2 M2 => (bif cEq0 x2 then some (none, M2) else (bif zb ((a1 * 7) + a2) 70 then some (none, ((zu M2.1 41 (zx ((a1 * 7) + a2)) a3), M2.2)) else none))))))) := by
  refine Eq.trans (zX_rgN (tl_X3_put g) (hc_X3_put g) 20 _ _ _ _) ?_
  refine Eq.trans (Eq.trans (r_0 (act := oS (fAld 1 0)) rfl) (a_ald rfl)) ?_
  refine Eq.trans (Eq.trans (r_go (act := oS (fIld 2 1)) rfl rfl) (a_ild rfl)) ?_
  refine Eq.trans (Eq.trans (r_go (act := oCI 5 2 (zcv g 3) (X_X3_has g)) rfl rfl) (a_cI rfl (zck (zO_40 g) rfl))) (zbI_cg (fun x1 M1 => ?_))
  refine Eq.trans (Eq.trans (r_go (act := oS (fIf 30 8 cEq0)) rfl rfl) (a_if)) (bcg ?_ ?_)
  · exact Eq.trans (r_go (act := oVret) rfl rfl) (a_vret)
  · refine Eq.trans (Eq.trans (r_go (act := oS (fIld 9 2)) rfl rfl) (a_ild rfl)) ?_
    refine Eq.trans (Eq.trans (r_go (act := oS (fSt 10 (gC (.int 0)))) rfl rfl) (a_C)) ?_
    refine Eq.trans (Eq.trans (r_go (act := oS (fSt 12 (gC (.int 6)))) rfl rfl) (a_C)) ?_
    refine Eq.trans (Eq.trans (r_go (act := oCI 15 3 zcs (X_X11_within g)) rfl rfl) (a_cI rfl rfl)) (zbI_cg (fun x2 M2 => ?_))
    refine Eq.trans (Eq.trans (r_go (act := oS (fIf 30 18 cEq0)) rfl rfl) (a_if)) (bcg ?_ ?_)
    · exact Eq.trans (r_go (act := oVret) rfl rfl) (a_vret)
    · refine Eq.trans (Eq.trans (r_go (act := oS (fAld 19 0)) rfl rfl) (a_ald rfl)) ?_
      refine Eq.trans (Eq.trans (r_go (act := oS (fGr g 22 3 1)) rfl rfl) (a_gr (zO_40 g) (zR_40_1 g))) ?_
      refine Eq.trans (Eq.trans (r_go (act := oS (fIld 23 1)) rfl rfl) (a_ild rfl)) ?_
      refine Eq.trans (Eq.trans (r_go (act := oS (fSt 25 (gC (.int 7)))) rfl rfl) (a_C)) ?_
      refine Eq.trans (Eq.trans (r_go (act := oS (fSt 26 (g2 (fun x y => x * y)))) rfl rfl) (a_mul)) ?_
      refine Eq.trans (Eq.trans (r_go (act := oS (fIld 27 2)) rfl rfl) (a_ild rfl)) ?_
      refine Eq.trans (Eq.trans (r_go (act := oS (fSt 28 (g2 (fun x y => x + y)))) rfl rfl) (a_add)) ?_
      refine Eq.trans (Eq.trans (r_go (act := oS (fIld 29 3)) rfl rfl) (a_ild rfl)) ?_
      refine Eq.trans (Eq.trans (r_go (act := oS (fIs g 30)) rfl rfl) (a_is (zA_41 g) zS_41)) (bcg ?_ rfl)
      exact Eq.trans (r_go (act := oVret) rfl rfl) (a_vret)
theorem x_X3_put_0_1 (g : zg) (a1 : Int32) (a2 : Int32) (a3 : Int32) (M : zM) : X_X3_put g [.ref 40, .int a1, .int a2, .int a3] M = (zbI (X_X3_has g [.ref 40, .int a1] M) (fun x1 M1 => (bif cEq0 x1 then some (none, M1) else (zbI (X_X11_within g [.int a2, .int 0, .int 6] M1) (fun x2 M2 => (bif cEq0 x2 then some (none, M2) else (bif zb ((a1 * 7) + a2) 70 then some (none, ((zu M2.1 41 (zx ((a1 * 7) + a2)) a3), M2.2)) else none))))))) := e_X3_put_0_1 g a1 a2 a3 M
set_option maxRecDepth 20000 in
theorem e_X3_admit_0 (g : zg) (a1 : Int32) (a2 : Int32) (M : zM) : zX (t_X3_admit g) 0 [some (.ref 7), some (.int a1), some (.int a2), none] [] M = (bif cLt (M.1 7 2) 10 then (zbV (X_X3_put g [.ref 7, .int (M.1 7 2), .int 0, .int a1] ((zu M.1 7 2 ((M.1 7 2) + 1)), M.2)) (fun M1 => (zbV (X_X3_put g [.ref 7, .int (M.1 7 2), .int 1, .int a2] M1) (fun M2 => (zbV (X_X3_put g [.ref 7, .int (M.1 7 2), .int 2, .int 0] M2) (fun M3 => (zbV (X_X3_put g [.ref 7, .int (M.1 7 2), .int 3, .int (-1)] M3) (fun M4 => (zbV (X_X3_put g [.ref 7, .int (M.1 7 2), .int 4, .int 0] M4) (fun M5 => (zbV (X_X3_put g [.ref 7, .int (M.1 7 2), .int 5, .int 0] M5) (fun M6 => (zbV (X_X3_put g [.ref 7, .int (M.1 7 2), .int 6, .int (-1)] M6) (fun M7 => some (some (.int (M.1 7 2)), M7))))))))))))))) else some (some (.int (-1)), M)) := by
  refine Eq.trans (zX_rgN (tl_X3_admit g) (hc_X3_admit g) 51 _ _ _ _) ?_
  refine Eq.trans (Eq.trans (r_0 (act := oS (fAld 1 0)) rfl) (a_ald rfl)) ?_
  refine Eq.trans (Eq.trans (r_go (act := oS (fGi g 4 3 2)) rfl rfl) (a_gi (zO_7 g))) ?_
  refine Eq.trans (Eq.trans (r_go (act := oS (fSt 6 (gC (.int 10)))) rfl rfl) (a_C)) ?_
  refine Eq.trans (Eq.trans (r_go (act := oS (fCm 11 9 cLt)) rfl rfl) (a_cm)) (bcg ?_ ?_)
  · refine Eq.trans (Eq.trans (r_go (act := oS (fAld 12 0)) rfl rfl) (a_ald rfl)) ?_
    refine Eq.trans (Eq.trans (r_go (act := oS (fGi g 15 3 2)) rfl rfl) (a_gi (zO_7 g))) ?_
    refine Eq.trans (Eq.trans (r_go (act := oS (fIst 16 3)) rfl rfl) (a_ist rfl rfl)) ?_
    refine Eq.trans (Eq.trans (r_go (act := oS (fAld 17 0)) rfl rfl) (a_ald rfl)) ?_
    refine Eq.trans (Eq.trans (r_go (act := oS (fSt 18 gDup)) rfl rfl) (a_dupR)) ?_
    refine Eq.trans (Eq.trans (r_go (act := oS (fGi g 21 3 2)) rfl rfl) (a_gi (zO_7 g))) ?_
    refine Eq.trans (Eq.trans (r_go (act := oS (fSt 22 (gC (.int 1)))) rfl rfl) (a_C)) ?_
    refine Eq.trans (Eq.trans (r_go (act := oS (fSt 23 (g2 (fun x y => x + y)))) rfl rfl) (a_add)) ?_
    refine Eq.trans (Eq.trans (r_go (act := oS (fPi g 26 3 2)) rfl rfl) (a_pi (zO_7 g))) ?_
    refine Eq.trans (Eq.trans (r_go (act := oS (fAld 27 0)) rfl rfl) (a_ald rfl)) ?_
    refine Eq.trans (Eq.trans (r_go (act := oS (fIld 28 3)) rfl rfl) (a_ild rfl)) ?_
    refine Eq.trans (Eq.trans (r_go (act := oS (fSt 29 (gC (.int 0)))) rfl rfl) (a_C)) ?_
    refine Eq.trans (Eq.trans (r_go (act := oS (fIld 30 1)) rfl rfl) (a_ild rfl)) ?_
    refine Eq.trans (Eq.trans (r_go (act := oCV 33 4 (zcv g 3) (X_X3_put g)) rfl rfl) (a_cV rfl (zck (zO_7 g) rfl))) (zbV_cg (fun M1 => ?_))
    refine Eq.trans (Eq.trans (r_go (act := oS (fAld 34 0)) rfl rfl) (a_ald rfl)) ?_
    refine Eq.trans (Eq.trans (r_go (act := oS (fIld 35 3)) rfl rfl) (a_ild rfl)) ?_
    refine Eq.trans (Eq.trans (r_go (act := oS (fSt 36 (gC (.int 1)))) rfl rfl) (a_C)) ?_
    refine Eq.trans (Eq.trans (r_go (act := oS (fIld 37 2)) rfl rfl) (a_ild rfl)) ?_
    refine Eq.trans (Eq.trans (r_go (act := oCV 40 4 (zcv g 3) (X_X3_put g)) rfl rfl) (a_cV rfl (zck (zO_7 g) rfl))) (zbV_cg (fun M2 => ?_))
    refine Eq.trans (Eq.trans (r_go (act := oS (fAld 41 0)) rfl rfl) (a_ald rfl)) ?_
    refine Eq.trans (Eq.trans (r_go (act := oS (fIld 42 3)) rfl rfl) (a_ild rfl)) ?_
    refine Eq.trans (Eq.trans (r_go (act := oS (fSt 43 (gC (.int 2)))) rfl rfl) (a_C)) ?_
    refine Eq.trans (Eq.trans (r_go (act := oS (fSt 44 (gC (.int 0)))) rfl rfl) (a_C)) ?_
    refine Eq.trans (Eq.trans (r_go (act := oCV 47 4 (zcv g 3) (X_X3_put g)) rfl rfl) (a_cV rfl (zck (zO_7 g) rfl))) (zbV_cg (fun M3 => ?_))
    refine Eq.trans (Eq.trans (r_go (act := oS (fAld 48 0)) rfl rfl) (a_ald rfl)) ?_
    refine Eq.trans (Eq.trans (r_go (act := oS (fIld 49 3)) rfl rfl) (a_ild rfl)) ?_
    refine Eq.trans (Eq.trans (r_go (act := oS (fSt 50 (gC (.int 3)))) rfl rfl) (a_C)) ?_
    refine Eq.trans (Eq.trans (r_go (act := oS (fSt 51 (gC (.int (-1))))) rfl rfl) (a_C)) ?_
    refine Eq.trans (Eq.trans (r_go (act := oCV 54 4 (zcv g 3) (X_X3_put g)) rfl rfl) (a_cV rfl (zck (zO_7 g) rfl))) (zbV_cg (fun M4 => ?_))
    refine Eq.trans (Eq.trans (r_go (act := oS (fAld 55 0)) rfl rfl) (a_ald rfl)) ?_
    refine Eq.trans (Eq.trans (r_go (act := oS (fIld 56 3)) rfl rfl) (a_ild rfl)) ?_
    refine Eq.trans (Eq.trans (r_go (act := oS (fSt 57 (gC (.int 4)))) rfl rfl) (a_C)) ?_
    refine Eq.trans (Eq.trans (r_go (act := oS (fSt 58 (gC (.int 0)))) rfl rfl) (a_C)) ?_
    refine Eq.trans (Eq.trans (r_go (act := oCV 61 4 (zcv g 3) (X_X3_put g)) rfl rfl) (a_cV rfl (zck (zO_7 g) rfl))) (zbV_cg (fun M5 => ?_))
    refine Eq.trans (Eq.trans (r_go (act := oS (fAld 62 0)) rfl rfl) (a_ald rfl)) ?_
    refine Eq.trans (Eq.trans (r_go (act := oS (fIld 63 3)) rfl rfl) (a_ild rfl)) ?_
    refine Eq.trans (Eq.trans (r_go (act := oS (fSt 64 (gC (.int 5)))) rfl rfl) (a_C)) ?_
    refine Eq.trans (Eq.trans (r_go (act := oS (fSt 65 (gC (.int 0)))) rfl rfl) (a_C)) ?_
    refine Eq.trans (Eq.trans (r_go (act := oCV 68 4 (zcv g 3) (X_X3_put g)) rfl rfl) (a_cV rfl (zck (zO_7 g) rfl))) (zbV_cg (fun M6 => ?_))
    refine Eq.trans (Eq.trans (r_go (act := oS (fAld 69 0)) rfl rfl) (a_ald rfl)) ?_
    refine Eq.trans (Eq.trans (r_go (act := oS (fIld 70 3)) rfl rfl) (a_ild rfl)) ?_
    refine Eq.trans (Eq.trans (r_go (act := oS (fSt 72 (gC (.int 6)))) rfl rfl) (a_C)) ?_
    refine Eq.trans (Eq.trans (r_go (act := oS (fSt 73 (gC (.int (-1))))) rfl rfl) (a_C)) ?_
    refine Eq.trans (Eq.trans (r_go (act := oCV 76 4 (zcv g 3) (X_X3_put g)) rfl rfl) (a_cV rfl (zck (zO_7 g) rfl))) (zbV_cg (fun M7 => ?_))
    refine Eq.trans (Eq.trans (r_go (act := oS (fIld 77 3)) rfl rfl) (a_ild rfl)) ?_
    exact Eq.trans (r_go (act := oIret) rfl rfl) (a_iret)
  · refine Eq.trans (Eq.trans (r_go (act := oS (fSt 10 (gC (.int (-1))))) rfl rfl) (a_C)) ?_
    exact Eq.trans (r_go (act := oIret) rfl rfl) (a_iret)
theorem x_X3_admit_0 (g : zg) (a1 : Int32) (a2 : Int32) (M : zM) : X_X3_admit g [.ref 7, .int a1, .int a2] M = (bif cLt (M.1 7 2) 10 then (zbV (X_X3_put g [.ref 7, .int (M.1 7 2), .int 0, .int a1] ((zu M.1 7 2 ((M.1 7 2) + 1)), M.2)) (fun M1 => (zbV (X_X3_put g [.ref 7, .int (M.1 7 2), .int 1, .int a2] M1) (fun M2 => (zbV (X_X3_put g [.ref 7, .int (M.1 7 2), .int 2, .int 0] M2) (fun M3 => (zbV (X_X3_put g [.ref 7, .int (M.1 7 2), .int 3, .int (-1)] M3) (fun M4 => (zbV (X_X3_put g [.ref 7, .int (M.1 7 2), .int 4, .int 0] M4) (fun M5 => (zbV (X_X3_put g [.ref 7, .int (M.1 7 2), .int 5, .int 0] M5) (fun M6 => (zbV (X_X3_put g [.ref 7, .int (M.1 7 2), .int 6, .int (-1)] M6) (fun M7 => some (some (.int (M.1 7 2)), M7))))))))))))))) else some (some (.int (-1)), M)) := e_X3_admit_0 g a1 a2 M
set_option maxRecDepth 20000 in
theorem e_X11_teller_0 (g : zg) (a1 : Int32) (a2 : Int32) (M : zM) : zX (t_X11_teller g) 0 [some (.ref 0), some (.int a1), some (.int a2), none] [] M = (zbI (X_X11_within g [.int a1, .int 0, .int 5] M) (fun x1 M1 => (bif cEq0 x1 then some (some (.int (-1)), M1) else (zbI (X_X11_within g [.int a2, .int 0, .int 9] M1) (fun x2 M2 => (bif cEq0 x2 then some (some (.int (-1)), M2) else (zbI (X_X3_admit g [.ref 7, .int a1, .int a2] M2) (fun x3 M3 => (bif cEq x3 (-1) then some (some (.int x3), M3) else (zbV (X_X8_forget g [.ref 42] M3) (fun M4 => some (some (.int x3), M4)))))))))))) := by
  refine Eq.trans (zX_rgN (tl_X11_teller g) (hc_X11_teller g) 26 _ _ _ _) ?_
  refine Eq.trans (Eq.trans (r_0 (act := oS (fIld 1 1)) rfl) (a_ild rfl)) ?_
  refine Eq.trans (Eq.trans (r_go (act := oS (fSt 2 (gC (.int 0)))) rfl rfl) (a_C)) ?_
  refine Eq.trans (Eq.trans (r_go (act := oS (fSt 3 (gC (.int 5)))) rfl rfl) (a_C)) ?_
  refine Eq.trans (Eq.trans (r_go (act := oCI 6 3 zcs (X_X11_within g)) rfl rfl) (a_cI rfl rfl)) (zbI_cg (fun x1 M1 => ?_))
  refine Eq.trans (Eq.trans (r_go (act := oS (fIf 19 9 cEq0)) rfl rfl) (a_if)) (bcg ?_ ?_)
  · refine Eq.trans (Eq.trans (r_go (act := oS (fSt 20 (gC (.int (-1))))) rfl rfl) (a_C)) ?_
    exact Eq.trans (r_go (act := oIret) rfl rfl) (a_iret)
  · refine Eq.trans (Eq.trans (r_go (act := oS (fIld 10 2)) rfl rfl) (a_ild rfl)) ?_
    refine Eq.trans (Eq.trans (r_go (act := oS (fSt 11 (gC (.int 0)))) rfl rfl) (a_C)) ?_
    refine Eq.trans (Eq.trans (r_go (act := oS (fSt 13 (gC (.int 9)))) rfl rfl) (a_C)) ?_
    refine Eq.trans (Eq.trans (r_go (act := oCI 16 3 zcs (X_X11_within g)) rfl rfl) (a_cI rfl rfl)) (zbI_cg (fun x2 M2 => ?_))
    refine Eq.trans (Eq.trans (r_go (act := oS (fIf 19 21 cEq0)) rfl rfl) (a_if)) (bcg ?_ ?_)
    · refine Eq.trans (Eq.trans (r_go (act := oS (fSt 20 (gC (.int (-1))))) rfl rfl) (a_C)) ?_
      exact Eq.trans (r_go (act := oIret) rfl rfl) (a_iret)
    · refine Eq.trans (Eq.trans (r_go (act := oS (fAld 22 0)) rfl rfl) (a_ald rfl)) ?_
      refine Eq.trans (Eq.trans (r_go (act := oS (fGr g 25 11 1)) rfl rfl) (a_gr (zO_0 g) (zR_0_1 g))) ?_
      refine Eq.trans (Eq.trans (r_go (act := oS (fGr g 28 10 0)) rfl rfl) (a_gr (zO_6 g) (zR_6_0 g))) ?_
      refine Eq.trans (Eq.trans (r_go (act := oS (fIld 29 1)) rfl rfl) (a_ild rfl)) ?_
      refine Eq.trans (Eq.trans (r_go (act := oS (fIld 30 2)) rfl rfl) (a_ild rfl)) ?_
      refine Eq.trans (Eq.trans (r_go (act := oCI 33 3 (zcv g 3) (X_X3_admit g)) rfl rfl) (a_cI rfl (zck (zO_7 g) rfl))) (zbI_cg (fun x3 M3 => ?_))
      refine Eq.trans (Eq.trans (r_go (act := oS (fIst 34 3)) rfl rfl) (a_ist rfl rfl)) ?_
      refine Eq.trans (Eq.trans (r_go (act := oS (fIld 35 3)) rfl rfl) (a_ild rfl)) ?_
      refine Eq.trans (Eq.trans (r_go (act := oS (fSt 36 (gC (.int (-1))))) rfl rfl) (a_C)) ?_
      refine Eq.trans (Eq.trans (r_go (act := oS (fCm 46 39 cEq)) rfl rfl) (a_cm)) (bcg ?_ ?_)
      · refine Eq.trans (Eq.trans (r_go (act := oS (fIld 47 3)) rfl rfl) (a_ild rfl)) ?_
        exact Eq.trans (r_go (act := oIret) rfl rfl) (a_iret)
      · refine Eq.trans (Eq.trans (r_go (act := oS (fAld 40 0)) rfl rfl) (a_ald rfl)) ?_
        refine Eq.trans (Eq.trans (r_go (act := oS (fGr g 43 11 3)) rfl rfl) (a_gr (zO_0 g) (zR_0_3 g))) ?_
        refine Eq.trans (Eq.trans (r_go (act := oCV 46 1 (zcv g 8) (X_X8_forget g)) rfl rfl) (a_cV rfl (zck (zO_42 g) rfl))) (zbV_cg (fun M4 => ?_))
        refine Eq.trans (Eq.trans (r_go (act := oS (fIld 47 3)) rfl rfl) (a_ild rfl)) ?_
        exact Eq.trans (r_go (act := oIret) rfl rfl) (a_iret)
theorem x_X11_teller_0 (g : zg) (a1 : Int32) (a2 : Int32) (M : zM) : X_X11_teller g [.ref 0, .int a1, .int a2] M = (zbI (X_X11_within g [.int a1, .int 0, .int 5] M) (fun x1 M1 => (bif cEq0 x1 then some (some (.int (-1)), M1) else (zbI (X_X11_within g [.int a2, .int 0, .int 9] M1) (fun x2 M2 => (bif cEq0 x2 then some (some (.int (-1)), M2) else (zbI (X_X3_admit g [.ref 7, .int a1, .int a2] M2) (fun x3 M3 => (bif cEq x3 (-1) then some (some (.int x3), M3) else (zbV (X_X8_forget g [.ref 42] M3) (fun M4 => some (some (.int x3), M4)))))))))))) := e_X11_teller_0 g a1 a2 M
set_option maxRecDepth 20000 in
theorem e_X11_set_0 (g : zg) (a1 : Int32) (a2 : Int32) (a3 : Int32) (M : zM) : zX (t_X11_set g) 0 [some (.ref 0), some (.int a1), some (.int a2), some (.int a3), none] [] M = (bif cEq0 a1 then (zbI (X_X11_within g [.int a3, .int 0, .int 99] M) (fun x1 M1 => (bif cEq0 x1 then zX (t_X11_set g) 32 [some (.ref 0), some (.int a1), some (.int a2), some (.int a3), some (.ref 7)] [] M1 else (zbV (X_X8_forget g [.ref 42] ((zu M1.1 7 4 a3), M1.2)) (fun M2 => some (some (.int 1), M2)))))) else zX (t_X11_set g) 32 [some (.ref 0), some (.int a1), some (.int a2), some (.int a3), some (.ref 7)] [] M) := by
  refine Eq.trans (zX_rgN (tl_X11_set g) (hc_X11_set g) 21 _ _ _ _) ?_
  refine Eq.trans (Eq.trans (r_0 (act := oS (fAld 1 0)) rfl) (a_ald rfl)) ?_
  refine Eq.trans (Eq.trans (r_go (act := oS (fGr g 4 11 1)) rfl rfl) (a_gr (zO_0 g) (zR_0_1 g))) ?_
  refine Eq.trans (Eq.trans (r_go (act := oS (fGr g 7 10 0)) rfl rfl) (a_gr (zO_6 g) (zR_6_0 g))) ?_
  refine Eq.trans (Eq.trans (r_go (act := oS (fAst 9 4)) rfl rfl) (a_ast rfl rfl)) ?_
  refine Eq.trans (Eq.trans (r_go (act := oS (fIld 10 1)) rfl rfl) (a_ild rfl)) ?_
  refine Eq.trans (Eq.trans (r_go (act := oS (fIf 13 32 cEq0)) rfl rfl) (a_if)) (bcg ?_ ?_)
  · refine Eq.trans (Eq.trans (r_go (act := oS (fIld 14 3)) rfl rfl) (a_ild rfl)) ?_
    refine Eq.trans (Eq.trans (r_go (act := oS (fSt 15 (gC (.int 0)))) rfl rfl) (a_C)) ?_
    refine Eq.trans (Eq.trans (r_go (act := oS (fSt 17 (gC (.int 99)))) rfl rfl) (a_C)) ?_
    refine Eq.trans (Eq.trans (r_go (act := oCI 20 3 zcs (X_X11_within g)) rfl rfl) (a_cI rfl rfl)) (zbI_cg (fun x1 M1 => ?_))
    refine Eq.trans (Eq.trans (r_go (act := oS (fIf 32 23 cEq0)) rfl rfl) (a_if)) (bcg ?_ ?_)
    · exact r_cut rfl rfl
    · refine Eq.trans (Eq.trans (r_go (act := oS (fAld 25 4)) rfl rfl) (a_ald rfl)) ?_
      refine Eq.trans (Eq.trans (r_go (act := oS (fIld 26 3)) rfl rfl) (a_ild rfl)) ?_
      refine Eq.trans (Eq.trans (r_go (act := oS (fPi g 29 3 4)) rfl rfl) (a_pi (zO_7 g))) ?_
      refine Eq.trans (Eq.trans (r_go (act := oS (fGo 157)) rfl rfl) (a_goto)) ?_
      refine Eq.trans (Eq.trans (r_go (act := oS (fAld 158 0)) rfl rfl) (a_ald rfl)) ?_
      refine Eq.trans (Eq.trans (r_go (act := oS (fGr g 161 11 3)) rfl rfl) (a_gr (zO_0 g) (zR_0_3 g))) ?_
      refine Eq.trans (Eq.trans (r_go (act := oCV 164 1 (zcv g 8) (X_X8_forget g)) rfl rfl) (a_cV rfl (zck (zO_42 g) rfl))) (zbV_cg (fun M2 => ?_))
      refine Eq.trans (Eq.trans (r_go (act := oS (fSt 165 (gC (.int 1)))) rfl rfl) (a_C)) ?_
      exact Eq.trans (Eq.trans (r_go (act := oZret) rfl rfl) a_zret) (bcT (by decide +kernel))
  · exact r_cut rfl rfl
theorem x_X11_set_0 (g : zg) (a1 : Int32) (a2 : Int32) (a3 : Int32) (M : zM) : X_X11_set g [.ref 0, .int a1, .int a2, .int a3] M = (bif cEq0 a1 then (zbI (X_X11_within g [.int a3, .int 0, .int 99] M) (fun x1 M1 => (bif cEq0 x1 then zX (t_X11_set g) 32 [some (.ref 0), some (.int a1), some (.int a2), some (.int a3), some (.ref 7)] [] M1 else (zbV (X_X8_forget g [.ref 42] ((zu M1.1 7 4 a3), M1.2)) (fun M2 => some (some (.int 1), M2)))))) else zX (t_X11_set g) 32 [some (.ref 0), some (.int a1), some (.int a2), some (.int a3), some (.ref 7)] [] M) := e_X11_set_0 g a1 a2 a3 M
set_option maxRecDepth 20000 in
theorem e_X11_set_32 (g : zg) (a1 : Int32) (a2 : Int32) (a3 : Int32) (M : zM) : zX (t_X11_set g) 32 [some (.ref 0), some (.int a1), some (.int a2), some (.int a3), some (.ref 7)] [] M = (bif cEq a1 1 then (zbI (X_X11_within g [.int a3, .int 0, .int 1000] M) (fun x1 M1 => (bif cEq0 x1 then (bif cEq a1 2 then (zbI (X_X11_within g [.int a3, .int (-999), .int 0] M1) (fun x2 M2 => (bif cEq0 x2 then zX (t_X11_set g) 82 [some (.ref 0), some (.int a1), some (.int a2), some (.int a3), some (.ref 7)] [] M2 else (zbV (X_X8_forget g [.ref 42] ((zu M2.1 7 6 a3), M2.2)) (fun M3 => some (some (.int 1), M3)))))) else zX (t_X11_set g) 82 [some (.ref 0), some (.int a1), some (.int a2), some (.int a3), some (.ref 7)] [] M1) else (zbV (X_X8_forget g [.ref 42] ((zu M1.1 7 5 a3), M1.2)) (fun M4 => some (some (.int 1), M4)))))) else (bif cEq a1 2 then (zbI (X_X11_within g [.int a3, .int (-999), .int 0] M) (fun x5 M5 => (bif cEq0 x5 then zX (t_X11_set g) 82 [some (.ref 0), some (.int a1), some (.int a2), some (.int a3), some (.ref 7)] [] M5 else (zbV (X_X8_forget g [.ref 42] ((zu M5.1 7 6 a3), M5.2)) (fun M6 => some (some (.int 1), M6)))))) else zX (t_X11_set g) 82 [some (.ref 0), some (.int a1), some (.int a2), some (.int a3), some (.ref 7)] [] M)) := by
  refine Eq.trans (zX_rgN (tl_X11_set g) (hc_X11_set g) 26 _ _ _ _) ?_
  refine Eq.trans (Eq.trans (Eq.trans (r_0 (act := oF [] (oS (fIld 33 1))) rfl) (a_F rfl)) (a_ild rfl)) ?_
  refine Eq.trans (Eq.trans (r_go (act := oS (fSt 34 (gC (.int 1)))) rfl rfl) (a_C)) ?_
  refine Eq.trans (Eq.trans (r_go (act := oS (fCm 37 57 cEq)) rfl rfl) (a_cm)) (bcg ?_ ?_)
  · refine Eq.trans (Eq.trans (r_go (act := oS (fIld 38 3)) rfl rfl) (a_ild rfl)) ?_
    refine Eq.trans (Eq.trans (r_go (act := oS (fSt 39 (gC (.int 0)))) rfl rfl) (a_C)) ?_
    refine Eq.trans (Eq.trans (r_go (act := oS (fSt 42 (gC (.int 1000)))) rfl rfl) (a_C)) ?_
    refine Eq.trans (Eq.trans (r_go (act := oCI 45 3 zcs (X_X11_within g)) rfl rfl) (a_cI rfl rfl)) (zbI_cg (fun x1 M1 => ?_))
    refine Eq.trans (Eq.trans (r_go (act := oS (fIf 57 48 cEq0)) rfl rfl) (a_if)) (bcg ?_ ?_)
    · refine Eq.trans (Eq.trans (r_go (act := oS (fIld 58 1)) rfl rfl) (a_ild rfl)) ?_
      refine Eq.trans (Eq.trans (r_go (act := oS (fSt 59 (gC (.int 2)))) rfl rfl) (a_C)) ?_
      refine Eq.trans (Eq.trans (r_go (act := oS (fCm 62 82 cEq)) rfl rfl) (a_cm)) (bcg ?_ ?_)
      · refine Eq.trans (Eq.trans (r_go (act := oS (fIld 63 3)) rfl rfl) (a_ild rfl)) ?_
        refine Eq.trans (Eq.trans (r_go (act := oS (fSt 66 (gC (.int (-999))))) rfl rfl) (a_C)) ?_
        refine Eq.trans (Eq.trans (r_go (act := oS (fSt 67 (gC (.int 0)))) rfl rfl) (a_C)) ?_
        refine Eq.trans (Eq.trans (r_go (act := oCI 70 3 zcs (X_X11_within g)) rfl rfl) (a_cI rfl rfl)) (zbI_cg (fun x2 M2 => ?_))
        refine Eq.trans (Eq.trans (r_go (act := oS (fIf 82 73 cEq0)) rfl rfl) (a_if)) (bcg ?_ ?_)
        · exact r_cut rfl rfl
        · refine Eq.trans (Eq.trans (r_go (act := oS (fAld 75 4)) rfl rfl) (a_ald rfl)) ?_
          refine Eq.trans (Eq.trans (r_go (act := oS (fIld 76 3)) rfl rfl) (a_ild rfl)) ?_
          refine Eq.trans (Eq.trans (r_go (act := oS (fPi g 79 3 6)) rfl rfl) (a_pi (zO_7 g))) ?_
          refine Eq.trans (Eq.trans (r_go (act := oS (fGo 157)) rfl rfl) (a_goto)) ?_
          refine Eq.trans (Eq.trans (r_go (act := oS (fAld 158 0)) rfl rfl) (a_ald rfl)) ?_
          refine Eq.trans (Eq.trans (r_go (act := oS (fGr g 161 11 3)) rfl rfl) (a_gr (zO_0 g) (zR_0_3 g))) ?_
          refine Eq.trans (Eq.trans (r_go (act := oCV 164 1 (zcv g 8) (X_X8_forget g)) rfl rfl) (a_cV rfl (zck (zO_42 g) rfl))) (zbV_cg (fun M3 => ?_))
          refine Eq.trans (Eq.trans (r_go (act := oS (fSt 165 (gC (.int 1)))) rfl rfl) (a_C)) ?_
          exact Eq.trans (Eq.trans (r_go (act := oZret) rfl rfl) a_zret) (bcT (by decide +kernel))
      · exact r_cut rfl rfl
    · refine Eq.trans (Eq.trans (r_go (act := oS (fAld 50 4)) rfl rfl) (a_ald rfl)) ?_
      refine Eq.trans (Eq.trans (r_go (act := oS (fIld 51 3)) rfl rfl) (a_ild rfl)) ?_
      refine Eq.trans (Eq.trans (r_go (act := oS (fPi g 54 3 5)) rfl rfl) (a_pi (zO_7 g))) ?_
      refine Eq.trans (Eq.trans (r_go (act := oS (fGo 157)) rfl rfl) (a_goto)) ?_
      refine Eq.trans (Eq.trans (r_go (act := oS (fAld 158 0)) rfl rfl) (a_ald rfl)) ?_
      refine Eq.trans (Eq.trans (r_go (act := oS (fGr g 161 11 3)) rfl rfl) (a_gr (zO_0 g) (zR_0_3 g))) ?_
      refine Eq.trans (Eq.trans (r_go (act := oCV 164 1 (zcv g 8) (X_X8_forget g)) rfl rfl) (a_cV rfl (zck (zO_42 g) rfl))) (zbV_cg (fun M4 => ?_))
      refine Eq.trans (Eq.trans (r_go (act := oS (fSt 165 (gC (.int 1)))) rfl rfl) (a_C)) ?_
      exact Eq.trans (Eq.trans (r_go (act := oZret) rfl rfl) a_zret) (bcT (by decide +kernel))
  · refine Eq.trans (Eq.trans (r_go (act := oS (fIld 58 1)) rfl rfl) (a_ild rfl)) ?_
    refine Eq.trans (Eq.trans (r_go (act := oS (fSt 59 (gC (.int 2)))) rfl rfl) (a_C)) ?_
    refine Eq.trans (Eq.trans (r_go (act := oS (fCm 62 82 cEq)) rfl rfl) (a_cm)) (bcg ?_ ?_)
    · refine Eq.trans (Eq.trans (r_go (act := oS (fIld 63 3)) rfl rfl) (a_ild rfl)) ?_
      refine Eq.trans (Eq.trans (r_go (act := oS (fSt 66 (gC (.int (-999))))) rfl rfl) (a_C)) ?_
      refine Eq.trans (Eq.trans (r_go (act := oS (fSt 67 (gC (.int 0)))) rfl rfl) (a_C)) ?_
      refine Eq.trans (Eq.trans (r_go (act := oCI 70 3 zcs (X_X11_within g)) rfl rfl) (a_cI rfl rfl)) (zbI_cg (fun x5 M5 => ?_))
      refine Eq.trans (Eq.trans (r_go (act := oS (fIf 82 73 cEq0)) rfl rfl) (a_if)) (bcg ?_ ?_)
      · exact r_cut rfl rfl
      · refine Eq.trans (Eq.trans (r_go (act := oS (fAld 75 4)) rfl rfl) (a_ald rfl)) ?_
        refine Eq.trans (Eq.trans (r_go (act := oS (fIld 76 3)) rfl rfl) (a_ild rfl)) ?_
        refine Eq.trans (Eq.trans (r_go (act := oS (fPi g 79 3 6)) rfl rfl) (a_pi (zO_7 g))) ?_
        refine Eq.trans (Eq.trans (r_go (act := oS (fGo 157)) rfl rfl) (a_goto)) ?_
        refine Eq.trans (Eq.trans (r_go (act := oS (fAld 158 0)) rfl rfl) (a_ald rfl)) ?_
        refine Eq.trans (Eq.trans (r_go (act := oS (fGr g 161 11 3)) rfl rfl) (a_gr (zO_0 g) (zR_0_3 g))) ?_
        refine Eq.trans (Eq.trans (r_go (act := oCV 164 1 (zcv g 8) (X_X8_forget g)) rfl rfl) (a_cV rfl (zck (zO_42 g) rfl))) (zbV_cg (fun M6 => ?_))
        refine Eq.trans (Eq.trans (r_go (act := oS (fSt 165 (gC (.int 1)))) rfl rfl) (a_C)) ?_
        exact Eq.trans (Eq.trans (r_go (act := oZret) rfl rfl) a_zret) (bcT (by decide +kernel))
    · exact r_cut rfl rfl
set_option maxRecDepth 20000 in
theorem e_X11_set_82 (g : zg) (a1 : Int32) (a2 : Int32) (a3 : Int32) (M : zM) : zX (t_X11_set g) 82 [some (.ref 0), some (.int a1), some (.int a2), some (.int a3), some (.ref 7)] [] M = (bif cEq a1 3 then (zbI (X_X3_has g [.ref 7, .int a2] M) (fun x1 M1 => (bif cEq0 x1 then zX (t_X11_set g) 117 [some (.ref 0), some (.int a1), some (.int a2), some (.int a3), some (.ref 7)] [] M1 else (zbI (X_X11_within g [.int a3, .int 0, .int 9] M1) (fun x2 M2 => (bif cEq0 x2 then zX (t_X11_set g) 117 [some (.ref 0), some (.int a1), some (.int a2), some (.int a3), some (.ref 7)] [] M2 else (zbV (X_X3_put g [.ref 7, .int a2, .int 1, .int a3] M2) (fun M3 => (zbV (X_X8_forget g [.ref 42] M3) (fun M4 => some (some (.int 1), M4))))))))))) else zX (t_X11_set g) 117 [some (.ref 0), some (.int a1), some (.int a2), some (.int a3), some (.ref 7)] [] M) := by
  refine Eq.trans (zX_rgN (tl_X11_set g) (hc_X11_set g) 24 _ _ _ _) ?_
  refine Eq.trans (Eq.trans (Eq.trans (r_0 (act := oF [] (oS (fIld 83 1))) rfl) (a_F rfl)) (a_ild rfl)) ?_
  refine Eq.trans (Eq.trans (r_go (act := oS (fSt 84 (gC (.int 3)))) rfl rfl) (a_C)) ?_
  refine Eq.trans (Eq.trans (r_go (act := oS (fCm 87 117 cEq)) rfl rfl) (a_cm)) (bcg ?_ ?_)
  · refine Eq.trans (Eq.trans (r_go (act := oS (fAld 89 4)) rfl rfl) (a_ald rfl)) ?_
    refine Eq.trans (Eq.trans (r_go (act := oS (fIld 90 2)) rfl rfl) (a_ild rfl)) ?_
    refine Eq.trans (Eq.trans (r_go (act := oCI 93 2 (zcv g 3) (X_X3_has g)) rfl rfl) (a_cI rfl (zck (zO_7 g) rfl))) (zbI_cg (fun x1 M1 => ?_))
    refine Eq.trans (Eq.trans (r_go (act := oS (fIf 117 96 cEq0)) rfl rfl) (a_if)) (bcg ?_ ?_)
    · exact r_cut rfl rfl
    · refine Eq.trans (Eq.trans (r_go (act := oS (fIld 97 3)) rfl rfl) (a_ild rfl)) ?_
      refine Eq.trans (Eq.trans (r_go (act := oS (fSt 98 (gC (.int 0)))) rfl rfl) (a_C)) ?_
      refine Eq.trans (Eq.trans (r_go (act := oS (fSt 100 (gC (.int 9)))) rfl rfl) (a_C)) ?_
      refine Eq.trans (Eq.trans (r_go (act := oCI 103 3 zcs (X_X11_within g)) rfl rfl) (a_cI rfl rfl)) (zbI_cg (fun x2 M2 => ?_))
      refine Eq.trans (Eq.trans (r_go (act := oS (fIf 117 106 cEq0)) rfl rfl) (a_if)) (bcg ?_ ?_)
      · exact r_cut rfl rfl
      · refine Eq.trans (Eq.trans (r_go (act := oS (fAld 108 4)) rfl rfl) (a_ald rfl)) ?_
        refine Eq.trans (Eq.trans (r_go (act := oS (fIld 109 2)) rfl rfl) (a_ild rfl)) ?_
        refine Eq.trans (Eq.trans (r_go (act := oS (fSt 110 (gC (.int 1)))) rfl rfl) (a_C)) ?_
        refine Eq.trans (Eq.trans (r_go (act := oS (fIld 111 3)) rfl rfl) (a_ild rfl)) ?_
        refine Eq.trans (Eq.trans (r_go (act := oCV 114 4 (zcv g 3) (X_X3_put g)) rfl rfl) (a_cV rfl (zck (zO_7 g) rfl))) (zbV_cg (fun M3 => ?_))
        refine Eq.trans (Eq.trans (r_go (act := oS (fGo 157)) rfl rfl) (a_goto)) ?_
        refine Eq.trans (Eq.trans (r_go (act := oS (fAld 158 0)) rfl rfl) (a_ald rfl)) ?_
        refine Eq.trans (Eq.trans (r_go (act := oS (fGr g 161 11 3)) rfl rfl) (a_gr (zO_0 g) (zR_0_3 g))) ?_
        refine Eq.trans (Eq.trans (r_go (act := oCV 164 1 (zcv g 8) (X_X8_forget g)) rfl rfl) (a_cV rfl (zck (zO_42 g) rfl))) (zbV_cg (fun M4 => ?_))
        refine Eq.trans (Eq.trans (r_go (act := oS (fSt 165 (gC (.int 1)))) rfl rfl) (a_C)) ?_
        exact Eq.trans (Eq.trans (r_go (act := oZret) rfl rfl) a_zret) (bcT (by decide +kernel))
  · exact r_cut rfl rfl
set_option maxRecDepth 20000 in
theorem e_X11_set_117 (g : zg) (a1 : Int32) (a2 : Int32) (a3 : Int32) (M : zM) : zX (t_X11_set g) 117 [some (.ref 0), some (.int a1), some (.int a2), some (.int a3), some (.ref 7)] [] M = (bif cEq a1 4 then (zbI (X_X3_has g [.ref 7, .int a2] M) (fun x1 M1 => (bif cEq0 x1 then some (some (.int 0), M1) else (zbI (X_X11_within g [.int a3, .int (-999), .int 999] M1) (fun x2 M2 => (bif cEq0 x2 then some (some (.int 0), M2) else (zbV (X_X3_put g [.ref 7, .int a2, .int 4, .int a3] M2) (fun M3 => (zbV (X_X8_forget g [.ref 42] M3) (fun M4 => some (some (.int 1), M4))))))))))) else some (some (.int 0), M)) := by
  refine Eq.trans (zX_rgN (tl_X11_set g) (hc_X11_set g) 24 _ _ _ _) ?_
  refine Eq.trans (Eq.trans (Eq.trans (r_0 (act := oF [] (oS (fIld 118 1))) rfl) (a_F rfl)) (a_ild rfl)) ?_
  refine Eq.trans (Eq.trans (r_go (act := oS (fSt 119 (gC (.int 4)))) rfl rfl) (a_C)) ?_
  refine Eq.trans (Eq.trans (r_go (act := oS (fCm 122 155 cEq)) rfl rfl) (a_cm)) (bcg ?_ ?_)
  · refine Eq.trans (Eq.trans (r_go (act := oS (fAld 124 4)) rfl rfl) (a_ald rfl)) ?_
    refine Eq.trans (Eq.trans (r_go (act := oS (fIld 125 2)) rfl rfl) (a_ild rfl)) ?_
    refine Eq.trans (Eq.trans (r_go (act := oCI 128 2 (zcv g 3) (X_X3_has g)) rfl rfl) (a_cI rfl (zck (zO_7 g) rfl))) (zbI_cg (fun x1 M1 => ?_))
    refine Eq.trans (Eq.trans (r_go (act := oS (fIf 155 131 cEq0)) rfl rfl) (a_if)) (bcg ?_ ?_)
    · refine Eq.trans (Eq.trans (r_go (act := oS (fSt 156 (gC (.int 0)))) rfl rfl) (a_C)) ?_
      exact Eq.trans (Eq.trans (r_go (act := oZret) rfl rfl) a_zret) (bcT (by decide +kernel))
    · refine Eq.trans (Eq.trans (r_go (act := oS (fIld 132 3)) rfl rfl) (a_ild rfl)) ?_
      refine Eq.trans (Eq.trans (r_go (act := oS (fSt 135 (gC (.int (-999))))) rfl rfl) (a_C)) ?_
      refine Eq.trans (Eq.trans (r_go (act := oS (fSt 138 (gC (.int 999)))) rfl rfl) (a_C)) ?_
      refine Eq.trans (Eq.trans (r_go (act := oCI 141 3 zcs (X_X11_within g)) rfl rfl) (a_cI rfl rfl)) (zbI_cg (fun x2 M2 => ?_))
      refine Eq.trans (Eq.trans (r_go (act := oS (fIf 155 144 cEq0)) rfl rfl) (a_if)) (bcg ?_ ?_)
      · refine Eq.trans (Eq.trans (r_go (act := oS (fSt 156 (gC (.int 0)))) rfl rfl) (a_C)) ?_
        exact Eq.trans (Eq.trans (r_go (act := oZret) rfl rfl) a_zret) (bcT (by decide +kernel))
      · refine Eq.trans (Eq.trans (r_go (act := oS (fAld 146 4)) rfl rfl) (a_ald rfl)) ?_
        refine Eq.trans (Eq.trans (r_go (act := oS (fIld 147 2)) rfl rfl) (a_ild rfl)) ?_
        refine Eq.trans (Eq.trans (r_go (act := oS (fSt 148 (gC (.int 4)))) rfl rfl) (a_C)) ?_
        refine Eq.trans (Eq.trans (r_go (act := oS (fIld 149 3)) rfl rfl) (a_ild rfl)) ?_
        refine Eq.trans (Eq.trans (r_go (act := oCV 152 4 (zcv g 3) (X_X3_put g)) rfl rfl) (a_cV rfl (zck (zO_7 g) rfl))) (zbV_cg (fun M3 => ?_))
        refine Eq.trans (Eq.trans (r_go (act := oS (fGo 157)) rfl rfl) (a_goto)) ?_
        refine Eq.trans (Eq.trans (r_go (act := oS (fAld 158 0)) rfl rfl) (a_ald rfl)) ?_
        refine Eq.trans (Eq.trans (r_go (act := oS (fGr g 161 11 3)) rfl rfl) (a_gr (zO_0 g) (zR_0_3 g))) ?_
        refine Eq.trans (Eq.trans (r_go (act := oCV 164 1 (zcv g 8) (X_X8_forget g)) rfl rfl) (a_cV rfl (zck (zO_42 g) rfl))) (zbV_cg (fun M4 => ?_))
        refine Eq.trans (Eq.trans (r_go (act := oS (fSt 165 (gC (.int 1)))) rfl rfl) (a_C)) ?_
        exact Eq.trans (Eq.trans (r_go (act := oZret) rfl rfl) a_zret) (bcT (by decide +kernel))
  · refine Eq.trans (Eq.trans (r_go (act := oS (fSt 156 (gC (.int 0)))) rfl rfl) (a_C)) ?_
    exact Eq.trans (Eq.trans (r_go (act := oZret) rfl rfl) a_zret) (bcT (by decide +kernel))
set_option maxRecDepth 20000 in
theorem e_X3_get_0 (g : zg) (a1 : Int32) (a2 : Int32) (M : zM) : zX (t_X3_get g) 0 [some (.ref 7), some (.int a1), some (.int a2)] [] M = (zbI (X_X3_has g [.ref 7, .int a1] M) (fun x1 M1 => (bif cEq0 x1 then some (some (.int (-1)), M1) else (zbI (X_X11_within g [.int a2, .int 0, .int 6] M1) (fun x2 M2 => (bif cEq0 x2 then some (some (.int (-1)), M2) else (bif zb ((a1 * 7) + a2) 70 then some (some (.int (M2.1 8 (zx ((a1 * 7) + a2)))), M2) else none))))))) := by
  refine Eq.trans (zX_rgN (tl_X3_get g) (hc_X3_get g) 20 _ _ _ _) ?_
  refine Eq.trans (Eq.trans (r_0 (act := oS (fAld 1 0)) rfl) (a_ald rfl)) ?_
  refine Eq.trans (Eq.trans (r_go (act := oS (fIld 2 1)) rfl rfl) (a_ild rfl)) ?_
  refine Eq.trans (Eq.trans (r_go (act := oCI 5 2 (zcv g 3) (X_X3_has g)) rfl rfl) (a_cI rfl (zck (zO_7 g) rfl))) (zbI_cg (fun x1 M1 => ?_))
  refine Eq.trans (Eq.trans (r_go (act := oS (fIf 32 8 cEq0)) rfl rfl) (a_if)) (bcg ?_ ?_)
  · refine Eq.trans (Eq.trans (r_go (act := oS (fSt 33 (gC (.int (-1))))) rfl rfl) (a_C)) ?_
    exact Eq.trans (r_go (act := oIret) rfl rfl) (a_iret)
  · refine Eq.trans (Eq.trans (r_go (act := oS (fIld 9 2)) rfl rfl) (a_ild rfl)) ?_
    refine Eq.trans (Eq.trans (r_go (act := oS (fSt 10 (gC (.int 0)))) rfl rfl) (a_C)) ?_
    refine Eq.trans (Eq.trans (r_go (act := oS (fSt 12 (gC (.int 6)))) rfl rfl) (a_C)) ?_
    refine Eq.trans (Eq.trans (r_go (act := oCI 15 3 zcs (X_X11_within g)) rfl rfl) (a_cI rfl rfl)) (zbI_cg (fun x2 M2 => ?_))
    refine Eq.trans (Eq.trans (r_go (act := oS (fIf 32 18 cEq0)) rfl rfl) (a_if)) (bcg ?_ ?_)
    · refine Eq.trans (Eq.trans (r_go (act := oS (fSt 33 (gC (.int (-1))))) rfl rfl) (a_C)) ?_
      exact Eq.trans (r_go (act := oIret) rfl rfl) (a_iret)
    · refine Eq.trans (Eq.trans (r_go (act := oS (fAld 19 0)) rfl rfl) (a_ald rfl)) ?_
      refine Eq.trans (Eq.trans (r_go (act := oS (fGr g 22 3 1)) rfl rfl) (a_gr (zO_7 g) (zR_7_1 g))) ?_
      refine Eq.trans (Eq.trans (r_go (act := oS (fIld 23 1)) rfl rfl) (a_ild rfl)) ?_
      refine Eq.trans (Eq.trans (r_go (act := oS (fSt 25 (gC (.int 7)))) rfl rfl) (a_C)) ?_
      refine Eq.trans (Eq.trans (r_go (act := oS (fSt 26 (g2 (fun x y => x * y)))) rfl rfl) (a_mul)) ?_
      refine Eq.trans (Eq.trans (r_go (act := oS (fIld 27 2)) rfl rfl) (a_ild rfl)) ?_
      refine Eq.trans (Eq.trans (r_go (act := oS (fSt 28 (g2 (fun x y => x + y)))) rfl rfl) (a_add)) ?_
      refine Eq.trans (Eq.trans (r_go (act := oS (fIa g 29)) rfl rfl) (a_ia (zA_8 g) zS_8)) (bcg ?_ rfl)
      refine Eq.trans (Eq.trans (r_go (act := oS (fGo 33)) rfl rfl) (a_goto)) ?_
      exact Eq.trans (r_go (act := oIret) rfl rfl) (a_iret)
theorem x_X3_get_0 (g : zg) (a1 : Int32) (a2 : Int32) (M : zM) : X_X3_get g [.ref 7, .int a1, .int a2] M = (zbI (X_X3_has g [.ref 7, .int a1] M) (fun x1 M1 => (bif cEq0 x1 then some (some (.int (-1)), M1) else (zbI (X_X11_within g [.int a2, .int 0, .int 6] M1) (fun x2 M2 => (bif cEq0 x2 then some (some (.int (-1)), M2) else (bif zb ((a1 * 7) + a2) 70 then some (some (.int (M2.1 8 (zx ((a1 * 7) + a2)))), M2) else none))))))) := e_X3_get_0 g a1 a2 M
set_option maxRecDepth 20000 in
theorem e_X3_get_0_1 (g : zg) (a1 : Int32) (a2 : Int32) (M : zM) : zX (t_X3_get g) 0 [some (.ref 40), some (.int a1), some (.int a2)] [] M = (zbI (X_X3_has g [.ref 40, .int a1] M) (fun x1 M1 => (bif cEq0 x1 then some (some (.int (-1)), M1) else (zbI (X_X11_within g [.int a2, .int 0, .int 6] M1) (fun x2 M2 => (bif cEq0 x2 then some (some (.int (-1)), M2) else (bif zb ((a1 * 7) + a2) 70 then some (some (.int (M2.1 41 (zx ((a1 * 7) + a2)))), M2) else none))))))) := by
  refine Eq.trans (zX_rgN (tl_X3_get g) (hc_X3_get g) 20 _ _ _ _) ?_
  refine Eq.trans (Eq.trans (r_0 (act := oS (fAld 1 0)) rfl) (a_ald rfl)) ?_
  refine Eq.trans (Eq.trans (r_go (act := oS (fIld 2 1)) rfl rfl) (a_ild rfl)) ?_
  refine Eq.trans (Eq.trans (r_go (act := oCI 5 2 (zcv g 3) (X_X3_has g)) rfl rfl) (a_cI rfl (zck (zO_40 g) rfl))) (zbI_cg (fun x1 M1 => ?_))
  refine Eq.trans (Eq.trans (r_go (act := oS (fIf 32 8 cEq0)) rfl rfl) (a_if)) (bcg ?_ ?_)
  · refine Eq.trans (Eq.trans (r_go (act := oS (fSt 33 (gC (.int (-1))))) rfl rfl) (a_C)) ?_
    exact Eq.trans (r_go (act := oIret) rfl rfl) (a_iret)
  · refine Eq.trans (Eq.trans (r_go (act := oS (fIld 9 2)) rfl rfl) (a_ild rfl)) ?_
    refine Eq.trans (Eq.trans (r_go (act := oS (fSt 10 (gC (.int 0)))) rfl rfl) (a_C)) ?_
    refine Eq.trans (Eq.trans (r_go (act := oS (fSt 12 (gC (.int 6)))) rfl rfl) (a_C)) ?_
    refine Eq.trans (Eq.trans (r_go (act := oCI 15 3 zcs (X_X11_within g)) rfl rfl) (a_cI rfl rfl)) (zbI_cg (fun x2 M2 => ?_))
    refine Eq.trans (Eq.trans (r_go (act := oS (fIf 32 18 cEq0)) rfl rfl) (a_if)) (bcg ?_ ?_)
    · refine Eq.trans (Eq.trans (r_go (act := oS (fSt 33 (gC (.int (-1))))) rfl rfl) (a_C)) ?_
      exact Eq.trans (r_go (act := oIret) rfl rfl) (a_iret)
    · refine Eq.trans (Eq.trans (r_go (act := oS (fAld 19 0)) rfl rfl) (a_ald rfl)) ?_
      refine Eq.trans (Eq.trans (r_go (act := oS (fGr g 22 3 1)) rfl rfl) (a_gr (zO_40 g) (zR_40_1 g))) ?_
      refine Eq.trans (Eq.trans (r_go (act := oS (fIld 23 1)) rfl rfl) (a_ild rfl)) ?_
      refine Eq.trans (Eq.trans (r_go (act := oS (fSt 25 (gC (.int 7)))) rfl rfl) (a_C)) ?_
      refine Eq.trans (Eq.trans (r_go (act := oS (fSt 26 (g2 (fun x y => x * y)))) rfl rfl) (a_mul)) ?_
      refine Eq.trans (Eq.trans (r_go (act := oS (fIld 27 2)) rfl rfl) (a_ild rfl)) ?_
      refine Eq.trans (Eq.trans (r_go (act := oS (fSt 28 (g2 (fun x y => x + y)))) rfl rfl) (a_add)) ?_
      refine Eq.trans (Eq.trans (r_go (act := oS (fIa g 29)) rfl rfl) (a_ia (zA_41 g) zS_41)) (bcg ?_ rfl)
      refine Eq.trans (Eq.trans (r_go (act := oS (fGo 33)) rfl rfl) (a_goto)) ?_
      exact Eq.trans (r_go (act := oIret) rfl rfl) (a_iret)
theorem x_X3_get_0_1 (g : zg) (a1 : Int32) (a2 : Int32) (M : zM) : X_X3_get g [.ref 40, .int a1, .int a2] M = (zbI (X_X3_has g [.ref 40, .int a1] M) (fun x1 M1 => (bif cEq0 x1 then some (some (.int (-1)), M1) else (zbI (X_X11_within g [.int a2, .int 0, .int 6] M1) (fun x2 M2 => (bif cEq0 x2 then some (some (.int (-1)), M2) else (bif zb ((a1 * 7) + a2) 70 then some (some (.int (M2.1 41 (zx ((a1 * 7) + a2)))), M2) else none))))))) := e_X3_get_0_1 g a1 a2 M
set_option maxRecDepth 20000 in
theorem e_X3_serving_0 (g : zg) (a1 : Int32) (M : zM) : zX (t_X3_serving g) 0 [some (.ref 7), some (.int a1)] [] M = (zbI (X_X3_has g [.ref 7, .int a1] M) (fun x1 M1 => (bif cEq0 x1 then some (some (.int 0), M1) else (zbI (X_X3_get g [.ref 7, .int a1, .int 5] M1) (fun x2 M2 => (bif cEq0 x2 then some (some (.int 1), M2) else some (some (.int 0), M2))))))) := by
  refine Eq.trans (zX_rgN (tl_X3_serving g) (hc_X3_serving g) 13 _ _ _ _) ?_
  refine Eq.trans (Eq.trans (r_0 (act := oS (fAld 1 0)) rfl) (a_ald rfl)) ?_
  refine Eq.trans (Eq.trans (r_go (act := oS (fIld 2 1)) rfl rfl) (a_ild rfl)) ?_
  refine Eq.trans (Eq.trans (r_go (act := oCI 5 2 (zcv g 3) (X_X3_has g)) rfl rfl) (a_cI rfl (zck (zO_7 g) rfl))) (zbI_cg (fun x1 M1 => ?_))
  refine Eq.trans (Eq.trans (r_go (act := oS (fIf 21 8 cEq0)) rfl rfl) (a_if)) (bcg ?_ ?_)
  · refine Eq.trans (Eq.trans (r_go (act := oS (fSt 22 (gC (.int 0)))) rfl rfl) (a_C)) ?_
    exact Eq.trans (Eq.trans (r_go (act := oZret) rfl rfl) a_zret) (bcT (by decide +kernel))
  · refine Eq.trans (Eq.trans (r_go (act := oS (fAld 9 0)) rfl rfl) (a_ald rfl)) ?_
    refine Eq.trans (Eq.trans (r_go (act := oS (fIld 10 1)) rfl rfl) (a_ild rfl)) ?_
    refine Eq.trans (Eq.trans (r_go (act := oS (fSt 11 (gC (.int 5)))) rfl rfl) (a_C)) ?_
    refine Eq.trans (Eq.trans (r_go (act := oCI 14 3 (zcv g 3) (X_X3_get g)) rfl rfl) (a_cI rfl (zck (zO_7 g) rfl))) (zbI_cg (fun x2 M2 => ?_))
    refine Eq.trans (Eq.trans (r_go (act := oS (fIf 17 21 cEq0)) rfl rfl) (a_if)) (bcg ?_ ?_)
    · refine Eq.trans (Eq.trans (r_go (act := oS (fSt 18 (gC (.int 1)))) rfl rfl) (a_C)) ?_
      refine Eq.trans (Eq.trans (r_go (act := oS (fGo 22)) rfl rfl) (a_goto)) ?_
      exact Eq.trans (Eq.trans (r_go (act := oZret) rfl rfl) a_zret) (bcT (by decide +kernel))
    · refine Eq.trans (Eq.trans (r_go (act := oS (fSt 22 (gC (.int 0)))) rfl rfl) (a_C)) ?_
      exact Eq.trans (Eq.trans (r_go (act := oZret) rfl rfl) a_zret) (bcT (by decide +kernel))
theorem x_X3_serving_0 (g : zg) (a1 : Int32) (M : zM) : X_X3_serving g [.ref 7, .int a1] M = (zbI (X_X3_has g [.ref 7, .int a1] M) (fun x1 M1 => (bif cEq0 x1 then some (some (.int 0), M1) else (zbI (X_X3_get g [.ref 7, .int a1, .int 5] M1) (fun x2 M2 => (bif cEq0 x2 then some (some (.int 1), M2) else some (some (.int 0), M2))))))) := e_X3_serving_0 g a1 M
set_option maxRecDepth 20000 in
theorem e_X3_serving_0_1 (g : zg) (a1 : Int32) (M : zM) : zX (t_X3_serving g) 0 [some (.ref 40), some (.int a1)] [] M = (zbI (X_X3_has g [.ref 40, .int a1] M) (fun x1 M1 => (bif cEq0 x1 then some (some (.int 0), M1) else (zbI (X_X3_get g [.ref 40, .int a1, .int 5] M1) (fun x2 M2 => (bif cEq0 x2 then some (some (.int 1), M2) else some (some (.int 0), M2))))))) := by
  refine Eq.trans (zX_rgN (tl_X3_serving g) (hc_X3_serving g) 13 _ _ _ _) ?_
  refine Eq.trans (Eq.trans (r_0 (act := oS (fAld 1 0)) rfl) (a_ald rfl)) ?_
  refine Eq.trans (Eq.trans (r_go (act := oS (fIld 2 1)) rfl rfl) (a_ild rfl)) ?_
  refine Eq.trans (Eq.trans (r_go (act := oCI 5 2 (zcv g 3) (X_X3_has g)) rfl rfl) (a_cI rfl (zck (zO_40 g) rfl))) (zbI_cg (fun x1 M1 => ?_))
  refine Eq.trans (Eq.trans (r_go (act := oS (fIf 21 8 cEq0)) rfl rfl) (a_if)) (bcg ?_ ?_)
  · refine Eq.trans (Eq.trans (r_go (act := oS (fSt 22 (gC (.int 0)))) rfl rfl) (a_C)) ?_
    exact Eq.trans (Eq.trans (r_go (act := oZret) rfl rfl) a_zret) (bcT (by decide +kernel))
  · refine Eq.trans (Eq.trans (r_go (act := oS (fAld 9 0)) rfl rfl) (a_ald rfl)) ?_
    refine Eq.trans (Eq.trans (r_go (act := oS (fIld 10 1)) rfl rfl) (a_ild rfl)) ?_
    refine Eq.trans (Eq.trans (r_go (act := oS (fSt 11 (gC (.int 5)))) rfl rfl) (a_C)) ?_
    refine Eq.trans (Eq.trans (r_go (act := oCI 14 3 (zcv g 3) (X_X3_get g)) rfl rfl) (a_cI rfl (zck (zO_40 g) rfl))) (zbI_cg (fun x2 M2 => ?_))
    refine Eq.trans (Eq.trans (r_go (act := oS (fIf 17 21 cEq0)) rfl rfl) (a_if)) (bcg ?_ ?_)
    · refine Eq.trans (Eq.trans (r_go (act := oS (fSt 18 (gC (.int 1)))) rfl rfl) (a_C)) ?_
      refine Eq.trans (Eq.trans (r_go (act := oS (fGo 22)) rfl rfl) (a_goto)) ?_
      exact Eq.trans (Eq.trans (r_go (act := oZret) rfl rfl) a_zret) (bcT (by decide +kernel))
    · refine Eq.trans (Eq.trans (r_go (act := oS (fSt 22 (gC (.int 0)))) rfl rfl) (a_C)) ?_
      exact Eq.trans (Eq.trans (r_go (act := oZret) rfl rfl) a_zret) (bcT (by decide +kernel))
theorem x_X3_serving_0_1 (g : zg) (a1 : Int32) (M : zM) : X_X3_serving g [.ref 40, .int a1] M = (zbI (X_X3_has g [.ref 40, .int a1] M) (fun x1 M1 => (bif cEq0 x1 then some (some (.int 0), M1) else (zbI (X_X3_get g [.ref 40, .int a1, .int 5] M1) (fun x2 M2 => (bif cEq0 x2 then some (some (.int 1), M2) else some (some (.int 0), M2))))))) := e_X3_serving_0_1 g a1 M
set_option maxRecDepth 20000 in
theorem e_X3_allows_0 (g : zg) (a1 : Int32) (a2 : Int32) (a3 : Int32) (M : zM) : zX (t_X3_allows g) 0 [some (.ref 7), some (.int a1), some (.int a2), some (.int a3)] [] M = (zbI (X_X3_has g [.ref 7, .int a2] M) (fun x1 M1 => (bif cEq0 x1 then some (some (.int 0), M1) else (bif cEq a1 0 then (zbI (X_X3_serving g [.ref 7, .int a2] M1) (fun x2 M2 => (bif cEq (x2 &&& 1) x2 then some (some (.int x2), M2) else none))) else (bif cEq a1 1 then (zbI (X_X11_within g [.int a3, .int 0, .int 99] M1) (fun x3 M3 => (bif cEq (x3 &&& 1) x3 then some (some (.int x3), M3) else none))) else (bif cEq a1 2 then (zbI (X_X11_within g [.int a3, .int 0, .int 4] M1) (fun x4 M4 => (bif cEq (x4 &&& 1) x4 then some (some (.int x4), M4) else none))) else (bif cEq a1 3 then (zbI (X_X3_get g [.ref 7, .int a2, .int 3] M1) (fun x5 M5 => (bif cEq x5 (-1) then some (some (.int 0), M5) else some (some (.int 1), M5)))) else (bif cEq a1 4 then (zbI (X_X3_serving g [.ref 7, .int a2] M1) (fun x6 M6 => (bif cEq0 x6 then some (some (.int 1), M6) else some (some (.int 0), M6)))) else some (some (.int 0), M1))))))))) := by
  refine Eq.trans (zX_rgN (tl_X3_allows g) (hc_X3_allows g) 16 _ _ _ _) ?_
  refine Eq.trans (Eq.trans (r_0 (act := oS (fAld 1 0)) rfl) (a_ald rfl)) ?_
  refine Eq.trans (Eq.trans (r_go (act := oS (fIld 2 2)) rfl rfl) (a_ild rfl)) ?_
  refine Eq.trans (Eq.trans (r_go (act := oCI 5 2 (zcv g 3) (X_X3_has g)) rfl rfl) (a_cI rfl (zck (zO_7 g) rfl))) (zbI_cg (fun x1 M1 => ?_))
  refine Eq.trans (Eq.trans (r_go (act := oS (fIf 8 10 cEq0)) rfl rfl) (a_if)) (bcg ?_ ?_)
  · refine Eq.trans (Eq.trans (r_go (act := oS (fSt 9 (gC (.int 0)))) rfl rfl) (a_C)) ?_
    exact Eq.trans (Eq.trans (r_go (act := oZret) rfl rfl) a_zret) (bcT (by decide +kernel))
  · refine Eq.trans (Eq.trans (r_go (act := oS (fIld 11 1)) rfl rfl) (a_ild rfl)) ?_
    refine Eq.trans (Eq.trans (r_go (act := oSw 95 [(0, 44), (1, 50), (2, 58), (3, 65), (4, 81)]) rfl rfl) (a_sw)) ?_
    refine Eq.trans a_swC (bcg ?_ ?_)
    · refine Eq.trans (Eq.trans (r_go (act := oS (fAld 45 0)) rfl rfl) (a_ald rfl)) ?_
      refine Eq.trans (Eq.trans (r_go (act := oS (fIld 46 2)) rfl rfl) (a_ild rfl)) ?_
      refine Eq.trans (Eq.trans (r_go (act := oCI 49 2 (zcv g 3) (X_X3_serving g)) rfl rfl) (a_cI rfl (zck (zO_7 g) rfl))) (zbI_cg (fun x2 M2 => ?_))
      exact Eq.trans (r_go (act := oZret) rfl rfl) (a_zret)
    refine Eq.trans a_swC (bcg ?_ ?_)
    · refine Eq.trans (Eq.trans (r_go (act := oS (fIld 51 3)) rfl rfl) (a_ild rfl)) ?_
      refine Eq.trans (Eq.trans (r_go (act := oS (fSt 52 (gC (.int 0)))) rfl rfl) (a_C)) ?_
      refine Eq.trans (Eq.trans (r_go (act := oS (fSt 54 (gC (.int 99)))) rfl rfl) (a_C)) ?_
      refine Eq.trans (Eq.trans (r_go (act := oCI 57 3 zcs (X_X11_within g)) rfl rfl) (a_cI rfl rfl)) (zbI_cg (fun x3 M3 => ?_))
      exact Eq.trans (r_go (act := oZret) rfl rfl) (a_zret)
    refine Eq.trans a_swC (bcg ?_ ?_)
    · refine Eq.trans (Eq.trans (r_go (act := oS (fIld 59 3)) rfl rfl) (a_ild rfl)) ?_
      refine Eq.trans (Eq.trans (r_go (act := oS (fSt 60 (gC (.int 0)))) rfl rfl) (a_C)) ?_
      refine Eq.trans (Eq.trans (r_go (act := oS (fSt 61 (gC (.int 4)))) rfl rfl) (a_C)) ?_
      refine Eq.trans (Eq.trans (r_go (act := oCI 64 3 zcs (X_X11_within g)) rfl rfl) (a_cI rfl rfl)) (zbI_cg (fun x4 M4 => ?_))
      exact Eq.trans (r_go (act := oZret) rfl rfl) (a_zret)
    refine Eq.trans a_swC (bcg ?_ ?_)
    · refine Eq.trans (Eq.trans (r_go (act := oS (fAld 66 0)) rfl rfl) (a_ald rfl)) ?_
      refine Eq.trans (Eq.trans (r_go (act := oS (fIld 67 2)) rfl rfl) (a_ild rfl)) ?_
      refine Eq.trans (Eq.trans (r_go (act := oS (fSt 68 (gC (.int 3)))) rfl rfl) (a_C)) ?_
      refine Eq.trans (Eq.trans (r_go (act := oCI 71 3 (zcv g 3) (X_X3_get g)) rfl rfl) (a_cI rfl (zck (zO_7 g) rfl))) (zbI_cg (fun x5 M5 => ?_))
      refine Eq.trans (Eq.trans (r_go (act := oS (fSt 72 (gC (.int (-1))))) rfl rfl) (a_C)) ?_
      refine Eq.trans (Eq.trans (r_go (act := oS (fCm 79 75 cEq)) rfl rfl) (a_cm)) (bcg ?_ ?_)
      · refine Eq.trans (Eq.trans (r_go (act := oS (fSt 80 (gC (.int 0)))) rfl rfl) (a_C)) ?_
        exact Eq.trans (Eq.trans (r_go (act := oZret) rfl rfl) a_zret) (bcT (by decide +kernel))
      · refine Eq.trans (Eq.trans (r_go (act := oS (fSt 76 (gC (.int 1)))) rfl rfl) (a_C)) ?_
        refine Eq.trans (Eq.trans (r_go (act := oS (fGo 80)) rfl rfl) (a_goto)) ?_
        exact Eq.trans (Eq.trans (r_go (act := oZret) rfl rfl) a_zret) (bcT (by decide +kernel))
    refine Eq.trans a_swC (bcg ?_ ?_)
    · refine Eq.trans (Eq.trans (r_go (act := oS (fAld 82 0)) rfl rfl) (a_ald rfl)) ?_
      refine Eq.trans (Eq.trans (r_go (act := oS (fIld 83 2)) rfl rfl) (a_ild rfl)) ?_
      refine Eq.trans (Eq.trans (r_go (act := oCI 86 2 (zcv g 3) (X_X3_serving g)) rfl rfl) (a_cI rfl (zck (zO_7 g) rfl))) (zbI_cg (fun x6 M6 => ?_))
      refine Eq.trans (Eq.trans (r_go (act := oS (fIf 89 93 cEq0)) rfl rfl) (a_if)) (bcg ?_ ?_)
      · refine Eq.trans (Eq.trans (r_go (act := oS (fSt 90 (gC (.int 1)))) rfl rfl) (a_C)) ?_
        refine Eq.trans (Eq.trans (r_go (act := oS (fGo 94)) rfl rfl) (a_goto)) ?_
        exact Eq.trans (Eq.trans (r_go (act := oZret) rfl rfl) a_zret) (bcT (by decide +kernel))
      · refine Eq.trans (Eq.trans (r_go (act := oS (fSt 94 (gC (.int 0)))) rfl rfl) (a_C)) ?_
        exact Eq.trans (Eq.trans (r_go (act := oZret) rfl rfl) a_zret) (bcT (by decide +kernel))
    refine Eq.trans a_swN ?_
    refine Eq.trans (Eq.trans (r_go (act := oS (fSt 96 (gC (.int 0)))) rfl rfl) (a_C)) ?_
    exact Eq.trans (Eq.trans (r_go (act := oZret) rfl rfl) a_zret) (bcT (by decide +kernel))
theorem x_X3_allows_0 (g : zg) (a1 : Int32) (a2 : Int32) (a3 : Int32) (M : zM) : X_X3_allows g [.ref 7, .int a1, .int a2, .int a3] M = (zbI (X_X3_has g [.ref 7, .int a2] M) (fun x1 M1 => (bif cEq0 x1 then some (some (.int 0), M1) else (bif cEq a1 0 then (zbI (X_X3_serving g [.ref 7, .int a2] M1) (fun x2 M2 => (bif cEq (x2 &&& 1) x2 then some (some (.int x2), M2) else none))) else (bif cEq a1 1 then (zbI (X_X11_within g [.int a3, .int 0, .int 99] M1) (fun x3 M3 => (bif cEq (x3 &&& 1) x3 then some (some (.int x3), M3) else none))) else (bif cEq a1 2 then (zbI (X_X11_within g [.int a3, .int 0, .int 4] M1) (fun x4 M4 => (bif cEq (x4 &&& 1) x4 then some (some (.int x4), M4) else none))) else (bif cEq a1 3 then (zbI (X_X3_get g [.ref 7, .int a2, .int 3] M1) (fun x5 M5 => (bif cEq x5 (-1) then some (some (.int 0), M5) else some (some (.int 1), M5)))) else (bif cEq a1 4 then (zbI (X_X3_serving g [.ref 7, .int a2] M1) (fun x6 M6 => (bif cEq0 x6 then some (some (.int 1), M6) else some (some (.int 0), M6)))) else some (some (.int 0), M1))))))))) := e_X3_allows_0 g a1 a2 a3 M
set_option maxRecDepth 20000 in
theorem e_X3_allows_0_1 (g : zg) (a1 : Int32) (a2 : Int32) (a3 : Int32) (M : zM) : zX (t_X3_allows g) 0 [some (.ref 40), some (.int a1), some (.int a2), some (.int a3)] [] M = (zbI (X_X3_has g [.ref 40, .int a2] M) (fun x1 M1 => (bif cEq0 x1 then some (some (.int 0), M1) else (bif cEq a1 0 then (zbI (X_X3_serving g [.ref 40, .int a2] M1) (fun x2 M2 => (bif cEq (x2 &&& 1) x2 then some (some (.int x2), M2) else none))) else (bif cEq a1 1 then (zbI (X_X11_within g [.int a3, .int 0, .int 99] M1) (fun x3 M3 => (bif cEq (x3 &&& 1) x3 then some (some (.int x3), M3) else none))) else (bif cEq a1 2 then (zbI (X_X11_within g [.int a3, .int 0, .int 4] M1) (fun x4 M4 => (bif cEq (x4 &&& 1) x4 then some (some (.int x4), M4) else none))) else (bif cEq a1 3 then (zbI (X_X3_get g [.ref 40, .int a2, .int 3] M1) (fun x5 M5 => (bif cEq x5 (-1) then some (some (.int 0), M5) else some (some (.int 1), M5)))) else (bif cEq a1 4 then (zbI (X_X3_serving g [.ref 40, .int a2] M1) (fun x6 M6 => (bif cEq0 x6 then some (some (.int 1), M6) else some (some (.int 0), M6)))) else some (some (.int 0), M1))))))))) := by
  refine Eq.trans (zX_rgN (tl_X3_allows g) (hc_X3_allows g) 16 _ _ _ _) ?_
  refine Eq.trans (Eq.trans (r_0 (act := oS (fAld 1 0)) rfl) (a_ald rfl)) ?_
  refine Eq.trans (Eq.trans (r_go (act := oS (fIld 2 2)) rfl rfl) (a_ild rfl)) ?_
  refine Eq.trans (Eq.trans (r_go (act := oCI 5 2 (zcv g 3) (X_X3_has g)) rfl rfl) (a_cI rfl (zck (zO_40 g) rfl))) (zbI_cg (fun x1 M1 => ?_))
  refine Eq.trans (Eq.trans (r_go (act := oS (fIf 8 10 cEq0)) rfl rfl) (a_if)) (bcg ?_ ?_)
  · refine Eq.trans (Eq.trans (r_go (act := oS (fSt 9 (gC (.int 0)))) rfl rfl) (a_C)) ?_
    exact Eq.trans (Eq.trans (r_go (act := oZret) rfl rfl) a_zret) (bcT (by decide +kernel))
  · refine Eq.trans (Eq.trans (r_go (act := oS (fIld 11 1)) rfl rfl) (a_ild rfl)) ?_
    refine Eq.trans (Eq.trans (r_go (act := oSw 95 [(0, 44), (1, 50), (2, 58), (3, 65), (4, 81)]) rfl rfl) (a_sw)) ?_
    refine Eq.trans a_swC (bcg ?_ ?_)
    · refine Eq.trans (Eq.trans (r_go (act := oS (fAld 45 0)) rfl rfl) (a_ald rfl)) ?_
      refine Eq.trans (Eq.trans (r_go (act := oS (fIld 46 2)) rfl rfl) (a_ild rfl)) ?_
      refine Eq.trans (Eq.trans (r_go (act := oCI 49 2 (zcv g 3) (X_X3_serving g)) rfl rfl) (a_cI rfl (zck (zO_40 g) rfl))) (zbI_cg (fun x2 M2 => ?_))
      exact Eq.trans (r_go (act := oZret) rfl rfl) (a_zret)
    refine Eq.trans a_swC (bcg ?_ ?_)
    · refine Eq.trans (Eq.trans (r_go (act := oS (fIld 51 3)) rfl rfl) (a_ild rfl)) ?_
      refine Eq.trans (Eq.trans (r_go (act := oS (fSt 52 (gC (.int 0)))) rfl rfl) (a_C)) ?_
      refine Eq.trans (Eq.trans (r_go (act := oS (fSt 54 (gC (.int 99)))) rfl rfl) (a_C)) ?_
      refine Eq.trans (Eq.trans (r_go (act := oCI 57 3 zcs (X_X11_within g)) rfl rfl) (a_cI rfl rfl)) (zbI_cg (fun x3 M3 => ?_))
      exact Eq.trans (r_go (act := oZret) rfl rfl) (a_zret)
    refine Eq.trans a_swC (bcg ?_ ?_)
    · refine Eq.trans (Eq.trans (r_go (act := oS (fIld 59 3)) rfl rfl) (a_ild rfl)) ?_
      refine Eq.trans (Eq.trans (r_go (act := oS (fSt 60 (gC (.int 0)))) rfl rfl) (a_C)) ?_
      refine Eq.trans (Eq.trans (r_go (act := oS (fSt 61 (gC (.int 4)))) rfl rfl) (a_C)) ?_
      refine Eq.trans (Eq.trans (r_go (act := oCI 64 3 zcs (X_X11_within g)) rfl rfl) (a_cI rfl rfl)) (zbI_cg (fun x4 M4 => ?_))
      exact Eq.trans (r_go (act := oZret) rfl rfl) (a_zret)
    refine Eq.trans a_swC (bcg ?_ ?_)
    · refine Eq.trans (Eq.trans (r_go (act := oS (fAld 66 0)) rfl rfl) (a_ald rfl)) ?_
      refine Eq.trans (Eq.trans (r_go (act := oS (fIld 67 2)) rfl rfl) (a_ild rfl)) ?_
      refine Eq.trans (Eq.trans (r_go (act := oS (fSt 68 (gC (.int 3)))) rfl rfl) (a_C)) ?_
      refine Eq.trans (Eq.trans (r_go (act := oCI 71 3 (zcv g 3) (X_X3_get g)) rfl rfl) (a_cI rfl (zck (zO_40 g) rfl))) (zbI_cg (fun x5 M5 => ?_))
      refine Eq.trans (Eq.trans (r_go (act := oS (fSt 72 (gC (.int (-1))))) rfl rfl) (a_C)) ?_
      refine Eq.trans (Eq.trans (r_go (act := oS (fCm 79 75 cEq)) rfl rfl) (a_cm)) (bcg ?_ ?_)
      · refine Eq.trans (Eq.trans (r_go (act := oS (fSt 80 (gC (.int 0)))) rfl rfl) (a_C)) ?_
        exact Eq.trans (Eq.trans (r_go (act := oZret) rfl rfl) a_zret) (bcT (by decide +kernel))
      · refine Eq.trans (Eq.trans (r_go (act := oS (fSt 76 (gC (.int 1)))) rfl rfl) (a_C)) ?_
        refine Eq.trans (Eq.trans (r_go (act := oS (fGo 80)) rfl rfl) (a_goto)) ?_
        exact Eq.trans (Eq.trans (r_go (act := oZret) rfl rfl) a_zret) (bcT (by decide +kernel))
    refine Eq.trans a_swC (bcg ?_ ?_)
    · refine Eq.trans (Eq.trans (r_go (act := oS (fAld 82 0)) rfl rfl) (a_ald rfl)) ?_
      refine Eq.trans (Eq.trans (r_go (act := oS (fIld 83 2)) rfl rfl) (a_ild rfl)) ?_
      refine Eq.trans (Eq.trans (r_go (act := oCI 86 2 (zcv g 3) (X_X3_serving g)) rfl rfl) (a_cI rfl (zck (zO_40 g) rfl))) (zbI_cg (fun x6 M6 => ?_))
      refine Eq.trans (Eq.trans (r_go (act := oS (fIf 89 93 cEq0)) rfl rfl) (a_if)) (bcg ?_ ?_)
      · refine Eq.trans (Eq.trans (r_go (act := oS (fSt 90 (gC (.int 1)))) rfl rfl) (a_C)) ?_
        refine Eq.trans (Eq.trans (r_go (act := oS (fGo 94)) rfl rfl) (a_goto)) ?_
        exact Eq.trans (Eq.trans (r_go (act := oZret) rfl rfl) a_zret) (bcT (by decide +kernel))
      · refine Eq.trans (Eq.trans (r_go (act := oS (fSt 94 (gC (.int 0)))) rfl rfl) (a_C)) ?_
        exact Eq.trans (Eq.trans (r_go (act := oZret) rfl rfl) a_zret) (bcT (by decide +kernel))
    refine Eq.trans a_swN ?_
    refine Eq.trans (Eq.trans (r_go (act := oS (fSt 96 (gC (.int 0)))) rfl rfl) (a_C)) ?_
    exact Eq.trans (Eq.trans (r_go (act := oZret) rfl rfl) a_zret) (bcT (by decide +kernel))
theorem x_X3_allows_0_1 (g : zg) (a1 : Int32) (a2 : Int32) (a3 : Int32) (M : zM) : X_X3_allows g [.ref 40, .int a1, .int a2, .int a3] M = (zbI (X_X3_has g [.ref 40, .int a2] M) (fun x1 M1 => (bif cEq0 x1 then some (some (.int 0), M1) else (bif cEq a1 0 then (zbI (X_X3_serving g [.ref 40, .int a2] M1) (fun x2 M2 => (bif cEq (x2 &&& 1) x2 then some (some (.int x2), M2) else none))) else (bif cEq a1 1 then (zbI (X_X11_within g [.int a3, .int 0, .int 99] M1) (fun x3 M3 => (bif cEq (x3 &&& 1) x3 then some (some (.int x3), M3) else none))) else (bif cEq a1 2 then (zbI (X_X11_within g [.int a3, .int 0, .int 4] M1) (fun x4 M4 => (bif cEq (x4 &&& 1) x4 then some (some (.int x4), M4) else none))) else (bif cEq a1 3 then (zbI (X_X3_get g [.ref 40, .int a2, .int 3] M1) (fun x5 M5 => (bif cEq x5 (-1) then some (some (.int 0), M5) else some (some (.int 1), M5)))) else (bif cEq a1 4 then (zbI (X_X3_serving g [.ref 40, .int a2] M1) (fun x6 M6 => (bif cEq0 x6 then some (some (.int 1), M6) else some (some (.int 0), M6)))) else some (some (.int 0), M1))))))))) := e_X3_allows_0_1 g a1 a2 a3 M
set_option maxRecDepth 20000 in
theorem e_X3_take_0 (g : zg) (M : zM) : zX (t_X3_take g) 0 [some (.ref 40), some (.ref 7)] [] M = some (none, ((zu (zu (zu (zu (zu (zu (zu (zu (zu (zu (zu (zcp M.1 8 41 (zx 70)) 40 2 (M.1 7 2)) 40 3 (M.1 7 3)) 40 4 (M.1 7 4)) 40 5 (M.1 7 5)) 40 6 (M.1 7 6)) 40 7 (M.1 7 7)) 40 8 (M.1 7 8)) 40 9 (M.1 7 9)) 40 10 (M.1 7 10)) 40 11 (M.1 7 11)) 40 12 (M.1 7 12)), M.2)) := by
  refine Eq.trans (zX_rgN (tl_X3_take g) (hc_X3_take g) 54 _ _ _ _) ?_
  refine Eq.trans (Eq.trans (r_0 (act := oS (fAld 1 1)) rfl) (a_ald rfl)) ?_
  refine Eq.trans (Eq.trans (r_go (act := oS (fGr g 4 3 1)) rfl rfl) (a_gr (zO_7 g) (zR_7_1 g))) ?_
  refine Eq.trans (Eq.trans (r_go (act := oS (fSt 5 (gC (.int 0)))) rfl rfl) (a_C)) ?_
  refine Eq.trans (Eq.trans (r_go (act := oS (fAld 6 0)) rfl rfl) (a_ald rfl)) ?_
  refine Eq.trans (Eq.trans (r_go (act := oS (fGr g 9 3 1)) rfl rfl) (a_gr (zO_40 g) (zR_40_1 g))) ?_
  refine Eq.trans (Eq.trans (r_go (act := oS (fSt 10 (gC (.int 0)))) rfl rfl) (a_C)) ?_
  refine Eq.trans (Eq.trans (r_go (act := oS (fSt 12 (gC (.int 70)))) rfl rfl) (a_C)) ?_
  refine Eq.trans (Eq.trans (r_go (act := oS (fCp g 15)) rfl rfl) (a_cp (zCp (zA_8 g) (zA_41 g) zS_8 zS_41 (by decide +kernel) (by decide +kernel) rfl))) ?_
  refine Eq.trans (Eq.trans (r_go (act := oS (fAld 16 0)) rfl rfl) (a_ald rfl)) ?_
  refine Eq.trans (Eq.trans (r_go (act := oS (fAld 17 1)) rfl rfl) (a_ald rfl)) ?_
  refine Eq.trans (Eq.trans (r_go (act := oS (fGi g 20 3 2)) rfl rfl) (a_giV (zO_7 g) rfl)) ?_
  refine Eq.trans (Eq.trans (r_go (act := oS (fPi g 23 3 2)) rfl rfl) (a_pi (zO_40 g))) ?_
  refine Eq.trans (Eq.trans (r_go (act := oS (fAld 24 0)) rfl rfl) (a_ald rfl)) ?_
  refine Eq.trans (Eq.trans (r_go (act := oS (fAld 25 1)) rfl rfl) (a_ald rfl)) ?_
  refine Eq.trans (Eq.trans (r_go (act := oS (fGi g 28 3 3)) rfl rfl) (a_giV (zO_7 g) rfl)) ?_
  refine Eq.trans (Eq.trans (r_go (act := oS (fPi g 31 3 3)) rfl rfl) (a_pi (zO_40 g))) ?_
  refine Eq.trans (Eq.trans (r_go (act := oS (fAld 32 0)) rfl rfl) (a_ald rfl)) ?_
  refine Eq.trans (Eq.trans (r_go (act := oS (fAld 33 1)) rfl rfl) (a_ald rfl)) ?_
  refine Eq.trans (Eq.trans (r_go (act := oS (fGi g 36 3 4)) rfl rfl) (a_giV (zO_7 g) rfl)) ?_
  refine Eq.trans (Eq.trans (r_go (act := oS (fPi g 39 3 4)) rfl rfl) (a_pi (zO_40 g))) ?_
  refine Eq.trans (Eq.trans (r_go (act := oS (fAld 40 0)) rfl rfl) (a_ald rfl)) ?_
  refine Eq.trans (Eq.trans (r_go (act := oS (fAld 41 1)) rfl rfl) (a_ald rfl)) ?_
  refine Eq.trans (Eq.trans (r_go (act := oS (fGi g 44 3 5)) rfl rfl) (a_giV (zO_7 g) rfl)) ?_
  refine Eq.trans (Eq.trans (r_go (act := oS (fPi g 47 3 5)) rfl rfl) (a_pi (zO_40 g))) ?_
  refine Eq.trans (Eq.trans (r_go (act := oS (fAld 48 0)) rfl rfl) (a_ald rfl)) ?_
  refine Eq.trans (Eq.trans (r_go (act := oS (fAld 49 1)) rfl rfl) (a_ald rfl)) ?_
  refine Eq.trans (Eq.trans (r_go (act := oS (fGi g 52 3 6)) rfl rfl) (a_giV (zO_7 g) rfl)) ?_
  refine Eq.trans (Eq.trans (r_go (act := oS (fPi g 55 3 6)) rfl rfl) (a_pi (zO_40 g))) ?_
  refine Eq.trans (Eq.trans (r_go (act := oS (fAld 56 0)) rfl rfl) (a_ald rfl)) ?_
  refine Eq.trans (Eq.trans (r_go (act := oS (fAld 57 1)) rfl rfl) (a_ald rfl)) ?_
  refine Eq.trans (Eq.trans (r_go (act := oS (fGi g 60 3 7)) rfl rfl) (a_giV (zO_7 g) rfl)) ?_
  refine Eq.trans (Eq.trans (r_go (act := oS (fPi g 63 3 7)) rfl rfl) (a_pi (zO_40 g))) ?_
  refine Eq.trans (Eq.trans (r_go (act := oS (fAld 64 0)) rfl rfl) (a_ald rfl)) ?_
  refine Eq.trans (Eq.trans (r_go (act := oS (fAld 65 1)) rfl rfl) (a_ald rfl)) ?_
  refine Eq.trans (Eq.trans (r_go (act := oS (fGi g 68 3 8)) rfl rfl) (a_giV (zO_7 g) rfl)) ?_
  refine Eq.trans (Eq.trans (r_go (act := oS (fPi g 71 3 8)) rfl rfl) (a_pi (zO_40 g))) ?_
  refine Eq.trans (Eq.trans (r_go (act := oS (fAld 72 0)) rfl rfl) (a_ald rfl)) ?_
  refine Eq.trans (Eq.trans (r_go (act := oS (fAld 73 1)) rfl rfl) (a_ald rfl)) ?_
  refine Eq.trans (Eq.trans (r_go (act := oS (fGi g 76 3 9)) rfl rfl) (a_giV (zO_7 g) rfl)) ?_
  refine Eq.trans (Eq.trans (r_go (act := oS (fPi g 79 3 9)) rfl rfl) (a_pi (zO_40 g))) ?_
  refine Eq.trans (Eq.trans (r_go (act := oS (fAld 80 0)) rfl rfl) (a_ald rfl)) ?_
  refine Eq.trans (Eq.trans (r_go (act := oS (fAld 81 1)) rfl rfl) (a_ald rfl)) ?_
  refine Eq.trans (Eq.trans (r_go (act := oS (fGi g 84 3 10)) rfl rfl) (a_giV (zO_7 g) rfl)) ?_
  refine Eq.trans (Eq.trans (r_go (act := oS (fPi g 87 3 10)) rfl rfl) (a_pi (zO_40 g))) ?_
  refine Eq.trans (Eq.trans (r_go (act := oS (fAld 88 0)) rfl rfl) (a_ald rfl)) ?_
  refine Eq.trans (Eq.trans (r_go (act := oS (fAld 89 1)) rfl rfl) (a_ald rfl)) ?_
  refine Eq.trans (Eq.trans (r_go (act := oS (fGi g 92 3 11)) rfl rfl) (a_giV (zO_7 g) rfl)) ?_
  refine Eq.trans (Eq.trans (r_go (act := oS (fPi g 95 3 11)) rfl rfl) (a_pi (zO_40 g))) ?_
  refine Eq.trans (Eq.trans (r_go (act := oS (fAld 96 0)) rfl rfl) (a_ald rfl)) ?_
  refine Eq.trans (Eq.trans (r_go (act := oS (fAld 97 1)) rfl rfl) (a_ald rfl)) ?_
  refine Eq.trans (Eq.trans (r_go (act := oS (fGi g 100 3 12)) rfl rfl) (a_giV (zO_7 g) rfl)) ?_
  refine Eq.trans (Eq.trans (r_go (act := oS (fPi g 103 3 12)) rfl rfl) (a_pi (zO_40 g))) ?_
  exact Eq.trans (r_go (act := oVret) rfl rfl) (a_vret)
theorem x_X3_take_0 (g : zg) (M : zM) : X_X3_take g [.ref 40, .ref 7] M = some (none, ((zu (zu (zu (zu (zu (zu (zu (zu (zu (zu (zu (zcp M.1 8 41 (zx 70)) 40 2 (M.1 7 2)) 40 3 (M.1 7 3)) 40 4 (M.1 7 4)) 40 5 (M.1 7 5)) 40 6 (M.1 7 6)) 40 7 (M.1 7 7)) 40 8 (M.1 7 8)) 40 9 (M.1 7 9)) 40 10 (M.1 7 10)) 40 11 (M.1 7 11)) 40 12 (M.1 7 12)), M.2)) := e_X3_take_0 g M
set_option maxRecDepth 20000 in
theorem e_X3_take_0_1 (g : zg) (M : zM) : zX (t_X3_take g) 0 [some (.ref 44), some (.ref 7)] [] M = some (none, ((zu (zu (zu (zu (zu (zu (zu (zu (zu (zu (zu (zcp M.1 8 45 (zx 70)) 44 2 (M.1 7 2)) 44 3 (M.1 7 3)) 44 4 (M.1 7 4)) 44 5 (M.1 7 5)) 44 6 (M.1 7 6)) 44 7 (M.1 7 7)) 44 8 (M.1 7 8)) 44 9 (M.1 7 9)) 44 10 (M.1 7 10)) 44 11 (M.1 7 11)) 44 12 (M.1 7 12)), M.2)) := by
  refine Eq.trans (zX_rgN (tl_X3_take g) (hc_X3_take g) 54 _ _ _ _) ?_
  refine Eq.trans (Eq.trans (r_0 (act := oS (fAld 1 1)) rfl) (a_ald rfl)) ?_
  refine Eq.trans (Eq.trans (r_go (act := oS (fGr g 4 3 1)) rfl rfl) (a_gr (zO_7 g) (zR_7_1 g))) ?_
  refine Eq.trans (Eq.trans (r_go (act := oS (fSt 5 (gC (.int 0)))) rfl rfl) (a_C)) ?_
  refine Eq.trans (Eq.trans (r_go (act := oS (fAld 6 0)) rfl rfl) (a_ald rfl)) ?_
  refine Eq.trans (Eq.trans (r_go (act := oS (fGr g 9 3 1)) rfl rfl) (a_gr (zO_44 g) (zR_44_1 g))) ?_
  refine Eq.trans (Eq.trans (r_go (act := oS (fSt 10 (gC (.int 0)))) rfl rfl) (a_C)) ?_
  refine Eq.trans (Eq.trans (r_go (act := oS (fSt 12 (gC (.int 70)))) rfl rfl) (a_C)) ?_
  refine Eq.trans (Eq.trans (r_go (act := oS (fCp g 15)) rfl rfl) (a_cp (zCp (zA_8 g) (zA_45 g) zS_8 zS_45 (by decide +kernel) (by decide +kernel) rfl))) ?_
  refine Eq.trans (Eq.trans (r_go (act := oS (fAld 16 0)) rfl rfl) (a_ald rfl)) ?_
  refine Eq.trans (Eq.trans (r_go (act := oS (fAld 17 1)) rfl rfl) (a_ald rfl)) ?_
  refine Eq.trans (Eq.trans (r_go (act := oS (fGi g 20 3 2)) rfl rfl) (a_giV (zO_7 g) rfl)) ?_
  refine Eq.trans (Eq.trans (r_go (act := oS (fPi g 23 3 2)) rfl rfl) (a_pi (zO_44 g))) ?_
  refine Eq.trans (Eq.trans (r_go (act := oS (fAld 24 0)) rfl rfl) (a_ald rfl)) ?_
  refine Eq.trans (Eq.trans (r_go (act := oS (fAld 25 1)) rfl rfl) (a_ald rfl)) ?_
  refine Eq.trans (Eq.trans (r_go (act := oS (fGi g 28 3 3)) rfl rfl) (a_giV (zO_7 g) rfl)) ?_
  refine Eq.trans (Eq.trans (r_go (act := oS (fPi g 31 3 3)) rfl rfl) (a_pi (zO_44 g))) ?_
  refine Eq.trans (Eq.trans (r_go (act := oS (fAld 32 0)) rfl rfl) (a_ald rfl)) ?_
  refine Eq.trans (Eq.trans (r_go (act := oS (fAld 33 1)) rfl rfl) (a_ald rfl)) ?_
  refine Eq.trans (Eq.trans (r_go (act := oS (fGi g 36 3 4)) rfl rfl) (a_giV (zO_7 g) rfl)) ?_
  refine Eq.trans (Eq.trans (r_go (act := oS (fPi g 39 3 4)) rfl rfl) (a_pi (zO_44 g))) ?_
  refine Eq.trans (Eq.trans (r_go (act := oS (fAld 40 0)) rfl rfl) (a_ald rfl)) ?_
  refine Eq.trans (Eq.trans (r_go (act := oS (fAld 41 1)) rfl rfl) (a_ald rfl)) ?_
  refine Eq.trans (Eq.trans (r_go (act := oS (fGi g 44 3 5)) rfl rfl) (a_giV (zO_7 g) rfl)) ?_
  refine Eq.trans (Eq.trans (r_go (act := oS (fPi g 47 3 5)) rfl rfl) (a_pi (zO_44 g))) ?_
  refine Eq.trans (Eq.trans (r_go (act := oS (fAld 48 0)) rfl rfl) (a_ald rfl)) ?_
  refine Eq.trans (Eq.trans (r_go (act := oS (fAld 49 1)) rfl rfl) (a_ald rfl)) ?_
  refine Eq.trans (Eq.trans (r_go (act := oS (fGi g 52 3 6)) rfl rfl) (a_giV (zO_7 g) rfl)) ?_
  refine Eq.trans (Eq.trans (r_go (act := oS (fPi g 55 3 6)) rfl rfl) (a_pi (zO_44 g))) ?_
  refine Eq.trans (Eq.trans (r_go (act := oS (fAld 56 0)) rfl rfl) (a_ald rfl)) ?_
  refine Eq.trans (Eq.trans (r_go (act := oS (fAld 57 1)) rfl rfl) (a_ald rfl)) ?_
  refine Eq.trans (Eq.trans (r_go (act := oS (fGi g 60 3 7)) rfl rfl) (a_giV (zO_7 g) rfl)) ?_
  refine Eq.trans (Eq.trans (r_go (act := oS (fPi g 63 3 7)) rfl rfl) (a_pi (zO_44 g))) ?_
  refine Eq.trans (Eq.trans (r_go (act := oS (fAld 64 0)) rfl rfl) (a_ald rfl)) ?_
  refine Eq.trans (Eq.trans (r_go (act := oS (fAld 65 1)) rfl rfl) (a_ald rfl)) ?_
  refine Eq.trans (Eq.trans (r_go (act := oS (fGi g 68 3 8)) rfl rfl) (a_giV (zO_7 g) rfl)) ?_
  refine Eq.trans (Eq.trans (r_go (act := oS (fPi g 71 3 8)) rfl rfl) (a_pi (zO_44 g))) ?_
  refine Eq.trans (Eq.trans (r_go (act := oS (fAld 72 0)) rfl rfl) (a_ald rfl)) ?_
  refine Eq.trans (Eq.trans (r_go (act := oS (fAld 73 1)) rfl rfl) (a_ald rfl)) ?_
  refine Eq.trans (Eq.trans (r_go (act := oS (fGi g 76 3 9)) rfl rfl) (a_giV (zO_7 g) rfl)) ?_
  refine Eq.trans (Eq.trans (r_go (act := oS (fPi g 79 3 9)) rfl rfl) (a_pi (zO_44 g))) ?_
  refine Eq.trans (Eq.trans (r_go (act := oS (fAld 80 0)) rfl rfl) (a_ald rfl)) ?_
  refine Eq.trans (Eq.trans (r_go (act := oS (fAld 81 1)) rfl rfl) (a_ald rfl)) ?_
  refine Eq.trans (Eq.trans (r_go (act := oS (fGi g 84 3 10)) rfl rfl) (a_giV (zO_7 g) rfl)) ?_
  refine Eq.trans (Eq.trans (r_go (act := oS (fPi g 87 3 10)) rfl rfl) (a_pi (zO_44 g))) ?_
  refine Eq.trans (Eq.trans (r_go (act := oS (fAld 88 0)) rfl rfl) (a_ald rfl)) ?_
  refine Eq.trans (Eq.trans (r_go (act := oS (fAld 89 1)) rfl rfl) (a_ald rfl)) ?_
  refine Eq.trans (Eq.trans (r_go (act := oS (fGi g 92 3 11)) rfl rfl) (a_giV (zO_7 g) rfl)) ?_
  refine Eq.trans (Eq.trans (r_go (act := oS (fPi g 95 3 11)) rfl rfl) (a_pi (zO_44 g))) ?_
  refine Eq.trans (Eq.trans (r_go (act := oS (fAld 96 0)) rfl rfl) (a_ald rfl)) ?_
  refine Eq.trans (Eq.trans (r_go (act := oS (fAld 97 1)) rfl rfl) (a_ald rfl)) ?_
  refine Eq.trans (Eq.trans (r_go (act := oS (fGi g 100 3 12)) rfl rfl) (a_giV (zO_7 g) rfl)) ?_
  refine Eq.trans (Eq.trans (r_go (act := oS (fPi g 103 3 12)) rfl rfl) (a_pi (zO_44 g))) ?_
  exact Eq.trans (r_go (act := oVret) rfl rfl) (a_vret)
theorem x_X3_take_0_1 (g : zg) (M : zM) : X_X3_take g [.ref 44, .ref 7] M = some (none, ((zu (zu (zu (zu (zu (zu (zu (zu (zu (zu (zu (zcp M.1 8 45 (zx 70)) 44 2 (M.1 7 2)) 44 3 (M.1 7 3)) 44 4 (M.1 7 4)) 44 5 (M.1 7 5)) 44 6 (M.1 7 6)) 44 7 (M.1 7 7)) 44 8 (M.1 7 8)) 44 9 (M.1 7 9)) 44 10 (M.1 7 10)) 44 11 (M.1 7 11)) 44 12 (M.1 7 12)), M.2)) := e_X3_take_0_1 g M
set_option maxRecDepth 20000 in
theorem e_X3_take_0_2 (g : zg) (M : zM) : zX (t_X3_take g) 0 [some (.ref 46), some (.ref 7)] [] M = some (none, ((zu (zu (zu (zu (zu (zu (zu (zu (zu (zu (zu (zcp M.1 8 47 (zx 70)) 46 2 (M.1 7 2)) 46 3 (M.1 7 3)) 46 4 (M.1 7 4)) 46 5 (M.1 7 5)) 46 6 (M.1 7 6)) 46 7 (M.1 7 7)) 46 8 (M.1 7 8)) 46 9 (M.1 7 9)) 46 10 (M.1 7 10)) 46 11 (M.1 7 11)) 46 12 (M.1 7 12)), M.2)) := by
  refine Eq.trans (zX_rgN (tl_X3_take g) (hc_X3_take g) 54 _ _ _ _) ?_
  refine Eq.trans (Eq.trans (r_0 (act := oS (fAld 1 1)) rfl) (a_ald rfl)) ?_
  refine Eq.trans (Eq.trans (r_go (act := oS (fGr g 4 3 1)) rfl rfl) (a_gr (zO_7 g) (zR_7_1 g))) ?_
  refine Eq.trans (Eq.trans (r_go (act := oS (fSt 5 (gC (.int 0)))) rfl rfl) (a_C)) ?_
  refine Eq.trans (Eq.trans (r_go (act := oS (fAld 6 0)) rfl rfl) (a_ald rfl)) ?_
  refine Eq.trans (Eq.trans (r_go (act := oS (fGr g 9 3 1)) rfl rfl) (a_gr (zO_46 g) (zR_46_1 g))) ?_
  refine Eq.trans (Eq.trans (r_go (act := oS (fSt 10 (gC (.int 0)))) rfl rfl) (a_C)) ?_
  refine Eq.trans (Eq.trans (r_go (act := oS (fSt 12 (gC (.int 70)))) rfl rfl) (a_C)) ?_
  refine Eq.trans (Eq.trans (r_go (act := oS (fCp g 15)) rfl rfl) (a_cp (zCp (zA_8 g) (zA_47 g) zS_8 zS_47 (by decide +kernel) (by decide +kernel) rfl))) ?_
  refine Eq.trans (Eq.trans (r_go (act := oS (fAld 16 0)) rfl rfl) (a_ald rfl)) ?_
  refine Eq.trans (Eq.trans (r_go (act := oS (fAld 17 1)) rfl rfl) (a_ald rfl)) ?_
  refine Eq.trans (Eq.trans (r_go (act := oS (fGi g 20 3 2)) rfl rfl) (a_giV (zO_7 g) rfl)) ?_
  refine Eq.trans (Eq.trans (r_go (act := oS (fPi g 23 3 2)) rfl rfl) (a_pi (zO_46 g))) ?_
  refine Eq.trans (Eq.trans (r_go (act := oS (fAld 24 0)) rfl rfl) (a_ald rfl)) ?_
  refine Eq.trans (Eq.trans (r_go (act := oS (fAld 25 1)) rfl rfl) (a_ald rfl)) ?_
  refine Eq.trans (Eq.trans (r_go (act := oS (fGi g 28 3 3)) rfl rfl) (a_giV (zO_7 g) rfl)) ?_
  refine Eq.trans (Eq.trans (r_go (act := oS (fPi g 31 3 3)) rfl rfl) (a_pi (zO_46 g))) ?_
  refine Eq.trans (Eq.trans (r_go (act := oS (fAld 32 0)) rfl rfl) (a_ald rfl)) ?_
  refine Eq.trans (Eq.trans (r_go (act := oS (fAld 33 1)) rfl rfl) (a_ald rfl)) ?_
  refine Eq.trans (Eq.trans (r_go (act := oS (fGi g 36 3 4)) rfl rfl) (a_giV (zO_7 g) rfl)) ?_
  refine Eq.trans (Eq.trans (r_go (act := oS (fPi g 39 3 4)) rfl rfl) (a_pi (zO_46 g))) ?_
  refine Eq.trans (Eq.trans (r_go (act := oS (fAld 40 0)) rfl rfl) (a_ald rfl)) ?_
  refine Eq.trans (Eq.trans (r_go (act := oS (fAld 41 1)) rfl rfl) (a_ald rfl)) ?_
  refine Eq.trans (Eq.trans (r_go (act := oS (fGi g 44 3 5)) rfl rfl) (a_giV (zO_7 g) rfl)) ?_
  refine Eq.trans (Eq.trans (r_go (act := oS (fPi g 47 3 5)) rfl rfl) (a_pi (zO_46 g))) ?_
  refine Eq.trans (Eq.trans (r_go (act := oS (fAld 48 0)) rfl rfl) (a_ald rfl)) ?_
  refine Eq.trans (Eq.trans (r_go (act := oS (fAld 49 1)) rfl rfl) (a_ald rfl)) ?_
  refine Eq.trans (Eq.trans (r_go (act := oS (fGi g 52 3 6)) rfl rfl) (a_giV (zO_7 g) rfl)) ?_
  refine Eq.trans (Eq.trans (r_go (act := oS (fPi g 55 3 6)) rfl rfl) (a_pi (zO_46 g))) ?_
  refine Eq.trans (Eq.trans (r_go (act := oS (fAld 56 0)) rfl rfl) (a_ald rfl)) ?_
  refine Eq.trans (Eq.trans (r_go (act := oS (fAld 57 1)) rfl rfl) (a_ald rfl)) ?_
  refine Eq.trans (Eq.trans (r_go (act := oS (fGi g 60 3 7)) rfl rfl) (a_giV (zO_7 g) rfl)) ?_
  refine Eq.trans (Eq.trans (r_go (act := oS (fPi g 63 3 7)) rfl rfl) (a_pi (zO_46 g))) ?_
  refine Eq.trans (Eq.trans (r_go (act := oS (fAld 64 0)) rfl rfl) (a_ald rfl)) ?_
  refine Eq.trans (Eq.trans (r_go (act := oS (fAld 65 1)) rfl rfl) (a_ald rfl)) ?_
  refine Eq.trans (Eq.trans (r_go (act := oS (fGi g 68 3 8)) rfl rfl) (a_giV (zO_7 g) rfl)) ?_
  refine Eq.trans (Eq.trans (r_go (act := oS (fPi g 71 3 8)) rfl rfl) (a_pi (zO_46 g))) ?_
  refine Eq.trans (Eq.trans (r_go (act := oS (fAld 72 0)) rfl rfl) (a_ald rfl)) ?_
  refine Eq.trans (Eq.trans (r_go (act := oS (fAld 73 1)) rfl rfl) (a_ald rfl)) ?_
  refine Eq.trans (Eq.trans (r_go (act := oS (fGi g 76 3 9)) rfl rfl) (a_giV (zO_7 g) rfl)) ?_
  refine Eq.trans (Eq.trans (r_go (act := oS (fPi g 79 3 9)) rfl rfl) (a_pi (zO_46 g))) ?_
  refine Eq.trans (Eq.trans (r_go (act := oS (fAld 80 0)) rfl rfl) (a_ald rfl)) ?_
  refine Eq.trans (Eq.trans (r_go (act := oS (fAld 81 1)) rfl rfl) (a_ald rfl)) ?_
  refine Eq.trans (Eq.trans (r_go (act := oS (fGi g 84 3 10)) rfl rfl) (a_giV (zO_7 g) rfl)) ?_
  refine Eq.trans (Eq.trans (r_go (act := oS (fPi g 87 3 10)) rfl rfl) (a_pi (zO_46 g))) ?_
  refine Eq.trans (Eq.trans (r_go (act := oS (fAld 88 0)) rfl rfl) (a_ald rfl)) ?_
  refine Eq.trans (Eq.trans (r_go (act := oS (fAld 89 1)) rfl rfl) (a_ald rfl)) ?_
  refine Eq.trans (Eq.trans (r_go (act := oS (fGi g 92 3 11)) rfl rfl) (a_giV (zO_7 g) rfl)) ?_
  refine Eq.trans (Eq.trans (r_go (act := oS (fPi g 95 3 11)) rfl rfl) (a_pi (zO_46 g))) ?_
  refine Eq.trans (Eq.trans (r_go (act := oS (fAld 96 0)) rfl rfl) (a_ald rfl)) ?_
  refine Eq.trans (Eq.trans (r_go (act := oS (fAld 97 1)) rfl rfl) (a_ald rfl)) ?_
  refine Eq.trans (Eq.trans (r_go (act := oS (fGi g 100 3 12)) rfl rfl) (a_giV (zO_7 g) rfl)) ?_
  refine Eq.trans (Eq.trans (r_go (act := oS (fPi g 103 3 12)) rfl rfl) (a_pi (zO_46 g))) ?_
  exact Eq.trans (r_go (act := oVret) rfl rfl) (a_vret)
theorem x_X3_take_0_2 (g : zg) (M : zM) : X_X3_take g [.ref 46, .ref 7] M = some (none, ((zu (zu (zu (zu (zu (zu (zu (zu (zu (zu (zu (zcp M.1 8 47 (zx 70)) 46 2 (M.1 7 2)) 46 3 (M.1 7 3)) 46 4 (M.1 7 4)) 46 5 (M.1 7 5)) 46 6 (M.1 7 6)) 46 7 (M.1 7 7)) 46 8 (M.1 7 8)) 46 9 (M.1 7 9)) 46 10 (M.1 7 10)) 46 11 (M.1 7 11)) 46 12 (M.1 7 12)), M.2)) := e_X3_take_0_2 g M
set_option maxRecDepth 20000 in
theorem e_X3_take_0_3 (g : zg) (M : zM) : zX (t_X3_take g) 0 [some (.ref 48), some (.ref 7)] [] M = some (none, ((zu (zu (zu (zu (zu (zu (zu (zu (zu (zu (zu (zcp M.1 8 49 (zx 70)) 48 2 (M.1 7 2)) 48 3 (M.1 7 3)) 48 4 (M.1 7 4)) 48 5 (M.1 7 5)) 48 6 (M.1 7 6)) 48 7 (M.1 7 7)) 48 8 (M.1 7 8)) 48 9 (M.1 7 9)) 48 10 (M.1 7 10)) 48 11 (M.1 7 11)) 48 12 (M.1 7 12)), M.2)) := by
  refine Eq.trans (zX_rgN (tl_X3_take g) (hc_X3_take g) 54 _ _ _ _) ?_
  refine Eq.trans (Eq.trans (r_0 (act := oS (fAld 1 1)) rfl) (a_ald rfl)) ?_
  refine Eq.trans (Eq.trans (r_go (act := oS (fGr g 4 3 1)) rfl rfl) (a_gr (zO_7 g) (zR_7_1 g))) ?_
  refine Eq.trans (Eq.trans (r_go (act := oS (fSt 5 (gC (.int 0)))) rfl rfl) (a_C)) ?_
  refine Eq.trans (Eq.trans (r_go (act := oS (fAld 6 0)) rfl rfl) (a_ald rfl)) ?_
  refine Eq.trans (Eq.trans (r_go (act := oS (fGr g 9 3 1)) rfl rfl) (a_gr (zO_48 g) (zR_48_1 g))) ?_
  refine Eq.trans (Eq.trans (r_go (act := oS (fSt 10 (gC (.int 0)))) rfl rfl) (a_C)) ?_
  refine Eq.trans (Eq.trans (r_go (act := oS (fSt 12 (gC (.int 70)))) rfl rfl) (a_C)) ?_
  refine Eq.trans (Eq.trans (r_go (act := oS (fCp g 15)) rfl rfl) (a_cp (zCp (zA_8 g) (zA_49 g) zS_8 zS_49 (by decide +kernel) (by decide +kernel) rfl))) ?_
  refine Eq.trans (Eq.trans (r_go (act := oS (fAld 16 0)) rfl rfl) (a_ald rfl)) ?_
  refine Eq.trans (Eq.trans (r_go (act := oS (fAld 17 1)) rfl rfl) (a_ald rfl)) ?_
  refine Eq.trans (Eq.trans (r_go (act := oS (fGi g 20 3 2)) rfl rfl) (a_giV (zO_7 g) rfl)) ?_
  refine Eq.trans (Eq.trans (r_go (act := oS (fPi g 23 3 2)) rfl rfl) (a_pi (zO_48 g))) ?_
  refine Eq.trans (Eq.trans (r_go (act := oS (fAld 24 0)) rfl rfl) (a_ald rfl)) ?_
  refine Eq.trans (Eq.trans (r_go (act := oS (fAld 25 1)) rfl rfl) (a_ald rfl)) ?_
  refine Eq.trans (Eq.trans (r_go (act := oS (fGi g 28 3 3)) rfl rfl) (a_giV (zO_7 g) rfl)) ?_
  refine Eq.trans (Eq.trans (r_go (act := oS (fPi g 31 3 3)) rfl rfl) (a_pi (zO_48 g))) ?_
  refine Eq.trans (Eq.trans (r_go (act := oS (fAld 32 0)) rfl rfl) (a_ald rfl)) ?_
  refine Eq.trans (Eq.trans (r_go (act := oS (fAld 33 1)) rfl rfl) (a_ald rfl)) ?_
  refine Eq.trans (Eq.trans (r_go (act := oS (fGi g 36 3 4)) rfl rfl) (a_giV (zO_7 g) rfl)) ?_
  refine Eq.trans (Eq.trans (r_go (act := oS (fPi g 39 3 4)) rfl rfl) (a_pi (zO_48 g))) ?_
  refine Eq.trans (Eq.trans (r_go (act := oS (fAld 40 0)) rfl rfl) (a_ald rfl)) ?_
  refine Eq.trans (Eq.trans (r_go (act := oS (fAld 41 1)) rfl rfl) (a_ald rfl)) ?_
  refine Eq.trans (Eq.trans (r_go (act := oS (fGi g 44 3 5)) rfl rfl) (a_giV (zO_7 g) rfl)) ?_
  refine Eq.trans (Eq.trans (r_go (act := oS (fPi g 47 3 5)) rfl rfl) (a_pi (zO_48 g))) ?_
  refine Eq.trans (Eq.trans (r_go (act := oS (fAld 48 0)) rfl rfl) (a_ald rfl)) ?_
  refine Eq.trans (Eq.trans (r_go (act := oS (fAld 49 1)) rfl rfl) (a_ald rfl)) ?_
  refine Eq.trans (Eq.trans (r_go (act := oS (fGi g 52 3 6)) rfl rfl) (a_giV (zO_7 g) rfl)) ?_
  refine Eq.trans (Eq.trans (r_go (act := oS (fPi g 55 3 6)) rfl rfl) (a_pi (zO_48 g))) ?_
  refine Eq.trans (Eq.trans (r_go (act := oS (fAld 56 0)) rfl rfl) (a_ald rfl)) ?_
  refine Eq.trans (Eq.trans (r_go (act := oS (fAld 57 1)) rfl rfl) (a_ald rfl)) ?_
  refine Eq.trans (Eq.trans (r_go (act := oS (fGi g 60 3 7)) rfl rfl) (a_giV (zO_7 g) rfl)) ?_
  refine Eq.trans (Eq.trans (r_go (act := oS (fPi g 63 3 7)) rfl rfl) (a_pi (zO_48 g))) ?_
  refine Eq.trans (Eq.trans (r_go (act := oS (fAld 64 0)) rfl rfl) (a_ald rfl)) ?_
  refine Eq.trans (Eq.trans (r_go (act := oS (fAld 65 1)) rfl rfl) (a_ald rfl)) ?_
  refine Eq.trans (Eq.trans (r_go (act := oS (fGi g 68 3 8)) rfl rfl) (a_giV (zO_7 g) rfl)) ?_
  refine Eq.trans (Eq.trans (r_go (act := oS (fPi g 71 3 8)) rfl rfl) (a_pi (zO_48 g))) ?_
  refine Eq.trans (Eq.trans (r_go (act := oS (fAld 72 0)) rfl rfl) (a_ald rfl)) ?_
  refine Eq.trans (Eq.trans (r_go (act := oS (fAld 73 1)) rfl rfl) (a_ald rfl)) ?_
  refine Eq.trans (Eq.trans (r_go (act := oS (fGi g 76 3 9)) rfl rfl) (a_giV (zO_7 g) rfl)) ?_
  refine Eq.trans (Eq.trans (r_go (act := oS (fPi g 79 3 9)) rfl rfl) (a_pi (zO_48 g))) ?_
  refine Eq.trans (Eq.trans (r_go (act := oS (fAld 80 0)) rfl rfl) (a_ald rfl)) ?_
  refine Eq.trans (Eq.trans (r_go (act := oS (fAld 81 1)) rfl rfl) (a_ald rfl)) ?_
  refine Eq.trans (Eq.trans (r_go (act := oS (fGi g 84 3 10)) rfl rfl) (a_giV (zO_7 g) rfl)) ?_
  refine Eq.trans (Eq.trans (r_go (act := oS (fPi g 87 3 10)) rfl rfl) (a_pi (zO_48 g))) ?_
  refine Eq.trans (Eq.trans (r_go (act := oS (fAld 88 0)) rfl rfl) (a_ald rfl)) ?_
  refine Eq.trans (Eq.trans (r_go (act := oS (fAld 89 1)) rfl rfl) (a_ald rfl)) ?_
  refine Eq.trans (Eq.trans (r_go (act := oS (fGi g 92 3 11)) rfl rfl) (a_giV (zO_7 g) rfl)) ?_
  refine Eq.trans (Eq.trans (r_go (act := oS (fPi g 95 3 11)) rfl rfl) (a_pi (zO_48 g))) ?_
  refine Eq.trans (Eq.trans (r_go (act := oS (fAld 96 0)) rfl rfl) (a_ald rfl)) ?_
  refine Eq.trans (Eq.trans (r_go (act := oS (fAld 97 1)) rfl rfl) (a_ald rfl)) ?_
  refine Eq.trans (Eq.trans (r_go (act := oS (fGi g 100 3 12)) rfl rfl) (a_giV (zO_7 g) rfl)) ?_
  refine Eq.trans (Eq.trans (r_go (act := oS (fPi g 103 3 12)) rfl rfl) (a_pi (zO_48 g))) ?_
  exact Eq.trans (r_go (act := oVret) rfl rfl) (a_vret)
theorem x_X3_take_0_3 (g : zg) (M : zM) : X_X3_take g [.ref 48, .ref 7] M = some (none, ((zu (zu (zu (zu (zu (zu (zu (zu (zu (zu (zu (zcp M.1 8 49 (zx 70)) 48 2 (M.1 7 2)) 48 3 (M.1 7 3)) 48 4 (M.1 7 4)) 48 5 (M.1 7 5)) 48 6 (M.1 7 6)) 48 7 (M.1 7 7)) 48 8 (M.1 7 8)) 48 9 (M.1 7 9)) 48 10 (M.1 7 10)) 48 11 (M.1 7 11)) 48 12 (M.1 7 12)), M.2)) := e_X3_take_0_3 g M
set_option maxRecDepth 20000 in
theorem e_X3_take_0_4 (g : zg) (M : zM) : zX (t_X3_take g) 0 [some (.ref 50), some (.ref 7)] [] M = some (none, ((zu (zu (zu (zu (zu (zu (zu (zu (zu (zu (zu (zcp M.1 8 51 (zx 70)) 50 2 (M.1 7 2)) 50 3 (M.1 7 3)) 50 4 (M.1 7 4)) 50 5 (M.1 7 5)) 50 6 (M.1 7 6)) 50 7 (M.1 7 7)) 50 8 (M.1 7 8)) 50 9 (M.1 7 9)) 50 10 (M.1 7 10)) 50 11 (M.1 7 11)) 50 12 (M.1 7 12)), M.2)) := by
  refine Eq.trans (zX_rgN (tl_X3_take g) (hc_X3_take g) 54 _ _ _ _) ?_
  refine Eq.trans (Eq.trans (r_0 (act := oS (fAld 1 1)) rfl) (a_ald rfl)) ?_
  refine Eq.trans (Eq.trans (r_go (act := oS (fGr g 4 3 1)) rfl rfl) (a_gr (zO_7 g) (zR_7_1 g))) ?_
  refine Eq.trans (Eq.trans (r_go (act := oS (fSt 5 (gC (.int 0)))) rfl rfl) (a_C)) ?_
  refine Eq.trans (Eq.trans (r_go (act := oS (fAld 6 0)) rfl rfl) (a_ald rfl)) ?_
  refine Eq.trans (Eq.trans (r_go (act := oS (fGr g 9 3 1)) rfl rfl) (a_gr (zO_50 g) (zR_50_1 g))) ?_
  refine Eq.trans (Eq.trans (r_go (act := oS (fSt 10 (gC (.int 0)))) rfl rfl) (a_C)) ?_
  refine Eq.trans (Eq.trans (r_go (act := oS (fSt 12 (gC (.int 70)))) rfl rfl) (a_C)) ?_
  refine Eq.trans (Eq.trans (r_go (act := oS (fCp g 15)) rfl rfl) (a_cp (zCp (zA_8 g) (zA_51 g) zS_8 zS_51 (by decide +kernel) (by decide +kernel) rfl))) ?_
  refine Eq.trans (Eq.trans (r_go (act := oS (fAld 16 0)) rfl rfl) (a_ald rfl)) ?_
  refine Eq.trans (Eq.trans (r_go (act := oS (fAld 17 1)) rfl rfl) (a_ald rfl)) ?_
  refine Eq.trans (Eq.trans (r_go (act := oS (fGi g 20 3 2)) rfl rfl) (a_giV (zO_7 g) rfl)) ?_
  refine Eq.trans (Eq.trans (r_go (act := oS (fPi g 23 3 2)) rfl rfl) (a_pi (zO_50 g))) ?_
  refine Eq.trans (Eq.trans (r_go (act := oS (fAld 24 0)) rfl rfl) (a_ald rfl)) ?_
  refine Eq.trans (Eq.trans (r_go (act := oS (fAld 25 1)) rfl rfl) (a_ald rfl)) ?_
  refine Eq.trans (Eq.trans (r_go (act := oS (fGi g 28 3 3)) rfl rfl) (a_giV (zO_7 g) rfl)) ?_
  refine Eq.trans (Eq.trans (r_go (act := oS (fPi g 31 3 3)) rfl rfl) (a_pi (zO_50 g))) ?_
  refine Eq.trans (Eq.trans (r_go (act := oS (fAld 32 0)) rfl rfl) (a_ald rfl)) ?_
  refine Eq.trans (Eq.trans (r_go (act := oS (fAld 33 1)) rfl rfl) (a_ald rfl)) ?_
  refine Eq.trans (Eq.trans (r_go (act := oS (fGi g 36 3 4)) rfl rfl) (a_giV (zO_7 g) rfl)) ?_
  refine Eq.trans (Eq.trans (r_go (act := oS (fPi g 39 3 4)) rfl rfl) (a_pi (zO_50 g))) ?_
  refine Eq.trans (Eq.trans (r_go (act := oS (fAld 40 0)) rfl rfl) (a_ald rfl)) ?_
  refine Eq.trans (Eq.trans (r_go (act := oS (fAld 41 1)) rfl rfl) (a_ald rfl)) ?_
  refine Eq.trans (Eq.trans (r_go (act := oS (fGi g 44 3 5)) rfl rfl) (a_giV (zO_7 g) rfl)) ?_
  refine Eq.trans (Eq.trans (r_go (act := oS (fPi g 47 3 5)) rfl rfl) (a_pi (zO_50 g))) ?_
  refine Eq.trans (Eq.trans (r_go (act := oS (fAld 48 0)) rfl rfl) (a_ald rfl)) ?_
  refine Eq.trans (Eq.trans (r_go (act := oS (fAld 49 1)) rfl rfl) (a_ald rfl)) ?_
  refine Eq.trans (Eq.trans (r_go (act := oS (fGi g 52 3 6)) rfl rfl) (a_giV (zO_7 g) rfl)) ?_
  refine Eq.trans (Eq.trans (r_go (act := oS (fPi g 55 3 6)) rfl rfl) (a_pi (zO_50 g))) ?_
  refine Eq.trans (Eq.trans (r_go (act := oS (fAld 56 0)) rfl rfl) (a_ald rfl)) ?_
  refine Eq.trans (Eq.trans (r_go (act := oS (fAld 57 1)) rfl rfl) (a_ald rfl)) ?_
  refine Eq.trans (Eq.trans (r_go (act := oS (fGi g 60 3 7)) rfl rfl) (a_giV (zO_7 g) rfl)) ?_
  refine Eq.trans (Eq.trans (r_go (act := oS (fPi g 63 3 7)) rfl rfl) (a_pi (zO_50 g))) ?_
  refine Eq.trans (Eq.trans (r_go (act := oS (fAld 64 0)) rfl rfl) (a_ald rfl)) ?_
  refine Eq.trans (Eq.trans (r_go (act := oS (fAld 65 1)) rfl rfl) (a_ald rfl)) ?_
  refine Eq.trans (Eq.trans (r_go (act := oS (fGi g 68 3 8)) rfl rfl) (a_giV (zO_7 g) rfl)) ?_
  refine Eq.trans (Eq.trans (r_go (act := oS (fPi g 71 3 8)) rfl rfl) (a_pi (zO_50 g))) ?_
  refine Eq.trans (Eq.trans (r_go (act := oS (fAld 72 0)) rfl rfl) (a_ald rfl)) ?_
  refine Eq.trans (Eq.trans (r_go (act := oS (fAld 73 1)) rfl rfl) (a_ald rfl)) ?_
  refine Eq.trans (Eq.trans (r_go (act := oS (fGi g 76 3 9)) rfl rfl) (a_giV (zO_7 g) rfl)) ?_
  refine Eq.trans (Eq.trans (r_go (act := oS (fPi g 79 3 9)) rfl rfl) (a_pi (zO_50 g))) ?_
  refine Eq.trans (Eq.trans (r_go (act := oS (fAld 80 0)) rfl rfl) (a_ald rfl)) ?_
  refine Eq.trans (Eq.trans (r_go (act := oS (fAld 81 1)) rfl rfl) (a_ald rfl)) ?_
  refine Eq.trans (Eq.trans (r_go (act := oS (fGi g 84 3 10)) rfl rfl) (a_giV (zO_7 g) rfl)) ?_
  refine Eq.trans (Eq.trans (r_go (act := oS (fPi g 87 3 10)) rfl rfl) (a_pi (zO_50 g))) ?_
  refine Eq.trans (Eq.trans (r_go (act := oS (fAld 88 0)) rfl rfl) (a_ald rfl)) ?_
  refine Eq.trans (Eq.trans (r_go (act := oS (fAld 89 1)) rfl rfl) (a_ald rfl)) ?_
  refine Eq.trans (Eq.trans (r_go (act := oS (fGi g 92 3 11)) rfl rfl) (a_giV (zO_7 g) rfl)) ?_
  refine Eq.trans (Eq.trans (r_go (act := oS (fPi g 95 3 11)) rfl rfl) (a_pi (zO_50 g))) ?_
  refine Eq.trans (Eq.trans (r_go (act := oS (fAld 96 0)) rfl rfl) (a_ald rfl)) ?_
  refine Eq.trans (Eq.trans (r_go (act := oS (fAld 97 1)) rfl rfl) (a_ald rfl)) ?_
  refine Eq.trans (Eq.trans (r_go (act := oS (fGi g 100 3 12)) rfl rfl) (a_giV (zO_7 g) rfl)) ?_
  refine Eq.trans (Eq.trans (r_go (act := oS (fPi g 103 3 12)) rfl rfl) (a_pi (zO_50 g))) ?_
  exact Eq.trans (r_go (act := oVret) rfl rfl) (a_vret)
theorem x_X3_take_0_4 (g : zg) (M : zM) : X_X3_take g [.ref 50, .ref 7] M = some (none, ((zu (zu (zu (zu (zu (zu (zu (zu (zu (zu (zu (zcp M.1 8 51 (zx 70)) 50 2 (M.1 7 2)) 50 3 (M.1 7 3)) 50 4 (M.1 7 4)) 50 5 (M.1 7 5)) 50 6 (M.1 7 6)) 50 7 (M.1 7 7)) 50 8 (M.1 7 8)) 50 9 (M.1 7 9)) 50 10 (M.1 7 10)) 50 11 (M.1 7 11)) 50 12 (M.1 7 12)), M.2)) := e_X3_take_0_4 g M
set_option maxRecDepth 20000 in
theorem e_X3_take_0_5 (g : zg) (M : zM) : zX (t_X3_take g) 0 [some (.ref 52), some (.ref 7)] [] M = some (none, ((zu (zu (zu (zu (zu (zu (zu (zu (zu (zu (zu (zcp M.1 8 53 (zx 70)) 52 2 (M.1 7 2)) 52 3 (M.1 7 3)) 52 4 (M.1 7 4)) 52 5 (M.1 7 5)) 52 6 (M.1 7 6)) 52 7 (M.1 7 7)) 52 8 (M.1 7 8)) 52 9 (M.1 7 9)) 52 10 (M.1 7 10)) 52 11 (M.1 7 11)) 52 12 (M.1 7 12)), M.2)) := by
  refine Eq.trans (zX_rgN (tl_X3_take g) (hc_X3_take g) 54 _ _ _ _) ?_
  refine Eq.trans (Eq.trans (r_0 (act := oS (fAld 1 1)) rfl) (a_ald rfl)) ?_
  refine Eq.trans (Eq.trans (r_go (act := oS (fGr g 4 3 1)) rfl rfl) (a_gr (zO_7 g) (zR_7_1 g))) ?_
  refine Eq.trans (Eq.trans (r_go (act := oS (fSt 5 (gC (.int 0)))) rfl rfl) (a_C)) ?_
  refine Eq.trans (Eq.trans (r_go (act := oS (fAld 6 0)) rfl rfl) (a_ald rfl)) ?_
  refine Eq.trans (Eq.trans (r_go (act := oS (fGr g 9 3 1)) rfl rfl) (a_gr (zO_52 g) (zR_52_1 g))) ?_
  refine Eq.trans (Eq.trans (r_go (act := oS (fSt 10 (gC (.int 0)))) rfl rfl) (a_C)) ?_
  refine Eq.trans (Eq.trans (r_go (act := oS (fSt 12 (gC (.int 70)))) rfl rfl) (a_C)) ?_
  refine Eq.trans (Eq.trans (r_go (act := oS (fCp g 15)) rfl rfl) (a_cp (zCp (zA_8 g) (zA_53 g) zS_8 zS_53 (by decide +kernel) (by decide +kernel) rfl))) ?_
  refine Eq.trans (Eq.trans (r_go (act := oS (fAld 16 0)) rfl rfl) (a_ald rfl)) ?_
  refine Eq.trans (Eq.trans (r_go (act := oS (fAld 17 1)) rfl rfl) (a_ald rfl)) ?_
  refine Eq.trans (Eq.trans (r_go (act := oS (fGi g 20 3 2)) rfl rfl) (a_giV (zO_7 g) rfl)) ?_
  refine Eq.trans (Eq.trans (r_go (act := oS (fPi g 23 3 2)) rfl rfl) (a_pi (zO_52 g))) ?_
  refine Eq.trans (Eq.trans (r_go (act := oS (fAld 24 0)) rfl rfl) (a_ald rfl)) ?_
  refine Eq.trans (Eq.trans (r_go (act := oS (fAld 25 1)) rfl rfl) (a_ald rfl)) ?_
  refine Eq.trans (Eq.trans (r_go (act := oS (fGi g 28 3 3)) rfl rfl) (a_giV (zO_7 g) rfl)) ?_
  refine Eq.trans (Eq.trans (r_go (act := oS (fPi g 31 3 3)) rfl rfl) (a_pi (zO_52 g))) ?_
  refine Eq.trans (Eq.trans (r_go (act := oS (fAld 32 0)) rfl rfl) (a_ald rfl)) ?_
  refine Eq.trans (Eq.trans (r_go (act := oS (fAld 33 1)) rfl rfl) (a_ald rfl)) ?_
  refine Eq.trans (Eq.trans (r_go (act := oS (fGi g 36 3 4)) rfl rfl) (a_giV (zO_7 g) rfl)) ?_
  refine Eq.trans (Eq.trans (r_go (act := oS (fPi g 39 3 4)) rfl rfl) (a_pi (zO_52 g))) ?_
  refine Eq.trans (Eq.trans (r_go (act := oS (fAld 40 0)) rfl rfl) (a_ald rfl)) ?_
  refine Eq.trans (Eq.trans (r_go (act := oS (fAld 41 1)) rfl rfl) (a_ald rfl)) ?_
  refine Eq.trans (Eq.trans (r_go (act := oS (fGi g 44 3 5)) rfl rfl) (a_giV (zO_7 g) rfl)) ?_
  refine Eq.trans (Eq.trans (r_go (act := oS (fPi g 47 3 5)) rfl rfl) (a_pi (zO_52 g))) ?_
  refine Eq.trans (Eq.trans (r_go (act := oS (fAld 48 0)) rfl rfl) (a_ald rfl)) ?_
  refine Eq.trans (Eq.trans (r_go (act := oS (fAld 49 1)) rfl rfl) (a_ald rfl)) ?_
  refine Eq.trans (Eq.trans (r_go (act := oS (fGi g 52 3 6)) rfl rfl) (a_giV (zO_7 g) rfl)) ?_
  refine Eq.trans (Eq.trans (r_go (act := oS (fPi g 55 3 6)) rfl rfl) (a_pi (zO_52 g))) ?_
  refine Eq.trans (Eq.trans (r_go (act := oS (fAld 56 0)) rfl rfl) (a_ald rfl)) ?_
  refine Eq.trans (Eq.trans (r_go (act := oS (fAld 57 1)) rfl rfl) (a_ald rfl)) ?_
  refine Eq.trans (Eq.trans (r_go (act := oS (fGi g 60 3 7)) rfl rfl) (a_giV (zO_7 g) rfl)) ?_
  refine Eq.trans (Eq.trans (r_go (act := oS (fPi g 63 3 7)) rfl rfl) (a_pi (zO_52 g))) ?_
  refine Eq.trans (Eq.trans (r_go (act := oS (fAld 64 0)) rfl rfl) (a_ald rfl)) ?_
  refine Eq.trans (Eq.trans (r_go (act := oS (fAld 65 1)) rfl rfl) (a_ald rfl)) ?_
  refine Eq.trans (Eq.trans (r_go (act := oS (fGi g 68 3 8)) rfl rfl) (a_giV (zO_7 g) rfl)) ?_
  refine Eq.trans (Eq.trans (r_go (act := oS (fPi g 71 3 8)) rfl rfl) (a_pi (zO_52 g))) ?_
  refine Eq.trans (Eq.trans (r_go (act := oS (fAld 72 0)) rfl rfl) (a_ald rfl)) ?_
  refine Eq.trans (Eq.trans (r_go (act := oS (fAld 73 1)) rfl rfl) (a_ald rfl)) ?_
  refine Eq.trans (Eq.trans (r_go (act := oS (fGi g 76 3 9)) rfl rfl) (a_giV (zO_7 g) rfl)) ?_
  refine Eq.trans (Eq.trans (r_go (act := oS (fPi g 79 3 9)) rfl rfl) (a_pi (zO_52 g))) ?_
  refine Eq.trans (Eq.trans (r_go (act := oS (fAld 80 0)) rfl rfl) (a_ald rfl)) ?_
  refine Eq.trans (Eq.trans (r_go (act := oS (fAld 81 1)) rfl rfl) (a_ald rfl)) ?_
  refine Eq.trans (Eq.trans (r_go (act := oS (fGi g 84 3 10)) rfl rfl) (a_giV (zO_7 g) rfl)) ?_
  refine Eq.trans (Eq.trans (r_go (act := oS (fPi g 87 3 10)) rfl rfl) (a_pi (zO_52 g))) ?_
  refine Eq.trans (Eq.trans (r_go (act := oS (fAld 88 0)) rfl rfl) (a_ald rfl)) ?_
  refine Eq.trans (Eq.trans (r_go (act := oS (fAld 89 1)) rfl rfl) (a_ald rfl)) ?_
  refine Eq.trans (Eq.trans (r_go (act := oS (fGi g 92 3 11)) rfl rfl) (a_giV (zO_7 g) rfl)) ?_
  refine Eq.trans (Eq.trans (r_go (act := oS (fPi g 95 3 11)) rfl rfl) (a_pi (zO_52 g))) ?_
  refine Eq.trans (Eq.trans (r_go (act := oS (fAld 96 0)) rfl rfl) (a_ald rfl)) ?_
  refine Eq.trans (Eq.trans (r_go (act := oS (fAld 97 1)) rfl rfl) (a_ald rfl)) ?_
  refine Eq.trans (Eq.trans (r_go (act := oS (fGi g 100 3 12)) rfl rfl) (a_giV (zO_7 g) rfl)) ?_
  refine Eq.trans (Eq.trans (r_go (act := oS (fPi g 103 3 12)) rfl rfl) (a_pi (zO_52 g))) ?_
  exact Eq.trans (r_go (act := oVret) rfl rfl) (a_vret)
theorem x_X3_take_0_5 (g : zg) (M : zM) : X_X3_take g [.ref 52, .ref 7] M = some (none, ((zu (zu (zu (zu (zu (zu (zu (zu (zu (zu (zu (zcp M.1 8 53 (zx 70)) 52 2 (M.1 7 2)) 52 3 (M.1 7 3)) 52 4 (M.1 7 4)) 52 5 (M.1 7 5)) 52 6 (M.1 7 6)) 52 7 (M.1 7 7)) 52 8 (M.1 7 8)) 52 9 (M.1 7 9)) 52 10 (M.1 7 10)) 52 11 (M.1 7 11)) 52 12 (M.1 7 12)), M.2)) := e_X3_take_0_5 g M
set_option maxRecDepth 20000 in
theorem e_X3_take_0_6 (g : zg) (M : zM) : zX (t_X3_take g) 0 [some (.ref 54), some (.ref 7)] [] M = some (none, ((zu (zu (zu (zu (zu (zu (zu (zu (zu (zu (zu (zcp M.1 8 55 (zx 70)) 54 2 (M.1 7 2)) 54 3 (M.1 7 3)) 54 4 (M.1 7 4)) 54 5 (M.1 7 5)) 54 6 (M.1 7 6)) 54 7 (M.1 7 7)) 54 8 (M.1 7 8)) 54 9 (M.1 7 9)) 54 10 (M.1 7 10)) 54 11 (M.1 7 11)) 54 12 (M.1 7 12)), M.2)) := by
  refine Eq.trans (zX_rgN (tl_X3_take g) (hc_X3_take g) 54 _ _ _ _) ?_
  refine Eq.trans (Eq.trans (r_0 (act := oS (fAld 1 1)) rfl) (a_ald rfl)) ?_
  refine Eq.trans (Eq.trans (r_go (act := oS (fGr g 4 3 1)) rfl rfl) (a_gr (zO_7 g) (zR_7_1 g))) ?_
  refine Eq.trans (Eq.trans (r_go (act := oS (fSt 5 (gC (.int 0)))) rfl rfl) (a_C)) ?_
  refine Eq.trans (Eq.trans (r_go (act := oS (fAld 6 0)) rfl rfl) (a_ald rfl)) ?_
  refine Eq.trans (Eq.trans (r_go (act := oS (fGr g 9 3 1)) rfl rfl) (a_gr (zO_54 g) (zR_54_1 g))) ?_
  refine Eq.trans (Eq.trans (r_go (act := oS (fSt 10 (gC (.int 0)))) rfl rfl) (a_C)) ?_
  refine Eq.trans (Eq.trans (r_go (act := oS (fSt 12 (gC (.int 70)))) rfl rfl) (a_C)) ?_
  refine Eq.trans (Eq.trans (r_go (act := oS (fCp g 15)) rfl rfl) (a_cp (zCp (zA_8 g) (zA_55 g) zS_8 zS_55 (by decide +kernel) (by decide +kernel) rfl))) ?_
  refine Eq.trans (Eq.trans (r_go (act := oS (fAld 16 0)) rfl rfl) (a_ald rfl)) ?_
  refine Eq.trans (Eq.trans (r_go (act := oS (fAld 17 1)) rfl rfl) (a_ald rfl)) ?_
  refine Eq.trans (Eq.trans (r_go (act := oS (fGi g 20 3 2)) rfl rfl) (a_giV (zO_7 g) rfl)) ?_
  refine Eq.trans (Eq.trans (r_go (act := oS (fPi g 23 3 2)) rfl rfl) (a_pi (zO_54 g))) ?_
  refine Eq.trans (Eq.trans (r_go (act := oS (fAld 24 0)) rfl rfl) (a_ald rfl)) ?_
  refine Eq.trans (Eq.trans (r_go (act := oS (fAld 25 1)) rfl rfl) (a_ald rfl)) ?_
  refine Eq.trans (Eq.trans (r_go (act := oS (fGi g 28 3 3)) rfl rfl) (a_giV (zO_7 g) rfl)) ?_
  refine Eq.trans (Eq.trans (r_go (act := oS (fPi g 31 3 3)) rfl rfl) (a_pi (zO_54 g))) ?_
  refine Eq.trans (Eq.trans (r_go (act := oS (fAld 32 0)) rfl rfl) (a_ald rfl)) ?_
  refine Eq.trans (Eq.trans (r_go (act := oS (fAld 33 1)) rfl rfl) (a_ald rfl)) ?_
  refine Eq.trans (Eq.trans (r_go (act := oS (fGi g 36 3 4)) rfl rfl) (a_giV (zO_7 g) rfl)) ?_
  refine Eq.trans (Eq.trans (r_go (act := oS (fPi g 39 3 4)) rfl rfl) (a_pi (zO_54 g))) ?_
  refine Eq.trans (Eq.trans (r_go (act := oS (fAld 40 0)) rfl rfl) (a_ald rfl)) ?_
  refine Eq.trans (Eq.trans (r_go (act := oS (fAld 41 1)) rfl rfl) (a_ald rfl)) ?_
  refine Eq.trans (Eq.trans (r_go (act := oS (fGi g 44 3 5)) rfl rfl) (a_giV (zO_7 g) rfl)) ?_
  refine Eq.trans (Eq.trans (r_go (act := oS (fPi g 47 3 5)) rfl rfl) (a_pi (zO_54 g))) ?_
  refine Eq.trans (Eq.trans (r_go (act := oS (fAld 48 0)) rfl rfl) (a_ald rfl)) ?_
  refine Eq.trans (Eq.trans (r_go (act := oS (fAld 49 1)) rfl rfl) (a_ald rfl)) ?_
  refine Eq.trans (Eq.trans (r_go (act := oS (fGi g 52 3 6)) rfl rfl) (a_giV (zO_7 g) rfl)) ?_
  refine Eq.trans (Eq.trans (r_go (act := oS (fPi g 55 3 6)) rfl rfl) (a_pi (zO_54 g))) ?_
  refine Eq.trans (Eq.trans (r_go (act := oS (fAld 56 0)) rfl rfl) (a_ald rfl)) ?_
  refine Eq.trans (Eq.trans (r_go (act := oS (fAld 57 1)) rfl rfl) (a_ald rfl)) ?_
  refine Eq.trans (Eq.trans (r_go (act := oS (fGi g 60 3 7)) rfl rfl) (a_giV (zO_7 g) rfl)) ?_
  refine Eq.trans (Eq.trans (r_go (act := oS (fPi g 63 3 7)) rfl rfl) (a_pi (zO_54 g))) ?_
  refine Eq.trans (Eq.trans (r_go (act := oS (fAld 64 0)) rfl rfl) (a_ald rfl)) ?_
  refine Eq.trans (Eq.trans (r_go (act := oS (fAld 65 1)) rfl rfl) (a_ald rfl)) ?_
  refine Eq.trans (Eq.trans (r_go (act := oS (fGi g 68 3 8)) rfl rfl) (a_giV (zO_7 g) rfl)) ?_
  refine Eq.trans (Eq.trans (r_go (act := oS (fPi g 71 3 8)) rfl rfl) (a_pi (zO_54 g))) ?_
  refine Eq.trans (Eq.trans (r_go (act := oS (fAld 72 0)) rfl rfl) (a_ald rfl)) ?_
  refine Eq.trans (Eq.trans (r_go (act := oS (fAld 73 1)) rfl rfl) (a_ald rfl)) ?_
  refine Eq.trans (Eq.trans (r_go (act := oS (fGi g 76 3 9)) rfl rfl) (a_giV (zO_7 g) rfl)) ?_
  refine Eq.trans (Eq.trans (r_go (act := oS (fPi g 79 3 9)) rfl rfl) (a_pi (zO_54 g))) ?_
  refine Eq.trans (Eq.trans (r_go (act := oS (fAld 80 0)) rfl rfl) (a_ald rfl)) ?_
  refine Eq.trans (Eq.trans (r_go (act := oS (fAld 81 1)) rfl rfl) (a_ald rfl)) ?_
  refine Eq.trans (Eq.trans (r_go (act := oS (fGi g 84 3 10)) rfl rfl) (a_giV (zO_7 g) rfl)) ?_
  refine Eq.trans (Eq.trans (r_go (act := oS (fPi g 87 3 10)) rfl rfl) (a_pi (zO_54 g))) ?_
  refine Eq.trans (Eq.trans (r_go (act := oS (fAld 88 0)) rfl rfl) (a_ald rfl)) ?_
  refine Eq.trans (Eq.trans (r_go (act := oS (fAld 89 1)) rfl rfl) (a_ald rfl)) ?_
  refine Eq.trans (Eq.trans (r_go (act := oS (fGi g 92 3 11)) rfl rfl) (a_giV (zO_7 g) rfl)) ?_
  refine Eq.trans (Eq.trans (r_go (act := oS (fPi g 95 3 11)) rfl rfl) (a_pi (zO_54 g))) ?_
  refine Eq.trans (Eq.trans (r_go (act := oS (fAld 96 0)) rfl rfl) (a_ald rfl)) ?_
  refine Eq.trans (Eq.trans (r_go (act := oS (fAld 97 1)) rfl rfl) (a_ald rfl)) ?_
  refine Eq.trans (Eq.trans (r_go (act := oS (fGi g 100 3 12)) rfl rfl) (a_giV (zO_7 g) rfl)) ?_
  refine Eq.trans (Eq.trans (r_go (act := oS (fPi g 103 3 12)) rfl rfl) (a_pi (zO_54 g))) ?_
  exact Eq.trans (r_go (act := oVret) rfl rfl) (a_vret)
theorem x_X3_take_0_6 (g : zg) (M : zM) : X_X3_take g [.ref 54, .ref 7] M = some (none, ((zu (zu (zu (zu (zu (zu (zu (zu (zu (zu (zu (zcp M.1 8 55 (zx 70)) 54 2 (M.1 7 2)) 54 3 (M.1 7 3)) 54 4 (M.1 7 4)) 54 5 (M.1 7 5)) 54 6 (M.1 7 6)) 54 7 (M.1 7 7)) 54 8 (M.1 7 8)) 54 9 (M.1 7 9)) 54 10 (M.1 7 10)) 54 11 (M.1 7 11)) 54 12 (M.1 7 12)), M.2)) := e_X3_take_0_6 g M
set_option maxRecDepth 20000 in
theorem e_X3_take_0_7 (g : zg) (M : zM) : zX (t_X3_take g) 0 [some (.ref 7), some (.ref 44)] [] M = some (none, ((zu (zu (zu (zu (zu (zu (zu (zu (zu (zu (zu (zcp M.1 45 8 (zx 70)) 7 2 (M.1 44 2)) 7 3 (M.1 44 3)) 7 4 (M.1 44 4)) 7 5 (M.1 44 5)) 7 6 (M.1 44 6)) 7 7 (M.1 44 7)) 7 8 (M.1 44 8)) 7 9 (M.1 44 9)) 7 10 (M.1 44 10)) 7 11 (M.1 44 11)) 7 12 (M.1 44 12)), M.2)) := by
  refine Eq.trans (zX_rgN (tl_X3_take g) (hc_X3_take g) 54 _ _ _ _) ?_
  refine Eq.trans (Eq.trans (r_0 (act := oS (fAld 1 1)) rfl) (a_ald rfl)) ?_
  refine Eq.trans (Eq.trans (r_go (act := oS (fGr g 4 3 1)) rfl rfl) (a_gr (zO_44 g) (zR_44_1 g))) ?_
  refine Eq.trans (Eq.trans (r_go (act := oS (fSt 5 (gC (.int 0)))) rfl rfl) (a_C)) ?_
  refine Eq.trans (Eq.trans (r_go (act := oS (fAld 6 0)) rfl rfl) (a_ald rfl)) ?_
  refine Eq.trans (Eq.trans (r_go (act := oS (fGr g 9 3 1)) rfl rfl) (a_gr (zO_7 g) (zR_7_1 g))) ?_
  refine Eq.trans (Eq.trans (r_go (act := oS (fSt 10 (gC (.int 0)))) rfl rfl) (a_C)) ?_
  refine Eq.trans (Eq.trans (r_go (act := oS (fSt 12 (gC (.int 70)))) rfl rfl) (a_C)) ?_
  refine Eq.trans (Eq.trans (r_go (act := oS (fCp g 15)) rfl rfl) (a_cp (zCp (zA_45 g) (zA_8 g) zS_45 zS_8 (by decide +kernel) (by decide +kernel) rfl))) ?_
  refine Eq.trans (Eq.trans (r_go (act := oS (fAld 16 0)) rfl rfl) (a_ald rfl)) ?_
  refine Eq.trans (Eq.trans (r_go (act := oS (fAld 17 1)) rfl rfl) (a_ald rfl)) ?_
  refine Eq.trans (Eq.trans (r_go (act := oS (fGi g 20 3 2)) rfl rfl) (a_giV (zO_44 g) rfl)) ?_
  refine Eq.trans (Eq.trans (r_go (act := oS (fPi g 23 3 2)) rfl rfl) (a_pi (zO_7 g))) ?_
  refine Eq.trans (Eq.trans (r_go (act := oS (fAld 24 0)) rfl rfl) (a_ald rfl)) ?_
  refine Eq.trans (Eq.trans (r_go (act := oS (fAld 25 1)) rfl rfl) (a_ald rfl)) ?_
  refine Eq.trans (Eq.trans (r_go (act := oS (fGi g 28 3 3)) rfl rfl) (a_giV (zO_44 g) rfl)) ?_
  refine Eq.trans (Eq.trans (r_go (act := oS (fPi g 31 3 3)) rfl rfl) (a_pi (zO_7 g))) ?_
  refine Eq.trans (Eq.trans (r_go (act := oS (fAld 32 0)) rfl rfl) (a_ald rfl)) ?_
  refine Eq.trans (Eq.trans (r_go (act := oS (fAld 33 1)) rfl rfl) (a_ald rfl)) ?_
  refine Eq.trans (Eq.trans (r_go (act := oS (fGi g 36 3 4)) rfl rfl) (a_giV (zO_44 g) rfl)) ?_
  refine Eq.trans (Eq.trans (r_go (act := oS (fPi g 39 3 4)) rfl rfl) (a_pi (zO_7 g))) ?_
  refine Eq.trans (Eq.trans (r_go (act := oS (fAld 40 0)) rfl rfl) (a_ald rfl)) ?_
  refine Eq.trans (Eq.trans (r_go (act := oS (fAld 41 1)) rfl rfl) (a_ald rfl)) ?_
  refine Eq.trans (Eq.trans (r_go (act := oS (fGi g 44 3 5)) rfl rfl) (a_giV (zO_44 g) rfl)) ?_
  refine Eq.trans (Eq.trans (r_go (act := oS (fPi g 47 3 5)) rfl rfl) (a_pi (zO_7 g))) ?_
  refine Eq.trans (Eq.trans (r_go (act := oS (fAld 48 0)) rfl rfl) (a_ald rfl)) ?_
  refine Eq.trans (Eq.trans (r_go (act := oS (fAld 49 1)) rfl rfl) (a_ald rfl)) ?_
  refine Eq.trans (Eq.trans (r_go (act := oS (fGi g 52 3 6)) rfl rfl) (a_giV (zO_44 g) rfl)) ?_
  refine Eq.trans (Eq.trans (r_go (act := oS (fPi g 55 3 6)) rfl rfl) (a_pi (zO_7 g))) ?_
  refine Eq.trans (Eq.trans (r_go (act := oS (fAld 56 0)) rfl rfl) (a_ald rfl)) ?_
  refine Eq.trans (Eq.trans (r_go (act := oS (fAld 57 1)) rfl rfl) (a_ald rfl)) ?_
  refine Eq.trans (Eq.trans (r_go (act := oS (fGi g 60 3 7)) rfl rfl) (a_giV (zO_44 g) rfl)) ?_
  refine Eq.trans (Eq.trans (r_go (act := oS (fPi g 63 3 7)) rfl rfl) (a_pi (zO_7 g))) ?_
  refine Eq.trans (Eq.trans (r_go (act := oS (fAld 64 0)) rfl rfl) (a_ald rfl)) ?_
  refine Eq.trans (Eq.trans (r_go (act := oS (fAld 65 1)) rfl rfl) (a_ald rfl)) ?_
  refine Eq.trans (Eq.trans (r_go (act := oS (fGi g 68 3 8)) rfl rfl) (a_giV (zO_44 g) rfl)) ?_
  refine Eq.trans (Eq.trans (r_go (act := oS (fPi g 71 3 8)) rfl rfl) (a_pi (zO_7 g))) ?_
  refine Eq.trans (Eq.trans (r_go (act := oS (fAld 72 0)) rfl rfl) (a_ald rfl)) ?_
  refine Eq.trans (Eq.trans (r_go (act := oS (fAld 73 1)) rfl rfl) (a_ald rfl)) ?_
  refine Eq.trans (Eq.trans (r_go (act := oS (fGi g 76 3 9)) rfl rfl) (a_giV (zO_44 g) rfl)) ?_
  refine Eq.trans (Eq.trans (r_go (act := oS (fPi g 79 3 9)) rfl rfl) (a_pi (zO_7 g))) ?_
  refine Eq.trans (Eq.trans (r_go (act := oS (fAld 80 0)) rfl rfl) (a_ald rfl)) ?_
  refine Eq.trans (Eq.trans (r_go (act := oS (fAld 81 1)) rfl rfl) (a_ald rfl)) ?_
  refine Eq.trans (Eq.trans (r_go (act := oS (fGi g 84 3 10)) rfl rfl) (a_giV (zO_44 g) rfl)) ?_
  refine Eq.trans (Eq.trans (r_go (act := oS (fPi g 87 3 10)) rfl rfl) (a_pi (zO_7 g))) ?_
  refine Eq.trans (Eq.trans (r_go (act := oS (fAld 88 0)) rfl rfl) (a_ald rfl)) ?_
  refine Eq.trans (Eq.trans (r_go (act := oS (fAld 89 1)) rfl rfl) (a_ald rfl)) ?_
  refine Eq.trans (Eq.trans (r_go (act := oS (fGi g 92 3 11)) rfl rfl) (a_giV (zO_44 g) rfl)) ?_
  refine Eq.trans (Eq.trans (r_go (act := oS (fPi g 95 3 11)) rfl rfl) (a_pi (zO_7 g))) ?_
  refine Eq.trans (Eq.trans (r_go (act := oS (fAld 96 0)) rfl rfl) (a_ald rfl)) ?_
  refine Eq.trans (Eq.trans (r_go (act := oS (fAld 97 1)) rfl rfl) (a_ald rfl)) ?_
  refine Eq.trans (Eq.trans (r_go (act := oS (fGi g 100 3 12)) rfl rfl) (a_giV (zO_44 g) rfl)) ?_
  refine Eq.trans (Eq.trans (r_go (act := oS (fPi g 103 3 12)) rfl rfl) (a_pi (zO_7 g))) ?_
  exact Eq.trans (r_go (act := oVret) rfl rfl) (a_vret)
theorem x_X3_take_0_7 (g : zg) (M : zM) : X_X3_take g [.ref 7, .ref 44] M = some (none, ((zu (zu (zu (zu (zu (zu (zu (zu (zu (zu (zu (zcp M.1 45 8 (zx 70)) 7 2 (M.1 44 2)) 7 3 (M.1 44 3)) 7 4 (M.1 44 4)) 7 5 (M.1 44 5)) 7 6 (M.1 44 6)) 7 7 (M.1 44 7)) 7 8 (M.1 44 8)) 7 9 (M.1 44 9)) 7 10 (M.1 44 10)) 7 11 (M.1 44 11)) 7 12 (M.1 44 12)), M.2)) := e_X3_take_0_7 g M
set_option maxRecDepth 20000 in
theorem e_X3_take_0_8 (g : zg) (M : zM) : zX (t_X3_take g) 0 [some (.ref 7), some (.ref 46)] [] M = some (none, ((zu (zu (zu (zu (zu (zu (zu (zu (zu (zu (zu (zcp M.1 47 8 (zx 70)) 7 2 (M.1 46 2)) 7 3 (M.1 46 3)) 7 4 (M.1 46 4)) 7 5 (M.1 46 5)) 7 6 (M.1 46 6)) 7 7 (M.1 46 7)) 7 8 (M.1 46 8)) 7 9 (M.1 46 9)) 7 10 (M.1 46 10)) 7 11 (M.1 46 11)) 7 12 (M.1 46 12)), M.2)) := by
  refine Eq.trans (zX_rgN (tl_X3_take g) (hc_X3_take g) 54 _ _ _ _) ?_
  refine Eq.trans (Eq.trans (r_0 (act := oS (fAld 1 1)) rfl) (a_ald rfl)) ?_
  refine Eq.trans (Eq.trans (r_go (act := oS (fGr g 4 3 1)) rfl rfl) (a_gr (zO_46 g) (zR_46_1 g))) ?_
  refine Eq.trans (Eq.trans (r_go (act := oS (fSt 5 (gC (.int 0)))) rfl rfl) (a_C)) ?_
  refine Eq.trans (Eq.trans (r_go (act := oS (fAld 6 0)) rfl rfl) (a_ald rfl)) ?_
  refine Eq.trans (Eq.trans (r_go (act := oS (fGr g 9 3 1)) rfl rfl) (a_gr (zO_7 g) (zR_7_1 g))) ?_
  refine Eq.trans (Eq.trans (r_go (act := oS (fSt 10 (gC (.int 0)))) rfl rfl) (a_C)) ?_
  refine Eq.trans (Eq.trans (r_go (act := oS (fSt 12 (gC (.int 70)))) rfl rfl) (a_C)) ?_
  refine Eq.trans (Eq.trans (r_go (act := oS (fCp g 15)) rfl rfl) (a_cp (zCp (zA_47 g) (zA_8 g) zS_47 zS_8 (by decide +kernel) (by decide +kernel) rfl))) ?_
  refine Eq.trans (Eq.trans (r_go (act := oS (fAld 16 0)) rfl rfl) (a_ald rfl)) ?_
  refine Eq.trans (Eq.trans (r_go (act := oS (fAld 17 1)) rfl rfl) (a_ald rfl)) ?_
  refine Eq.trans (Eq.trans (r_go (act := oS (fGi g 20 3 2)) rfl rfl) (a_giV (zO_46 g) rfl)) ?_
  refine Eq.trans (Eq.trans (r_go (act := oS (fPi g 23 3 2)) rfl rfl) (a_pi (zO_7 g))) ?_
  refine Eq.trans (Eq.trans (r_go (act := oS (fAld 24 0)) rfl rfl) (a_ald rfl)) ?_
  refine Eq.trans (Eq.trans (r_go (act := oS (fAld 25 1)) rfl rfl) (a_ald rfl)) ?_
  refine Eq.trans (Eq.trans (r_go (act := oS (fGi g 28 3 3)) rfl rfl) (a_giV (zO_46 g) rfl)) ?_
  refine Eq.trans (Eq.trans (r_go (act := oS (fPi g 31 3 3)) rfl rfl) (a_pi (zO_7 g))) ?_
  refine Eq.trans (Eq.trans (r_go (act := oS (fAld 32 0)) rfl rfl) (a_ald rfl)) ?_
  refine Eq.trans (Eq.trans (r_go (act := oS (fAld 33 1)) rfl rfl) (a_ald rfl)) ?_
  refine Eq.trans (Eq.trans (r_go (act := oS (fGi g 36 3 4)) rfl rfl) (a_giV (zO_46 g) rfl)) ?_
  refine Eq.trans (Eq.trans (r_go (act := oS (fPi g 39 3 4)) rfl rfl) (a_pi (zO_7 g))) ?_
  refine Eq.trans (Eq.trans (r_go (act := oS (fAld 40 0)) rfl rfl) (a_ald rfl)) ?_
  refine Eq.trans (Eq.trans (r_go (act := oS (fAld 41 1)) rfl rfl) (a_ald rfl)) ?_
  refine Eq.trans (Eq.trans (r_go (act := oS (fGi g 44 3 5)) rfl rfl) (a_giV (zO_46 g) rfl)) ?_
  refine Eq.trans (Eq.trans (r_go (act := oS (fPi g 47 3 5)) rfl rfl) (a_pi (zO_7 g))) ?_
  refine Eq.trans (Eq.trans (r_go (act := oS (fAld 48 0)) rfl rfl) (a_ald rfl)) ?_
  refine Eq.trans (Eq.trans (r_go (act := oS (fAld 49 1)) rfl rfl) (a_ald rfl)) ?_
  refine Eq.trans (Eq.trans (r_go (act := oS (fGi g 52 3 6)) rfl rfl) (a_giV (zO_46 g) rfl)) ?_
  refine Eq.trans (Eq.trans (r_go (act := oS (fPi g 55 3 6)) rfl rfl) (a_pi (zO_7 g))) ?_
  refine Eq.trans (Eq.trans (r_go (act := oS (fAld 56 0)) rfl rfl) (a_ald rfl)) ?_
  refine Eq.trans (Eq.trans (r_go (act := oS (fAld 57 1)) rfl rfl) (a_ald rfl)) ?_
  refine Eq.trans (Eq.trans (r_go (act := oS (fGi g 60 3 7)) rfl rfl) (a_giV (zO_46 g) rfl)) ?_
  refine Eq.trans (Eq.trans (r_go (act := oS (fPi g 63 3 7)) rfl rfl) (a_pi (zO_7 g))) ?_
  refine Eq.trans (Eq.trans (r_go (act := oS (fAld 64 0)) rfl rfl) (a_ald rfl)) ?_
  refine Eq.trans (Eq.trans (r_go (act := oS (fAld 65 1)) rfl rfl) (a_ald rfl)) ?_
  refine Eq.trans (Eq.trans (r_go (act := oS (fGi g 68 3 8)) rfl rfl) (a_giV (zO_46 g) rfl)) ?_
  refine Eq.trans (Eq.trans (r_go (act := oS (fPi g 71 3 8)) rfl rfl) (a_pi (zO_7 g))) ?_
  refine Eq.trans (Eq.trans (r_go (act := oS (fAld 72 0)) rfl rfl) (a_ald rfl)) ?_
  refine Eq.trans (Eq.trans (r_go (act := oS (fAld 73 1)) rfl rfl) (a_ald rfl)) ?_
  refine Eq.trans (Eq.trans (r_go (act := oS (fGi g 76 3 9)) rfl rfl) (a_giV (zO_46 g) rfl)) ?_
  refine Eq.trans (Eq.trans (r_go (act := oS (fPi g 79 3 9)) rfl rfl) (a_pi (zO_7 g))) ?_
  refine Eq.trans (Eq.trans (r_go (act := oS (fAld 80 0)) rfl rfl) (a_ald rfl)) ?_
  refine Eq.trans (Eq.trans (r_go (act := oS (fAld 81 1)) rfl rfl) (a_ald rfl)) ?_
  refine Eq.trans (Eq.trans (r_go (act := oS (fGi g 84 3 10)) rfl rfl) (a_giV (zO_46 g) rfl)) ?_
  refine Eq.trans (Eq.trans (r_go (act := oS (fPi g 87 3 10)) rfl rfl) (a_pi (zO_7 g))) ?_
  refine Eq.trans (Eq.trans (r_go (act := oS (fAld 88 0)) rfl rfl) (a_ald rfl)) ?_
  refine Eq.trans (Eq.trans (r_go (act := oS (fAld 89 1)) rfl rfl) (a_ald rfl)) ?_
  refine Eq.trans (Eq.trans (r_go (act := oS (fGi g 92 3 11)) rfl rfl) (a_giV (zO_46 g) rfl)) ?_
  refine Eq.trans (Eq.trans (r_go (act := oS (fPi g 95 3 11)) rfl rfl) (a_pi (zO_7 g))) ?_
  refine Eq.trans (Eq.trans (r_go (act := oS (fAld 96 0)) rfl rfl) (a_ald rfl)) ?_
  refine Eq.trans (Eq.trans (r_go (act := oS (fAld 97 1)) rfl rfl) (a_ald rfl)) ?_
  refine Eq.trans (Eq.trans (r_go (act := oS (fGi g 100 3 12)) rfl rfl) (a_giV (zO_46 g) rfl)) ?_
  refine Eq.trans (Eq.trans (r_go (act := oS (fPi g 103 3 12)) rfl rfl) (a_pi (zO_7 g))) ?_
  exact Eq.trans (r_go (act := oVret) rfl rfl) (a_vret)
theorem x_X3_take_0_8 (g : zg) (M : zM) : X_X3_take g [.ref 7, .ref 46] M = some (none, ((zu (zu (zu (zu (zu (zu (zu (zu (zu (zu (zu (zcp M.1 47 8 (zx 70)) 7 2 (M.1 46 2)) 7 3 (M.1 46 3)) 7 4 (M.1 46 4)) 7 5 (M.1 46 5)) 7 6 (M.1 46 6)) 7 7 (M.1 46 7)) 7 8 (M.1 46 8)) 7 9 (M.1 46 9)) 7 10 (M.1 46 10)) 7 11 (M.1 46 11)) 7 12 (M.1 46 12)), M.2)) := e_X3_take_0_8 g M
set_option maxRecDepth 20000 in
theorem e_X3_take_0_9 (g : zg) (M : zM) : zX (t_X3_take g) 0 [some (.ref 7), some (.ref 48)] [] M = some (none, ((zu (zu (zu (zu (zu (zu (zu (zu (zu (zu (zu (zcp M.1 49 8 (zx 70)) 7 2 (M.1 48 2)) 7 3 (M.1 48 3)) 7 4 (M.1 48 4)) 7 5 (M.1 48 5)) 7 6 (M.1 48 6)) 7 7 (M.1 48 7)) 7 8 (M.1 48 8)) 7 9 (M.1 48 9)) 7 10 (M.1 48 10)) 7 11 (M.1 48 11)) 7 12 (M.1 48 12)), M.2)) := by
  refine Eq.trans (zX_rgN (tl_X3_take g) (hc_X3_take g) 54 _ _ _ _) ?_
  refine Eq.trans (Eq.trans (r_0 (act := oS (fAld 1 1)) rfl) (a_ald rfl)) ?_
  refine Eq.trans (Eq.trans (r_go (act := oS (fGr g 4 3 1)) rfl rfl) (a_gr (zO_48 g) (zR_48_1 g))) ?_
  refine Eq.trans (Eq.trans (r_go (act := oS (fSt 5 (gC (.int 0)))) rfl rfl) (a_C)) ?_
  refine Eq.trans (Eq.trans (r_go (act := oS (fAld 6 0)) rfl rfl) (a_ald rfl)) ?_
  refine Eq.trans (Eq.trans (r_go (act := oS (fGr g 9 3 1)) rfl rfl) (a_gr (zO_7 g) (zR_7_1 g))) ?_
  refine Eq.trans (Eq.trans (r_go (act := oS (fSt 10 (gC (.int 0)))) rfl rfl) (a_C)) ?_
  refine Eq.trans (Eq.trans (r_go (act := oS (fSt 12 (gC (.int 70)))) rfl rfl) (a_C)) ?_
  refine Eq.trans (Eq.trans (r_go (act := oS (fCp g 15)) rfl rfl) (a_cp (zCp (zA_49 g) (zA_8 g) zS_49 zS_8 (by decide +kernel) (by decide +kernel) rfl))) ?_
  refine Eq.trans (Eq.trans (r_go (act := oS (fAld 16 0)) rfl rfl) (a_ald rfl)) ?_
  refine Eq.trans (Eq.trans (r_go (act := oS (fAld 17 1)) rfl rfl) (a_ald rfl)) ?_
  refine Eq.trans (Eq.trans (r_go (act := oS (fGi g 20 3 2)) rfl rfl) (a_giV (zO_48 g) rfl)) ?_
  refine Eq.trans (Eq.trans (r_go (act := oS (fPi g 23 3 2)) rfl rfl) (a_pi (zO_7 g))) ?_
  refine Eq.trans (Eq.trans (r_go (act := oS (fAld 24 0)) rfl rfl) (a_ald rfl)) ?_
  refine Eq.trans (Eq.trans (r_go (act := oS (fAld 25 1)) rfl rfl) (a_ald rfl)) ?_
  refine Eq.trans (Eq.trans (r_go (act := oS (fGi g 28 3 3)) rfl rfl) (a_giV (zO_48 g) rfl)) ?_
  refine Eq.trans (Eq.trans (r_go (act := oS (fPi g 31 3 3)) rfl rfl) (a_pi (zO_7 g))) ?_
  refine Eq.trans (Eq.trans (r_go (act := oS (fAld 32 0)) rfl rfl) (a_ald rfl)) ?_
  refine Eq.trans (Eq.trans (r_go (act := oS (fAld 33 1)) rfl rfl) (a_ald rfl)) ?_
  refine Eq.trans (Eq.trans (r_go (act := oS (fGi g 36 3 4)) rfl rfl) (a_giV (zO_48 g) rfl)) ?_
  refine Eq.trans (Eq.trans (r_go (act := oS (fPi g 39 3 4)) rfl rfl) (a_pi (zO_7 g))) ?_
  refine Eq.trans (Eq.trans (r_go (act := oS (fAld 40 0)) rfl rfl) (a_ald rfl)) ?_
  refine Eq.trans (Eq.trans (r_go (act := oS (fAld 41 1)) rfl rfl) (a_ald rfl)) ?_
  refine Eq.trans (Eq.trans (r_go (act := oS (fGi g 44 3 5)) rfl rfl) (a_giV (zO_48 g) rfl)) ?_
  refine Eq.trans (Eq.trans (r_go (act := oS (fPi g 47 3 5)) rfl rfl) (a_pi (zO_7 g))) ?_
  refine Eq.trans (Eq.trans (r_go (act := oS (fAld 48 0)) rfl rfl) (a_ald rfl)) ?_
  refine Eq.trans (Eq.trans (r_go (act := oS (fAld 49 1)) rfl rfl) (a_ald rfl)) ?_
  refine Eq.trans (Eq.trans (r_go (act := oS (fGi g 52 3 6)) rfl rfl) (a_giV (zO_48 g) rfl)) ?_
  refine Eq.trans (Eq.trans (r_go (act := oS (fPi g 55 3 6)) rfl rfl) (a_pi (zO_7 g))) ?_
  refine Eq.trans (Eq.trans (r_go (act := oS (fAld 56 0)) rfl rfl) (a_ald rfl)) ?_
  refine Eq.trans (Eq.trans (r_go (act := oS (fAld 57 1)) rfl rfl) (a_ald rfl)) ?_
  refine Eq.trans (Eq.trans (r_go (act := oS (fGi g 60 3 7)) rfl rfl) (a_giV (zO_48 g) rfl)) ?_
  refine Eq.trans (Eq.trans (r_go (act := oS (fPi g 63 3 7)) rfl rfl) (a_pi (zO_7 g))) ?_
  refine Eq.trans (Eq.trans (r_go (act := oS (fAld 64 0)) rfl rfl) (a_ald rfl)) ?_
  refine Eq.trans (Eq.trans (r_go (act := oS (fAld 65 1)) rfl rfl) (a_ald rfl)) ?_
  refine Eq.trans (Eq.trans (r_go (act := oS (fGi g 68 3 8)) rfl rfl) (a_giV (zO_48 g) rfl)) ?_
  refine Eq.trans (Eq.trans (r_go (act := oS (fPi g 71 3 8)) rfl rfl) (a_pi (zO_7 g))) ?_
  refine Eq.trans (Eq.trans (r_go (act := oS (fAld 72 0)) rfl rfl) (a_ald rfl)) ?_
  refine Eq.trans (Eq.trans (r_go (act := oS (fAld 73 1)) rfl rfl) (a_ald rfl)) ?_
  refine Eq.trans (Eq.trans (r_go (act := oS (fGi g 76 3 9)) rfl rfl) (a_giV (zO_48 g) rfl)) ?_
  refine Eq.trans (Eq.trans (r_go (act := oS (fPi g 79 3 9)) rfl rfl) (a_pi (zO_7 g))) ?_
  refine Eq.trans (Eq.trans (r_go (act := oS (fAld 80 0)) rfl rfl) (a_ald rfl)) ?_
  refine Eq.trans (Eq.trans (r_go (act := oS (fAld 81 1)) rfl rfl) (a_ald rfl)) ?_
  refine Eq.trans (Eq.trans (r_go (act := oS (fGi g 84 3 10)) rfl rfl) (a_giV (zO_48 g) rfl)) ?_
  refine Eq.trans (Eq.trans (r_go (act := oS (fPi g 87 3 10)) rfl rfl) (a_pi (zO_7 g))) ?_
  refine Eq.trans (Eq.trans (r_go (act := oS (fAld 88 0)) rfl rfl) (a_ald rfl)) ?_
  refine Eq.trans (Eq.trans (r_go (act := oS (fAld 89 1)) rfl rfl) (a_ald rfl)) ?_
  refine Eq.trans (Eq.trans (r_go (act := oS (fGi g 92 3 11)) rfl rfl) (a_giV (zO_48 g) rfl)) ?_
  refine Eq.trans (Eq.trans (r_go (act := oS (fPi g 95 3 11)) rfl rfl) (a_pi (zO_7 g))) ?_
  refine Eq.trans (Eq.trans (r_go (act := oS (fAld 96 0)) rfl rfl) (a_ald rfl)) ?_
  refine Eq.trans (Eq.trans (r_go (act := oS (fAld 97 1)) rfl rfl) (a_ald rfl)) ?_
  refine Eq.trans (Eq.trans (r_go (act := oS (fGi g 100 3 12)) rfl rfl) (a_giV (zO_48 g) rfl)) ?_
  refine Eq.trans (Eq.trans (r_go (act := oS (fPi g 103 3 12)) rfl rfl) (a_pi (zO_7 g))) ?_
  exact Eq.trans (r_go (act := oVret) rfl rfl) (a_vret)
theorem x_X3_take_0_9 (g : zg) (M : zM) : X_X3_take g [.ref 7, .ref 48] M = some (none, ((zu (zu (zu (zu (zu (zu (zu (zu (zu (zu (zu (zcp M.1 49 8 (zx 70)) 7 2 (M.1 48 2)) 7 3 (M.1 48 3)) 7 4 (M.1 48 4)) 7 5 (M.1 48 5)) 7 6 (M.1 48 6)) 7 7 (M.1 48 7)) 7 8 (M.1 48 8)) 7 9 (M.1 48 9)) 7 10 (M.1 48 10)) 7 11 (M.1 48 11)) 7 12 (M.1 48 12)), M.2)) := e_X3_take_0_9 g M
set_option maxRecDepth 20000 in
theorem e_X3_take_0_10 (g : zg) (M : zM) : zX (t_X3_take g) 0 [some (.ref 7), some (.ref 50)] [] M = some (none, ((zu (zu (zu (zu (zu (zu (zu (zu (zu (zu (zu (zcp M.1 51 8 (zx 70)) 7 2 (M.1 50 2)) 7 3 (M.1 50 3)) 7 4 (M.1 50 4)) 7 5 (M.1 50 5)) 7 6 (M.1 50 6)) 7 7 (M.1 50 7)) 7 8 (M.1 50 8)) 7 9 (M.1 50 9)) 7 10 (M.1 50 10)) 7 11 (M.1 50 11)) 7 12 (M.1 50 12)), M.2)) := by
  refine Eq.trans (zX_rgN (tl_X3_take g) (hc_X3_take g) 54 _ _ _ _) ?_
  refine Eq.trans (Eq.trans (r_0 (act := oS (fAld 1 1)) rfl) (a_ald rfl)) ?_
  refine Eq.trans (Eq.trans (r_go (act := oS (fGr g 4 3 1)) rfl rfl) (a_gr (zO_50 g) (zR_50_1 g))) ?_
  refine Eq.trans (Eq.trans (r_go (act := oS (fSt 5 (gC (.int 0)))) rfl rfl) (a_C)) ?_
  refine Eq.trans (Eq.trans (r_go (act := oS (fAld 6 0)) rfl rfl) (a_ald rfl)) ?_
  refine Eq.trans (Eq.trans (r_go (act := oS (fGr g 9 3 1)) rfl rfl) (a_gr (zO_7 g) (zR_7_1 g))) ?_
  refine Eq.trans (Eq.trans (r_go (act := oS (fSt 10 (gC (.int 0)))) rfl rfl) (a_C)) ?_
  refine Eq.trans (Eq.trans (r_go (act := oS (fSt 12 (gC (.int 70)))) rfl rfl) (a_C)) ?_
  refine Eq.trans (Eq.trans (r_go (act := oS (fCp g 15)) rfl rfl) (a_cp (zCp (zA_51 g) (zA_8 g) zS_51 zS_8 (by decide +kernel) (by decide +kernel) rfl))) ?_
  refine Eq.trans (Eq.trans (r_go (act := oS (fAld 16 0)) rfl rfl) (a_ald rfl)) ?_
  refine Eq.trans (Eq.trans (r_go (act := oS (fAld 17 1)) rfl rfl) (a_ald rfl)) ?_
  refine Eq.trans (Eq.trans (r_go (act := oS (fGi g 20 3 2)) rfl rfl) (a_giV (zO_50 g) rfl)) ?_
  refine Eq.trans (Eq.trans (r_go (act := oS (fPi g 23 3 2)) rfl rfl) (a_pi (zO_7 g))) ?_
  refine Eq.trans (Eq.trans (r_go (act := oS (fAld 24 0)) rfl rfl) (a_ald rfl)) ?_
  refine Eq.trans (Eq.trans (r_go (act := oS (fAld 25 1)) rfl rfl) (a_ald rfl)) ?_
  refine Eq.trans (Eq.trans (r_go (act := oS (fGi g 28 3 3)) rfl rfl) (a_giV (zO_50 g) rfl)) ?_
  refine Eq.trans (Eq.trans (r_go (act := oS (fPi g 31 3 3)) rfl rfl) (a_pi (zO_7 g))) ?_
  refine Eq.trans (Eq.trans (r_go (act := oS (fAld 32 0)) rfl rfl) (a_ald rfl)) ?_
  refine Eq.trans (Eq.trans (r_go (act := oS (fAld 33 1)) rfl rfl) (a_ald rfl)) ?_
  refine Eq.trans (Eq.trans (r_go (act := oS (fGi g 36 3 4)) rfl rfl) (a_giV (zO_50 g) rfl)) ?_
  refine Eq.trans (Eq.trans (r_go (act := oS (fPi g 39 3 4)) rfl rfl) (a_pi (zO_7 g))) ?_
  refine Eq.trans (Eq.trans (r_go (act := oS (fAld 40 0)) rfl rfl) (a_ald rfl)) ?_
  refine Eq.trans (Eq.trans (r_go (act := oS (fAld 41 1)) rfl rfl) (a_ald rfl)) ?_
  refine Eq.trans (Eq.trans (r_go (act := oS (fGi g 44 3 5)) rfl rfl) (a_giV (zO_50 g) rfl)) ?_
  refine Eq.trans (Eq.trans (r_go (act := oS (fPi g 47 3 5)) rfl rfl) (a_pi (zO_7 g))) ?_
  refine Eq.trans (Eq.trans (r_go (act := oS (fAld 48 0)) rfl rfl) (a_ald rfl)) ?_
  refine Eq.trans (Eq.trans (r_go (act := oS (fAld 49 1)) rfl rfl) (a_ald rfl)) ?_
  refine Eq.trans (Eq.trans (r_go (act := oS (fGi g 52 3 6)) rfl rfl) (a_giV (zO_50 g) rfl)) ?_
  refine Eq.trans (Eq.trans (r_go (act := oS (fPi g 55 3 6)) rfl rfl) (a_pi (zO_7 g))) ?_
  refine Eq.trans (Eq.trans (r_go (act := oS (fAld 56 0)) rfl rfl) (a_ald rfl)) ?_
  refine Eq.trans (Eq.trans (r_go (act := oS (fAld 57 1)) rfl rfl) (a_ald rfl)) ?_
  refine Eq.trans (Eq.trans (r_go (act := oS (fGi g 60 3 7)) rfl rfl) (a_giV (zO_50 g) rfl)) ?_
  refine Eq.trans (Eq.trans (r_go (act := oS (fPi g 63 3 7)) rfl rfl) (a_pi (zO_7 g))) ?_
  refine Eq.trans (Eq.trans (r_go (act := oS (fAld 64 0)) rfl rfl) (a_ald rfl)) ?_
  refine Eq.trans (Eq.trans (r_go (act := oS (fAld 65 1)) rfl rfl) (a_ald rfl)) ?_
  refine Eq.trans (Eq.trans (r_go (act := oS (fGi g 68 3 8)) rfl rfl) (a_giV (zO_50 g) rfl)) ?_
  refine Eq.trans (Eq.trans (r_go (act := oS (fPi g 71 3 8)) rfl rfl) (a_pi (zO_7 g))) ?_
  refine Eq.trans (Eq.trans (r_go (act := oS (fAld 72 0)) rfl rfl) (a_ald rfl)) ?_
  refine Eq.trans (Eq.trans (r_go (act := oS (fAld 73 1)) rfl rfl) (a_ald rfl)) ?_
  refine Eq.trans (Eq.trans (r_go (act := oS (fGi g 76 3 9)) rfl rfl) (a_giV (zO_50 g) rfl)) ?_
  refine Eq.trans (Eq.trans (r_go (act := oS (fPi g 79 3 9)) rfl rfl) (a_pi (zO_7 g))) ?_
  refine Eq.trans (Eq.trans (r_go (act := oS (fAld 80 0)) rfl rfl) (a_ald rfl)) ?_
  refine Eq.trans (Eq.trans (r_go (act := oS (fAld 81 1)) rfl rfl) (a_ald rfl)) ?_
  refine Eq.trans (Eq.trans (r_go (act := oS (fGi g 84 3 10)) rfl rfl) (a_giV (zO_50 g) rfl)) ?_
  refine Eq.trans (Eq.trans (r_go (act := oS (fPi g 87 3 10)) rfl rfl) (a_pi (zO_7 g))) ?_
  refine Eq.trans (Eq.trans (r_go (act := oS (fAld 88 0)) rfl rfl) (a_ald rfl)) ?_
  refine Eq.trans (Eq.trans (r_go (act := oS (fAld 89 1)) rfl rfl) (a_ald rfl)) ?_
  refine Eq.trans (Eq.trans (r_go (act := oS (fGi g 92 3 11)) rfl rfl) (a_giV (zO_50 g) rfl)) ?_
  refine Eq.trans (Eq.trans (r_go (act := oS (fPi g 95 3 11)) rfl rfl) (a_pi (zO_7 g))) ?_
  refine Eq.trans (Eq.trans (r_go (act := oS (fAld 96 0)) rfl rfl) (a_ald rfl)) ?_
  refine Eq.trans (Eq.trans (r_go (act := oS (fAld 97 1)) rfl rfl) (a_ald rfl)) ?_
  refine Eq.trans (Eq.trans (r_go (act := oS (fGi g 100 3 12)) rfl rfl) (a_giV (zO_50 g) rfl)) ?_
  refine Eq.trans (Eq.trans (r_go (act := oS (fPi g 103 3 12)) rfl rfl) (a_pi (zO_7 g))) ?_
  exact Eq.trans (r_go (act := oVret) rfl rfl) (a_vret)
theorem x_X3_take_0_10 (g : zg) (M : zM) : X_X3_take g [.ref 7, .ref 50] M = some (none, ((zu (zu (zu (zu (zu (zu (zu (zu (zu (zu (zu (zcp M.1 51 8 (zx 70)) 7 2 (M.1 50 2)) 7 3 (M.1 50 3)) 7 4 (M.1 50 4)) 7 5 (M.1 50 5)) 7 6 (M.1 50 6)) 7 7 (M.1 50 7)) 7 8 (M.1 50 8)) 7 9 (M.1 50 9)) 7 10 (M.1 50 10)) 7 11 (M.1 50 11)) 7 12 (M.1 50 12)), M.2)) := e_X3_take_0_10 g M
set_option maxRecDepth 20000 in
theorem e_X3_take_0_11 (g : zg) (M : zM) : zX (t_X3_take g) 0 [some (.ref 7), some (.ref 52)] [] M = some (none, ((zu (zu (zu (zu (zu (zu (zu (zu (zu (zu (zu (zcp M.1 53 8 (zx 70)) 7 2 (M.1 52 2)) 7 3 (M.1 52 3)) 7 4 (M.1 52 4)) 7 5 (M.1 52 5)) 7 6 (M.1 52 6)) 7 7 (M.1 52 7)) 7 8 (M.1 52 8)) 7 9 (M.1 52 9)) 7 10 (M.1 52 10)) 7 11 (M.1 52 11)) 7 12 (M.1 52 12)), M.2)) := by
  refine Eq.trans (zX_rgN (tl_X3_take g) (hc_X3_take g) 54 _ _ _ _) ?_
  refine Eq.trans (Eq.trans (r_0 (act := oS (fAld 1 1)) rfl) (a_ald rfl)) ?_
  refine Eq.trans (Eq.trans (r_go (act := oS (fGr g 4 3 1)) rfl rfl) (a_gr (zO_52 g) (zR_52_1 g))) ?_
  refine Eq.trans (Eq.trans (r_go (act := oS (fSt 5 (gC (.int 0)))) rfl rfl) (a_C)) ?_
  refine Eq.trans (Eq.trans (r_go (act := oS (fAld 6 0)) rfl rfl) (a_ald rfl)) ?_
  refine Eq.trans (Eq.trans (r_go (act := oS (fGr g 9 3 1)) rfl rfl) (a_gr (zO_7 g) (zR_7_1 g))) ?_
  refine Eq.trans (Eq.trans (r_go (act := oS (fSt 10 (gC (.int 0)))) rfl rfl) (a_C)) ?_
  refine Eq.trans (Eq.trans (r_go (act := oS (fSt 12 (gC (.int 70)))) rfl rfl) (a_C)) ?_
  refine Eq.trans (Eq.trans (r_go (act := oS (fCp g 15)) rfl rfl) (a_cp (zCp (zA_53 g) (zA_8 g) zS_53 zS_8 (by decide +kernel) (by decide +kernel) rfl))) ?_
  refine Eq.trans (Eq.trans (r_go (act := oS (fAld 16 0)) rfl rfl) (a_ald rfl)) ?_
  refine Eq.trans (Eq.trans (r_go (act := oS (fAld 17 1)) rfl rfl) (a_ald rfl)) ?_
  refine Eq.trans (Eq.trans (r_go (act := oS (fGi g 20 3 2)) rfl rfl) (a_giV (zO_52 g) rfl)) ?_
  refine Eq.trans (Eq.trans (r_go (act := oS (fPi g 23 3 2)) rfl rfl) (a_pi (zO_7 g))) ?_
  refine Eq.trans (Eq.trans (r_go (act := oS (fAld 24 0)) rfl rfl) (a_ald rfl)) ?_
  refine Eq.trans (Eq.trans (r_go (act := oS (fAld 25 1)) rfl rfl) (a_ald rfl)) ?_
  refine Eq.trans (Eq.trans (r_go (act := oS (fGi g 28 3 3)) rfl rfl) (a_giV (zO_52 g) rfl)) ?_
  refine Eq.trans (Eq.trans (r_go (act := oS (fPi g 31 3 3)) rfl rfl) (a_pi (zO_7 g))) ?_
  refine Eq.trans (Eq.trans (r_go (act := oS (fAld 32 0)) rfl rfl) (a_ald rfl)) ?_
  refine Eq.trans (Eq.trans (r_go (act := oS (fAld 33 1)) rfl rfl) (a_ald rfl)) ?_
  refine Eq.trans (Eq.trans (r_go (act := oS (fGi g 36 3 4)) rfl rfl) (a_giV (zO_52 g) rfl)) ?_
  refine Eq.trans (Eq.trans (r_go (act := oS (fPi g 39 3 4)) rfl rfl) (a_pi (zO_7 g))) ?_
  refine Eq.trans (Eq.trans (r_go (act := oS (fAld 40 0)) rfl rfl) (a_ald rfl)) ?_
  refine Eq.trans (Eq.trans (r_go (act := oS (fAld 41 1)) rfl rfl) (a_ald rfl)) ?_
  refine Eq.trans (Eq.trans (r_go (act := oS (fGi g 44 3 5)) rfl rfl) (a_giV (zO_52 g) rfl)) ?_
  refine Eq.trans (Eq.trans (r_go (act := oS (fPi g 47 3 5)) rfl rfl) (a_pi (zO_7 g))) ?_
  refine Eq.trans (Eq.trans (r_go (act := oS (fAld 48 0)) rfl rfl) (a_ald rfl)) ?_
  refine Eq.trans (Eq.trans (r_go (act := oS (fAld 49 1)) rfl rfl) (a_ald rfl)) ?_
  refine Eq.trans (Eq.trans (r_go (act := oS (fGi g 52 3 6)) rfl rfl) (a_giV (zO_52 g) rfl)) ?_
  refine Eq.trans (Eq.trans (r_go (act := oS (fPi g 55 3 6)) rfl rfl) (a_pi (zO_7 g))) ?_
  refine Eq.trans (Eq.trans (r_go (act := oS (fAld 56 0)) rfl rfl) (a_ald rfl)) ?_
  refine Eq.trans (Eq.trans (r_go (act := oS (fAld 57 1)) rfl rfl) (a_ald rfl)) ?_
  refine Eq.trans (Eq.trans (r_go (act := oS (fGi g 60 3 7)) rfl rfl) (a_giV (zO_52 g) rfl)) ?_
  refine Eq.trans (Eq.trans (r_go (act := oS (fPi g 63 3 7)) rfl rfl) (a_pi (zO_7 g))) ?_
  refine Eq.trans (Eq.trans (r_go (act := oS (fAld 64 0)) rfl rfl) (a_ald rfl)) ?_
  refine Eq.trans (Eq.trans (r_go (act := oS (fAld 65 1)) rfl rfl) (a_ald rfl)) ?_
  refine Eq.trans (Eq.trans (r_go (act := oS (fGi g 68 3 8)) rfl rfl) (a_giV (zO_52 g) rfl)) ?_
  refine Eq.trans (Eq.trans (r_go (act := oS (fPi g 71 3 8)) rfl rfl) (a_pi (zO_7 g))) ?_
  refine Eq.trans (Eq.trans (r_go (act := oS (fAld 72 0)) rfl rfl) (a_ald rfl)) ?_
  refine Eq.trans (Eq.trans (r_go (act := oS (fAld 73 1)) rfl rfl) (a_ald rfl)) ?_
  refine Eq.trans (Eq.trans (r_go (act := oS (fGi g 76 3 9)) rfl rfl) (a_giV (zO_52 g) rfl)) ?_
  refine Eq.trans (Eq.trans (r_go (act := oS (fPi g 79 3 9)) rfl rfl) (a_pi (zO_7 g))) ?_
  refine Eq.trans (Eq.trans (r_go (act := oS (fAld 80 0)) rfl rfl) (a_ald rfl)) ?_
  refine Eq.trans (Eq.trans (r_go (act := oS (fAld 81 1)) rfl rfl) (a_ald rfl)) ?_
  refine Eq.trans (Eq.trans (r_go (act := oS (fGi g 84 3 10)) rfl rfl) (a_giV (zO_52 g) rfl)) ?_
  refine Eq.trans (Eq.trans (r_go (act := oS (fPi g 87 3 10)) rfl rfl) (a_pi (zO_7 g))) ?_
  refine Eq.trans (Eq.trans (r_go (act := oS (fAld 88 0)) rfl rfl) (a_ald rfl)) ?_
  refine Eq.trans (Eq.trans (r_go (act := oS (fAld 89 1)) rfl rfl) (a_ald rfl)) ?_
  refine Eq.trans (Eq.trans (r_go (act := oS (fGi g 92 3 11)) rfl rfl) (a_giV (zO_52 g) rfl)) ?_
  refine Eq.trans (Eq.trans (r_go (act := oS (fPi g 95 3 11)) rfl rfl) (a_pi (zO_7 g))) ?_
  refine Eq.trans (Eq.trans (r_go (act := oS (fAld 96 0)) rfl rfl) (a_ald rfl)) ?_
  refine Eq.trans (Eq.trans (r_go (act := oS (fAld 97 1)) rfl rfl) (a_ald rfl)) ?_
  refine Eq.trans (Eq.trans (r_go (act := oS (fGi g 100 3 12)) rfl rfl) (a_giV (zO_52 g) rfl)) ?_
  refine Eq.trans (Eq.trans (r_go (act := oS (fPi g 103 3 12)) rfl rfl) (a_pi (zO_7 g))) ?_
  exact Eq.trans (r_go (act := oVret) rfl rfl) (a_vret)
theorem x_X3_take_0_11 (g : zg) (M : zM) : X_X3_take g [.ref 7, .ref 52] M = some (none, ((zu (zu (zu (zu (zu (zu (zu (zu (zu (zu (zu (zcp M.1 53 8 (zx 70)) 7 2 (M.1 52 2)) 7 3 (M.1 52 3)) 7 4 (M.1 52 4)) 7 5 (M.1 52 5)) 7 6 (M.1 52 6)) 7 7 (M.1 52 7)) 7 8 (M.1 52 8)) 7 9 (M.1 52 9)) 7 10 (M.1 52 10)) 7 11 (M.1 52 11)) 7 12 (M.1 52 12)), M.2)) := e_X3_take_0_11 g M
set_option maxRecDepth 20000 in
theorem e_X3_take_0_12 (g : zg) (M : zM) : zX (t_X3_take g) 0 [some (.ref 7), some (.ref 54)] [] M = some (none, ((zu (zu (zu (zu (zu (zu (zu (zu (zu (zu (zu (zcp M.1 55 8 (zx 70)) 7 2 (M.1 54 2)) 7 3 (M.1 54 3)) 7 4 (M.1 54 4)) 7 5 (M.1 54 5)) 7 6 (M.1 54 6)) 7 7 (M.1 54 7)) 7 8 (M.1 54 8)) 7 9 (M.1 54 9)) 7 10 (M.1 54 10)) 7 11 (M.1 54 11)) 7 12 (M.1 54 12)), M.2)) := by
  refine Eq.trans (zX_rgN (tl_X3_take g) (hc_X3_take g) 54 _ _ _ _) ?_
  refine Eq.trans (Eq.trans (r_0 (act := oS (fAld 1 1)) rfl) (a_ald rfl)) ?_
  refine Eq.trans (Eq.trans (r_go (act := oS (fGr g 4 3 1)) rfl rfl) (a_gr (zO_54 g) (zR_54_1 g))) ?_
  refine Eq.trans (Eq.trans (r_go (act := oS (fSt 5 (gC (.int 0)))) rfl rfl) (a_C)) ?_
  refine Eq.trans (Eq.trans (r_go (act := oS (fAld 6 0)) rfl rfl) (a_ald rfl)) ?_
  refine Eq.trans (Eq.trans (r_go (act := oS (fGr g 9 3 1)) rfl rfl) (a_gr (zO_7 g) (zR_7_1 g))) ?_
  refine Eq.trans (Eq.trans (r_go (act := oS (fSt 10 (gC (.int 0)))) rfl rfl) (a_C)) ?_
  refine Eq.trans (Eq.trans (r_go (act := oS (fSt 12 (gC (.int 70)))) rfl rfl) (a_C)) ?_
  refine Eq.trans (Eq.trans (r_go (act := oS (fCp g 15)) rfl rfl) (a_cp (zCp (zA_55 g) (zA_8 g) zS_55 zS_8 (by decide +kernel) (by decide +kernel) rfl))) ?_
  refine Eq.trans (Eq.trans (r_go (act := oS (fAld 16 0)) rfl rfl) (a_ald rfl)) ?_
  refine Eq.trans (Eq.trans (r_go (act := oS (fAld 17 1)) rfl rfl) (a_ald rfl)) ?_
  refine Eq.trans (Eq.trans (r_go (act := oS (fGi g 20 3 2)) rfl rfl) (a_giV (zO_54 g) rfl)) ?_
  refine Eq.trans (Eq.trans (r_go (act := oS (fPi g 23 3 2)) rfl rfl) (a_pi (zO_7 g))) ?_
  refine Eq.trans (Eq.trans (r_go (act := oS (fAld 24 0)) rfl rfl) (a_ald rfl)) ?_
  refine Eq.trans (Eq.trans (r_go (act := oS (fAld 25 1)) rfl rfl) (a_ald rfl)) ?_
  refine Eq.trans (Eq.trans (r_go (act := oS (fGi g 28 3 3)) rfl rfl) (a_giV (zO_54 g) rfl)) ?_
  refine Eq.trans (Eq.trans (r_go (act := oS (fPi g 31 3 3)) rfl rfl) (a_pi (zO_7 g))) ?_
  refine Eq.trans (Eq.trans (r_go (act := oS (fAld 32 0)) rfl rfl) (a_ald rfl)) ?_
  refine Eq.trans (Eq.trans (r_go (act := oS (fAld 33 1)) rfl rfl) (a_ald rfl)) ?_
  refine Eq.trans (Eq.trans (r_go (act := oS (fGi g 36 3 4)) rfl rfl) (a_giV (zO_54 g) rfl)) ?_
  refine Eq.trans (Eq.trans (r_go (act := oS (fPi g 39 3 4)) rfl rfl) (a_pi (zO_7 g))) ?_
  refine Eq.trans (Eq.trans (r_go (act := oS (fAld 40 0)) rfl rfl) (a_ald rfl)) ?_
  refine Eq.trans (Eq.trans (r_go (act := oS (fAld 41 1)) rfl rfl) (a_ald rfl)) ?_
  refine Eq.trans (Eq.trans (r_go (act := oS (fGi g 44 3 5)) rfl rfl) (a_giV (zO_54 g) rfl)) ?_
  refine Eq.trans (Eq.trans (r_go (act := oS (fPi g 47 3 5)) rfl rfl) (a_pi (zO_7 g))) ?_
  refine Eq.trans (Eq.trans (r_go (act := oS (fAld 48 0)) rfl rfl) (a_ald rfl)) ?_
  refine Eq.trans (Eq.trans (r_go (act := oS (fAld 49 1)) rfl rfl) (a_ald rfl)) ?_
  refine Eq.trans (Eq.trans (r_go (act := oS (fGi g 52 3 6)) rfl rfl) (a_giV (zO_54 g) rfl)) ?_
  refine Eq.trans (Eq.trans (r_go (act := oS (fPi g 55 3 6)) rfl rfl) (a_pi (zO_7 g))) ?_
  refine Eq.trans (Eq.trans (r_go (act := oS (fAld 56 0)) rfl rfl) (a_ald rfl)) ?_
  refine Eq.trans (Eq.trans (r_go (act := oS (fAld 57 1)) rfl rfl) (a_ald rfl)) ?_
  refine Eq.trans (Eq.trans (r_go (act := oS (fGi g 60 3 7)) rfl rfl) (a_giV (zO_54 g) rfl)) ?_
  refine Eq.trans (Eq.trans (r_go (act := oS (fPi g 63 3 7)) rfl rfl) (a_pi (zO_7 g))) ?_
  refine Eq.trans (Eq.trans (r_go (act := oS (fAld 64 0)) rfl rfl) (a_ald rfl)) ?_
  refine Eq.trans (Eq.trans (r_go (act := oS (fAld 65 1)) rfl rfl) (a_ald rfl)) ?_
  refine Eq.trans (Eq.trans (r_go (act := oS (fGi g 68 3 8)) rfl rfl) (a_giV (zO_54 g) rfl)) ?_
  refine Eq.trans (Eq.trans (r_go (act := oS (fPi g 71 3 8)) rfl rfl) (a_pi (zO_7 g))) ?_
  refine Eq.trans (Eq.trans (r_go (act := oS (fAld 72 0)) rfl rfl) (a_ald rfl)) ?_
  refine Eq.trans (Eq.trans (r_go (act := oS (fAld 73 1)) rfl rfl) (a_ald rfl)) ?_
  refine Eq.trans (Eq.trans (r_go (act := oS (fGi g 76 3 9)) rfl rfl) (a_giV (zO_54 g) rfl)) ?_
  refine Eq.trans (Eq.trans (r_go (act := oS (fPi g 79 3 9)) rfl rfl) (a_pi (zO_7 g))) ?_
  refine Eq.trans (Eq.trans (r_go (act := oS (fAld 80 0)) rfl rfl) (a_ald rfl)) ?_
  refine Eq.trans (Eq.trans (r_go (act := oS (fAld 81 1)) rfl rfl) (a_ald rfl)) ?_
  refine Eq.trans (Eq.trans (r_go (act := oS (fGi g 84 3 10)) rfl rfl) (a_giV (zO_54 g) rfl)) ?_
  refine Eq.trans (Eq.trans (r_go (act := oS (fPi g 87 3 10)) rfl rfl) (a_pi (zO_7 g))) ?_
  refine Eq.trans (Eq.trans (r_go (act := oS (fAld 88 0)) rfl rfl) (a_ald rfl)) ?_
  refine Eq.trans (Eq.trans (r_go (act := oS (fAld 89 1)) rfl rfl) (a_ald rfl)) ?_
  refine Eq.trans (Eq.trans (r_go (act := oS (fGi g 92 3 11)) rfl rfl) (a_giV (zO_54 g) rfl)) ?_
  refine Eq.trans (Eq.trans (r_go (act := oS (fPi g 95 3 11)) rfl rfl) (a_pi (zO_7 g))) ?_
  refine Eq.trans (Eq.trans (r_go (act := oS (fAld 96 0)) rfl rfl) (a_ald rfl)) ?_
  refine Eq.trans (Eq.trans (r_go (act := oS (fAld 97 1)) rfl rfl) (a_ald rfl)) ?_
  refine Eq.trans (Eq.trans (r_go (act := oS (fGi g 100 3 12)) rfl rfl) (a_giV (zO_54 g) rfl)) ?_
  refine Eq.trans (Eq.trans (r_go (act := oS (fPi g 103 3 12)) rfl rfl) (a_pi (zO_7 g))) ?_
  exact Eq.trans (r_go (act := oVret) rfl rfl) (a_vret)
theorem x_X3_take_0_12 (g : zg) (M : zM) : X_X3_take g [.ref 7, .ref 54] M = some (none, ((zu (zu (zu (zu (zu (zu (zu (zu (zu (zu (zu (zcp M.1 55 8 (zx 70)) 7 2 (M.1 54 2)) 7 3 (M.1 54 3)) 7 4 (M.1 54 4)) 7 5 (M.1 54 5)) 7 6 (M.1 54 6)) 7 7 (M.1 54 7)) 7 8 (M.1 54 8)) 7 9 (M.1 54 9)) 7 10 (M.1 54 10)) 7 11 (M.1 54 11)) 7 12 (M.1 54 12)), M.2)) := e_X3_take_0_12 g M
set_option maxRecDepth 20000 in
theorem e_J9_min_7cf53_0 (g : zg) (a0 : Int32) (a1 : Int32) (M : zM) : zX (t_J9_min_7cf53 g) 0 [some (.int a0), some (.int a1)] [] M = (bif cGt a0 a1 then some (some (.int a1), M) else some (some (.int a0), M)) := by
  refine Eq.trans (zX_rgN (tl_J9_min_7cf53 g) (hc_J9_min_7cf53 g) 7 _ _ _ _) ?_
  refine Eq.trans (Eq.trans (r_0 (act := oS (fIld 1 0)) rfl) (a_ild rfl)) ?_
  refine Eq.trans (Eq.trans (r_go (act := oS (fIld 2 1)) rfl rfl) (a_ild rfl)) ?_
  refine Eq.trans (Eq.trans (r_go (act := oS (fCm 9 5 cGt)) rfl rfl) (a_cm)) (bcg ?_ ?_)
  · refine Eq.trans (Eq.trans (r_go (act := oS (fIld 10 1)) rfl rfl) (a_ild rfl)) ?_
    exact Eq.trans (r_go (act := oIret) rfl rfl) (a_iret)
  · refine Eq.trans (Eq.trans (r_go (act := oS (fIld 6 0)) rfl rfl) (a_ild rfl)) ?_
    refine Eq.trans (Eq.trans (r_go (act := oS (fGo 10)) rfl rfl) (a_goto)) ?_
    exact Eq.trans (r_go (act := oIret) rfl rfl) (a_iret)
theorem x_J9_min_7cf53_0 (g : zg) (a0 : Int32) (a1 : Int32) (M : zM) : X_J9_min_7cf53 g [.int a0, .int a1] M = (bif cGt a0 a1 then some (some (.int a1), M) else some (some (.int a0), M)) := e_J9_min_7cf53_0 g a0 a1 M
set_option maxRecDepth 20000 in
theorem e_X8_keep_0 (g : zg) (M : zM) : zX (t_X8_keep g) 0 [some (.ref 42), some (.ref 7), none] [] M = (bif cEq (M.1 42 1) 0 then (zbV (X_X3_take g [.ref 44, .ref 7] M) (fun M1 => zX (t_X8_keep g) 19 [some (.ref 42), none, none] [] M1)) else (bif cEq (M.1 42 1) 1 then (zbV (X_X3_take g [.ref 46, .ref 7] M) (fun M2 => zX (t_X8_keep g) 19 [some (.ref 42), none, none] [] M2)) else (bif cEq (M.1 42 1) 2 then (zbV (X_X3_take g [.ref 48, .ref 7] M) (fun M3 => zX (t_X8_keep g) 19 [some (.ref 42), none, none] [] M3)) else (bif cEq (M.1 42 1) 3 then (zbV (X_X3_take g [.ref 50, .ref 7] M) (fun M4 => zX (t_X8_keep g) 19 [some (.ref 42), none, none] [] M4)) else (bif cEq (M.1 42 1) 4 then (zbV (X_X3_take g [.ref 52, .ref 7] M) (fun M5 => zX (t_X8_keep g) 19 [some (.ref 42), none, none] [] M5)) else (bif cEq (M.1 42 1) 5 then (zbV (X_X3_take g [.ref 54, .ref 7] M) (fun M6 => zX (t_X8_keep g) 19 [some (.ref 42), none, none] [] M6)) else none)))))) := by
  refine Eq.trans (zX_rgN (tl_X8_keep g) (hc_X8_keep g) 13 _ _ _ _) ?_
  refine Eq.trans (Eq.trans (r_0 (act := oS (fAld 1 0)) rfl) (a_ald rfl)) ?_
  refine Eq.trans (Eq.trans (r_go (act := oS (fGr g 4 8 0)) rfl rfl) (a_gr (zO_42 g) (zR_42_0 g))) ?_
  refine Eq.trans (Eq.trans (r_go (act := oS (fAld 5 0)) rfl rfl) (a_ald rfl)) ?_
  refine Eq.trans (Eq.trans (r_go (act := oS (fGi g 8 8 1)) rfl rfl) (a_gi (zO_42 g))) ?_
  refine Eq.trans (Eq.trans (r_go (act := oAa g 9 43 [(0, 44), (1, 46), (2, 48), (3, 50), (4, 52), (5, 54)]) rfl rfl) (a_aa zAA)) ?_
  refine Eq.trans a_saC (bcg ?_ ?_)
  · refine Eq.trans (Eq.trans (r_go (act := oS (fAst 10 2)) rfl rfl) (a_ast rfl rfl)) ?_
    refine Eq.trans (Eq.trans (r_go (act := oS (fAld 11 2)) rfl rfl) (a_ald rfl)) ?_
    refine Eq.trans (Eq.trans (r_go (act := oS (fNul 19 14)) rfl rfl) (a_nulR)) ?_
    refine Eq.trans (Eq.trans (r_go (act := oS (fAld 15 2)) rfl rfl) (a_ald rfl)) ?_
    refine Eq.trans (Eq.trans (r_go (act := oS (fAld 16 1)) rfl rfl) (a_ald rfl)) ?_
    refine Eq.trans (Eq.trans (r_go (act := oCV 19 2 (zcv g 3) (X_X3_take g)) rfl rfl) (a_cV rfl (zck (zO_44 g) rfl))) (zbV_cg (fun M1 => ?_))
    exact r_cut rfl rfl
  refine Eq.trans a_saC (bcg ?_ ?_)
  · refine Eq.trans (Eq.trans (r_go (act := oS (fAst 10 2)) rfl rfl) (a_ast rfl rfl)) ?_
    refine Eq.trans (Eq.trans (r_go (act := oS (fAld 11 2)) rfl rfl) (a_ald rfl)) ?_
    refine Eq.trans (Eq.trans (r_go (act := oS (fNul 19 14)) rfl rfl) (a_nulR)) ?_
    refine Eq.trans (Eq.trans (r_go (act := oS (fAld 15 2)) rfl rfl) (a_ald rfl)) ?_
    refine Eq.trans (Eq.trans (r_go (act := oS (fAld 16 1)) rfl rfl) (a_ald rfl)) ?_
    refine Eq.trans (Eq.trans (r_go (act := oCV 19 2 (zcv g 3) (X_X3_take g)) rfl rfl) (a_cV rfl (zck (zO_46 g) rfl))) (zbV_cg (fun M2 => ?_))
    exact r_cut rfl rfl
  refine Eq.trans a_saC (bcg ?_ ?_)
  · refine Eq.trans (Eq.trans (r_go (act := oS (fAst 10 2)) rfl rfl) (a_ast rfl rfl)) ?_
    refine Eq.trans (Eq.trans (r_go (act := oS (fAld 11 2)) rfl rfl) (a_ald rfl)) ?_
    refine Eq.trans (Eq.trans (r_go (act := oS (fNul 19 14)) rfl rfl) (a_nulR)) ?_
    refine Eq.trans (Eq.trans (r_go (act := oS (fAld 15 2)) rfl rfl) (a_ald rfl)) ?_
    refine Eq.trans (Eq.trans (r_go (act := oS (fAld 16 1)) rfl rfl) (a_ald rfl)) ?_
    refine Eq.trans (Eq.trans (r_go (act := oCV 19 2 (zcv g 3) (X_X3_take g)) rfl rfl) (a_cV rfl (zck (zO_48 g) rfl))) (zbV_cg (fun M3 => ?_))
    exact r_cut rfl rfl
  refine Eq.trans a_saC (bcg ?_ ?_)
  · refine Eq.trans (Eq.trans (r_go (act := oS (fAst 10 2)) rfl rfl) (a_ast rfl rfl)) ?_
    refine Eq.trans (Eq.trans (r_go (act := oS (fAld 11 2)) rfl rfl) (a_ald rfl)) ?_
    refine Eq.trans (Eq.trans (r_go (act := oS (fNul 19 14)) rfl rfl) (a_nulR)) ?_
    refine Eq.trans (Eq.trans (r_go (act := oS (fAld 15 2)) rfl rfl) (a_ald rfl)) ?_
    refine Eq.trans (Eq.trans (r_go (act := oS (fAld 16 1)) rfl rfl) (a_ald rfl)) ?_
    refine Eq.trans (Eq.trans (r_go (act := oCV 19 2 (zcv g 3) (X_X3_take g)) rfl rfl) (a_cV rfl (zck (zO_50 g) rfl))) (zbV_cg (fun M4 => ?_))
    exact r_cut rfl rfl
  refine Eq.trans a_saC (bcg ?_ ?_)
  · refine Eq.trans (Eq.trans (r_go (act := oS (fAst 10 2)) rfl rfl) (a_ast rfl rfl)) ?_
    refine Eq.trans (Eq.trans (r_go (act := oS (fAld 11 2)) rfl rfl) (a_ald rfl)) ?_
    refine Eq.trans (Eq.trans (r_go (act := oS (fNul 19 14)) rfl rfl) (a_nulR)) ?_
    refine Eq.trans (Eq.trans (r_go (act := oS (fAld 15 2)) rfl rfl) (a_ald rfl)) ?_
    refine Eq.trans (Eq.trans (r_go (act := oS (fAld 16 1)) rfl rfl) (a_ald rfl)) ?_
    refine Eq.trans (Eq.trans (r_go (act := oCV 19 2 (zcv g 3) (X_X3_take g)) rfl rfl) (a_cV rfl (zck (zO_52 g) rfl))) (zbV_cg (fun M5 => ?_))
    exact r_cut rfl rfl
  refine Eq.trans a_saC (bcg ?_ ?_)
  · refine Eq.trans (Eq.trans (r_go (act := oS (fAst 10 2)) rfl rfl) (a_ast rfl rfl)) ?_
    refine Eq.trans (Eq.trans (r_go (act := oS (fAld 11 2)) rfl rfl) (a_ald rfl)) ?_
    refine Eq.trans (Eq.trans (r_go (act := oS (fNul 19 14)) rfl rfl) (a_nulR)) ?_
    refine Eq.trans (Eq.trans (r_go (act := oS (fAld 15 2)) rfl rfl) (a_ald rfl)) ?_
    refine Eq.trans (Eq.trans (r_go (act := oS (fAld 16 1)) rfl rfl) (a_ald rfl)) ?_
    refine Eq.trans (Eq.trans (r_go (act := oCV 19 2 (zcv g 3) (X_X3_take g)) rfl rfl) (a_cV rfl (zck (zO_54 g) rfl))) (zbV_cg (fun M6 => ?_))
    exact r_cut rfl rfl
  exact a_saN
theorem x_X8_keep_0 (g : zg) (M : zM) : X_X8_keep g [.ref 42, .ref 7] M = (bif cEq (M.1 42 1) 0 then (zbV (X_X3_take g [.ref 44, .ref 7] M) (fun M1 => zX (t_X8_keep g) 19 [some (.ref 42), none, none] [] M1)) else (bif cEq (M.1 42 1) 1 then (zbV (X_X3_take g [.ref 46, .ref 7] M) (fun M2 => zX (t_X8_keep g) 19 [some (.ref 42), none, none] [] M2)) else (bif cEq (M.1 42 1) 2 then (zbV (X_X3_take g [.ref 48, .ref 7] M) (fun M3 => zX (t_X8_keep g) 19 [some (.ref 42), none, none] [] M3)) else (bif cEq (M.1 42 1) 3 then (zbV (X_X3_take g [.ref 50, .ref 7] M) (fun M4 => zX (t_X8_keep g) 19 [some (.ref 42), none, none] [] M4)) else (bif cEq (M.1 42 1) 4 then (zbV (X_X3_take g [.ref 52, .ref 7] M) (fun M5 => zX (t_X8_keep g) 19 [some (.ref 42), none, none] [] M5)) else (bif cEq (M.1 42 1) 5 then (zbV (X_X3_take g [.ref 54, .ref 7] M) (fun M6 => zX (t_X8_keep g) 19 [some (.ref 42), none, none] [] M6)) else none)))))) := e_X8_keep_0 g M
set_option maxRecDepth 20000 in
theorem e_X8_keep_19 (g : zg) (M : zM) : zX (t_X8_keep g) 19 [some (.ref 42), none, none] [] M = (bif cLt ((M.1 42 1) + 1) 6 then (zbI (X_J9_min_7cf53 g [.int ((M.1 42 2) + 1), .int 6] ((zu M.1 42 1 ((M.1 42 1) + 1)), M.2)) (fun x1 M1 => some (none, ((zu M1.1 42 2 x1), M1.2)))) else (zbI (X_J9_min_7cf53 g [.int ((M.1 42 2) + 1), .int 6] ((zu M.1 42 1 0), M.2)) (fun x2 M2 => some (none, ((zu M2.1 42 2 x2), M2.2))))) := by
  refine Eq.trans (zX_rgN (tl_X8_keep g) (hc_X8_keep g) 23 _ _ _ _) ?_
  refine Eq.trans (Eq.trans (Eq.trans (r_0 (act := oF [1, 2] (oS (fAld 20 0))) rfl) (a_F rfl)) (a_ald rfl)) ?_
  refine Eq.trans (Eq.trans (r_go (act := oS (fAld 21 0)) rfl rfl) (a_ald rfl)) ?_
  refine Eq.trans (Eq.trans (r_go (act := oS (fGi g 24 8 1)) rfl rfl) (a_gi (zO_42 g))) ?_
  refine Eq.trans (Eq.trans (r_go (act := oS (fSt 25 (gC (.int 1)))) rfl rfl) (a_C)) ?_
  refine Eq.trans (Eq.trans (r_go (act := oS (fSt 26 (g2 (fun x y => x + y)))) rfl rfl) (a_add)) ?_
  refine Eq.trans (Eq.trans (r_go (act := oS (fSt 28 (gC (.int 6)))) rfl rfl) (a_C)) ?_
  refine Eq.trans (Eq.trans (r_go (act := oS (fCm 31 40 cLt)) rfl rfl) (a_cm)) (bcg ?_ ?_)
  · refine Eq.trans (Eq.trans (r_go (act := oS (fAld 32 0)) rfl rfl) (a_ald rfl)) ?_
    refine Eq.trans (Eq.trans (r_go (act := oS (fGi g 35 8 1)) rfl rfl) (a_gi (zO_42 g))) ?_
    refine Eq.trans (Eq.trans (r_go (act := oS (fSt 36 (gC (.int 1)))) rfl rfl) (a_C)) ?_
    refine Eq.trans (Eq.trans (r_go (act := oS (fSt 37 (g2 (fun x y => x + y)))) rfl rfl) (a_add)) ?_
    refine Eq.trans (Eq.trans (r_go (act := oS (fGo 41)) rfl rfl) (a_goto)) ?_
    refine Eq.trans (Eq.trans (r_go (act := oS (fPi g 44 8 1)) rfl rfl) (a_pi (zO_42 g))) ?_
    refine Eq.trans (Eq.trans (r_go (act := oS (fAld 45 0)) rfl rfl) (a_ald rfl)) ?_
    refine Eq.trans (Eq.trans (r_go (act := oS (fAld 46 0)) rfl rfl) (a_ald rfl)) ?_
    refine Eq.trans (Eq.trans (r_go (act := oS (fGi g 49 8 2)) rfl rfl) (a_giV (zO_42 g) rfl)) ?_
    refine Eq.trans (Eq.trans (r_go (act := oS (fSt 50 (gC (.int 1)))) rfl rfl) (a_C)) ?_
    refine Eq.trans (Eq.trans (r_go (act := oS (fSt 51 (g2 (fun x y => x + y)))) rfl rfl) (a_add)) ?_
    refine Eq.trans (Eq.trans (r_go (act := oS (fSt 53 (gC (.int 6)))) rfl rfl) (a_C)) ?_
    refine Eq.trans (Eq.trans (r_go (act := oCI 56 2 zcs (X_J9_min_7cf53 g)) rfl rfl) (a_cI rfl rfl)) (zbI_cg (fun x1 M1 => ?_))
    refine Eq.trans (Eq.trans (r_go (act := oS (fPi g 59 8 2)) rfl rfl) (a_pi (zO_42 g))) ?_
    exact Eq.trans (r_go (act := oVret) rfl rfl) (a_vret)
  · refine Eq.trans (Eq.trans (r_go (act := oS (fSt 41 (gC (.int 0)))) rfl rfl) (a_C)) ?_
    refine Eq.trans (Eq.trans (r_go (act := oS (fPi g 44 8 1)) rfl rfl) (a_pi (zO_42 g))) ?_
    refine Eq.trans (Eq.trans (r_go (act := oS (fAld 45 0)) rfl rfl) (a_ald rfl)) ?_
    refine Eq.trans (Eq.trans (r_go (act := oS (fAld 46 0)) rfl rfl) (a_ald rfl)) ?_
    refine Eq.trans (Eq.trans (r_go (act := oS (fGi g 49 8 2)) rfl rfl) (a_giV (zO_42 g) rfl)) ?_
    refine Eq.trans (Eq.trans (r_go (act := oS (fSt 50 (gC (.int 1)))) rfl rfl) (a_C)) ?_
    refine Eq.trans (Eq.trans (r_go (act := oS (fSt 51 (g2 (fun x y => x + y)))) rfl rfl) (a_add)) ?_
    refine Eq.trans (Eq.trans (r_go (act := oS (fSt 53 (gC (.int 6)))) rfl rfl) (a_C)) ?_
    refine Eq.trans (Eq.trans (r_go (act := oCI 56 2 zcs (X_J9_min_7cf53 g)) rfl rfl) (a_cI rfl rfl)) (zbI_cg (fun x2 M2 => ?_))
    refine Eq.trans (Eq.trans (r_go (act := oS (fPi g 59 8 2)) rfl rfl) (a_pi (zO_42 g))) ?_
    exact Eq.trans (r_go (act := oVret) rfl rfl) (a_vret)
set_option maxRecDepth 20000 in
theorem e_X1_write_0 (g : zg) (a2 : Int32) (a3 : Int32) (a4 : Int32) (M : zM) : zX (t_X1_write g) 0 [some (.ref 25), some (.ref 7), some (.int a2), some (.int a3), some (.int a4), none] [] M = (bif cEq0 (M.1 7 0) then some (none, M) else (zbI (X_X11_within g [.int (M.1 7 11), .int 0, .int 149] M) (fun x1 M1 => (bif cEq0 x1 then some (none, M1) else (bif zb ((M1.1 7 11) * 4) 600 then (bif zb (((M1.1 7 11) * 4) + 1) 600 then (bif zb (((M1.1 7 11) * 4) + 2) 600 then (bif zb (((M1.1 7 11) * 4) + 3) 600 then some (none, ((zu (zu (zu (zu (zu M1.1 26 (zx ((M1.1 7 11) * 4)) (M1.1 7 10)) 26 (zx (((M1.1 7 11) * 4) + 1)) a2) 26 (zx (((M1.1 7 11) * 4) + 2)) a3) 26 (zx (((M1.1 7 11) * 4) + 3)) a4) 7 11 ((M1.1 7 11) + 1)), M1.2)) else none) else none) else none) else none))))) := by
  refine Eq.trans (zX_rgN (tl_X1_write g) (hc_X1_write g) 49 _ _ _ _) ?_
  refine Eq.trans (Eq.trans (r_0 (act := oS (fAld 1 1)) rfl) (a_ald rfl)) ?_
  refine Eq.trans (Eq.trans (r_go (act := oS (fGi g 4 3 0)) rfl rfl) (a_gi (zO_7 g))) ?_
  refine Eq.trans (Eq.trans (r_go (act := oS (fIf 21 7 cEq0)) rfl rfl) (a_if)) (bcg ?_ ?_)
  · exact Eq.trans (r_go (act := oVret) rfl rfl) (a_vret)
  · refine Eq.trans (Eq.trans (r_go (act := oS (fAld 8 1)) rfl rfl) (a_ald rfl)) ?_
    refine Eq.trans (Eq.trans (r_go (act := oS (fGi g 11 3 11)) rfl rfl) (a_gi (zO_7 g))) ?_
    refine Eq.trans (Eq.trans (r_go (act := oS (fSt 12 (gC (.int 0)))) rfl rfl) (a_C)) ?_
    refine Eq.trans (Eq.trans (r_go (act := oS (fSt 15 (gC (.int 149)))) rfl rfl) (a_C)) ?_
    refine Eq.trans (Eq.trans (r_go (act := oCI 18 3 zcs (X_X11_within g)) rfl rfl) (a_cI rfl rfl)) (zbI_cg (fun x1 M1 => ?_))
    refine Eq.trans (Eq.trans (r_go (act := oS (fIf 21 22 cEq0)) rfl rfl) (a_if)) (bcg ?_ ?_)
    · exact Eq.trans (r_go (act := oVret) rfl rfl) (a_vret)
    · refine Eq.trans (Eq.trans (r_go (act := oS (fAld 23 1)) rfl rfl) (a_ald rfl)) ?_
      refine Eq.trans (Eq.trans (r_go (act := oS (fGi g 26 3 11)) rfl rfl) (a_gi (zO_7 g))) ?_
      refine Eq.trans (Eq.trans (r_go (act := oS (fSt 27 (gC (.int 4)))) rfl rfl) (a_C)) ?_
      refine Eq.trans (Eq.trans (r_go (act := oS (fSt 28 (g2 (fun x y => x * y)))) rfl rfl) (a_mul)) ?_
      refine Eq.trans (Eq.trans (r_go (act := oS (fIst 30 5)) rfl rfl) (a_ist rfl rfl)) ?_
      refine Eq.trans (Eq.trans (r_go (act := oS (fAld 31 0)) rfl rfl) (a_ald rfl)) ?_
      refine Eq.trans (Eq.trans (r_go (act := oS (fGr g 34 1 0)) rfl rfl) (a_gr (zO_25 g) (zR_25_0 g))) ?_
      refine Eq.trans (Eq.trans (r_go (act := oS (fIld 36 5)) rfl rfl) (a_ild rfl)) ?_
      refine Eq.trans (Eq.trans (r_go (act := oS (fAld 37 1)) rfl rfl) (a_ald rfl)) ?_
      refine Eq.trans (Eq.trans (r_go (act := oS (fGi g 40 3 10)) rfl rfl) (a_gi (zO_7 g))) ?_
      refine Eq.trans (Eq.trans (r_go (act := oS (fIs g 41)) rfl rfl) (a_is (zA_26 g) zS_26)) (bcg ?_ rfl)
      refine Eq.trans (Eq.trans (r_go (act := oS (fAld 42 0)) rfl rfl) (a_ald rfl)) ?_
      refine Eq.trans (Eq.trans (r_go (act := oS (fGr g 45 1 0)) rfl rfl) (a_gr (zO_25 g) (zR_25_0 g))) ?_
      refine Eq.trans (Eq.trans (r_go (act := oS (fIld 47 5)) rfl rfl) (a_ild rfl)) ?_
      refine Eq.trans (Eq.trans (r_go (act := oS (fSt 48 (gC (.int 1)))) rfl rfl) (a_C)) ?_
      refine Eq.trans (Eq.trans (r_go (act := oS (fSt 49 (g2 (fun x y => x + y)))) rfl rfl) (a_add)) ?_
      refine Eq.trans (Eq.trans (r_go (act := oS (fIld 50 2)) rfl rfl) (a_ild rfl)) ?_
      refine Eq.trans (Eq.trans (r_go (act := oS (fIs g 51)) rfl rfl) (a_is (zA_26 g) zS_26)) (bcg ?_ rfl)
      refine Eq.trans (Eq.trans (r_go (act := oS (fAld 52 0)) rfl rfl) (a_ald rfl)) ?_
      refine Eq.trans (Eq.trans (r_go (act := oS (fGr g 55 1 0)) rfl rfl) (a_gr (zO_25 g) (zR_25_0 g))) ?_
      refine Eq.trans (Eq.trans (r_go (act := oS (fIld 57 5)) rfl rfl) (a_ild rfl)) ?_
      refine Eq.trans (Eq.trans (r_go (act := oS (fSt 58 (gC (.int 2)))) rfl rfl) (a_C)) ?_
      refine Eq.trans (Eq.trans (r_go (act := oS (fSt 59 (g2 (fun x y => x + y)))) rfl rfl) (a_add)) ?_
      refine Eq.trans (Eq.trans (r_go (act := oS (fIld 60 3)) rfl rfl) (a_ild rfl)) ?_
      refine Eq.trans (Eq.trans (r_go (act := oS (fIs g 61)) rfl rfl) (a_is (zA_26 g) zS_26)) (bcg ?_ rfl)
      refine Eq.trans (Eq.trans (r_go (act := oS (fAld 62 0)) rfl rfl) (a_ald rfl)) ?_
      refine Eq.trans (Eq.trans (r_go (act := oS (fGr g 65 1 0)) rfl rfl) (a_gr (zO_25 g) (zR_25_0 g))) ?_
      refine Eq.trans (Eq.trans (r_go (act := oS (fIld 67 5)) rfl rfl) (a_ild rfl)) ?_
      refine Eq.trans (Eq.trans (r_go (act := oS (fSt 68 (gC (.int 3)))) rfl rfl) (a_C)) ?_
      refine Eq.trans (Eq.trans (r_go (act := oS (fSt 69 (g2 (fun x y => x + y)))) rfl rfl) (a_add)) ?_
      refine Eq.trans (Eq.trans (r_go (act := oS (fIld 71 4)) rfl rfl) (a_ild rfl)) ?_
      refine Eq.trans (Eq.trans (r_go (act := oS (fIs g 72)) rfl rfl) (a_is (zA_26 g) zS_26)) (bcg ?_ rfl)
      refine Eq.trans (Eq.trans (r_go (act := oS (fAld 73 1)) rfl rfl) (a_ald rfl)) ?_
      refine Eq.trans (Eq.trans (r_go (act := oS (fSt 74 gDup)) rfl rfl) (a_dupR)) ?_
      refine Eq.trans (Eq.trans (r_go (act := oS (fGi g 77 3 11)) rfl rfl) (a_giV (zO_7 g) rfl)) ?_
      refine Eq.trans (Eq.trans (r_go (act := oS (fSt 78 (gC (.int 1)))) rfl rfl) (a_C)) ?_
      refine Eq.trans (Eq.trans (r_go (act := oS (fSt 79 (g2 (fun x y => x + y)))) rfl rfl) (a_add)) ?_
      refine Eq.trans (Eq.trans (r_go (act := oS (fPi g 82 3 11)) rfl rfl) (a_pi (zO_7 g))) ?_
      exact Eq.trans (r_go (act := oVret) rfl rfl) (a_vret)
theorem x_X1_write_0 (g : zg) (a2 : Int32) (a3 : Int32) (a4 : Int32) (M : zM) : X_X1_write g [.ref 25, .ref 7, .int a2, .int a3, .int a4] M = (bif cEq0 (M.1 7 0) then some (none, M) else (zbI (X_X11_within g [.int (M.1 7 11), .int 0, .int 149] M) (fun x1 M1 => (bif cEq0 x1 then some (none, M1) else (bif zb ((M1.1 7 11) * 4) 600 then (bif zb (((M1.1 7 11) * 4) + 1) 600 then (bif zb (((M1.1 7 11) * 4) + 2) 600 then (bif zb (((M1.1 7 11) * 4) + 3) 600 then some (none, ((zu (zu (zu (zu (zu M1.1 26 (zx ((M1.1 7 11) * 4)) (M1.1 7 10)) 26 (zx (((M1.1 7 11) * 4) + 1)) a2) 26 (zx (((M1.1 7 11) * 4) + 2)) a3) 26 (zx (((M1.1 7 11) * 4) + 3)) a4) 7 11 ((M1.1 7 11) + 1)), M1.2)) else none) else none) else none) else none))))) := e_X1_write_0 g a2 a3 a4 M
set_option maxRecDepth 20000 in
theorem e_X1_write_0_1 (g : zg) (a2 : Int32) (a3 : Int32) (a4 : Int32) (M : zM) : zX (t_X1_write g) 0 [some (.ref 25), some (.ref 40), some (.int a2), some (.int a3), some (.int a4), none] [] M = (bif cEq0 (M.1 40 0) then some (none, M) else (zbI (X_X11_within g [.int (M.1 40 11), .int 0, .int 149] M) (fun x1 M1 => (bif cEq0 x1 then some (none, M1) else (bif zb ((M1.1 40 11) * 4) 600 then (bif zb (((M1.1 40 11) * 4) + 1) 600 then (bif zb (((M1.1 40 11) * 4) + 2) 600 then (bif zb (((M1.1 40 11) * 4) + 3) 600 then some (none, ((zu (zu (zu (zu (zu M1.1 26 (zx ((M1.1 40 11) * 4)) (M1.1 40 10)) 26 (zx (((M1.1 40 11) * 4) + 1)) a2) 26 (zx (((M1.1 40 11) * 4) + 2)) a3) 26 (zx (((M1.1 40 11) * 4) + 3)) a4) 40 11 ((M1.1 40 11) + 1)), M1.2)) else none) else none) else none) else none))))) := by
  refine Eq.trans (zX_rgN (tl_X1_write g) (hc_X1_write g) 49 _ _ _ _) ?_
  refine Eq.trans (Eq.trans (r_0 (act := oS (fAld 1 1)) rfl) (a_ald rfl)) ?_
  refine Eq.trans (Eq.trans (r_go (act := oS (fGi g 4 3 0)) rfl rfl) (a_gi (zO_40 g))) ?_
  refine Eq.trans (Eq.trans (r_go (act := oS (fIf 21 7 cEq0)) rfl rfl) (a_if)) (bcg ?_ ?_)
  · exact Eq.trans (r_go (act := oVret) rfl rfl) (a_vret)
  · refine Eq.trans (Eq.trans (r_go (act := oS (fAld 8 1)) rfl rfl) (a_ald rfl)) ?_
    refine Eq.trans (Eq.trans (r_go (act := oS (fGi g 11 3 11)) rfl rfl) (a_gi (zO_40 g))) ?_
    refine Eq.trans (Eq.trans (r_go (act := oS (fSt 12 (gC (.int 0)))) rfl rfl) (a_C)) ?_
    refine Eq.trans (Eq.trans (r_go (act := oS (fSt 15 (gC (.int 149)))) rfl rfl) (a_C)) ?_
    refine Eq.trans (Eq.trans (r_go (act := oCI 18 3 zcs (X_X11_within g)) rfl rfl) (a_cI rfl rfl)) (zbI_cg (fun x1 M1 => ?_))
    refine Eq.trans (Eq.trans (r_go (act := oS (fIf 21 22 cEq0)) rfl rfl) (a_if)) (bcg ?_ ?_)
    · exact Eq.trans (r_go (act := oVret) rfl rfl) (a_vret)
    · refine Eq.trans (Eq.trans (r_go (act := oS (fAld 23 1)) rfl rfl) (a_ald rfl)) ?_
      refine Eq.trans (Eq.trans (r_go (act := oS (fGi g 26 3 11)) rfl rfl) (a_gi (zO_40 g))) ?_
      refine Eq.trans (Eq.trans (r_go (act := oS (fSt 27 (gC (.int 4)))) rfl rfl) (a_C)) ?_
      refine Eq.trans (Eq.trans (r_go (act := oS (fSt 28 (g2 (fun x y => x * y)))) rfl rfl) (a_mul)) ?_
      refine Eq.trans (Eq.trans (r_go (act := oS (fIst 30 5)) rfl rfl) (a_ist rfl rfl)) ?_
      refine Eq.trans (Eq.trans (r_go (act := oS (fAld 31 0)) rfl rfl) (a_ald rfl)) ?_
      refine Eq.trans (Eq.trans (r_go (act := oS (fGr g 34 1 0)) rfl rfl) (a_gr (zO_25 g) (zR_25_0 g))) ?_
      refine Eq.trans (Eq.trans (r_go (act := oS (fIld 36 5)) rfl rfl) (a_ild rfl)) ?_
      refine Eq.trans (Eq.trans (r_go (act := oS (fAld 37 1)) rfl rfl) (a_ald rfl)) ?_
      refine Eq.trans (Eq.trans (r_go (act := oS (fGi g 40 3 10)) rfl rfl) (a_gi (zO_40 g))) ?_
      refine Eq.trans (Eq.trans (r_go (act := oS (fIs g 41)) rfl rfl) (a_is (zA_26 g) zS_26)) (bcg ?_ rfl)
      refine Eq.trans (Eq.trans (r_go (act := oS (fAld 42 0)) rfl rfl) (a_ald rfl)) ?_
      refine Eq.trans (Eq.trans (r_go (act := oS (fGr g 45 1 0)) rfl rfl) (a_gr (zO_25 g) (zR_25_0 g))) ?_
      refine Eq.trans (Eq.trans (r_go (act := oS (fIld 47 5)) rfl rfl) (a_ild rfl)) ?_
      refine Eq.trans (Eq.trans (r_go (act := oS (fSt 48 (gC (.int 1)))) rfl rfl) (a_C)) ?_
      refine Eq.trans (Eq.trans (r_go (act := oS (fSt 49 (g2 (fun x y => x + y)))) rfl rfl) (a_add)) ?_
      refine Eq.trans (Eq.trans (r_go (act := oS (fIld 50 2)) rfl rfl) (a_ild rfl)) ?_
      refine Eq.trans (Eq.trans (r_go (act := oS (fIs g 51)) rfl rfl) (a_is (zA_26 g) zS_26)) (bcg ?_ rfl)
      refine Eq.trans (Eq.trans (r_go (act := oS (fAld 52 0)) rfl rfl) (a_ald rfl)) ?_
      refine Eq.trans (Eq.trans (r_go (act := oS (fGr g 55 1 0)) rfl rfl) (a_gr (zO_25 g) (zR_25_0 g))) ?_
      refine Eq.trans (Eq.trans (r_go (act := oS (fIld 57 5)) rfl rfl) (a_ild rfl)) ?_
      refine Eq.trans (Eq.trans (r_go (act := oS (fSt 58 (gC (.int 2)))) rfl rfl) (a_C)) ?_
      refine Eq.trans (Eq.trans (r_go (act := oS (fSt 59 (g2 (fun x y => x + y)))) rfl rfl) (a_add)) ?_
      refine Eq.trans (Eq.trans (r_go (act := oS (fIld 60 3)) rfl rfl) (a_ild rfl)) ?_
      refine Eq.trans (Eq.trans (r_go (act := oS (fIs g 61)) rfl rfl) (a_is (zA_26 g) zS_26)) (bcg ?_ rfl)
      refine Eq.trans (Eq.trans (r_go (act := oS (fAld 62 0)) rfl rfl) (a_ald rfl)) ?_
      refine Eq.trans (Eq.trans (r_go (act := oS (fGr g 65 1 0)) rfl rfl) (a_gr (zO_25 g) (zR_25_0 g))) ?_
      refine Eq.trans (Eq.trans (r_go (act := oS (fIld 67 5)) rfl rfl) (a_ild rfl)) ?_
      refine Eq.trans (Eq.trans (r_go (act := oS (fSt 68 (gC (.int 3)))) rfl rfl) (a_C)) ?_
      refine Eq.trans (Eq.trans (r_go (act := oS (fSt 69 (g2 (fun x y => x + y)))) rfl rfl) (a_add)) ?_
      refine Eq.trans (Eq.trans (r_go (act := oS (fIld 71 4)) rfl rfl) (a_ild rfl)) ?_
      refine Eq.trans (Eq.trans (r_go (act := oS (fIs g 72)) rfl rfl) (a_is (zA_26 g) zS_26)) (bcg ?_ rfl)
      refine Eq.trans (Eq.trans (r_go (act := oS (fAld 73 1)) rfl rfl) (a_ald rfl)) ?_
      refine Eq.trans (Eq.trans (r_go (act := oS (fSt 74 gDup)) rfl rfl) (a_dupR)) ?_
      refine Eq.trans (Eq.trans (r_go (act := oS (fGi g 77 3 11)) rfl rfl) (a_giV (zO_40 g) rfl)) ?_
      refine Eq.trans (Eq.trans (r_go (act := oS (fSt 78 (gC (.int 1)))) rfl rfl) (a_C)) ?_
      refine Eq.trans (Eq.trans (r_go (act := oS (fSt 79 (g2 (fun x y => x + y)))) rfl rfl) (a_add)) ?_
      refine Eq.trans (Eq.trans (r_go (act := oS (fPi g 82 3 11)) rfl rfl) (a_pi (zO_40 g))) ?_
      exact Eq.trans (r_go (act := oVret) rfl rfl) (a_vret)
theorem x_X1_write_0_1 (g : zg) (a2 : Int32) (a3 : Int32) (a4 : Int32) (M : zM) : X_X1_write g [.ref 25, .ref 40, .int a2, .int a3, .int a4] M = (bif cEq0 (M.1 40 0) then some (none, M) else (zbI (X_X11_within g [.int (M.1 40 11), .int 0, .int 149] M) (fun x1 M1 => (bif cEq0 x1 then some (none, M1) else (bif zb ((M1.1 40 11) * 4) 600 then (bif zb (((M1.1 40 11) * 4) + 1) 600 then (bif zb (((M1.1 40 11) * 4) + 2) 600 then (bif zb (((M1.1 40 11) * 4) + 3) 600 then some (none, ((zu (zu (zu (zu (zu M1.1 26 (zx ((M1.1 40 11) * 4)) (M1.1 40 10)) 26 (zx (((M1.1 40 11) * 4) + 1)) a2) 26 (zx (((M1.1 40 11) * 4) + 2)) a3) 26 (zx (((M1.1 40 11) * 4) + 3)) a4) 40 11 ((M1.1 40 11) + 1)), M1.2)) else none) else none) else none) else none))))) := e_X1_write_0_1 g a2 a3 a4 M
set_option maxRecDepth 20000 in
theorem e_X10_carryOut_0 (g : zg) (a2 : Int32) (a3 : Int32) (a4 : Int32) (M : zM) : zX (t_X10_carryOut g) 0 [some (.ref 6), some (.ref 7), some (.int a2), some (.int a3), some (.int a4), none] [] M = (bif cEq0 a2 then (zbV (X_X1_write g [.ref 25, .ref 7, .int (4 + a2), .int a3, .int 0] ((zu M.1 7 7 a3), M.2)) (fun M1 => some (none, M1))) else (bif cEq a2 1 then (zbV (X_X3_put g [.ref 7, .int a3, .int 2, .int a4] M) (fun M2 => (zbV (X_X1_write g [.ref 25, .ref 7, .int (4 + a2), .int a3, .int a4] ((zu M2.1 7 9 ((M2.1 7 9) - a4)), M2.2)) (fun M3 => some (none, M3))))) else (bif cEq a2 2 then (zbV (X_X3_put g [.ref 7, .int a3, .int 3, .int a4] M) (fun M4 => (zbV (X_X1_write g [.ref 25, .ref 7, .int (4 + a2), .int a3, .int a4] M4) (fun M5 => some (none, M5))))) else (bif cEq a2 3 then (zbV (X_X3_put g [.ref 7, .int a3, .int 3, .int (-1)] M) (fun M6 => (zbV (X_X1_write g [.ref 25, .ref 7, .int (4 + a2), .int a3, .int 0] M6) (fun M7 => some (none, M7))))) else (zbV (X_X3_put g [.ref 7, .int a3, .int 5, .int 0] M) (fun M8 => (zbV (X_X3_put g [.ref 7, .int a3, .int 4, .int 0] M8) (fun M9 => (zbV (X_X1_write g [.ref 25, .ref 7, .int (4 + a2), .int a3, .int 0] M9) (fun M10 => some (none, M10))))))))))) := by
  refine Eq.trans (zX_rgN (tl_X10_carryOut g) (hc_X10_carryOut g) 34 _ _ _ _) ?_
  refine Eq.trans (Eq.trans (r_0 (act := oS (fSt 1 (gC (.int 0)))) rfl) (a_C)) ?_
  refine Eq.trans (Eq.trans (r_go (act := oS (fIst 3 5)) rfl rfl) (a_ist rfl rfl)) ?_
  refine Eq.trans (Eq.trans (r_go (act := oS (fIld 4 2)) rfl rfl) (a_ild rfl)) ?_
  refine Eq.trans (Eq.trans (r_go (act := oS (fIf 7 15 cEq0)) rfl rfl) (a_if)) (bcg ?_ ?_)
  · refine Eq.trans (Eq.trans (r_go (act := oS (fAld 8 1)) rfl rfl) (a_ald rfl)) ?_
    refine Eq.trans (Eq.trans (r_go (act := oS (fIld 9 3)) rfl rfl) (a_ild rfl)) ?_
    refine Eq.trans (Eq.trans (r_go (act := oS (fPi g 12 3 7)) rfl rfl) (a_pi (zO_7 g))) ?_
    refine Eq.trans (Eq.trans (r_go (act := oS (fGo 95)) rfl rfl) (a_goto)) ?_
    refine Eq.trans (Eq.trans (r_go (act := oS (fAld 96 0)) rfl rfl) (a_ald rfl)) ?_
    refine Eq.trans (Eq.trans (r_go (act := oS (fGr g 99 10 4)) rfl rfl) (a_gr (zO_6 g) (zR_6_4 g))) ?_
    refine Eq.trans (Eq.trans (r_go (act := oS (fAld 100 1)) rfl rfl) (a_ald rfl)) ?_
    refine Eq.trans (Eq.trans (r_go (act := oS (fSt 101 (gC (.int 4)))) rfl rfl) (a_C)) ?_
    refine Eq.trans (Eq.trans (r_go (act := oS (fIld 102 2)) rfl rfl) (a_ild rfl)) ?_
    refine Eq.trans (Eq.trans (r_go (act := oS (fSt 103 (g2 (fun x y => x + y)))) rfl rfl) (a_add)) ?_
    refine Eq.trans (Eq.trans (r_go (act := oS (fIld 104 3)) rfl rfl) (a_ild rfl)) ?_
    refine Eq.trans (Eq.trans (r_go (act := oS (fIld 106 5)) rfl rfl) (a_ild rfl)) ?_
    refine Eq.trans (Eq.trans (r_go (act := oCV 109 5 (zcv g 1) (X_X1_write g)) rfl rfl) (a_cV rfl (zck (zO_25 g) rfl))) (zbV_cg (fun M1 => ?_))
    exact Eq.trans (r_go (act := oVret) rfl rfl) (a_vret)
  · refine Eq.trans (Eq.trans (r_go (act := oS (fIld 16 2)) rfl rfl) (a_ild rfl)) ?_
    refine Eq.trans (Eq.trans (r_go (act := oS (fSt 17 (gC (.int 1)))) rfl rfl) (a_C)) ?_
    refine Eq.trans (Eq.trans (r_go (act := oS (fCm 20 46 cEq)) rfl rfl) (a_cm)) (bcg ?_ ?_)
    · refine Eq.trans (Eq.trans (r_go (act := oS (fAld 21 1)) rfl rfl) (a_ald rfl)) ?_
      refine Eq.trans (Eq.trans (r_go (act := oS (fIld 22 3)) rfl rfl) (a_ild rfl)) ?_
      refine Eq.trans (Eq.trans (r_go (act := oS (fSt 23 (gC (.int 2)))) rfl rfl) (a_C)) ?_
      refine Eq.trans (Eq.trans (r_go (act := oS (fIld 25 4)) rfl rfl) (a_ild rfl)) ?_
      refine Eq.trans (Eq.trans (r_go (act := oCV 28 4 (zcv g 3) (X_X3_put g)) rfl rfl) (a_cV rfl (zck (zO_7 g) rfl))) (zbV_cg (fun M2 => ?_))
      refine Eq.trans (Eq.trans (r_go (act := oS (fAld 29 1)) rfl rfl) (a_ald rfl)) ?_
      refine Eq.trans (Eq.trans (r_go (act := oS (fSt 30 gDup)) rfl rfl) (a_dupR)) ?_
      refine Eq.trans (Eq.trans (r_go (act := oS (fGi g 33 3 9)) rfl rfl) (a_gi (zO_7 g))) ?_
      refine Eq.trans (Eq.trans (r_go (act := oS (fIld 35 4)) rfl rfl) (a_ild rfl)) ?_
      refine Eq.trans (Eq.trans (r_go (act := oS (fSt 36 (g2 (fun x y => x - y)))) rfl rfl) (a_sub)) ?_
      refine Eq.trans (Eq.trans (r_go (act := oS (fPi g 39 3 9)) rfl rfl) (a_pi (zO_7 g))) ?_
      refine Eq.trans (Eq.trans (r_go (act := oS (fIld 41 4)) rfl rfl) (a_ild rfl)) ?_
      refine Eq.trans (Eq.trans (r_go (act := oS (fIst 43 5)) rfl rfl) (a_ist rfl rfl)) ?_
      refine Eq.trans (Eq.trans (r_go (act := oS (fGo 95)) rfl rfl) (a_goto)) ?_
      refine Eq.trans (Eq.trans (r_go (act := oS (fAld 96 0)) rfl rfl) (a_ald rfl)) ?_
      refine Eq.trans (Eq.trans (r_go (act := oS (fGr g 99 10 4)) rfl rfl) (a_gr (zO_6 g) (zR_6_4 g))) ?_
      refine Eq.trans (Eq.trans (r_go (act := oS (fAld 100 1)) rfl rfl) (a_ald rfl)) ?_
      refine Eq.trans (Eq.trans (r_go (act := oS (fSt 101 (gC (.int 4)))) rfl rfl) (a_C)) ?_
      refine Eq.trans (Eq.trans (r_go (act := oS (fIld 102 2)) rfl rfl) (a_ild rfl)) ?_
      refine Eq.trans (Eq.trans (r_go (act := oS (fSt 103 (g2 (fun x y => x + y)))) rfl rfl) (a_add)) ?_
      refine Eq.trans (Eq.trans (r_go (act := oS (fIld 104 3)) rfl rfl) (a_ild rfl)) ?_
      refine Eq.trans (Eq.trans (r_go (act := oS (fIld 106 5)) rfl rfl) (a_ild rfl)) ?_
      refine Eq.trans (Eq.trans (r_go (act := oCV 109 5 (zcv g 1) (X_X1_write g)) rfl rfl) (a_cV rfl (zck (zO_25 g) rfl))) (zbV_cg (fun M3 => ?_))
      exact Eq.trans (r_go (act := oVret) rfl rfl) (a_vret)
    · refine Eq.trans (Eq.trans (r_go (act := oS (fIld 47 2)) rfl rfl) (a_ild rfl)) ?_
      refine Eq.trans (Eq.trans (r_go (act := oS (fSt 48 (gC (.int 2)))) rfl rfl) (a_C)) ?_
      refine Eq.trans (Eq.trans (r_go (act := oS (fCm 51 66 cEq)) rfl rfl) (a_cm)) (bcg ?_ ?_)
      · refine Eq.trans (Eq.trans (r_go (act := oS (fAld 52 1)) rfl rfl) (a_ald rfl)) ?_
        refine Eq.trans (Eq.trans (r_go (act := oS (fIld 53 3)) rfl rfl) (a_ild rfl)) ?_
        refine Eq.trans (Eq.trans (r_go (act := oS (fSt 54 (gC (.int 3)))) rfl rfl) (a_C)) ?_
        refine Eq.trans (Eq.trans (r_go (act := oS (fIld 56 4)) rfl rfl) (a_ild rfl)) ?_
        refine Eq.trans (Eq.trans (r_go (act := oCV 59 4 (zcv g 3) (X_X3_put g)) rfl rfl) (a_cV rfl (zck (zO_7 g) rfl))) (zbV_cg (fun M4 => ?_))
        refine Eq.trans (Eq.trans (r_go (act := oS (fIld 61 4)) rfl rfl) (a_ild rfl)) ?_
        refine Eq.trans (Eq.trans (r_go (act := oS (fIst 63 5)) rfl rfl) (a_ist rfl rfl)) ?_
        refine Eq.trans (Eq.trans (r_go (act := oS (fGo 95)) rfl rfl) (a_goto)) ?_
        refine Eq.trans (Eq.trans (r_go (act := oS (fAld 96 0)) rfl rfl) (a_ald rfl)) ?_
        refine Eq.trans (Eq.trans (r_go (act := oS (fGr g 99 10 4)) rfl rfl) (a_gr (zO_6 g) (zR_6_4 g))) ?_
        refine Eq.trans (Eq.trans (r_go (act := oS (fAld 100 1)) rfl rfl) (a_ald rfl)) ?_
        refine Eq.trans (Eq.trans (r_go (act := oS (fSt 101 (gC (.int 4)))) rfl rfl) (a_C)) ?_
        refine Eq.trans (Eq.trans (r_go (act := oS (fIld 102 2)) rfl rfl) (a_ild rfl)) ?_
        refine Eq.trans (Eq.trans (r_go (act := oS (fSt 103 (g2 (fun x y => x + y)))) rfl rfl) (a_add)) ?_
        refine Eq.trans (Eq.trans (r_go (act := oS (fIld 104 3)) rfl rfl) (a_ild rfl)) ?_
        refine Eq.trans (Eq.trans (r_go (act := oS (fIld 106 5)) rfl rfl) (a_ild rfl)) ?_
        refine Eq.trans (Eq.trans (r_go (act := oCV 109 5 (zcv g 1) (X_X1_write g)) rfl rfl) (a_cV rfl (zck (zO_25 g) rfl))) (zbV_cg (fun M5 => ?_))
        exact Eq.trans (r_go (act := oVret) rfl rfl) (a_vret)
      · refine Eq.trans (Eq.trans (r_go (act := oS (fIld 67 2)) rfl rfl) (a_ild rfl)) ?_
        refine Eq.trans (Eq.trans (r_go (act := oS (fSt 68 (gC (.int 3)))) rfl rfl) (a_C)) ?_
        refine Eq.trans (Eq.trans (r_go (act := oS (fCm 71 81 cEq)) rfl rfl) (a_cm)) (bcg ?_ ?_)
        · refine Eq.trans (Eq.trans (r_go (act := oS (fAld 72 1)) rfl rfl) (a_ald rfl)) ?_
          refine Eq.trans (Eq.trans (r_go (act := oS (fIld 73 3)) rfl rfl) (a_ild rfl)) ?_
          refine Eq.trans (Eq.trans (r_go (act := oS (fSt 74 (gC (.int 3)))) rfl rfl) (a_C)) ?_
          refine Eq.trans (Eq.trans (r_go (act := oS (fSt 75 (gC (.int (-1))))) rfl rfl) (a_C)) ?_
          refine Eq.trans (Eq.trans (r_go (act := oCV 78 4 (zcv g 3) (X_X3_put g)) rfl rfl) (a_cV rfl (zck (zO_7 g) rfl))) (zbV_cg (fun M6 => ?_))
          refine Eq.trans (Eq.trans (r_go (act := oS (fGo 95)) rfl rfl) (a_goto)) ?_
          refine Eq.trans (Eq.trans (r_go (act := oS (fAld 96 0)) rfl rfl) (a_ald rfl)) ?_
          refine Eq.trans (Eq.trans (r_go (act := oS (fGr g 99 10 4)) rfl rfl) (a_gr (zO_6 g) (zR_6_4 g))) ?_
          refine Eq.trans (Eq.trans (r_go (act := oS (fAld 100 1)) rfl rfl) (a_ald rfl)) ?_
          refine Eq.trans (Eq.trans (r_go (act := oS (fSt 101 (gC (.int 4)))) rfl rfl) (a_C)) ?_
          refine Eq.trans (Eq.trans (r_go (act := oS (fIld 102 2)) rfl rfl) (a_ild rfl)) ?_
          refine Eq.trans (Eq.trans (r_go (act := oS (fSt 103 (g2 (fun x y => x + y)))) rfl rfl) (a_add)) ?_
          refine Eq.trans (Eq.trans (r_go (act := oS (fIld 104 3)) rfl rfl) (a_ild rfl)) ?_
          refine Eq.trans (Eq.trans (r_go (act := oS (fIld 106 5)) rfl rfl) (a_ild rfl)) ?_
          refine Eq.trans (Eq.trans (r_go (act := oCV 109 5 (zcv g 1) (X_X1_write g)) rfl rfl) (a_cV rfl (zck (zO_25 g) rfl))) (zbV_cg (fun M7 => ?_))
          exact Eq.trans (r_go (act := oVret) rfl rfl) (a_vret)
        · refine Eq.trans (Eq.trans (r_go (act := oS (fAld 82 1)) rfl rfl) (a_ald rfl)) ?_
          refine Eq.trans (Eq.trans (r_go (act := oS (fIld 83 3)) rfl rfl) (a_ild rfl)) ?_
          refine Eq.trans (Eq.trans (r_go (act := oS (fSt 84 (gC (.int 5)))) rfl rfl) (a_C)) ?_
          refine Eq.trans (Eq.trans (r_go (act := oS (fSt 85 (gC (.int 0)))) rfl rfl) (a_C)) ?_
          refine Eq.trans (Eq.trans (r_go (act := oCV 88 4 (zcv g 3) (X_X3_put g)) rfl rfl) (a_cV rfl (zck (zO_7 g) rfl))) (zbV_cg (fun M8 => ?_))
          refine Eq.trans (Eq.trans (r_go (act := oS (fAld 89 1)) rfl rfl) (a_ald rfl)) ?_
          refine Eq.trans (Eq.trans (r_go (act := oS (fIld 90 3)) rfl rfl) (a_ild rfl)) ?_
          refine Eq.trans (Eq.trans (r_go (act := oS (fSt 91 (gC (.int 4)))) rfl rfl) (a_C)) ?_
          refine Eq.trans (Eq.trans (r_go (act := oS (fSt 92 (gC (.int 0)))) rfl rfl) (a_C)) ?_
          refine Eq.trans (Eq.trans (r_go (act := oCV 95 4 (zcv g 3) (X_X3_put g)) rfl rfl) (a_cV rfl (zck (zO_7 g) rfl))) (zbV_cg (fun M9 => ?_))
          refine Eq.trans (Eq.trans (r_go (act := oS (fAld 96 0)) rfl rfl) (a_ald rfl)) ?_
          refine Eq.trans (Eq.trans (r_go (act := oS (fGr g 99 10 4)) rfl rfl) (a_gr (zO_6 g) (zR_6_4 g))) ?_
          refine Eq.trans (Eq.trans (r_go (act := oS (fAld 100 1)) rfl rfl) (a_ald rfl)) ?_
          refine Eq.trans (Eq.trans (r_go (act := oS (fSt 101 (gC (.int 4)))) rfl rfl) (a_C)) ?_
          refine Eq.trans (Eq.trans (r_go (act := oS (fIld 102 2)) rfl rfl) (a_ild rfl)) ?_
          refine Eq.trans (Eq.trans (r_go (act := oS (fSt 103 (g2 (fun x y => x + y)))) rfl rfl) (a_add)) ?_
          refine Eq.trans (Eq.trans (r_go (act := oS (fIld 104 3)) rfl rfl) (a_ild rfl)) ?_
          refine Eq.trans (Eq.trans (r_go (act := oS (fIld 106 5)) rfl rfl) (a_ild rfl)) ?_
          refine Eq.trans (Eq.trans (r_go (act := oCV 109 5 (zcv g 1) (X_X1_write g)) rfl rfl) (a_cV rfl (zck (zO_25 g) rfl))) (zbV_cg (fun M10 => ?_))
          exact Eq.trans (r_go (act := oVret) rfl rfl) (a_vret)
theorem x_X10_carryOut_0 (g : zg) (a2 : Int32) (a3 : Int32) (a4 : Int32) (M : zM) : X_X10_carryOut g [.ref 6, .ref 7, .int a2, .int a3, .int a4] M = (bif cEq0 a2 then (zbV (X_X1_write g [.ref 25, .ref 7, .int (4 + a2), .int a3, .int 0] ((zu M.1 7 7 a3), M.2)) (fun M1 => some (none, M1))) else (bif cEq a2 1 then (zbV (X_X3_put g [.ref 7, .int a3, .int 2, .int a4] M) (fun M2 => (zbV (X_X1_write g [.ref 25, .ref 7, .int (4 + a2), .int a3, .int a4] ((zu M2.1 7 9 ((M2.1 7 9) - a4)), M2.2)) (fun M3 => some (none, M3))))) else (bif cEq a2 2 then (zbV (X_X3_put g [.ref 7, .int a3, .int 3, .int a4] M) (fun M4 => (zbV (X_X1_write g [.ref 25, .ref 7, .int (4 + a2), .int a3, .int a4] M4) (fun M5 => some (none, M5))))) else (bif cEq a2 3 then (zbV (X_X3_put g [.ref 7, .int a3, .int 3, .int (-1)] M) (fun M6 => (zbV (X_X1_write g [.ref 25, .ref 7, .int (4 + a2), .int a3, .int 0] M6) (fun M7 => some (none, M7))))) else (zbV (X_X3_put g [.ref 7, .int a3, .int 5, .int 0] M) (fun M8 => (zbV (X_X3_put g [.ref 7, .int a3, .int 4, .int 0] M8) (fun M9 => (zbV (X_X1_write g [.ref 25, .ref 7, .int (4 + a2), .int a3, .int 0] M9) (fun M10 => some (none, M10))))))))))) := e_X10_carryOut_0 g a2 a3 a4 M
set_option maxRecDepth 20000 in
theorem e_X10_carryOut_0_1 (g : zg) (a2 : Int32) (a3 : Int32) (a4 : Int32) (M : zM) : zX (t_X10_carryOut g) 0 [some (.ref 6), some (.ref 40), some (.int a2), some (.int a3), some (.int a4), none] [] M = (bif cEq0 a2 then (zbV (X_X1_write g [.ref 25, .ref 40, .int (4 + a2), .int a3, .int 0] ((zu M.1 40 7 a3), M.2)) (fun M1 => some (none, M1))) else (bif cEq a2 1 then (zbV (X_X3_put g [.ref 40, .int a3, .int 2, .int a4] M) (fun M2 => (zbV (X_X1_write g [.ref 25, .ref 40, .int (4 + a2), .int a3, .int a4] ((zu M2.1 40 9 ((M2.1 40 9) - a4)), M2.2)) (fun M3 => some (none, M3))))) else (bif cEq a2 2 then (zbV (X_X3_put g [.ref 40, .int a3, .int 3, .int a4] M) (fun M4 => (zbV (X_X1_write g [.ref 25, .ref 40, .int (4 + a2), .int a3, .int a4] M4) (fun M5 => some (none, M5))))) else (bif cEq a2 3 then (zbV (X_X3_put g [.ref 40, .int a3, .int 3, .int (-1)] M) (fun M6 => (zbV (X_X1_write g [.ref 25, .ref 40, .int (4 + a2), .int a3, .int 0] M6) (fun M7 => some (none, M7))))) else (zbV (X_X3_put g [.ref 40, .int a3, .int 5, .int 0] M) (fun M8 => (zbV (X_X3_put g [.ref 40, .int a3, .int 4, .int 0] M8) (fun M9 => (zbV (X_X1_write g [.ref 25, .ref 40, .int (4 + a2), .int a3, .int 0] M9) (fun M10 => some (none, M10))))))))))) := by
  refine Eq.trans (zX_rgN (tl_X10_carryOut g) (hc_X10_carryOut g) 34 _ _ _ _) ?_
  refine Eq.trans (Eq.trans (r_0 (act := oS (fSt 1 (gC (.int 0)))) rfl) (a_C)) ?_
  refine Eq.trans (Eq.trans (r_go (act := oS (fIst 3 5)) rfl rfl) (a_ist rfl rfl)) ?_
  refine Eq.trans (Eq.trans (r_go (act := oS (fIld 4 2)) rfl rfl) (a_ild rfl)) ?_
  refine Eq.trans (Eq.trans (r_go (act := oS (fIf 7 15 cEq0)) rfl rfl) (a_if)) (bcg ?_ ?_)
  · refine Eq.trans (Eq.trans (r_go (act := oS (fAld 8 1)) rfl rfl) (a_ald rfl)) ?_
    refine Eq.trans (Eq.trans (r_go (act := oS (fIld 9 3)) rfl rfl) (a_ild rfl)) ?_
    refine Eq.trans (Eq.trans (r_go (act := oS (fPi g 12 3 7)) rfl rfl) (a_pi (zO_40 g))) ?_
    refine Eq.trans (Eq.trans (r_go (act := oS (fGo 95)) rfl rfl) (a_goto)) ?_
    refine Eq.trans (Eq.trans (r_go (act := oS (fAld 96 0)) rfl rfl) (a_ald rfl)) ?_
    refine Eq.trans (Eq.trans (r_go (act := oS (fGr g 99 10 4)) rfl rfl) (a_gr (zO_6 g) (zR_6_4 g))) ?_
    refine Eq.trans (Eq.trans (r_go (act := oS (fAld 100 1)) rfl rfl) (a_ald rfl)) ?_
    refine Eq.trans (Eq.trans (r_go (act := oS (fSt 101 (gC (.int 4)))) rfl rfl) (a_C)) ?_
    refine Eq.trans (Eq.trans (r_go (act := oS (fIld 102 2)) rfl rfl) (a_ild rfl)) ?_
    refine Eq.trans (Eq.trans (r_go (act := oS (fSt 103 (g2 (fun x y => x + y)))) rfl rfl) (a_add)) ?_
    refine Eq.trans (Eq.trans (r_go (act := oS (fIld 104 3)) rfl rfl) (a_ild rfl)) ?_
    refine Eq.trans (Eq.trans (r_go (act := oS (fIld 106 5)) rfl rfl) (a_ild rfl)) ?_
    refine Eq.trans (Eq.trans (r_go (act := oCV 109 5 (zcv g 1) (X_X1_write g)) rfl rfl) (a_cV rfl (zck (zO_25 g) rfl))) (zbV_cg (fun M1 => ?_))
    exact Eq.trans (r_go (act := oVret) rfl rfl) (a_vret)
  · refine Eq.trans (Eq.trans (r_go (act := oS (fIld 16 2)) rfl rfl) (a_ild rfl)) ?_
    refine Eq.trans (Eq.trans (r_go (act := oS (fSt 17 (gC (.int 1)))) rfl rfl) (a_C)) ?_
    refine Eq.trans (Eq.trans (r_go (act := oS (fCm 20 46 cEq)) rfl rfl) (a_cm)) (bcg ?_ ?_)
    · refine Eq.trans (Eq.trans (r_go (act := oS (fAld 21 1)) rfl rfl) (a_ald rfl)) ?_
      refine Eq.trans (Eq.trans (r_go (act := oS (fIld 22 3)) rfl rfl) (a_ild rfl)) ?_
      refine Eq.trans (Eq.trans (r_go (act := oS (fSt 23 (gC (.int 2)))) rfl rfl) (a_C)) ?_
      refine Eq.trans (Eq.trans (r_go (act := oS (fIld 25 4)) rfl rfl) (a_ild rfl)) ?_
      refine Eq.trans (Eq.trans (r_go (act := oCV 28 4 (zcv g 3) (X_X3_put g)) rfl rfl) (a_cV rfl (zck (zO_40 g) rfl))) (zbV_cg (fun M2 => ?_))
      refine Eq.trans (Eq.trans (r_go (act := oS (fAld 29 1)) rfl rfl) (a_ald rfl)) ?_
      refine Eq.trans (Eq.trans (r_go (act := oS (fSt 30 gDup)) rfl rfl) (a_dupR)) ?_
      refine Eq.trans (Eq.trans (r_go (act := oS (fGi g 33 3 9)) rfl rfl) (a_gi (zO_40 g))) ?_
      refine Eq.trans (Eq.trans (r_go (act := oS (fIld 35 4)) rfl rfl) (a_ild rfl)) ?_
      refine Eq.trans (Eq.trans (r_go (act := oS (fSt 36 (g2 (fun x y => x - y)))) rfl rfl) (a_sub)) ?_
      refine Eq.trans (Eq.trans (r_go (act := oS (fPi g 39 3 9)) rfl rfl) (a_pi (zO_40 g))) ?_
      refine Eq.trans (Eq.trans (r_go (act := oS (fIld 41 4)) rfl rfl) (a_ild rfl)) ?_
      refine Eq.trans (Eq.trans (r_go (act := oS (fIst 43 5)) rfl rfl) (a_ist rfl rfl)) ?_
      refine Eq.trans (Eq.trans (r_go (act := oS (fGo 95)) rfl rfl) (a_goto)) ?_
      refine Eq.trans (Eq.trans (r_go (act := oS (fAld 96 0)) rfl rfl) (a_ald rfl)) ?_
      refine Eq.trans (Eq.trans (r_go (act := oS (fGr g 99 10 4)) rfl rfl) (a_gr (zO_6 g) (zR_6_4 g))) ?_
      refine Eq.trans (Eq.trans (r_go (act := oS (fAld 100 1)) rfl rfl) (a_ald rfl)) ?_
      refine Eq.trans (Eq.trans (r_go (act := oS (fSt 101 (gC (.int 4)))) rfl rfl) (a_C)) ?_
      refine Eq.trans (Eq.trans (r_go (act := oS (fIld 102 2)) rfl rfl) (a_ild rfl)) ?_
      refine Eq.trans (Eq.trans (r_go (act := oS (fSt 103 (g2 (fun x y => x + y)))) rfl rfl) (a_add)) ?_
      refine Eq.trans (Eq.trans (r_go (act := oS (fIld 104 3)) rfl rfl) (a_ild rfl)) ?_
      refine Eq.trans (Eq.trans (r_go (act := oS (fIld 106 5)) rfl rfl) (a_ild rfl)) ?_
      refine Eq.trans (Eq.trans (r_go (act := oCV 109 5 (zcv g 1) (X_X1_write g)) rfl rfl) (a_cV rfl (zck (zO_25 g) rfl))) (zbV_cg (fun M3 => ?_))
      exact Eq.trans (r_go (act := oVret) rfl rfl) (a_vret)
    · refine Eq.trans (Eq.trans (r_go (act := oS (fIld 47 2)) rfl rfl) (a_ild rfl)) ?_
      refine Eq.trans (Eq.trans (r_go (act := oS (fSt 48 (gC (.int 2)))) rfl rfl) (a_C)) ?_
      refine Eq.trans (Eq.trans (r_go (act := oS (fCm 51 66 cEq)) rfl rfl) (a_cm)) (bcg ?_ ?_)
      · refine Eq.trans (Eq.trans (r_go (act := oS (fAld 52 1)) rfl rfl) (a_ald rfl)) ?_
        refine Eq.trans (Eq.trans (r_go (act := oS (fIld 53 3)) rfl rfl) (a_ild rfl)) ?_
        refine Eq.trans (Eq.trans (r_go (act := oS (fSt 54 (gC (.int 3)))) rfl rfl) (a_C)) ?_
        refine Eq.trans (Eq.trans (r_go (act := oS (fIld 56 4)) rfl rfl) (a_ild rfl)) ?_
        refine Eq.trans (Eq.trans (r_go (act := oCV 59 4 (zcv g 3) (X_X3_put g)) rfl rfl) (a_cV rfl (zck (zO_40 g) rfl))) (zbV_cg (fun M4 => ?_))
        refine Eq.trans (Eq.trans (r_go (act := oS (fIld 61 4)) rfl rfl) (a_ild rfl)) ?_
        refine Eq.trans (Eq.trans (r_go (act := oS (fIst 63 5)) rfl rfl) (a_ist rfl rfl)) ?_
        refine Eq.trans (Eq.trans (r_go (act := oS (fGo 95)) rfl rfl) (a_goto)) ?_
        refine Eq.trans (Eq.trans (r_go (act := oS (fAld 96 0)) rfl rfl) (a_ald rfl)) ?_
        refine Eq.trans (Eq.trans (r_go (act := oS (fGr g 99 10 4)) rfl rfl) (a_gr (zO_6 g) (zR_6_4 g))) ?_
        refine Eq.trans (Eq.trans (r_go (act := oS (fAld 100 1)) rfl rfl) (a_ald rfl)) ?_
        refine Eq.trans (Eq.trans (r_go (act := oS (fSt 101 (gC (.int 4)))) rfl rfl) (a_C)) ?_
        refine Eq.trans (Eq.trans (r_go (act := oS (fIld 102 2)) rfl rfl) (a_ild rfl)) ?_
        refine Eq.trans (Eq.trans (r_go (act := oS (fSt 103 (g2 (fun x y => x + y)))) rfl rfl) (a_add)) ?_
        refine Eq.trans (Eq.trans (r_go (act := oS (fIld 104 3)) rfl rfl) (a_ild rfl)) ?_
        refine Eq.trans (Eq.trans (r_go (act := oS (fIld 106 5)) rfl rfl) (a_ild rfl)) ?_
        refine Eq.trans (Eq.trans (r_go (act := oCV 109 5 (zcv g 1) (X_X1_write g)) rfl rfl) (a_cV rfl (zck (zO_25 g) rfl))) (zbV_cg (fun M5 => ?_))
        exact Eq.trans (r_go (act := oVret) rfl rfl) (a_vret)
      · refine Eq.trans (Eq.trans (r_go (act := oS (fIld 67 2)) rfl rfl) (a_ild rfl)) ?_
        refine Eq.trans (Eq.trans (r_go (act := oS (fSt 68 (gC (.int 3)))) rfl rfl) (a_C)) ?_
        refine Eq.trans (Eq.trans (r_go (act := oS (fCm 71 81 cEq)) rfl rfl) (a_cm)) (bcg ?_ ?_)
        · refine Eq.trans (Eq.trans (r_go (act := oS (fAld 72 1)) rfl rfl) (a_ald rfl)) ?_
          refine Eq.trans (Eq.trans (r_go (act := oS (fIld 73 3)) rfl rfl) (a_ild rfl)) ?_
          refine Eq.trans (Eq.trans (r_go (act := oS (fSt 74 (gC (.int 3)))) rfl rfl) (a_C)) ?_
          refine Eq.trans (Eq.trans (r_go (act := oS (fSt 75 (gC (.int (-1))))) rfl rfl) (a_C)) ?_
          refine Eq.trans (Eq.trans (r_go (act := oCV 78 4 (zcv g 3) (X_X3_put g)) rfl rfl) (a_cV rfl (zck (zO_40 g) rfl))) (zbV_cg (fun M6 => ?_))
          refine Eq.trans (Eq.trans (r_go (act := oS (fGo 95)) rfl rfl) (a_goto)) ?_
          refine Eq.trans (Eq.trans (r_go (act := oS (fAld 96 0)) rfl rfl) (a_ald rfl)) ?_
          refine Eq.trans (Eq.trans (r_go (act := oS (fGr g 99 10 4)) rfl rfl) (a_gr (zO_6 g) (zR_6_4 g))) ?_
          refine Eq.trans (Eq.trans (r_go (act := oS (fAld 100 1)) rfl rfl) (a_ald rfl)) ?_
          refine Eq.trans (Eq.trans (r_go (act := oS (fSt 101 (gC (.int 4)))) rfl rfl) (a_C)) ?_
          refine Eq.trans (Eq.trans (r_go (act := oS (fIld 102 2)) rfl rfl) (a_ild rfl)) ?_
          refine Eq.trans (Eq.trans (r_go (act := oS (fSt 103 (g2 (fun x y => x + y)))) rfl rfl) (a_add)) ?_
          refine Eq.trans (Eq.trans (r_go (act := oS (fIld 104 3)) rfl rfl) (a_ild rfl)) ?_
          refine Eq.trans (Eq.trans (r_go (act := oS (fIld 106 5)) rfl rfl) (a_ild rfl)) ?_
          refine Eq.trans (Eq.trans (r_go (act := oCV 109 5 (zcv g 1) (X_X1_write g)) rfl rfl) (a_cV rfl (zck (zO_25 g) rfl))) (zbV_cg (fun M7 => ?_))
          exact Eq.trans (r_go (act := oVret) rfl rfl) (a_vret)
        · refine Eq.trans (Eq.trans (r_go (act := oS (fAld 82 1)) rfl rfl) (a_ald rfl)) ?_
          refine Eq.trans (Eq.trans (r_go (act := oS (fIld 83 3)) rfl rfl) (a_ild rfl)) ?_
          refine Eq.trans (Eq.trans (r_go (act := oS (fSt 84 (gC (.int 5)))) rfl rfl) (a_C)) ?_
          refine Eq.trans (Eq.trans (r_go (act := oS (fSt 85 (gC (.int 0)))) rfl rfl) (a_C)) ?_
          refine Eq.trans (Eq.trans (r_go (act := oCV 88 4 (zcv g 3) (X_X3_put g)) rfl rfl) (a_cV rfl (zck (zO_40 g) rfl))) (zbV_cg (fun M8 => ?_))
          refine Eq.trans (Eq.trans (r_go (act := oS (fAld 89 1)) rfl rfl) (a_ald rfl)) ?_
          refine Eq.trans (Eq.trans (r_go (act := oS (fIld 90 3)) rfl rfl) (a_ild rfl)) ?_
          refine Eq.trans (Eq.trans (r_go (act := oS (fSt 91 (gC (.int 4)))) rfl rfl) (a_C)) ?_
          refine Eq.trans (Eq.trans (r_go (act := oS (fSt 92 (gC (.int 0)))) rfl rfl) (a_C)) ?_
          refine Eq.trans (Eq.trans (r_go (act := oCV 95 4 (zcv g 3) (X_X3_put g)) rfl rfl) (a_cV rfl (zck (zO_40 g) rfl))) (zbV_cg (fun M9 => ?_))
          refine Eq.trans (Eq.trans (r_go (act := oS (fAld 96 0)) rfl rfl) (a_ald rfl)) ?_
          refine Eq.trans (Eq.trans (r_go (act := oS (fGr g 99 10 4)) rfl rfl) (a_gr (zO_6 g) (zR_6_4 g))) ?_
          refine Eq.trans (Eq.trans (r_go (act := oS (fAld 100 1)) rfl rfl) (a_ald rfl)) ?_
          refine Eq.trans (Eq.trans (r_go (act := oS (fSt 101 (gC (.int 4)))) rfl rfl) (a_C)) ?_
          refine Eq.trans (Eq.trans (r_go (act := oS (fIld 102 2)) rfl rfl) (a_ild rfl)) ?_
          refine Eq.trans (Eq.trans (r_go (act := oS (fSt 103 (g2 (fun x y => x + y)))) rfl rfl) (a_add)) ?_
          refine Eq.trans (Eq.trans (r_go (act := oS (fIld 104 3)) rfl rfl) (a_ild rfl)) ?_
          refine Eq.trans (Eq.trans (r_go (act := oS (fIld 106 5)) rfl rfl) (a_ild rfl)) ?_
          refine Eq.trans (Eq.trans (r_go (act := oCV 109 5 (zcv g 1) (X_X1_write g)) rfl rfl) (a_cV rfl (zck (zO_25 g) rfl))) (zbV_cg (fun M10 => ?_))
          exact Eq.trans (r_go (act := oVret) rfl rfl) (a_vret)
theorem x_X10_carryOut_0_1 (g : zg) (a2 : Int32) (a3 : Int32) (a4 : Int32) (M : zM) : X_X10_carryOut g [.ref 6, .ref 40, .int a2, .int a3, .int a4] M = (bif cEq0 a2 then (zbV (X_X1_write g [.ref 25, .ref 40, .int (4 + a2), .int a3, .int 0] ((zu M.1 40 7 a3), M.2)) (fun M1 => some (none, M1))) else (bif cEq a2 1 then (zbV (X_X3_put g [.ref 40, .int a3, .int 2, .int a4] M) (fun M2 => (zbV (X_X1_write g [.ref 25, .ref 40, .int (4 + a2), .int a3, .int a4] ((zu M2.1 40 9 ((M2.1 40 9) - a4)), M2.2)) (fun M3 => some (none, M3))))) else (bif cEq a2 2 then (zbV (X_X3_put g [.ref 40, .int a3, .int 3, .int a4] M) (fun M4 => (zbV (X_X1_write g [.ref 25, .ref 40, .int (4 + a2), .int a3, .int a4] M4) (fun M5 => some (none, M5))))) else (bif cEq a2 3 then (zbV (X_X3_put g [.ref 40, .int a3, .int 3, .int (-1)] M) (fun M6 => (zbV (X_X1_write g [.ref 25, .ref 40, .int (4 + a2), .int a3, .int 0] M6) (fun M7 => some (none, M7))))) else (zbV (X_X3_put g [.ref 40, .int a3, .int 5, .int 0] M) (fun M8 => (zbV (X_X3_put g [.ref 40, .int a3, .int 4, .int 0] M8) (fun M9 => (zbV (X_X1_write g [.ref 25, .ref 40, .int (4 + a2), .int a3, .int 0] M9) (fun M10 => some (none, M10))))))))))) := e_X10_carryOut_0_1 g a2 a3 a4 M
set_option maxRecDepth 20000 in
theorem e_X11_act_0 (g : zg) (a1 : Int32) (a2 : Int32) (a3 : Int32) (M : zM) : zX (t_X11_act g) 0 [some (.ref 0), some (.int a1), some (.int a2), some (.int a3)] [] M = (zbI (X_X3_allows g [.ref 7, .int a1, .int a2, .int a3] M) (fun x1 M1 => (bif cEq0 x1 then some (some (.int 0), M1) else (zbV (X_X8_keep g [.ref 42, .ref 7] M1) (fun M2 => (zbV (X_X10_carryOut g [.ref 6, .ref 7, .int a1, .int a2, .int a3] M2) (fun M3 => some (some (.int 1), M3)))))))) := by
  refine Eq.trans (zX_rgN (tl_X11_act g) (hc_X11_act g) 26 _ _ _ _) ?_
  refine Eq.trans (Eq.trans (r_0 (act := oS (fAld 1 0)) rfl) (a_ald rfl)) ?_
  refine Eq.trans (Eq.trans (r_go (act := oS (fGr g 4 11 1)) rfl rfl) (a_gr (zO_0 g) (zR_0_1 g))) ?_
  refine Eq.trans (Eq.trans (r_go (act := oS (fGr g 7 10 0)) rfl rfl) (a_gr (zO_6 g) (zR_6_0 g))) ?_
  refine Eq.trans (Eq.trans (r_go (act := oS (fIld 8 1)) rfl rfl) (a_ild rfl)) ?_
  refine Eq.trans (Eq.trans (r_go (act := oS (fIld 9 2)) rfl rfl) (a_ild rfl)) ?_
  refine Eq.trans (Eq.trans (r_go (act := oS (fIld 10 3)) rfl rfl) (a_ild rfl)) ?_
  refine Eq.trans (Eq.trans (r_go (act := oCI 13 4 (zcv g 3) (X_X3_allows g)) rfl rfl) (a_cI rfl (zck (zO_7 g) rfl))) (zbI_cg (fun x1 M1 => ?_))
  refine Eq.trans (Eq.trans (r_go (act := oS (fIf 16 18 cEq0)) rfl rfl) (a_if)) (bcg ?_ ?_)
  · refine Eq.trans (Eq.trans (r_go (act := oS (fSt 17 (gC (.int 0)))) rfl rfl) (a_C)) ?_
    exact Eq.trans (Eq.trans (r_go (act := oZret) rfl rfl) a_zret) (bcT (by decide +kernel))
  · refine Eq.trans (Eq.trans (r_go (act := oS (fAld 19 0)) rfl rfl) (a_ald rfl)) ?_
    refine Eq.trans (Eq.trans (r_go (act := oS (fGr g 22 11 3)) rfl rfl) (a_gr (zO_0 g) (zR_0_3 g))) ?_
    refine Eq.trans (Eq.trans (r_go (act := oS (fAld 23 0)) rfl rfl) (a_ald rfl)) ?_
    refine Eq.trans (Eq.trans (r_go (act := oS (fGr g 26 11 1)) rfl rfl) (a_gr (zO_0 g) (zR_0_1 g))) ?_
    refine Eq.trans (Eq.trans (r_go (act := oS (fGr g 29 10 0)) rfl rfl) (a_gr (zO_6 g) (zR_6_0 g))) ?_
    refine Eq.trans (Eq.trans (r_go (act := oCV 32 2 (zcv g 8) (X_X8_keep g)) rfl rfl) (a_cV rfl (zck (zO_42 g) rfl))) (zbV_cg (fun M2 => ?_))
    refine Eq.trans (Eq.trans (r_go (act := oS (fAld 33 0)) rfl rfl) (a_ald rfl)) ?_
    refine Eq.trans (Eq.trans (r_go (act := oS (fGr g 36 11 1)) rfl rfl) (a_gr (zO_0 g) (zR_0_1 g))) ?_
    refine Eq.trans (Eq.trans (r_go (act := oS (fAld 37 0)) rfl rfl) (a_ald rfl)) ?_
    refine Eq.trans (Eq.trans (r_go (act := oS (fGr g 40 11 1)) rfl rfl) (a_gr (zO_0 g) (zR_0_1 g))) ?_
    refine Eq.trans (Eq.trans (r_go (act := oS (fGr g 43 10 0)) rfl rfl) (a_gr (zO_6 g) (zR_6_0 g))) ?_
    refine Eq.trans (Eq.trans (r_go (act := oS (fIld 44 1)) rfl rfl) (a_ild rfl)) ?_
    refine Eq.trans (Eq.trans (r_go (act := oS (fIld 45 2)) rfl rfl) (a_ild rfl)) ?_
    refine Eq.trans (Eq.trans (r_go (act := oS (fIld 46 3)) rfl rfl) (a_ild rfl)) ?_
    refine Eq.trans (Eq.trans (r_go (act := oCV 49 5 (zcv g 10) (X_X10_carryOut g)) rfl rfl) (a_cV rfl (zck (zO_6 g) rfl))) (zbV_cg (fun M3 => ?_))
    refine Eq.trans (Eq.trans (r_go (act := oS (fSt 50 (gC (.int 1)))) rfl rfl) (a_C)) ?_
    exact Eq.trans (Eq.trans (r_go (act := oZret) rfl rfl) a_zret) (bcT (by decide +kernel))
theorem x_X11_act_0 (g : zg) (a1 : Int32) (a2 : Int32) (a3 : Int32) (M : zM) : X_X11_act g [.ref 0, .int a1, .int a2, .int a3] M = (zbI (X_X3_allows g [.ref 7, .int a1, .int a2, .int a3] M) (fun x1 M1 => (bif cEq0 x1 then some (some (.int 0), M1) else (zbV (X_X8_keep g [.ref 42, .ref 7] M1) (fun M2 => (zbV (X_X10_carryOut g [.ref 6, .ref 7, .int a1, .int a2, .int a3] M2) (fun M3 => some (some (.int 1), M3)))))))) := e_X11_act_0 g a1 a2 a3 M
set_option maxRecDepth 20000 in
theorem e_X3_tapAll_0 (g : zg) (M : zM) : zX (t_X3_tapAll g) 0 [some (.ref 7), none] [] M = zX (t_X3_tapAll g) 2 [some (.ref 7), some (.int 0)] [] M := by
  refine Eq.trans (zX_rgN (tl_X3_tapAll g) (hc_X3_tapAll g) 4 _ _ _ _) ?_
  refine Eq.trans (Eq.trans (r_0 (act := oS (fSt 1 (gC (.int 0)))) rfl) (a_C)) ?_
  refine Eq.trans (Eq.trans (r_go (act := oS (fIst 2 1)) rfl rfl) (a_ist rfl rfl)) ?_
  exact r_cut rfl rfl
theorem x_X3_tapAll_0 (g : zg) (M : zM) : X_X3_tapAll g [.ref 7] M = zX (t_X3_tapAll g) 2 [some (.ref 7), some (.int 0)] [] M := e_X3_tapAll_0 g M
set_option maxRecDepth 20000 in
theorem e_X3_tapAll_0_1 (g : zg) (M : zM) : zX (t_X3_tapAll g) 0 [some (.ref 40), none] [] M = zX (t_X3_tapAll g) 2 [some (.ref 40), some (.int 0)] [] M := by
  refine Eq.trans (zX_rgN (tl_X3_tapAll g) (hc_X3_tapAll g) 4 _ _ _ _) ?_
  refine Eq.trans (Eq.trans (r_0 (act := oS (fSt 1 (gC (.int 0)))) rfl) (a_C)) ?_
  refine Eq.trans (Eq.trans (r_go (act := oS (fIst 2 1)) rfl rfl) (a_ist rfl rfl)) ?_
  exact r_cut rfl rfl
theorem x_X3_tapAll_0_1 (g : zg) (M : zM) : X_X3_tapAll g [.ref 40] M = zX (t_X3_tapAll g) 2 [some (.ref 40), some (.int 0)] [] M := e_X3_tapAll_0_1 g M
set_option maxRecDepth 20000 in
theorem e_X3_tapAll_2 (g : zg) (a1 : Int32) (M : zM) : zX (t_X3_tapAll g) 2 [some (.ref 7), some (.int a1)] [] M = (bif cLt a1 (M.1 7 2) then (zbI (X_X3_serving g [.ref 7, .int a1] M) (fun x1 M1 => (bif cEq0 x1 then zX (t_X3_tapAll g) 2 [some (.ref 7), some (.int (a1 + 1))] [] M1 else (zbI (X_X3_get g [.ref 7, .int a1, .int 3] M1) (fun x2 M2 => (bif cEq x2 (-1) then zX (t_X3_tapAll g) 2 [some (.ref 7), some (.int (a1 + 1))] [] ((zu M2.1 7 9 ((M1.1 7 9) + 1)), M2.2) else zX (t_X3_tapAll g) 2 [some (.ref 7), some (.int (a1 + 1))] [] ((zu M2.1 7 9 ((M1.1 7 9) + (-1))), M2.2))))))) else some (none, M)) := by
  refine Eq.trans (zX_rgN (tl_X3_tapAll g) (hc_X3_tapAll g) 25 _ _ _ _) ?_
  refine Eq.trans (Eq.trans (Eq.trans (r_0 (act := oF [] (oS (fIld 3 1))) rfl) (a_F rfl)) (a_ild rfl)) ?_
  refine Eq.trans (Eq.trans (r_go (act := oS (fAld 4 0)) rfl rfl) (a_ald rfl)) ?_
  refine Eq.trans (Eq.trans (r_go (act := oS (fGi g 7 3 2)) rfl rfl) (a_gi (zO_7 g))) ?_
  refine Eq.trans (Eq.trans (r_go (act := oS (fCm 10 48 cLt)) rfl rfl) (a_cm)) (bcg ?_ ?_)
  · refine Eq.trans (Eq.trans (r_go (act := oS (fAld 11 0)) rfl rfl) (a_ald rfl)) ?_
    refine Eq.trans (Eq.trans (r_go (act := oS (fIld 12 1)) rfl rfl) (a_ild rfl)) ?_
    refine Eq.trans (Eq.trans (r_go (act := oCI 15 2 (zcv g 3) (X_X3_serving g)) rfl rfl) (a_cI rfl (zck (zO_7 g) rfl))) (zbI_cg (fun x1 M1 => ?_))
    refine Eq.trans (Eq.trans (r_go (act := oS (fIf 42 18 cEq0)) rfl rfl) (a_if)) (bcg ?_ ?_)
    · refine Eq.trans (Eq.trans (r_go (act := oS (fInc 45 1 1)) rfl rfl) (a_inc rfl rfl rfl)) ?_
      refine Eq.trans (Eq.trans (r_go (act := oS (fGo 2)) rfl rfl) (a_goto)) ?_
      exact r_cut rfl rfl
    · refine Eq.trans (Eq.trans (r_go (act := oS (fAld 19 0)) rfl rfl) (a_ald rfl)) ?_
      refine Eq.trans (Eq.trans (r_go (act := oS (fSt 20 gDup)) rfl rfl) (a_dupR)) ?_
      refine Eq.trans (Eq.trans (r_go (act := oS (fGi g 23 3 9)) rfl rfl) (a_gi (zO_7 g))) ?_
      refine Eq.trans (Eq.trans (r_go (act := oS (fAld 24 0)) rfl rfl) (a_ald rfl)) ?_
      refine Eq.trans (Eq.trans (r_go (act := oS (fIld 25 1)) rfl rfl) (a_ild rfl)) ?_
      refine Eq.trans (Eq.trans (r_go (act := oS (fSt 26 (gC (.int 3)))) rfl rfl) (a_C)) ?_
      refine Eq.trans (Eq.trans (r_go (act := oCI 29 3 (zcv g 3) (X_X3_get g)) rfl rfl) (a_cI rfl (zck (zO_7 g) rfl))) (zbI_cg (fun x2 M2 => ?_))
      refine Eq.trans (Eq.trans (r_go (act := oS (fSt 30 (gC (.int (-1))))) rfl rfl) (a_C)) ?_
      refine Eq.trans (Eq.trans (r_go (act := oS (fCm 33 37 cEq)) rfl rfl) (a_cm)) (bcg ?_ ?_)
      · refine Eq.trans (Eq.trans (r_go (act := oS (fSt 34 (gC (.int 1)))) rfl rfl) (a_C)) ?_
        refine Eq.trans (Eq.trans (r_go (act := oS (fGo 38)) rfl rfl) (a_goto)) ?_
        refine Eq.trans (Eq.trans (r_go (act := oS (fSt 39 (g2 (fun x y => x + y)))) rfl rfl) (a_add)) ?_
        refine Eq.trans (Eq.trans (r_go (act := oS (fPi g 42 3 9)) rfl rfl) (a_pi (zO_7 g))) ?_
        refine Eq.trans (Eq.trans (r_go (act := oS (fInc 45 1 1)) rfl rfl) (a_inc rfl rfl rfl)) ?_
        refine Eq.trans (Eq.trans (r_go (act := oS (fGo 2)) rfl rfl) (a_goto)) ?_
        exact r_cut rfl rfl
      · refine Eq.trans (Eq.trans (r_go (act := oS (fSt 38 (gC (.int (-1))))) rfl rfl) (a_C)) ?_
        refine Eq.trans (Eq.trans (r_go (act := oS (fSt 39 (g2 (fun x y => x + y)))) rfl rfl) (a_add)) ?_
        refine Eq.trans (Eq.trans (r_go (act := oS (fPi g 42 3 9)) rfl rfl) (a_pi (zO_7 g))) ?_
        refine Eq.trans (Eq.trans (r_go (act := oS (fInc 45 1 1)) rfl rfl) (a_inc rfl rfl rfl)) ?_
        refine Eq.trans (Eq.trans (r_go (act := oS (fGo 2)) rfl rfl) (a_goto)) ?_
        exact r_cut rfl rfl
  · exact Eq.trans (r_go (act := oVret) rfl rfl) (a_vret)
set_option maxRecDepth 20000 in
theorem e_X3_tapAll_2_1 (g : zg) (a1 : Int32) (M : zM) : zX (t_X3_tapAll g) 2 [some (.ref 40), some (.int a1)] [] M = (bif cLt a1 (M.1 40 2) then (zbI (X_X3_serving g [.ref 40, .int a1] M) (fun x1 M1 => (bif cEq0 x1 then zX (t_X3_tapAll g) 2 [some (.ref 40), some (.int (a1 + 1))] [] M1 else (zbI (X_X3_get g [.ref 40, .int a1, .int 3] M1) (fun x2 M2 => (bif cEq x2 (-1) then zX (t_X3_tapAll g) 2 [some (.ref 40), some (.int (a1 + 1))] [] ((zu M2.1 40 9 ((M1.1 40 9) + 1)), M2.2) else zX (t_X3_tapAll g) 2 [some (.ref 40), some (.int (a1 + 1))] [] ((zu M2.1 40 9 ((M1.1 40 9) + (-1))), M2.2))))))) else some (none, M)) := by
  refine Eq.trans (zX_rgN (tl_X3_tapAll g) (hc_X3_tapAll g) 25 _ _ _ _) ?_
  refine Eq.trans (Eq.trans (Eq.trans (r_0 (act := oF [] (oS (fIld 3 1))) rfl) (a_F rfl)) (a_ild rfl)) ?_
  refine Eq.trans (Eq.trans (r_go (act := oS (fAld 4 0)) rfl rfl) (a_ald rfl)) ?_
  refine Eq.trans (Eq.trans (r_go (act := oS (fGi g 7 3 2)) rfl rfl) (a_gi (zO_40 g))) ?_
  refine Eq.trans (Eq.trans (r_go (act := oS (fCm 10 48 cLt)) rfl rfl) (a_cm)) (bcg ?_ ?_)
  · refine Eq.trans (Eq.trans (r_go (act := oS (fAld 11 0)) rfl rfl) (a_ald rfl)) ?_
    refine Eq.trans (Eq.trans (r_go (act := oS (fIld 12 1)) rfl rfl) (a_ild rfl)) ?_
    refine Eq.trans (Eq.trans (r_go (act := oCI 15 2 (zcv g 3) (X_X3_serving g)) rfl rfl) (a_cI rfl (zck (zO_40 g) rfl))) (zbI_cg (fun x1 M1 => ?_))
    refine Eq.trans (Eq.trans (r_go (act := oS (fIf 42 18 cEq0)) rfl rfl) (a_if)) (bcg ?_ ?_)
    · refine Eq.trans (Eq.trans (r_go (act := oS (fInc 45 1 1)) rfl rfl) (a_inc rfl rfl rfl)) ?_
      refine Eq.trans (Eq.trans (r_go (act := oS (fGo 2)) rfl rfl) (a_goto)) ?_
      exact r_cut rfl rfl
    · refine Eq.trans (Eq.trans (r_go (act := oS (fAld 19 0)) rfl rfl) (a_ald rfl)) ?_
      refine Eq.trans (Eq.trans (r_go (act := oS (fSt 20 gDup)) rfl rfl) (a_dupR)) ?_
      refine Eq.trans (Eq.trans (r_go (act := oS (fGi g 23 3 9)) rfl rfl) (a_gi (zO_40 g))) ?_
      refine Eq.trans (Eq.trans (r_go (act := oS (fAld 24 0)) rfl rfl) (a_ald rfl)) ?_
      refine Eq.trans (Eq.trans (r_go (act := oS (fIld 25 1)) rfl rfl) (a_ild rfl)) ?_
      refine Eq.trans (Eq.trans (r_go (act := oS (fSt 26 (gC (.int 3)))) rfl rfl) (a_C)) ?_
      refine Eq.trans (Eq.trans (r_go (act := oCI 29 3 (zcv g 3) (X_X3_get g)) rfl rfl) (a_cI rfl (zck (zO_40 g) rfl))) (zbI_cg (fun x2 M2 => ?_))
      refine Eq.trans (Eq.trans (r_go (act := oS (fSt 30 (gC (.int (-1))))) rfl rfl) (a_C)) ?_
      refine Eq.trans (Eq.trans (r_go (act := oS (fCm 33 37 cEq)) rfl rfl) (a_cm)) (bcg ?_ ?_)
      · refine Eq.trans (Eq.trans (r_go (act := oS (fSt 34 (gC (.int 1)))) rfl rfl) (a_C)) ?_
        refine Eq.trans (Eq.trans (r_go (act := oS (fGo 38)) rfl rfl) (a_goto)) ?_
        refine Eq.trans (Eq.trans (r_go (act := oS (fSt 39 (g2 (fun x y => x + y)))) rfl rfl) (a_add)) ?_
        refine Eq.trans (Eq.trans (r_go (act := oS (fPi g 42 3 9)) rfl rfl) (a_pi (zO_40 g))) ?_
        refine Eq.trans (Eq.trans (r_go (act := oS (fInc 45 1 1)) rfl rfl) (a_inc rfl rfl rfl)) ?_
        refine Eq.trans (Eq.trans (r_go (act := oS (fGo 2)) rfl rfl) (a_goto)) ?_
        exact r_cut rfl rfl
      · refine Eq.trans (Eq.trans (r_go (act := oS (fSt 38 (gC (.int (-1))))) rfl rfl) (a_C)) ?_
        refine Eq.trans (Eq.trans (r_go (act := oS (fSt 39 (g2 (fun x y => x + y)))) rfl rfl) (a_add)) ?_
        refine Eq.trans (Eq.trans (r_go (act := oS (fPi g 42 3 9)) rfl rfl) (a_pi (zO_40 g))) ?_
        refine Eq.trans (Eq.trans (r_go (act := oS (fInc 45 1 1)) rfl rfl) (a_inc rfl rfl rfl)) ?_
        refine Eq.trans (Eq.trans (r_go (act := oS (fGo 2)) rfl rfl) (a_goto)) ?_
        exact r_cut rfl rfl
  · exact Eq.trans (r_go (act := oVret) rfl rfl) (a_vret)
set_option maxRecDepth 20000 in
theorem e_X10_followAgenda_0 (g : zg) (M : zM) : zX (t_X10_followAgenda g) 0 [some (.ref 6), some (.ref 7), none] [] M = zX (t_X10_followAgenda g) 2 [some (.ref 6), some (.ref 7), some (.int 0)] [] M := by
  refine Eq.trans (zX_rgN (tl_X10_followAgenda g) (hc_X10_followAgenda g) 4 _ _ _ _) ?_
  refine Eq.trans (Eq.trans (r_0 (act := oS (fSt 1 (gC (.int 0)))) rfl) (a_C)) ?_
  refine Eq.trans (Eq.trans (r_go (act := oS (fIst 2 2)) rfl rfl) (a_ist rfl rfl)) ?_
  exact r_cut rfl rfl
theorem x_X10_followAgenda_0 (g : zg) (M : zM) : X_X10_followAgenda g [.ref 6, .ref 7] M = zX (t_X10_followAgenda g) 2 [some (.ref 6), some (.ref 7), some (.int 0)] [] M := e_X10_followAgenda_0 g M
set_option maxRecDepth 20000 in
theorem e_X10_followAgenda_0_1 (g : zg) (M : zM) : zX (t_X10_followAgenda g) 0 [some (.ref 6), some (.ref 40), none] [] M = zX (t_X10_followAgenda g) 2 [some (.ref 6), some (.ref 40), some (.int 0)] [] M := by
  refine Eq.trans (zX_rgN (tl_X10_followAgenda g) (hc_X10_followAgenda g) 4 _ _ _ _) ?_
  refine Eq.trans (Eq.trans (r_0 (act := oS (fSt 1 (gC (.int 0)))) rfl) (a_C)) ?_
  refine Eq.trans (Eq.trans (r_go (act := oS (fIst 2 2)) rfl rfl) (a_ist rfl rfl)) ?_
  exact r_cut rfl rfl
theorem x_X10_followAgenda_0_1 (g : zg) (M : zM) : X_X10_followAgenda g [.ref 6, .ref 40] M = zX (t_X10_followAgenda g) 2 [some (.ref 6), some (.ref 40), some (.int 0)] [] M := e_X10_followAgenda_0_1 g M
set_option maxRecDepth 20000 in
theorem e_X10_followAgenda_2 (g : zg) (a2 : Int32) (M : zM) : zX (t_X10_followAgenda g) 2 [some (.ref 6), some (.ref 7), some (.int a2)] [] M = (bif cLt a2 (M.1 20 4) then (bif zb a2 16 then (bif cEq (M.1 21 (zx a2)) (M.1 7 10) then (bif zb a2 16 then (bif cEq (M.1 22 (zx a2)) 5 then (zbV (X_X3_tapAll g [.ref 7] M) (fun M1 => zX (t_X10_followAgenda g) 2 [some (.ref 6), some (.ref 7), some (.int (a2 + 1))] [] M1)) else (bif zb a2 16 then (bif zb a2 16 then (bif zb a2 16 then (zbI (X_X3_allows g [.ref 7, .int (M.1 22 (zx a2)), .int (M.1 23 (zx a2)), .int (M.1 24 (zx a2))] M) (fun x2 M2 => (bif cEq0 x2 then zX (t_X10_followAgenda g) 2 [some (.ref 6), some (.ref 7), some (.int (a2 + 1))] [] M2 else (bif zb a2 16 then (bif zb a2 16 then (bif zb a2 16 then (zbV (X_X10_carryOut g [.ref 6, .ref 7, .int (M2.1 22 (zx a2)), .int (M2.1 23 (zx a2)), .int (M2.1 24 (zx a2))] M2) (fun M3 => zX (t_X10_followAgenda g) 2 [some (.ref 6), some (.ref 7), some (.int (a2 + 1))] [] M3)) else none) else none) else none)))) else none) else none) else none)) else none) else zX (t_X10_followAgenda g) 2 [some (.ref 6), some (.ref 7), some (.int (a2 + 1))] [] M) else none) else some (none, M)) := by
  refine Eq.trans (zX_rgN (tl_X10_followAgenda g) (hc_X10_followAgenda g) 60 _ _ _ _) ?_
  refine Eq.trans (Eq.trans (Eq.trans (r_0 (act := oF [] (oS (fIld 3 2))) rfl) (a_F rfl)) (a_ild rfl)) ?_
  refine Eq.trans (Eq.trans (r_go (act := oS (fAld 4 0)) rfl rfl) (a_ald rfl)) ?_
  refine Eq.trans (Eq.trans (r_go (act := oS (fGr g 7 10 3)) rfl rfl) (a_gr (zO_6 g) (zR_6_3 g))) ?_
  refine Eq.trans (Eq.trans (r_go (act := oS (fGi g 10 0 4)) rfl rfl) (a_gi (zO_20 g))) ?_
  refine Eq.trans (Eq.trans (r_go (act := oS (fCm 13 124 cLt)) rfl rfl) (a_cm)) (bcg ?_ ?_)
  · refine Eq.trans (Eq.trans (r_go (act := oS (fAld 14 0)) rfl rfl) (a_ald rfl)) ?_
    refine Eq.trans (Eq.trans (r_go (act := oS (fGr g 17 10 3)) rfl rfl) (a_gr (zO_6 g) (zR_6_3 g))) ?_
    refine Eq.trans (Eq.trans (r_go (act := oS (fGr g 20 0 0)) rfl rfl) (a_gr (zO_20 g) (zR_20_0 g))) ?_
    refine Eq.trans (Eq.trans (r_go (act := oS (fIld 21 2)) rfl rfl) (a_ild rfl)) ?_
    refine Eq.trans (Eq.trans (r_go (act := oS (fIa g 22)) rfl rfl) (a_ia (zA_21 g) zS_21)) (bcg ?_ rfl)
    refine Eq.trans (Eq.trans (r_go (act := oS (fAld 23 1)) rfl rfl) (a_ald rfl)) ?_
    refine Eq.trans (Eq.trans (r_go (act := oS (fGi g 26 3 10)) rfl rfl) (a_gi (zO_7 g))) ?_
    refine Eq.trans (Eq.trans (r_go (act := oS (fCm 32 29 cEq)) rfl rfl) (a_cm)) (bcg ?_ ?_)
    · refine Eq.trans (Eq.trans (r_go (act := oS (fAld 33 0)) rfl rfl) (a_ald rfl)) ?_
      refine Eq.trans (Eq.trans (r_go (act := oS (fGr g 36 10 3)) rfl rfl) (a_gr (zO_6 g) (zR_6_3 g))) ?_
      refine Eq.trans (Eq.trans (r_go (act := oS (fGr g 39 0 1)) rfl rfl) (a_gr (zO_20 g) (zR_20_1 g))) ?_
      refine Eq.trans (Eq.trans (r_go (act := oS (fIld 40 2)) rfl rfl) (a_ild rfl)) ?_
      refine Eq.trans (Eq.trans (r_go (act := oS (fIa g 41)) rfl rfl) (a_ia (zA_22 g) zS_22)) (bcg ?_ rfl)
      refine Eq.trans (Eq.trans (r_go (act := oS (fSt 42 (gC (.int 5)))) rfl rfl) (a_C)) ?_
      refine Eq.trans (Eq.trans (r_go (act := oS (fCm 45 52 cEq)) rfl rfl) (a_cm)) (bcg ?_ ?_)
      · refine Eq.trans (Eq.trans (r_go (act := oS (fAld 46 1)) rfl rfl) (a_ald rfl)) ?_
        refine Eq.trans (Eq.trans (r_go (act := oCV 49 1 (zcv g 3) (X_X3_tapAll g)) rfl rfl) (a_cV rfl (zck (zO_7 g) rfl))) (zbV_cg (fun M1 => ?_))
        refine Eq.trans (Eq.trans (r_go (act := oS (fGo 118)) rfl rfl) (a_goto)) ?_
        refine Eq.trans (Eq.trans (r_go (act := oS (fInc 121 2 1)) rfl rfl) (a_inc rfl rfl rfl)) ?_
        refine Eq.trans (Eq.trans (r_go (act := oS (fGo 2)) rfl rfl) (a_goto)) ?_
        exact r_cut rfl rfl
      · refine Eq.trans (Eq.trans (r_go (act := oS (fAld 53 1)) rfl rfl) (a_ald rfl)) ?_
        refine Eq.trans (Eq.trans (r_go (act := oS (fAld 54 0)) rfl rfl) (a_ald rfl)) ?_
        refine Eq.trans (Eq.trans (r_go (act := oS (fGr g 57 10 3)) rfl rfl) (a_gr (zO_6 g) (zR_6_3 g))) ?_
        refine Eq.trans (Eq.trans (r_go (act := oS (fGr g 60 0 1)) rfl rfl) (a_gr (zO_20 g) (zR_20_1 g))) ?_
        refine Eq.trans (Eq.trans (r_go (act := oS (fIld 61 2)) rfl rfl) (a_ild rfl)) ?_
        refine Eq.trans (Eq.trans (r_go (act := oS (fIa g 62)) rfl rfl) (a_ia (zA_22 g) zS_22)) (bcg ?_ rfl)
        refine Eq.trans (Eq.trans (r_go (act := oS (fAld 63 0)) rfl rfl) (a_ald rfl)) ?_
        refine Eq.trans (Eq.trans (r_go (act := oS (fGr g 66 10 3)) rfl rfl) (a_gr (zO_6 g) (zR_6_3 g))) ?_
        refine Eq.trans (Eq.trans (r_go (act := oS (fGr g 69 0 2)) rfl rfl) (a_gr (zO_20 g) (zR_20_2 g))) ?_
        refine Eq.trans (Eq.trans (r_go (act := oS (fIld 70 2)) rfl rfl) (a_ild rfl)) ?_
        refine Eq.trans (Eq.trans (r_go (act := oS (fIa g 71)) rfl rfl) (a_ia (zA_23 g) zS_23)) (bcg ?_ rfl)
        refine Eq.trans (Eq.trans (r_go (act := oS (fAld 72 0)) rfl rfl) (a_ald rfl)) ?_
        refine Eq.trans (Eq.trans (r_go (act := oS (fGr g 75 10 3)) rfl rfl) (a_gr (zO_6 g) (zR_6_3 g))) ?_
        refine Eq.trans (Eq.trans (r_go (act := oS (fGr g 78 0 3)) rfl rfl) (a_gr (zO_20 g) (zR_20_3 g))) ?_
        refine Eq.trans (Eq.trans (r_go (act := oS (fIld 79 2)) rfl rfl) (a_ild rfl)) ?_
        refine Eq.trans (Eq.trans (r_go (act := oS (fIa g 80)) rfl rfl) (a_ia (zA_24 g) zS_24)) (bcg ?_ rfl)
        refine Eq.trans (Eq.trans (r_go (act := oCI 83 4 (zcv g 3) (X_X3_allows g)) rfl rfl) (a_cI rfl (zck (zO_7 g) rfl))) (zbI_cg (fun x2 M2 => ?_))
        refine Eq.trans (Eq.trans (r_go (act := oS (fIf 118 86 cEq0)) rfl rfl) (a_if)) (bcg ?_ ?_)
        · refine Eq.trans (Eq.trans (r_go (act := oS (fInc 121 2 1)) rfl rfl) (a_inc rfl rfl rfl)) ?_
          refine Eq.trans (Eq.trans (r_go (act := oS (fGo 2)) rfl rfl) (a_goto)) ?_
          exact r_cut rfl rfl
        · refine Eq.trans (Eq.trans (r_go (act := oS (fAld 87 0)) rfl rfl) (a_ald rfl)) ?_
          refine Eq.trans (Eq.trans (r_go (act := oS (fAld 88 1)) rfl rfl) (a_ald rfl)) ?_
          refine Eq.trans (Eq.trans (r_go (act := oS (fAld 89 0)) rfl rfl) (a_ald rfl)) ?_
          refine Eq.trans (Eq.trans (r_go (act := oS (fGr g 92 10 3)) rfl rfl) (a_gr (zO_6 g) (zR_6_3 g))) ?_
          refine Eq.trans (Eq.trans (r_go (act := oS (fGr g 95 0 1)) rfl rfl) (a_gr (zO_20 g) (zR_20_1 g))) ?_
          refine Eq.trans (Eq.trans (r_go (act := oS (fIld 96 2)) rfl rfl) (a_ild rfl)) ?_
          refine Eq.trans (Eq.trans (r_go (act := oS (fIa g 97)) rfl rfl) (a_ia (zA_22 g) zS_22)) (bcg ?_ rfl)
          refine Eq.trans (Eq.trans (r_go (act := oS (fAld 98 0)) rfl rfl) (a_ald rfl)) ?_
          refine Eq.trans (Eq.trans (r_go (act := oS (fGr g 101 10 3)) rfl rfl) (a_gr (zO_6 g) (zR_6_3 g))) ?_
          refine Eq.trans (Eq.trans (r_go (act := oS (fGr g 104 0 2)) rfl rfl) (a_gr (zO_20 g) (zR_20_2 g))) ?_
          refine Eq.trans (Eq.trans (r_go (act := oS (fIld 105 2)) rfl rfl) (a_ild rfl)) ?_
          refine Eq.trans (Eq.trans (r_go (act := oS (fIa g 106)) rfl rfl) (a_ia (zA_23 g) zS_23)) (bcg ?_ rfl)
          refine Eq.trans (Eq.trans (r_go (act := oS (fAld 107 0)) rfl rfl) (a_ald rfl)) ?_
          refine Eq.trans (Eq.trans (r_go (act := oS (fGr g 110 10 3)) rfl rfl) (a_gr (zO_6 g) (zR_6_3 g))) ?_
          refine Eq.trans (Eq.trans (r_go (act := oS (fGr g 113 0 3)) rfl rfl) (a_gr (zO_20 g) (zR_20_3 g))) ?_
          refine Eq.trans (Eq.trans (r_go (act := oS (fIld 114 2)) rfl rfl) (a_ild rfl)) ?_
          refine Eq.trans (Eq.trans (r_go (act := oS (fIa g 115)) rfl rfl) (a_ia (zA_24 g) zS_24)) (bcg ?_ rfl)
          refine Eq.trans (Eq.trans (r_go (act := oCV 118 5 (zcv g 10) (X_X10_carryOut g)) rfl rfl) (a_cV rfl (zck (zO_6 g) rfl))) (zbV_cg (fun M3 => ?_))
          refine Eq.trans (Eq.trans (r_go (act := oS (fInc 121 2 1)) rfl rfl) (a_inc rfl rfl rfl)) ?_
          refine Eq.trans (Eq.trans (r_go (act := oS (fGo 2)) rfl rfl) (a_goto)) ?_
          exact r_cut rfl rfl
    · refine Eq.trans (Eq.trans (r_go (act := oS (fGo 118)) rfl rfl) (a_goto)) ?_
      refine Eq.trans (Eq.trans (r_go (act := oS (fInc 121 2 1)) rfl rfl) (a_inc rfl rfl rfl)) ?_
      refine Eq.trans (Eq.trans (r_go (act := oS (fGo 2)) rfl rfl) (a_goto)) ?_
      exact r_cut rfl rfl
  · exact Eq.trans (r_go (act := oVret) rfl rfl) (a_vret)
set_option maxRecDepth 20000 in
theorem e_X10_followAgenda_2_1 (g : zg) (a2 : Int32) (M : zM) : zX (t_X10_followAgenda g) 2 [some (.ref 6), some (.ref 40), some (.int a2)] [] M = (bif cLt a2 (M.1 20 4) then (bif zb a2 16 then (bif cEq (M.1 21 (zx a2)) (M.1 40 10) then (bif zb a2 16 then (bif cEq (M.1 22 (zx a2)) 5 then (zbV (X_X3_tapAll g [.ref 40] M) (fun M1 => zX (t_X10_followAgenda g) 2 [some (.ref 6), some (.ref 40), some (.int (a2 + 1))] [] M1)) else (bif zb a2 16 then (bif zb a2 16 then (bif zb a2 16 then (zbI (X_X3_allows g [.ref 40, .int (M.1 22 (zx a2)), .int (M.1 23 (zx a2)), .int (M.1 24 (zx a2))] M) (fun x2 M2 => (bif cEq0 x2 then zX (t_X10_followAgenda g) 2 [some (.ref 6), some (.ref 40), some (.int (a2 + 1))] [] M2 else (bif zb a2 16 then (bif zb a2 16 then (bif zb a2 16 then (zbV (X_X10_carryOut g [.ref 6, .ref 40, .int (M2.1 22 (zx a2)), .int (M2.1 23 (zx a2)), .int (M2.1 24 (zx a2))] M2) (fun M3 => zX (t_X10_followAgenda g) 2 [some (.ref 6), some (.ref 40), some (.int (a2 + 1))] [] M3)) else none) else none) else none)))) else none) else none) else none)) else none) else zX (t_X10_followAgenda g) 2 [some (.ref 6), some (.ref 40), some (.int (a2 + 1))] [] M) else none) else some (none, M)) := by
  refine Eq.trans (zX_rgN (tl_X10_followAgenda g) (hc_X10_followAgenda g) 60 _ _ _ _) ?_
  refine Eq.trans (Eq.trans (Eq.trans (r_0 (act := oF [] (oS (fIld 3 2))) rfl) (a_F rfl)) (a_ild rfl)) ?_
  refine Eq.trans (Eq.trans (r_go (act := oS (fAld 4 0)) rfl rfl) (a_ald rfl)) ?_
  refine Eq.trans (Eq.trans (r_go (act := oS (fGr g 7 10 3)) rfl rfl) (a_gr (zO_6 g) (zR_6_3 g))) ?_
  refine Eq.trans (Eq.trans (r_go (act := oS (fGi g 10 0 4)) rfl rfl) (a_gi (zO_20 g))) ?_
  refine Eq.trans (Eq.trans (r_go (act := oS (fCm 13 124 cLt)) rfl rfl) (a_cm)) (bcg ?_ ?_)
  · refine Eq.trans (Eq.trans (r_go (act := oS (fAld 14 0)) rfl rfl) (a_ald rfl)) ?_
    refine Eq.trans (Eq.trans (r_go (act := oS (fGr g 17 10 3)) rfl rfl) (a_gr (zO_6 g) (zR_6_3 g))) ?_
    refine Eq.trans (Eq.trans (r_go (act := oS (fGr g 20 0 0)) rfl rfl) (a_gr (zO_20 g) (zR_20_0 g))) ?_
    refine Eq.trans (Eq.trans (r_go (act := oS (fIld 21 2)) rfl rfl) (a_ild rfl)) ?_
    refine Eq.trans (Eq.trans (r_go (act := oS (fIa g 22)) rfl rfl) (a_ia (zA_21 g) zS_21)) (bcg ?_ rfl)
    refine Eq.trans (Eq.trans (r_go (act := oS (fAld 23 1)) rfl rfl) (a_ald rfl)) ?_
    refine Eq.trans (Eq.trans (r_go (act := oS (fGi g 26 3 10)) rfl rfl) (a_gi (zO_40 g))) ?_
    refine Eq.trans (Eq.trans (r_go (act := oS (fCm 32 29 cEq)) rfl rfl) (a_cm)) (bcg ?_ ?_)
    · refine Eq.trans (Eq.trans (r_go (act := oS (fAld 33 0)) rfl rfl) (a_ald rfl)) ?_
      refine Eq.trans (Eq.trans (r_go (act := oS (fGr g 36 10 3)) rfl rfl) (a_gr (zO_6 g) (zR_6_3 g))) ?_
      refine Eq.trans (Eq.trans (r_go (act := oS (fGr g 39 0 1)) rfl rfl) (a_gr (zO_20 g) (zR_20_1 g))) ?_
      refine Eq.trans (Eq.trans (r_go (act := oS (fIld 40 2)) rfl rfl) (a_ild rfl)) ?_
      refine Eq.trans (Eq.trans (r_go (act := oS (fIa g 41)) rfl rfl) (a_ia (zA_22 g) zS_22)) (bcg ?_ rfl)
      refine Eq.trans (Eq.trans (r_go (act := oS (fSt 42 (gC (.int 5)))) rfl rfl) (a_C)) ?_
      refine Eq.trans (Eq.trans (r_go (act := oS (fCm 45 52 cEq)) rfl rfl) (a_cm)) (bcg ?_ ?_)
      · refine Eq.trans (Eq.trans (r_go (act := oS (fAld 46 1)) rfl rfl) (a_ald rfl)) ?_
        refine Eq.trans (Eq.trans (r_go (act := oCV 49 1 (zcv g 3) (X_X3_tapAll g)) rfl rfl) (a_cV rfl (zck (zO_40 g) rfl))) (zbV_cg (fun M1 => ?_))
        refine Eq.trans (Eq.trans (r_go (act := oS (fGo 118)) rfl rfl) (a_goto)) ?_
        refine Eq.trans (Eq.trans (r_go (act := oS (fInc 121 2 1)) rfl rfl) (a_inc rfl rfl rfl)) ?_
        refine Eq.trans (Eq.trans (r_go (act := oS (fGo 2)) rfl rfl) (a_goto)) ?_
        exact r_cut rfl rfl
      · refine Eq.trans (Eq.trans (r_go (act := oS (fAld 53 1)) rfl rfl) (a_ald rfl)) ?_
        refine Eq.trans (Eq.trans (r_go (act := oS (fAld 54 0)) rfl rfl) (a_ald rfl)) ?_
        refine Eq.trans (Eq.trans (r_go (act := oS (fGr g 57 10 3)) rfl rfl) (a_gr (zO_6 g) (zR_6_3 g))) ?_
        refine Eq.trans (Eq.trans (r_go (act := oS (fGr g 60 0 1)) rfl rfl) (a_gr (zO_20 g) (zR_20_1 g))) ?_
        refine Eq.trans (Eq.trans (r_go (act := oS (fIld 61 2)) rfl rfl) (a_ild rfl)) ?_
        refine Eq.trans (Eq.trans (r_go (act := oS (fIa g 62)) rfl rfl) (a_ia (zA_22 g) zS_22)) (bcg ?_ rfl)
        refine Eq.trans (Eq.trans (r_go (act := oS (fAld 63 0)) rfl rfl) (a_ald rfl)) ?_
        refine Eq.trans (Eq.trans (r_go (act := oS (fGr g 66 10 3)) rfl rfl) (a_gr (zO_6 g) (zR_6_3 g))) ?_
        refine Eq.trans (Eq.trans (r_go (act := oS (fGr g 69 0 2)) rfl rfl) (a_gr (zO_20 g) (zR_20_2 g))) ?_
        refine Eq.trans (Eq.trans (r_go (act := oS (fIld 70 2)) rfl rfl) (a_ild rfl)) ?_
        refine Eq.trans (Eq.trans (r_go (act := oS (fIa g 71)) rfl rfl) (a_ia (zA_23 g) zS_23)) (bcg ?_ rfl)
        refine Eq.trans (Eq.trans (r_go (act := oS (fAld 72 0)) rfl rfl) (a_ald rfl)) ?_
        refine Eq.trans (Eq.trans (r_go (act := oS (fGr g 75 10 3)) rfl rfl) (a_gr (zO_6 g) (zR_6_3 g))) ?_
        refine Eq.trans (Eq.trans (r_go (act := oS (fGr g 78 0 3)) rfl rfl) (a_gr (zO_20 g) (zR_20_3 g))) ?_
        refine Eq.trans (Eq.trans (r_go (act := oS (fIld 79 2)) rfl rfl) (a_ild rfl)) ?_
        refine Eq.trans (Eq.trans (r_go (act := oS (fIa g 80)) rfl rfl) (a_ia (zA_24 g) zS_24)) (bcg ?_ rfl)
        refine Eq.trans (Eq.trans (r_go (act := oCI 83 4 (zcv g 3) (X_X3_allows g)) rfl rfl) (a_cI rfl (zck (zO_40 g) rfl))) (zbI_cg (fun x2 M2 => ?_))
        refine Eq.trans (Eq.trans (r_go (act := oS (fIf 118 86 cEq0)) rfl rfl) (a_if)) (bcg ?_ ?_)
        · refine Eq.trans (Eq.trans (r_go (act := oS (fInc 121 2 1)) rfl rfl) (a_inc rfl rfl rfl)) ?_
          refine Eq.trans (Eq.trans (r_go (act := oS (fGo 2)) rfl rfl) (a_goto)) ?_
          exact r_cut rfl rfl
        · refine Eq.trans (Eq.trans (r_go (act := oS (fAld 87 0)) rfl rfl) (a_ald rfl)) ?_
          refine Eq.trans (Eq.trans (r_go (act := oS (fAld 88 1)) rfl rfl) (a_ald rfl)) ?_
          refine Eq.trans (Eq.trans (r_go (act := oS (fAld 89 0)) rfl rfl) (a_ald rfl)) ?_
          refine Eq.trans (Eq.trans (r_go (act := oS (fGr g 92 10 3)) rfl rfl) (a_gr (zO_6 g) (zR_6_3 g))) ?_
          refine Eq.trans (Eq.trans (r_go (act := oS (fGr g 95 0 1)) rfl rfl) (a_gr (zO_20 g) (zR_20_1 g))) ?_
          refine Eq.trans (Eq.trans (r_go (act := oS (fIld 96 2)) rfl rfl) (a_ild rfl)) ?_
          refine Eq.trans (Eq.trans (r_go (act := oS (fIa g 97)) rfl rfl) (a_ia (zA_22 g) zS_22)) (bcg ?_ rfl)
          refine Eq.trans (Eq.trans (r_go (act := oS (fAld 98 0)) rfl rfl) (a_ald rfl)) ?_
          refine Eq.trans (Eq.trans (r_go (act := oS (fGr g 101 10 3)) rfl rfl) (a_gr (zO_6 g) (zR_6_3 g))) ?_
          refine Eq.trans (Eq.trans (r_go (act := oS (fGr g 104 0 2)) rfl rfl) (a_gr (zO_20 g) (zR_20_2 g))) ?_
          refine Eq.trans (Eq.trans (r_go (act := oS (fIld 105 2)) rfl rfl) (a_ild rfl)) ?_
          refine Eq.trans (Eq.trans (r_go (act := oS (fIa g 106)) rfl rfl) (a_ia (zA_23 g) zS_23)) (bcg ?_ rfl)
          refine Eq.trans (Eq.trans (r_go (act := oS (fAld 107 0)) rfl rfl) (a_ald rfl)) ?_
          refine Eq.trans (Eq.trans (r_go (act := oS (fGr g 110 10 3)) rfl rfl) (a_gr (zO_6 g) (zR_6_3 g))) ?_
          refine Eq.trans (Eq.trans (r_go (act := oS (fGr g 113 0 3)) rfl rfl) (a_gr (zO_20 g) (zR_20_3 g))) ?_
          refine Eq.trans (Eq.trans (r_go (act := oS (fIld 114 2)) rfl rfl) (a_ild rfl)) ?_
          refine Eq.trans (Eq.trans (r_go (act := oS (fIa g 115)) rfl rfl) (a_ia (zA_24 g) zS_24)) (bcg ?_ rfl)
          refine Eq.trans (Eq.trans (r_go (act := oCV 118 5 (zcv g 10) (X_X10_carryOut g)) rfl rfl) (a_cV rfl (zck (zO_6 g) rfl))) (zbV_cg (fun M3 => ?_))
          refine Eq.trans (Eq.trans (r_go (act := oS (fInc 121 2 1)) rfl rfl) (a_inc rfl rfl rfl)) ?_
          refine Eq.trans (Eq.trans (r_go (act := oS (fGo 2)) rfl rfl) (a_goto)) ?_
          exact r_cut rfl rfl
    · refine Eq.trans (Eq.trans (r_go (act := oS (fGo 118)) rfl rfl) (a_goto)) ?_
      refine Eq.trans (Eq.trans (r_go (act := oS (fInc 121 2 1)) rfl rfl) (a_inc rfl rfl rfl)) ?_
      refine Eq.trans (Eq.trans (r_go (act := oS (fGo 2)) rfl rfl) (a_goto)) ?_
      exact r_cut rfl rfl
  · exact Eq.trans (r_go (act := oVret) rfl rfl) (a_vret)
set_option maxRecDepth 20000 in
theorem e_X3_kind_0 (g : zg) (M : zM) : zX (t_X3_kind g) 0 [some (.ref 7)] [] M = some (some (.int ((M.1 7 4) / 20)), M) := by
  refine Eq.trans (zX_rgN (tl_X3_kind g) (hc_X3_kind g) 6 _ _ _ _) ?_
  refine Eq.trans (Eq.trans (r_0 (act := oS (fAld 1 0)) rfl) (a_ald rfl)) ?_
  refine Eq.trans (Eq.trans (r_go (act := oS (fGi g 4 3 4)) rfl rfl) (a_gi (zO_7 g))) ?_
  refine Eq.trans (Eq.trans (r_go (act := oS (fSt 6 (gC (.int 20)))) rfl rfl) (a_C)) ?_
  refine Eq.trans (Eq.trans (r_go (act := oS (fDiv 7)) rfl rfl) (a_div)) (Eq.trans (bcT (by decide)) ?_)
  exact Eq.trans (r_go (act := oIret) rfl rfl) (a_iret)
theorem x_X3_kind_0 (g : zg) (M : zM) : X_X3_kind g [.ref 7] M = some (some (.int ((M.1 7 4) / 20)), M) := e_X3_kind_0 g M
set_option maxRecDepth 20000 in
theorem e_X3_kind_0_1 (g : zg) (M : zM) : zX (t_X3_kind g) 0 [some (.ref 40)] [] M = some (some (.int ((M.1 40 4) / 20)), M) := by
  refine Eq.trans (zX_rgN (tl_X3_kind g) (hc_X3_kind g) 6 _ _ _ _) ?_
  refine Eq.trans (Eq.trans (r_0 (act := oS (fAld 1 0)) rfl) (a_ald rfl)) ?_
  refine Eq.trans (Eq.trans (r_go (act := oS (fGi g 4 3 4)) rfl rfl) (a_gi (zO_40 g))) ?_
  refine Eq.trans (Eq.trans (r_go (act := oS (fSt 6 (gC (.int 20)))) rfl rfl) (a_C)) ?_
  refine Eq.trans (Eq.trans (r_go (act := oS (fDiv 7)) rfl rfl) (a_div)) (Eq.trans (bcT (by decide)) ?_)
  exact Eq.trans (r_go (act := oIret) rfl rfl) (a_iret)
theorem x_X3_kind_0_1 (g : zg) (M : zM) : X_X3_kind g [.ref 40] M = some (some (.int ((M.1 40 4) / 20)), M) := e_X3_kind_0_1 g M
set_option maxRecDepth 20000 in
theorem e_X4_learn_0 (g : zg) (a2 : Int32) (M : zM) : zX (t_X4_learn g) 0 [some (.ref 9), some (.ref 7), some (.int a2)] [] M = (zbI (X_X3_get g [.ref 7, .int a2, .int 0] M) (fun x1 M1 => (zbI (X_X3_get g [.ref 7, .int a2, .int 1] ((zu M1.1 16 0 x1), M1.2)) (fun x2 M2 => (zbI (X_X3_get g [.ref 7, .int a2, .int 2] ((zu M2.1 16 1 x2), M2.2)) (fun x3 M3 => (zbI (X_X3_kind g [.ref 7] ((zu (zu M3.1 16 2 x3) 16 3 (M3.1 7 4)), M3.2)) (fun x4 M4 => (zbI (X_X3_get g [.ref 7, .int a2, .int 4] ((zu M4.1 16 4 x4), M4.2)) (fun x5 M5 => (bif cEq (M5.1 7 7) a2 then some (none, ((zu (zu (zu M5.1 16 5 x5) 16 6 (M5.1 7 10)) 16 7 1), M5.2)) else some (none, ((zu (zu (zu M5.1 16 5 x5) 16 6 (M5.1 7 10)) 16 7 0), M5.2))))))))))))) := by
  refine Eq.trans (zX_rgN (tl_X4_learn g) (hc_X4_learn g) 62 _ _ _ _) ?_
  refine Eq.trans (Eq.trans (r_0 (act := oS (fAld 1 0)) rfl) (a_ald rfl)) ?_
  refine Eq.trans (Eq.trans (r_go (act := oS (fGr g 4 4 6)) rfl rfl) (a_gr (zO_9 g) (zR_9_6 g))) ?_
  refine Eq.trans (Eq.trans (r_go (act := oS (fSt 5 (gC (.int 0)))) rfl rfl) (a_C)) ?_
  refine Eq.trans (Eq.trans (r_go (act := oS (fAld 6 1)) rfl rfl) (a_ald rfl)) ?_
  refine Eq.trans (Eq.trans (r_go (act := oS (fIld 7 2)) rfl rfl) (a_ild rfl)) ?_
  refine Eq.trans (Eq.trans (r_go (act := oS (fSt 8 (gC (.int 0)))) rfl rfl) (a_C)) ?_
  refine Eq.trans (Eq.trans (r_go (act := oCI 11 3 (zcv g 3) (X_X3_get g)) rfl rfl) (a_cI rfl (zck (zO_7 g) rfl))) (zbI_cg (fun x1 M1 => ?_))
  refine Eq.trans (Eq.trans (r_go (act := oS (fIs g 12)) rfl rfl) (a_isK (j := 0) (zA_16 g) zS_16 (by decide +kernel) (by decide +kernel))) ?_
  refine Eq.trans (Eq.trans (r_go (act := oS (fAld 13 0)) rfl rfl) (a_ald rfl)) ?_
  refine Eq.trans (Eq.trans (r_go (act := oS (fGr g 16 4 6)) rfl rfl) (a_gr (zO_9 g) (zR_9_6 g))) ?_
  refine Eq.trans (Eq.trans (r_go (act := oS (fSt 17 (gC (.int 1)))) rfl rfl) (a_C)) ?_
  refine Eq.trans (Eq.trans (r_go (act := oS (fAld 18 1)) rfl rfl) (a_ald rfl)) ?_
  refine Eq.trans (Eq.trans (r_go (act := oS (fIld 19 2)) rfl rfl) (a_ild rfl)) ?_
  refine Eq.trans (Eq.trans (r_go (act := oS (fSt 20 (gC (.int 1)))) rfl rfl) (a_C)) ?_
  refine Eq.trans (Eq.trans (r_go (act := oCI 23 3 (zcv g 3) (X_X3_get g)) rfl rfl) (a_cI rfl (zck (zO_7 g) rfl))) (zbI_cg (fun x2 M2 => ?_))
  refine Eq.trans (Eq.trans (r_go (act := oS (fIs g 24)) rfl rfl) (a_isK (j := 1) (zA_16 g) zS_16 (by decide +kernel) (by decide +kernel))) ?_
  refine Eq.trans (Eq.trans (r_go (act := oS (fAld 25 0)) rfl rfl) (a_ald rfl)) ?_
  refine Eq.trans (Eq.trans (r_go (act := oS (fGr g 28 4 6)) rfl rfl) (a_gr (zO_9 g) (zR_9_6 g))) ?_
  refine Eq.trans (Eq.trans (r_go (act := oS (fSt 29 (gC (.int 2)))) rfl rfl) (a_C)) ?_
  refine Eq.trans (Eq.trans (r_go (act := oS (fAld 30 1)) rfl rfl) (a_ald rfl)) ?_
  refine Eq.trans (Eq.trans (r_go (act := oS (fIld 31 2)) rfl rfl) (a_ild rfl)) ?_
  refine Eq.trans (Eq.trans (r_go (act := oS (fSt 32 (gC (.int 2)))) rfl rfl) (a_C)) ?_
  refine Eq.trans (Eq.trans (r_go (act := oCI 35 3 (zcv g 3) (X_X3_get g)) rfl rfl) (a_cI rfl (zck (zO_7 g) rfl))) (zbI_cg (fun x3 M3 => ?_))
  refine Eq.trans (Eq.trans (r_go (act := oS (fIs g 36)) rfl rfl) (a_isK (j := 2) (zA_16 g) zS_16 (by decide +kernel) (by decide +kernel))) ?_
  refine Eq.trans (Eq.trans (r_go (act := oS (fAld 37 0)) rfl rfl) (a_ald rfl)) ?_
  refine Eq.trans (Eq.trans (r_go (act := oS (fGr g 40 4 6)) rfl rfl) (a_gr (zO_9 g) (zR_9_6 g))) ?_
  refine Eq.trans (Eq.trans (r_go (act := oS (fSt 41 (gC (.int 3)))) rfl rfl) (a_C)) ?_
  refine Eq.trans (Eq.trans (r_go (act := oS (fAld 42 1)) rfl rfl) (a_ald rfl)) ?_
  refine Eq.trans (Eq.trans (r_go (act := oS (fGi g 45 3 4)) rfl rfl) (a_giV (zO_7 g) rfl)) ?_
  refine Eq.trans (Eq.trans (r_go (act := oS (fIs g 46)) rfl rfl) (a_isK (j := 3) (zA_16 g) zS_16 (by decide +kernel) (by decide +kernel))) ?_
  refine Eq.trans (Eq.trans (r_go (act := oS (fAld 47 0)) rfl rfl) (a_ald rfl)) ?_
  refine Eq.trans (Eq.trans (r_go (act := oS (fGr g 50 4 6)) rfl rfl) (a_gr (zO_9 g) (zR_9_6 g))) ?_
  refine Eq.trans (Eq.trans (r_go (act := oS (fSt 51 (gC (.int 4)))) rfl rfl) (a_C)) ?_
  refine Eq.trans (Eq.trans (r_go (act := oS (fAld 52 1)) rfl rfl) (a_ald rfl)) ?_
  refine Eq.trans (Eq.trans (r_go (act := oCI 55 1 (zcv g 3) (X_X3_kind g)) rfl rfl) (a_cI rfl (zck (zO_7 g) rfl))) (zbI_cg (fun x4 M4 => ?_))
  refine Eq.trans (Eq.trans (r_go (act := oS (fIs g 56)) rfl rfl) (a_isK (j := 4) (zA_16 g) zS_16 (by decide +kernel) (by decide +kernel))) ?_
  refine Eq.trans (Eq.trans (r_go (act := oS (fAld 57 0)) rfl rfl) (a_ald rfl)) ?_
  refine Eq.trans (Eq.trans (r_go (act := oS (fGr g 60 4 6)) rfl rfl) (a_gr (zO_9 g) (zR_9_6 g))) ?_
  refine Eq.trans (Eq.trans (r_go (act := oS (fSt 61 (gC (.int 5)))) rfl rfl) (a_C)) ?_
  refine Eq.trans (Eq.trans (r_go (act := oS (fAld 62 1)) rfl rfl) (a_ald rfl)) ?_
  refine Eq.trans (Eq.trans (r_go (act := oS (fIld 63 2)) rfl rfl) (a_ild rfl)) ?_
  refine Eq.trans (Eq.trans (r_go (act := oS (fSt 64 (gC (.int 4)))) rfl rfl) (a_C)) ?_
  refine Eq.trans (Eq.trans (r_go (act := oCI 67 3 (zcv g 3) (X_X3_get g)) rfl rfl) (a_cI rfl (zck (zO_7 g) rfl))) (zbI_cg (fun x5 M5 => ?_))
  refine Eq.trans (Eq.trans (r_go (act := oS (fIs g 68)) rfl rfl) (a_isK (j := 5) (zA_16 g) zS_16 (by decide +kernel) (by decide +kernel))) ?_
  refine Eq.trans (Eq.trans (r_go (act := oS (fAld 69 0)) rfl rfl) (a_ald rfl)) ?_
  refine Eq.trans (Eq.trans (r_go (act := oS (fGr g 72 4 6)) rfl rfl) (a_gr (zO_9 g) (zR_9_6 g))) ?_
  refine Eq.trans (Eq.trans (r_go (act := oS (fSt 74 (gC (.int 6)))) rfl rfl) (a_C)) ?_
  refine Eq.trans (Eq.trans (r_go (act := oS (fAld 75 1)) rfl rfl) (a_ald rfl)) ?_
  refine Eq.trans (Eq.trans (r_go (act := oS (fGi g 78 3 10)) rfl rfl) (a_giV (zO_7 g) rfl)) ?_
  refine Eq.trans (Eq.trans (r_go (act := oS (fIs g 79)) rfl rfl) (a_isK (j := 6) (zA_16 g) zS_16 (by decide +kernel) (by decide +kernel))) ?_
  refine Eq.trans (Eq.trans (r_go (act := oS (fAld 80 0)) rfl rfl) (a_ald rfl)) ?_
  refine Eq.trans (Eq.trans (r_go (act := oS (fGr g 83 4 6)) rfl rfl) (a_gr (zO_9 g) (zR_9_6 g))) ?_
  refine Eq.trans (Eq.trans (r_go (act := oS (fSt 85 (gC (.int 7)))) rfl rfl) (a_C)) ?_
  refine Eq.trans (Eq.trans (r_go (act := oS (fAld 86 1)) rfl rfl) (a_ald rfl)) ?_
  refine Eq.trans (Eq.trans (r_go (act := oS (fGi g 89 3 7)) rfl rfl) (a_giV (zO_7 g) rfl)) ?_
  refine Eq.trans (Eq.trans (r_go (act := oS (fIld 90 2)) rfl rfl) (a_ild rfl)) ?_
  refine Eq.trans (Eq.trans (r_go (act := oS (fCm 93 97 cEq)) rfl rfl) (a_cm)) (bcg ?_ ?_)
  · refine Eq.trans (Eq.trans (r_go (act := oS (fSt 94 (gC (.int 1)))) rfl rfl) (a_C)) ?_
    refine Eq.trans (Eq.trans (r_go (act := oS (fGo 98)) rfl rfl) (a_goto)) ?_
    refine Eq.trans (Eq.trans (r_go (act := oS (fIs g 99)) rfl rfl) (a_isK (j := 7) (zA_16 g) zS_16 (by decide +kernel) (by decide +kernel))) ?_
    exact Eq.trans (r_go (act := oVret) rfl rfl) (a_vret)
  · refine Eq.trans (Eq.trans (r_go (act := oS (fSt 98 (gC (.int 0)))) rfl rfl) (a_C)) ?_
    refine Eq.trans (Eq.trans (r_go (act := oS (fIs g 99)) rfl rfl) (a_isK (j := 7) (zA_16 g) zS_16 (by decide +kernel) (by decide +kernel))) ?_
    exact Eq.trans (r_go (act := oVret) rfl rfl) (a_vret)
theorem x_X4_learn_0 (g : zg) (a2 : Int32) (M : zM) : X_X4_learn g [.ref 9, .ref 7, .int a2] M = (zbI (X_X3_get g [.ref 7, .int a2, .int 0] M) (fun x1 M1 => (zbI (X_X3_get g [.ref 7, .int a2, .int 1] ((zu M1.1 16 0 x1), M1.2)) (fun x2 M2 => (zbI (X_X3_get g [.ref 7, .int a2, .int 2] ((zu M2.1 16 1 x2), M2.2)) (fun x3 M3 => (zbI (X_X3_kind g [.ref 7] ((zu (zu M3.1 16 2 x3) 16 3 (M3.1 7 4)), M3.2)) (fun x4 M4 => (zbI (X_X3_get g [.ref 7, .int a2, .int 4] ((zu M4.1 16 4 x4), M4.2)) (fun x5 M5 => (bif cEq (M5.1 7 7) a2 then some (none, ((zu (zu (zu M5.1 16 5 x5) 16 6 (M5.1 7 10)) 16 7 1), M5.2)) else some (none, ((zu (zu (zu M5.1 16 5 x5) 16 6 (M5.1 7 10)) 16 7 0), M5.2))))))))))))) := e_X4_learn_0 g a2 M
set_option maxRecDepth 20000 in
theorem e_X4_learn_0_1 (g : zg) (a2 : Int32) (M : zM) : zX (t_X4_learn g) 0 [some (.ref 9), some (.ref 40), some (.int a2)] [] M = (zbI (X_X3_get g [.ref 40, .int a2, .int 0] M) (fun x1 M1 => (zbI (X_X3_get g [.ref 40, .int a2, .int 1] ((zu M1.1 16 0 x1), M1.2)) (fun x2 M2 => (zbI (X_X3_get g [.ref 40, .int a2, .int 2] ((zu M2.1 16 1 x2), M2.2)) (fun x3 M3 => (zbI (X_X3_kind g [.ref 40] ((zu (zu M3.1 16 2 x3) 16 3 (M3.1 40 4)), M3.2)) (fun x4 M4 => (zbI (X_X3_get g [.ref 40, .int a2, .int 4] ((zu M4.1 16 4 x4), M4.2)) (fun x5 M5 => (bif cEq (M5.1 40 7) a2 then some (none, ((zu (zu (zu M5.1 16 5 x5) 16 6 (M5.1 40 10)) 16 7 1), M5.2)) else some (none, ((zu (zu (zu M5.1 16 5 x5) 16 6 (M5.1 40 10)) 16 7 0), M5.2))))))))))))) := by
  refine Eq.trans (zX_rgN (tl_X4_learn g) (hc_X4_learn g) 62 _ _ _ _) ?_
  refine Eq.trans (Eq.trans (r_0 (act := oS (fAld 1 0)) rfl) (a_ald rfl)) ?_
  refine Eq.trans (Eq.trans (r_go (act := oS (fGr g 4 4 6)) rfl rfl) (a_gr (zO_9 g) (zR_9_6 g))) ?_
  refine Eq.trans (Eq.trans (r_go (act := oS (fSt 5 (gC (.int 0)))) rfl rfl) (a_C)) ?_
  refine Eq.trans (Eq.trans (r_go (act := oS (fAld 6 1)) rfl rfl) (a_ald rfl)) ?_
  refine Eq.trans (Eq.trans (r_go (act := oS (fIld 7 2)) rfl rfl) (a_ild rfl)) ?_
  refine Eq.trans (Eq.trans (r_go (act := oS (fSt 8 (gC (.int 0)))) rfl rfl) (a_C)) ?_
  refine Eq.trans (Eq.trans (r_go (act := oCI 11 3 (zcv g 3) (X_X3_get g)) rfl rfl) (a_cI rfl (zck (zO_40 g) rfl))) (zbI_cg (fun x1 M1 => ?_))
  refine Eq.trans (Eq.trans (r_go (act := oS (fIs g 12)) rfl rfl) (a_isK (j := 0) (zA_16 g) zS_16 (by decide +kernel) (by decide +kernel))) ?_
  refine Eq.trans (Eq.trans (r_go (act := oS (fAld 13 0)) rfl rfl) (a_ald rfl)) ?_
  refine Eq.trans (Eq.trans (r_go (act := oS (fGr g 16 4 6)) rfl rfl) (a_gr (zO_9 g) (zR_9_6 g))) ?_
  refine Eq.trans (Eq.trans (r_go (act := oS (fSt 17 (gC (.int 1)))) rfl rfl) (a_C)) ?_
  refine Eq.trans (Eq.trans (r_go (act := oS (fAld 18 1)) rfl rfl) (a_ald rfl)) ?_
  refine Eq.trans (Eq.trans (r_go (act := oS (fIld 19 2)) rfl rfl) (a_ild rfl)) ?_
  refine Eq.trans (Eq.trans (r_go (act := oS (fSt 20 (gC (.int 1)))) rfl rfl) (a_C)) ?_
  refine Eq.trans (Eq.trans (r_go (act := oCI 23 3 (zcv g 3) (X_X3_get g)) rfl rfl) (a_cI rfl (zck (zO_40 g) rfl))) (zbI_cg (fun x2 M2 => ?_))
  refine Eq.trans (Eq.trans (r_go (act := oS (fIs g 24)) rfl rfl) (a_isK (j := 1) (zA_16 g) zS_16 (by decide +kernel) (by decide +kernel))) ?_
  refine Eq.trans (Eq.trans (r_go (act := oS (fAld 25 0)) rfl rfl) (a_ald rfl)) ?_
  refine Eq.trans (Eq.trans (r_go (act := oS (fGr g 28 4 6)) rfl rfl) (a_gr (zO_9 g) (zR_9_6 g))) ?_
  refine Eq.trans (Eq.trans (r_go (act := oS (fSt 29 (gC (.int 2)))) rfl rfl) (a_C)) ?_
  refine Eq.trans (Eq.trans (r_go (act := oS (fAld 30 1)) rfl rfl) (a_ald rfl)) ?_
  refine Eq.trans (Eq.trans (r_go (act := oS (fIld 31 2)) rfl rfl) (a_ild rfl)) ?_
  refine Eq.trans (Eq.trans (r_go (act := oS (fSt 32 (gC (.int 2)))) rfl rfl) (a_C)) ?_
  refine Eq.trans (Eq.trans (r_go (act := oCI 35 3 (zcv g 3) (X_X3_get g)) rfl rfl) (a_cI rfl (zck (zO_40 g) rfl))) (zbI_cg (fun x3 M3 => ?_))
  refine Eq.trans (Eq.trans (r_go (act := oS (fIs g 36)) rfl rfl) (a_isK (j := 2) (zA_16 g) zS_16 (by decide +kernel) (by decide +kernel))) ?_
  refine Eq.trans (Eq.trans (r_go (act := oS (fAld 37 0)) rfl rfl) (a_ald rfl)) ?_
  refine Eq.trans (Eq.trans (r_go (act := oS (fGr g 40 4 6)) rfl rfl) (a_gr (zO_9 g) (zR_9_6 g))) ?_
  refine Eq.trans (Eq.trans (r_go (act := oS (fSt 41 (gC (.int 3)))) rfl rfl) (a_C)) ?_
  refine Eq.trans (Eq.trans (r_go (act := oS (fAld 42 1)) rfl rfl) (a_ald rfl)) ?_
  refine Eq.trans (Eq.trans (r_go (act := oS (fGi g 45 3 4)) rfl rfl) (a_giV (zO_40 g) rfl)) ?_
  refine Eq.trans (Eq.trans (r_go (act := oS (fIs g 46)) rfl rfl) (a_isK (j := 3) (zA_16 g) zS_16 (by decide +kernel) (by decide +kernel))) ?_
  refine Eq.trans (Eq.trans (r_go (act := oS (fAld 47 0)) rfl rfl) (a_ald rfl)) ?_
  refine Eq.trans (Eq.trans (r_go (act := oS (fGr g 50 4 6)) rfl rfl) (a_gr (zO_9 g) (zR_9_6 g))) ?_
  refine Eq.trans (Eq.trans (r_go (act := oS (fSt 51 (gC (.int 4)))) rfl rfl) (a_C)) ?_
  refine Eq.trans (Eq.trans (r_go (act := oS (fAld 52 1)) rfl rfl) (a_ald rfl)) ?_
  refine Eq.trans (Eq.trans (r_go (act := oCI 55 1 (zcv g 3) (X_X3_kind g)) rfl rfl) (a_cI rfl (zck (zO_40 g) rfl))) (zbI_cg (fun x4 M4 => ?_))
  refine Eq.trans (Eq.trans (r_go (act := oS (fIs g 56)) rfl rfl) (a_isK (j := 4) (zA_16 g) zS_16 (by decide +kernel) (by decide +kernel))) ?_
  refine Eq.trans (Eq.trans (r_go (act := oS (fAld 57 0)) rfl rfl) (a_ald rfl)) ?_
  refine Eq.trans (Eq.trans (r_go (act := oS (fGr g 60 4 6)) rfl rfl) (a_gr (zO_9 g) (zR_9_6 g))) ?_
  refine Eq.trans (Eq.trans (r_go (act := oS (fSt 61 (gC (.int 5)))) rfl rfl) (a_C)) ?_
  refine Eq.trans (Eq.trans (r_go (act := oS (fAld 62 1)) rfl rfl) (a_ald rfl)) ?_
  refine Eq.trans (Eq.trans (r_go (act := oS (fIld 63 2)) rfl rfl) (a_ild rfl)) ?_
  refine Eq.trans (Eq.trans (r_go (act := oS (fSt 64 (gC (.int 4)))) rfl rfl) (a_C)) ?_
  refine Eq.trans (Eq.trans (r_go (act := oCI 67 3 (zcv g 3) (X_X3_get g)) rfl rfl) (a_cI rfl (zck (zO_40 g) rfl))) (zbI_cg (fun x5 M5 => ?_))
  refine Eq.trans (Eq.trans (r_go (act := oS (fIs g 68)) rfl rfl) (a_isK (j := 5) (zA_16 g) zS_16 (by decide +kernel) (by decide +kernel))) ?_
  refine Eq.trans (Eq.trans (r_go (act := oS (fAld 69 0)) rfl rfl) (a_ald rfl)) ?_
  refine Eq.trans (Eq.trans (r_go (act := oS (fGr g 72 4 6)) rfl rfl) (a_gr (zO_9 g) (zR_9_6 g))) ?_
  refine Eq.trans (Eq.trans (r_go (act := oS (fSt 74 (gC (.int 6)))) rfl rfl) (a_C)) ?_
  refine Eq.trans (Eq.trans (r_go (act := oS (fAld 75 1)) rfl rfl) (a_ald rfl)) ?_
  refine Eq.trans (Eq.trans (r_go (act := oS (fGi g 78 3 10)) rfl rfl) (a_giV (zO_40 g) rfl)) ?_
  refine Eq.trans (Eq.trans (r_go (act := oS (fIs g 79)) rfl rfl) (a_isK (j := 6) (zA_16 g) zS_16 (by decide +kernel) (by decide +kernel))) ?_
  refine Eq.trans (Eq.trans (r_go (act := oS (fAld 80 0)) rfl rfl) (a_ald rfl)) ?_
  refine Eq.trans (Eq.trans (r_go (act := oS (fGr g 83 4 6)) rfl rfl) (a_gr (zO_9 g) (zR_9_6 g))) ?_
  refine Eq.trans (Eq.trans (r_go (act := oS (fSt 85 (gC (.int 7)))) rfl rfl) (a_C)) ?_
  refine Eq.trans (Eq.trans (r_go (act := oS (fAld 86 1)) rfl rfl) (a_ald rfl)) ?_
  refine Eq.trans (Eq.trans (r_go (act := oS (fGi g 89 3 7)) rfl rfl) (a_giV (zO_40 g) rfl)) ?_
  refine Eq.trans (Eq.trans (r_go (act := oS (fIld 90 2)) rfl rfl) (a_ild rfl)) ?_
  refine Eq.trans (Eq.trans (r_go (act := oS (fCm 93 97 cEq)) rfl rfl) (a_cm)) (bcg ?_ ?_)
  · refine Eq.trans (Eq.trans (r_go (act := oS (fSt 94 (gC (.int 1)))) rfl rfl) (a_C)) ?_
    refine Eq.trans (Eq.trans (r_go (act := oS (fGo 98)) rfl rfl) (a_goto)) ?_
    refine Eq.trans (Eq.trans (r_go (act := oS (fIs g 99)) rfl rfl) (a_isK (j := 7) (zA_16 g) zS_16 (by decide +kernel) (by decide +kernel))) ?_
    exact Eq.trans (r_go (act := oVret) rfl rfl) (a_vret)
  · refine Eq.trans (Eq.trans (r_go (act := oS (fSt 98 (gC (.int 0)))) rfl rfl) (a_C)) ?_
    refine Eq.trans (Eq.trans (r_go (act := oS (fIs g 99)) rfl rfl) (a_isK (j := 7) (zA_16 g) zS_16 (by decide +kernel) (by decide +kernel))) ?_
    exact Eq.trans (r_go (act := oVret) rfl rfl) (a_vret)
theorem x_X4_learn_0_1 (g : zg) (a2 : Int32) (M : zM) : X_X4_learn g [.ref 9, .ref 40, .int a2] M = (zbI (X_X3_get g [.ref 40, .int a2, .int 0] M) (fun x1 M1 => (zbI (X_X3_get g [.ref 40, .int a2, .int 1] ((zu M1.1 16 0 x1), M1.2)) (fun x2 M2 => (zbI (X_X3_get g [.ref 40, .int a2, .int 2] ((zu M2.1 16 1 x2), M2.2)) (fun x3 M3 => (zbI (X_X3_kind g [.ref 40] ((zu (zu M3.1 16 2 x3) 16 3 (M3.1 40 4)), M3.2)) (fun x4 M4 => (zbI (X_X3_get g [.ref 40, .int a2, .int 4] ((zu M4.1 16 4 x4), M4.2)) (fun x5 M5 => (bif cEq (M5.1 40 7) a2 then some (none, ((zu (zu (zu M5.1 16 5 x5) 16 6 (M5.1 40 10)) 16 7 1), M5.2)) else some (none, ((zu (zu (zu M5.1 16 5 x5) 16 6 (M5.1 40 10)) 16 7 0), M5.2))))))))))))) := e_X4_learn_0_1 g a2 M
set_option maxRecDepth 20000 in
theorem e_X4_join_0 (g : zg) (a0 : Int32) (a1 : Int32) (a2 : Int32) (M : zM) : zX (t_X4_join g) 0 [some (.int a0), some (.int a1), some (.int a2)] [] M = (bif cEq a0 42 then some (some (.int (a1 * a2)), M) else (bif cEq a0 43 then some (some (.int (a1 + a2)), M) else (bif cEq a0 45 then some (some (.int (a1 - a2)), M) else (bif cEq a0 47 then (bif cEq0 a2 then some (some (.int 0), M) else (bif !decide (a2 = 0) then some (some (.int (a1 / a2)), M) else none)) else (bif cEq a0 60 then (bif cLt a1 a2 then some (some (.int 1), M) else some (some (.int 0), M)) else (bif cEq a0 61 then (bif cEq a1 a2 then some (some (.int 1), M) else some (some (.int 0), M)) else (bif cEq a0 62 then (bif cGt a1 a2 then some (some (.int 1), M) else some (some (.int 0), M)) else (bif cEq a0 142 then some (some (.int (a1 &&& a2)), M) else some (some (.int (a1 ||| a2)), M))))))))) := by
  refine Eq.trans (zX_rgN (tl_X4_join g) (hc_X4_join g) 9 _ _ _ _) ?_
  refine Eq.trans (Eq.trans (r_0 (act := oS (fIld 1 0)) rfl) (a_ild rfl)) ?_
  refine Eq.trans (Eq.trans (r_go (act := oSw 137 [(42, 84), (43, 76), (45, 80), (47, 88), (60, 100), (61, 111), (62, 122), (142, 133)]) rfl rfl) (a_sw)) ?_
  refine Eq.trans a_swC (bcg ?_ ?_)
  · refine Eq.trans (Eq.trans (r_go (act := oS (fIld 85 1)) rfl rfl) (a_ild rfl)) ?_
    refine Eq.trans (Eq.trans (r_go (act := oS (fIld 86 2)) rfl rfl) (a_ild rfl)) ?_
    refine Eq.trans (Eq.trans (r_go (act := oS (fSt 87 (g2 (fun x y => x * y)))) rfl rfl) (a_mul)) ?_
    exact Eq.trans (r_go (act := oIret) rfl rfl) (a_iret)
  refine Eq.trans a_swC (bcg ?_ ?_)
  · refine Eq.trans (Eq.trans (r_go (act := oS (fIld 77 1)) rfl rfl) (a_ild rfl)) ?_
    refine Eq.trans (Eq.trans (r_go (act := oS (fIld 78 2)) rfl rfl) (a_ild rfl)) ?_
    refine Eq.trans (Eq.trans (r_go (act := oS (fSt 79 (g2 (fun x y => x + y)))) rfl rfl) (a_add)) ?_
    exact Eq.trans (r_go (act := oIret) rfl rfl) (a_iret)
  refine Eq.trans a_swC (bcg ?_ ?_)
  · refine Eq.trans (Eq.trans (r_go (act := oS (fIld 81 1)) rfl rfl) (a_ild rfl)) ?_
    refine Eq.trans (Eq.trans (r_go (act := oS (fIld 82 2)) rfl rfl) (a_ild rfl)) ?_
    refine Eq.trans (Eq.trans (r_go (act := oS (fSt 83 (g2 (fun x y => x - y)))) rfl rfl) (a_sub)) ?_
    exact Eq.trans (r_go (act := oIret) rfl rfl) (a_iret)
  refine Eq.trans a_swC (bcg ?_ ?_)
  · refine Eq.trans (Eq.trans (r_go (act := oS (fIld 89 2)) rfl rfl) (a_ild rfl)) ?_
    refine Eq.trans (Eq.trans (r_go (act := oS (fIf 92 96 cEq0)) rfl rfl) (a_if)) (bcg ?_ ?_)
    · refine Eq.trans (Eq.trans (r_go (act := oS (fSt 93 (gC (.int 0)))) rfl rfl) (a_C)) ?_
      refine Eq.trans (Eq.trans (r_go (act := oS (fGo 99)) rfl rfl) (a_goto)) ?_
      exact Eq.trans (r_go (act := oIret) rfl rfl) (a_iret)
    · refine Eq.trans (Eq.trans (r_go (act := oS (fIld 97 1)) rfl rfl) (a_ild rfl)) ?_
      refine Eq.trans (Eq.trans (r_go (act := oS (fIld 98 2)) rfl rfl) (a_ild rfl)) ?_
      refine Eq.trans (Eq.trans (r_go (act := oS (fDiv 99)) rfl rfl) (a_div)) (bcg ?_ rfl)
      exact Eq.trans (r_go (act := oIret) rfl rfl) (a_iret)
  refine Eq.trans a_swC (bcg ?_ ?_)
  · refine Eq.trans (Eq.trans (r_go (act := oS (fIld 101 1)) rfl rfl) (a_ild rfl)) ?_
    refine Eq.trans (Eq.trans (r_go (act := oS (fIld 102 2)) rfl rfl) (a_ild rfl)) ?_
    refine Eq.trans (Eq.trans (r_go (act := oS (fCm 105 109 cLt)) rfl rfl) (a_cm)) (bcg ?_ ?_)
    · refine Eq.trans (Eq.trans (r_go (act := oS (fSt 106 (gC (.int 1)))) rfl rfl) (a_C)) ?_
      refine Eq.trans (Eq.trans (r_go (act := oS (fGo 110)) rfl rfl) (a_goto)) ?_
      exact Eq.trans (r_go (act := oIret) rfl rfl) (a_iret)
    · refine Eq.trans (Eq.trans (r_go (act := oS (fSt 110 (gC (.int 0)))) rfl rfl) (a_C)) ?_
      exact Eq.trans (r_go (act := oIret) rfl rfl) (a_iret)
  refine Eq.trans a_swC (bcg ?_ ?_)
  · refine Eq.trans (Eq.trans (r_go (act := oS (fIld 112 1)) rfl rfl) (a_ild rfl)) ?_
    refine Eq.trans (Eq.trans (r_go (act := oS (fIld 113 2)) rfl rfl) (a_ild rfl)) ?_
    refine Eq.trans (Eq.trans (r_go (act := oS (fCm 116 120 cEq)) rfl rfl) (a_cm)) (bcg ?_ ?_)
    · refine Eq.trans (Eq.trans (r_go (act := oS (fSt 117 (gC (.int 1)))) rfl rfl) (a_C)) ?_
      refine Eq.trans (Eq.trans (r_go (act := oS (fGo 121)) rfl rfl) (a_goto)) ?_
      exact Eq.trans (r_go (act := oIret) rfl rfl) (a_iret)
    · refine Eq.trans (Eq.trans (r_go (act := oS (fSt 121 (gC (.int 0)))) rfl rfl) (a_C)) ?_
      exact Eq.trans (r_go (act := oIret) rfl rfl) (a_iret)
  refine Eq.trans a_swC (bcg ?_ ?_)
  · refine Eq.trans (Eq.trans (r_go (act := oS (fIld 123 1)) rfl rfl) (a_ild rfl)) ?_
    refine Eq.trans (Eq.trans (r_go (act := oS (fIld 124 2)) rfl rfl) (a_ild rfl)) ?_
    refine Eq.trans (Eq.trans (r_go (act := oS (fCm 127 131 cGt)) rfl rfl) (a_cm)) (bcg ?_ ?_)
    · refine Eq.trans (Eq.trans (r_go (act := oS (fSt 128 (gC (.int 1)))) rfl rfl) (a_C)) ?_
      refine Eq.trans (Eq.trans (r_go (act := oS (fGo 132)) rfl rfl) (a_goto)) ?_
      exact Eq.trans (r_go (act := oIret) rfl rfl) (a_iret)
    · refine Eq.trans (Eq.trans (r_go (act := oS (fSt 132 (gC (.int 0)))) rfl rfl) (a_C)) ?_
      exact Eq.trans (r_go (act := oIret) rfl rfl) (a_iret)
  refine Eq.trans a_swC (bcg ?_ ?_)
  · refine Eq.trans (Eq.trans (r_go (act := oS (fIld 134 1)) rfl rfl) (a_ild rfl)) ?_
    refine Eq.trans (Eq.trans (r_go (act := oS (fIld 135 2)) rfl rfl) (a_ild rfl)) ?_
    refine Eq.trans (Eq.trans (r_go (act := oS (fSt 136 (g2 (fun x y => x &&& y)))) rfl rfl) (a_and)) ?_
    exact Eq.trans (r_go (act := oIret) rfl rfl) (a_iret)
  refine Eq.trans a_swN ?_
  refine Eq.trans (Eq.trans (r_go (act := oS (fIld 138 1)) rfl rfl) (a_ild rfl)) ?_
  refine Eq.trans (Eq.trans (r_go (act := oS (fIld 139 2)) rfl rfl) (a_ild rfl)) ?_
  refine Eq.trans (Eq.trans (r_go (act := oS (fSt 140 (g2 (fun x y => x ||| y)))) rfl rfl) (a_or)) ?_
  exact Eq.trans (r_go (act := oIret) rfl rfl) (a_iret)
theorem x_X4_join_0 (g : zg) (a0 : Int32) (a1 : Int32) (a2 : Int32) (M : zM) : X_X4_join g [.int a0, .int a1, .int a2] M = (bif cEq a0 42 then some (some (.int (a1 * a2)), M) else (bif cEq a0 43 then some (some (.int (a1 + a2)), M) else (bif cEq a0 45 then some (some (.int (a1 - a2)), M) else (bif cEq a0 47 then (bif cEq0 a2 then some (some (.int 0), M) else (bif !decide (a2 = 0) then some (some (.int (a1 / a2)), M) else none)) else (bif cEq a0 60 then (bif cLt a1 a2 then some (some (.int 1), M) else some (some (.int 0), M)) else (bif cEq a0 61 then (bif cEq a1 a2 then some (some (.int 1), M) else some (some (.int 0), M)) else (bif cEq a0 62 then (bif cGt a1 a2 then some (some (.int 1), M) else some (some (.int 0), M)) else (bif cEq a0 142 then some (some (.int (a1 &&& a2)), M) else some (some (.int (a1 ||| a2)), M))))))))) := e_X4_join_0 g a0 a1 a2 M
set_option maxRecDepth 20000 in
theorem e_X4_reckon_0 (g : zg) (a1 : Int32) (a2 : Int32) (M : zM) : zX (t_X4_reckon g) 0 [some (.ref 9), some (.int a1), some (.int a2), none, none, none, none] [] M = zX (t_X4_reckon g) 5 [some (.ref 9), none, some (.int a2), some (.int 0), some (.int a1), none, none] [] M := by
  refine Eq.trans (zX_rgN (tl_X4_reckon g) (hc_X4_reckon g) 6 _ _ _ _) ?_
  refine Eq.trans (Eq.trans (r_0 (act := oS (fSt 1 (gC (.int 0)))) rfl) (a_C)) ?_
  refine Eq.trans (Eq.trans (r_go (act := oS (fIst 2 3)) rfl rfl) (a_ist rfl rfl)) ?_
  refine Eq.trans (Eq.trans (r_go (act := oS (fIld 3 1)) rfl rfl) (a_ild rfl)) ?_
  refine Eq.trans (Eq.trans (r_go (act := oS (fIst 5 4)) rfl rfl) (a_ist rfl rfl)) ?_
  exact r_cut rfl rfl
theorem x_X4_reckon_0 (g : zg) (a1 : Int32) (a2 : Int32) (M : zM) : X_X4_reckon g [.ref 9, .int a1, .int a2] M = zX (t_X4_reckon g) 5 [some (.ref 9), none, some (.int a2), some (.int 0), some (.int a1), none, none] [] M := e_X4_reckon_0 g a1 a2 M
set_option maxRecDepth 20000 in
theorem e_X4_reckon_5 (g : zg) (a2 : Int32) (a3 : Int32) (a4 : Int32) (M : zM) : zX (t_X4_reckon g) 5 [some (.ref 9), none, some (.int a2), some (.int a3), some (.int a4), none, none] [] M = (bif cLt a4 a2 then (bif cLt a4 400 then (bif zb a4 400 then (bif cLt (-(M.1 14 (zx a4))) 128 then (bif cLt0 (M.1 14 (zx a4)) then zX (t_X4_reckon g) 103 [some (.ref 9), none, some (.int a2), some (.int a3), some (.int a4), some (.int (M.1 14 (zx a4))), none] [] M else zX (t_X4_reckon g) 63 [some (.ref 9), none, some (.int a2), some (.int a3), some (.int a4), some (.int (M.1 14 (zx a4))), some (.int 0)] [] M) else (bif cLt (-(M.1 14 (zx a4))) 137 then (bif cLt0 (M.1 14 (zx a4)) then zX (t_X4_reckon g) 63 [some (.ref 9), none, some (.int a2), some (.int a3), some (.int a4), some (.int (M.1 14 (zx a4))), some (.int 1)] [] M else zX (t_X4_reckon g) 63 [some (.ref 9), none, some (.int a2), some (.int a3), some (.int a4), some (.int (M.1 14 (zx a4))), some (.int 1)] [] M) else (bif cLt0 (M.1 14 (zx a4)) then zX (t_X4_reckon g) 103 [some (.ref 9), none, some (.int a2), some (.int a3), some (.int a4), some (.int (M.1 14 (zx a4))), none] [] M else zX (t_X4_reckon g) 63 [some (.ref 9), none, some (.int a2), some (.int a3), some (.int a4), some (.int (M.1 14 (zx a4))), some (.int 0)] [] M))) else none) else some (some (.int (M.1 15 0)), M)) else some (some (.int (M.1 15 0)), M)) := by
  refine Eq.trans (zX_rgN (tl_X4_reckon g) (hc_X4_reckon g) 28 _ _ _ _) ?_
  refine Eq.trans (Eq.trans (Eq.trans (r_0 (act := oF [1, 5, 6] (oS (fIld 7 4))) rfl) (a_F rfl)) (a_ild rfl)) ?_
  refine Eq.trans (Eq.trans (r_go (act := oS (fIld 8 2)) rfl rfl) (a_ild rfl)) ?_
  refine Eq.trans (Eq.trans (r_go (act := oS (fCm 11 179 cLt)) rfl rfl) (a_cm)) (bcg ?_ ?_)
  · refine Eq.trans (Eq.trans (r_go (act := oS (fIld 13 4)) rfl rfl) (a_ild rfl)) ?_
    refine Eq.trans (Eq.trans (r_go (act := oS (fSt 16 (gC (.int 400)))) rfl rfl) (a_C)) ?_
    refine Eq.trans (Eq.trans (r_go (act := oS (fCm 19 179 cLt)) rfl rfl) (a_cm)) (bcg ?_ ?_)
    · refine Eq.trans (Eq.trans (r_go (act := oS (fAld 20 0)) rfl rfl) (a_ald rfl)) ?_
      refine Eq.trans (Eq.trans (r_go (act := oS (fGr g 23 4 4)) rfl rfl) (a_gr (zO_9 g) (zR_9_4 g))) ?_
      refine Eq.trans (Eq.trans (r_go (act := oS (fIld 25 4)) rfl rfl) (a_ild rfl)) ?_
      refine Eq.trans (Eq.trans (r_go (act := oS (fIa g 26)) rfl rfl) (a_ia (zA_14 g) zS_14)) (bcg ?_ rfl)
      refine Eq.trans (Eq.trans (r_go (act := oS (fIst 28 5)) rfl rfl) (a_ist rfl rfl)) ?_
      refine Eq.trans (Eq.trans (r_go (act := oS (fIld 30 5)) rfl rfl) (a_ild rfl)) ?_
      refine Eq.trans (Eq.trans (r_go (act := oS (fSt 31 (g1 (fun x => -x)))) rfl rfl) (a_neg)) ?_
      refine Eq.trans (Eq.trans (r_go (act := oS (fSt 34 (gC (.int 128)))) rfl rfl) (a_C)) ?_
      refine Eq.trans (Eq.trans (r_go (act := oS (fCm 50 37 cLt)) rfl rfl) (a_cm)) (bcg ?_ ?_)
      · refine Eq.trans (Eq.trans (r_go (act := oS (fSt 51 (gC (.int 0)))) rfl rfl) (a_C)) ?_
        refine Eq.trans (Eq.trans (r_go (act := oS (fIst 53 6)) rfl rfl) (a_ist rfl rfl)) ?_
        refine Eq.trans (Eq.trans (r_go (act := oS (fIld 55 5)) rfl rfl) (a_ild rfl)) ?_
        refine Eq.trans (Eq.trans (r_go (act := oS (fIf 58 63 cLt0)) rfl rfl) (a_if)) (bcg ?_ ?_)
        · refine Eq.trans (Eq.trans (r_go (act := oS (fIld 60 6)) rfl rfl) (a_ild rfl)) ?_
          refine Eq.trans (Eq.trans (r_go (act := oS (fIf 103 63 cEq0)) rfl rfl) (a_ifT (by decide +kernel))) ?_
          exact r_cut rfl rfl
        · exact r_cut rfl rfl
      · refine Eq.trans (Eq.trans (r_go (act := oS (fIld 39 5)) rfl rfl) (a_ild rfl)) ?_
        refine Eq.trans (Eq.trans (r_go (act := oS (fSt 40 (g1 (fun x => -x)))) rfl rfl) (a_neg)) ?_
        refine Eq.trans (Eq.trans (r_go (act := oS (fSt 43 (gC (.int 137)))) rfl rfl) (a_C)) ?_
        refine Eq.trans (Eq.trans (r_go (act := oS (fCm 46 50 cLt)) rfl rfl) (a_cm)) (bcg ?_ ?_)
        · refine Eq.trans (Eq.trans (r_go (act := oS (fSt 47 (gC (.int 1)))) rfl rfl) (a_C)) ?_
          refine Eq.trans (Eq.trans (r_go (act := oS (fGo 51)) rfl rfl) (a_goto)) ?_
          refine Eq.trans (Eq.trans (r_go (act := oS (fIst 53 6)) rfl rfl) (a_ist rfl rfl)) ?_
          refine Eq.trans (Eq.trans (r_go (act := oS (fIld 55 5)) rfl rfl) (a_ild rfl)) ?_
          refine Eq.trans (Eq.trans (r_go (act := oS (fIf 58 63 cLt0)) rfl rfl) (a_if)) (bcg ?_ ?_)
          · refine Eq.trans (Eq.trans (r_go (act := oS (fIld 60 6)) rfl rfl) (a_ild rfl)) ?_
            refine Eq.trans (Eq.trans (r_go (act := oS (fIf 103 63 cEq0)) rfl rfl) (a_ifF (by decide +kernel))) ?_
            exact r_cut rfl rfl
          · exact r_cut rfl rfl
        · refine Eq.trans (Eq.trans (r_go (act := oS (fSt 51 (gC (.int 0)))) rfl rfl) (a_C)) ?_
          refine Eq.trans (Eq.trans (r_go (act := oS (fIst 53 6)) rfl rfl) (a_ist rfl rfl)) ?_
          refine Eq.trans (Eq.trans (r_go (act := oS (fIld 55 5)) rfl rfl) (a_ild rfl)) ?_
          refine Eq.trans (Eq.trans (r_go (act := oS (fIf 58 63 cLt0)) rfl rfl) (a_if)) (bcg ?_ ?_)
          · refine Eq.trans (Eq.trans (r_go (act := oS (fIld 60 6)) rfl rfl) (a_ild rfl)) ?_
            refine Eq.trans (Eq.trans (r_go (act := oS (fIf 103 63 cEq0)) rfl rfl) (a_ifT (by decide +kernel))) ?_
            exact r_cut rfl rfl
          · exact r_cut rfl rfl
    · refine Eq.trans (Eq.trans (r_go (act := oS (fAld 180 0)) rfl rfl) (a_ald rfl)) ?_
      refine Eq.trans (Eq.trans (r_go (act := oS (fGr g 183 4 5)) rfl rfl) (a_gr (zO_9 g) (zR_9_5 g))) ?_
      refine Eq.trans (Eq.trans (r_go (act := oS (fSt 184 (gC (.int 0)))) rfl rfl) (a_C)) ?_
      refine Eq.trans (Eq.trans (r_go (act := oS (fIa g 185)) rfl rfl) (a_iaK (j := 0) (zA_15 g) zS_15 (by decide +kernel) (by decide +kernel))) ?_
      exact Eq.trans (r_go (act := oIret) rfl rfl) (a_iret)
  · refine Eq.trans (Eq.trans (r_go (act := oS (fAld 180 0)) rfl rfl) (a_ald rfl)) ?_
    refine Eq.trans (Eq.trans (r_go (act := oS (fGr g 183 4 5)) rfl rfl) (a_gr (zO_9 g) (zR_9_5 g))) ?_
    refine Eq.trans (Eq.trans (r_go (act := oS (fSt 184 (gC (.int 0)))) rfl rfl) (a_C)) ?_
    refine Eq.trans (Eq.trans (r_go (act := oS (fIa g 185)) rfl rfl) (a_iaK (j := 0) (zA_15 g) zS_15 (by decide +kernel) (by decide +kernel))) ?_
    exact Eq.trans (r_go (act := oIret) rfl rfl) (a_iret)
set_option maxRecDepth 20000 in
theorem e_X4_reckon_63 (g : zg) (a2 : Int32) (a3 : Int32) (a4 : Int32) (a5 : Int32) (a6 : Int32) (M : zM) : zX (t_X4_reckon g) 63 [some (.ref 9), none, some (.int a2), some (.int a3), some (.int a4), some (.int a5), some (.int a6)] [] M = (bif cLt a3 32 then (bif cEq0 a6 then (bif zb a3 32 then zX (t_X4_reckon g) 5 [some (.ref 9), none, some (.int a2), some (.int (a3 + 1)), some (.int (a4 + 1)), none, none] [] ((zu M.1 15 (zx a3) a5), M.2) else none) else (bif zb ((-a5) - 128) 9 then (bif zb a3 32 then zX (t_X4_reckon g) 5 [some (.ref 9), none, some (.int a2), some (.int (a3 + 1)), some (.int (a4 + 1)), none, none] [] ((zu M.1 15 (zx a3) (M.1 16 (zx ((-a5) - 128)))), M.2) else none) else none)) else zX (t_X4_reckon g) 103 [some (.ref 9), none, some (.int a2), some (.int a3), some (.int a4), some (.int a5), none] [] M) := by
  refine Eq.trans (zX_rgN (tl_X4_reckon g) (hc_X4_reckon g) 23 _ _ _ _) ?_
  refine Eq.trans (Eq.trans (Eq.trans (r_0 (act := oF [1] (oS (fIld 64 3))) rfl) (a_F rfl)) (a_ild rfl)) ?_
  refine Eq.trans (Eq.trans (r_go (act := oS (fSt 66 (gC (.int 32)))) rfl rfl) (a_C)) ?_
  refine Eq.trans (Eq.trans (r_go (act := oS (fCm 69 103 cLt)) rfl rfl) (a_cm)) (bcg ?_ ?_)
  · refine Eq.trans (Eq.trans (r_go (act := oS (fAld 70 0)) rfl rfl) (a_ald rfl)) ?_
    refine Eq.trans (Eq.trans (r_go (act := oS (fGr g 73 4 5)) rfl rfl) (a_gr (zO_9 g) (zR_9_5 g))) ?_
    refine Eq.trans (Eq.trans (r_go (act := oS (fIld 74 3)) rfl rfl) (a_ild rfl)) ?_
    refine Eq.trans (Eq.trans (r_go (act := oS (fIld 76 6)) rfl rfl) (a_ild rfl)) ?_
    refine Eq.trans (Eq.trans (r_go (act := oS (fIf 94 79 cEq0)) rfl rfl) (a_if)) (bcg ?_ ?_)
    · refine Eq.trans (Eq.trans (r_go (act := oS (fIld 96 5)) rfl rfl) (a_ild rfl)) ?_
      refine Eq.trans (Eq.trans (r_go (act := oS (fIs g 97)) rfl rfl) (a_is (zA_15 g) zS_15)) (bcg ?_ rfl)
      refine Eq.trans (Eq.trans (r_go (act := oS (fInc 100 3 1)) rfl rfl) (a_inc rfl rfl rfl)) ?_
      refine Eq.trans (Eq.trans (r_go (act := oS (fGo 173)) rfl rfl) (a_goto)) ?_
      refine Eq.trans (Eq.trans (r_go (act := oS (fInc 176 4 1)) rfl rfl) (a_inc rfl rfl rfl)) ?_
      refine Eq.trans (Eq.trans (r_go (act := oS (fGo 5)) rfl rfl) (a_goto)) ?_
      exact r_cut rfl rfl
    · refine Eq.trans (Eq.trans (r_go (act := oS (fAld 80 0)) rfl rfl) (a_ald rfl)) ?_
      refine Eq.trans (Eq.trans (r_go (act := oS (fGr g 83 4 6)) rfl rfl) (a_gr (zO_9 g) (zR_9_6 g))) ?_
      refine Eq.trans (Eq.trans (r_go (act := oS (fIld 85 5)) rfl rfl) (a_ild rfl)) ?_
      refine Eq.trans (Eq.trans (r_go (act := oS (fSt 86 (g1 (fun x => -x)))) rfl rfl) (a_neg)) ?_
      refine Eq.trans (Eq.trans (r_go (act := oS (fSt 89 (gC (.int 128)))) rfl rfl) (a_C)) ?_
      refine Eq.trans (Eq.trans (r_go (act := oS (fSt 90 (g2 (fun x y => x - y)))) rfl rfl) (a_sub)) ?_
      refine Eq.trans (Eq.trans (r_go (act := oS (fIa g 91)) rfl rfl) (a_ia (zA_16 g) zS_16)) (bcg ?_ rfl)
      refine Eq.trans (Eq.trans (r_go (act := oS (fGo 96)) rfl rfl) (a_goto)) ?_
      refine Eq.trans (Eq.trans (r_go (act := oS (fIs g 97)) rfl rfl) (a_is (zA_15 g) zS_15)) (bcg ?_ rfl)
      refine Eq.trans (Eq.trans (r_go (act := oS (fInc 100 3 1)) rfl rfl) (a_inc rfl rfl rfl)) ?_
      refine Eq.trans (Eq.trans (r_go (act := oS (fGo 173)) rfl rfl) (a_goto)) ?_
      refine Eq.trans (Eq.trans (r_go (act := oS (fInc 176 4 1)) rfl rfl) (a_inc rfl rfl rfl)) ?_
      refine Eq.trans (Eq.trans (r_go (act := oS (fGo 5)) rfl rfl) (a_goto)) ?_
      exact r_cut rfl rfl
  · exact r_cut rfl rfl
