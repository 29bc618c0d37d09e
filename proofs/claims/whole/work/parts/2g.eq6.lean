set_option maxRecDepth 20000 in
theorem e_X12_glassAhead_0 (g : zg) (a1 : Int32) (M : zM) : zX (t_X12_glassAhead g) 0 [some (.ref 72), some (.int a1), none, none] [] M = (zbI (X_X12_glass g [.ref 72] M) (fun x1 M1 => zX (t_X12_glassAhead g) 7 [some (.ref 72), some (.int a1), some (.int x1), some (.int 0)] [] M1)) := by
  refine Eq.trans (zX_rgN (tl_X12_glassAhead g) (hc_X12_glassAhead g) 7 _ _ _ _) ?_
  refine Eq.trans (Eq.trans (r_0 (act := oS (fAld 1 0)) rfl) (a_ald rfl)) ?_
  refine Eq.trans (Eq.trans (r_go (act := oCI 4 1 (zcv g 12) (X_X12_glass g)) rfl rfl) (a_cI rfl (zck (zO_72 g) rfl))) (zbI_cg (fun x1 M1 => ?_))
  refine Eq.trans (Eq.trans (r_go (act := oS (fIst 5 2)) rfl rfl) (a_ist rfl rfl)) ?_
  refine Eq.trans (Eq.trans (r_go (act := oS (fSt 6 (gC (.int 0)))) rfl rfl) (a_C)) ?_
  refine Eq.trans (Eq.trans (r_go (act := oS (fIst 7 3)) rfl rfl) (a_ist rfl rfl)) ?_
  exact r_cut rfl rfl
theorem x_X12_glassAhead_0 (g : zg) (a1 : Int32) (M : zM) : X_X12_glassAhead g [.ref 72, .int a1] M = (zbI (X_X12_glass g [.ref 72] M) (fun x1 M1 => zX (t_X12_glassAhead g) 7 [some (.ref 72), some (.int a1), some (.int x1), some (.int 0)] [] M1)) := e_X12_glassAhead_0 g a1 M
set_option maxRecDepth 20000 in
theorem e_X12_glassAhead_7 (g : zg) (a1 : Int32) (a2 : Int32) (a3 : Int32) (M : zM) : zX (t_X12_glassAhead g) 7 [some (.ref 72), some (.int a1), some (.int a2), some (.int a3)] [] M = (bif cLt a3 a1 then (zbI (X_X12_rounded g [.ref 72, .int ((M.1 73 0) + a3)] M) (fun x1 M1 => (zbI (X_X12_held g [.ref 72, .int (a2 + x1), .int 0, .int 99] M1) (fun x2 M2 => zX (t_X12_glassAhead g) 7 [some (.ref 72), some (.int a1), some (.int x2), some (.int (a3 + 1))] [] M2)))) else some (some (.int a2), M)) := by
  refine Eq.trans (zX_rgN (tl_X12_glassAhead g) (hc_X12_glassAhead g) 22 _ _ _ _) ?_
  refine Eq.trans (Eq.trans (Eq.trans (r_0 (act := oF [] (oS (fIld 8 3))) rfl) (a_F rfl)) (a_ild rfl)) ?_
  refine Eq.trans (Eq.trans (r_go (act := oS (fIld 9 1)) rfl rfl) (a_ild rfl)) ?_
  refine Eq.trans (Eq.trans (r_go (act := oS (fCm 12 40 cLt)) rfl rfl) (a_cm)) (bcg ?_ ?_)
  · refine Eq.trans (Eq.trans (r_go (act := oS (fAld 13 0)) rfl rfl) (a_ald rfl)) ?_
    refine Eq.trans (Eq.trans (r_go (act := oS (fIld 14 2)) rfl rfl) (a_ild rfl)) ?_
    refine Eq.trans (Eq.trans (r_go (act := oS (fAld 15 0)) rfl rfl) (a_ald rfl)) ?_
    refine Eq.trans (Eq.trans (r_go (act := oS (fAld 16 0)) rfl rfl) (a_ald rfl)) ?_
    refine Eq.trans (Eq.trans (r_go (act := oS (fGr g 19 12 1)) rfl rfl) (a_gr (zO_72 g) (zR_72_1 g))) ?_
    refine Eq.trans (Eq.trans (r_go (act := oS (fSt 20 (gC (.int 0)))) rfl rfl) (a_C)) ?_
    refine Eq.trans (Eq.trans (r_go (act := oS (fIa g 21)) rfl rfl) (a_iaK (j := 0) (zA_73 g) zS_73 (by decide +kernel) (by decide +kernel))) ?_
    refine Eq.trans (Eq.trans (r_go (act := oS (fIld 22 3)) rfl rfl) (a_ild rfl)) ?_
    refine Eq.trans (Eq.trans (r_go (act := oS (fSt 23 (g2 (fun x y => x + y)))) rfl rfl) (a_add)) ?_
    refine Eq.trans (Eq.trans (r_go (act := oCI 26 2 (zcv g 12) (X_X12_rounded g)) rfl rfl) (a_cI rfl (zck (zO_72 g) rfl))) (zbI_cg (fun x1 M1 => ?_))
    refine Eq.trans (Eq.trans (r_go (act := oS (fSt 27 (g2 (fun x y => x + y)))) rfl rfl) (a_add)) ?_
    refine Eq.trans (Eq.trans (r_go (act := oS (fSt 28 (gC (.int 0)))) rfl rfl) (a_C)) ?_
    refine Eq.trans (Eq.trans (r_go (act := oS (fSt 30 (gC (.int 99)))) rfl rfl) (a_C)) ?_
    refine Eq.trans (Eq.trans (r_go (act := oCI 33 4 (zcv g 12) (X_X12_held g)) rfl rfl) (a_cI rfl (zck (zO_72 g) rfl))) (zbI_cg (fun x2 M2 => ?_))
    refine Eq.trans (Eq.trans (r_go (act := oS (fIst 34 2)) rfl rfl) (a_ist rfl rfl)) ?_
    refine Eq.trans (Eq.trans (r_go (act := oS (fInc 37 3 1)) rfl rfl) (a_inc rfl rfl rfl)) ?_
    refine Eq.trans (Eq.trans (r_go (act := oS (fGo 7)) rfl rfl) (a_goto)) ?_
    exact r_cut rfl rfl
  · refine Eq.trans (Eq.trans (r_go (act := oS (fIld 41 2)) rfl rfl) (a_ild rfl)) ?_
    exact Eq.trans (r_go (act := oIret) rfl rfl) (a_iret)
set_option maxRecDepth 20000 in
theorem e_X12_ahead_0 (g : zg) (a1 : Int32) (M : zM) : zX (t_X12_ahead g) 0 [some (.ref 72), some (.int a1)] [] M = (zbI (X_X12_isIn g [.ref 72, .int a1, .int 1, .int 99] ((zu M.1 72 0 0), M.2)) (fun x1 M1 => (bif cEq0 x1 then some (some (.int (-1)), M1) else (zbI (X_X12_glassAhead g [.ref 72, .int a1] M1) (fun x2 M2 => (zbI (X_X12_kindOf g [.ref 72, .int x2] M2) (fun x3 M3 => some (some (.int x3), M3)))))))) := by
  refine Eq.trans (zX_rgN (tl_X12_ahead g) (hc_X12_ahead g) 17 _ _ _ _) ?_
  refine Eq.trans (Eq.trans (r_0 (act := oS (fAld 1 0)) rfl) (a_ald rfl)) ?_
  refine Eq.trans (Eq.trans (r_go (act := oS (fSt 2 (gC (.int 0)))) rfl rfl) (a_C)) ?_
  refine Eq.trans (Eq.trans (r_go (act := oS (fPi g 5 12 0)) rfl rfl) (a_pi (zO_72 g))) ?_
  refine Eq.trans (Eq.trans (r_go (act := oS (fAld 6 0)) rfl rfl) (a_ald rfl)) ?_
  refine Eq.trans (Eq.trans (r_go (act := oS (fIld 7 1)) rfl rfl) (a_ild rfl)) ?_
  refine Eq.trans (Eq.trans (r_go (act := oS (fSt 8 (gC (.int 1)))) rfl rfl) (a_C)) ?_
  refine Eq.trans (Eq.trans (r_go (act := oS (fSt 10 (gC (.int 99)))) rfl rfl) (a_C)) ?_
  refine Eq.trans (Eq.trans (r_go (act := oCI 13 4 (zcv g 12) (X_X12_isIn g)) rfl rfl) (a_cI rfl (zck (zO_72 g) rfl))) (zbI_cg (fun x1 M1 => ?_))
  refine Eq.trans (Eq.trans (r_go (act := oS (fIf 28 16 cEq0)) rfl rfl) (a_if)) (bcg ?_ ?_)
  · refine Eq.trans (Eq.trans (r_go (act := oS (fSt 29 (gC (.int (-1))))) rfl rfl) (a_C)) ?_
    exact Eq.trans (r_go (act := oIret) rfl rfl) (a_iret)
  · refine Eq.trans (Eq.trans (r_go (act := oS (fAld 17 0)) rfl rfl) (a_ald rfl)) ?_
    refine Eq.trans (Eq.trans (r_go (act := oS (fAld 18 0)) rfl rfl) (a_ald rfl)) ?_
    refine Eq.trans (Eq.trans (r_go (act := oS (fIld 19 1)) rfl rfl) (a_ild rfl)) ?_
    refine Eq.trans (Eq.trans (r_go (act := oCI 22 2 (zcv g 12) (X_X12_glassAhead g)) rfl rfl) (a_cI rfl (zck (zO_72 g) rfl))) (zbI_cg (fun x2 M2 => ?_))
    refine Eq.trans (Eq.trans (r_go (act := oCI 25 2 (zcv g 12) (X_X12_kindOf g)) rfl rfl) (a_cI rfl (zck (zO_72 g) rfl))) (zbI_cg (fun x3 M3 => ?_))
    refine Eq.trans (Eq.trans (r_go (act := oS (fGo 29)) rfl rfl) (a_goto)) ?_
    exact Eq.trans (r_go (act := oIret) rfl rfl) (a_iret)
theorem x_X12_ahead_0 (g : zg) (a1 : Int32) (M : zM) : X_X12_ahead g [.ref 72, .int a1] M = (zbI (X_X12_isIn g [.ref 72, .int a1, .int 1, .int 99] ((zu M.1 72 0 0), M.2)) (fun x1 M1 => (bif cEq0 x1 then some (some (.int (-1)), M1) else (zbI (X_X12_glassAhead g [.ref 72, .int a1] M1) (fun x2 M2 => (zbI (X_X12_kindOf g [.ref 72, .int x2] M2) (fun x3 M3 => some (some (.int x3), M3)))))))) := e_X12_ahead_0 g a1 M
set_option maxRecDepth 20000 in
theorem e_X12_toldOn_0 (g : zg) (a1 : Int32) (a2 : Int32) (M : zM) : zX (t_X12_toldOn g) 0 [some (.ref 72), some (.int a1), some (.int a2), none, none] [] M = (bif zb (58 + a1) 148 then zX (t_X12_toldOn g) 15 [none, none, some (.int a2), some (.int ((M.1 73 (zx (58 + a1))) / 5)), some (.int 0)] [] M else none) := by
  refine Eq.trans (zX_rgN (tl_X12_toldOn g) (hc_X12_toldOn g) 13 _ _ _ _) ?_
  refine Eq.trans (Eq.trans (r_0 (act := oS (fAld 1 0)) rfl) (a_ald rfl)) ?_
  refine Eq.trans (Eq.trans (r_go (act := oS (fGr g 4 12 1)) rfl rfl) (a_gr (zO_72 g) (zR_72_1 g))) ?_
  refine Eq.trans (Eq.trans (r_go (act := oS (fSt 6 (gC (.int 58)))) rfl rfl) (a_C)) ?_
  refine Eq.trans (Eq.trans (r_go (act := oS (fIld 7 1)) rfl rfl) (a_ild rfl)) ?_
  refine Eq.trans (Eq.trans (r_go (act := oS (fSt 8 (g2 (fun x y => x + y)))) rfl rfl) (a_add)) ?_
  refine Eq.trans (Eq.trans (r_go (act := oS (fIa g 9)) rfl rfl) (a_ia (zA_73 g) zS_73)) (bcg ?_ rfl)
  refine Eq.trans (Eq.trans (r_go (act := oS (fSt 10 (gC (.int 5)))) rfl rfl) (a_C)) ?_
  refine Eq.trans (Eq.trans (r_go (act := oS (fDiv 11)) rfl rfl) (a_div)) (Eq.trans (bcT (by decide)) ?_)
  refine Eq.trans (Eq.trans (r_go (act := oS (fIst 12 3)) rfl rfl) (a_ist rfl rfl)) ?_
  refine Eq.trans (Eq.trans (r_go (act := oS (fSt 13 (gC (.int 0)))) rfl rfl) (a_C)) ?_
  refine Eq.trans (Eq.trans (r_go (act := oS (fIst 15 4)) rfl rfl) (a_ist rfl rfl)) ?_
  exact r_cut rfl rfl
theorem x_X12_toldOn_0 (g : zg) (a1 : Int32) (a2 : Int32) (M : zM) : X_X12_toldOn g [.ref 72, .int a1, .int a2] M = (bif zb (58 + a1) 148 then zX (t_X12_toldOn g) 15 [none, none, some (.int a2), some (.int ((M.1 73 (zx (58 + a1))) / 5)), some (.int 0)] [] M else none) := e_X12_toldOn_0 g a1 a2 M
set_option maxRecDepth 20000 in
theorem e_X12_toldOn_15 (g : zg) (a2 : Int32) (a3 : Int32) (a4 : Int32) (M : zM) : zX (t_X12_toldOn g) 15 [none, none, some (.int a2), some (.int a3), some (.int a4)] [] M = (bif cLt a4 a2 then zX (t_X12_toldOn g) 15 [none, none, some (.int a2), some (.int (a3 / 6)), some (.int (a4 + 1))] [] M else some (some (.int ((a3 - a3 / 6 * 6) - 1)), M)) := by
  refine Eq.trans (zX_rgN (tl_X12_toldOn g) (hc_X12_toldOn g) 11 _ _ _ _) ?_
  refine Eq.trans (Eq.trans (Eq.trans (r_0 (act := oF [0, 1] (oS (fIld 17 4))) rfl) (a_F rfl)) (a_ild rfl)) ?_
  refine Eq.trans (Eq.trans (r_go (act := oS (fIld 18 2)) rfl rfl) (a_ild rfl)) ?_
  refine Eq.trans (Eq.trans (r_go (act := oS (fCm 21 32 cLt)) rfl rfl) (a_cm)) (bcg ?_ ?_)
  · refine Eq.trans (Eq.trans (r_go (act := oS (fIld 22 3)) rfl rfl) (a_ild rfl)) ?_
    refine Eq.trans (Eq.trans (r_go (act := oS (fSt 24 (gC (.int 6)))) rfl rfl) (a_C)) ?_
    refine Eq.trans (Eq.trans (r_go (act := oS (fDiv 25)) rfl rfl) (a_div)) (Eq.trans (bcT (by decide)) ?_)
    refine Eq.trans (Eq.trans (r_go (act := oS (fIst 26 3)) rfl rfl) (a_ist rfl rfl)) ?_
    refine Eq.trans (Eq.trans (r_go (act := oS (fInc 29 4 1)) rfl rfl) (a_inc rfl rfl rfl)) ?_
    refine Eq.trans (Eq.trans (r_go (act := oS (fGo 15)) rfl rfl) (a_goto)) ?_
    exact r_cut rfl rfl
  · refine Eq.trans (Eq.trans (r_go (act := oS (fIld 33 3)) rfl rfl) (a_ild rfl)) ?_
    refine Eq.trans (Eq.trans (r_go (act := oS (fSt 35 (gC (.int 6)))) rfl rfl) (a_C)) ?_
    refine Eq.trans (Eq.trans (r_go (act := oS (fRem 36)) rfl rfl) (a_rem)) (Eq.trans (bcT (by decide)) ?_)
    refine Eq.trans (Eq.trans (r_go (act := oS (fSt 37 (gC (.int 1)))) rfl rfl) (a_C)) ?_
    refine Eq.trans (Eq.trans (r_go (act := oS (fSt 38 (g2 (fun x y => x - y)))) rfl rfl) (a_sub)) ?_
    exact Eq.trans (r_go (act := oIret) rfl rfl) (a_iret)
set_option maxRecDepth 20000 in
theorem e_X12_cameOn_0 (g : zg) (a1 : Int32) (M : zM) : zX (t_X12_cameOn g) 0 [some (.ref 72), some (.int a1)] [] M = (bif zb (58 + a1) 148 then some (some (.int ((M.1 73 (zx (58 + a1))) - (M.1 73 (zx (58 + a1))) / 5 * 5)), M) else none) := by
  refine Eq.trans (zX_rgN (tl_X12_cameOn g) (hc_X12_cameOn g) 10 _ _ _ _) ?_
  refine Eq.trans (Eq.trans (r_0 (act := oS (fAld 1 0)) rfl) (a_ald rfl)) ?_
  refine Eq.trans (Eq.trans (r_go (act := oS (fGr g 4 12 1)) rfl rfl) (a_gr (zO_72 g) (zR_72_1 g))) ?_
  refine Eq.trans (Eq.trans (r_go (act := oS (fSt 6 (gC (.int 58)))) rfl rfl) (a_C)) ?_
  refine Eq.trans (Eq.trans (r_go (act := oS (fIld 7 1)) rfl rfl) (a_ild rfl)) ?_
  refine Eq.trans (Eq.trans (r_go (act := oS (fSt 8 (g2 (fun x y => x + y)))) rfl rfl) (a_add)) ?_
  refine Eq.trans (Eq.trans (r_go (act := oS (fIa g 9)) rfl rfl) (a_ia (zA_73 g) zS_73)) (bcg ?_ rfl)
  refine Eq.trans (Eq.trans (r_go (act := oS (fSt 10 (gC (.int 5)))) rfl rfl) (a_C)) ?_
  refine Eq.trans (Eq.trans (r_go (act := oS (fRem 11)) rfl rfl) (a_rem)) (Eq.trans (bcT (by decide)) ?_)
  exact Eq.trans (r_go (act := oIret) rfl rfl) (a_iret)
theorem x_X12_cameOn_0 (g : zg) (a1 : Int32) (M : zM) : X_X12_cameOn g [.ref 72, .int a1] M = (bif zb (58 + a1) 148 then some (some (.int ((M.1 73 (zx (58 + a1))) - (M.1 73 (zx (58 + a1))) / 5 * 5)), M) else none) := e_X12_cameOn_0 g a1 M
set_option maxRecDepth 20000 in
theorem e_X12_rightOf_0 (g : zg) (a1 : Int32) (M : zM) : zX (t_X12_rightOf g) 0 [some (.ref 72), some (.int a1), none, none] [] M = zX (t_X12_rightOf g) 4 [some (.ref 72), some (.int a1), some (.int 0), some (.int 0)] [] M := by
  refine Eq.trans (zX_rgN (tl_X12_rightOf g) (hc_X12_rightOf g) 6 _ _ _ _) ?_
  refine Eq.trans (Eq.trans (r_0 (act := oS (fSt 1 (gC (.int 0)))) rfl) (a_C)) ?_
  refine Eq.trans (Eq.trans (r_go (act := oS (fIst 2 2)) rfl rfl) (a_ist rfl rfl)) ?_
  refine Eq.trans (Eq.trans (r_go (act := oS (fSt 3 (gC (.int 0)))) rfl rfl) (a_C)) ?_
  refine Eq.trans (Eq.trans (r_go (act := oS (fIst 4 3)) rfl rfl) (a_ist rfl rfl)) ?_
  exact r_cut rfl rfl
theorem x_X12_rightOf_0 (g : zg) (a1 : Int32) (M : zM) : X_X12_rightOf g [.ref 72, .int a1] M = zX (t_X12_rightOf g) 4 [some (.ref 72), some (.int a1), some (.int 0), some (.int 0)] [] M := e_X12_rightOf_0 g a1 M
set_option maxRecDepth 20000 in
theorem e_X12_rightOf_4 (g : zg) (a1 : Int32) (a2 : Int32) (a3 : Int32) (M : zM) : zX (t_X12_rightOf g) 4 [some (.ref 72), some (.int a1), some (.int a2), some (.int a3)] [] M = (bif cLt a3 (M.1 73 7) then (zbI (X_X12_toldOn g [.ref 72, .int a3, .int a1] M) (fun x1 M1 => (zbI (X_X12_cameOn g [.ref 72, .int a3] M1) (fun x2 M2 => (bif cEq x1 x2 then zX (t_X12_rightOf g) 4 [some (.ref 72), some (.int a1), some (.int (a2 + 1)), some (.int (a3 + 1))] [] M2 else zX (t_X12_rightOf g) 4 [some (.ref 72), some (.int a1), some (.int a2), some (.int (a3 + 1))] [] M2))))) else some (some (.int a2), M)) := by
  refine Eq.trans (zX_rgN (tl_X12_rightOf g) (hc_X12_rightOf g) 22 _ _ _ _) ?_
  refine Eq.trans (Eq.trans (Eq.trans (r_0 (act := oF [] (oS (fIld 5 3))) rfl) (a_F rfl)) (a_ild rfl)) ?_
  refine Eq.trans (Eq.trans (r_go (act := oS (fAld 6 0)) rfl rfl) (a_ald rfl)) ?_
  refine Eq.trans (Eq.trans (r_go (act := oS (fGr g 9 12 1)) rfl rfl) (a_gr (zO_72 g) (zR_72_1 g))) ?_
  refine Eq.trans (Eq.trans (r_go (act := oS (fSt 11 (gC (.int 7)))) rfl rfl) (a_C)) ?_
  refine Eq.trans (Eq.trans (r_go (act := oS (fIa g 12)) rfl rfl) (a_iaK (j := 7) (zA_73 g) zS_73 (by decide +kernel) (by decide +kernel))) ?_
  refine Eq.trans (Eq.trans (r_go (act := oS (fCm 15 39 cLt)) rfl rfl) (a_cm)) (bcg ?_ ?_)
  · refine Eq.trans (Eq.trans (r_go (act := oS (fAld 16 0)) rfl rfl) (a_ald rfl)) ?_
    refine Eq.trans (Eq.trans (r_go (act := oS (fIld 17 3)) rfl rfl) (a_ild rfl)) ?_
    refine Eq.trans (Eq.trans (r_go (act := oS (fIld 18 1)) rfl rfl) (a_ild rfl)) ?_
    refine Eq.trans (Eq.trans (r_go (act := oCI 21 3 (zcv g 12) (X_X12_toldOn g)) rfl rfl) (a_cI rfl (zck (zO_72 g) rfl))) (zbI_cg (fun x1 M1 => ?_))
    refine Eq.trans (Eq.trans (r_go (act := oS (fAld 22 0)) rfl rfl) (a_ald rfl)) ?_
    refine Eq.trans (Eq.trans (r_go (act := oS (fIld 23 3)) rfl rfl) (a_ild rfl)) ?_
    refine Eq.trans (Eq.trans (r_go (act := oCI 26 2 (zcv g 12) (X_X12_cameOn g)) rfl rfl) (a_cI rfl (zck (zO_72 g) rfl))) (zbI_cg (fun x2 M2 => ?_))
    refine Eq.trans (Eq.trans (r_go (act := oS (fCm 29 33 cEq)) rfl rfl) (a_cm)) (bcg ?_ ?_)
    · refine Eq.trans (Eq.trans (r_go (act := oS (fIld 30 2)) rfl rfl) (a_ild rfl)) ?_
      refine Eq.trans (Eq.trans (r_go (act := oS (fSt 31 (gC (.int 1)))) rfl rfl) (a_C)) ?_
      refine Eq.trans (Eq.trans (r_go (act := oS (fSt 32 (g2 (fun x y => x + y)))) rfl rfl) (a_add)) ?_
      refine Eq.trans (Eq.trans (r_go (act := oS (fIst 33 2)) rfl rfl) (a_ist rfl rfl)) ?_
      refine Eq.trans (Eq.trans (r_go (act := oS (fInc 36 3 1)) rfl rfl) (a_inc rfl rfl rfl)) ?_
      refine Eq.trans (Eq.trans (r_go (act := oS (fGo 4)) rfl rfl) (a_goto)) ?_
      exact r_cut rfl rfl
    · refine Eq.trans (Eq.trans (r_go (act := oS (fInc 36 3 1)) rfl rfl) (a_inc rfl rfl rfl)) ?_
      refine Eq.trans (Eq.trans (r_go (act := oS (fGo 4)) rfl rfl) (a_goto)) ?_
      exact r_cut rfl rfl
  · refine Eq.trans (Eq.trans (r_go (act := oS (fIld 40 2)) rfl rfl) (a_ild rfl)) ?_
    exact Eq.trans (r_go (act := oIret) rfl rfl) (a_iret)
set_option maxRecDepth 20000 in
theorem e_X12_daysOf_0 (g : zg) (a1 : Int32) (M : zM) : zX (t_X12_daysOf g) 0 [some (.ref 72), some (.int a1), none, none] [] M = zX (t_X12_daysOf g) 4 [some (.ref 72), some (.int a1), some (.int 0), some (.int 0)] [] M := by
  refine Eq.trans (zX_rgN (tl_X12_daysOf g) (hc_X12_daysOf g) 6 _ _ _ _) ?_
  refine Eq.trans (Eq.trans (r_0 (act := oS (fSt 1 (gC (.int 0)))) rfl) (a_C)) ?_
  refine Eq.trans (Eq.trans (r_go (act := oS (fIst 2 2)) rfl rfl) (a_ist rfl rfl)) ?_
  refine Eq.trans (Eq.trans (r_go (act := oS (fSt 3 (gC (.int 0)))) rfl rfl) (a_C)) ?_
  refine Eq.trans (Eq.trans (r_go (act := oS (fIst 4 3)) rfl rfl) (a_ist rfl rfl)) ?_
  exact r_cut rfl rfl
theorem x_X12_daysOf_0 (g : zg) (a1 : Int32) (M : zM) : X_X12_daysOf g [.ref 72, .int a1] M = zX (t_X12_daysOf g) 4 [some (.ref 72), some (.int a1), some (.int 0), some (.int 0)] [] M := e_X12_daysOf_0 g a1 M
set_option maxRecDepth 20000 in
theorem e_X12_daysOf_4 (g : zg) (a1 : Int32) (a2 : Int32) (a3 : Int32) (M : zM) : zX (t_X12_daysOf g) 4 [some (.ref 72), some (.int a1), some (.int a2), some (.int a3)] [] M = (bif cLt a3 (M.1 73 7) then (zbI (X_X12_toldOn g [.ref 72, .int a3, .int a1] M) (fun x1 M1 => (bif cEq x1 (-1) then zX (t_X12_daysOf g) 4 [some (.ref 72), some (.int a1), some (.int a2), some (.int (a3 + 1))] [] M1 else zX (t_X12_daysOf g) 4 [some (.ref 72), some (.int a1), some (.int (a2 + 1)), some (.int (a3 + 1))] [] M1))) else some (some (.int a2), M)) := by
  refine Eq.trans (zX_rgN (tl_X12_daysOf g) (hc_X12_daysOf g) 20 _ _ _ _) ?_
  refine Eq.trans (Eq.trans (Eq.trans (r_0 (act := oF [] (oS (fIld 5 3))) rfl) (a_F rfl)) (a_ild rfl)) ?_
  refine Eq.trans (Eq.trans (r_go (act := oS (fAld 6 0)) rfl rfl) (a_ald rfl)) ?_
  refine Eq.trans (Eq.trans (r_go (act := oS (fGr g 9 12 1)) rfl rfl) (a_gr (zO_72 g) (zR_72_1 g))) ?_
  refine Eq.trans (Eq.trans (r_go (act := oS (fSt 11 (gC (.int 7)))) rfl rfl) (a_C)) ?_
  refine Eq.trans (Eq.trans (r_go (act := oS (fIa g 12)) rfl rfl) (a_iaK (j := 7) (zA_73 g) zS_73 (by decide +kernel) (by decide +kernel))) ?_
  refine Eq.trans (Eq.trans (r_go (act := oS (fCm 15 35 cLt)) rfl rfl) (a_cm)) (bcg ?_ ?_)
  · refine Eq.trans (Eq.trans (r_go (act := oS (fAld 16 0)) rfl rfl) (a_ald rfl)) ?_
    refine Eq.trans (Eq.trans (r_go (act := oS (fIld 17 3)) rfl rfl) (a_ild rfl)) ?_
    refine Eq.trans (Eq.trans (r_go (act := oS (fIld 18 1)) rfl rfl) (a_ild rfl)) ?_
    refine Eq.trans (Eq.trans (r_go (act := oCI 21 3 (zcv g 12) (X_X12_toldOn g)) rfl rfl) (a_cI rfl (zck (zO_72 g) rfl))) (zbI_cg (fun x1 M1 => ?_))
    refine Eq.trans (Eq.trans (r_go (act := oS (fSt 22 (gC (.int (-1))))) rfl rfl) (a_C)) ?_
    refine Eq.trans (Eq.trans (r_go (act := oS (fCm 29 25 cEq)) rfl rfl) (a_cm)) (bcg ?_ ?_)
    · refine Eq.trans (Eq.trans (r_go (act := oS (fInc 32 3 1)) rfl rfl) (a_inc rfl rfl rfl)) ?_
      refine Eq.trans (Eq.trans (r_go (act := oS (fGo 4)) rfl rfl) (a_goto)) ?_
      exact r_cut rfl rfl
    · refine Eq.trans (Eq.trans (r_go (act := oS (fIld 26 2)) rfl rfl) (a_ild rfl)) ?_
      refine Eq.trans (Eq.trans (r_go (act := oS (fSt 27 (gC (.int 1)))) rfl rfl) (a_C)) ?_
      refine Eq.trans (Eq.trans (r_go (act := oS (fSt 28 (g2 (fun x y => x + y)))) rfl rfl) (a_add)) ?_
      refine Eq.trans (Eq.trans (r_go (act := oS (fIst 29 2)) rfl rfl) (a_ist rfl rfl)) ?_
      refine Eq.trans (Eq.trans (r_go (act := oS (fInc 32 3 1)) rfl rfl) (a_inc rfl rfl rfl)) ?_
      refine Eq.trans (Eq.trans (r_go (act := oS (fGo 4)) rfl rfl) (a_goto)) ?_
      exact r_cut rfl rfl
  · refine Eq.trans (Eq.trans (r_go (act := oS (fIld 36 2)) rfl rfl) (a_ild rfl)) ?_
    exact Eq.trans (r_go (act := oIret) rfl rfl) (a_iret)
set_option maxRecDepth 20000 in
theorem e_X12_right_0 (g : zg) (a1 : Int32) (a2 : Int32) (M : zM) : zX (t_X12_right g) 0 [some (.ref 72), some (.int a1), some (.int a2)] [] M = (zbI (X_X12_isTeller g [.ref 72, .int a1] ((zu M.1 72 0 0), M.2)) (fun x1 M1 => (bif cEq0 x1 then some (some (.int (-1)), M1) else (bif cEq0 a2 then (zbI (X_X12_rightOf g [.ref 72, .int a1] M1) (fun x2 M2 => some (some (.int x2), M2))) else (bif cEq a2 1 then (zbI (X_X12_daysOf g [.ref 72, .int a1] M1) (fun x3 M3 => some (some (.int x3), M3))) else some (some (.int (-1)), M1)))))) := by
  refine Eq.trans (zX_rgN (tl_X12_right g) (hc_X12_right g) 18 _ _ _ _) ?_
  refine Eq.trans (Eq.trans (r_0 (act := oS (fAld 1 0)) rfl) (a_ald rfl)) ?_
  refine Eq.trans (Eq.trans (r_go (act := oS (fSt 2 (gC (.int 0)))) rfl rfl) (a_C)) ?_
  refine Eq.trans (Eq.trans (r_go (act := oS (fPi g 5 12 0)) rfl rfl) (a_pi (zO_72 g))) ?_
  refine Eq.trans (Eq.trans (r_go (act := oS (fAld 6 0)) rfl rfl) (a_ald rfl)) ?_
  refine Eq.trans (Eq.trans (r_go (act := oS (fIld 7 1)) rfl rfl) (a_ild rfl)) ?_
  refine Eq.trans (Eq.trans (r_go (act := oCI 10 2 (zcv g 12) (X_X12_isTeller g)) rfl rfl) (a_cI rfl (zck (zO_72 g) rfl))) (zbI_cg (fun x1 M1 => ?_))
  refine Eq.trans (Eq.trans (r_go (act := oS (fIf 13 15 cEq0)) rfl rfl) (a_if)) (bcg ?_ ?_)
  · refine Eq.trans (Eq.trans (r_go (act := oS (fSt 14 (gC (.int (-1))))) rfl rfl) (a_C)) ?_
    exact Eq.trans (r_go (act := oIret) rfl rfl) (a_iret)
  · refine Eq.trans (Eq.trans (r_go (act := oS (fIld 16 2)) rfl rfl) (a_ild rfl)) ?_
    refine Eq.trans (Eq.trans (r_go (act := oS (fIf 19 27 cEq0)) rfl rfl) (a_if)) (bcg ?_ ?_)
    · refine Eq.trans (Eq.trans (r_go (act := oS (fAld 20 0)) rfl rfl) (a_ald rfl)) ?_
      refine Eq.trans (Eq.trans (r_go (act := oS (fIld 21 1)) rfl rfl) (a_ild rfl)) ?_
      refine Eq.trans (Eq.trans (r_go (act := oCI 24 2 (zcv g 12) (X_X12_rightOf g)) rfl rfl) (a_cI rfl (zck (zO_72 g) rfl))) (zbI_cg (fun x2 M2 => ?_))
      refine Eq.trans (Eq.trans (r_go (act := oS (fGo 41)) rfl rfl) (a_goto)) ?_
      exact Eq.trans (r_go (act := oIret) rfl rfl) (a_iret)
    · refine Eq.trans (Eq.trans (r_go (act := oS (fIld 28 2)) rfl rfl) (a_ild rfl)) ?_
      refine Eq.trans (Eq.trans (r_go (act := oS (fSt 29 (gC (.int 1)))) rfl rfl) (a_C)) ?_
      refine Eq.trans (Eq.trans (r_go (act := oS (fCm 32 40 cEq)) rfl rfl) (a_cm)) (bcg ?_ ?_)
      · refine Eq.trans (Eq.trans (r_go (act := oS (fAld 33 0)) rfl rfl) (a_ald rfl)) ?_
        refine Eq.trans (Eq.trans (r_go (act := oS (fIld 34 1)) rfl rfl) (a_ild rfl)) ?_
        refine Eq.trans (Eq.trans (r_go (act := oCI 37 2 (zcv g 12) (X_X12_daysOf g)) rfl rfl) (a_cI rfl (zck (zO_72 g) rfl))) (zbI_cg (fun x3 M3 => ?_))
        refine Eq.trans (Eq.trans (r_go (act := oS (fGo 41)) rfl rfl) (a_goto)) ?_
        exact Eq.trans (r_go (act := oIret) rfl rfl) (a_iret)
      · refine Eq.trans (Eq.trans (r_go (act := oS (fSt 41 (gC (.int (-1))))) rfl rfl) (a_C)) ?_
        exact Eq.trans (r_go (act := oIret) rfl rfl) (a_iret)
theorem x_X12_right_0 (g : zg) (a1 : Int32) (a2 : Int32) (M : zM) : X_X12_right g [.ref 72, .int a1, .int a2] M = (zbI (X_X12_isTeller g [.ref 72, .int a1] ((zu M.1 72 0 0), M.2)) (fun x1 M1 => (bif cEq0 x1 then some (some (.int (-1)), M1) else (bif cEq0 a2 then (zbI (X_X12_rightOf g [.ref 72, .int a1] M1) (fun x2 M2 => some (some (.int x2), M2))) else (bif cEq a2 1 then (zbI (X_X12_daysOf g [.ref 72, .int a1] M1) (fun x3 M3 => some (some (.int x3), M3))) else some (some (.int (-1)), M1)))))) := e_X12_right_0 g a1 a2 M
set_option maxRecDepth 20000 in
theorem e_X12_surest_0 (g : zg) (M : zM) : zX (t_X12_surest g) 0 [some (.ref 72), none, none] [] M = zX (t_X12_surest g) 9 [some (.ref 72), some (.int (-1)), some (.int 0)] [] ((zu M.1 72 0 0), M.2) := by
  refine Eq.trans (zX_rgN (tl_X12_surest g) (hc_X12_surest g) 9 _ _ _ _) ?_
  refine Eq.trans (Eq.trans (r_0 (act := oS (fAld 1 0)) rfl) (a_ald rfl)) ?_
  refine Eq.trans (Eq.trans (r_go (act := oS (fSt 2 (gC (.int 0)))) rfl rfl) (a_C)) ?_
  refine Eq.trans (Eq.trans (r_go (act := oS (fPi g 5 12 0)) rfl rfl) (a_pi (zO_72 g))) ?_
  refine Eq.trans (Eq.trans (r_go (act := oS (fSt 6 (gC (.int (-1))))) rfl rfl) (a_C)) ?_
  refine Eq.trans (Eq.trans (r_go (act := oS (fIst 7 1)) rfl rfl) (a_ist rfl rfl)) ?_
  refine Eq.trans (Eq.trans (r_go (act := oS (fSt 8 (gC (.int 0)))) rfl rfl) (a_C)) ?_
  refine Eq.trans (Eq.trans (r_go (act := oS (fIst 9 2)) rfl rfl) (a_ist rfl rfl)) ?_
  exact r_cut rfl rfl
theorem x_X12_surest_0 (g : zg) (M : zM) : X_X12_surest g [.ref 72] M = zX (t_X12_surest g) 9 [some (.ref 72), some (.int (-1)), some (.int 0)] [] ((zu M.1 72 0 0), M.2) := e_X12_surest_0 g M
set_option maxRecDepth 20000 in
theorem e_X12_surest_9 (g : zg) (a1 : Int32) (a2 : Int32) (M : zM) : zX (t_X12_surest g) 9 [some (.ref 72), some (.int a1), some (.int a2)] [] M = (bif cLt a2 (M.1 72 6) then (zbI (X_X12_isHere g [.ref 72, .int a2] M) (fun x1 M1 => (bif cEq0 x1 then zX (t_X12_surest g) 9 [some (.ref 72), some (.int a1), some (.int (a2 + 1))] [] M1 else (zbI (X_X12_daysOf g [.ref 72, .int a2] M1) (fun x2 M2 => (bif cGt0 x2 then (bif cEq a1 (-1) then zX (t_X12_surest g) 9 [some (.ref 72), some (.int a2), some (.int (a2 + 1))] [] M2 else (zbI (X_X12_rightOf g [.ref 72, .int a2] M2) (fun x3 M3 => (zbI (X_X12_daysOf g [.ref 72, .int a1] M3) (fun x4 M4 => (zbI (X_X12_rightOf g [.ref 72, .int a1] M4) (fun x5 M5 => (zbI (X_X12_daysOf g [.ref 72, .int a2] M5) (fun x6 M6 => (bif cGt (x3 * x4) (x5 * x6) then zX (t_X12_surest g) 9 [some (.ref 72), some (.int a2), some (.int (a2 + 1))] [] M6 else zX (t_X12_surest g) 9 [some (.ref 72), some (.int a1), some (.int (a2 + 1))] [] M6)))))))))) else zX (t_X12_surest g) 9 [some (.ref 72), some (.int a1), some (.int (a2 + 1))] [] M2)))))) else some (some (.int a1), M)) := by
  refine Eq.trans (zX_rgN (tl_X12_surest g) (hc_X12_surest g) 36 _ _ _ _) ?_
  refine Eq.trans (Eq.trans (Eq.trans (r_0 (act := oF [] (oS (fIld 10 2))) rfl) (a_F rfl)) (a_ild rfl)) ?_
  refine Eq.trans (Eq.trans (r_go (act := oS (fAld 11 0)) rfl rfl) (a_ald rfl)) ?_
  refine Eq.trans (Eq.trans (r_go (act := oS (fGi g 14 12 6)) rfl rfl) (a_gi (zO_72 g))) ?_
  refine Eq.trans (Eq.trans (r_go (act := oS (fCm 17 71 cLt)) rfl rfl) (a_cm)) (bcg ?_ ?_)
  · refine Eq.trans (Eq.trans (r_go (act := oS (fAld 18 0)) rfl rfl) (a_ald rfl)) ?_
    refine Eq.trans (Eq.trans (r_go (act := oS (fIld 19 2)) rfl rfl) (a_ild rfl)) ?_
    refine Eq.trans (Eq.trans (r_go (act := oCI 22 2 (zcv g 12) (X_X12_isHere g)) rfl rfl) (a_cI rfl (zck (zO_72 g) rfl))) (zbI_cg (fun x1 M1 => ?_))
    refine Eq.trans (Eq.trans (r_go (act := oS (fIf 65 25 cEq0)) rfl rfl) (a_if)) (bcg ?_ ?_)
    · refine Eq.trans (Eq.trans (r_go (act := oS (fInc 68 2 1)) rfl rfl) (a_inc rfl rfl rfl)) ?_
      refine Eq.trans (Eq.trans (r_go (act := oS (fGo 9)) rfl rfl) (a_goto)) ?_
      exact r_cut rfl rfl
    · refine Eq.trans (Eq.trans (r_go (act := oS (fAld 26 0)) rfl rfl) (a_ald rfl)) ?_
      refine Eq.trans (Eq.trans (r_go (act := oS (fIld 27 2)) rfl rfl) (a_ild rfl)) ?_
      refine Eq.trans (Eq.trans (r_go (act := oCI 30 2 (zcv g 12) (X_X12_daysOf g)) rfl rfl) (a_cI rfl (zck (zO_72 g) rfl))) (zbI_cg (fun x2 M2 => ?_))
      refine Eq.trans (Eq.trans (r_go (act := oS (fIf 33 65 cGt0)) rfl rfl) (a_if)) (bcg ?_ ?_)
      · refine Eq.trans (Eq.trans (r_go (act := oS (fIld 34 1)) rfl rfl) (a_ild rfl)) ?_
        refine Eq.trans (Eq.trans (r_go (act := oS (fSt 35 (gC (.int (-1))))) rfl rfl) (a_C)) ?_
        refine Eq.trans (Eq.trans (r_go (act := oS (fCm 63 38 cEq)) rfl rfl) (a_cm)) (bcg ?_ ?_)
        · refine Eq.trans (Eq.trans (r_go (act := oS (fIld 64 2)) rfl rfl) (a_ild rfl)) ?_
          refine Eq.trans (Eq.trans (r_go (act := oS (fIst 65 1)) rfl rfl) (a_ist rfl rfl)) ?_
          refine Eq.trans (Eq.trans (r_go (act := oS (fInc 68 2 1)) rfl rfl) (a_inc rfl rfl rfl)) ?_
          refine Eq.trans (Eq.trans (r_go (act := oS (fGo 9)) rfl rfl) (a_goto)) ?_
          exact r_cut rfl rfl
        · refine Eq.trans (Eq.trans (r_go (act := oS (fAld 39 0)) rfl rfl) (a_ald rfl)) ?_
          refine Eq.trans (Eq.trans (r_go (act := oS (fIld 40 2)) rfl rfl) (a_ild rfl)) ?_
          refine Eq.trans (Eq.trans (r_go (act := oCI 43 2 (zcv g 12) (X_X12_rightOf g)) rfl rfl) (a_cI rfl (zck (zO_72 g) rfl))) (zbI_cg (fun x3 M3 => ?_))
          refine Eq.trans (Eq.trans (r_go (act := oS (fAld 44 0)) rfl rfl) (a_ald rfl)) ?_
          refine Eq.trans (Eq.trans (r_go (act := oS (fIld 45 1)) rfl rfl) (a_ild rfl)) ?_
          refine Eq.trans (Eq.trans (r_go (act := oCI 48 2 (zcv g 12) (X_X12_daysOf g)) rfl rfl) (a_cI rfl (zck (zO_72 g) rfl))) (zbI_cg (fun x4 M4 => ?_))
          refine Eq.trans (Eq.trans (r_go (act := oS (fSt 49 (g2 (fun x y => x * y)))) rfl rfl) (a_mul)) ?_
          refine Eq.trans (Eq.trans (r_go (act := oS (fAld 50 0)) rfl rfl) (a_ald rfl)) ?_
          refine Eq.trans (Eq.trans (r_go (act := oS (fIld 51 1)) rfl rfl) (a_ild rfl)) ?_
          refine Eq.trans (Eq.trans (r_go (act := oCI 54 2 (zcv g 12) (X_X12_rightOf g)) rfl rfl) (a_cI rfl (zck (zO_72 g) rfl))) (zbI_cg (fun x5 M5 => ?_))
          refine Eq.trans (Eq.trans (r_go (act := oS (fAld 55 0)) rfl rfl) (a_ald rfl)) ?_
          refine Eq.trans (Eq.trans (r_go (act := oS (fIld 56 2)) rfl rfl) (a_ild rfl)) ?_
          refine Eq.trans (Eq.trans (r_go (act := oCI 59 2 (zcv g 12) (X_X12_daysOf g)) rfl rfl) (a_cI rfl (zck (zO_72 g) rfl))) (zbI_cg (fun x6 M6 => ?_))
          refine Eq.trans (Eq.trans (r_go (act := oS (fSt 60 (g2 (fun x y => x * y)))) rfl rfl) (a_mul)) ?_
          refine Eq.trans (Eq.trans (r_go (act := oS (fCm 63 65 cGt)) rfl rfl) (a_cm)) (bcg ?_ ?_)
          · refine Eq.trans (Eq.trans (r_go (act := oS (fIld 64 2)) rfl rfl) (a_ild rfl)) ?_
            refine Eq.trans (Eq.trans (r_go (act := oS (fIst 65 1)) rfl rfl) (a_ist rfl rfl)) ?_
            refine Eq.trans (Eq.trans (r_go (act := oS (fInc 68 2 1)) rfl rfl) (a_inc rfl rfl rfl)) ?_
            refine Eq.trans (Eq.trans (r_go (act := oS (fGo 9)) rfl rfl) (a_goto)) ?_
            exact r_cut rfl rfl
          · refine Eq.trans (Eq.trans (r_go (act := oS (fInc 68 2 1)) rfl rfl) (a_inc rfl rfl rfl)) ?_
            refine Eq.trans (Eq.trans (r_go (act := oS (fGo 9)) rfl rfl) (a_goto)) ?_
            exact r_cut rfl rfl
      · refine Eq.trans (Eq.trans (r_go (act := oS (fInc 68 2 1)) rfl rfl) (a_inc rfl rfl rfl)) ?_
        refine Eq.trans (Eq.trans (r_go (act := oS (fGo 9)) rfl rfl) (a_goto)) ?_
        exact r_cut rfl rfl
  · refine Eq.trans (Eq.trans (r_go (act := oS (fIld 72 1)) rfl rfl) (a_ild rfl)) ?_
    exact Eq.trans (r_go (act := oIret) rfl rfl) (a_iret)
set_option maxRecDepth 20000 in
theorem e_X12_hasSomeoneSaid_0 (g : zg) (M : zM) : zX (t_X12_hasSomeoneSaid g) 0 [some (.ref 72), none] [] M = zX (t_X12_hasSomeoneSaid g) 2 [some (.ref 72), some (.int 0)] [] M := by
  refine Eq.trans (zX_rgN (tl_X12_hasSomeoneSaid g) (hc_X12_hasSomeoneSaid g) 4 _ _ _ _) ?_
  refine Eq.trans (Eq.trans (r_0 (act := oS (fSt 1 (gC (.int 0)))) rfl) (a_C)) ?_
  refine Eq.trans (Eq.trans (r_go (act := oS (fIst 2 1)) rfl rfl) (a_ist rfl rfl)) ?_
  exact r_cut rfl rfl
theorem x_X12_hasSomeoneSaid_0 (g : zg) (M : zM) : X_X12_hasSomeoneSaid g [.ref 72] M = zX (t_X12_hasSomeoneSaid g) 2 [some (.ref 72), some (.int 0)] [] M := e_X12_hasSomeoneSaid_0 g M
set_option maxRecDepth 20000 in
theorem e_X12_hasSomeoneSaid_2 (g : zg) (a1 : Int32) (M : zM) : zX (t_X12_hasSomeoneSaid g) 2 [some (.ref 72), some (.int a1)] [] M = (bif cLt a1 (M.1 72 6) then (zbI (X_X12_isHere g [.ref 72, .int a1] M) (fun x1 M1 => (bif cEq0 x1 then zX (t_X12_hasSomeoneSaid g) 2 [some (.ref 72), some (.int (a1 + 1))] [] M1 else (zbI (X_X12_saidBy g [.ref 72, .int a1] M1) (fun x2 M2 => (bif cEq x2 (-1) then zX (t_X12_hasSomeoneSaid g) 2 [some (.ref 72), some (.int (a1 + 1))] [] M2 else some (some (.int 1), M2))))))) else some (some (.int 0), M)) := by
  refine Eq.trans (zX_rgN (tl_X12_hasSomeoneSaid g) (hc_X12_hasSomeoneSaid g) 17 _ _ _ _) ?_
  refine Eq.trans (Eq.trans (Eq.trans (r_0 (act := oF [] (oS (fIld 3 1))) rfl) (a_F rfl)) (a_ild rfl)) ?_
  refine Eq.trans (Eq.trans (r_go (act := oS (fAld 4 0)) rfl rfl) (a_ald rfl)) ?_
  refine Eq.trans (Eq.trans (r_go (act := oS (fGi g 7 12 6)) rfl rfl) (a_gi (zO_72 g))) ?_
  refine Eq.trans (Eq.trans (r_go (act := oS (fCm 10 35 cLt)) rfl rfl) (a_cm)) (bcg ?_ ?_)
  · refine Eq.trans (Eq.trans (r_go (act := oS (fAld 11 0)) rfl rfl) (a_ald rfl)) ?_
    refine Eq.trans (Eq.trans (r_go (act := oS (fIld 12 1)) rfl rfl) (a_ild rfl)) ?_
    refine Eq.trans (Eq.trans (r_go (act := oCI 15 2 (zcv g 12) (X_X12_isHere g)) rfl rfl) (a_cI rfl (zck (zO_72 g) rfl))) (zbI_cg (fun x1 M1 => ?_))
    refine Eq.trans (Eq.trans (r_go (act := oS (fIf 29 18 cEq0)) rfl rfl) (a_if)) (bcg ?_ ?_)
    · refine Eq.trans (Eq.trans (r_go (act := oS (fInc 32 1 1)) rfl rfl) (a_inc rfl rfl rfl)) ?_
      refine Eq.trans (Eq.trans (r_go (act := oS (fGo 2)) rfl rfl) (a_goto)) ?_
      exact r_cut rfl rfl
    · refine Eq.trans (Eq.trans (r_go (act := oS (fAld 19 0)) rfl rfl) (a_ald rfl)) ?_
      refine Eq.trans (Eq.trans (r_go (act := oS (fIld 20 1)) rfl rfl) (a_ild rfl)) ?_
      refine Eq.trans (Eq.trans (r_go (act := oCI 23 2 (zcv g 12) (X_X12_saidBy g)) rfl rfl) (a_cI rfl (zck (zO_72 g) rfl))) (zbI_cg (fun x2 M2 => ?_))
      refine Eq.trans (Eq.trans (r_go (act := oS (fSt 24 (gC (.int (-1))))) rfl rfl) (a_C)) ?_
      refine Eq.trans (Eq.trans (r_go (act := oS (fCm 29 27 cEq)) rfl rfl) (a_cm)) (bcg ?_ ?_)
      · refine Eq.trans (Eq.trans (r_go (act := oS (fInc 32 1 1)) rfl rfl) (a_inc rfl rfl rfl)) ?_
        refine Eq.trans (Eq.trans (r_go (act := oS (fGo 2)) rfl rfl) (a_goto)) ?_
        exact r_cut rfl rfl
      · refine Eq.trans (Eq.trans (r_go (act := oS (fSt 28 (gC (.int 1)))) rfl rfl) (a_C)) ?_
        exact Eq.trans (Eq.trans (r_go (act := oZret) rfl rfl) a_zret) (bcT (by decide +kernel))
  · refine Eq.trans (Eq.trans (r_go (act := oS (fSt 36 (gC (.int 0)))) rfl rfl) (a_C)) ?_
    exact Eq.trans (Eq.trans (r_go (act := oZret) rfl rfl) a_zret) (bcT (by decide +kernel))
set_option maxRecDepth 20000 in
theorem e_X12_oddsOf_0 (g : zg) (a1 : Int32) (M : zM) : zX (t_X12_oddsOf g) 0 [some (.ref 72), some (.int a1), none, none, none, none, none, none] [] M = zX (t_X12_oddsOf g) 6 [some (.ref 72), some (.int a1), some (.int 200000), some (.int 0), none, none, none, none] [] M := by
  refine Eq.trans (zX_rgN (tl_X12_oddsOf g) (hc_X12_oddsOf g) 6 _ _ _ _) ?_
  refine Eq.trans (Eq.trans (r_0 (act := oS (fSt 3 (gC (.int 200000)))) rfl) (a_C)) ?_
  refine Eq.trans (Eq.trans (r_go (act := oS (fIst 4 2)) rfl rfl) (a_ist rfl rfl)) ?_
  refine Eq.trans (Eq.trans (r_go (act := oS (fSt 5 (gC (.int 0)))) rfl rfl) (a_C)) ?_
  refine Eq.trans (Eq.trans (r_go (act := oS (fIst 6 3)) rfl rfl) (a_ist rfl rfl)) ?_
  exact r_cut rfl rfl
theorem x_X12_oddsOf_0 (g : zg) (a1 : Int32) (M : zM) : X_X12_oddsOf g [.ref 72, .int a1] M = zX (t_X12_oddsOf g) 6 [some (.ref 72), some (.int a1), some (.int 200000), some (.int 0), none, none, none, none] [] M := e_X12_oddsOf_0 g a1 M
set_option maxRecDepth 20000 in
theorem e_X12_oddsOf_6 (g : zg) (a1 : Int32) (a2 : Int32) (a3 : Int32) (M : zM) : zX (t_X12_oddsOf g) 6 [some (.ref 72), some (.int a1), some (.int a2), some (.int a3), none, none, none, none] [] M = (bif cLt a3 (M.1 72 6) then (zbI (X_X12_saidBy g [.ref 72, .int a3] M) (fun x1 M1 => (zbI (X_X12_isHere g [.ref 72, .int a3] M1) (fun x2 M2 => (bif cEq0 x2 then zX (t_X12_oddsOf g) 6 [some (.ref 72), some (.int a1), some (.int a2), some (.int (a3 + 1)), none, none, none, none] [] M2 else (bif cEq x1 (-1) then zX (t_X12_oddsOf g) 6 [some (.ref 72), some (.int a1), some (.int a2), some (.int (a3 + 1)), none, none, none, none] [] M2 else zX (t_X12_oddsOf g) 47 [some (.ref 72), some (.int a1), some (.int a2), some (.int a3), some (.int x1), some (.int 0), some (.int 0), some (.int 0)] [] M2)))))) else some (some (.int a2), M)) := by
  refine Eq.trans (zX_rgN (tl_X12_oddsOf g) (hc_X12_oddsOf g) 23 _ _ _ _) ?_
  refine Eq.trans (Eq.trans (Eq.trans (r_0 (act := oF [4, 5, 6, 7] (oS (fIld 7 3))) rfl) (a_F rfl)) (a_ild rfl)) ?_
  refine Eq.trans (Eq.trans (r_go (act := oS (fAld 8 0)) rfl rfl) (a_ald rfl)) ?_
  refine Eq.trans (Eq.trans (r_go (act := oS (fGi g 11 12 6)) rfl rfl) (a_gi (zO_72 g))) ?_
  refine Eq.trans (Eq.trans (r_go (act := oS (fCm 14 131 cLt)) rfl rfl) (a_cm)) (bcg ?_ ?_)
  · refine Eq.trans (Eq.trans (r_go (act := oS (fAld 15 0)) rfl rfl) (a_ald rfl)) ?_
    refine Eq.trans (Eq.trans (r_go (act := oS (fIld 16 3)) rfl rfl) (a_ild rfl)) ?_
    refine Eq.trans (Eq.trans (r_go (act := oCI 19 2 (zcv g 12) (X_X12_saidBy g)) rfl rfl) (a_cI rfl (zck (zO_72 g) rfl))) (zbI_cg (fun x1 M1 => ?_))
    refine Eq.trans (Eq.trans (r_go (act := oS (fIst 21 4)) rfl rfl) (a_ist rfl rfl)) ?_
    refine Eq.trans (Eq.trans (r_go (act := oS (fAld 22 0)) rfl rfl) (a_ald rfl)) ?_
    refine Eq.trans (Eq.trans (r_go (act := oS (fIld 23 3)) rfl rfl) (a_ild rfl)) ?_
    refine Eq.trans (Eq.trans (r_go (act := oCI 26 2 (zcv g 12) (X_X12_isHere g)) rfl rfl) (a_cI rfl (zck (zO_72 g) rfl))) (zbI_cg (fun x2 M2 => ?_))
    refine Eq.trans (Eq.trans (r_go (act := oS (fIf 125 29 cEq0)) rfl rfl) (a_if)) (bcg ?_ ?_)
    · refine Eq.trans (Eq.trans (r_go (act := oS (fInc 128 3 1)) rfl rfl) (a_inc rfl rfl rfl)) ?_
      refine Eq.trans (Eq.trans (r_go (act := oS (fGo 6)) rfl rfl) (a_goto)) ?_
      exact r_cut rfl rfl
    · refine Eq.trans (Eq.trans (r_go (act := oS (fIld 31 4)) rfl rfl) (a_ild rfl)) ?_
      refine Eq.trans (Eq.trans (r_go (act := oS (fSt 32 (gC (.int (-1))))) rfl rfl) (a_C)) ?_
      refine Eq.trans (Eq.trans (r_go (act := oS (fCm 35 38 cEq)) rfl rfl) (a_cm)) (bcg ?_ ?_)
      · refine Eq.trans (Eq.trans (r_go (act := oS (fGo 125)) rfl rfl) (a_goto)) ?_
        refine Eq.trans (Eq.trans (r_go (act := oS (fInc 128 3 1)) rfl rfl) (a_inc rfl rfl rfl)) ?_
        refine Eq.trans (Eq.trans (r_go (act := oS (fGo 6)) rfl rfl) (a_goto)) ?_
        exact r_cut rfl rfl
      · refine Eq.trans (Eq.trans (r_go (act := oS (fSt 39 (gC (.int 0)))) rfl rfl) (a_C)) ?_
        refine Eq.trans (Eq.trans (r_go (act := oS (fIst 41 5)) rfl rfl) (a_ist rfl rfl)) ?_
        refine Eq.trans (Eq.trans (r_go (act := oS (fSt 42 (gC (.int 0)))) rfl rfl) (a_C)) ?_
        refine Eq.trans (Eq.trans (r_go (act := oS (fIst 44 6)) rfl rfl) (a_ist rfl rfl)) ?_
        refine Eq.trans (Eq.trans (r_go (act := oS (fSt 45 (gC (.int 0)))) rfl rfl) (a_C)) ?_
        refine Eq.trans (Eq.trans (r_go (act := oS (fIst 47 7)) rfl rfl) (a_ist rfl rfl)) ?_
        exact r_cut rfl rfl
  · refine Eq.trans (Eq.trans (r_go (act := oS (fIld 132 2)) rfl rfl) (a_ild rfl)) ?_
    exact Eq.trans (r_go (act := oIret) rfl rfl) (a_iret)
set_option maxRecDepth 20000 in
theorem e_X12_oddsOf_47 (g : zg) (a1 : Int32) (a2 : Int32) (a3 : Int32) (a4 : Int32) (a5 : Int32) (a6 : Int32) (a7 : Int32) (M : zM) : zX (t_X12_oddsOf g) 47 [some (.ref 72), some (.int a1), some (.int a2), some (.int a3), some (.int a4), some (.int a5), some (.int a6), some (.int a7)] [] M = (bif cLt a7 (M.1 73 7) then (zbI (X_X12_cameOn g [.ref 72, .int a7] M) (fun x1 M1 => (bif cEq x1 a1 then (zbI (X_X12_toldOn g [.ref 72, .int a7, .int a3] M1) (fun x2 M2 => (bif cEq x2 (-1) then zX (t_X12_oddsOf g) 47 [some (.ref 72), some (.int a1), some (.int a2), some (.int a3), some (.int a4), some (.int a5), some (.int a6), some (.int (a7 + 1))] [] M2 else (zbI (X_X12_toldOn g [.ref 72, .int a7, .int a3] M2) (fun x3 M3 => (bif cEq x3 a4 then zX (t_X12_oddsOf g) 47 [some (.ref 72), some (.int a1), some (.int a2), some (.int a3), some (.int a4), some (.int (a5 + 1)), some (.int (a6 + 1)), some (.int (a7 + 1))] [] M3 else zX (t_X12_oddsOf g) 47 [some (.ref 72), some (.int a1), some (.int a2), some (.int a3), some (.int a4), some (.int a5), some (.int (a6 + 1)), some (.int (a7 + 1))] [] M3)))))) else zX (t_X12_oddsOf g) 47 [some (.ref 72), some (.int a1), some (.int a2), some (.int a3), some (.int a4), some (.int a5), some (.int a6), some (.int (a7 + 1))] [] M1))) else (bif !decide (5 + a6 = 0) then zX (t_X12_oddsOf g) 6 [some (.ref 72), some (.int a1), some (.int ((a2 * (1 + a5)) / (5 + a6))), some (.int (a3 + 1)), none, none, none, none] [] M else none)) := by
  refine Eq.trans (zX_rgN (tl_X12_oddsOf g) (hc_X12_oddsOf g) 35 _ _ _ _) ?_
  refine Eq.trans (Eq.trans (Eq.trans (r_0 (act := oF [] (oS (fIld 49 7))) rfl) (a_F rfl)) (a_ild rfl)) ?_
  refine Eq.trans (Eq.trans (r_go (act := oS (fAld 50 0)) rfl rfl) (a_ald rfl)) ?_
  refine Eq.trans (Eq.trans (r_go (act := oS (fGr g 53 12 1)) rfl rfl) (a_gr (zO_72 g) (zR_72_1 g))) ?_
  refine Eq.trans (Eq.trans (r_go (act := oS (fSt 55 (gC (.int 7)))) rfl rfl) (a_C)) ?_
  refine Eq.trans (Eq.trans (r_go (act := oS (fIa g 56)) rfl rfl) (a_iaK (j := 7) (zA_73 g) zS_73 (by decide +kernel) (by decide +kernel))) ?_
  refine Eq.trans (Eq.trans (r_go (act := oS (fCm 59 113 cLt)) rfl rfl) (a_cm)) (bcg ?_ ?_)
  · refine Eq.trans (Eq.trans (r_go (act := oS (fAld 60 0)) rfl rfl) (a_ald rfl)) ?_
    refine Eq.trans (Eq.trans (r_go (act := oS (fIld 62 7)) rfl rfl) (a_ild rfl)) ?_
    refine Eq.trans (Eq.trans (r_go (act := oCI 65 2 (zcv g 12) (X_X12_cameOn g)) rfl rfl) (a_cI rfl (zck (zO_72 g) rfl))) (zbI_cg (fun x1 M1 => ?_))
    refine Eq.trans (Eq.trans (r_go (act := oS (fIld 66 1)) rfl rfl) (a_ild rfl)) ?_
    refine Eq.trans (Eq.trans (r_go (act := oS (fCm 69 107 cEq)) rfl rfl) (a_cm)) (bcg ?_ ?_)
    · refine Eq.trans (Eq.trans (r_go (act := oS (fAld 70 0)) rfl rfl) (a_ald rfl)) ?_
      refine Eq.trans (Eq.trans (r_go (act := oS (fIld 72 7)) rfl rfl) (a_ild rfl)) ?_
      refine Eq.trans (Eq.trans (r_go (act := oS (fIld 73 3)) rfl rfl) (a_ild rfl)) ?_
      refine Eq.trans (Eq.trans (r_go (act := oCI 76 3 (zcv g 12) (X_X12_toldOn g)) rfl rfl) (a_cI rfl (zck (zO_72 g) rfl))) (zbI_cg (fun x2 M2 => ?_))
      refine Eq.trans (Eq.trans (r_go (act := oS (fSt 77 (gC (.int (-1))))) rfl rfl) (a_C)) ?_
      refine Eq.trans (Eq.trans (r_go (act := oS (fCm 80 83 cEq)) rfl rfl) (a_cm)) (bcg ?_ ?_)
      · refine Eq.trans (Eq.trans (r_go (act := oS (fGo 107)) rfl rfl) (a_goto)) ?_
        refine Eq.trans (Eq.trans (r_go (act := oS (fInc 110 7 1)) rfl rfl) (a_inc rfl rfl rfl)) ?_
        refine Eq.trans (Eq.trans (r_go (act := oS (fGo 47)) rfl rfl) (a_goto)) ?_
        exact r_cut rfl rfl
      · refine Eq.trans (Eq.trans (r_go (act := oS (fIld 85 6)) rfl rfl) (a_ild rfl)) ?_
        refine Eq.trans (Eq.trans (r_go (act := oS (fSt 86 (gC (.int 1)))) rfl rfl) (a_C)) ?_
        refine Eq.trans (Eq.trans (r_go (act := oS (fSt 87 (g2 (fun x y => x + y)))) rfl rfl) (a_add)) ?_
        refine Eq.trans (Eq.trans (r_go (act := oS (fIst 89 6)) rfl rfl) (a_ist rfl rfl)) ?_
        refine Eq.trans (Eq.trans (r_go (act := oS (fAld 90 0)) rfl rfl) (a_ald rfl)) ?_
        refine Eq.trans (Eq.trans (r_go (act := oS (fIld 92 7)) rfl rfl) (a_ild rfl)) ?_
        refine Eq.trans (Eq.trans (r_go (act := oS (fIld 93 3)) rfl rfl) (a_ild rfl)) ?_
        refine Eq.trans (Eq.trans (r_go (act := oCI 96 3 (zcv g 12) (X_X12_toldOn g)) rfl rfl) (a_cI rfl (zck (zO_72 g) rfl))) (zbI_cg (fun x3 M3 => ?_))
        refine Eq.trans (Eq.trans (r_go (act := oS (fIld 98 4)) rfl rfl) (a_ild rfl)) ?_
        refine Eq.trans (Eq.trans (r_go (act := oS (fCm 101 107 cEq)) rfl rfl) (a_cm)) (bcg ?_ ?_)
        · refine Eq.trans (Eq.trans (r_go (act := oS (fIld 103 5)) rfl rfl) (a_ild rfl)) ?_
          refine Eq.trans (Eq.trans (r_go (act := oS (fSt 104 (gC (.int 1)))) rfl rfl) (a_C)) ?_
          refine Eq.trans (Eq.trans (r_go (act := oS (fSt 105 (g2 (fun x y => x + y)))) rfl rfl) (a_add)) ?_
          refine Eq.trans (Eq.trans (r_go (act := oS (fIst 107 5)) rfl rfl) (a_ist rfl rfl)) ?_
          refine Eq.trans (Eq.trans (r_go (act := oS (fInc 110 7 1)) rfl rfl) (a_inc rfl rfl rfl)) ?_
          refine Eq.trans (Eq.trans (r_go (act := oS (fGo 47)) rfl rfl) (a_goto)) ?_
          exact r_cut rfl rfl
        · refine Eq.trans (Eq.trans (r_go (act := oS (fInc 110 7 1)) rfl rfl) (a_inc rfl rfl rfl)) ?_
          refine Eq.trans (Eq.trans (r_go (act := oS (fGo 47)) rfl rfl) (a_goto)) ?_
          exact r_cut rfl rfl
    · refine Eq.trans (Eq.trans (r_go (act := oS (fInc 110 7 1)) rfl rfl) (a_inc rfl rfl rfl)) ?_
      refine Eq.trans (Eq.trans (r_go (act := oS (fGo 47)) rfl rfl) (a_goto)) ?_
      exact r_cut rfl rfl
  · refine Eq.trans (Eq.trans (r_go (act := oS (fIld 114 2)) rfl rfl) (a_ild rfl)) ?_
    refine Eq.trans (Eq.trans (r_go (act := oS (fSt 115 (gC (.int 1)))) rfl rfl) (a_C)) ?_
    refine Eq.trans (Eq.trans (r_go (act := oS (fIld 117 5)) rfl rfl) (a_ild rfl)) ?_
    refine Eq.trans (Eq.trans (r_go (act := oS (fSt 118 (g2 (fun x y => x + y)))) rfl rfl) (a_add)) ?_
    refine Eq.trans (Eq.trans (r_go (act := oS (fSt 119 (g2 (fun x y => x * y)))) rfl rfl) (a_mul)) ?_
    refine Eq.trans (Eq.trans (r_go (act := oS (fSt 120 (gC (.int 5)))) rfl rfl) (a_C)) ?_
    refine Eq.trans (Eq.trans (r_go (act := oS (fIld 122 6)) rfl rfl) (a_ild rfl)) ?_
    refine Eq.trans (Eq.trans (r_go (act := oS (fSt 123 (g2 (fun x y => x + y)))) rfl rfl) (a_add)) ?_
    refine Eq.trans (Eq.trans (r_go (act := oS (fDiv 124)) rfl rfl) (a_div)) (bcg ?_ rfl)
    refine Eq.trans (Eq.trans (r_go (act := oS (fIst 125 2)) rfl rfl) (a_ist rfl rfl)) ?_
    refine Eq.trans (Eq.trans (r_go (act := oS (fInc 128 3 1)) rfl rfl) (a_inc rfl rfl rfl)) ?_
    refine Eq.trans (Eq.trans (r_go (act := oS (fGo 6)) rfl rfl) (a_goto)) ?_
    exact r_cut rfl rfl
set_option maxRecDepth 20000 in
theorem e_X12_shareOf_0 (g : zg) (a1 : Int32) (a2 : Int32) (M : zM) : zX (t_X12_shareOf g) 0 [some (.ref 72), some (.int a1), some (.int a2), none, none, none] [] M = (bif !decide (a2 = 0) then (bif !decide (a2 = 0) then zX (t_X12_shareOf g) 12 [none, none, some (.int a2), some (.int (a1 / a2)), some (.int (a1 - a1 / a2 * a2)), some (.int 0)] [] M else none) else none) := by
  refine Eq.trans (zX_rgN (tl_X12_shareOf g) (hc_X12_shareOf g) 12 _ _ _ _) ?_
  refine Eq.trans (Eq.trans (r_0 (act := oS (fIld 1 1)) rfl) (a_ild rfl)) ?_
  refine Eq.trans (Eq.trans (r_go (act := oS (fIld 2 2)) rfl rfl) (a_ild rfl)) ?_
  refine Eq.trans (Eq.trans (r_go (act := oS (fDiv 3)) rfl rfl) (a_div)) (bcg ?_ rfl)
  refine Eq.trans (Eq.trans (r_go (act := oS (fIst 4 3)) rfl rfl) (a_ist rfl rfl)) ?_
  refine Eq.trans (Eq.trans (r_go (act := oS (fIld 5 1)) rfl rfl) (a_ild rfl)) ?_
  refine Eq.trans (Eq.trans (r_go (act := oS (fIld 6 2)) rfl rfl) (a_ild rfl)) ?_
  refine Eq.trans (Eq.trans (r_go (act := oS (fRem 7)) rfl rfl) (a_rem)) (bcg ?_ rfl)
  refine Eq.trans (Eq.trans (r_go (act := oS (fIst 9 4)) rfl rfl) (a_ist rfl rfl)) ?_
  refine Eq.trans (Eq.trans (r_go (act := oS (fSt 10 (gC (.int 0)))) rfl rfl) (a_C)) ?_
  refine Eq.trans (Eq.trans (r_go (act := oS (fIst 12 5)) rfl rfl) (a_ist rfl rfl)) ?_
  exact r_cut rfl rfl
theorem x_X12_shareOf_0 (g : zg) (a1 : Int32) (a2 : Int32) (M : zM) : X_X12_shareOf g [.ref 72, .int a1, .int a2] M = (bif !decide (a2 = 0) then (bif !decide (a2 = 0) then zX (t_X12_shareOf g) 12 [none, none, some (.int a2), some (.int (a1 / a2)), some (.int (a1 - a1 / a2 * a2)), some (.int 0)] [] M else none) else none) := e_X12_shareOf_0 g a1 a2 M
set_option maxRecDepth 20000 in
theorem e_X12_shareOf_12 (g : zg) (a2 : Int32) (a3 : Int32) (a4 : Int32) (a5 : Int32) (M : zM) : zX (t_X12_shareOf g) 12 [none, none, some (.int a2), some (.int a3), some (.int a4), some (.int a5)] [] M = (bif cLt a5 6 then (bif !decide (a2 = 0) then (bif !decide (a2 = 0) then zX (t_X12_shareOf g) 12 [none, none, some (.int a2), some (.int ((10 * a3) + ((a4 * 10) / a2))), some (.int ((a4 * 10) - (a4 * 10) / a2 * a2)), some (.int (a5 + 1))] [] M else none) else none) else some (some (.int a3), M)) := by
  refine Eq.trans (zX_rgN (tl_X12_shareOf g) (hc_X12_shareOf g) 23 _ _ _ _) ?_
  refine Eq.trans (Eq.trans (Eq.trans (r_0 (act := oF [0, 1] (oS (fIld 14 5))) rfl) (a_F rfl)) (a_ild rfl)) ?_
  refine Eq.trans (Eq.trans (r_go (act := oS (fSt 16 (gC (.int 6)))) rfl rfl) (a_C)) ?_
  refine Eq.trans (Eq.trans (r_go (act := oS (fCm 19 48 cLt)) rfl rfl) (a_cm)) (bcg ?_ ?_)
  · refine Eq.trans (Eq.trans (r_go (act := oS (fIld 21 4)) rfl rfl) (a_ild rfl)) ?_
    refine Eq.trans (Eq.trans (r_go (act := oS (fSt 23 (gC (.int 10)))) rfl rfl) (a_C)) ?_
    refine Eq.trans (Eq.trans (r_go (act := oS (fSt 24 (g2 (fun x y => x * y)))) rfl rfl) (a_mul)) ?_
    refine Eq.trans (Eq.trans (r_go (act := oS (fIst 26 4)) rfl rfl) (a_ist rfl rfl)) ?_
    refine Eq.trans (Eq.trans (r_go (act := oS (fSt 28 (gC (.int 10)))) rfl rfl) (a_C)) ?_
    refine Eq.trans (Eq.trans (r_go (act := oS (fIld 29 3)) rfl rfl) (a_ild rfl)) ?_
    refine Eq.trans (Eq.trans (r_go (act := oS (fSt 30 (g2 (fun x y => x * y)))) rfl rfl) (a_mul)) ?_
    refine Eq.trans (Eq.trans (r_go (act := oS (fIld 32 4)) rfl rfl) (a_ild rfl)) ?_
    refine Eq.trans (Eq.trans (r_go (act := oS (fIld 33 2)) rfl rfl) (a_ild rfl)) ?_
    refine Eq.trans (Eq.trans (r_go (act := oS (fDiv 34)) rfl rfl) (a_div)) (bcg ?_ rfl)
    refine Eq.trans (Eq.trans (r_go (act := oS (fSt 35 (g2 (fun x y => x + y)))) rfl rfl) (a_add)) ?_
    refine Eq.trans (Eq.trans (r_go (act := oS (fIst 36 3)) rfl rfl) (a_ist rfl rfl)) ?_
    refine Eq.trans (Eq.trans (r_go (act := oS (fIld 38 4)) rfl rfl) (a_ild rfl)) ?_
    refine Eq.trans (Eq.trans (r_go (act := oS (fIld 39 2)) rfl rfl) (a_ild rfl)) ?_
    refine Eq.trans (Eq.trans (r_go (act := oS (fRem 40)) rfl rfl) (a_rem)) (bcg ?_ rfl)
    refine Eq.trans (Eq.trans (r_go (act := oS (fIst 42 4)) rfl rfl) (a_ist rfl rfl)) ?_
    refine Eq.trans (Eq.trans (r_go (act := oS (fInc 45 5 1)) rfl rfl) (a_inc rfl rfl rfl)) ?_
    refine Eq.trans (Eq.trans (r_go (act := oS (fGo 12)) rfl rfl) (a_goto)) ?_
    exact r_cut rfl rfl
  · refine Eq.trans (Eq.trans (r_go (act := oS (fIld 49 3)) rfl rfl) (a_ild rfl)) ?_
    exact Eq.trans (r_go (act := oIret) rfl rfl) (a_iret)
set_option maxRecDepth 20000 in
theorem e_X12_likely_0 (g : zg) (a1 : Int32) (M : zM) : zX (t_X12_likely g) 0 [some (.ref 72), some (.int a1), none, none, none] [] M = (zbI (X_X12_isIn g [.ref 72, .int a1, .int (-1), .int 4] ((zu M.1 72 0 0), M.2)) (fun x1 M1 => (bif cEq0 x1 then some (some (.int (-1)), M1) else (zbI (X_X12_hasSomeoneSaid g [.ref 72] M1) (fun x2 M2 => (bif cEq0 x2 then some (some (.int (-1)), M2) else zX (t_X12_likely g) 31 [some (.ref 72), some (.int a1), some (.int 0), some (.int 0), some (.int 0)] [] M2)))))) := by
  refine Eq.trans (zX_rgN (tl_X12_likely g) (hc_X12_likely g) 20 _ _ _ _) ?_
  refine Eq.trans (Eq.trans (r_0 (act := oS (fAld 1 0)) rfl) (a_ald rfl)) ?_
  refine Eq.trans (Eq.trans (r_go (act := oS (fSt 2 (gC (.int 0)))) rfl rfl) (a_C)) ?_
  refine Eq.trans (Eq.trans (r_go (act := oS (fPi g 5 12 0)) rfl rfl) (a_pi (zO_72 g))) ?_
  refine Eq.trans (Eq.trans (r_go (act := oS (fAld 6 0)) rfl rfl) (a_ald rfl)) ?_
  refine Eq.trans (Eq.trans (r_go (act := oS (fIld 7 1)) rfl rfl) (a_ild rfl)) ?_
  refine Eq.trans (Eq.trans (r_go (act := oS (fSt 8 (gC (.int (-1))))) rfl rfl) (a_C)) ?_
  refine Eq.trans (Eq.trans (r_go (act := oS (fSt 9 (gC (.int 4)))) rfl rfl) (a_C)) ?_
  refine Eq.trans (Eq.trans (r_go (act := oCI 12 4 (zcv g 12) (X_X12_isIn g)) rfl rfl) (a_cI rfl (zck (zO_72 g) rfl))) (zbI_cg (fun x1 M1 => ?_))
  refine Eq.trans (Eq.trans (r_go (act := oS (fIf 22 15 cEq0)) rfl rfl) (a_if)) (bcg ?_ ?_)
  · refine Eq.trans (Eq.trans (r_go (act := oS (fSt 23 (gC (.int (-1))))) rfl rfl) (a_C)) ?_
    exact Eq.trans (r_go (act := oIret) rfl rfl) (a_iret)
  · refine Eq.trans (Eq.trans (r_go (act := oS (fAld 16 0)) rfl rfl) (a_ald rfl)) ?_
    refine Eq.trans (Eq.trans (r_go (act := oCI 19 1 (zcv g 12) (X_X12_hasSomeoneSaid g)) rfl rfl) (a_cI rfl (zck (zO_72 g) rfl))) (zbI_cg (fun x2 M2 => ?_))
    refine Eq.trans (Eq.trans (r_go (act := oS (fIf 22 24 cEq0)) rfl rfl) (a_if)) (bcg ?_ ?_)
    · refine Eq.trans (Eq.trans (r_go (act := oS (fSt 23 (gC (.int (-1))))) rfl rfl) (a_C)) ?_
      exact Eq.trans (r_go (act := oIret) rfl rfl) (a_iret)
    · refine Eq.trans (Eq.trans (r_go (act := oS (fSt 25 (gC (.int 0)))) rfl rfl) (a_C)) ?_
      refine Eq.trans (Eq.trans (r_go (act := oS (fIst 26 2)) rfl rfl) (a_ist rfl rfl)) ?_
      refine Eq.trans (Eq.trans (r_go (act := oS (fSt 27 (gC (.int 0)))) rfl rfl) (a_C)) ?_
      refine Eq.trans (Eq.trans (r_go (act := oS (fIst 28 3)) rfl rfl) (a_ist rfl rfl)) ?_
      refine Eq.trans (Eq.trans (r_go (act := oS (fSt 29 (gC (.int 0)))) rfl rfl) (a_C)) ?_
      refine Eq.trans (Eq.trans (r_go (act := oS (fIst 31 4)) rfl rfl) (a_ist rfl rfl)) ?_
      exact r_cut rfl rfl
theorem x_X12_likely_0 (g : zg) (a1 : Int32) (M : zM) : X_X12_likely g [.ref 72, .int a1] M = (zbI (X_X12_isIn g [.ref 72, .int a1, .int (-1), .int 4] ((zu M.1 72 0 0), M.2)) (fun x1 M1 => (bif cEq0 x1 then some (some (.int (-1)), M1) else (zbI (X_X12_hasSomeoneSaid g [.ref 72] M1) (fun x2 M2 => (bif cEq0 x2 then some (some (.int (-1)), M2) else zX (t_X12_likely g) 31 [some (.ref 72), some (.int a1), some (.int 0), some (.int 0), some (.int 0)] [] M2)))))) := e_X12_likely_0 g a1 M
set_option maxRecDepth 20000 in
theorem e_X12_likely_31 (g : zg) (a1 : Int32) (a2 : Int32) (a3 : Int32) (a4 : Int32) (M : zM) : zX (t_X12_likely g) 31 [some (.ref 72), some (.int a1), some (.int a2), some (.int a3), some (.int a4)] [] M = (bif cLt a4 5 then (zbI (X_X12_oddsOf g [.ref 72, .int a4] M) (fun x1 M1 => (zbI (X_X12_oddsOf g [.ref 72, .int a4] M1) (fun x2 M2 => (zbI (X_X12_oddsOf g [.ref 72, .int a3] M2) (fun x3 M3 => (bif cGt x2 x3 then zX (t_X12_likely g) 31 [some (.ref 72), some (.int a1), some (.int (a2 + x1)), some (.int a4), some (.int (a4 + 1))] [] M3 else zX (t_X12_likely g) 31 [some (.ref 72), some (.int a1), some (.int (a2 + x1)), some (.int a3), some (.int (a4 + 1))] [] M3))))))) else (bif cEq a1 (-1) then some (some (.int a3), M) else (bif cEq0 a2 then some (some (.int 0), M) else (zbI (X_X12_oddsOf g [.ref 72, .int a1] M) (fun x4 M4 => (zbI (X_X12_shareOf g [.ref 72, .int x4, .int a2] M4) (fun x5 M5 => some (some (.int x5), M5)))))))) := by
  refine Eq.trans (zX_rgN (tl_X12_likely g) (hc_X12_likely g) 23 _ _ _ _) ?_
  refine Eq.trans (Eq.trans (Eq.trans (r_0 (act := oF [] (oS (fIld 33 4))) rfl) (a_F rfl)) (a_ild rfl)) ?_
  refine Eq.trans (Eq.trans (r_go (act := oS (fSt 34 (gC (.int 5)))) rfl rfl) (a_C)) ?_
  refine Eq.trans (Eq.trans (r_go (act := oS (fCm 37 73 cLt)) rfl rfl) (a_cm)) (bcg ?_ ?_)
  · refine Eq.trans (Eq.trans (r_go (act := oS (fIld 38 2)) rfl rfl) (a_ild rfl)) ?_
    refine Eq.trans (Eq.trans (r_go (act := oS (fAld 39 0)) rfl rfl) (a_ald rfl)) ?_
    refine Eq.trans (Eq.trans (r_go (act := oS (fIld 41 4)) rfl rfl) (a_ild rfl)) ?_
    refine Eq.trans (Eq.trans (r_go (act := oCI 44 2 (zcv g 12) (X_X12_oddsOf g)) rfl rfl) (a_cI rfl (zck (zO_72 g) rfl))) (zbI_cg (fun x1 M1 => ?_))
    refine Eq.trans (Eq.trans (r_go (act := oS (fSt 45 (g2 (fun x y => x + y)))) rfl rfl) (a_add)) ?_
    refine Eq.trans (Eq.trans (r_go (act := oS (fIst 46 2)) rfl rfl) (a_ist rfl rfl)) ?_
    refine Eq.trans (Eq.trans (r_go (act := oS (fAld 47 0)) rfl rfl) (a_ald rfl)) ?_
    refine Eq.trans (Eq.trans (r_go (act := oS (fIld 49 4)) rfl rfl) (a_ild rfl)) ?_
    refine Eq.trans (Eq.trans (r_go (act := oCI 52 2 (zcv g 12) (X_X12_oddsOf g)) rfl rfl) (a_cI rfl (zck (zO_72 g) rfl))) (zbI_cg (fun x2 M2 => ?_))
    refine Eq.trans (Eq.trans (r_go (act := oS (fAld 53 0)) rfl rfl) (a_ald rfl)) ?_
    refine Eq.trans (Eq.trans (r_go (act := oS (fIld 54 3)) rfl rfl) (a_ild rfl)) ?_
    refine Eq.trans (Eq.trans (r_go (act := oCI 57 2 (zcv g 12) (X_X12_oddsOf g)) rfl rfl) (a_cI rfl (zck (zO_72 g) rfl))) (zbI_cg (fun x3 M3 => ?_))
    refine Eq.trans (Eq.trans (r_go (act := oS (fCm 60 65 cGt)) rfl rfl) (a_cm)) (bcg ?_ ?_)
    · refine Eq.trans (Eq.trans (r_go (act := oS (fIld 62 4)) rfl rfl) (a_ild rfl)) ?_
      refine Eq.trans (Eq.trans (r_go (act := oS (fGo 66)) rfl rfl) (a_goto)) ?_
      refine Eq.trans (Eq.trans (r_go (act := oS (fIst 67 3)) rfl rfl) (a_ist rfl rfl)) ?_
      refine Eq.trans (Eq.trans (r_go (act := oS (fInc 70 4 1)) rfl rfl) (a_inc rfl rfl rfl)) ?_
      refine Eq.trans (Eq.trans (r_go (act := oS (fGo 31)) rfl rfl) (a_goto)) ?_
      exact r_cut rfl rfl
    · refine Eq.trans (Eq.trans (r_go (act := oS (fIld 66 3)) rfl rfl) (a_ild rfl)) ?_
      refine Eq.trans (Eq.trans (r_go (act := oS (fIst 67 3)) rfl rfl) (a_ist rfl rfl)) ?_
      refine Eq.trans (Eq.trans (r_go (act := oS (fInc 70 4 1)) rfl rfl) (a_inc rfl rfl rfl)) ?_
      refine Eq.trans (Eq.trans (r_go (act := oS (fGo 31)) rfl rfl) (a_goto)) ?_
      exact r_cut rfl rfl
  · refine Eq.trans (Eq.trans (r_go (act := oS (fIld 74 1)) rfl rfl) (a_ild rfl)) ?_
    refine Eq.trans (Eq.trans (r_go (act := oS (fSt 75 (gC (.int (-1))))) rfl rfl) (a_C)) ?_
    refine Eq.trans (Eq.trans (r_go (act := oS (fCm 78 80 cEq)) rfl rfl) (a_cm)) (bcg ?_ ?_)
    · refine Eq.trans (Eq.trans (r_go (act := oS (fIld 79 3)) rfl rfl) (a_ild rfl)) ?_
      exact Eq.trans (r_go (act := oIret) rfl rfl) (a_iret)
    · refine Eq.trans (Eq.trans (r_go (act := oS (fIld 81 2)) rfl rfl) (a_ild rfl)) ?_
      refine Eq.trans (Eq.trans (r_go (act := oS (fIf 84 88 cEq0)) rfl rfl) (a_if)) (bcg ?_ ?_)
      · refine Eq.trans (Eq.trans (r_go (act := oS (fSt 85 (gC (.int 0)))) rfl rfl) (a_C)) ?_
        refine Eq.trans (Eq.trans (r_go (act := oS (fGo 98)) rfl rfl) (a_goto)) ?_
        exact Eq.trans (r_go (act := oIret) rfl rfl) (a_iret)
      · refine Eq.trans (Eq.trans (r_go (act := oS (fAld 89 0)) rfl rfl) (a_ald rfl)) ?_
        refine Eq.trans (Eq.trans (r_go (act := oS (fAld 90 0)) rfl rfl) (a_ald rfl)) ?_
        refine Eq.trans (Eq.trans (r_go (act := oS (fIld 91 1)) rfl rfl) (a_ild rfl)) ?_
        refine Eq.trans (Eq.trans (r_go (act := oCI 94 2 (zcv g 12) (X_X12_oddsOf g)) rfl rfl) (a_cI rfl (zck (zO_72 g) rfl))) (zbI_cg (fun x4 M4 => ?_))
        refine Eq.trans (Eq.trans (r_go (act := oS (fIld 95 2)) rfl rfl) (a_ild rfl)) ?_
        refine Eq.trans (Eq.trans (r_go (act := oCI 98 3 (zcv g 12) (X_X12_shareOf g)) rfl rfl) (a_cI rfl (zck (zO_72 g) rfl))) (zbI_cg (fun x5 M5 => ?_))
        exact Eq.trans (r_go (act := oIret) rfl rfl) (a_iret)
set_option maxRecDepth 20000 in
theorem e_X12_isGlued_0 (g : zg) (a1 : Int32) (M : zM) : zX (t_X12_isGlued g) 0 [some (.ref 72), some (.int a1), none, none, none, none, none, none] [] M = zX (t_X12_isGlued g) 13 [some (.ref 72), some (.int a1), some (.int 0), some (.int (-1)), some (.int (-1)), some (.int 0), some (.int 0), none] [] M := by
  refine Eq.trans (zX_rgN (tl_X12_isGlued g) (hc_X12_isGlued g) 12 _ _ _ _) ?_
  refine Eq.trans (Eq.trans (r_0 (act := oS (fSt 1 (gC (.int 0)))) rfl) (a_C)) ?_
  refine Eq.trans (Eq.trans (r_go (act := oS (fIst 2 2)) rfl rfl) (a_ist rfl rfl)) ?_
  refine Eq.trans (Eq.trans (r_go (act := oS (fSt 3 (gC (.int (-1))))) rfl rfl) (a_C)) ?_
  refine Eq.trans (Eq.trans (r_go (act := oS (fIst 4 3)) rfl rfl) (a_ist rfl rfl)) ?_
  refine Eq.trans (Eq.trans (r_go (act := oS (fSt 5 (gC (.int (-1))))) rfl rfl) (a_C)) ?_
  refine Eq.trans (Eq.trans (r_go (act := oS (fIst 7 4)) rfl rfl) (a_ist rfl rfl)) ?_
  refine Eq.trans (Eq.trans (r_go (act := oS (fSt 8 (gC (.int 0)))) rfl rfl) (a_C)) ?_
  refine Eq.trans (Eq.trans (r_go (act := oS (fIst 10 5)) rfl rfl) (a_ist rfl rfl)) ?_
  refine Eq.trans (Eq.trans (r_go (act := oS (fSt 11 (gC (.int 0)))) rfl rfl) (a_C)) ?_
  refine Eq.trans (Eq.trans (r_go (act := oS (fIst 13 6)) rfl rfl) (a_ist rfl rfl)) ?_
  exact r_cut rfl rfl
theorem x_X12_isGlued_0 (g : zg) (a1 : Int32) (M : zM) : X_X12_isGlued g [.ref 72, .int a1] M = zX (t_X12_isGlued g) 13 [some (.ref 72), some (.int a1), some (.int 0), some (.int (-1)), some (.int (-1)), some (.int 0), some (.int 0), none] [] M := e_X12_isGlued_0 g a1 M
set_option maxRecDepth 20000 in
theorem e_X12_isGlued_13 (g : zg) (a1 : Int32) (a2 : Int32) (a3 : Int32) (a4 : Int32) (a5 : Int32) (a6 : Int32) (M : zM) : zX (t_X12_isGlued g) 13 [some (.ref 72), some (.int a1), some (.int a2), some (.int a3), some (.int a4), some (.int a5), some (.int a6), none] [] M = (bif cLt a6 (M.1 73 7) then (zbI (X_X12_toldOn g [.ref 72, .int a6, .int a1] M) (fun x1 M1 => (bif cEq x1 (-1) then zX (t_X12_isGlued g) 13 [some (.ref 72), some (.int a1), some (.int a2), some (.int a3), some (.int a4), some (.int a5), some (.int (a6 + 1)), none] [] M1 else (bif cGt0 a2 then (bif cEq x1 a3 then zX (t_X12_isGlued g) 55 [some (.ref 72), some (.int a1), some (.int a2), none, some (.int a4), some (.int a5), some (.int a6), some (.int x1)] [] M1 else some (some (.int 0), M1)) else zX (t_X12_isGlued g) 55 [some (.ref 72), some (.int a1), some (.int a2), none, some (.int a4), some (.int a5), some (.int a6), some (.int x1)] [] M1)))) else (bif cLt a2 3 then some (some (.int 0), M) else (bif cEq0 a5 then some (some (.int 0), M) else some (some (.int 1), M)))) := by
  refine Eq.trans (zX_rgN (tl_X12_isGlued g) (hc_X12_isGlued g) 22 _ _ _ _) ?_
  refine Eq.trans (Eq.trans (Eq.trans (r_0 (act := oF [7] (oS (fIld 15 6))) rfl) (a_F rfl)) (a_ild rfl)) ?_
  refine Eq.trans (Eq.trans (r_go (act := oS (fAld 16 0)) rfl rfl) (a_ald rfl)) ?_
  refine Eq.trans (Eq.trans (r_go (act := oS (fGr g 19 12 1)) rfl rfl) (a_gr (zO_72 g) (zR_72_1 g))) ?_
  refine Eq.trans (Eq.trans (r_go (act := oS (fSt 21 (gC (.int 7)))) rfl rfl) (a_C)) ?_
  refine Eq.trans (Eq.trans (r_go (act := oS (fIa g 22)) rfl rfl) (a_iaK (j := 7) (zA_73 g) zS_73 (by decide +kernel) (by decide +kernel))) ?_
  refine Eq.trans (Eq.trans (r_go (act := oS (fCm 25 94 cLt)) rfl rfl) (a_cm)) (bcg ?_ ?_)
  · refine Eq.trans (Eq.trans (r_go (act := oS (fAld 26 0)) rfl rfl) (a_ald rfl)) ?_
    refine Eq.trans (Eq.trans (r_go (act := oS (fIld 28 6)) rfl rfl) (a_ild rfl)) ?_
    refine Eq.trans (Eq.trans (r_go (act := oS (fIld 29 1)) rfl rfl) (a_ild rfl)) ?_
    refine Eq.trans (Eq.trans (r_go (act := oCI 32 3 (zcv g 12) (X_X12_toldOn g)) rfl rfl) (a_cI rfl (zck (zO_72 g) rfl))) (zbI_cg (fun x1 M1 => ?_))
    refine Eq.trans (Eq.trans (r_go (act := oS (fIst 34 7)) rfl rfl) (a_ist rfl rfl)) ?_
    refine Eq.trans (Eq.trans (r_go (act := oS (fIld 36 7)) rfl rfl) (a_ild rfl)) ?_
    refine Eq.trans (Eq.trans (r_go (act := oS (fSt 37 (gC (.int (-1))))) rfl rfl) (a_C)) ?_
    refine Eq.trans (Eq.trans (r_go (act := oS (fCm 40 43 cEq)) rfl rfl) (a_cm)) (bcg ?_ ?_)
    · refine Eq.trans (Eq.trans (r_go (act := oS (fGo 88)) rfl rfl) (a_goto)) ?_
      refine Eq.trans (Eq.trans (r_go (act := oS (fInc 91 6 1)) rfl rfl) (a_inc rfl rfl rfl)) ?_
      refine Eq.trans (Eq.trans (r_go (act := oS (fGo 13)) rfl rfl) (a_goto)) ?_
      exact r_cut rfl rfl
    · refine Eq.trans (Eq.trans (r_go (act := oS (fIld 44 2)) rfl rfl) (a_ild rfl)) ?_
      refine Eq.trans (Eq.trans (r_go (act := oS (fIf 47 55 cGt0)) rfl rfl) (a_if)) (bcg ?_ ?_)
      · refine Eq.trans (Eq.trans (r_go (act := oS (fIld 49 7)) rfl rfl) (a_ild rfl)) ?_
        refine Eq.trans (Eq.trans (r_go (act := oS (fIld 50 3)) rfl rfl) (a_ild rfl)) ?_
        refine Eq.trans (Eq.trans (r_go (act := oS (fCm 55 53 cEq)) rfl rfl) (a_cm)) (bcg ?_ ?_)
        · exact r_cut rfl rfl
        · refine Eq.trans (Eq.trans (r_go (act := oS (fSt 54 (gC (.int 0)))) rfl rfl) (a_C)) ?_
          exact Eq.trans (Eq.trans (r_go (act := oZret) rfl rfl) a_zret) (bcT (by decide +kernel))
      · exact r_cut rfl rfl
  · refine Eq.trans (Eq.trans (r_go (act := oS (fIld 95 2)) rfl rfl) (a_ild rfl)) ?_
    refine Eq.trans (Eq.trans (r_go (act := oS (fSt 96 (gC (.int 3)))) rfl rfl) (a_C)) ?_
    refine Eq.trans (Eq.trans (r_go (act := oS (fCm 108 99 cLt)) rfl rfl) (a_cm)) (bcg ?_ ?_)
    · refine Eq.trans (Eq.trans (r_go (act := oS (fSt 109 (gC (.int 0)))) rfl rfl) (a_C)) ?_
      exact Eq.trans (Eq.trans (r_go (act := oZret) rfl rfl) a_zret) (bcT (by decide +kernel))
    · refine Eq.trans (Eq.trans (r_go (act := oS (fIld 101 5)) rfl rfl) (a_ild rfl)) ?_
      refine Eq.trans (Eq.trans (r_go (act := oS (fIf 108 104 cEq0)) rfl rfl) (a_if)) (bcg ?_ ?_)
      · refine Eq.trans (Eq.trans (r_go (act := oS (fSt 109 (gC (.int 0)))) rfl rfl) (a_C)) ?_
        exact Eq.trans (Eq.trans (r_go (act := oZret) rfl rfl) a_zret) (bcT (by decide +kernel))
      · refine Eq.trans (Eq.trans (r_go (act := oS (fSt 105 (gC (.int 1)))) rfl rfl) (a_C)) ?_
        refine Eq.trans (Eq.trans (r_go (act := oS (fGo 109)) rfl rfl) (a_goto)) ?_
        exact Eq.trans (Eq.trans (r_go (act := oZret) rfl rfl) a_zret) (bcT (by decide +kernel))
set_option maxRecDepth 20000 in
theorem e_X12_isGlued_55 (g : zg) (a1 : Int32) (a2 : Int32) (a4 : Int32) (a5 : Int32) (a6 : Int32) (a7 : Int32) (M : zM) : zX (t_X12_isGlued g) 55 [some (.ref 72), some (.int a1), some (.int a2), none, some (.int a4), some (.int a5), some (.int a6), some (.int a7)] [] M = (bif cGt0 a2 then (zbI (X_X12_cameOn g [.ref 72, .int a6] M) (fun x1 M1 => (bif cEq x1 a4 then (zbI (X_X12_cameOn g [.ref 72, .int a6] M1) (fun x2 M2 => zX (t_X12_isGlued g) 13 [some (.ref 72), some (.int a1), some (.int (a2 + 1)), some (.int a7), some (.int x2), some (.int a5), some (.int (a6 + 1)), none] [] M2)) else (zbI (X_X12_cameOn g [.ref 72, .int a6] M1) (fun x3 M3 => zX (t_X12_isGlued g) 13 [some (.ref 72), some (.int a1), some (.int (a2 + 1)), some (.int a7), some (.int x3), some (.int 1), some (.int (a6 + 1)), none] [] M3))))) else (zbI (X_X12_cameOn g [.ref 72, .int a6] M) (fun x4 M4 => zX (t_X12_isGlued g) 13 [some (.ref 72), some (.int a1), some (.int (a2 + 1)), some (.int a7), some (.int x4), some (.int a5), some (.int (a6 + 1)), none] [] M4))) := by
  refine Eq.trans (zX_rgN (tl_X12_isGlued g) (hc_X12_isGlued g) 23 _ _ _ _) ?_
  refine Eq.trans (Eq.trans (Eq.trans (r_0 (act := oF [3] (oS (fIld 56 2))) rfl) (a_F rfl)) (a_ild rfl)) ?_
  refine Eq.trans (Eq.trans (r_go (act := oS (fIf 59 73 cGt0)) rfl rfl) (a_if)) (bcg ?_ ?_)
  · refine Eq.trans (Eq.trans (r_go (act := oS (fAld 60 0)) rfl rfl) (a_ald rfl)) ?_
    refine Eq.trans (Eq.trans (r_go (act := oS (fIld 62 6)) rfl rfl) (a_ild rfl)) ?_
    refine Eq.trans (Eq.trans (r_go (act := oCI 65 2 (zcv g 12) (X_X12_cameOn g)) rfl rfl) (a_cI rfl (zck (zO_72 g) rfl))) (zbI_cg (fun x1 M1 => ?_))
    refine Eq.trans (Eq.trans (r_go (act := oS (fIld 67 4)) rfl rfl) (a_ild rfl)) ?_
    refine Eq.trans (Eq.trans (r_go (act := oS (fCm 73 70 cEq)) rfl rfl) (a_cm)) (bcg ?_ ?_)
    · refine Eq.trans (Eq.trans (r_go (act := oS (fIld 75 7)) rfl rfl) (a_ild rfl)) ?_
      refine Eq.trans (Eq.trans (r_go (act := oS (fIst 76 3)) rfl rfl) (a_ist rfl rfl)) ?_
      refine Eq.trans (Eq.trans (r_go (act := oS (fAld 77 0)) rfl rfl) (a_ald rfl)) ?_
      refine Eq.trans (Eq.trans (r_go (act := oS (fIld 79 6)) rfl rfl) (a_ild rfl)) ?_
      refine Eq.trans (Eq.trans (r_go (act := oCI 82 2 (zcv g 12) (X_X12_cameOn g)) rfl rfl) (a_cI rfl (zck (zO_72 g) rfl))) (zbI_cg (fun x2 M2 => ?_))
      refine Eq.trans (Eq.trans (r_go (act := oS (fIst 84 4)) rfl rfl) (a_ist rfl rfl)) ?_
      refine Eq.trans (Eq.trans (r_go (act := oS (fIld 85 2)) rfl rfl) (a_ild rfl)) ?_
      refine Eq.trans (Eq.trans (r_go (act := oS (fSt 86 (gC (.int 1)))) rfl rfl) (a_C)) ?_
      refine Eq.trans (Eq.trans (r_go (act := oS (fSt 87 (g2 (fun x y => x + y)))) rfl rfl) (a_add)) ?_
      refine Eq.trans (Eq.trans (r_go (act := oS (fIst 88 2)) rfl rfl) (a_ist rfl rfl)) ?_
      refine Eq.trans (Eq.trans (r_go (act := oS (fInc 91 6 1)) rfl rfl) (a_inc rfl rfl rfl)) ?_
      refine Eq.trans (Eq.trans (r_go (act := oS (fGo 13)) rfl rfl) (a_goto)) ?_
      exact r_cut rfl rfl
    · refine Eq.trans (Eq.trans (r_go (act := oS (fSt 71 (gC (.int 1)))) rfl rfl) (a_C)) ?_
      refine Eq.trans (Eq.trans (r_go (act := oS (fIst 73 5)) rfl rfl) (a_ist rfl rfl)) ?_
      refine Eq.trans (Eq.trans (r_go (act := oS (fIld 75 7)) rfl rfl) (a_ild rfl)) ?_
      refine Eq.trans (Eq.trans (r_go (act := oS (fIst 76 3)) rfl rfl) (a_ist rfl rfl)) ?_
      refine Eq.trans (Eq.trans (r_go (act := oS (fAld 77 0)) rfl rfl) (a_ald rfl)) ?_
      refine Eq.trans (Eq.trans (r_go (act := oS (fIld 79 6)) rfl rfl) (a_ild rfl)) ?_
      refine Eq.trans (Eq.trans (r_go (act := oCI 82 2 (zcv g 12) (X_X12_cameOn g)) rfl rfl) (a_cI rfl (zck (zO_72 g) rfl))) (zbI_cg (fun x3 M3 => ?_))
      refine Eq.trans (Eq.trans (r_go (act := oS (fIst 84 4)) rfl rfl) (a_ist rfl rfl)) ?_
      refine Eq.trans (Eq.trans (r_go (act := oS (fIld 85 2)) rfl rfl) (a_ild rfl)) ?_
      refine Eq.trans (Eq.trans (r_go (act := oS (fSt 86 (gC (.int 1)))) rfl rfl) (a_C)) ?_
      refine Eq.trans (Eq.trans (r_go (act := oS (fSt 87 (g2 (fun x y => x + y)))) rfl rfl) (a_add)) ?_
      refine Eq.trans (Eq.trans (r_go (act := oS (fIst 88 2)) rfl rfl) (a_ist rfl rfl)) ?_
      refine Eq.trans (Eq.trans (r_go (act := oS (fInc 91 6 1)) rfl rfl) (a_inc rfl rfl rfl)) ?_
      refine Eq.trans (Eq.trans (r_go (act := oS (fGo 13)) rfl rfl) (a_goto)) ?_
      exact r_cut rfl rfl
  · refine Eq.trans (Eq.trans (r_go (act := oS (fIld 75 7)) rfl rfl) (a_ild rfl)) ?_
    refine Eq.trans (Eq.trans (r_go (act := oS (fIst 76 3)) rfl rfl) (a_ist rfl rfl)) ?_
    refine Eq.trans (Eq.trans (r_go (act := oS (fAld 77 0)) rfl rfl) (a_ald rfl)) ?_
    refine Eq.trans (Eq.trans (r_go (act := oS (fIld 79 6)) rfl rfl) (a_ild rfl)) ?_
    refine Eq.trans (Eq.trans (r_go (act := oCI 82 2 (zcv g 12) (X_X12_cameOn g)) rfl rfl) (a_cI rfl (zck (zO_72 g) rfl))) (zbI_cg (fun x4 M4 => ?_))
    refine Eq.trans (Eq.trans (r_go (act := oS (fIst 84 4)) rfl rfl) (a_ist rfl rfl)) ?_
    refine Eq.trans (Eq.trans (r_go (act := oS (fIld 85 2)) rfl rfl) (a_ild rfl)) ?_
    refine Eq.trans (Eq.trans (r_go (act := oS (fSt 86 (gC (.int 1)))) rfl rfl) (a_C)) ?_
    refine Eq.trans (Eq.trans (r_go (act := oS (fSt 87 (g2 (fun x y => x + y)))) rfl rfl) (a_add)) ?_
    refine Eq.trans (Eq.trans (r_go (act := oS (fIst 88 2)) rfl rfl) (a_ist rfl rfl)) ?_
    refine Eq.trans (Eq.trans (r_go (act := oS (fInc 91 6 1)) rfl rfl) (a_inc rfl rfl rfl)) ?_
    refine Eq.trans (Eq.trans (r_go (act := oS (fGo 13)) rfl rfl) (a_goto)) ?_
    exact r_cut rfl rfl
set_option maxRecDepth 20000 in
theorem e_X12_glued_0 (g : zg) (M : zM) : zX (t_X12_glued g) 0 [some (.ref 72), none, none] [] M = zX (t_X12_glued g) 9 [some (.ref 72), some (.int 0), some (.int 0)] [] ((zu M.1 72 0 0), M.2) := by
  refine Eq.trans (zX_rgN (tl_X12_glued g) (hc_X12_glued g) 9 _ _ _ _) ?_
  refine Eq.trans (Eq.trans (r_0 (act := oS (fAld 1 0)) rfl) (a_ald rfl)) ?_
  refine Eq.trans (Eq.trans (r_go (act := oS (fSt 2 (gC (.int 0)))) rfl rfl) (a_C)) ?_
  refine Eq.trans (Eq.trans (r_go (act := oS (fPi g 5 12 0)) rfl rfl) (a_pi (zO_72 g))) ?_
  refine Eq.trans (Eq.trans (r_go (act := oS (fSt 6 (gC (.int 0)))) rfl rfl) (a_C)) ?_
  refine Eq.trans (Eq.trans (r_go (act := oS (fIst 7 1)) rfl rfl) (a_ist rfl rfl)) ?_
  refine Eq.trans (Eq.trans (r_go (act := oS (fSt 8 (gC (.int 0)))) rfl rfl) (a_C)) ?_
  refine Eq.trans (Eq.trans (r_go (act := oS (fIst 9 2)) rfl rfl) (a_ist rfl rfl)) ?_
  exact r_cut rfl rfl
theorem x_X12_glued_0 (g : zg) (M : zM) : X_X12_glued g [.ref 72] M = zX (t_X12_glued g) 9 [some (.ref 72), some (.int 0), some (.int 0)] [] ((zu M.1 72 0 0), M.2) := e_X12_glued_0 g M
set_option maxRecDepth 20000 in
theorem e_X12_glued_9 (g : zg) (a1 : Int32) (a2 : Int32) (M : zM) : zX (t_X12_glued g) 9 [some (.ref 72), some (.int a1), some (.int a2)] [] M = (bif cLt a2 (M.1 72 6) then (zbI (X_X12_isGlued g [.ref 72, .int a2] M) (fun x1 M1 => (bif cEq0 x1 then zX (t_X12_glued g) 9 [some (.ref 72), some (.int a1), some (.int (a2 + 1))] [] M1 else zX (t_X12_glued g) 9 [some (.ref 72), some (.int (a1 ||| ((1 : Int32) <<< (a2 &&& 31)))), some (.int (a2 + 1))] [] M1))) else some (some (.int a1), M)) := by
  refine Eq.trans (zX_rgN (tl_X12_glued g) (hc_X12_glued g) 18 _ _ _ _) ?_
  refine Eq.trans (Eq.trans (Eq.trans (r_0 (act := oF [] (oS (fIld 10 2))) rfl) (a_F rfl)) (a_ild rfl)) ?_
  refine Eq.trans (Eq.trans (r_go (act := oS (fAld 11 0)) rfl rfl) (a_ald rfl)) ?_
  refine Eq.trans (Eq.trans (r_go (act := oS (fGi g 14 12 6)) rfl rfl) (a_gi (zO_72 g))) ?_
  refine Eq.trans (Eq.trans (r_go (act := oS (fCm 17 37 cLt)) rfl rfl) (a_cm)) (bcg ?_ ?_)
  · refine Eq.trans (Eq.trans (r_go (act := oS (fAld 18 0)) rfl rfl) (a_ald rfl)) ?_
    refine Eq.trans (Eq.trans (r_go (act := oS (fIld 19 2)) rfl rfl) (a_ild rfl)) ?_
    refine Eq.trans (Eq.trans (r_go (act := oCI 22 2 (zcv g 12) (X_X12_isGlued g)) rfl rfl) (a_cI rfl (zck (zO_72 g) rfl))) (zbI_cg (fun x1 M1 => ?_))
    refine Eq.trans (Eq.trans (r_go (act := oS (fIf 31 25 cEq0)) rfl rfl) (a_if)) (bcg ?_ ?_)
    · refine Eq.trans (Eq.trans (r_go (act := oS (fInc 34 2 1)) rfl rfl) (a_inc rfl rfl rfl)) ?_
      refine Eq.trans (Eq.trans (r_go (act := oS (fGo 9)) rfl rfl) (a_goto)) ?_
      exact r_cut rfl rfl
    · refine Eq.trans (Eq.trans (r_go (act := oS (fIld 26 1)) rfl rfl) (a_ild rfl)) ?_
      refine Eq.trans (Eq.trans (r_go (act := oS (fSt 27 (gC (.int 1)))) rfl rfl) (a_C)) ?_
      refine Eq.trans (Eq.trans (r_go (act := oS (fIld 28 2)) rfl rfl) (a_ild rfl)) ?_
      refine Eq.trans (Eq.trans (r_go (act := oS (fSt 29 (g2 (fun x y => x <<< (y &&& 31))))) rfl rfl) (a_shl)) ?_
      refine Eq.trans (Eq.trans (r_go (act := oS (fSt 30 (g2 (fun x y => x ||| y)))) rfl rfl) (a_or)) ?_
      refine Eq.trans (Eq.trans (r_go (act := oS (fIst 31 1)) rfl rfl) (a_ist rfl rfl)) ?_
      refine Eq.trans (Eq.trans (r_go (act := oS (fInc 34 2 1)) rfl rfl) (a_inc rfl rfl rfl)) ?_
      refine Eq.trans (Eq.trans (r_go (act := oS (fGo 9)) rfl rfl) (a_goto)) ?_
      exact r_cut rfl rfl
  · refine Eq.trans (Eq.trans (r_go (act := oS (fIld 38 1)) rfl rfl) (a_ild rfl)) ?_
    exact Eq.trans (r_go (act := oIret) rfl rfl) (a_iret)
set_option maxRecDepth 20000 in
theorem e_X12_seen_0 (g : zg) (a1 : Int32) (M : zM) : zX (t_X12_seen g) 0 [some (.ref 72), some (.int a1)] [] M = (bif cEq a1 (-1) then some (some (.int 0), ((zu (zu M.1 72 0 0) 72 43 0), M.2)) else (zbI (X_X12_isIn g [.ref 72, .int a1, .int 0, .int 99] ((zu M.1 72 0 0), M.2)) (fun x1 M1 => (bif cEq0 x1 then some (some (.int (-1)), M1) else (bif cEq (M1.1 72 43) 12 then some (some (.int (-1)), M1) else (bif zb (M1.1 72 43) 12 then some (some (.int ((M1.1 72 43) + 1)), ((zu (zu M1.1 93 (zx (M1.1 72 43)) a1) 72 43 ((M1.1 72 43) + 1)), M1.2)) else none)))))) := by
  refine Eq.trans (zX_rgN (tl_X12_seen g) (hc_X12_seen g) 32 _ _ _ _) ?_
  refine Eq.trans (Eq.trans (r_0 (act := oS (fAld 1 0)) rfl) (a_ald rfl)) ?_
  refine Eq.trans (Eq.trans (r_go (act := oS (fSt 2 (gC (.int 0)))) rfl rfl) (a_C)) ?_
  refine Eq.trans (Eq.trans (r_go (act := oS (fPi g 5 12 0)) rfl rfl) (a_pi (zO_72 g))) ?_
  refine Eq.trans (Eq.trans (r_go (act := oS (fIld 6 1)) rfl rfl) (a_ild rfl)) ?_
  refine Eq.trans (Eq.trans (r_go (act := oS (fSt 7 (gC (.int (-1))))) rfl rfl) (a_C)) ?_
  refine Eq.trans (Eq.trans (r_go (act := oS (fCm 10 17 cEq)) rfl rfl) (a_cm)) (bcg ?_ ?_)
  · refine Eq.trans (Eq.trans (r_go (act := oS (fAld 11 0)) rfl rfl) (a_ald rfl)) ?_
    refine Eq.trans (Eq.trans (r_go (act := oS (fSt 12 (gC (.int 0)))) rfl rfl) (a_C)) ?_
    refine Eq.trans (Eq.trans (r_go (act := oS (fPi g 15 12 43)) rfl rfl) (a_pi (zO_72 g))) ?_
    refine Eq.trans (Eq.trans (r_go (act := oS (fSt 16 (gC (.int 0)))) rfl rfl) (a_C)) ?_
    exact Eq.trans (r_go (act := oIret) rfl rfl) (a_iret)
  · refine Eq.trans (Eq.trans (r_go (act := oS (fAld 18 0)) rfl rfl) (a_ald rfl)) ?_
    refine Eq.trans (Eq.trans (r_go (act := oS (fIld 19 1)) rfl rfl) (a_ild rfl)) ?_
    refine Eq.trans (Eq.trans (r_go (act := oS (fSt 20 (gC (.int 0)))) rfl rfl) (a_C)) ?_
    refine Eq.trans (Eq.trans (r_go (act := oS (fSt 22 (gC (.int 99)))) rfl rfl) (a_C)) ?_
    refine Eq.trans (Eq.trans (r_go (act := oCI 25 4 (zcv g 12) (X_X12_isIn g)) rfl rfl) (a_cI rfl (zck (zO_72 g) rfl))) (zbI_cg (fun x1 M1 => ?_))
    refine Eq.trans (Eq.trans (r_go (act := oS (fIf 37 28 cEq0)) rfl rfl) (a_if)) (bcg ?_ ?_)
    · refine Eq.trans (Eq.trans (r_go (act := oS (fSt 38 (gC (.int (-1))))) rfl rfl) (a_C)) ?_
      exact Eq.trans (r_go (act := oIret) rfl rfl) (a_iret)
    · refine Eq.trans (Eq.trans (r_go (act := oS (fAld 29 0)) rfl rfl) (a_ald rfl)) ?_
      refine Eq.trans (Eq.trans (r_go (act := oS (fGi g 32 12 43)) rfl rfl) (a_gi (zO_72 g))) ?_
      refine Eq.trans (Eq.trans (r_go (act := oS (fSt 34 (gC (.int 12)))) rfl rfl) (a_C)) ?_
      refine Eq.trans (Eq.trans (r_go (act := oS (fCm 37 39 cEq)) rfl rfl) (a_cm)) (bcg ?_ ?_)
      · refine Eq.trans (Eq.trans (r_go (act := oS (fSt 38 (gC (.int (-1))))) rfl rfl) (a_C)) ?_
        exact Eq.trans (r_go (act := oIret) rfl rfl) (a_iret)
      · refine Eq.trans (Eq.trans (r_go (act := oS (fAld 40 0)) rfl rfl) (a_ald rfl)) ?_
        refine Eq.trans (Eq.trans (r_go (act := oS (fGr g 43 12 44)) rfl rfl) (a_gr (zO_72 g) (zR_72_44 g))) ?_
        refine Eq.trans (Eq.trans (r_go (act := oS (fAld 44 0)) rfl rfl) (a_ald rfl)) ?_
        refine Eq.trans (Eq.trans (r_go (act := oS (fGi g 47 12 43)) rfl rfl) (a_gi (zO_72 g))) ?_
        refine Eq.trans (Eq.trans (r_go (act := oS (fIld 48 1)) rfl rfl) (a_ild rfl)) ?_
        refine Eq.trans (Eq.trans (r_go (act := oS (fIs g 49)) rfl rfl) (a_is (zA_93 g) zS_93)) (bcg ?_ rfl)
        refine Eq.trans (Eq.trans (r_go (act := oS (fAld 50 0)) rfl rfl) (a_ald rfl)) ?_
        refine Eq.trans (Eq.trans (r_go (act := oS (fAld 51 0)) rfl rfl) (a_ald rfl)) ?_
        refine Eq.trans (Eq.trans (r_go (act := oS (fGi g 54 12 43)) rfl rfl) (a_giV (zO_72 g) rfl)) ?_
        refine Eq.trans (Eq.trans (r_go (act := oS (fSt 55 (gC (.int 1)))) rfl rfl) (a_C)) ?_
        refine Eq.trans (Eq.trans (r_go (act := oS (fSt 56 (g2 (fun x y => x + y)))) rfl rfl) (a_add)) ?_
        refine Eq.trans (Eq.trans (r_go (act := oS (fPi g 59 12 43)) rfl rfl) (a_pi (zO_72 g))) ?_
        refine Eq.trans (Eq.trans (r_go (act := oS (fAld 60 0)) rfl rfl) (a_ald rfl)) ?_
        refine Eq.trans (Eq.trans (r_go (act := oS (fGi g 63 12 43)) rfl rfl) (a_giV (zO_72 g) rfl)) ?_
        exact Eq.trans (r_go (act := oIret) rfl rfl) (a_iret)
theorem x_X12_seen_0 (g : zg) (a1 : Int32) (M : zM) : X_X12_seen g [.ref 72, .int a1] M = (bif cEq a1 (-1) then some (some (.int 0), ((zu (zu M.1 72 0 0) 72 43 0), M.2)) else (zbI (X_X12_isIn g [.ref 72, .int a1, .int 0, .int 99] ((zu M.1 72 0 0), M.2)) (fun x1 M1 => (bif cEq0 x1 then some (some (.int (-1)), M1) else (bif cEq (M1.1 72 43) 12 then some (some (.int (-1)), M1) else (bif zb (M1.1 72 43) 12 then some (some (.int ((M1.1 72 43) + 1)), ((zu (zu M1.1 93 (zx (M1.1 72 43)) a1) 72 43 ((M1.1 72 43) + 1)), M1.2)) else none)))))) := e_X12_seen_0 g a1 M
set_option maxRecDepth 20000 in
theorem e_X12_isRound_0 (g : zg) (a1 : Int32) (M : zM) : zX (t_X12_isRound g) 0 [some (.ref 72), some (.int a1), none] [] M = zX (t_X12_isRound g) 2 [some (.ref 72), some (.int a1), some (.int a1)] [] M := by
  refine Eq.trans (zX_rgN (tl_X12_isRound g) (hc_X12_isRound g) 4 _ _ _ _) ?_
  refine Eq.trans (Eq.trans (r_0 (act := oS (fIld 1 1)) rfl) (a_ild rfl)) ?_
  refine Eq.trans (Eq.trans (r_go (act := oS (fIst 2 2)) rfl rfl) (a_ist rfl rfl)) ?_
  exact r_cut rfl rfl
theorem x_X12_isRound_0 (g : zg) (a1 : Int32) (M : zM) : X_X12_isRound g [.ref 72, .int a1] M = zX (t_X12_isRound g) 2 [some (.ref 72), some (.int a1), some (.int a1)] [] M := e_X12_isRound_0 g a1 M
set_option maxRecDepth 20000 in
theorem e_X12_isRound_2 (g : zg) (a1 : Int32) (a2 : Int32) (M : zM) : zX (t_X12_isRound g) 2 [some (.ref 72), some (.int a1), some (.int a2)] [] M = (bif cLt a2 (M.1 72 43) then (bif zb a2 12 then (bif zb (a2 - a1) 12 then (bif cEq (M.1 93 (zx a2)) (M.1 93 (zx (a2 - a1))) then zX (t_X12_isRound g) 2 [some (.ref 72), some (.int a1), some (.int (a2 + 1))] [] M else some (some (.int 0), M)) else none) else none) else some (some (.int 1), M)) := by
  refine Eq.trans (zX_rgN (tl_X12_isRound g) (hc_X12_isRound g) 19 _ _ _ _) ?_
  refine Eq.trans (Eq.trans (Eq.trans (r_0 (act := oF [] (oS (fIld 3 2))) rfl) (a_F rfl)) (a_ild rfl)) ?_
  refine Eq.trans (Eq.trans (r_go (act := oS (fAld 4 0)) rfl rfl) (a_ald rfl)) ?_
  refine Eq.trans (Eq.trans (r_go (act := oS (fGi g 7 12 43)) rfl rfl) (a_gi (zO_72 g))) ?_
  refine Eq.trans (Eq.trans (r_go (act := oS (fCm 10 35 cLt)) rfl rfl) (a_cm)) (bcg ?_ ?_)
  · refine Eq.trans (Eq.trans (r_go (act := oS (fAld 11 0)) rfl rfl) (a_ald rfl)) ?_
    refine Eq.trans (Eq.trans (r_go (act := oS (fGr g 14 12 44)) rfl rfl) (a_gr (zO_72 g) (zR_72_44 g))) ?_
    refine Eq.trans (Eq.trans (r_go (act := oS (fIld 15 2)) rfl rfl) (a_ild rfl)) ?_
    refine Eq.trans (Eq.trans (r_go (act := oS (fIa g 16)) rfl rfl) (a_ia (zA_93 g) zS_93)) (bcg ?_ rfl)
    refine Eq.trans (Eq.trans (r_go (act := oS (fAld 17 0)) rfl rfl) (a_ald rfl)) ?_
    refine Eq.trans (Eq.trans (r_go (act := oS (fGr g 20 12 44)) rfl rfl) (a_gr (zO_72 g) (zR_72_44 g))) ?_
    refine Eq.trans (Eq.trans (r_go (act := oS (fIld 21 2)) rfl rfl) (a_ild rfl)) ?_
    refine Eq.trans (Eq.trans (r_go (act := oS (fIld 22 1)) rfl rfl) (a_ild rfl)) ?_
    refine Eq.trans (Eq.trans (r_go (act := oS (fSt 23 (g2 (fun x y => x - y)))) rfl rfl) (a_sub)) ?_
    refine Eq.trans (Eq.trans (r_go (act := oS (fIa g 24)) rfl rfl) (a_ia (zA_93 g) zS_93)) (bcg ?_ rfl)
    refine Eq.trans (Eq.trans (r_go (act := oS (fCm 29 27 cEq)) rfl rfl) (a_cm)) (bcg ?_ ?_)
    · refine Eq.trans (Eq.trans (r_go (act := oS (fInc 32 2 1)) rfl rfl) (a_inc rfl rfl rfl)) ?_
      refine Eq.trans (Eq.trans (r_go (act := oS (fGo 2)) rfl rfl) (a_goto)) ?_
      exact r_cut rfl rfl
    · refine Eq.trans (Eq.trans (r_go (act := oS (fSt 28 (gC (.int 0)))) rfl rfl) (a_C)) ?_
      exact Eq.trans (Eq.trans (r_go (act := oZret) rfl rfl) a_zret) (bcT (by decide +kernel))
  · refine Eq.trans (Eq.trans (r_go (act := oS (fSt 36 (gC (.int 1)))) rfl rfl) (a_C)) ?_
    exact Eq.trans (Eq.trans (r_go (act := oZret) rfl rfl) a_zret) (bcT (by decide +kernel))
set_option maxRecDepth 20000 in
theorem e_X12_round_0 (g : zg) (a1 : Int32) (M : zM) : zX (t_X12_round g) 0 [some (.ref 72), some (.int a1), none, none] [] M = (bif cEq0 (M.1 72 43) then some (some (.int (-1)), ((zu M.1 72 0 0), M.2)) else (zbI (X_X12_isIn g [.ref 72, .int a1, .int (-1), .int 99] ((zu M.1 72 0 0), M.2)) (fun x1 M1 => (bif cEq0 x1 then some (some (.int (-1)), M1) else zX (t_X12_round g) 27 [some (.ref 72), some (.int a1), some (.int 1), none] [] M1)))) := by
  refine Eq.trans (zX_rgN (tl_X12_round g) (hc_X12_round g) 16 _ _ _ _) ?_
  refine Eq.trans (Eq.trans (r_0 (act := oS (fAld 1 0)) rfl) (a_ald rfl)) ?_
  refine Eq.trans (Eq.trans (r_go (act := oS (fSt 2 (gC (.int 0)))) rfl rfl) (a_C)) ?_
  refine Eq.trans (Eq.trans (r_go (act := oS (fPi g 5 12 0)) rfl rfl) (a_pi (zO_72 g))) ?_
  refine Eq.trans (Eq.trans (r_go (act := oS (fAld 6 0)) rfl rfl) (a_ald rfl)) ?_
  refine Eq.trans (Eq.trans (r_go (act := oS (fGi g 9 12 43)) rfl rfl) (a_giV (zO_72 g) rfl)) ?_
  refine Eq.trans (Eq.trans (r_go (act := oS (fIf 23 12 cEq0)) rfl rfl) (a_if)) (bcg ?_ ?_)
  · refine Eq.trans (Eq.trans (r_go (act := oS (fSt 24 (gC (.int (-1))))) rfl rfl) (a_C)) ?_
    exact Eq.trans (r_go (act := oIret) rfl rfl) (a_iret)
  · refine Eq.trans (Eq.trans (r_go (act := oS (fAld 13 0)) rfl rfl) (a_ald rfl)) ?_
    refine Eq.trans (Eq.trans (r_go (act := oS (fIld 14 1)) rfl rfl) (a_ild rfl)) ?_
    refine Eq.trans (Eq.trans (r_go (act := oS (fSt 15 (gC (.int (-1))))) rfl rfl) (a_C)) ?_
    refine Eq.trans (Eq.trans (r_go (act := oS (fSt 17 (gC (.int 99)))) rfl rfl) (a_C)) ?_
    refine Eq.trans (Eq.trans (r_go (act := oCI 20 4 (zcv g 12) (X_X12_isIn g)) rfl rfl) (a_cI rfl (zck (zO_72 g) rfl))) (zbI_cg (fun x1 M1 => ?_))
    refine Eq.trans (Eq.trans (r_go (act := oS (fIf 23 25 cEq0)) rfl rfl) (a_if)) (bcg ?_ ?_)
    · refine Eq.trans (Eq.trans (r_go (act := oS (fSt 24 (gC (.int (-1))))) rfl rfl) (a_C)) ?_
      exact Eq.trans (r_go (act := oIret) rfl rfl) (a_iret)
    · refine Eq.trans (Eq.trans (r_go (act := oS (fSt 26 (gC (.int 1)))) rfl rfl) (a_C)) ?_
      refine Eq.trans (Eq.trans (r_go (act := oS (fIst 27 2)) rfl rfl) (a_ist rfl rfl)) ?_
      exact r_cut rfl rfl
theorem x_X12_round_0 (g : zg) (a1 : Int32) (M : zM) : X_X12_round g [.ref 72, .int a1] M = (bif cEq0 (M.1 72 43) then some (some (.int (-1)), ((zu M.1 72 0 0), M.2)) else (zbI (X_X12_isIn g [.ref 72, .int a1, .int (-1), .int 99] ((zu M.1 72 0 0), M.2)) (fun x1 M1 => (bif cEq0 x1 then some (some (.int (-1)), M1) else zX (t_X12_round g) 27 [some (.ref 72), some (.int a1), some (.int 1), none] [] M1)))) := e_X12_round_0 g a1 M
set_option maxRecDepth 20000 in
theorem e_X12_round_27 (g : zg) (a1 : Int32) (a2 : Int32) (M : zM) : zX (t_X12_round g) 27 [some (.ref 72), some (.int a1), some (.int a2), none] [] M = (zbI (X_X12_isRound g [.ref 72, .int a2] M) (fun x1 M1 => (bif cEq0 x1 then zX (t_X12_round g) 27 [some (.ref 72), some (.int a1), some (.int (a2 + 1)), none] [] M1 else (bif cEq a1 (-1) then some (some (.int a2), M1) else (bif !decide (a2 = 0) then (bif zb (((M1.1 72 43) - a2) + (((a2 - 1) + a1) - ((a2 - 1) + a1) / a2 * a2)) 12 then some (some (.int (M1.1 93 (zx (((M1.1 72 43) - a2) + (((a2 - 1) + a1) - ((a2 - 1) + a1) / a2 * a2))))), M1) else none) else none))))) := by
  refine Eq.trans (zX_rgN (tl_X12_round g) (hc_X12_round g) 26 _ _ _ _) ?_
  refine Eq.trans (Eq.trans (Eq.trans (r_0 (act := oF [3] (oS (fAld 28 0))) rfl) (a_F rfl)) (a_ald rfl)) ?_
  refine Eq.trans (Eq.trans (r_go (act := oS (fIld 29 2)) rfl rfl) (a_ild rfl)) ?_
  refine Eq.trans (Eq.trans (r_go (act := oCI 32 2 (zcv g 12) (X_X12_isRound g)) rfl rfl) (a_cI rfl (zck (zO_72 g) rfl))) (zbI_cg (fun x1 M1 => ?_))
  refine Eq.trans (Eq.trans (r_go (act := oS (fIf 35 42 cEq0)) rfl rfl) (a_if)) (bcg ?_ ?_)
  · refine Eq.trans (Eq.trans (r_go (act := oS (fIld 36 2)) rfl rfl) (a_ild rfl)) ?_
    refine Eq.trans (Eq.trans (r_go (act := oS (fSt 37 (gC (.int 1)))) rfl rfl) (a_C)) ?_
    refine Eq.trans (Eq.trans (r_go (act := oS (fSt 38 (g2 (fun x y => x + y)))) rfl rfl) (a_add)) ?_
    refine Eq.trans (Eq.trans (r_go (act := oS (fIst 39 2)) rfl rfl) (a_ist rfl rfl)) ?_
    refine Eq.trans (Eq.trans (r_go (act := oS (fGo 27)) rfl rfl) (a_goto)) ?_
    exact r_cut rfl rfl
  · refine Eq.trans (Eq.trans (r_go (act := oS (fIld 43 1)) rfl rfl) (a_ild rfl)) ?_
    refine Eq.trans (Eq.trans (r_go (act := oS (fSt 44 (gC (.int (-1))))) rfl rfl) (a_C)) ?_
    refine Eq.trans (Eq.trans (r_go (act := oS (fCm 47 49 cEq)) rfl rfl) (a_cm)) (bcg ?_ ?_)
    · refine Eq.trans (Eq.trans (r_go (act := oS (fIld 48 2)) rfl rfl) (a_ild rfl)) ?_
      exact Eq.trans (r_go (act := oIret) rfl rfl) (a_iret)
    · refine Eq.trans (Eq.trans (r_go (act := oS (fAld 50 0)) rfl rfl) (a_ald rfl)) ?_
      refine Eq.trans (Eq.trans (r_go (act := oS (fGi g 53 12 43)) rfl rfl) (a_gi (zO_72 g))) ?_
      refine Eq.trans (Eq.trans (r_go (act := oS (fIld 54 2)) rfl rfl) (a_ild rfl)) ?_
      refine Eq.trans (Eq.trans (r_go (act := oS (fSt 55 (g2 (fun x y => x - y)))) rfl rfl) (a_sub)) ?_
      refine Eq.trans (Eq.trans (r_go (act := oS (fIst 56 3)) rfl rfl) (a_ist rfl rfl)) ?_
      refine Eq.trans (Eq.trans (r_go (act := oS (fAld 57 0)) rfl rfl) (a_ald rfl)) ?_
      refine Eq.trans (Eq.trans (r_go (act := oS (fGr g 60 12 44)) rfl rfl) (a_gr (zO_72 g) (zR_72_44 g))) ?_
      refine Eq.trans (Eq.trans (r_go (act := oS (fIld 61 3)) rfl rfl) (a_ild rfl)) ?_
      refine Eq.trans (Eq.trans (r_go (act := oS (fIld 62 2)) rfl rfl) (a_ild rfl)) ?_
      refine Eq.trans (Eq.trans (r_go (act := oS (fSt 63 (gC (.int 1)))) rfl rfl) (a_C)) ?_
      refine Eq.trans (Eq.trans (r_go (act := oS (fSt 64 (g2 (fun x y => x - y)))) rfl rfl) (a_sub)) ?_
      refine Eq.trans (Eq.trans (r_go (act := oS (fIld 65 1)) rfl rfl) (a_ild rfl)) ?_
      refine Eq.trans (Eq.trans (r_go (act := oS (fSt 66 (g2 (fun x y => x + y)))) rfl rfl) (a_add)) ?_
      refine Eq.trans (Eq.trans (r_go (act := oS (fIld 67 2)) rfl rfl) (a_ild rfl)) ?_
      refine Eq.trans (Eq.trans (r_go (act := oS (fRem 68)) rfl rfl) (a_rem)) (bcg ?_ rfl)
      refine Eq.trans (Eq.trans (r_go (act := oS (fSt 69 (g2 (fun x y => x + y)))) rfl rfl) (a_add)) ?_
      refine Eq.trans (Eq.trans (r_go (act := oS (fIa g 70)) rfl rfl) (a_ia (zA_93 g) zS_93)) (bcg ?_ rfl)
      exact Eq.trans (r_go (act := oIret) rfl rfl) (a_iret)
set_option maxRecDepth 20000 in
theorem e_X12_blamedIn_0 (g : zg) (a1 : Int32) (a2 : Int32) (M : zM) : zX (t_X12_blamedIn g) 0 [some (.ref 72), some (.int a1), some (.int a2), none, none, none, none] [] M = (zbI (X_X12_glass g [.ref 72] M) (fun x1 M1 => (zbI (X_X12_rounded g [.ref 72, .int (M1.1 73 0)] M1) (fun x2 M2 => zX (t_X12_blamedIn g) 31 [some (.ref 72), some (.int a1), some (.int a2), some (.int (M.1 73 3)), some (.int (x1 + x2)), some (.int 0), some (.int (-10))] [] M2)))) := by
  refine Eq.trans (zX_rgN (tl_X12_blamedIn g) (hc_X12_blamedIn g) 21 _ _ _ _) ?_
  refine Eq.trans (Eq.trans (r_0 (act := oS (fAld 1 0)) rfl) (a_ald rfl)) ?_
  refine Eq.trans (Eq.trans (r_go (act := oS (fGr g 4 12 1)) rfl rfl) (a_gr (zO_72 g) (zR_72_1 g))) ?_
  refine Eq.trans (Eq.trans (r_go (act := oS (fSt 5 (gC (.int 3)))) rfl rfl) (a_C)) ?_
  refine Eq.trans (Eq.trans (r_go (act := oS (fIa g 6)) rfl rfl) (a_iaK (j := 3) (zA_73 g) zS_73 (by decide +kernel) (by decide +kernel))) ?_
  refine Eq.trans (Eq.trans (r_go (act := oS (fIst 7 3)) rfl rfl) (a_ist rfl rfl)) ?_
  refine Eq.trans (Eq.trans (r_go (act := oS (fAld 8 0)) rfl rfl) (a_ald rfl)) ?_
  refine Eq.trans (Eq.trans (r_go (act := oCI 11 1 (zcv g 12) (X_X12_glass g)) rfl rfl) (a_cI rfl (zck (zO_72 g) rfl))) (zbI_cg (fun x1 M1 => ?_))
  refine Eq.trans (Eq.trans (r_go (act := oS (fAld 12 0)) rfl rfl) (a_ald rfl)) ?_
  refine Eq.trans (Eq.trans (r_go (act := oS (fAld 13 0)) rfl rfl) (a_ald rfl)) ?_
  refine Eq.trans (Eq.trans (r_go (act := oS (fGr g 16 12 1)) rfl rfl) (a_gr (zO_72 g) (zR_72_1 g))) ?_
  refine Eq.trans (Eq.trans (r_go (act := oS (fSt 17 (gC (.int 0)))) rfl rfl) (a_C)) ?_
  refine Eq.trans (Eq.trans (r_go (act := oS (fIa g 18)) rfl rfl) (a_iaK (j := 0) (zA_73 g) zS_73 (by decide +kernel) (by decide +kernel))) ?_
  refine Eq.trans (Eq.trans (r_go (act := oCI 21 2 (zcv g 12) (X_X12_rounded g)) rfl rfl) (a_cI rfl (zck (zO_72 g) rfl))) (zbI_cg (fun x2 M2 => ?_))
  refine Eq.trans (Eq.trans (r_go (act := oS (fSt 22 (g2 (fun x y => x + y)))) rfl rfl) (a_add)) ?_
  refine Eq.trans (Eq.trans (r_go (act := oS (fIst 24 4)) rfl rfl) (a_ist rfl rfl)) ?_
  refine Eq.trans (Eq.trans (r_go (act := oS (fSt 25 (gC (.int 0)))) rfl rfl) (a_C)) ?_
  refine Eq.trans (Eq.trans (r_go (act := oS (fIst 27 5)) rfl rfl) (a_ist rfl rfl)) ?_
  refine Eq.trans (Eq.trans (r_go (act := oS (fSt 29 (gC (.int (-10))))) rfl rfl) (a_C)) ?_
  refine Eq.trans (Eq.trans (r_go (act := oS (fIst 31 6)) rfl rfl) (a_ist rfl rfl)) ?_
  exact r_cut rfl rfl
theorem x_X12_blamedIn_0 (g : zg) (a1 : Int32) (a2 : Int32) (M : zM) : X_X12_blamedIn g [.ref 72, .int a1, .int a2] M = (zbI (X_X12_glass g [.ref 72] M) (fun x1 M1 => (zbI (X_X12_rounded g [.ref 72, .int (M1.1 73 0)] M1) (fun x2 M2 => zX (t_X12_blamedIn g) 31 [some (.ref 72), some (.int a1), some (.int a2), some (.int (M.1 73 3)), some (.int (x1 + x2)), some (.int 0), some (.int (-10))] [] M2)))) := e_X12_blamedIn_0 g a1 a2 M
set_option maxRecDepth 20000 in
theorem e_X12_blamedIn_31 (g : zg) (a1 : Int32) (a2 : Int32) (a3 : Int32) (a4 : Int32) (a5 : Int32) (a6 : Int32) (M : zM) : zX (t_X12_blamedIn g) 31 [some (.ref 72), some (.int a1), some (.int a2), some (.int a3), some (.int a4), some (.int a5), some (.int a6)] [] M = (bif cGt a6 10 then some (some (.int a5), ((zu M.1 73 3 a3), M.2)) else (zbI (X_X12_held g [.ref 72, .int (a4 + a6), .int 0, .int 99] M) (fun x1 M1 => (zbV (X_X12_glassBe g [.ref 72, .int x1] M1) (fun M2 => (zbI (X_X12_glass g [.ref 72] M2) (fun x3 M3 => (zbI (X_X12_kindOf g [.ref 72, .int x3] M3) (fun x4 M4 => (bif cEq x4 a2 then zX (t_X12_blamedIn g) 31 [some (.ref 72), some (.int a1), some (.int a2), some (.int a3), some (.int a4), some (.int (a5 + (-1))), some (.int (a6 + 1))] [] M4 else (zbI (X_X12_blameFor g [.ref 72, .int a1, .int a2] M4) (fun x5 M5 => zX (t_X12_blamedIn g) 31 [some (.ref 72), some (.int a1), some (.int a2), some (.int a3), some (.int a4), some (.int (a5 + x5)), some (.int (a6 + 1))] [] M5)))))))))))) := by
  refine Eq.trans (zX_rgN (tl_X12_blamedIn g) (hc_X12_blamedIn g) 29 _ _ _ _) ?_
  refine Eq.trans (Eq.trans (Eq.trans (r_0 (act := oF [] (oS (fIld 33 6))) rfl) (a_F rfl)) (a_ild rfl)) ?_
  refine Eq.trans (Eq.trans (r_go (act := oS (fSt 35 (gC (.int 10)))) rfl rfl) (a_C)) ?_
  refine Eq.trans (Eq.trans (r_go (act := oS (fCm 87 38 cGt)) rfl rfl) (a_cm)) (bcg ?_ ?_)
  · refine Eq.trans (Eq.trans (r_go (act := oS (fAld 88 0)) rfl rfl) (a_ald rfl)) ?_
    refine Eq.trans (Eq.trans (r_go (act := oS (fGr g 91 12 1)) rfl rfl) (a_gr (zO_72 g) (zR_72_1 g))) ?_
    refine Eq.trans (Eq.trans (r_go (act := oS (fSt 92 (gC (.int 3)))) rfl rfl) (a_C)) ?_
    refine Eq.trans (Eq.trans (r_go (act := oS (fIld 93 3)) rfl rfl) (a_ild rfl)) ?_
    refine Eq.trans (Eq.trans (r_go (act := oS (fIs g 94)) rfl rfl) (a_isK (j := 3) (zA_73 g) zS_73 (by decide +kernel) (by decide +kernel))) ?_
    refine Eq.trans (Eq.trans (r_go (act := oS (fIld 96 5)) rfl rfl) (a_ild rfl)) ?_
    exact Eq.trans (r_go (act := oIret) rfl rfl) (a_iret)
  · refine Eq.trans (Eq.trans (r_go (act := oS (fAld 39 0)) rfl rfl) (a_ald rfl)) ?_
    refine Eq.trans (Eq.trans (r_go (act := oS (fAld 40 0)) rfl rfl) (a_ald rfl)) ?_
    refine Eq.trans (Eq.trans (r_go (act := oS (fIld 42 4)) rfl rfl) (a_ild rfl)) ?_
    refine Eq.trans (Eq.trans (r_go (act := oS (fIld 44 6)) rfl rfl) (a_ild rfl)) ?_
    refine Eq.trans (Eq.trans (r_go (act := oS (fSt 45 (g2 (fun x y => x + y)))) rfl rfl) (a_add)) ?_
    refine Eq.trans (Eq.trans (r_go (act := oS (fSt 46 (gC (.int 0)))) rfl rfl) (a_C)) ?_
    refine Eq.trans (Eq.trans (r_go (act := oS (fSt 48 (gC (.int 99)))) rfl rfl) (a_C)) ?_
    refine Eq.trans (Eq.trans (r_go (act := oCI 51 4 (zcv g 12) (X_X12_held g)) rfl rfl) (a_cI rfl (zck (zO_72 g) rfl))) (zbI_cg (fun x1 M1 => ?_))
    refine Eq.trans (Eq.trans (r_go (act := oCV 54 2 (zcv g 12) (X_X12_glassBe g)) rfl rfl) (a_cV rfl (zck (zO_72 g) rfl))) (zbV_cg (fun M2 => ?_))
    refine Eq.trans (Eq.trans (r_go (act := oS (fIld 56 5)) rfl rfl) (a_ild rfl)) ?_
    refine Eq.trans (Eq.trans (r_go (act := oS (fAld 57 0)) rfl rfl) (a_ald rfl)) ?_
    refine Eq.trans (Eq.trans (r_go (act := oS (fAld 58 0)) rfl rfl) (a_ald rfl)) ?_
    refine Eq.trans (Eq.trans (r_go (act := oCI 61 1 (zcv g 12) (X_X12_glass g)) rfl rfl) (a_cI rfl (zck (zO_72 g) rfl))) (zbI_cg (fun x3 M3 => ?_))
    refine Eq.trans (Eq.trans (r_go (act := oCI 64 2 (zcv g 12) (X_X12_kindOf g)) rfl rfl) (a_cI rfl (zck (zO_72 g) rfl))) (zbI_cg (fun x4 M4 => ?_))
    refine Eq.trans (Eq.trans (r_go (act := oS (fIld 65 2)) rfl rfl) (a_ild rfl)) ?_
    refine Eq.trans (Eq.trans (r_go (act := oS (fCm 68 72 cEq)) rfl rfl) (a_cm)) (bcg ?_ ?_)
    · refine Eq.trans (Eq.trans (r_go (act := oS (fSt 69 (gC (.int (-1))))) rfl rfl) (a_C)) ?_
      refine Eq.trans (Eq.trans (r_go (act := oS (fGo 78)) rfl rfl) (a_goto)) ?_
      refine Eq.trans (Eq.trans (r_go (act := oS (fSt 79 (g2 (fun x y => x + y)))) rfl rfl) (a_add)) ?_
      refine Eq.trans (Eq.trans (r_go (act := oS (fIst 81 5)) rfl rfl) (a_ist rfl rfl)) ?_
      refine Eq.trans (Eq.trans (r_go (act := oS (fInc 84 6 1)) rfl rfl) (a_inc rfl rfl rfl)) ?_
      refine Eq.trans (Eq.trans (r_go (act := oS (fGo 31)) rfl rfl) (a_goto)) ?_
      exact r_cut rfl rfl
    · refine Eq.trans (Eq.trans (r_go (act := oS (fAld 73 0)) rfl rfl) (a_ald rfl)) ?_
      refine Eq.trans (Eq.trans (r_go (act := oS (fIld 74 1)) rfl rfl) (a_ild rfl)) ?_
      refine Eq.trans (Eq.trans (r_go (act := oS (fIld 75 2)) rfl rfl) (a_ild rfl)) ?_
      refine Eq.trans (Eq.trans (r_go (act := oCI 78 3 (zcv g 12) (X_X12_blameFor g)) rfl rfl) (a_cI rfl (zck (zO_72 g) rfl))) (zbI_cg (fun x5 M5 => ?_))
      refine Eq.trans (Eq.trans (r_go (act := oS (fSt 79 (g2 (fun x y => x + y)))) rfl rfl) (a_add)) ?_
      refine Eq.trans (Eq.trans (r_go (act := oS (fIst 81 5)) rfl rfl) (a_ist rfl rfl)) ?_
      refine Eq.trans (Eq.trans (r_go (act := oS (fInc 84 6 1)) rfl rfl) (a_inc rfl rfl rfl)) ?_
      refine Eq.trans (Eq.trans (r_go (act := oS (fGo 31)) rfl rfl) (a_goto)) ?_
      exact r_cut rfl rfl
set_option maxRecDepth 20000 in
theorem e_X12_lesser_0 (g : zg) (a1 : Int32) (a2 : Int32) (M : zM) : zX (t_X12_lesser g) 0 [some (.ref 72), some (.int a1), some (.int a2)] [] M = (bif cLt a1 a2 then some (some (.int a1), M) else some (some (.int a2), M)) := by
  refine Eq.trans (zX_rgN (tl_X12_lesser g) (hc_X12_lesser g) 7 _ _ _ _) ?_
  refine Eq.trans (Eq.trans (r_0 (act := oS (fIld 1 1)) rfl) (a_ild rfl)) ?_
  refine Eq.trans (Eq.trans (r_go (act := oS (fIld 2 2)) rfl rfl) (a_ild rfl)) ?_
  refine Eq.trans (Eq.trans (r_go (act := oS (fCm 5 9 cLt)) rfl rfl) (a_cm)) (bcg ?_ ?_)
  · refine Eq.trans (Eq.trans (r_go (act := oS (fIld 6 1)) rfl rfl) (a_ild rfl)) ?_
    refine Eq.trans (Eq.trans (r_go (act := oS (fGo 10)) rfl rfl) (a_goto)) ?_
    exact Eq.trans (r_go (act := oIret) rfl rfl) (a_iret)
  · refine Eq.trans (Eq.trans (r_go (act := oS (fIld 10 2)) rfl rfl) (a_ild rfl)) ?_
    exact Eq.trans (r_go (act := oIret) rfl rfl) (a_iret)
theorem x_X12_lesser_0 (g : zg) (a1 : Int32) (a2 : Int32) (M : zM) : X_X12_lesser g [.ref 72, .int a1, .int a2] M = (bif cLt a1 a2 then some (some (.int a1), M) else some (some (.int a2), M)) := e_X12_lesser_0 g a1 a2 M
set_option maxRecDepth 20000 in
theorem e_X12_safe_0 (g : zg) (a1 : Int32) (a2 : Int32) (M : zM) : zX (t_X12_safe g) 0 [some (.ref 72), some (.int a1), some (.int a2), none, none, none, none] [] M = (zbI (X_X12_isTeller g [.ref 72, .int a1] ((zu M.1 72 0 0), M.2)) (fun x1 M1 => (bif cEq0 x1 then some (some (.int (-10000)), M1) else (zbI (X_X12_isIn g [.ref 72, .int a2, .int 0, .int 1] M1) (fun x2 M2 => (bif cEq0 x2 then some (some (.int (-10000)), M2) else zX (t_X12_safe g) 37 [some (.ref 72), some (.int a1), some (.int a2), some (.int 0), some (.int 1000000), some (.int 0), none] [] M2)))))) := by
  refine Eq.trans (zX_rgN (tl_X12_safe g) (hc_X12_safe g) 21 _ _ _ _) ?_
  refine Eq.trans (Eq.trans (r_0 (act := oS (fAld 1 0)) rfl) (a_ald rfl)) ?_
  refine Eq.trans (Eq.trans (r_go (act := oS (fSt 2 (gC (.int 0)))) rfl rfl) (a_C)) ?_
  refine Eq.trans (Eq.trans (r_go (act := oS (fPi g 5 12 0)) rfl rfl) (a_pi (zO_72 g))) ?_
  refine Eq.trans (Eq.trans (r_go (act := oS (fAld 6 0)) rfl rfl) (a_ald rfl)) ?_
  refine Eq.trans (Eq.trans (r_go (act := oS (fIld 7 1)) rfl rfl) (a_ild rfl)) ?_
  refine Eq.trans (Eq.trans (r_go (act := oCI 10 2 (zcv g 12) (X_X12_isTeller g)) rfl rfl) (a_cI rfl (zck (zO_72 g) rfl))) (zbI_cg (fun x1 M1 => ?_))
  refine Eq.trans (Eq.trans (r_go (act := oS (fIf 23 13 cEq0)) rfl rfl) (a_if)) (bcg ?_ ?_)
  · refine Eq.trans (Eq.trans (r_go (act := oS (fSt 26 (gC (.int (-10000))))) rfl rfl) (a_C)) ?_
    exact Eq.trans (r_go (act := oIret) rfl rfl) (a_iret)
  · refine Eq.trans (Eq.trans (r_go (act := oS (fAld 14 0)) rfl rfl) (a_ald rfl)) ?_
    refine Eq.trans (Eq.trans (r_go (act := oS (fIld 15 2)) rfl rfl) (a_ild rfl)) ?_
    refine Eq.trans (Eq.trans (r_go (act := oS (fSt 16 (gC (.int 0)))) rfl rfl) (a_C)) ?_
    refine Eq.trans (Eq.trans (r_go (act := oS (fSt 17 (gC (.int 1)))) rfl rfl) (a_C)) ?_
    refine Eq.trans (Eq.trans (r_go (act := oCI 20 4 (zcv g 12) (X_X12_isIn g)) rfl rfl) (a_cI rfl (zck (zO_72 g) rfl))) (zbI_cg (fun x2 M2 => ?_))
    refine Eq.trans (Eq.trans (r_go (act := oS (fIf 23 27 cEq0)) rfl rfl) (a_if)) (bcg ?_ ?_)
    · refine Eq.trans (Eq.trans (r_go (act := oS (fSt 26 (gC (.int (-10000))))) rfl rfl) (a_C)) ?_
      exact Eq.trans (r_go (act := oIret) rfl rfl) (a_iret)
    · refine Eq.trans (Eq.trans (r_go (act := oS (fSt 28 (gC (.int 0)))) rfl rfl) (a_C)) ?_
      refine Eq.trans (Eq.trans (r_go (act := oS (fIst 29 3)) rfl rfl) (a_ist rfl rfl)) ?_
      refine Eq.trans (Eq.trans (r_go (act := oS (fSt 32 (gC (.int 1000000)))) rfl rfl) (a_C)) ?_
      refine Eq.trans (Eq.trans (r_go (act := oS (fIst 34 4)) rfl rfl) (a_ist rfl rfl)) ?_
      refine Eq.trans (Eq.trans (r_go (act := oS (fSt 35 (gC (.int 0)))) rfl rfl) (a_C)) ?_
      refine Eq.trans (Eq.trans (r_go (act := oS (fIst 37 5)) rfl rfl) (a_ist rfl rfl)) ?_
      exact r_cut rfl rfl
theorem x_X12_safe_0 (g : zg) (a1 : Int32) (a2 : Int32) (M : zM) : X_X12_safe g [.ref 72, .int a1, .int a2] M = (zbI (X_X12_isTeller g [.ref 72, .int a1] ((zu M.1 72 0 0), M.2)) (fun x1 M1 => (bif cEq0 x1 then some (some (.int (-10000)), M1) else (zbI (X_X12_isIn g [.ref 72, .int a2, .int 0, .int 1] M1) (fun x2 M2 => (bif cEq0 x2 then some (some (.int (-10000)), M2) else zX (t_X12_safe g) 37 [some (.ref 72), some (.int a1), some (.int a2), some (.int 0), some (.int 1000000), some (.int 0), none] [] M2)))))) := e_X12_safe_0 g a1 a2 M
set_option maxRecDepth 20000 in
theorem e_X12_safe_37 (g : zg) (a1 : Int32) (a2 : Int32) (a3 : Int32) (a4 : Int32) (a5 : Int32) (M : zM) : zX (t_X12_safe g) 37 [some (.ref 72), some (.int a1), some (.int a2), some (.int a3), some (.int a4), some (.int a5), none] [] M = (bif cLt a5 5 then (zbI (X_X12_blamedIn g [.ref 72, .int a1, .int a5] M) (fun x1 M1 => (bif cLt x1 a4 then (zbI (X_X12_lesser g [.ref 72, .int a4, .int x1] M1) (fun x2 M2 => zX (t_X12_safe g) 37 [some (.ref 72), some (.int a1), some (.int a2), some (.int a5), some (.int x2), some (.int (a5 + 1)), none] [] M2)) else (zbI (X_X12_lesser g [.ref 72, .int a4, .int x1] M1) (fun x3 M3 => zX (t_X12_safe g) 37 [some (.ref 72), some (.int a1), some (.int a2), some (.int a3), some (.int x3), some (.int (a5 + 1)), none] [] M3))))) else (bif cEq0 a2 then some (some (.int a3), M) else some (some (.int a4), M))) := by
  refine Eq.trans (zX_rgN (tl_X12_safe g) (hc_X12_safe g) 23 _ _ _ _) ?_
  refine Eq.trans (Eq.trans (Eq.trans (r_0 (act := oF [6] (oS (fIld 39 5))) rfl) (a_F rfl)) (a_ild rfl)) ?_
  refine Eq.trans (Eq.trans (r_go (act := oS (fSt 40 (gC (.int 5)))) rfl rfl) (a_C)) ?_
  refine Eq.trans (Eq.trans (r_go (act := oS (fCm 43 82 cLt)) rfl rfl) (a_cm)) (bcg ?_ ?_)
  · refine Eq.trans (Eq.trans (r_go (act := oS (fAld 44 0)) rfl rfl) (a_ald rfl)) ?_
    refine Eq.trans (Eq.trans (r_go (act := oS (fIld 45 1)) rfl rfl) (a_ild rfl)) ?_
    refine Eq.trans (Eq.trans (r_go (act := oS (fIld 47 5)) rfl rfl) (a_ild rfl)) ?_
    refine Eq.trans (Eq.trans (r_go (act := oCI 50 3 (zcv g 12) (X_X12_blamedIn g)) rfl rfl) (a_cI rfl (zck (zO_72 g) rfl))) (zbI_cg (fun x1 M1 => ?_))
    refine Eq.trans (Eq.trans (r_go (act := oS (fIst 52 6)) rfl rfl) (a_ist rfl rfl)) ?_
    refine Eq.trans (Eq.trans (r_go (act := oS (fIld 54 6)) rfl rfl) (a_ild rfl)) ?_
    refine Eq.trans (Eq.trans (r_go (act := oS (fIld 56 4)) rfl rfl) (a_ild rfl)) ?_
    refine Eq.trans (Eq.trans (r_go (act := oS (fCm 59 64 cLt)) rfl rfl) (a_cm)) (bcg ?_ ?_)
    · refine Eq.trans (Eq.trans (r_go (act := oS (fIld 61 5)) rfl rfl) (a_ild rfl)) ?_
      refine Eq.trans (Eq.trans (r_go (act := oS (fGo 65)) rfl rfl) (a_goto)) ?_
      refine Eq.trans (Eq.trans (r_go (act := oS (fIst 66 3)) rfl rfl) (a_ist rfl rfl)) ?_
      refine Eq.trans (Eq.trans (r_go (act := oS (fAld 67 0)) rfl rfl) (a_ald rfl)) ?_
      refine Eq.trans (Eq.trans (r_go (act := oS (fIld 69 4)) rfl rfl) (a_ild rfl)) ?_
      refine Eq.trans (Eq.trans (r_go (act := oS (fIld 71 6)) rfl rfl) (a_ild rfl)) ?_
      refine Eq.trans (Eq.trans (r_go (act := oCI 74 3 (zcv g 12) (X_X12_lesser g)) rfl rfl) (a_cI rfl (zck (zO_72 g) rfl))) (zbI_cg (fun x2 M2 => ?_))
      refine Eq.trans (Eq.trans (r_go (act := oS (fIst 76 4)) rfl rfl) (a_ist rfl rfl)) ?_
      refine Eq.trans (Eq.trans (r_go (act := oS (fInc 79 5 1)) rfl rfl) (a_inc rfl rfl rfl)) ?_
      refine Eq.trans (Eq.trans (r_go (act := oS (fGo 37)) rfl rfl) (a_goto)) ?_
      exact r_cut rfl rfl
    · refine Eq.trans (Eq.trans (r_go (act := oS (fIld 65 3)) rfl rfl) (a_ild rfl)) ?_
      refine Eq.trans (Eq.trans (r_go (act := oS (fIst 66 3)) rfl rfl) (a_ist rfl rfl)) ?_
      refine Eq.trans (Eq.trans (r_go (act := oS (fAld 67 0)) rfl rfl) (a_ald rfl)) ?_
      refine Eq.trans (Eq.trans (r_go (act := oS (fIld 69 4)) rfl rfl) (a_ild rfl)) ?_
      refine Eq.trans (Eq.trans (r_go (act := oS (fIld 71 6)) rfl rfl) (a_ild rfl)) ?_
      refine Eq.trans (Eq.trans (r_go (act := oCI 74 3 (zcv g 12) (X_X12_lesser g)) rfl rfl) (a_cI rfl (zck (zO_72 g) rfl))) (zbI_cg (fun x3 M3 => ?_))
      refine Eq.trans (Eq.trans (r_go (act := oS (fIst 76 4)) rfl rfl) (a_ist rfl rfl)) ?_
      refine Eq.trans (Eq.trans (r_go (act := oS (fInc 79 5 1)) rfl rfl) (a_inc rfl rfl rfl)) ?_
      refine Eq.trans (Eq.trans (r_go (act := oS (fGo 37)) rfl rfl) (a_goto)) ?_
      exact r_cut rfl rfl
  · refine Eq.trans (Eq.trans (r_go (act := oS (fIld 83 2)) rfl rfl) (a_ild rfl)) ?_
    refine Eq.trans (Eq.trans (r_go (act := oS (fIf 86 90 cEq0)) rfl rfl) (a_if)) (bcg ?_ ?_)
    · refine Eq.trans (Eq.trans (r_go (act := oS (fIld 87 3)) rfl rfl) (a_ild rfl)) ?_
      refine Eq.trans (Eq.trans (r_go (act := oS (fGo 92)) rfl rfl) (a_goto)) ?_
      exact Eq.trans (r_go (act := oIret) rfl rfl) (a_iret)
    · refine Eq.trans (Eq.trans (r_go (act := oS (fIld 92 4)) rfl rfl) (a_ild rfl)) ?_
      exact Eq.trans (r_go (act := oIret) rfl rfl) (a_iret)
set_option maxRecDepth 20000 in
theorem e_X12_works_0 (g : zg) (a1 : Int32) (a2 : Int32) (a3 : Int32) (a4 : Int32) (M : zM) : zX (t_X12_works g) 0 [some (.ref 72), some (.int a1), some (.int a2), some (.int a3), some (.int a4), none, none, none, none, none] [] M = (zbI (X_X12_isIn g [.ref 72, .int a1, .int 1, .int 20] ((zu M.1 72 0 0), M.2)) (fun x1 M1 => (bif cEq0 x1 then some (some (.int (-1)), M1) else (zbI (X_X12_isIn g [.ref 72, .int a2, .int 0, .int 4] M1) (fun x2 M2 => (bif cEq0 x2 then some (some (.int (-1)), M2) else (zbI (X_X12_isIn g [.ref 72, .int a3, .int 1, .int 99] M2) (fun x3 M3 => (bif cEq0 x3 then some (some (.int (-1)), M3) else (zbI (X_X12_isIn g [.ref 72, .int a4, .int 0, .int 1] M3) (fun x4 M4 => (bif cEq0 x4 then some (some (.int (-1)), M4) else (zbI (X_X12_glass g [.ref 72] M4) (fun x5 M5 => zX (t_X12_works g) 68 [some (.ref 72), some (.int a1), some (.int a2), some (.int a3), some (.int a4), some (.int 0), some (.int 0), some (.int (-1)), some (.int x5), some (.int 1)] [] M5)))))))))))))) := by
  refine Eq.trans (zX_rgN (tl_X12_works g) (hc_X12_works g) 40 _ _ _ _) ?_
  refine Eq.trans (Eq.trans (r_0 (act := oS (fAld 1 0)) rfl) (a_ald rfl)) ?_
  refine Eq.trans (Eq.trans (r_go (act := oS (fSt 2 (gC (.int 0)))) rfl rfl) (a_C)) ?_
  refine Eq.trans (Eq.trans (r_go (act := oS (fPi g 5 12 0)) rfl rfl) (a_pi (zO_72 g))) ?_
  refine Eq.trans (Eq.trans (r_go (act := oS (fAld 6 0)) rfl rfl) (a_ald rfl)) ?_
  refine Eq.trans (Eq.trans (r_go (act := oS (fIld 7 1)) rfl rfl) (a_ild rfl)) ?_
  refine Eq.trans (Eq.trans (r_go (act := oS (fSt 8 (gC (.int 1)))) rfl rfl) (a_C)) ?_
  refine Eq.trans (Eq.trans (r_go (act := oS (fSt 10 (gC (.int 20)))) rfl rfl) (a_C)) ?_
  refine Eq.trans (Eq.trans (r_go (act := oCI 13 4 (zcv g 12) (X_X12_isIn g)) rfl rfl) (a_cI rfl (zck (zO_72 g) rfl))) (zbI_cg (fun x1 M1 => ?_))
  refine Eq.trans (Eq.trans (r_go (act := oS (fIf 48 16 cEq0)) rfl rfl) (a_if)) (bcg ?_ ?_)
  · refine Eq.trans (Eq.trans (r_go (act := oS (fSt 49 (gC (.int (-1))))) rfl rfl) (a_C)) ?_
    exact Eq.trans (r_go (act := oIret) rfl rfl) (a_iret)
  · refine Eq.trans (Eq.trans (r_go (act := oS (fAld 17 0)) rfl rfl) (a_ald rfl)) ?_
    refine Eq.trans (Eq.trans (r_go (act := oS (fIld 18 2)) rfl rfl) (a_ild rfl)) ?_
    refine Eq.trans (Eq.trans (r_go (act := oS (fSt 19 (gC (.int 0)))) rfl rfl) (a_C)) ?_
    refine Eq.trans (Eq.trans (r_go (act := oS (fSt 20 (gC (.int 4)))) rfl rfl) (a_C)) ?_
    refine Eq.trans (Eq.trans (r_go (act := oCI 23 4 (zcv g 12) (X_X12_isIn g)) rfl rfl) (a_cI rfl (zck (zO_72 g) rfl))) (zbI_cg (fun x2 M2 => ?_))
    refine Eq.trans (Eq.trans (r_go (act := oS (fIf 48 26 cEq0)) rfl rfl) (a_if)) (bcg ?_ ?_)
    · refine Eq.trans (Eq.trans (r_go (act := oS (fSt 49 (gC (.int (-1))))) rfl rfl) (a_C)) ?_
      exact Eq.trans (r_go (act := oIret) rfl rfl) (a_iret)
    · refine Eq.trans (Eq.trans (r_go (act := oS (fAld 27 0)) rfl rfl) (a_ald rfl)) ?_
      refine Eq.trans (Eq.trans (r_go (act := oS (fIld 28 3)) rfl rfl) (a_ild rfl)) ?_
      refine Eq.trans (Eq.trans (r_go (act := oS (fSt 29 (gC (.int 1)))) rfl rfl) (a_C)) ?_
      refine Eq.trans (Eq.trans (r_go (act := oS (fSt 31 (gC (.int 99)))) rfl rfl) (a_C)) ?_
      refine Eq.trans (Eq.trans (r_go (act := oCI 34 4 (zcv g 12) (X_X12_isIn g)) rfl rfl) (a_cI rfl (zck (zO_72 g) rfl))) (zbI_cg (fun x3 M3 => ?_))
      refine Eq.trans (Eq.trans (r_go (act := oS (fIf 48 37 cEq0)) rfl rfl) (a_if)) (bcg ?_ ?_)
      · refine Eq.trans (Eq.trans (r_go (act := oS (fSt 49 (gC (.int (-1))))) rfl rfl) (a_C)) ?_
        exact Eq.trans (r_go (act := oIret) rfl rfl) (a_iret)
      · refine Eq.trans (Eq.trans (r_go (act := oS (fAld 38 0)) rfl rfl) (a_ald rfl)) ?_
        refine Eq.trans (Eq.trans (r_go (act := oS (fIld 40 4)) rfl rfl) (a_ild rfl)) ?_
        refine Eq.trans (Eq.trans (r_go (act := oS (fSt 41 (gC (.int 0)))) rfl rfl) (a_C)) ?_
        refine Eq.trans (Eq.trans (r_go (act := oS (fSt 42 (gC (.int 1)))) rfl rfl) (a_C)) ?_
        refine Eq.trans (Eq.trans (r_go (act := oCI 45 4 (zcv g 12) (X_X12_isIn g)) rfl rfl) (a_cI rfl (zck (zO_72 g) rfl))) (zbI_cg (fun x4 M4 => ?_))
        refine Eq.trans (Eq.trans (r_go (act := oS (fIf 48 50 cEq0)) rfl rfl) (a_if)) (bcg ?_ ?_)
        · refine Eq.trans (Eq.trans (r_go (act := oS (fSt 49 (gC (.int (-1))))) rfl rfl) (a_C)) ?_
          exact Eq.trans (r_go (act := oIret) rfl rfl) (a_iret)
        · refine Eq.trans (Eq.trans (r_go (act := oS (fSt 51 (gC (.int 0)))) rfl rfl) (a_C)) ?_
          refine Eq.trans (Eq.trans (r_go (act := oS (fIst 53 5)) rfl rfl) (a_ist rfl rfl)) ?_
          refine Eq.trans (Eq.trans (r_go (act := oS (fSt 54 (gC (.int 0)))) rfl rfl) (a_C)) ?_
          refine Eq.trans (Eq.trans (r_go (act := oS (fIst 56 6)) rfl rfl) (a_ist rfl rfl)) ?_
          refine Eq.trans (Eq.trans (r_go (act := oS (fSt 57 (gC (.int (-1))))) rfl rfl) (a_C)) ?_
          refine Eq.trans (Eq.trans (r_go (act := oS (fIst 59 7)) rfl rfl) (a_ist rfl rfl)) ?_
          refine Eq.trans (Eq.trans (r_go (act := oS (fAld 60 0)) rfl rfl) (a_ald rfl)) ?_
          refine Eq.trans (Eq.trans (r_go (act := oCI 63 1 (zcv g 12) (X_X12_glass g)) rfl rfl) (a_cI rfl (zck (zO_72 g) rfl))) (zbI_cg (fun x5 M5 => ?_))
          refine Eq.trans (Eq.trans (r_go (act := oS (fIst 65 8)) rfl rfl) (a_ist rfl rfl)) ?_
          refine Eq.trans (Eq.trans (r_go (act := oS (fSt 66 (gC (.int 1)))) rfl rfl) (a_C)) ?_
          refine Eq.trans (Eq.trans (r_go (act := oS (fIst 68 9)) rfl rfl) (a_ist rfl rfl)) ?_
          exact r_cut rfl rfl
theorem x_X12_works_0 (g : zg) (a1 : Int32) (a2 : Int32) (a3 : Int32) (a4 : Int32) (M : zM) : X_X12_works g [.ref 72, .int a1, .int a2, .int a3, .int a4] M = (zbI (X_X12_isIn g [.ref 72, .int a1, .int 1, .int 20] ((zu M.1 72 0 0), M.2)) (fun x1 M1 => (bif cEq0 x1 then some (some (.int (-1)), M1) else (zbI (X_X12_isIn g [.ref 72, .int a2, .int 0, .int 4] M1) (fun x2 M2 => (bif cEq0 x2 then some (some (.int (-1)), M2) else (zbI (X_X12_isIn g [.ref 72, .int a3, .int 1, .int 99] M2) (fun x3 M3 => (bif cEq0 x3 then some (some (.int (-1)), M3) else (zbI (X_X12_isIn g [.ref 72, .int a4, .int 0, .int 1] M3) (fun x4 M4 => (bif cEq0 x4 then some (some (.int (-1)), M4) else (zbI (X_X12_glass g [.ref 72] M4) (fun x5 M5 => zX (t_X12_works g) 68 [some (.ref 72), some (.int a1), some (.int a2), some (.int a3), some (.int a4), some (.int 0), some (.int 0), some (.int (-1)), some (.int x5), some (.int 1)] [] M5)))))))))))))) := e_X12_works_0 g a1 a2 a3 a4 M
set_option maxRecDepth 20000 in
theorem e_X12_works_68 (g : zg) (a1 : Int32) (a2 : Int32) (a3 : Int32) (a4 : Int32) (a5 : Int32) (a6 : Int32) (a7 : Int32) (a8 : Int32) (a9 : Int32) (M : zM) : zX (t_X12_works g) 68 [some (.ref 72), some (.int a1), some (.int a2), some (.int a3), some (.int a4), some (.int a5), some (.int a6), some (.int a7), some (.int a8), some (.int a9)] [] M = (bif cGt a9 a3 then (bif cEq0 a4 then some (some (.int a7), M) else some (some (.int a6), M)) else (zbI (X_X12_rounded g [.ref 72, .int (((M.1 73 0) + a9) - 1)] M) (fun x1 M1 => (zbI (X_X12_held g [.ref 72, .int (a8 + x1), .int 0, .int 99] M1) (fun x2 M2 => (zbI (X_X12_kindOf g [.ref 72, .int x2] M2) (fun x3 M3 => (bif cLt x3 a2 then zX (t_X12_works g) 133 [some (.ref 72), some (.int a1), some (.int a2), some (.int a3), some (.int a4), some (.int 0), none, some (.int a7), some (.int x2), some (.int a9)] [.int 0, .int a6] M3 else (bif cGt0 (a5 + 1) then zX (t_X12_works g) 133 [some (.ref 72), some (.int a1), some (.int a2), some (.int a3), some (.int a4), some (.int (a5 + 1)), none, some (.int a7), some (.int x2), some (.int a9)] [.int 1, .int a6] M3 else zX (t_X12_works g) 133 [some (.ref 72), some (.int a1), some (.int a2), some (.int a3), some (.int a4), some (.int (a5 + 1)), none, some (.int a7), some (.int x2), some (.int a9)] [.int 0, .int a6] M3))))))))) := by
  refine Eq.trans (zX_rgN (tl_X12_works g) (hc_X12_works g) 37 _ _ _ _) ?_
  refine Eq.trans (Eq.trans (Eq.trans (r_0 (act := oF [] (oS (fIld 70 9))) rfl) (a_F rfl)) (a_ild rfl)) ?_
  refine Eq.trans (Eq.trans (r_go (act := oS (fIld 71 3)) rfl rfl) (a_ild rfl)) ?_
  refine Eq.trans (Eq.trans (r_go (act := oS (fCm 162 74 cGt)) rfl rfl) (a_cm)) (bcg ?_ ?_)
  · refine Eq.trans (Eq.trans (r_go (act := oS (fIld 164 4)) rfl rfl) (a_ild rfl)) ?_
    refine Eq.trans (Eq.trans (r_go (act := oS (fIf 167 172 cEq0)) rfl rfl) (a_if)) (bcg ?_ ?_)
    · refine Eq.trans (Eq.trans (r_go (act := oS (fIld 169 7)) rfl rfl) (a_ild rfl)) ?_
      refine Eq.trans (Eq.trans (r_go (act := oS (fGo 174)) rfl rfl) (a_goto)) ?_
      exact Eq.trans (r_go (act := oIret) rfl rfl) (a_iret)
    · refine Eq.trans (Eq.trans (r_go (act := oS (fIld 174 6)) rfl rfl) (a_ild rfl)) ?_
      exact Eq.trans (r_go (act := oIret) rfl rfl) (a_iret)
  · refine Eq.trans (Eq.trans (r_go (act := oS (fAld 75 0)) rfl rfl) (a_ald rfl)) ?_
    refine Eq.trans (Eq.trans (r_go (act := oS (fIld 77 8)) rfl rfl) (a_ild rfl)) ?_
    refine Eq.trans (Eq.trans (r_go (act := oS (fAld 78 0)) rfl rfl) (a_ald rfl)) ?_
    refine Eq.trans (Eq.trans (r_go (act := oS (fAld 79 0)) rfl rfl) (a_ald rfl)) ?_
    refine Eq.trans (Eq.trans (r_go (act := oS (fGr g 82 12 1)) rfl rfl) (a_gr (zO_72 g) (zR_72_1 g))) ?_
    refine Eq.trans (Eq.trans (r_go (act := oS (fSt 83 (gC (.int 0)))) rfl rfl) (a_C)) ?_
    refine Eq.trans (Eq.trans (r_go (act := oS (fIa g 84)) rfl rfl) (a_iaK (j := 0) (zA_73 g) zS_73 (by decide +kernel) (by decide +kernel))) ?_
    refine Eq.trans (Eq.trans (r_go (act := oS (fIld 86 9)) rfl rfl) (a_ild rfl)) ?_
    refine Eq.trans (Eq.trans (r_go (act := oS (fSt 87 (g2 (fun x y => x + y)))) rfl rfl) (a_add)) ?_
    refine Eq.trans (Eq.trans (r_go (act := oS (fSt 88 (gC (.int 1)))) rfl rfl) (a_C)) ?_
    refine Eq.trans (Eq.trans (r_go (act := oS (fSt 89 (g2 (fun x y => x - y)))) rfl rfl) (a_sub)) ?_
    refine Eq.trans (Eq.trans (r_go (act := oCI 92 2 (zcv g 12) (X_X12_rounded g)) rfl rfl) (a_cI rfl (zck (zO_72 g) rfl))) (zbI_cg (fun x1 M1 => ?_))
    refine Eq.trans (Eq.trans (r_go (act := oS (fSt 93 (g2 (fun x y => x + y)))) rfl rfl) (a_add)) ?_
    refine Eq.trans (Eq.trans (r_go (act := oS (fSt 94 (gC (.int 0)))) rfl rfl) (a_C)) ?_
    refine Eq.trans (Eq.trans (r_go (act := oS (fSt 96 (gC (.int 99)))) rfl rfl) (a_C)) ?_
    refine Eq.trans (Eq.trans (r_go (act := oCI 99 4 (zcv g 12) (X_X12_held g)) rfl rfl) (a_cI rfl (zck (zO_72 g) rfl))) (zbI_cg (fun x2 M2 => ?_))
    refine Eq.trans (Eq.trans (r_go (act := oS (fIst 101 8)) rfl rfl) (a_ist rfl rfl)) ?_
    refine Eq.trans (Eq.trans (r_go (act := oS (fAld 102 0)) rfl rfl) (a_ald rfl)) ?_
    refine Eq.trans (Eq.trans (r_go (act := oS (fIld 104 8)) rfl rfl) (a_ild rfl)) ?_
    refine Eq.trans (Eq.trans (r_go (act := oCI 107 2 (zcv g 12) (X_X12_kindOf g)) rfl rfl) (a_cI rfl (zck (zO_72 g) rfl))) (zbI_cg (fun x3 M3 => ?_))
    refine Eq.trans (Eq.trans (r_go (act := oS (fIld 108 2)) rfl rfl) (a_ild rfl)) ?_
    refine Eq.trans (Eq.trans (r_go (act := oS (fCm 118 111 cLt)) rfl rfl) (a_cm)) (bcg ?_ ?_)
    · refine Eq.trans (Eq.trans (r_go (act := oS (fSt 119 (gC (.int 0)))) rfl rfl) (a_C)) ?_
      refine Eq.trans (Eq.trans (r_go (act := oS (fIst 121 5)) rfl rfl) (a_ist rfl rfl)) ?_
      refine Eq.trans (Eq.trans (r_go (act := oS (fIld 123 6)) rfl rfl) (a_ild rfl)) ?_
      refine Eq.trans (Eq.trans (r_go (act := oS (fIld 125 5)) rfl rfl) (a_ild rfl)) ?_
      refine Eq.trans (Eq.trans (r_go (act := oS (fIf 128 132 cGt0)) rfl rfl) (a_ifF (by decide +kernel))) ?_
      refine Eq.trans (Eq.trans (r_go (act := oS (fSt 133 (gC (.int 0)))) rfl rfl) (a_C)) ?_
      exact r_cut rfl rfl
    · refine Eq.trans (Eq.trans (r_go (act := oS (fIld 113 5)) rfl rfl) (a_ild rfl)) ?_
      refine Eq.trans (Eq.trans (r_go (act := oS (fSt 114 (gC (.int 1)))) rfl rfl) (a_C)) ?_
      refine Eq.trans (Eq.trans (r_go (act := oS (fSt 115 (g2 (fun x y => x + y)))) rfl rfl) (a_add)) ?_
      refine Eq.trans (Eq.trans (r_go (act := oS (fGo 119)) rfl rfl) (a_goto)) ?_
      refine Eq.trans (Eq.trans (r_go (act := oS (fIst 121 5)) rfl rfl) (a_ist rfl rfl)) ?_
      refine Eq.trans (Eq.trans (r_go (act := oS (fIld 123 6)) rfl rfl) (a_ild rfl)) ?_
      refine Eq.trans (Eq.trans (r_go (act := oS (fIld 125 5)) rfl rfl) (a_ild rfl)) ?_
      refine Eq.trans (Eq.trans (r_go (act := oS (fIf 128 132 cGt0)) rfl rfl) (a_if)) (bcg ?_ ?_)
      · refine Eq.trans (Eq.trans (r_go (act := oS (fSt 129 (gC (.int 1)))) rfl rfl) (a_C)) ?_
        refine Eq.trans (Eq.trans (r_go (act := oS (fGo 133)) rfl rfl) (a_goto)) ?_
        exact r_cut rfl rfl
      · refine Eq.trans (Eq.trans (r_go (act := oS (fSt 133 (gC (.int 0)))) rfl rfl) (a_C)) ?_
        exact r_cut rfl rfl
set_option maxRecDepth 20000 in
theorem e_X12_works_133 (g : zg) (a1 : Int32) (a2 : Int32) (a3 : Int32) (a4 : Int32) (a5 : Int32) (a7 : Int32) (a8 : Int32) (a9 : Int32) (s0 : Int32) (s1 : Int32) (M : zM) : zX (t_X12_works g) 133 [some (.ref 72), some (.int a1), some (.int a2), some (.int a3), some (.int a4), some (.int a5), none, some (.int a7), some (.int a8), some (.int a9)] [.int s0, .int s1] M = (bif cEq a5 a1 then (bif cEq a7 (-1) then zX (t_X12_works g) 68 [some (.ref 72), some (.int a1), some (.int a2), some (.int a3), some (.int a4), some (.int a5), some (.int (s1 + s0)), some (.int ((a9 - a1) + 1)), some (.int a8), some (.int (a9 + 1))] [] M else zX (t_X12_works g) 68 [some (.ref 72), some (.int a1), some (.int a2), some (.int a3), some (.int a4), some (.int a5), some (.int (s1 + s0)), some (.int a7), some (.int a8), some (.int (a9 + 1))] [] M) else zX (t_X12_works g) 68 [some (.ref 72), some (.int a1), some (.int a2), some (.int a3), some (.int a4), some (.int a5), some (.int (s1 + s0)), some (.int a7), some (.int a8), some (.int (a9 + 1))] [] M) := by
  refine Eq.trans (zX_rgN (tl_X12_works g) (hc_X12_works g) 18 _ _ _ _) ?_
  refine Eq.trans (Eq.trans (Eq.trans (r_0 (act := oF [6] (oS (fSt 134 (g2 (fun x y => x + y))))) rfl) (a_F rfl)) (a_add)) ?_
  refine Eq.trans (Eq.trans (r_go (act := oS (fIst 136 6)) rfl rfl) (a_ist rfl rfl)) ?_
  refine Eq.trans (Eq.trans (r_go (act := oS (fIld 138 5)) rfl rfl) (a_ild rfl)) ?_
  refine Eq.trans (Eq.trans (r_go (act := oS (fIld 139 1)) rfl rfl) (a_ild rfl)) ?_
  refine Eq.trans (Eq.trans (r_go (act := oS (fCm 142 156 cEq)) rfl rfl) (a_cm)) (bcg ?_ ?_)
  · refine Eq.trans (Eq.trans (r_go (act := oS (fIld 144 7)) rfl rfl) (a_ild rfl)) ?_
    refine Eq.trans (Eq.trans (r_go (act := oS (fSt 145 (gC (.int (-1))))) rfl rfl) (a_C)) ?_
    refine Eq.trans (Eq.trans (r_go (act := oS (fCm 148 156 cEq)) rfl rfl) (a_cm)) (bcg ?_ ?_)
    · refine Eq.trans (Eq.trans (r_go (act := oS (fIld 150 9)) rfl rfl) (a_ild rfl)) ?_
      refine Eq.trans (Eq.trans (r_go (act := oS (fIld 151 1)) rfl rfl) (a_ild rfl)) ?_
      refine Eq.trans (Eq.trans (r_go (act := oS (fSt 152 (g2 (fun x y => x - y)))) rfl rfl) (a_sub)) ?_
      refine Eq.trans (Eq.trans (r_go (act := oS (fSt 153 (gC (.int 1)))) rfl rfl) (a_C)) ?_
      refine Eq.trans (Eq.trans (r_go (act := oS (fSt 154 (g2 (fun x y => x + y)))) rfl rfl) (a_add)) ?_
      refine Eq.trans (Eq.trans (r_go (act := oS (fIst 156 7)) rfl rfl) (a_ist rfl rfl)) ?_
      refine Eq.trans (Eq.trans (r_go (act := oS (fInc 159 9 1)) rfl rfl) (a_inc rfl rfl rfl)) ?_
      refine Eq.trans (Eq.trans (r_go (act := oS (fGo 68)) rfl rfl) (a_goto)) ?_
      exact r_cut rfl rfl
    · refine Eq.trans (Eq.trans (r_go (act := oS (fInc 159 9 1)) rfl rfl) (a_inc rfl rfl rfl)) ?_
      refine Eq.trans (Eq.trans (r_go (act := oS (fGo 68)) rfl rfl) (a_goto)) ?_
      exact r_cut rfl rfl
  · refine Eq.trans (Eq.trans (r_go (act := oS (fInc 159 9 1)) rfl rfl) (a_inc rfl rfl rfl)) ?_
    refine Eq.trans (Eq.trans (r_go (act := oS (fGo 68)) rfl rfl) (a_goto)) ?_
    exact r_cut rfl rfl
set_option maxRecDepth 20000 in
theorem e_X12_umbrella_0 (g : zg) (a1 : Int32) (a2 : Int32) (M : zM) : zX (t_X12_umbrella g) 0 [some (.ref 72), some (.int a1), some (.int a2), none] [] M = (bif cEq a1 (-1) then zX (t_X12_umbrella g) 17 [some (.ref 72), none, none, some (.int 0)] [] ((zu (zu M.1 72 0 0) 72 45 0), M.2) else (zbI (X_X12_isTeller g [.ref 72, .int a1] ((zu M.1 72 0 0), M.2)) (fun x1 M1 => (bif cEq0 x1 then some (some (.int (-1)), M1) else (zbI (X_X12_isIn g [.ref 72, .int a2, .int 0, .int 11] M1) (fun x2 M2 => (bif cEq0 x2 then some (some (.int (-1)), M2) else (bif cEq (M2.1 72 45) 20 then some (some (.int (-1)), M2) else (bif zb a1 10 then (bif zb a1 10 then some (some (.int ((M2.1 72 45) + 1)), ((zu (zu M2.1 94 (zx a1) ((M2.1 94 (zx a1)) ||| ((1 : Int32) <<< (a2 &&& 31)))) 72 45 ((M2.1 72 45) + 1)), M2.2)) else none) else none))))))))) := by
  refine Eq.trans (zX_rgN (tl_X12_umbrella g) (hc_X12_umbrella g) 42 _ _ _ _) ?_
  refine Eq.trans (Eq.trans (r_0 (act := oS (fAld 1 0)) rfl) (a_ald rfl)) ?_
  refine Eq.trans (Eq.trans (r_go (act := oS (fSt 2 (gC (.int 0)))) rfl rfl) (a_C)) ?_
  refine Eq.trans (Eq.trans (r_go (act := oS (fPi g 5 12 0)) rfl rfl) (a_pi (zO_72 g))) ?_
  refine Eq.trans (Eq.trans (r_go (act := oS (fIld 6 1)) rfl rfl) (a_ild rfl)) ?_
  refine Eq.trans (Eq.trans (r_go (act := oS (fSt 7 (gC (.int (-1))))) rfl rfl) (a_C)) ?_
  refine Eq.trans (Eq.trans (r_go (act := oS (fCm 10 38 cEq)) rfl rfl) (a_cm)) (bcg ?_ ?_)
  · refine Eq.trans (Eq.trans (r_go (act := oS (fAld 11 0)) rfl rfl) (a_ald rfl)) ?_
    refine Eq.trans (Eq.trans (r_go (act := oS (fSt 12 (gC (.int 0)))) rfl rfl) (a_C)) ?_
    refine Eq.trans (Eq.trans (r_go (act := oS (fPi g 15 12 45)) rfl rfl) (a_pi (zO_72 g))) ?_
    refine Eq.trans (Eq.trans (r_go (act := oS (fSt 16 (gC (.int 0)))) rfl rfl) (a_C)) ?_
    refine Eq.trans (Eq.trans (r_go (act := oS (fIst 17 3)) rfl rfl) (a_ist rfl rfl)) ?_
    exact r_cut rfl rfl
  · refine Eq.trans (Eq.trans (r_go (act := oS (fAld 39 0)) rfl rfl) (a_ald rfl)) ?_
    refine Eq.trans (Eq.trans (r_go (act := oS (fIld 40 1)) rfl rfl) (a_ild rfl)) ?_
    refine Eq.trans (Eq.trans (r_go (act := oCI 43 2 (zcv g 12) (X_X12_isTeller g)) rfl rfl) (a_cI rfl (zck (zO_72 g) rfl))) (zbI_cg (fun x1 M1 => ?_))
    refine Eq.trans (Eq.trans (r_go (act := oS (fIf 66 46 cEq0)) rfl rfl) (a_if)) (bcg ?_ ?_)
    · refine Eq.trans (Eq.trans (r_go (act := oS (fSt 67 (gC (.int (-1))))) rfl rfl) (a_C)) ?_
      exact Eq.trans (r_go (act := oIret) rfl rfl) (a_iret)
    · refine Eq.trans (Eq.trans (r_go (act := oS (fAld 47 0)) rfl rfl) (a_ald rfl)) ?_
      refine Eq.trans (Eq.trans (r_go (act := oS (fIld 48 2)) rfl rfl) (a_ild rfl)) ?_
      refine Eq.trans (Eq.trans (r_go (act := oS (fSt 49 (gC (.int 0)))) rfl rfl) (a_C)) ?_
      refine Eq.trans (Eq.trans (r_go (act := oS (fSt 51 (gC (.int 11)))) rfl rfl) (a_C)) ?_
      refine Eq.trans (Eq.trans (r_go (act := oCI 54 4 (zcv g 12) (X_X12_isIn g)) rfl rfl) (a_cI rfl (zck (zO_72 g) rfl))) (zbI_cg (fun x2 M2 => ?_))
      refine Eq.trans (Eq.trans (r_go (act := oS (fIf 66 57 cEq0)) rfl rfl) (a_if)) (bcg ?_ ?_)
      · refine Eq.trans (Eq.trans (r_go (act := oS (fSt 67 (gC (.int (-1))))) rfl rfl) (a_C)) ?_
        exact Eq.trans (r_go (act := oIret) rfl rfl) (a_iret)
      · refine Eq.trans (Eq.trans (r_go (act := oS (fAld 58 0)) rfl rfl) (a_ald rfl)) ?_
        refine Eq.trans (Eq.trans (r_go (act := oS (fGi g 61 12 45)) rfl rfl) (a_gi (zO_72 g))) ?_
        refine Eq.trans (Eq.trans (r_go (act := oS (fSt 63 (gC (.int 20)))) rfl rfl) (a_C)) ?_
        refine Eq.trans (Eq.trans (r_go (act := oS (fCm 66 68 cEq)) rfl rfl) (a_cm)) (bcg ?_ ?_)
        · refine Eq.trans (Eq.trans (r_go (act := oS (fSt 67 (gC (.int (-1))))) rfl rfl) (a_C)) ?_
          exact Eq.trans (r_go (act := oIret) rfl rfl) (a_iret)
        · refine Eq.trans (Eq.trans (r_go (act := oS (fAld 69 0)) rfl rfl) (a_ald rfl)) ?_
          refine Eq.trans (Eq.trans (r_go (act := oS (fGr g 72 12 46)) rfl rfl) (a_gr (zO_72 g) (zR_72_46 g))) ?_
          refine Eq.trans (Eq.trans (r_go (act := oS (fIld 73 1)) rfl rfl) (a_ild rfl)) ?_
          refine Eq.trans (Eq.trans (r_go (act := oS (fAld 74 0)) rfl rfl) (a_ald rfl)) ?_
          refine Eq.trans (Eq.trans (r_go (act := oS (fGr g 77 12 46)) rfl rfl) (a_gr (zO_72 g) (zR_72_46 g))) ?_
          refine Eq.trans (Eq.trans (r_go (act := oS (fIld 78 1)) rfl rfl) (a_ild rfl)) ?_
          refine Eq.trans (Eq.trans (r_go (act := oS (fIa g 79)) rfl rfl) (a_ia (zA_94 g) zS_94)) (bcg ?_ rfl)
          refine Eq.trans (Eq.trans (r_go (act := oS (fSt 80 (gC (.int 1)))) rfl rfl) (a_C)) ?_
          refine Eq.trans (Eq.trans (r_go (act := oS (fIld 81 2)) rfl rfl) (a_ild rfl)) ?_
          refine Eq.trans (Eq.trans (r_go (act := oS (fSt 82 (g2 (fun x y => x <<< (y &&& 31))))) rfl rfl) (a_shl)) ?_
          refine Eq.trans (Eq.trans (r_go (act := oS (fSt 83 (g2 (fun x y => x ||| y)))) rfl rfl) (a_or)) ?_
          refine Eq.trans (Eq.trans (r_go (act := oS (fIs g 84)) rfl rfl) (a_is (zA_94 g) zS_94)) (bcg ?_ rfl)
          refine Eq.trans (Eq.trans (r_go (act := oS (fAld 85 0)) rfl rfl) (a_ald rfl)) ?_
          refine Eq.trans (Eq.trans (r_go (act := oS (fAld 86 0)) rfl rfl) (a_ald rfl)) ?_
          refine Eq.trans (Eq.trans (r_go (act := oS (fGi g 89 12 45)) rfl rfl) (a_giV (zO_72 g) rfl)) ?_
          refine Eq.trans (Eq.trans (r_go (act := oS (fSt 90 (gC (.int 1)))) rfl rfl) (a_C)) ?_
          refine Eq.trans (Eq.trans (r_go (act := oS (fSt 91 (g2 (fun x y => x + y)))) rfl rfl) (a_add)) ?_
          refine Eq.trans (Eq.trans (r_go (act := oS (fPi g 94 12 45)) rfl rfl) (a_pi (zO_72 g))) ?_
          refine Eq.trans (Eq.trans (r_go (act := oS (fAld 95 0)) rfl rfl) (a_ald rfl)) ?_
          refine Eq.trans (Eq.trans (r_go (act := oS (fGi g 98 12 45)) rfl rfl) (a_giV (zO_72 g) rfl)) ?_
          exact Eq.trans (r_go (act := oIret) rfl rfl) (a_iret)
theorem x_X12_umbrella_0 (g : zg) (a1 : Int32) (a2 : Int32) (M : zM) : X_X12_umbrella g [.ref 72, .int a1, .int a2] M = (bif cEq a1 (-1) then zX (t_X12_umbrella g) 17 [some (.ref 72), none, none, some (.int 0)] [] ((zu (zu M.1 72 0 0) 72 45 0), M.2) else (zbI (X_X12_isTeller g [.ref 72, .int a1] ((zu M.1 72 0 0), M.2)) (fun x1 M1 => (bif cEq0 x1 then some (some (.int (-1)), M1) else (zbI (X_X12_isIn g [.ref 72, .int a2, .int 0, .int 11] M1) (fun x2 M2 => (bif cEq0 x2 then some (some (.int (-1)), M2) else (bif cEq (M2.1 72 45) 20 then some (some (.int (-1)), M2) else (bif zb a1 10 then (bif zb a1 10 then some (some (.int ((M2.1 72 45) + 1)), ((zu (zu M2.1 94 (zx a1) ((M2.1 94 (zx a1)) ||| ((1 : Int32) <<< (a2 &&& 31)))) 72 45 ((M2.1 72 45) + 1)), M2.2)) else none) else none))))))))) := e_X12_umbrella_0 g a1 a2 M
set_option maxRecDepth 20000 in
theorem e_X12_umbrella_17 (g : zg) (a3 : Int32) (M : zM) : zX (t_X12_umbrella g) 17 [some (.ref 72), none, none, some (.int a3)] [] M = (bif cLt a3 10 then (bif zb a3 10 then zX (t_X12_umbrella g) 17 [some (.ref 72), none, none, some (.int (a3 + 1))] [] ((zu M.1 94 (zx a3) 0), M.2) else none) else some (some (.int 0), M)) := by
  refine Eq.trans (zX_rgN (tl_X12_umbrella g) (hc_X12_umbrella g) 12 _ _ _ _) ?_
  refine Eq.trans (Eq.trans (Eq.trans (r_0 (act := oF [1, 2] (oS (fIld 18 3))) rfl) (a_F rfl)) (a_ild rfl)) ?_
  refine Eq.trans (Eq.trans (r_go (act := oS (fSt 20 (gC (.int 10)))) rfl rfl) (a_C)) ?_
  refine Eq.trans (Eq.trans (r_go (act := oS (fCm 23 36 cLt)) rfl rfl) (a_cm)) (bcg ?_ ?_)
  · refine Eq.trans (Eq.trans (r_go (act := oS (fAld 24 0)) rfl rfl) (a_ald rfl)) ?_
    refine Eq.trans (Eq.trans (r_go (act := oS (fGr g 27 12 46)) rfl rfl) (a_gr (zO_72 g) (zR_72_46 g))) ?_
    refine Eq.trans (Eq.trans (r_go (act := oS (fIld 28 3)) rfl rfl) (a_ild rfl)) ?_
    refine Eq.trans (Eq.trans (r_go (act := oS (fSt 29 (gC (.int 0)))) rfl rfl) (a_C)) ?_
    refine Eq.trans (Eq.trans (r_go (act := oS (fIs g 30)) rfl rfl) (a_is (zA_94 g) zS_94)) (bcg ?_ rfl)
    refine Eq.trans (Eq.trans (r_go (act := oS (fInc 33 3 1)) rfl rfl) (a_inc rfl rfl rfl)) ?_
    refine Eq.trans (Eq.trans (r_go (act := oS (fGo 17)) rfl rfl) (a_goto)) ?_
    exact r_cut rfl rfl
  · refine Eq.trans (Eq.trans (r_go (act := oS (fSt 37 (gC (.int 0)))) rfl rfl) (a_C)) ?_
    exact Eq.trans (r_go (act := oIret) rfl rfl) (a_iret)
set_option maxRecDepth 20000 in
theorem e_X12_toldOf_0 (g : zg) (M : zM) : zX (t_X12_toldOf g) 0 [some (.ref 72), none, none] [] M = zX (t_X12_toldOf g) 4 [some (.ref 72), some (.int 0), some (.int 0)] [] M := by
  refine Eq.trans (zX_rgN (tl_X12_toldOf g) (hc_X12_toldOf g) 6 _ _ _ _) ?_
  refine Eq.trans (Eq.trans (r_0 (act := oS (fSt 1 (gC (.int 0)))) rfl) (a_C)) ?_
  refine Eq.trans (Eq.trans (r_go (act := oS (fIst 2 1)) rfl rfl) (a_ist rfl rfl)) ?_
  refine Eq.trans (Eq.trans (r_go (act := oS (fSt 3 (gC (.int 0)))) rfl rfl) (a_C)) ?_
  refine Eq.trans (Eq.trans (r_go (act := oS (fIst 4 2)) rfl rfl) (a_ist rfl rfl)) ?_
  exact r_cut rfl rfl
theorem x_X12_toldOf_0 (g : zg) (M : zM) : X_X12_toldOf g [.ref 72] M = zX (t_X12_toldOf g) 4 [some (.ref 72), some (.int 0), some (.int 0)] [] M := e_X12_toldOf_0 g M
set_option maxRecDepth 20000 in
theorem e_X12_toldOf_4 (g : zg) (a1 : Int32) (a2 : Int32) (M : zM) : zX (t_X12_toldOf g) 4 [some (.ref 72), some (.int a1), some (.int a2)] [] M = (bif cLt a2 (M.1 72 6) then (bif zb a2 10 then (bif cEq0 (M.1 94 (zx a2)) then zX (t_X12_toldOf g) 4 [some (.ref 72), some (.int a1), some (.int (a2 + 1))] [] M else zX (t_X12_toldOf g) 4 [some (.ref 72), some (.int (a1 ||| ((1 : Int32) <<< (a2 &&& 31)))), some (.int (a2 + 1))] [] M) else none) else some (some (.int a1), M)) := by
  refine Eq.trans (zX_rgN (tl_X12_toldOf g) (hc_X12_toldOf g) 19 _ _ _ _) ?_
  refine Eq.trans (Eq.trans (Eq.trans (r_0 (act := oF [] (oS (fIld 5 2))) rfl) (a_F rfl)) (a_ild rfl)) ?_
  refine Eq.trans (Eq.trans (r_go (act := oS (fAld 6 0)) rfl rfl) (a_ald rfl)) ?_
  refine Eq.trans (Eq.trans (r_go (act := oS (fGi g 9 12 6)) rfl rfl) (a_gi (zO_72 g))) ?_
  refine Eq.trans (Eq.trans (r_go (act := oS (fCm 12 33 cLt)) rfl rfl) (a_cm)) (bcg ?_ ?_)
  · refine Eq.trans (Eq.trans (r_go (act := oS (fAld 13 0)) rfl rfl) (a_ald rfl)) ?_
    refine Eq.trans (Eq.trans (r_go (act := oS (fGr g 16 12 46)) rfl rfl) (a_gr (zO_72 g) (zR_72_46 g))) ?_
    refine Eq.trans (Eq.trans (r_go (act := oS (fIld 17 2)) rfl rfl) (a_ild rfl)) ?_
    refine Eq.trans (Eq.trans (r_go (act := oS (fIa g 18)) rfl rfl) (a_ia (zA_94 g) zS_94)) (bcg ?_ rfl)
    refine Eq.trans (Eq.trans (r_go (act := oS (fIf 27 21 cEq0)) rfl rfl) (a_if)) (bcg ?_ ?_)
    · refine Eq.trans (Eq.trans (r_go (act := oS (fInc 30 2 1)) rfl rfl) (a_inc rfl rfl rfl)) ?_
      refine Eq.trans (Eq.trans (r_go (act := oS (fGo 4)) rfl rfl) (a_goto)) ?_
      exact r_cut rfl rfl
    · refine Eq.trans (Eq.trans (r_go (act := oS (fIld 22 1)) rfl rfl) (a_ild rfl)) ?_
      refine Eq.trans (Eq.trans (r_go (act := oS (fSt 23 (gC (.int 1)))) rfl rfl) (a_C)) ?_
      refine Eq.trans (Eq.trans (r_go (act := oS (fIld 24 2)) rfl rfl) (a_ild rfl)) ?_
      refine Eq.trans (Eq.trans (r_go (act := oS (fSt 25 (g2 (fun x y => x <<< (y &&& 31))))) rfl rfl) (a_shl)) ?_
      refine Eq.trans (Eq.trans (r_go (act := oS (fSt 26 (g2 (fun x y => x ||| y)))) rfl rfl) (a_or)) ?_
      refine Eq.trans (Eq.trans (r_go (act := oS (fIst 27 1)) rfl rfl) (a_ist rfl rfl)) ?_
      refine Eq.trans (Eq.trans (r_go (act := oS (fInc 30 2 1)) rfl rfl) (a_inc rfl rfl rfl)) ?_
      refine Eq.trans (Eq.trans (r_go (act := oS (fGo 4)) rfl rfl) (a_goto)) ?_
      exact r_cut rfl rfl
  · refine Eq.trans (Eq.trans (r_go (act := oS (fIld 34 1)) rfl rfl) (a_ild rfl)) ?_
    exact Eq.trans (r_go (act := oIret) rfl rfl) (a_iret)
set_option maxRecDepth 20000 in
theorem e_X12_onesOf_0 (g : zg) (a1 : Int32) (M : zM) : zX (t_X12_onesOf g) 0 [some (.ref 72), some (.int a1), none, none] [] M = zX (t_X12_onesOf g) 4 [none, none, some (.int 0), some (.int a1)] [] M := by
  refine Eq.trans (zX_rgN (tl_X12_onesOf g) (hc_X12_onesOf g) 6 _ _ _ _) ?_
  refine Eq.trans (Eq.trans (r_0 (act := oS (fSt 1 (gC (.int 0)))) rfl) (a_C)) ?_
  refine Eq.trans (Eq.trans (r_go (act := oS (fIst 2 2)) rfl rfl) (a_ist rfl rfl)) ?_
  refine Eq.trans (Eq.trans (r_go (act := oS (fIld 3 1)) rfl rfl) (a_ild rfl)) ?_
  refine Eq.trans (Eq.trans (r_go (act := oS (fIst 4 3)) rfl rfl) (a_ist rfl rfl)) ?_
  exact r_cut rfl rfl
theorem x_X12_onesOf_0 (g : zg) (a1 : Int32) (M : zM) : X_X12_onesOf g [.ref 72, .int a1] M = zX (t_X12_onesOf g) 4 [none, none, some (.int 0), some (.int a1)] [] M := e_X12_onesOf_0 g a1 M
set_option maxRecDepth 20000 in
theorem e_X12_onesOf_4 (g : zg) (a2 : Int32) (a3 : Int32) (M : zM) : zX (t_X12_onesOf g) 4 [none, none, some (.int a2), some (.int a3)] [] M = (bif cEq0 a3 then some (some (.int a2), M) else zX (t_X12_onesOf g) 4 [none, none, some (.int (a2 + 1)), some (.int (a3 &&& (a3 - 1)))] [] M) := by
  refine Eq.trans (zX_rgN (tl_X12_onesOf g) (hc_X12_onesOf g) 15 _ _ _ _) ?_
  refine Eq.trans (Eq.trans (Eq.trans (r_0 (act := oF [0, 1] (oS (fIld 5 3))) rfl) (a_F rfl)) (a_ild rfl)) ?_
  refine Eq.trans (Eq.trans (r_go (act := oS (fIf 21 8 cEq0)) rfl rfl) (a_if)) (bcg ?_ ?_)
  · refine Eq.trans (Eq.trans (r_go (act := oS (fIld 22 2)) rfl rfl) (a_ild rfl)) ?_
    exact Eq.trans (r_go (act := oIret) rfl rfl) (a_iret)
  · refine Eq.trans (Eq.trans (r_go (act := oS (fIld 9 2)) rfl rfl) (a_ild rfl)) ?_
    refine Eq.trans (Eq.trans (r_go (act := oS (fSt 10 (gC (.int 1)))) rfl rfl) (a_C)) ?_
    refine Eq.trans (Eq.trans (r_go (act := oS (fSt 11 (g2 (fun x y => x + y)))) rfl rfl) (a_add)) ?_
    refine Eq.trans (Eq.trans (r_go (act := oS (fIst 12 2)) rfl rfl) (a_ist rfl rfl)) ?_
    refine Eq.trans (Eq.trans (r_go (act := oS (fIld 13 3)) rfl rfl) (a_ild rfl)) ?_
    refine Eq.trans (Eq.trans (r_go (act := oS (fIld 14 3)) rfl rfl) (a_ild rfl)) ?_
    refine Eq.trans (Eq.trans (r_go (act := oS (fSt 15 (gC (.int 1)))) rfl rfl) (a_C)) ?_
    refine Eq.trans (Eq.trans (r_go (act := oS (fSt 16 (g2 (fun x y => x - y)))) rfl rfl) (a_sub)) ?_
    refine Eq.trans (Eq.trans (r_go (act := oS (fSt 17 (g2 (fun x y => x &&& y)))) rfl rfl) (a_and)) ?_
    refine Eq.trans (Eq.trans (r_go (act := oS (fIst 18 3)) rfl rfl) (a_ist rfl rfl)) ?_
    refine Eq.trans (Eq.trans (r_go (act := oS (fGo 4)) rfl rfl) (a_goto)) ?_
    exact r_cut rfl rfl
set_option maxRecDepth 20000 in
theorem e_X12_has_0 (g : zg) (a1 : Int32) (a2 : Int32) (M : zM) : zX (t_X12_has g) 0 [some (.ref 72), some (.int a1), some (.int a2)] [] M = (bif cEq ((a1 >>> (a2 &&& 31)) &&& 1) 1 then some (some (.int 1), M) else some (some (.int 0), M)) := by
  refine Eq.trans (zX_rgN (tl_X12_has g) (hc_X12_has g) 11 _ _ _ _) ?_
  refine Eq.trans (Eq.trans (r_0 (act := oS (fIld 1 1)) rfl) (a_ild rfl)) ?_
  refine Eq.trans (Eq.trans (r_go (act := oS (fIld 2 2)) rfl rfl) (a_ild rfl)) ?_
  refine Eq.trans (Eq.trans (r_go (act := oS (fSt 3 (g2 (fun x y => x >>> (y &&& 31))))) rfl rfl) (a_shr)) ?_
  refine Eq.trans (Eq.trans (r_go (act := oS (fSt 4 (gC (.int 1)))) rfl rfl) (a_C)) ?_
  refine Eq.trans (Eq.trans (r_go (act := oS (fSt 5 (g2 (fun x y => x &&& y)))) rfl rfl) (a_and)) ?_
  refine Eq.trans (Eq.trans (r_go (act := oS (fSt 6 (gC (.int 1)))) rfl rfl) (a_C)) ?_
  refine Eq.trans (Eq.trans (r_go (act := oS (fCm 9 13 cEq)) rfl rfl) (a_cm)) (bcg ?_ ?_)
  · refine Eq.trans (Eq.trans (r_go (act := oS (fSt 10 (gC (.int 1)))) rfl rfl) (a_C)) ?_
    refine Eq.trans (Eq.trans (r_go (act := oS (fGo 14)) rfl rfl) (a_goto)) ?_
    exact Eq.trans (Eq.trans (r_go (act := oZret) rfl rfl) a_zret) (bcT (by decide +kernel))
  · refine Eq.trans (Eq.trans (r_go (act := oS (fSt 14 (gC (.int 0)))) rfl rfl) (a_C)) ?_
    exact Eq.trans (Eq.trans (r_go (act := oZret) rfl rfl) a_zret) (bcT (by decide +kernel))
theorem x_X12_has_0 (g : zg) (a1 : Int32) (a2 : Int32) (M : zM) : X_X12_has g [.ref 72, .int a1, .int a2] M = (bif cEq ((a1 >>> (a2 &&& 31)) &&& 1) 1 then some (some (.int 1), M) else some (some (.int 0), M)) := e_X12_has_0 g a1 a2 M
set_option maxRecDepth 20000 in
theorem e_X12_askedBest_0 (g : zg) (M : zM) : zX (t_X12_askedBest g) 0 [some (.ref 72), none, none, none, none, none, none] [] M = (zbI (X_X12_toldOf g [.ref 72] M) (fun x1 M1 => (zbI (X_X12_onesOf g [.ref 72, .int x1] M1) (fun x2 M2 => (bif cLt x2 2 then some (some (.int (-1)), M2) else zX (t_X12_askedBest g) 25 [some (.ref 72), some (.int x2), some (.int 0), some (.int 1000000), some (.int 0), none, none] [] M2))))) := by
  refine Eq.trans (zX_rgN (tl_X12_askedBest g) (hc_X12_askedBest g) 16 _ _ _ _) ?_
  refine Eq.trans (Eq.trans (r_0 (act := oS (fAld 1 0)) rfl) (a_ald rfl)) ?_
  refine Eq.trans (Eq.trans (r_go (act := oS (fAld 2 0)) rfl rfl) (a_ald rfl)) ?_
  refine Eq.trans (Eq.trans (r_go (act := oCI 5 1 (zcv g 12) (X_X12_toldOf g)) rfl rfl) (a_cI rfl (zck (zO_72 g) rfl))) (zbI_cg (fun x1 M1 => ?_))
  refine Eq.trans (Eq.trans (r_go (act := oCI 8 2 (zcv g 12) (X_X12_onesOf g)) rfl rfl) (a_cI rfl (zck (zO_72 g) rfl))) (zbI_cg (fun x2 M2 => ?_))
  refine Eq.trans (Eq.trans (r_go (act := oS (fIst 9 1)) rfl rfl) (a_ist rfl rfl)) ?_
  refine Eq.trans (Eq.trans (r_go (act := oS (fIld 10 1)) rfl rfl) (a_ild rfl)) ?_
  refine Eq.trans (Eq.trans (r_go (act := oS (fSt 11 (gC (.int 2)))) rfl rfl) (a_C)) ?_
  refine Eq.trans (Eq.trans (r_go (act := oS (fCm 14 16 cLt)) rfl rfl) (a_cm)) (bcg ?_ ?_)
  · refine Eq.trans (Eq.trans (r_go (act := oS (fSt 15 (gC (.int (-1))))) rfl rfl) (a_C)) ?_
    exact Eq.trans (r_go (act := oIret) rfl rfl) (a_iret)
  · refine Eq.trans (Eq.trans (r_go (act := oS (fSt 17 (gC (.int 0)))) rfl rfl) (a_C)) ?_
    refine Eq.trans (Eq.trans (r_go (act := oS (fIst 18 2)) rfl rfl) (a_ist rfl rfl)) ?_
    refine Eq.trans (Eq.trans (r_go (act := oS (fSt 21 (gC (.int 1000000)))) rfl rfl) (a_C)) ?_
    refine Eq.trans (Eq.trans (r_go (act := oS (fIst 22 3)) rfl rfl) (a_ist rfl rfl)) ?_
    refine Eq.trans (Eq.trans (r_go (act := oS (fSt 23 (gC (.int 0)))) rfl rfl) (a_C)) ?_
    refine Eq.trans (Eq.trans (r_go (act := oS (fIst 25 4)) rfl rfl) (a_ist rfl rfl)) ?_
    exact r_cut rfl rfl
theorem x_X12_askedBest_0 (g : zg) (M : zM) : X_X12_askedBest g [.ref 72] M = (zbI (X_X12_toldOf g [.ref 72] M) (fun x1 M1 => (zbI (X_X12_onesOf g [.ref 72, .int x1] M1) (fun x2 M2 => (bif cLt x2 2 then some (some (.int (-1)), M2) else zX (t_X12_askedBest g) 25 [some (.ref 72), some (.int x2), some (.int 0), some (.int 1000000), some (.int 0), none, none] [] M2))))) := e_X12_askedBest_0 g M
set_option maxRecDepth 20000 in
theorem e_X12_askedBest_25 (g : zg) (a1 : Int32) (a2 : Int32) (a3 : Int32) (a4 : Int32) (M : zM) : zX (t_X12_askedBest g) 25 [some (.ref 72), some (.int a1), some (.int a2), some (.int a3), some (.int a4), none, none] [] M = (bif cLt a4 12 then zX (t_X12_askedBest g) 38 [some (.ref 72), some (.int a1), some (.int a2), some (.int a3), some (.int a4), some (.int 0), some (.int 0)] [] M else some (some (.int a2), M)) := by
  refine Eq.trans (zX_rgN (tl_X12_askedBest g) (hc_X12_askedBest g) 9 _ _ _ _) ?_
  refine Eq.trans (Eq.trans (Eq.trans (r_0 (act := oF [5, 6] (oS (fIld 27 4))) rfl) (a_F rfl)) (a_ild rfl)) ?_
  refine Eq.trans (Eq.trans (r_go (act := oS (fSt 29 (gC (.int 12)))) rfl rfl) (a_C)) ?_
  refine Eq.trans (Eq.trans (r_go (act := oS (fCm 32 114 cLt)) rfl rfl) (a_cm)) (bcg ?_ ?_)
  · refine Eq.trans (Eq.trans (r_go (act := oS (fSt 33 (gC (.int 0)))) rfl rfl) (a_C)) ?_
    refine Eq.trans (Eq.trans (r_go (act := oS (fIst 35 5)) rfl rfl) (a_ist rfl rfl)) ?_
    refine Eq.trans (Eq.trans (r_go (act := oS (fSt 36 (gC (.int 0)))) rfl rfl) (a_C)) ?_
    refine Eq.trans (Eq.trans (r_go (act := oS (fIst 38 6)) rfl rfl) (a_ist rfl rfl)) ?_
    exact r_cut rfl rfl
  · refine Eq.trans (Eq.trans (r_go (act := oS (fIld 115 2)) rfl rfl) (a_ild rfl)) ?_
    exact Eq.trans (r_go (act := oIret) rfl rfl) (a_iret)
set_option maxRecDepth 20000 in
theorem e_X12_askedBest_38 (g : zg) (a1 : Int32) (a2 : Int32) (a3 : Int32) (a4 : Int32) (a5 : Int32) (a6 : Int32) (M : zM) : zX (t_X12_askedBest g) 38 [some (.ref 72), some (.int a1), some (.int a2), some (.int a3), some (.int a4), some (.int a5), some (.int a6)] [] M = (bif cLt a6 (M.1 72 6) then (bif zb a6 10 then (zbI (X_X12_has g [.ref 72, .int (M.1 94 (zx a6)), .int a4] M) (fun x1 M1 => (bif cEq0 x1 then zX (t_X12_askedBest g) 38 [some (.ref 72), some (.int a1), some (.int a2), some (.int a3), some (.int a4), some (.int a5), some (.int (a6 + 1))] [] M1 else zX (t_X12_askedBest g) 38 [some (.ref 72), some (.int a1), some (.int a2), some (.int a3), some (.int a4), some (.int (a5 + 1)), some (.int (a6 + 1))] [] M1))) else none) else (zbI (X_X12_greater g [.ref 72, .int a5, .int (a1 - a5)] M) (fun x2 M2 => (bif cLt x2 a3 then (zbI (X_X12_lesser g [.ref 72, .int a3, .int x2] M2) (fun x3 M3 => zX (t_X12_askedBest g) 25 [some (.ref 72), some (.int a1), some (.int a4), some (.int x3), some (.int (a4 + 1)), none, none] [] M3)) else (zbI (X_X12_lesser g [.ref 72, .int a3, .int x2] M2) (fun x4 M4 => zX (t_X12_askedBest g) 25 [some (.ref 72), some (.int a1), some (.int a2), some (.int x4), some (.int (a4 + 1)), none, none] [] M4)))))) := by
  refine Eq.trans (zX_rgN (tl_X12_askedBest g) (hc_X12_askedBest g) 26 _ _ _ _) ?_
  refine Eq.trans (Eq.trans (Eq.trans (r_0 (act := oF [] (oS (fIld 40 6))) rfl) (a_F rfl)) (a_ild rfl)) ?_
  refine Eq.trans (Eq.trans (r_go (act := oS (fAld 41 0)) rfl rfl) (a_ald rfl)) ?_
  refine Eq.trans (Eq.trans (r_go (act := oS (fGi g 44 12 6)) rfl rfl) (a_gi (zO_72 g))) ?_
  refine Eq.trans (Eq.trans (r_go (act := oS (fCm 47 75 cLt)) rfl rfl) (a_cm)) (bcg ?_ ?_)
  · refine Eq.trans (Eq.trans (r_go (act := oS (fAld 48 0)) rfl rfl) (a_ald rfl)) ?_
    refine Eq.trans (Eq.trans (r_go (act := oS (fAld 49 0)) rfl rfl) (a_ald rfl)) ?_
    refine Eq.trans (Eq.trans (r_go (act := oS (fGr g 52 12 46)) rfl rfl) (a_gr (zO_72 g) (zR_72_46 g))) ?_
    refine Eq.trans (Eq.trans (r_go (act := oS (fIld 54 6)) rfl rfl) (a_ild rfl)) ?_
    refine Eq.trans (Eq.trans (r_go (act := oS (fIa g 55)) rfl rfl) (a_ia (zA_94 g) zS_94)) (bcg ?_ rfl)
    refine Eq.trans (Eq.trans (r_go (act := oS (fIld 57 4)) rfl rfl) (a_ild rfl)) ?_
    refine Eq.trans (Eq.trans (r_go (act := oCI 60 3 (zcv g 12) (X_X12_has g)) rfl rfl) (a_cI rfl (zck (zO_72 g) rfl))) (zbI_cg (fun x1 M1 => ?_))
    refine Eq.trans (Eq.trans (r_go (act := oS (fIf 69 63 cEq0)) rfl rfl) (a_if)) (bcg ?_ ?_)
    · refine Eq.trans (Eq.trans (r_go (act := oS (fInc 72 6 1)) rfl rfl) (a_inc rfl rfl rfl)) ?_
      refine Eq.trans (Eq.trans (r_go (act := oS (fGo 38)) rfl rfl) (a_goto)) ?_
      exact r_cut rfl rfl
    · refine Eq.trans (Eq.trans (r_go (act := oS (fIld 65 5)) rfl rfl) (a_ild rfl)) ?_
      refine Eq.trans (Eq.trans (r_go (act := oS (fSt 66 (gC (.int 1)))) rfl rfl) (a_C)) ?_
      refine Eq.trans (Eq.trans (r_go (act := oS (fSt 67 (g2 (fun x y => x + y)))) rfl rfl) (a_add)) ?_
      refine Eq.trans (Eq.trans (r_go (act := oS (fIst 69 5)) rfl rfl) (a_ist rfl rfl)) ?_
      refine Eq.trans (Eq.trans (r_go (act := oS (fInc 72 6 1)) rfl rfl) (a_inc rfl rfl rfl)) ?_
      refine Eq.trans (Eq.trans (r_go (act := oS (fGo 38)) rfl rfl) (a_goto)) ?_
      exact r_cut rfl rfl
  · refine Eq.trans (Eq.trans (r_go (act := oS (fAld 76 0)) rfl rfl) (a_ald rfl)) ?_
    refine Eq.trans (Eq.trans (r_go (act := oS (fIld 78 5)) rfl rfl) (a_ild rfl)) ?_
    refine Eq.trans (Eq.trans (r_go (act := oS (fIld 79 1)) rfl rfl) (a_ild rfl)) ?_
    refine Eq.trans (Eq.trans (r_go (act := oS (fIld 81 5)) rfl rfl) (a_ild rfl)) ?_
    refine Eq.trans (Eq.trans (r_go (act := oS (fSt 82 (g2 (fun x y => x - y)))) rfl rfl) (a_sub)) ?_
    refine Eq.trans (Eq.trans (r_go (act := oCI 85 3 (zcv g 12) (X_X12_greater g)) rfl rfl) (a_cI rfl (zck (zO_72 g) rfl))) (zbI_cg (fun x2 M2 => ?_))
    refine Eq.trans (Eq.trans (r_go (act := oS (fIst 87 6)) rfl rfl) (a_ist rfl rfl)) ?_
    refine Eq.trans (Eq.trans (r_go (act := oS (fIld 89 6)) rfl rfl) (a_ild rfl)) ?_
    refine Eq.trans (Eq.trans (r_go (act := oS (fIld 90 3)) rfl rfl) (a_ild rfl)) ?_
    refine Eq.trans (Eq.trans (r_go (act := oS (fCm 93 98 cLt)) rfl rfl) (a_cm)) (bcg ?_ ?_)
    · refine Eq.trans (Eq.trans (r_go (act := oS (fIld 95 4)) rfl rfl) (a_ild rfl)) ?_
      refine Eq.trans (Eq.trans (r_go (act := oS (fGo 99)) rfl rfl) (a_goto)) ?_
      refine Eq.trans (Eq.trans (r_go (act := oS (fIst 100 2)) rfl rfl) (a_ist rfl rfl)) ?_
      refine Eq.trans (Eq.trans (r_go (act := oS (fAld 101 0)) rfl rfl) (a_ald rfl)) ?_
      refine Eq.trans (Eq.trans (r_go (act := oS (fIld 102 3)) rfl rfl) (a_ild rfl)) ?_
      refine Eq.trans (Eq.trans (r_go (act := oS (fIld 104 6)) rfl rfl) (a_ild rfl)) ?_
      refine Eq.trans (Eq.trans (r_go (act := oCI 107 3 (zcv g 12) (X_X12_lesser g)) rfl rfl) (a_cI rfl (zck (zO_72 g) rfl))) (zbI_cg (fun x3 M3 => ?_))
      refine Eq.trans (Eq.trans (r_go (act := oS (fIst 108 3)) rfl rfl) (a_ist rfl rfl)) ?_
      refine Eq.trans (Eq.trans (r_go (act := oS (fInc 111 4 1)) rfl rfl) (a_inc rfl rfl rfl)) ?_
      refine Eq.trans (Eq.trans (r_go (act := oS (fGo 25)) rfl rfl) (a_goto)) ?_
      exact r_cut rfl rfl
    · refine Eq.trans (Eq.trans (r_go (act := oS (fIld 99 2)) rfl rfl) (a_ild rfl)) ?_
      refine Eq.trans (Eq.trans (r_go (act := oS (fIst 100 2)) rfl rfl) (a_ist rfl rfl)) ?_
      refine Eq.trans (Eq.trans (r_go (act := oS (fAld 101 0)) rfl rfl) (a_ald rfl)) ?_
      refine Eq.trans (Eq.trans (r_go (act := oS (fIld 102 3)) rfl rfl) (a_ild rfl)) ?_
      refine Eq.trans (Eq.trans (r_go (act := oS (fIld 104 6)) rfl rfl) (a_ild rfl)) ?_
      refine Eq.trans (Eq.trans (r_go (act := oCI 107 3 (zcv g 12) (X_X12_lesser g)) rfl rfl) (a_cI rfl (zck (zO_72 g) rfl))) (zbI_cg (fun x4 M4 => ?_))
      refine Eq.trans (Eq.trans (r_go (act := oS (fIst 108 3)) rfl rfl) (a_ist rfl rfl)) ?_
      refine Eq.trans (Eq.trans (r_go (act := oS (fInc 111 4 1)) rfl rfl) (a_inc rfl rfl rfl)) ?_
      refine Eq.trans (Eq.trans (r_go (act := oS (fGo 25)) rfl rfl) (a_goto)) ?_
      exact r_cut rfl rfl
set_option maxRecDepth 20000 in
theorem e_X12_courtsOf_0 (g : zg) (a1 : Int32) (M : zM) : zX (t_X12_courtsOf g) 0 [some (.ref 72), some (.int a1), none, none] [] M = zX (t_X12_courtsOf g) 4 [some (.ref 72), some (.int a1), some (.int 0), some (.int 0)] [] M := by
  refine Eq.trans (zX_rgN (tl_X12_courtsOf g) (hc_X12_courtsOf g) 6 _ _ _ _) ?_
  refine Eq.trans (Eq.trans (r_0 (act := oS (fSt 1 (gC (.int 0)))) rfl) (a_C)) ?_
  refine Eq.trans (Eq.trans (r_go (act := oS (fIst 2 2)) rfl rfl) (a_ist rfl rfl)) ?_
  refine Eq.trans (Eq.trans (r_go (act := oS (fSt 3 (gC (.int 0)))) rfl rfl) (a_C)) ?_
  refine Eq.trans (Eq.trans (r_go (act := oS (fIst 4 3)) rfl rfl) (a_ist rfl rfl)) ?_
  exact r_cut rfl rfl
theorem x_X12_courtsOf_0 (g : zg) (a1 : Int32) (M : zM) : X_X12_courtsOf g [.ref 72, .int a1] M = zX (t_X12_courtsOf g) 4 [some (.ref 72), some (.int a1), some (.int 0), some (.int 0)] [] M := e_X12_courtsOf_0 g a1 M
set_option maxRecDepth 20000 in
theorem e_X12_courtsOf_4 (g : zg) (a1 : Int32) (a2 : Int32) (a3 : Int32) (M : zM) : zX (t_X12_courtsOf g) 4 [some (.ref 72), some (.int a1), some (.int a2), some (.int a3)] [] M = (bif cLt a3 (M.1 72 6) then (zbI (X_X12_has g [.ref 72, .int a1, .int a3] M) (fun x1 M1 => (bif cEq0 x1 then zX (t_X12_courtsOf g) 4 [some (.ref 72), some (.int a1), some (.int a2), some (.int (a3 + 1))] [] M1 else (bif zb a3 10 then zX (t_X12_courtsOf g) 4 [some (.ref 72), some (.int a1), some (.int (a2 ||| (M1.1 94 (zx a3)))), some (.int (a3 + 1))] [] M1 else none)))) else some (some (.int a2), M)) := by
  refine Eq.trans (zX_rgN (tl_X12_courtsOf g) (hc_X12_courtsOf g) 20 _ _ _ _) ?_
  refine Eq.trans (Eq.trans (Eq.trans (r_0 (act := oF [] (oS (fIld 5 3))) rfl) (a_F rfl)) (a_ild rfl)) ?_
  refine Eq.trans (Eq.trans (r_go (act := oS (fAld 6 0)) rfl rfl) (a_ald rfl)) ?_
  refine Eq.trans (Eq.trans (r_go (act := oS (fGi g 9 12 6)) rfl rfl) (a_gi (zO_72 g))) ?_
  refine Eq.trans (Eq.trans (r_go (act := oS (fCm 12 36 cLt)) rfl rfl) (a_cm)) (bcg ?_ ?_)
  · refine Eq.trans (Eq.trans (r_go (act := oS (fAld 13 0)) rfl rfl) (a_ald rfl)) ?_
    refine Eq.trans (Eq.trans (r_go (act := oS (fIld 14 1)) rfl rfl) (a_ild rfl)) ?_
    refine Eq.trans (Eq.trans (r_go (act := oS (fIld 15 3)) rfl rfl) (a_ild rfl)) ?_
    refine Eq.trans (Eq.trans (r_go (act := oCI 18 3 (zcv g 12) (X_X12_has g)) rfl rfl) (a_cI rfl (zck (zO_72 g) rfl))) (zbI_cg (fun x1 M1 => ?_))
    refine Eq.trans (Eq.trans (r_go (act := oS (fIf 30 21 cEq0)) rfl rfl) (a_if)) (bcg ?_ ?_)
    · refine Eq.trans (Eq.trans (r_go (act := oS (fInc 33 3 1)) rfl rfl) (a_inc rfl rfl rfl)) ?_
      refine Eq.trans (Eq.trans (r_go (act := oS (fGo 4)) rfl rfl) (a_goto)) ?_
      exact r_cut rfl rfl
    · refine Eq.trans (Eq.trans (r_go (act := oS (fIld 22 2)) rfl rfl) (a_ild rfl)) ?_
      refine Eq.trans (Eq.trans (r_go (act := oS (fAld 23 0)) rfl rfl) (a_ald rfl)) ?_
      refine Eq.trans (Eq.trans (r_go (act := oS (fGr g 26 12 46)) rfl rfl) (a_gr (zO_72 g) (zR_72_46 g))) ?_
      refine Eq.trans (Eq.trans (r_go (act := oS (fIld 27 3)) rfl rfl) (a_ild rfl)) ?_
      refine Eq.trans (Eq.trans (r_go (act := oS (fIa g 28)) rfl rfl) (a_ia (zA_94 g) zS_94)) (bcg ?_ rfl)
      refine Eq.trans (Eq.trans (r_go (act := oS (fSt 29 (g2 (fun x y => x ||| y)))) rfl rfl) (a_or)) ?_
      refine Eq.trans (Eq.trans (r_go (act := oS (fIst 30 2)) rfl rfl) (a_ist rfl rfl)) ?_
      refine Eq.trans (Eq.trans (r_go (act := oS (fInc 33 3 1)) rfl rfl) (a_inc rfl rfl rfl)) ?_
      refine Eq.trans (Eq.trans (r_go (act := oS (fGo 4)) rfl rfl) (a_goto)) ?_
      exact r_cut rfl rfl
  · refine Eq.trans (Eq.trans (r_go (act := oS (fIld 37 2)) rfl rfl) (a_ild rfl)) ?_
    exact Eq.trans (r_go (act := oIret) rfl rfl) (a_iret)
set_option maxRecDepth 20000 in
theorem e_X12_leaks_0 (g : zg) (a1 : Int32) (a2 : Int32) (M : zM) : zX (t_X12_leaks g) 0 [some (.ref 72), some (.int a1), some (.int a2), none, none, none] [] M = (bif cEq a2 2 then (zbI (X_X12_askedBest g [.ref 72] ((zu M.1 72 0 0), M.2)) (fun x1 M1 => some (some (.int x1), M1))) else (zbI (X_X12_isIn g [.ref 72, .int a1, .int 0, .int 4095] ((zu M.1 72 0 0), M.2)) (fun x2 M2 => (bif cEq0 x2 then some (some (.int (-1)), M2) else (zbI (X_X12_isIn g [.ref 72, .int a2, .int 0, .int 1] M2) (fun x3 M3 => (bif cEq0 x3 then some (some (.int (-1)), M3) else (zbI (X_X12_toldOf g [.ref 72] M3) (fun x4 M4 => zX (t_X12_leaks g) 50 [some (.ref 72), some (.int a1), some (.int a2), some (.int x4), some (.int (-1)), some (.int 0)] [] M4))))))))) := by
  refine Eq.trans (zX_rgN (tl_X12_leaks g) (hc_X12_leaks g) 27 _ _ _ _) ?_
  refine Eq.trans (Eq.trans (r_0 (act := oS (fAld 1 0)) rfl) (a_ald rfl)) ?_
  refine Eq.trans (Eq.trans (r_go (act := oS (fSt 2 (gC (.int 0)))) rfl rfl) (a_C)) ?_
  refine Eq.trans (Eq.trans (r_go (act := oS (fPi g 5 12 0)) rfl rfl) (a_pi (zO_72 g))) ?_
  refine Eq.trans (Eq.trans (r_go (act := oS (fIld 6 2)) rfl rfl) (a_ild rfl)) ?_
  refine Eq.trans (Eq.trans (r_go (act := oS (fSt 7 (gC (.int 2)))) rfl rfl) (a_C)) ?_
  refine Eq.trans (Eq.trans (r_go (act := oS (fCm 10 15 cEq)) rfl rfl) (a_cm)) (bcg ?_ ?_)
  · refine Eq.trans (Eq.trans (r_go (act := oS (fAld 11 0)) rfl rfl) (a_ald rfl)) ?_
    refine Eq.trans (Eq.trans (r_go (act := oCI 14 1 (zcv g 12) (X_X12_askedBest g)) rfl rfl) (a_cI rfl (zck (zO_72 g) rfl))) (zbI_cg (fun x1 M1 => ?_))
    exact Eq.trans (r_go (act := oIret) rfl rfl) (a_iret)
  · refine Eq.trans (Eq.trans (r_go (act := oS (fAld 16 0)) rfl rfl) (a_ald rfl)) ?_
    refine Eq.trans (Eq.trans (r_go (act := oS (fIld 17 1)) rfl rfl) (a_ild rfl)) ?_
    refine Eq.trans (Eq.trans (r_go (act := oS (fSt 18 (gC (.int 0)))) rfl rfl) (a_C)) ?_
    refine Eq.trans (Eq.trans (r_go (act := oS (fSt 21 (gC (.int 4095)))) rfl rfl) (a_C)) ?_
    refine Eq.trans (Eq.trans (r_go (act := oCI 24 4 (zcv g 12) (X_X12_isIn g)) rfl rfl) (a_cI rfl (zck (zO_72 g) rfl))) (zbI_cg (fun x2 M2 => ?_))
    refine Eq.trans (Eq.trans (r_go (act := oS (fIf 37 27 cEq0)) rfl rfl) (a_if)) (bcg ?_ ?_)
    · refine Eq.trans (Eq.trans (r_go (act := oS (fSt 38 (gC (.int (-1))))) rfl rfl) (a_C)) ?_
      exact Eq.trans (r_go (act := oIret) rfl rfl) (a_iret)
    · refine Eq.trans (Eq.trans (r_go (act := oS (fAld 28 0)) rfl rfl) (a_ald rfl)) ?_
      refine Eq.trans (Eq.trans (r_go (act := oS (fIld 29 2)) rfl rfl) (a_ild rfl)) ?_
      refine Eq.trans (Eq.trans (r_go (act := oS (fSt 30 (gC (.int 0)))) rfl rfl) (a_C)) ?_
      refine Eq.trans (Eq.trans (r_go (act := oS (fSt 31 (gC (.int 1)))) rfl rfl) (a_C)) ?_
      refine Eq.trans (Eq.trans (r_go (act := oCI 34 4 (zcv g 12) (X_X12_isIn g)) rfl rfl) (a_cI rfl (zck (zO_72 g) rfl))) (zbI_cg (fun x3 M3 => ?_))
      refine Eq.trans (Eq.trans (r_go (act := oS (fIf 37 39 cEq0)) rfl rfl) (a_if)) (bcg ?_ ?_)
      · refine Eq.trans (Eq.trans (r_go (act := oS (fSt 38 (gC (.int (-1))))) rfl rfl) (a_C)) ?_
        exact Eq.trans (r_go (act := oIret) rfl rfl) (a_iret)
      · refine Eq.trans (Eq.trans (r_go (act := oS (fAld 40 0)) rfl rfl) (a_ald rfl)) ?_
        refine Eq.trans (Eq.trans (r_go (act := oCI 43 1 (zcv g 12) (X_X12_toldOf g)) rfl rfl) (a_cI rfl (zck (zO_72 g) rfl))) (zbI_cg (fun x4 M4 => ?_))
        refine Eq.trans (Eq.trans (r_go (act := oS (fIst 44 3)) rfl rfl) (a_ist rfl rfl)) ?_
        refine Eq.trans (Eq.trans (r_go (act := oS (fSt 45 (gC (.int (-1))))) rfl rfl) (a_C)) ?_
        refine Eq.trans (Eq.trans (r_go (act := oS (fIst 47 4)) rfl rfl) (a_ist rfl rfl)) ?_
        refine Eq.trans (Eq.trans (r_go (act := oS (fSt 48 (gC (.int 0)))) rfl rfl) (a_C)) ?_
        refine Eq.trans (Eq.trans (r_go (act := oS (fIst 50 5)) rfl rfl) (a_ist rfl rfl)) ?_
        exact r_cut rfl rfl
theorem x_X12_leaks_0 (g : zg) (a1 : Int32) (a2 : Int32) (M : zM) : X_X12_leaks g [.ref 72, .int a1, .int a2] M = (bif cEq a2 2 then (zbI (X_X12_askedBest g [.ref 72] ((zu M.1 72 0 0), M.2)) (fun x1 M1 => some (some (.int x1), M1))) else (zbI (X_X12_isIn g [.ref 72, .int a1, .int 0, .int 4095] ((zu M.1 72 0 0), M.2)) (fun x2 M2 => (bif cEq0 x2 then some (some (.int (-1)), M2) else (zbI (X_X12_isIn g [.ref 72, .int a2, .int 0, .int 1] M2) (fun x3 M3 => (bif cEq0 x3 then some (some (.int (-1)), M3) else (zbI (X_X12_toldOf g [.ref 72] M3) (fun x4 M4 => zX (t_X12_leaks g) 50 [some (.ref 72), some (.int a1), some (.int a2), some (.int x4), some (.int (-1)), some (.int 0)] [] M4))))))))) := e_X12_leaks_0 g a1 a2 M
set_option maxRecDepth 20000 in
theorem e_X12_leaks_50 (g : zg) (a1 : Int32) (a2 : Int32) (a3 : Int32) (a4 : Int32) (a5 : Int32) (M : zM) : zX (t_X12_leaks g) 50 [some (.ref 72), some (.int a1), some (.int a2), some (.int a3), some (.int a4), some (.int a5)] [] M = (bif cLt a5 ((1 : Int32) <<< ((M.1 72 6) &&& 31)) then (bif cEq0 (a5 &&& (a3 ^^^ (-1))) then (zbI (X_X12_courtsOf g [.ref 72, .int a5] M) (fun x1 M1 => (bif cEq x1 a1 then (bif cEq a4 (-1) then zX (t_X12_leaks g) 50 [some (.ref 72), some (.int a1), some (.int a2), some (.int a3), some (.int a5), some (.int (a5 + 1))] [] M1 else (zbI (X_X12_onesOf g [.ref 72, .int a5] M1) (fun x2 M2 => (zbI (X_X12_onesOf g [.ref 72, .int a4] M2) (fun x3 M3 => (bif cLt x2 x3 then zX (t_X12_leaks g) 50 [some (.ref 72), some (.int a1), some (.int a2), some (.int a3), some (.int a5), some (.int (a5 + 1))] [] M3 else zX (t_X12_leaks g) 50 [some (.ref 72), some (.int a1), some (.int a2), some (.int a3), some (.int a4), some (.int (a5 + 1))] [] M3)))))) else zX (t_X12_leaks g) 50 [some (.ref 72), some (.int a1), some (.int a2), some (.int a3), some (.int a4), some (.int (a5 + 1))] [] M1))) else zX (t_X12_leaks g) 50 [some (.ref 72), some (.int a1), some (.int a2), some (.int a3), some (.int a4), some (.int (a5 + 1))] [] M) else (bif cEq a4 (-1) then some (some (.int a4), M) else (bif cEq a2 1 then some (some (.int a4), M) else (zbI (X_X12_onesOf g [.ref 72, .int a4] M) (fun x4 M4 => some (some (.int x4), M4)))))) := by
  refine Eq.trans (zX_rgN (tl_X12_leaks g) (hc_X12_leaks g) 33 _ _ _ _) ?_
  refine Eq.trans (Eq.trans (Eq.trans (r_0 (act := oF [] (oS (fIld 52 5))) rfl) (a_F rfl)) (a_ild rfl)) ?_
  refine Eq.trans (Eq.trans (r_go (act := oS (fSt 53 (gC (.int 1)))) rfl rfl) (a_C)) ?_
  refine Eq.trans (Eq.trans (r_go (act := oS (fAld 54 0)) rfl rfl) (a_ald rfl)) ?_
  refine Eq.trans (Eq.trans (r_go (act := oS (fGi g 57 12 6)) rfl rfl) (a_gi (zO_72 g))) ?_
  refine Eq.trans (Eq.trans (r_go (act := oS (fSt 58 (g2 (fun x y => x <<< (y &&& 31))))) rfl rfl) (a_shl)) ?_
  refine Eq.trans (Eq.trans (r_go (act := oS (fCm 61 111 cLt)) rfl rfl) (a_cm)) (bcg ?_ ?_)
  · refine Eq.trans (Eq.trans (r_go (act := oS (fIld 63 5)) rfl rfl) (a_ild rfl)) ?_
    refine Eq.trans (Eq.trans (r_go (act := oS (fIld 64 3)) rfl rfl) (a_ild rfl)) ?_
    refine Eq.trans (Eq.trans (r_go (act := oS (fSt 65 (gC (.int (-1))))) rfl rfl) (a_C)) ?_
    refine Eq.trans (Eq.trans (r_go (act := oS (fSt 66 (g2 (fun x y => x ^^^ y)))) rfl rfl) (a_xor)) ?_
    refine Eq.trans (Eq.trans (r_go (act := oS (fSt 67 (g2 (fun x y => x &&& y)))) rfl rfl) (a_and)) ?_
    refine Eq.trans (Eq.trans (r_go (act := oS (fIf 70 105 cEq0)) rfl rfl) (a_if)) (bcg ?_ ?_)
    · refine Eq.trans (Eq.trans (r_go (act := oS (fAld 71 0)) rfl rfl) (a_ald rfl)) ?_
      refine Eq.trans (Eq.trans (r_go (act := oS (fIld 73 5)) rfl rfl) (a_ild rfl)) ?_
      refine Eq.trans (Eq.trans (r_go (act := oCI 76 2 (zcv g 12) (X_X12_courtsOf g)) rfl rfl) (a_cI rfl (zck (zO_72 g) rfl))) (zbI_cg (fun x1 M1 => ?_))
      refine Eq.trans (Eq.trans (r_go (act := oS (fIld 77 1)) rfl rfl) (a_ild rfl)) ?_
      refine Eq.trans (Eq.trans (r_go (act := oS (fCm 80 105 cEq)) rfl rfl) (a_cm)) (bcg ?_ ?_)
      · refine Eq.trans (Eq.trans (r_go (act := oS (fIld 82 4)) rfl rfl) (a_ild rfl)) ?_
        refine Eq.trans (Eq.trans (r_go (act := oS (fSt 83 (gC (.int (-1))))) rfl rfl) (a_C)) ?_
        refine Eq.trans (Eq.trans (r_go (act := oS (fCm 101 86 cEq)) rfl rfl) (a_cm)) (bcg ?_ ?_)
        · refine Eq.trans (Eq.trans (r_go (act := oS (fIld 103 5)) rfl rfl) (a_ild rfl)) ?_
          refine Eq.trans (Eq.trans (r_go (act := oS (fIst 105 4)) rfl rfl) (a_ist rfl rfl)) ?_
          refine Eq.trans (Eq.trans (r_go (act := oS (fInc 108 5 1)) rfl rfl) (a_inc rfl rfl rfl)) ?_
          refine Eq.trans (Eq.trans (r_go (act := oS (fGo 50)) rfl rfl) (a_goto)) ?_
          exact r_cut rfl rfl
        · refine Eq.trans (Eq.trans (r_go (act := oS (fAld 87 0)) rfl rfl) (a_ald rfl)) ?_
          refine Eq.trans (Eq.trans (r_go (act := oS (fIld 89 5)) rfl rfl) (a_ild rfl)) ?_
          refine Eq.trans (Eq.trans (r_go (act := oCI 92 2 (zcv g 12) (X_X12_onesOf g)) rfl rfl) (a_cI rfl (zck (zO_72 g) rfl))) (zbI_cg (fun x2 M2 => ?_))
          refine Eq.trans (Eq.trans (r_go (act := oS (fAld 93 0)) rfl rfl) (a_ald rfl)) ?_
          refine Eq.trans (Eq.trans (r_go (act := oS (fIld 95 4)) rfl rfl) (a_ild rfl)) ?_
          refine Eq.trans (Eq.trans (r_go (act := oCI 98 2 (zcv g 12) (X_X12_onesOf g)) rfl rfl) (a_cI rfl (zck (zO_72 g) rfl))) (zbI_cg (fun x3 M3 => ?_))
          refine Eq.trans (Eq.trans (r_go (act := oS (fCm 101 105 cLt)) rfl rfl) (a_cm)) (bcg ?_ ?_)
          · refine Eq.trans (Eq.trans (r_go (act := oS (fIld 103 5)) rfl rfl) (a_ild rfl)) ?_
            refine Eq.trans (Eq.trans (r_go (act := oS (fIst 105 4)) rfl rfl) (a_ist rfl rfl)) ?_
            refine Eq.trans (Eq.trans (r_go (act := oS (fInc 108 5 1)) rfl rfl) (a_inc rfl rfl rfl)) ?_
            refine Eq.trans (Eq.trans (r_go (act := oS (fGo 50)) rfl rfl) (a_goto)) ?_
            exact r_cut rfl rfl
          · refine Eq.trans (Eq.trans (r_go (act := oS (fInc 108 5 1)) rfl rfl) (a_inc rfl rfl rfl)) ?_
            refine Eq.trans (Eq.trans (r_go (act := oS (fGo 50)) rfl rfl) (a_goto)) ?_
            exact r_cut rfl rfl
      · refine Eq.trans (Eq.trans (r_go (act := oS (fInc 108 5 1)) rfl rfl) (a_inc rfl rfl rfl)) ?_
        refine Eq.trans (Eq.trans (r_go (act := oS (fGo 50)) rfl rfl) (a_goto)) ?_
        exact r_cut rfl rfl
    · refine Eq.trans (Eq.trans (r_go (act := oS (fInc 108 5 1)) rfl rfl) (a_inc rfl rfl rfl)) ?_
      refine Eq.trans (Eq.trans (r_go (act := oS (fGo 50)) rfl rfl) (a_goto)) ?_
      exact r_cut rfl rfl
  · refine Eq.trans (Eq.trans (r_go (act := oS (fIld 113 4)) rfl rfl) (a_ild rfl)) ?_
    refine Eq.trans (Eq.trans (r_go (act := oS (fSt 114 (gC (.int (-1))))) rfl rfl) (a_C)) ?_
    refine Eq.trans (Eq.trans (r_go (act := oS (fCm 122 117 cEq)) rfl rfl) (a_cm)) (bcg ?_ ?_)
    · refine Eq.trans (Eq.trans (r_go (act := oS (fIld 124 4)) rfl rfl) (a_ild rfl)) ?_
      refine Eq.trans (Eq.trans (r_go (act := oS (fGo 133)) rfl rfl) (a_goto)) ?_
      exact Eq.trans (r_go (act := oIret) rfl rfl) (a_iret)
    · refine Eq.trans (Eq.trans (r_go (act := oS (fIld 118 2)) rfl rfl) (a_ild rfl)) ?_
      refine Eq.trans (Eq.trans (r_go (act := oS (fSt 119 (gC (.int 1)))) rfl rfl) (a_C)) ?_
      refine Eq.trans (Eq.trans (r_go (act := oS (fCm 122 127 cEq)) rfl rfl) (a_cm)) (bcg ?_ ?_)
      · refine Eq.trans (Eq.trans (r_go (act := oS (fIld 124 4)) rfl rfl) (a_ild rfl)) ?_
        refine Eq.trans (Eq.trans (r_go (act := oS (fGo 133)) rfl rfl) (a_goto)) ?_
        exact Eq.trans (r_go (act := oIret) rfl rfl) (a_iret)
      · refine Eq.trans (Eq.trans (r_go (act := oS (fAld 128 0)) rfl rfl) (a_ald rfl)) ?_
        refine Eq.trans (Eq.trans (r_go (act := oS (fIld 130 4)) rfl rfl) (a_ild rfl)) ?_
        refine Eq.trans (Eq.trans (r_go (act := oCI 133 2 (zcv g 12) (X_X12_onesOf g)) rfl rfl) (a_cI rfl (zck (zO_72 g) rfl))) (zbI_cg (fun x4 M4 => ?_))
        exact Eq.trans (r_go (act := oIret) rfl rfl) (a_iret)
set_option maxRecDepth 20000 in
theorem e_X12_here_0 (g : zg) (M : zM) : zX (t_X12_here g) 0 [some (.ref 72), none, none] [] M = zX (t_X12_here g) 4 [some (.ref 72), some (.int 0), some (.int 0)] [] M := by
  refine Eq.trans (zX_rgN (tl_X12_here g) (hc_X12_here g) 6 _ _ _ _) ?_
  refine Eq.trans (Eq.trans (r_0 (act := oS (fSt 1 (gC (.int 0)))) rfl) (a_C)) ?_
  refine Eq.trans (Eq.trans (r_go (act := oS (fIst 2 1)) rfl rfl) (a_ist rfl rfl)) ?_
  refine Eq.trans (Eq.trans (r_go (act := oS (fSt 3 (gC (.int 0)))) rfl rfl) (a_C)) ?_
  refine Eq.trans (Eq.trans (r_go (act := oS (fIst 4 2)) rfl rfl) (a_ist rfl rfl)) ?_
  exact r_cut rfl rfl
theorem x_X12_here_0 (g : zg) (M : zM) : X_X12_here g [.ref 72] M = zX (t_X12_here g) 4 [some (.ref 72), some (.int 0), some (.int 0)] [] M := e_X12_here_0 g M
set_option maxRecDepth 20000 in
theorem e_X12_here_4 (g : zg) (a1 : Int32) (a2 : Int32) (M : zM) : zX (t_X12_here g) 4 [some (.ref 72), some (.int a1), some (.int a2)] [] M = (bif cLt a2 (M.1 72 6) then (zbI (X_X12_isHere g [.ref 72, .int a2] M) (fun x1 M1 => (bif cEq0 x1 then zX (t_X12_here g) 4 [some (.ref 72), some (.int a1), some (.int (a2 + 1))] [] M1 else zX (t_X12_here g) 4 [some (.ref 72), some (.int (a1 ||| ((1 : Int32) <<< (a2 &&& 31)))), some (.int (a2 + 1))] [] M1))) else some (some (.int a1), M)) := by
  refine Eq.trans (zX_rgN (tl_X12_here g) (hc_X12_here g) 18 _ _ _ _) ?_
  refine Eq.trans (Eq.trans (Eq.trans (r_0 (act := oF [] (oS (fIld 5 2))) rfl) (a_F rfl)) (a_ild rfl)) ?_
  refine Eq.trans (Eq.trans (r_go (act := oS (fAld 6 0)) rfl rfl) (a_ald rfl)) ?_
  refine Eq.trans (Eq.trans (r_go (act := oS (fGi g 9 12 6)) rfl rfl) (a_gi (zO_72 g))) ?_
  refine Eq.trans (Eq.trans (r_go (act := oS (fCm 12 32 cLt)) rfl rfl) (a_cm)) (bcg ?_ ?_)
  · refine Eq.trans (Eq.trans (r_go (act := oS (fAld 13 0)) rfl rfl) (a_ald rfl)) ?_
    refine Eq.trans (Eq.trans (r_go (act := oS (fIld 14 2)) rfl rfl) (a_ild rfl)) ?_
    refine Eq.trans (Eq.trans (r_go (act := oCI 17 2 (zcv g 12) (X_X12_isHere g)) rfl rfl) (a_cI rfl (zck (zO_72 g) rfl))) (zbI_cg (fun x1 M1 => ?_))
    refine Eq.trans (Eq.trans (r_go (act := oS (fIf 26 20 cEq0)) rfl rfl) (a_if)) (bcg ?_ ?_)
    · refine Eq.trans (Eq.trans (r_go (act := oS (fInc 29 2 1)) rfl rfl) (a_inc rfl rfl rfl)) ?_
      refine Eq.trans (Eq.trans (r_go (act := oS (fGo 4)) rfl rfl) (a_goto)) ?_
      exact r_cut rfl rfl
    · refine Eq.trans (Eq.trans (r_go (act := oS (fIld 21 1)) rfl rfl) (a_ild rfl)) ?_
      refine Eq.trans (Eq.trans (r_go (act := oS (fSt 22 (gC (.int 1)))) rfl rfl) (a_C)) ?_
      refine Eq.trans (Eq.trans (r_go (act := oS (fIld 23 2)) rfl rfl) (a_ild rfl)) ?_
      refine Eq.trans (Eq.trans (r_go (act := oS (fSt 24 (g2 (fun x y => x <<< (y &&& 31))))) rfl rfl) (a_shl)) ?_
      refine Eq.trans (Eq.trans (r_go (act := oS (fSt 25 (g2 (fun x y => x ||| y)))) rfl rfl) (a_or)) ?_
      refine Eq.trans (Eq.trans (r_go (act := oS (fIst 26 1)) rfl rfl) (a_ist rfl rfl)) ?_
      refine Eq.trans (Eq.trans (r_go (act := oS (fInc 29 2 1)) rfl rfl) (a_inc rfl rfl rfl)) ?_
      refine Eq.trans (Eq.trans (r_go (act := oS (fGo 4)) rfl rfl) (a_goto)) ?_
      exact r_cut rfl rfl
  · refine Eq.trans (Eq.trans (r_go (act := oS (fIld 33 1)) rfl rfl) (a_ild rfl)) ?_
    exact Eq.trans (r_go (act := oIret) rfl rfl) (a_iret)
set_option maxRecDepth 20000 in
theorem e_X12_votesOf_0 (g : zg) (a1 : Int32) (M : zM) : zX (t_X12_votesOf g) 0 [some (.ref 72), some (.int a1), none, none] [] M = zX (t_X12_votesOf g) 4 [some (.ref 72), some (.int a1), some (.int 0), some (.int 0)] [] M := by
  refine Eq.trans (zX_rgN (tl_X12_votesOf g) (hc_X12_votesOf g) 6 _ _ _ _) ?_
  refine Eq.trans (Eq.trans (r_0 (act := oS (fSt 1 (gC (.int 0)))) rfl) (a_C)) ?_
  refine Eq.trans (Eq.trans (r_go (act := oS (fIst 2 2)) rfl rfl) (a_ist rfl rfl)) ?_
  refine Eq.trans (Eq.trans (r_go (act := oS (fSt 3 (gC (.int 0)))) rfl rfl) (a_C)) ?_
  refine Eq.trans (Eq.trans (r_go (act := oS (fIst 4 3)) rfl rfl) (a_ist rfl rfl)) ?_
  exact r_cut rfl rfl
theorem x_X12_votesOf_0 (g : zg) (a1 : Int32) (M : zM) : X_X12_votesOf g [.ref 72, .int a1] M = zX (t_X12_votesOf g) 4 [some (.ref 72), some (.int a1), some (.int 0), some (.int 0)] [] M := e_X12_votesOf_0 g a1 M
set_option maxRecDepth 20000 in
theorem e_X12_votesOf_4 (g : zg) (a1 : Int32) (a2 : Int32) (a3 : Int32) (M : zM) : zX (t_X12_votesOf g) 4 [some (.ref 72), some (.int a1), some (.int a2), some (.int a3)] [] M = (bif cLt a3 (M.1 72 6) then (zbI (X_X12_has g [.ref 72, .int a1, .int a3] M) (fun x1 M1 => (bif cEq0 x1 then zX (t_X12_votesOf g) 4 [some (.ref 72), some (.int a1), some (.int a2), some (.int (a3 + 1))] [] M1 else (bif zb a3 10 then zX (t_X12_votesOf g) 4 [some (.ref 72), some (.int a1), some (.int ((a2 + 10) - (M1.1 77 (zx a3)))), some (.int (a3 + 1))] [] M1 else none)))) else some (some (.int a2), M)) := by
  refine Eq.trans (zX_rgN (tl_X12_votesOf g) (hc_X12_votesOf g) 22 _ _ _ _) ?_
  refine Eq.trans (Eq.trans (Eq.trans (r_0 (act := oF [] (oS (fIld 5 3))) rfl) (a_F rfl)) (a_ild rfl)) ?_
  refine Eq.trans (Eq.trans (r_go (act := oS (fAld 6 0)) rfl rfl) (a_ald rfl)) ?_
  refine Eq.trans (Eq.trans (r_go (act := oS (fGi g 9 12 6)) rfl rfl) (a_gi (zO_72 g))) ?_
  refine Eq.trans (Eq.trans (r_go (act := oS (fCm 12 39 cLt)) rfl rfl) (a_cm)) (bcg ?_ ?_)
  · refine Eq.trans (Eq.trans (r_go (act := oS (fAld 13 0)) rfl rfl) (a_ald rfl)) ?_
    refine Eq.trans (Eq.trans (r_go (act := oS (fIld 14 1)) rfl rfl) (a_ild rfl)) ?_
    refine Eq.trans (Eq.trans (r_go (act := oS (fIld 15 3)) rfl rfl) (a_ild rfl)) ?_
    refine Eq.trans (Eq.trans (r_go (act := oCI 18 3 (zcv g 12) (X_X12_has g)) rfl rfl) (a_cI rfl (zck (zO_72 g) rfl))) (zbI_cg (fun x1 M1 => ?_))
    refine Eq.trans (Eq.trans (r_go (act := oS (fIf 33 21 cEq0)) rfl rfl) (a_if)) (bcg ?_ ?_)
    · refine Eq.trans (Eq.trans (r_go (act := oS (fInc 36 3 1)) rfl rfl) (a_inc rfl rfl rfl)) ?_
      refine Eq.trans (Eq.trans (r_go (act := oS (fGo 4)) rfl rfl) (a_goto)) ?_
      exact r_cut rfl rfl
    · refine Eq.trans (Eq.trans (r_go (act := oS (fIld 22 2)) rfl rfl) (a_ild rfl)) ?_
      refine Eq.trans (Eq.trans (r_go (act := oS (fSt 24 (gC (.int 10)))) rfl rfl) (a_C)) ?_
      refine Eq.trans (Eq.trans (r_go (act := oS (fSt 25 (g2 (fun x y => x + y)))) rfl rfl) (a_add)) ?_
      refine Eq.trans (Eq.trans (r_go (act := oS (fAld 26 0)) rfl rfl) (a_ald rfl)) ?_
      refine Eq.trans (Eq.trans (r_go (act := oS (fGr g 29 12 10)) rfl rfl) (a_gr (zO_72 g) (zR_72_10 g))) ?_
      refine Eq.trans (Eq.trans (r_go (act := oS (fIld 30 3)) rfl rfl) (a_ild rfl)) ?_
      refine Eq.trans (Eq.trans (r_go (act := oS (fIa g 31)) rfl rfl) (a_ia (zA_77 g) zS_77)) (bcg ?_ rfl)
      refine Eq.trans (Eq.trans (r_go (act := oS (fSt 32 (g2 (fun x y => x - y)))) rfl rfl) (a_sub)) ?_
      refine Eq.trans (Eq.trans (r_go (act := oS (fIst 33 2)) rfl rfl) (a_ist rfl rfl)) ?_
      refine Eq.trans (Eq.trans (r_go (act := oS (fInc 36 3 1)) rfl rfl) (a_inc rfl rfl rfl)) ?_
      refine Eq.trans (Eq.trans (r_go (act := oS (fGo 4)) rfl rfl) (a_goto)) ?_
      exact r_cut rfl rfl
  · refine Eq.trans (Eq.trans (r_go (act := oS (fIld 40 2)) rfl rfl) (a_ild rfl)) ?_
    exact Eq.trans (r_go (act := oIret) rfl rfl) (a_iret)
set_option maxRecDepth 20000 in
theorem e_X12_doesWin_0 (g : zg) (a1 : Int32) (M : zM) : zX (t_X12_doesWin g) 0 [some (.ref 72), some (.int a1)] [] M = (zbI (X_X12_votesOf g [.ref 72, .int a1] M) (fun x1 M1 => (zbI (X_X12_here g [.ref 72] M1) (fun x2 M2 => (zbI (X_X12_votesOf g [.ref 72, .int x2] M2) (fun x3 M3 => (bif cGt (2 * x1) x3 then some (some (.int 1), M3) else some (some (.int 0), M3)))))))) := by
  refine Eq.trans (zX_rgN (tl_X12_doesWin g) (hc_X12_doesWin g) 14 _ _ _ _) ?_
  refine Eq.trans (Eq.trans (r_0 (act := oS (fSt 1 (gC (.int 2)))) rfl) (a_C)) ?_
  refine Eq.trans (Eq.trans (r_go (act := oS (fAld 2 0)) rfl rfl) (a_ald rfl)) ?_
  refine Eq.trans (Eq.trans (r_go (act := oS (fIld 3 1)) rfl rfl) (a_ild rfl)) ?_
  refine Eq.trans (Eq.trans (r_go (act := oCI 6 2 (zcv g 12) (X_X12_votesOf g)) rfl rfl) (a_cI rfl (zck (zO_72 g) rfl))) (zbI_cg (fun x1 M1 => ?_))
  refine Eq.trans (Eq.trans (r_go (act := oS (fSt 7 (g2 (fun x y => x * y)))) rfl rfl) (a_mul)) ?_
  refine Eq.trans (Eq.trans (r_go (act := oS (fAld 8 0)) rfl rfl) (a_ald rfl)) ?_
  refine Eq.trans (Eq.trans (r_go (act := oS (fAld 9 0)) rfl rfl) (a_ald rfl)) ?_
  refine Eq.trans (Eq.trans (r_go (act := oCI 12 1 (zcv g 12) (X_X12_here g)) rfl rfl) (a_cI rfl (zck (zO_72 g) rfl))) (zbI_cg (fun x2 M2 => ?_))
  refine Eq.trans (Eq.trans (r_go (act := oCI 15 2 (zcv g 12) (X_X12_votesOf g)) rfl rfl) (a_cI rfl (zck (zO_72 g) rfl))) (zbI_cg (fun x3 M3 => ?_))
  refine Eq.trans (Eq.trans (r_go (act := oS (fCm 18 22 cGt)) rfl rfl) (a_cm)) (bcg ?_ ?_)
  · refine Eq.trans (Eq.trans (r_go (act := oS (fSt 19 (gC (.int 1)))) rfl rfl) (a_C)) ?_
    refine Eq.trans (Eq.trans (r_go (act := oS (fGo 23)) rfl rfl) (a_goto)) ?_
    exact Eq.trans (Eq.trans (r_go (act := oZret) rfl rfl) a_zret) (bcT (by decide +kernel))
  · refine Eq.trans (Eq.trans (r_go (act := oS (fSt 23 (gC (.int 0)))) rfl rfl) (a_C)) ?_
    exact Eq.trans (Eq.trans (r_go (act := oZret) rfl rfl) a_zret) (bcT (by decide +kernel))
theorem x_X12_doesWin_0 (g : zg) (a1 : Int32) (M : zM) : X_X12_doesWin g [.ref 72, .int a1] M = (zbI (X_X12_votesOf g [.ref 72, .int a1] M) (fun x1 M1 => (zbI (X_X12_here g [.ref 72] M1) (fun x2 M2 => (zbI (X_X12_votesOf g [.ref 72, .int x2] M2) (fun x3 M3 => (bif cGt (2 * x1) x3 then some (some (.int 1), M3) else some (some (.int 0), M3)))))))) := e_X12_doesWin_0 g a1 M
set_option maxRecDepth 20000 in
theorem e_X12_wins_0 (g : zg) (a1 : Int32) (M : zM) : zX (t_X12_wins g) 0 [some (.ref 72), some (.int a1), none, none] [] M = (zbI (X_X12_isIn g [.ref 72, .int a1, .int 0, .int 1] ((zu M.1 72 0 0), M.2)) (fun x1 M1 => (bif cEq0 x1 then some (some (.int (-1)), M1) else zX (t_X12_wins g) 21 [some (.ref 72), some (.int a1), some (.int (-1)), some (.int 0)] [] M1))) := by
  refine Eq.trans (zX_rgN (tl_X12_wins g) (hc_X12_wins g) 15 _ _ _ _) ?_
  refine Eq.trans (Eq.trans (r_0 (act := oS (fAld 1 0)) rfl) (a_ald rfl)) ?_
  refine Eq.trans (Eq.trans (r_go (act := oS (fSt 2 (gC (.int 0)))) rfl rfl) (a_C)) ?_
  refine Eq.trans (Eq.trans (r_go (act := oS (fPi g 5 12 0)) rfl rfl) (a_pi (zO_72 g))) ?_
  refine Eq.trans (Eq.trans (r_go (act := oS (fAld 6 0)) rfl rfl) (a_ald rfl)) ?_
  refine Eq.trans (Eq.trans (r_go (act := oS (fIld 7 1)) rfl rfl) (a_ild rfl)) ?_
  refine Eq.trans (Eq.trans (r_go (act := oS (fSt 8 (gC (.int 0)))) rfl rfl) (a_C)) ?_
  refine Eq.trans (Eq.trans (r_go (act := oS (fSt 9 (gC (.int 1)))) rfl rfl) (a_C)) ?_
  refine Eq.trans (Eq.trans (r_go (act := oCI 12 4 (zcv g 12) (X_X12_isIn g)) rfl rfl) (a_cI rfl (zck (zO_72 g) rfl))) (zbI_cg (fun x1 M1 => ?_))
  refine Eq.trans (Eq.trans (r_go (act := oS (fIf 15 17 cEq0)) rfl rfl) (a_if)) (bcg ?_ ?_)
  · refine Eq.trans (Eq.trans (r_go (act := oS (fSt 16 (gC (.int (-1))))) rfl rfl) (a_C)) ?_
    exact Eq.trans (r_go (act := oIret) rfl rfl) (a_iret)
  · refine Eq.trans (Eq.trans (r_go (act := oS (fSt 18 (gC (.int (-1))))) rfl rfl) (a_C)) ?_
    refine Eq.trans (Eq.trans (r_go (act := oS (fIst 19 2)) rfl rfl) (a_ist rfl rfl)) ?_
    refine Eq.trans (Eq.trans (r_go (act := oS (fSt 20 (gC (.int 0)))) rfl rfl) (a_C)) ?_
    refine Eq.trans (Eq.trans (r_go (act := oS (fIst 21 3)) rfl rfl) (a_ist rfl rfl)) ?_
    exact r_cut rfl rfl
theorem x_X12_wins_0 (g : zg) (a1 : Int32) (M : zM) : X_X12_wins g [.ref 72, .int a1] M = (zbI (X_X12_isIn g [.ref 72, .int a1, .int 0, .int 1] ((zu M.1 72 0 0), M.2)) (fun x1 M1 => (bif cEq0 x1 then some (some (.int (-1)), M1) else zX (t_X12_wins g) 21 [some (.ref 72), some (.int a1), some (.int (-1)), some (.int 0)] [] M1))) := e_X12_wins_0 g a1 M
set_option maxRecDepth 20000 in
theorem e_X12_wins_21 (g : zg) (a1 : Int32) (a2 : Int32) (a3 : Int32) (M : zM) : zX (t_X12_wins g) 21 [some (.ref 72), some (.int a1), some (.int a2), some (.int a3)] [] M = (bif cLt a3 ((1 : Int32) <<< ((M.1 72 6) &&& 31)) then (zbI (X_X12_here g [.ref 72] M) (fun x1 M1 => (bif cEq0 (a3 &&& (x1 ^^^ (-1))) then (bif cEq a2 (-1) then (zbI (X_X12_doesWin g [.ref 72, .int a3] M1) (fun x2 M2 => (bif cEq0 x2 then zX (t_X12_wins g) 21 [some (.ref 72), some (.int a1), some (.int a2), some (.int (a3 + 1))] [] M2 else zX (t_X12_wins g) 21 [some (.ref 72), some (.int a1), some (.int a3), some (.int (a3 + 1))] [] M2))) else (zbI (X_X12_onesOf g [.ref 72, .int a3] M1) (fun x3 M3 => (zbI (X_X12_onesOf g [.ref 72, .int a2] M3) (fun x4 M4 => (bif cLt x3 x4 then (zbI (X_X12_doesWin g [.ref 72, .int a3] M4) (fun x5 M5 => (bif cEq0 x5 then zX (t_X12_wins g) 21 [some (.ref 72), some (.int a1), some (.int a2), some (.int (a3 + 1))] [] M5 else zX (t_X12_wins g) 21 [some (.ref 72), some (.int a1), some (.int a3), some (.int (a3 + 1))] [] M5))) else zX (t_X12_wins g) 21 [some (.ref 72), some (.int a1), some (.int a2), some (.int (a3 + 1))] [] M4)))))) else zX (t_X12_wins g) 21 [some (.ref 72), some (.int a1), some (.int a2), some (.int (a3 + 1))] [] M1))) else (bif cEq a2 (-1) then some (some (.int a2), M) else (bif cEq a1 1 then some (some (.int a2), M) else (zbI (X_X12_onesOf g [.ref 72, .int a2] M) (fun x6 M6 => some (some (.int x6), M6)))))) := by
  refine Eq.trans (zX_rgN (tl_X12_wins g) (hc_X12_wins g) 33 _ _ _ _) ?_
  refine Eq.trans (Eq.trans (Eq.trans (r_0 (act := oF [] (oS (fIld 22 3))) rfl) (a_F rfl)) (a_ild rfl)) ?_
  refine Eq.trans (Eq.trans (r_go (act := oS (fSt 23 (gC (.int 1)))) rfl rfl) (a_C)) ?_
  refine Eq.trans (Eq.trans (r_go (act := oS (fAld 24 0)) rfl rfl) (a_ald rfl)) ?_
  refine Eq.trans (Eq.trans (r_go (act := oS (fGi g 27 12 6)) rfl rfl) (a_gi (zO_72 g))) ?_
  refine Eq.trans (Eq.trans (r_go (act := oS (fSt 28 (g2 (fun x y => x <<< (y &&& 31))))) rfl rfl) (a_shl)) ?_
  refine Eq.trans (Eq.trans (r_go (act := oS (fCm 31 76 cLt)) rfl rfl) (a_cm)) (bcg ?_ ?_)
  · refine Eq.trans (Eq.trans (r_go (act := oS (fIld 32 3)) rfl rfl) (a_ild rfl)) ?_
    refine Eq.trans (Eq.trans (r_go (act := oS (fAld 33 0)) rfl rfl) (a_ald rfl)) ?_
    refine Eq.trans (Eq.trans (r_go (act := oCI 36 1 (zcv g 12) (X_X12_here g)) rfl rfl) (a_cI rfl (zck (zO_72 g) rfl))) (zbI_cg (fun x1 M1 => ?_))
    refine Eq.trans (Eq.trans (r_go (act := oS (fSt 37 (gC (.int (-1))))) rfl rfl) (a_C)) ?_
    refine Eq.trans (Eq.trans (r_go (act := oS (fSt 38 (g2 (fun x y => x ^^^ y)))) rfl rfl) (a_xor)) ?_
    refine Eq.trans (Eq.trans (r_go (act := oS (fSt 39 (g2 (fun x y => x &&& y)))) rfl rfl) (a_and)) ?_
    refine Eq.trans (Eq.trans (r_go (act := oS (fIf 42 70 cEq0)) rfl rfl) (a_if)) (bcg ?_ ?_)
    · refine Eq.trans (Eq.trans (r_go (act := oS (fIld 43 2)) rfl rfl) (a_ild rfl)) ?_
      refine Eq.trans (Eq.trans (r_go (act := oS (fSt 44 (gC (.int (-1))))) rfl rfl) (a_C)) ?_
      refine Eq.trans (Eq.trans (r_go (act := oS (fCm 60 47 cEq)) rfl rfl) (a_cm)) (bcg ?_ ?_)
      · refine Eq.trans (Eq.trans (r_go (act := oS (fAld 61 0)) rfl rfl) (a_ald rfl)) ?_
        refine Eq.trans (Eq.trans (r_go (act := oS (fIld 62 3)) rfl rfl) (a_ild rfl)) ?_
        refine Eq.trans (Eq.trans (r_go (act := oCI 65 2 (zcv g 12) (X_X12_doesWin g)) rfl rfl) (a_cI rfl (zck (zO_72 g) rfl))) (zbI_cg (fun x2 M2 => ?_))
        refine Eq.trans (Eq.trans (r_go (act := oS (fIf 70 68 cEq0)) rfl rfl) (a_if)) (bcg ?_ ?_)
        · refine Eq.trans (Eq.trans (r_go (act := oS (fInc 73 3 1)) rfl rfl) (a_inc rfl rfl rfl)) ?_
          refine Eq.trans (Eq.trans (r_go (act := oS (fGo 21)) rfl rfl) (a_goto)) ?_
          exact r_cut rfl rfl
        · refine Eq.trans (Eq.trans (r_go (act := oS (fIld 69 3)) rfl rfl) (a_ild rfl)) ?_
          refine Eq.trans (Eq.trans (r_go (act := oS (fIst 70 2)) rfl rfl) (a_ist rfl rfl)) ?_
          refine Eq.trans (Eq.trans (r_go (act := oS (fInc 73 3 1)) rfl rfl) (a_inc rfl rfl rfl)) ?_
          refine Eq.trans (Eq.trans (r_go (act := oS (fGo 21)) rfl rfl) (a_goto)) ?_
          exact r_cut rfl rfl
      · refine Eq.trans (Eq.trans (r_go (act := oS (fAld 48 0)) rfl rfl) (a_ald rfl)) ?_
        refine Eq.trans (Eq.trans (r_go (act := oS (fIld 49 3)) rfl rfl) (a_ild rfl)) ?_
        refine Eq.trans (Eq.trans (r_go (act := oCI 52 2 (zcv g 12) (X_X12_onesOf g)) rfl rfl) (a_cI rfl (zck (zO_72 g) rfl))) (zbI_cg (fun x3 M3 => ?_))
        refine Eq.trans (Eq.trans (r_go (act := oS (fAld 53 0)) rfl rfl) (a_ald rfl)) ?_
        refine Eq.trans (Eq.trans (r_go (act := oS (fIld 54 2)) rfl rfl) (a_ild rfl)) ?_
        refine Eq.trans (Eq.trans (r_go (act := oCI 57 2 (zcv g 12) (X_X12_onesOf g)) rfl rfl) (a_cI rfl (zck (zO_72 g) rfl))) (zbI_cg (fun x4 M4 => ?_))
        refine Eq.trans (Eq.trans (r_go (act := oS (fCm 60 70 cLt)) rfl rfl) (a_cm)) (bcg ?_ ?_)
        · refine Eq.trans (Eq.trans (r_go (act := oS (fAld 61 0)) rfl rfl) (a_ald rfl)) ?_
          refine Eq.trans (Eq.trans (r_go (act := oS (fIld 62 3)) rfl rfl) (a_ild rfl)) ?_
          refine Eq.trans (Eq.trans (r_go (act := oCI 65 2 (zcv g 12) (X_X12_doesWin g)) rfl rfl) (a_cI rfl (zck (zO_72 g) rfl))) (zbI_cg (fun x5 M5 => ?_))
          refine Eq.trans (Eq.trans (r_go (act := oS (fIf 70 68 cEq0)) rfl rfl) (a_if)) (bcg ?_ ?_)
          · refine Eq.trans (Eq.trans (r_go (act := oS (fInc 73 3 1)) rfl rfl) (a_inc rfl rfl rfl)) ?_
            refine Eq.trans (Eq.trans (r_go (act := oS (fGo 21)) rfl rfl) (a_goto)) ?_
            exact r_cut rfl rfl
          · refine Eq.trans (Eq.trans (r_go (act := oS (fIld 69 3)) rfl rfl) (a_ild rfl)) ?_
            refine Eq.trans (Eq.trans (r_go (act := oS (fIst 70 2)) rfl rfl) (a_ist rfl rfl)) ?_
            refine Eq.trans (Eq.trans (r_go (act := oS (fInc 73 3 1)) rfl rfl) (a_inc rfl rfl rfl)) ?_
            refine Eq.trans (Eq.trans (r_go (act := oS (fGo 21)) rfl rfl) (a_goto)) ?_
            exact r_cut rfl rfl
        · refine Eq.trans (Eq.trans (r_go (act := oS (fInc 73 3 1)) rfl rfl) (a_inc rfl rfl rfl)) ?_
          refine Eq.trans (Eq.trans (r_go (act := oS (fGo 21)) rfl rfl) (a_goto)) ?_
          exact r_cut rfl rfl
    · refine Eq.trans (Eq.trans (r_go (act := oS (fInc 73 3 1)) rfl rfl) (a_inc rfl rfl rfl)) ?_
      refine Eq.trans (Eq.trans (r_go (act := oS (fGo 21)) rfl rfl) (a_goto)) ?_
      exact r_cut rfl rfl
  · refine Eq.trans (Eq.trans (r_go (act := oS (fIld 77 2)) rfl rfl) (a_ild rfl)) ?_
    refine Eq.trans (Eq.trans (r_go (act := oS (fSt 78 (gC (.int (-1))))) rfl rfl) (a_C)) ?_
    refine Eq.trans (Eq.trans (r_go (act := oS (fCm 86 81 cEq)) rfl rfl) (a_cm)) (bcg ?_ ?_)
    · refine Eq.trans (Eq.trans (r_go (act := oS (fIld 87 2)) rfl rfl) (a_ild rfl)) ?_
      refine Eq.trans (Eq.trans (r_go (act := oS (fGo 95)) rfl rfl) (a_goto)) ?_
      exact Eq.trans (r_go (act := oIret) rfl rfl) (a_iret)
    · refine Eq.trans (Eq.trans (r_go (act := oS (fIld 82 1)) rfl rfl) (a_ild rfl)) ?_
      refine Eq.trans (Eq.trans (r_go (act := oS (fSt 83 (gC (.int 1)))) rfl rfl) (a_C)) ?_
      refine Eq.trans (Eq.trans (r_go (act := oS (fCm 86 90 cEq)) rfl rfl) (a_cm)) (bcg ?_ ?_)
      · refine Eq.trans (Eq.trans (r_go (act := oS (fIld 87 2)) rfl rfl) (a_ild rfl)) ?_
        refine Eq.trans (Eq.trans (r_go (act := oS (fGo 95)) rfl rfl) (a_goto)) ?_
        exact Eq.trans (r_go (act := oIret) rfl rfl) (a_iret)
      · refine Eq.trans (Eq.trans (r_go (act := oS (fAld 91 0)) rfl rfl) (a_ald rfl)) ?_
        refine Eq.trans (Eq.trans (r_go (act := oS (fIld 92 2)) rfl rfl) (a_ild rfl)) ?_
        refine Eq.trans (Eq.trans (r_go (act := oCI 95 2 (zcv g 12) (X_X12_onesOf g)) rfl rfl) (a_cI rfl (zck (zO_72 g) rfl))) (zbI_cg (fun x6 M6 => ?_))
        exact Eq.trans (r_go (act := oIret) rfl rfl) (a_iret)
set_option maxRecDepth 20000 in
theorem e_X12_weighs_0 (g : zg) (a1 : Int32) (M : zM) : zX (t_X12_weighs g) 0 [some (.ref 72), some (.int a1), none, none, none] [] M = (zbI (X_X12_isTeller g [.ref 72, .int a1] ((zu M.1 72 0 0), M.2)) (fun x1 M1 => (bif cEq0 x1 then some (some (.int (-1)), M1) else (zbI (X_X12_isHere g [.ref 72, .int a1] M1) (fun x2 M2 => (bif cEq0 x2 then some (some (.int 0), M2) else (zbI (X_X12_here g [.ref 72] M2) (fun x3 M3 => zX (t_X12_weighs g) 41 [some (.ref 72), some (.int a1), some (.int 0), some (.int (x3 &&& (((1 : Int32) <<< (a1 &&& 31)) ^^^ (-1)))), some (.int 0)] [] M3)))))))) := by
  refine Eq.trans (zX_rgN (tl_X12_weighs g) (hc_X12_weighs g) 26 _ _ _ _) ?_
  refine Eq.trans (Eq.trans (r_0 (act := oS (fAld 1 0)) rfl) (a_ald rfl)) ?_
  refine Eq.trans (Eq.trans (r_go (act := oS (fSt 2 (gC (.int 0)))) rfl rfl) (a_C)) ?_
  refine Eq.trans (Eq.trans (r_go (act := oS (fPi g 5 12 0)) rfl rfl) (a_pi (zO_72 g))) ?_
  refine Eq.trans (Eq.trans (r_go (act := oS (fAld 6 0)) rfl rfl) (a_ald rfl)) ?_
  refine Eq.trans (Eq.trans (r_go (act := oS (fIld 7 1)) rfl rfl) (a_ild rfl)) ?_
  refine Eq.trans (Eq.trans (r_go (act := oCI 10 2 (zcv g 12) (X_X12_isTeller g)) rfl rfl) (a_cI rfl (zck (zO_72 g) rfl))) (zbI_cg (fun x1 M1 => ?_))
  refine Eq.trans (Eq.trans (r_go (act := oS (fIf 13 15 cEq0)) rfl rfl) (a_if)) (bcg ?_ ?_)
  · refine Eq.trans (Eq.trans (r_go (act := oS (fSt 14 (gC (.int (-1))))) rfl rfl) (a_C)) ?_
    exact Eq.trans (r_go (act := oIret) rfl rfl) (a_iret)
  · refine Eq.trans (Eq.trans (r_go (act := oS (fAld 16 0)) rfl rfl) (a_ald rfl)) ?_
    refine Eq.trans (Eq.trans (r_go (act := oS (fIld 17 1)) rfl rfl) (a_ild rfl)) ?_
    refine Eq.trans (Eq.trans (r_go (act := oCI 20 2 (zcv g 12) (X_X12_isHere g)) rfl rfl) (a_cI rfl (zck (zO_72 g) rfl))) (zbI_cg (fun x2 M2 => ?_))
    refine Eq.trans (Eq.trans (r_go (act := oS (fIf 23 25 cEq0)) rfl rfl) (a_if)) (bcg ?_ ?_)
    · refine Eq.trans (Eq.trans (r_go (act := oS (fSt 24 (gC (.int 0)))) rfl rfl) (a_C)) ?_
      exact Eq.trans (r_go (act := oIret) rfl rfl) (a_iret)
    · refine Eq.trans (Eq.trans (r_go (act := oS (fSt 26 (gC (.int 0)))) rfl rfl) (a_C)) ?_
      refine Eq.trans (Eq.trans (r_go (act := oS (fIst 27 2)) rfl rfl) (a_ist rfl rfl)) ?_
      refine Eq.trans (Eq.trans (r_go (act := oS (fAld 28 0)) rfl rfl) (a_ald rfl)) ?_
      refine Eq.trans (Eq.trans (r_go (act := oCI 31 1 (zcv g 12) (X_X12_here g)) rfl rfl) (a_cI rfl (zck (zO_72 g) rfl))) (zbI_cg (fun x3 M3 => ?_))
      refine Eq.trans (Eq.trans (r_go (act := oS (fSt 32 (gC (.int 1)))) rfl rfl) (a_C)) ?_
      refine Eq.trans (Eq.trans (r_go (act := oS (fIld 33 1)) rfl rfl) (a_ild rfl)) ?_
      refine Eq.trans (Eq.trans (r_go (act := oS (fSt 34 (g2 (fun x y => x <<< (y &&& 31))))) rfl rfl) (a_shl)) ?_
      refine Eq.trans (Eq.trans (r_go (act := oS (fSt 35 (gC (.int (-1))))) rfl rfl) (a_C)) ?_
      refine Eq.trans (Eq.trans (r_go (act := oS (fSt 36 (g2 (fun x y => x ^^^ y)))) rfl rfl) (a_xor)) ?_
      refine Eq.trans (Eq.trans (r_go (act := oS (fSt 37 (g2 (fun x y => x &&& y)))) rfl rfl) (a_and)) ?_
      refine Eq.trans (Eq.trans (r_go (act := oS (fIst 38 3)) rfl rfl) (a_ist rfl rfl)) ?_
      refine Eq.trans (Eq.trans (r_go (act := oS (fSt 39 (gC (.int 0)))) rfl rfl) (a_C)) ?_
      refine Eq.trans (Eq.trans (r_go (act := oS (fIst 41 4)) rfl rfl) (a_ist rfl rfl)) ?_
      exact r_cut rfl rfl
theorem x_X12_weighs_0 (g : zg) (a1 : Int32) (M : zM) : X_X12_weighs g [.ref 72, .int a1] M = (zbI (X_X12_isTeller g [.ref 72, .int a1] ((zu M.1 72 0 0), M.2)) (fun x1 M1 => (bif cEq0 x1 then some (some (.int (-1)), M1) else (zbI (X_X12_isHere g [.ref 72, .int a1] M1) (fun x2 M2 => (bif cEq0 x2 then some (some (.int 0), M2) else (zbI (X_X12_here g [.ref 72] M2) (fun x3 M3 => zX (t_X12_weighs g) 41 [some (.ref 72), some (.int a1), some (.int 0), some (.int (x3 &&& (((1 : Int32) <<< (a1 &&& 31)) ^^^ (-1)))), some (.int 0)] [] M3)))))))) := e_X12_weighs_0 g a1 M
set_option maxRecDepth 20000 in
theorem e_X12_weighs_41 (g : zg) (a1 : Int32) (a2 : Int32) (a3 : Int32) (a4 : Int32) (M : zM) : zX (t_X12_weighs g) 41 [some (.ref 72), some (.int a1), some (.int a2), some (.int a3), some (.int a4)] [] M = (bif cGt a4 a3 then some (some (.int a2), M) else (bif cEq0 (a4 &&& (a3 ^^^ (-1))) then (zbI (X_X12_doesWin g [.ref 72, .int a4] M) (fun x1 M1 => (bif cEq0 x1 then (zbI (X_X12_doesWin g [.ref 72, .int (a4 ||| ((1 : Int32) <<< (a1 &&& 31)))] M1) (fun x2 M2 => (bif cEq0 x2 then zX (t_X12_weighs g) 41 [some (.ref 72), some (.int a1), some (.int a2), some (.int a3), some (.int (a4 + 1))] [] M2 else zX (t_X12_weighs g) 41 [some (.ref 72), some (.int a1), some (.int (a2 + 1)), some (.int a3), some (.int (a4 + 1))] [] M2))) else zX (t_X12_weighs g) 41 [some (.ref 72), some (.int a1), some (.int a2), some (.int a3), some (.int (a4 + 1))] [] M1))) else zX (t_X12_weighs g) 41 [some (.ref 72), some (.int a1), some (.int a2), some (.int a3), some (.int (a4 + 1))] [] M)) := by
  refine Eq.trans (zX_rgN (tl_X12_weighs g) (hc_X12_weighs g) 29 _ _ _ _) ?_
  refine Eq.trans (Eq.trans (Eq.trans (r_0 (act := oF [] (oS (fIld 43 4))) rfl) (a_F rfl)) (a_ild rfl)) ?_
  refine Eq.trans (Eq.trans (r_go (act := oS (fIld 44 3)) rfl rfl) (a_ild rfl)) ?_
  refine Eq.trans (Eq.trans (r_go (act := oS (fCm 88 47 cGt)) rfl rfl) (a_cm)) (bcg ?_ ?_)
  · refine Eq.trans (Eq.trans (r_go (act := oS (fIld 89 2)) rfl rfl) (a_ild rfl)) ?_
    exact Eq.trans (r_go (act := oIret) rfl rfl) (a_iret)
  · refine Eq.trans (Eq.trans (r_go (act := oS (fIld 49 4)) rfl rfl) (a_ild rfl)) ?_
    refine Eq.trans (Eq.trans (r_go (act := oS (fIld 50 3)) rfl rfl) (a_ild rfl)) ?_
    refine Eq.trans (Eq.trans (r_go (act := oS (fSt 51 (gC (.int (-1))))) rfl rfl) (a_C)) ?_
    refine Eq.trans (Eq.trans (r_go (act := oS (fSt 52 (g2 (fun x y => x ^^^ y)))) rfl rfl) (a_xor)) ?_
    refine Eq.trans (Eq.trans (r_go (act := oS (fSt 53 (g2 (fun x y => x &&& y)))) rfl rfl) (a_and)) ?_
    refine Eq.trans (Eq.trans (r_go (act := oS (fIf 56 82 cEq0)) rfl rfl) (a_if)) (bcg ?_ ?_)
    · refine Eq.trans (Eq.trans (r_go (act := oS (fAld 57 0)) rfl rfl) (a_ald rfl)) ?_
      refine Eq.trans (Eq.trans (r_go (act := oS (fIld 59 4)) rfl rfl) (a_ild rfl)) ?_
      refine Eq.trans (Eq.trans (r_go (act := oCI 62 2 (zcv g 12) (X_X12_doesWin g)) rfl rfl) (a_cI rfl (zck (zO_72 g) rfl))) (zbI_cg (fun x1 M1 => ?_))
      refine Eq.trans (Eq.trans (r_go (act := oS (fIf 65 82 cEq0)) rfl rfl) (a_if)) (bcg ?_ ?_)
      · refine Eq.trans (Eq.trans (r_go (act := oS (fAld 66 0)) rfl rfl) (a_ald rfl)) ?_
        refine Eq.trans (Eq.trans (r_go (act := oS (fIld 68 4)) rfl rfl) (a_ild rfl)) ?_
        refine Eq.trans (Eq.trans (r_go (act := oS (fSt 69 (gC (.int 1)))) rfl rfl) (a_C)) ?_
        refine Eq.trans (Eq.trans (r_go (act := oS (fIld 70 1)) rfl rfl) (a_ild rfl)) ?_
        refine Eq.trans (Eq.trans (r_go (act := oS (fSt 71 (g2 (fun x y => x <<< (y &&& 31))))) rfl rfl) (a_shl)) ?_
        refine Eq.trans (Eq.trans (r_go (act := oS (fSt 72 (g2 (fun x y => x ||| y)))) rfl rfl) (a_or)) ?_
        refine Eq.trans (Eq.trans (r_go (act := oCI 75 2 (zcv g 12) (X_X12_doesWin g)) rfl rfl) (a_cI rfl (zck (zO_72 g) rfl))) (zbI_cg (fun x2 M2 => ?_))
        refine Eq.trans (Eq.trans (r_go (act := oS (fIf 82 78 cEq0)) rfl rfl) (a_if)) (bcg ?_ ?_)
        · refine Eq.trans (Eq.trans (r_go (act := oS (fInc 85 4 1)) rfl rfl) (a_inc rfl rfl rfl)) ?_
          refine Eq.trans (Eq.trans (r_go (act := oS (fGo 41)) rfl rfl) (a_goto)) ?_
          exact r_cut rfl rfl
        · refine Eq.trans (Eq.trans (r_go (act := oS (fIld 79 2)) rfl rfl) (a_ild rfl)) ?_
          refine Eq.trans (Eq.trans (r_go (act := oS (fSt 80 (gC (.int 1)))) rfl rfl) (a_C)) ?_
          refine Eq.trans (Eq.trans (r_go (act := oS (fSt 81 (g2 (fun x y => x + y)))) rfl rfl) (a_add)) ?_
          refine Eq.trans (Eq.trans (r_go (act := oS (fIst 82 2)) rfl rfl) (a_ist rfl rfl)) ?_
          refine Eq.trans (Eq.trans (r_go (act := oS (fInc 85 4 1)) rfl rfl) (a_inc rfl rfl rfl)) ?_
          refine Eq.trans (Eq.trans (r_go (act := oS (fGo 41)) rfl rfl) (a_goto)) ?_
          exact r_cut rfl rfl
      · refine Eq.trans (Eq.trans (r_go (act := oS (fInc 85 4 1)) rfl rfl) (a_inc rfl rfl rfl)) ?_
        refine Eq.trans (Eq.trans (r_go (act := oS (fGo 41)) rfl rfl) (a_goto)) ?_
        exact r_cut rfl rfl
    · refine Eq.trans (Eq.trans (r_go (act := oS (fInc 85 4 1)) rfl rfl) (a_inc rfl rfl rfl)) ?_
      refine Eq.trans (Eq.trans (r_go (act := oS (fGo 41)) rfl rfl) (a_goto)) ?_
      exact r_cut rfl rfl
set_option maxRecDepth 20000 in
theorem e_X12_post_0 (g : zg) (a1 : Int32) (a2 : Int32) (M : zM) : zX (t_X12_post g) 0 [some (.ref 72), some (.int a1), some (.int a2)] [] M = (bif cEq a1 (-1) then some (some (.int 0), ((zu (zu M.1 72 0 0) 72 47 0), M.2)) else (zbI (X_X12_isIn g [.ref 72, .int a1, .int 0, .int 5] ((zu M.1 72 0 0), M.2)) (fun x1 M1 => (bif cEq0 x1 then some (some (.int (-1)), M1) else (zbI (X_X12_isIn g [.ref 72, .int a2, .int 1, .int 99] M1) (fun x2 M2 => (bif cEq0 x2 then some (some (.int (-1)), M2) else (bif cEq (M2.1 72 47) 6 then some (some (.int (-1)), M2) else (bif zb (M2.1 72 47) 6 then (bif zb (M2.1 72 47) 6 then some (some (.int ((M2.1 72 47) + 1)), ((zu (zu (zu M2.1 95 (zx (M2.1 72 47)) a1) 96 (zx (M2.1 72 47)) a2) 72 47 ((M2.1 72 47) + 1)), M2.2)) else none) else none))))))))) := by
  refine Eq.trans (zX_rgN (tl_X12_post g) (hc_X12_post g) 44 _ _ _ _) ?_
  refine Eq.trans (Eq.trans (r_0 (act := oS (fAld 1 0)) rfl) (a_ald rfl)) ?_
  refine Eq.trans (Eq.trans (r_go (act := oS (fSt 2 (gC (.int 0)))) rfl rfl) (a_C)) ?_
  refine Eq.trans (Eq.trans (r_go (act := oS (fPi g 5 12 0)) rfl rfl) (a_pi (zO_72 g))) ?_
  refine Eq.trans (Eq.trans (r_go (act := oS (fIld 6 1)) rfl rfl) (a_ild rfl)) ?_
  refine Eq.trans (Eq.trans (r_go (act := oS (fSt 7 (gC (.int (-1))))) rfl rfl) (a_C)) ?_
  refine Eq.trans (Eq.trans (r_go (act := oS (fCm 10 17 cEq)) rfl rfl) (a_cm)) (bcg ?_ ?_)
  · refine Eq.trans (Eq.trans (r_go (act := oS (fAld 11 0)) rfl rfl) (a_ald rfl)) ?_
    refine Eq.trans (Eq.trans (r_go (act := oS (fSt 12 (gC (.int 0)))) rfl rfl) (a_C)) ?_
    refine Eq.trans (Eq.trans (r_go (act := oS (fPi g 15 12 47)) rfl rfl) (a_pi (zO_72 g))) ?_
    refine Eq.trans (Eq.trans (r_go (act := oS (fSt 16 (gC (.int 0)))) rfl rfl) (a_C)) ?_
    exact Eq.trans (r_go (act := oIret) rfl rfl) (a_iret)
  · refine Eq.trans (Eq.trans (r_go (act := oS (fAld 18 0)) rfl rfl) (a_ald rfl)) ?_
    refine Eq.trans (Eq.trans (r_go (act := oS (fIld 19 1)) rfl rfl) (a_ild rfl)) ?_
    refine Eq.trans (Eq.trans (r_go (act := oS (fSt 20 (gC (.int 0)))) rfl rfl) (a_C)) ?_
    refine Eq.trans (Eq.trans (r_go (act := oS (fSt 21 (gC (.int 5)))) rfl rfl) (a_C)) ?_
    refine Eq.trans (Eq.trans (r_go (act := oCI 24 4 (zcv g 12) (X_X12_isIn g)) rfl rfl) (a_cI rfl (zck (zO_72 g) rfl))) (zbI_cg (fun x1 M1 => ?_))
    refine Eq.trans (Eq.trans (r_go (act := oS (fIf 47 27 cEq0)) rfl rfl) (a_if)) (bcg ?_ ?_)
    · refine Eq.trans (Eq.trans (r_go (act := oS (fSt 48 (gC (.int (-1))))) rfl rfl) (a_C)) ?_
      exact Eq.trans (r_go (act := oIret) rfl rfl) (a_iret)
    · refine Eq.trans (Eq.trans (r_go (act := oS (fAld 28 0)) rfl rfl) (a_ald rfl)) ?_
      refine Eq.trans (Eq.trans (r_go (act := oS (fIld 29 2)) rfl rfl) (a_ild rfl)) ?_
      refine Eq.trans (Eq.trans (r_go (act := oS (fSt 30 (gC (.int 1)))) rfl rfl) (a_C)) ?_
      refine Eq.trans (Eq.trans (r_go (act := oS (fSt 32 (gC (.int 99)))) rfl rfl) (a_C)) ?_
      refine Eq.trans (Eq.trans (r_go (act := oCI 35 4 (zcv g 12) (X_X12_isIn g)) rfl rfl) (a_cI rfl (zck (zO_72 g) rfl))) (zbI_cg (fun x2 M2 => ?_))
      refine Eq.trans (Eq.trans (r_go (act := oS (fIf 47 38 cEq0)) rfl rfl) (a_if)) (bcg ?_ ?_)
      · refine Eq.trans (Eq.trans (r_go (act := oS (fSt 48 (gC (.int (-1))))) rfl rfl) (a_C)) ?_
        exact Eq.trans (r_go (act := oIret) rfl rfl) (a_iret)
      · refine Eq.trans (Eq.trans (r_go (act := oS (fAld 39 0)) rfl rfl) (a_ald rfl)) ?_
        refine Eq.trans (Eq.trans (r_go (act := oS (fGi g 42 12 47)) rfl rfl) (a_gi (zO_72 g))) ?_
        refine Eq.trans (Eq.trans (r_go (act := oS (fSt 44 (gC (.int 6)))) rfl rfl) (a_C)) ?_
        refine Eq.trans (Eq.trans (r_go (act := oS (fCm 47 49 cEq)) rfl rfl) (a_cm)) (bcg ?_ ?_)
        · refine Eq.trans (Eq.trans (r_go (act := oS (fSt 48 (gC (.int (-1))))) rfl rfl) (a_C)) ?_
          exact Eq.trans (r_go (act := oIret) rfl rfl) (a_iret)
        · refine Eq.trans (Eq.trans (r_go (act := oS (fAld 50 0)) rfl rfl) (a_ald rfl)) ?_
          refine Eq.trans (Eq.trans (r_go (act := oS (fGr g 53 12 48)) rfl rfl) (a_gr (zO_72 g) (zR_72_48 g))) ?_
          refine Eq.trans (Eq.trans (r_go (act := oS (fAld 54 0)) rfl rfl) (a_ald rfl)) ?_
          refine Eq.trans (Eq.trans (r_go (act := oS (fGi g 57 12 47)) rfl rfl) (a_gi (zO_72 g))) ?_
          refine Eq.trans (Eq.trans (r_go (act := oS (fIld 58 1)) rfl rfl) (a_ild rfl)) ?_
          refine Eq.trans (Eq.trans (r_go (act := oS (fIs g 59)) rfl rfl) (a_is (zA_95 g) zS_95)) (bcg ?_ rfl)
          refine Eq.trans (Eq.trans (r_go (act := oS (fAld 60 0)) rfl rfl) (a_ald rfl)) ?_
          refine Eq.trans (Eq.trans (r_go (act := oS (fGr g 63 12 49)) rfl rfl) (a_gr (zO_72 g) (zR_72_49 g))) ?_
          refine Eq.trans (Eq.trans (r_go (act := oS (fAld 64 0)) rfl rfl) (a_ald rfl)) ?_
          refine Eq.trans (Eq.trans (r_go (act := oS (fGi g 67 12 47)) rfl rfl) (a_giV (zO_72 g) rfl)) ?_
          refine Eq.trans (Eq.trans (r_go (act := oS (fIld 68 2)) rfl rfl) (a_ild rfl)) ?_
          refine Eq.trans (Eq.trans (r_go (act := oS (fIs g 69)) rfl rfl) (a_is (zA_96 g) zS_96)) (bcg ?_ rfl)
          refine Eq.trans (Eq.trans (r_go (act := oS (fAld 70 0)) rfl rfl) (a_ald rfl)) ?_
          refine Eq.trans (Eq.trans (r_go (act := oS (fAld 71 0)) rfl rfl) (a_ald rfl)) ?_
          refine Eq.trans (Eq.trans (r_go (act := oS (fGi g 74 12 47)) rfl rfl) (a_giV (zO_72 g) rfl)) ?_
          refine Eq.trans (Eq.trans (r_go (act := oS (fSt 75 (gC (.int 1)))) rfl rfl) (a_C)) ?_
          refine Eq.trans (Eq.trans (r_go (act := oS (fSt 76 (g2 (fun x y => x + y)))) rfl rfl) (a_add)) ?_
          refine Eq.trans (Eq.trans (r_go (act := oS (fPi g 79 12 47)) rfl rfl) (a_pi (zO_72 g))) ?_
          refine Eq.trans (Eq.trans (r_go (act := oS (fAld 80 0)) rfl rfl) (a_ald rfl)) ?_
          refine Eq.trans (Eq.trans (r_go (act := oS (fGi g 83 12 47)) rfl rfl) (a_giV (zO_72 g) rfl)) ?_
          exact Eq.trans (r_go (act := oIret) rfl rfl) (a_iret)
theorem x_X12_post_0 (g : zg) (a1 : Int32) (a2 : Int32) (M : zM) : X_X12_post g [.ref 72, .int a1, .int a2] M = (bif cEq a1 (-1) then some (some (.int 0), ((zu (zu M.1 72 0 0) 72 47 0), M.2)) else (zbI (X_X12_isIn g [.ref 72, .int a1, .int 0, .int 5] ((zu M.1 72 0 0), M.2)) (fun x1 M1 => (bif cEq0 x1 then some (some (.int (-1)), M1) else (zbI (X_X12_isIn g [.ref 72, .int a2, .int 1, .int 99] M1) (fun x2 M2 => (bif cEq0 x2 then some (some (.int (-1)), M2) else (bif cEq (M2.1 72 47) 6 then some (some (.int (-1)), M2) else (bif zb (M2.1 72 47) 6 then (bif zb (M2.1 72 47) 6 then some (some (.int ((M2.1 72 47) + 1)), ((zu (zu (zu M2.1 95 (zx (M2.1 72 47)) a1) 96 (zx (M2.1 72 47)) a2) 72 47 ((M2.1 72 47) + 1)), M2.2)) else none) else none))))))))) := e_X12_post_0 g a1 a2 M
set_option maxRecDepth 20000 in
theorem e_X12_servedBy_0 (g : zg) (a1 : Int32) (a2 : Int32) (a3 : Int32) (M : zM) : zX (t_X12_servedBy g) 0 [some (.ref 72), some (.int a1), some (.int a2), some (.int a3)] [] M = (bif zb a1 6 then (bif zb a2 10 then (bif zb a1 6 then (bif cEq (M.1 76 (zx a2)) (M.1 95 (zx a1)) then (bif zb ((1024 * (a1 + 1)) + (a3 ||| ((1 : Int32) <<< (a2 &&& 31)))) 7168 then some (some (.int (((M.1 96 (zx a1)) * 2) + (M.1 97 (zx ((1024 * (a1 + 1)) + (a3 ||| ((1 : Int32) <<< (a2 &&& 31)))))))), M) else none) else (bif zb ((1024 * (a1 + 1)) + (a3 ||| ((1 : Int32) <<< (a2 &&& 31)))) 7168 then some (some (.int (((M.1 96 (zx a1)) * 1) + (M.1 97 (zx ((1024 * (a1 + 1)) + (a3 ||| ((1 : Int32) <<< (a2 &&& 31)))))))), M) else none)) else none) else none) else none) := by
  refine Eq.trans (zX_rgN (tl_X12_servedBy g) (hc_X12_servedBy g) 33 _ _ _ _) ?_
  refine Eq.trans (Eq.trans (r_0 (act := oS (fAld 1 0)) rfl) (a_ald rfl)) ?_
  refine Eq.trans (Eq.trans (r_go (act := oS (fGr g 4 12 49)) rfl rfl) (a_gr (zO_72 g) (zR_72_49 g))) ?_
  refine Eq.trans (Eq.trans (r_go (act := oS (fIld 5 1)) rfl rfl) (a_ild rfl)) ?_
  refine Eq.trans (Eq.trans (r_go (act := oS (fIa g 6)) rfl rfl) (a_ia (zA_96 g) zS_96)) (bcg ?_ rfl)
  refine Eq.trans (Eq.trans (r_go (act := oS (fAld 7 0)) rfl rfl) (a_ald rfl)) ?_
  refine Eq.trans (Eq.trans (r_go (act := oS (fGr g 10 12 9)) rfl rfl) (a_gr (zO_72 g) (zR_72_9 g))) ?_
  refine Eq.trans (Eq.trans (r_go (act := oS (fIld 11 2)) rfl rfl) (a_ild rfl)) ?_
  refine Eq.trans (Eq.trans (r_go (act := oS (fIa g 12)) rfl rfl) (a_ia (zA_76 g) zS_76)) (bcg ?_ rfl)
  refine Eq.trans (Eq.trans (r_go (act := oS (fAld 13 0)) rfl rfl) (a_ald rfl)) ?_
  refine Eq.trans (Eq.trans (r_go (act := oS (fGr g 16 12 48)) rfl rfl) (a_gr (zO_72 g) (zR_72_48 g))) ?_
  refine Eq.trans (Eq.trans (r_go (act := oS (fIld 17 1)) rfl rfl) (a_ild rfl)) ?_
  refine Eq.trans (Eq.trans (r_go (act := oS (fIa g 18)) rfl rfl) (a_ia (zA_95 g) zS_95)) (bcg ?_ rfl)
  refine Eq.trans (Eq.trans (r_go (act := oS (fCm 21 25 cEq)) rfl rfl) (a_cm)) (bcg ?_ ?_)
  · refine Eq.trans (Eq.trans (r_go (act := oS (fSt 22 (gC (.int 2)))) rfl rfl) (a_C)) ?_
    refine Eq.trans (Eq.trans (r_go (act := oS (fGo 26)) rfl rfl) (a_goto)) ?_
    refine Eq.trans (Eq.trans (r_go (act := oS (fSt 27 (g2 (fun x y => x * y)))) rfl rfl) (a_mul)) ?_
    refine Eq.trans (Eq.trans (r_go (act := oS (fAld 28 0)) rfl rfl) (a_ald rfl)) ?_
    refine Eq.trans (Eq.trans (r_go (act := oS (fGr g 31 12 50)) rfl rfl) (a_gr (zO_72 g) (zR_72_50 g))) ?_
    refine Eq.trans (Eq.trans (r_go (act := oS (fSt 34 (gC (.int 1024)))) rfl rfl) (a_C)) ?_
    refine Eq.trans (Eq.trans (r_go (act := oS (fIld 35 1)) rfl rfl) (a_ild rfl)) ?_
    refine Eq.trans (Eq.trans (r_go (act := oS (fSt 36 (gC (.int 1)))) rfl rfl) (a_C)) ?_
    refine Eq.trans (Eq.trans (r_go (act := oS (fSt 37 (g2 (fun x y => x + y)))) rfl rfl) (a_add)) ?_
    refine Eq.trans (Eq.trans (r_go (act := oS (fSt 38 (g2 (fun x y => x * y)))) rfl rfl) (a_mul)) ?_
    refine Eq.trans (Eq.trans (r_go (act := oS (fIld 39 3)) rfl rfl) (a_ild rfl)) ?_
    refine Eq.trans (Eq.trans (r_go (act := oS (fSt 40 (gC (.int 1)))) rfl rfl) (a_C)) ?_
    refine Eq.trans (Eq.trans (r_go (act := oS (fIld 41 2)) rfl rfl) (a_ild rfl)) ?_
    refine Eq.trans (Eq.trans (r_go (act := oS (fSt 42 (g2 (fun x y => x <<< (y &&& 31))))) rfl rfl) (a_shl)) ?_
    refine Eq.trans (Eq.trans (r_go (act := oS (fSt 43 (g2 (fun x y => x ||| y)))) rfl rfl) (a_or)) ?_
    refine Eq.trans (Eq.trans (r_go (act := oS (fSt 44 (g2 (fun x y => x + y)))) rfl rfl) (a_add)) ?_
    refine Eq.trans (Eq.trans (r_go (act := oS (fIa g 45)) rfl rfl) (a_ia (zA_97 g) zS_97)) (bcg ?_ rfl)
    refine Eq.trans (Eq.trans (r_go (act := oS (fSt 46 (g2 (fun x y => x + y)))) rfl rfl) (a_add)) ?_
    exact Eq.trans (r_go (act := oIret) rfl rfl) (a_iret)
  · refine Eq.trans (Eq.trans (r_go (act := oS (fSt 26 (gC (.int 1)))) rfl rfl) (a_C)) ?_
    refine Eq.trans (Eq.trans (r_go (act := oS (fSt 27 (g2 (fun x y => x * y)))) rfl rfl) (a_mul)) ?_
    refine Eq.trans (Eq.trans (r_go (act := oS (fAld 28 0)) rfl rfl) (a_ald rfl)) ?_
    refine Eq.trans (Eq.trans (r_go (act := oS (fGr g 31 12 50)) rfl rfl) (a_gr (zO_72 g) (zR_72_50 g))) ?_
    refine Eq.trans (Eq.trans (r_go (act := oS (fSt 34 (gC (.int 1024)))) rfl rfl) (a_C)) ?_
    refine Eq.trans (Eq.trans (r_go (act := oS (fIld 35 1)) rfl rfl) (a_ild rfl)) ?_
    refine Eq.trans (Eq.trans (r_go (act := oS (fSt 36 (gC (.int 1)))) rfl rfl) (a_C)) ?_
    refine Eq.trans (Eq.trans (r_go (act := oS (fSt 37 (g2 (fun x y => x + y)))) rfl rfl) (a_add)) ?_
    refine Eq.trans (Eq.trans (r_go (act := oS (fSt 38 (g2 (fun x y => x * y)))) rfl rfl) (a_mul)) ?_
    refine Eq.trans (Eq.trans (r_go (act := oS (fIld 39 3)) rfl rfl) (a_ild rfl)) ?_
    refine Eq.trans (Eq.trans (r_go (act := oS (fSt 40 (gC (.int 1)))) rfl rfl) (a_C)) ?_
    refine Eq.trans (Eq.trans (r_go (act := oS (fIld 41 2)) rfl rfl) (a_ild rfl)) ?_
    refine Eq.trans (Eq.trans (r_go (act := oS (fSt 42 (g2 (fun x y => x <<< (y &&& 31))))) rfl rfl) (a_shl)) ?_
    refine Eq.trans (Eq.trans (r_go (act := oS (fSt 43 (g2 (fun x y => x ||| y)))) rfl rfl) (a_or)) ?_
    refine Eq.trans (Eq.trans (r_go (act := oS (fSt 44 (g2 (fun x y => x + y)))) rfl rfl) (a_add)) ?_
    refine Eq.trans (Eq.trans (r_go (act := oS (fIa g 45)) rfl rfl) (a_ia (zA_97 g) zS_97)) (bcg ?_ rfl)
    refine Eq.trans (Eq.trans (r_go (act := oS (fSt 46 (g2 (fun x y => x + y)))) rfl rfl) (a_add)) ?_
    exact Eq.trans (r_go (act := oIret) rfl rfl) (a_iret)
theorem x_X12_servedBy_0 (g : zg) (a1 : Int32) (a2 : Int32) (a3 : Int32) (M : zM) : X_X12_servedBy g [.ref 72, .int a1, .int a2, .int a3] M = (bif zb a1 6 then (bif zb a2 10 then (bif zb a1 6 then (bif cEq (M.1 76 (zx a2)) (M.1 95 (zx a1)) then (bif zb ((1024 * (a1 + 1)) + (a3 ||| ((1 : Int32) <<< (a2 &&& 31)))) 7168 then some (some (.int (((M.1 96 (zx a1)) * 2) + (M.1 97 (zx ((1024 * (a1 + 1)) + (a3 ||| ((1 : Int32) <<< (a2 &&& 31)))))))), M) else none) else (bif zb ((1024 * (a1 + 1)) + (a3 ||| ((1 : Int32) <<< (a2 &&& 31)))) 7168 then some (some (.int (((M.1 96 (zx a1)) * 1) + (M.1 97 (zx ((1024 * (a1 + 1)) + (a3 ||| ((1 : Int32) <<< (a2 &&& 31)))))))), M) else none)) else none) else none) else none) := e_X12_servedBy_0 g a1 a2 a3 M
set_option maxRecDepth 20000 in
theorem e_X12_findsServed_0 (g : zg) (M : zM) : zX (t_X12_findsServed g) 0 [some (.ref 72), none, none, none, none, none] [] M = (zbI (X_X12_here g [.ref 72] M) (fun x1 M1 => zX (t_X12_findsServed g) 10 [some (.ref 72), some (.int x1), some (.int (M1.1 72 47)), none, none, none] [] M1)) := by
  refine Eq.trans (zX_rgN (tl_X12_findsServed g) (hc_X12_findsServed g) 8 _ _ _ _) ?_
  refine Eq.trans (Eq.trans (r_0 (act := oS (fAld 1 0)) rfl) (a_ald rfl)) ?_
  refine Eq.trans (Eq.trans (r_go (act := oCI 4 1 (zcv g 12) (X_X12_here g)) rfl rfl) (a_cI rfl (zck (zO_72 g) rfl))) (zbI_cg (fun x1 M1 => ?_))
  refine Eq.trans (Eq.trans (r_go (act := oS (fIst 5 1)) rfl rfl) (a_ist rfl rfl)) ?_
  refine Eq.trans (Eq.trans (r_go (act := oS (fAld 6 0)) rfl rfl) (a_ald rfl)) ?_
  refine Eq.trans (Eq.trans (r_go (act := oS (fGi g 9 12 47)) rfl rfl) (a_gi (zO_72 g))) ?_
  refine Eq.trans (Eq.trans (r_go (act := oS (fIst 10 2)) rfl rfl) (a_ist rfl rfl)) ?_
  exact r_cut rfl rfl
theorem x_X12_findsServed_0 (g : zg) (M : zM) : X_X12_findsServed g [.ref 72] M = (zbI (X_X12_here g [.ref 72] M) (fun x1 M1 => zX (t_X12_findsServed g) 10 [some (.ref 72), some (.int x1), some (.int (M1.1 72 47)), none, none, none] [] M1)) := e_X12_findsServed_0 g M
set_option maxRecDepth 20000 in
theorem e_X12_findsServed_10 (g : zg) (a1 : Int32) (a2 : Int32) (M : zM) : zX (t_X12_findsServed g) 10 [some (.ref 72), some (.int a1), some (.int a2), none, none, none] [] M = (bif cLt0 a2 then some (none, M) else zX (t_X12_findsServed g) 16 [some (.ref 72), some (.int a1), some (.int a2), some (.int 0), none, none] [] M) := by
  refine Eq.trans (zX_rgN (tl_X12_findsServed g) (hc_X12_findsServed g) 6 _ _ _ _) ?_
  refine Eq.trans (Eq.trans (Eq.trans (r_0 (act := oF [3, 4, 5] (oS (fIld 11 2))) rfl) (a_F rfl)) (a_ild rfl)) ?_
  refine Eq.trans (Eq.trans (r_go (act := oS (fIf 136 14 cLt0)) rfl rfl) (a_if)) (bcg ?_ ?_)
  · exact Eq.trans (r_go (act := oVret) rfl rfl) (a_vret)
  · refine Eq.trans (Eq.trans (r_go (act := oS (fSt 15 (gC (.int 0)))) rfl rfl) (a_C)) ?_
    refine Eq.trans (Eq.trans (r_go (act := oS (fIst 16 3)) rfl rfl) (a_ist rfl rfl)) ?_
    exact r_cut rfl rfl
set_option maxRecDepth 20000 in
theorem e_X12_findsServed_16 (g : zg) (a1 : Int32) (a2 : Int32) (a3 : Int32) (M : zM) : zX (t_X12_findsServed g) 16 [some (.ref 72), some (.int a1), some (.int a2), some (.int a3), none, none] [] M = (bif cLt a3 ((1 : Int32) <<< ((M.1 72 6) &&& 31)) then (bif cEq a2 (M.1 72 47) then zX (t_X12_findsServed g) 57 [some (.ref 72), some (.int a1), some (.int a2), some (.int a3), some (.int 0), some (.int 0)] [] M else (bif zb ((1024 * (a2 + 1)) + a3) 7168 then zX (t_X12_findsServed g) 57 [some (.ref 72), some (.int a1), some (.int a2), some (.int a3), some (.int (M.1 97 (zx ((1024 * (a2 + 1)) + a3)))), some (.int 0)] [] M else none)) else zX (t_X12_findsServed g) 10 [some (.ref 72), some (.int a1), some (.int (a2 + (-1))), none, none, none] [] M) := by
  refine Eq.trans (zX_rgN (tl_X12_findsServed g) (hc_X12_findsServed g) 25 _ _ _ _) ?_
  refine Eq.trans (Eq.trans (Eq.trans (r_0 (act := oF [4, 5] (oS (fIld 17 3))) rfl) (a_F rfl)) (a_ild rfl)) ?_
  refine Eq.trans (Eq.trans (r_go (act := oS (fSt 18 (gC (.int 1)))) rfl rfl) (a_C)) ?_
  refine Eq.trans (Eq.trans (r_go (act := oS (fAld 19 0)) rfl rfl) (a_ald rfl)) ?_
  refine Eq.trans (Eq.trans (r_go (act := oS (fGi g 22 12 6)) rfl rfl) (a_gi (zO_72 g))) ?_
  refine Eq.trans (Eq.trans (r_go (act := oS (fSt 23 (g2 (fun x y => x <<< (y &&& 31))))) rfl rfl) (a_shl)) ?_
  refine Eq.trans (Eq.trans (r_go (act := oS (fCm 26 130 cLt)) rfl rfl) (a_cm)) (bcg ?_ ?_)
  · refine Eq.trans (Eq.trans (r_go (act := oS (fIld 27 2)) rfl rfl) (a_ild rfl)) ?_
    refine Eq.trans (Eq.trans (r_go (act := oS (fAld 28 0)) rfl rfl) (a_ald rfl)) ?_
    refine Eq.trans (Eq.trans (r_go (act := oS (fGi g 31 12 47)) rfl rfl) (a_gi (zO_72 g))) ?_
    refine Eq.trans (Eq.trans (r_go (act := oS (fCm 34 38 cEq)) rfl rfl) (a_cm)) (bcg ?_ ?_)
    · refine Eq.trans (Eq.trans (r_go (act := oS (fSt 35 (gC (.int 0)))) rfl rfl) (a_C)) ?_
      refine Eq.trans (Eq.trans (r_go (act := oS (fGo 52)) rfl rfl) (a_goto)) ?_
      refine Eq.trans (Eq.trans (r_go (act := oS (fIst 54 4)) rfl rfl) (a_ist rfl rfl)) ?_
      refine Eq.trans (Eq.trans (r_go (act := oS (fSt 55 (gC (.int 0)))) rfl rfl) (a_C)) ?_
      refine Eq.trans (Eq.trans (r_go (act := oS (fIst 57 5)) rfl rfl) (a_ist rfl rfl)) ?_
      exact r_cut rfl rfl
    · refine Eq.trans (Eq.trans (r_go (act := oS (fAld 39 0)) rfl rfl) (a_ald rfl)) ?_
      refine Eq.trans (Eq.trans (r_go (act := oS (fGr g 42 12 50)) rfl rfl) (a_gr (zO_72 g) (zR_72_50 g))) ?_
      refine Eq.trans (Eq.trans (r_go (act := oS (fSt 45 (gC (.int 1024)))) rfl rfl) (a_C)) ?_
      refine Eq.trans (Eq.trans (r_go (act := oS (fIld 46 2)) rfl rfl) (a_ild rfl)) ?_
      refine Eq.trans (Eq.trans (r_go (act := oS (fSt 47 (gC (.int 1)))) rfl rfl) (a_C)) ?_
      refine Eq.trans (Eq.trans (r_go (act := oS (fSt 48 (g2 (fun x y => x + y)))) rfl rfl) (a_add)) ?_
      refine Eq.trans (Eq.trans (r_go (act := oS (fSt 49 (g2 (fun x y => x * y)))) rfl rfl) (a_mul)) ?_
      refine Eq.trans (Eq.trans (r_go (act := oS (fIld 50 3)) rfl rfl) (a_ild rfl)) ?_
      refine Eq.trans (Eq.trans (r_go (act := oS (fSt 51 (g2 (fun x y => x + y)))) rfl rfl) (a_add)) ?_
      refine Eq.trans (Eq.trans (r_go (act := oS (fIa g 52)) rfl rfl) (a_ia (zA_97 g) zS_97)) (bcg ?_ rfl)
      refine Eq.trans (Eq.trans (r_go (act := oS (fIst 54 4)) rfl rfl) (a_ist rfl rfl)) ?_
      refine Eq.trans (Eq.trans (r_go (act := oS (fSt 55 (gC (.int 0)))) rfl rfl) (a_C)) ?_
      refine Eq.trans (Eq.trans (r_go (act := oS (fIst 57 5)) rfl rfl) (a_ist rfl rfl)) ?_
      exact r_cut rfl rfl
  · refine Eq.trans (Eq.trans (r_go (act := oS (fInc 133 2 (-1))) rfl rfl) (a_inc rfl rfl rfl)) ?_
    refine Eq.trans (Eq.trans (r_go (act := oS (fGo 10)) rfl rfl) (a_goto)) ?_
    exact r_cut rfl rfl
set_option maxRecDepth 20000 in
theorem e_X12_findsServed_57 (g : zg) (a1 : Int32) (a2 : Int32) (a3 : Int32) (a4 : Int32) (a5 : Int32) (M : zM) : zX (t_X12_findsServed g) 57 [some (.ref 72), some (.int a1), some (.int a2), some (.int a3), some (.int a4), some (.int a5)] [] M = (bif cLt a5 (M.1 72 6) then (bif cLt a2 (M.1 72 47) then (zbI (X_X12_has g [.ref 72, .int (a1 &&& (a3 ^^^ (-1))), .int a5] M) (fun x1 M1 => (bif cEq0 x1 then zX (t_X12_findsServed g) 57 [some (.ref 72), some (.int a1), some (.int a2), some (.int a3), some (.int a4), some (.int (a5 + 1))] [] M1 else (zbI (X_X12_servedBy g [.ref 72, .int a2, .int a5, .int a3] M1) (fun x2 M2 => (zbI (X_X12_greater g [.ref 72, .int a4, .int x2] M2) (fun x3 M3 => zX (t_X12_findsServed g) 57 [some (.ref 72), some (.int a1), some (.int a2), some (.int a3), some (.int x3), some (.int (a5 + 1))] [] M3))))))) else (bif zb ((1024 * a2) + a3) 7168 then zX (t_X12_findsServed g) 16 [some (.ref 72), some (.int a1), some (.int a2), some (.int (a3 + 1)), none, none] [] ((zu M.1 97 (zx ((1024 * a2) + a3)) a4), M.2) else none)) else (bif zb ((1024 * a2) + a3) 7168 then zX (t_X12_findsServed g) 16 [some (.ref 72), some (.int a1), some (.int a2), some (.int (a3 + 1)), none, none] [] ((zu M.1 97 (zx ((1024 * a2) + a3)) a4), M.2) else none)) := by
  refine Eq.trans (zX_rgN (tl_X12_findsServed g) (hc_X12_findsServed g) 30 _ _ _ _) ?_
  refine Eq.trans (Eq.trans (Eq.trans (r_0 (act := oF [] (oS (fIld 59 5))) rfl) (a_F rfl)) (a_ild rfl)) ?_
  refine Eq.trans (Eq.trans (r_go (act := oS (fAld 60 0)) rfl rfl) (a_ald rfl)) ?_
  refine Eq.trans (Eq.trans (r_go (act := oS (fGi g 63 12 6)) rfl rfl) (a_gi (zO_72 g))) ?_
  refine Eq.trans (Eq.trans (r_go (act := oS (fCm 66 110 cLt)) rfl rfl) (a_cm)) (bcg ?_ ?_)
  · refine Eq.trans (Eq.trans (r_go (act := oS (fIld 67 2)) rfl rfl) (a_ild rfl)) ?_
    refine Eq.trans (Eq.trans (r_go (act := oS (fAld 68 0)) rfl rfl) (a_ald rfl)) ?_
    refine Eq.trans (Eq.trans (r_go (act := oS (fGi g 71 12 47)) rfl rfl) (a_gi (zO_72 g))) ?_
    refine Eq.trans (Eq.trans (r_go (act := oS (fCm 74 110 cLt)) rfl rfl) (a_cm)) (bcg ?_ ?_)
    · refine Eq.trans (Eq.trans (r_go (act := oS (fAld 75 0)) rfl rfl) (a_ald rfl)) ?_
      refine Eq.trans (Eq.trans (r_go (act := oS (fIld 76 1)) rfl rfl) (a_ild rfl)) ?_
      refine Eq.trans (Eq.trans (r_go (act := oS (fIld 77 3)) rfl rfl) (a_ild rfl)) ?_
      refine Eq.trans (Eq.trans (r_go (act := oS (fSt 78 (gC (.int (-1))))) rfl rfl) (a_C)) ?_
      refine Eq.trans (Eq.trans (r_go (act := oS (fSt 79 (g2 (fun x y => x ^^^ y)))) rfl rfl) (a_xor)) ?_
      refine Eq.trans (Eq.trans (r_go (act := oS (fSt 80 (g2 (fun x y => x &&& y)))) rfl rfl) (a_and)) ?_
      refine Eq.trans (Eq.trans (r_go (act := oS (fIld 82 5)) rfl rfl) (a_ild rfl)) ?_
      refine Eq.trans (Eq.trans (r_go (act := oCI 85 3 (zcv g 12) (X_X12_has g)) rfl rfl) (a_cI rfl (zck (zO_72 g) rfl))) (zbI_cg (fun x1 M1 => ?_))
      refine Eq.trans (Eq.trans (r_go (act := oS (fIf 104 88 cEq0)) rfl rfl) (a_if)) (bcg ?_ ?_)
      · refine Eq.trans (Eq.trans (r_go (act := oS (fInc 107 5 1)) rfl rfl) (a_inc rfl rfl rfl)) ?_
        refine Eq.trans (Eq.trans (r_go (act := oS (fGo 57)) rfl rfl) (a_goto)) ?_
        exact r_cut rfl rfl
      · refine Eq.trans (Eq.trans (r_go (act := oS (fAld 89 0)) rfl rfl) (a_ald rfl)) ?_
        refine Eq.trans (Eq.trans (r_go (act := oS (fIld 91 4)) rfl rfl) (a_ild rfl)) ?_
        refine Eq.trans (Eq.trans (r_go (act := oS (fAld 92 0)) rfl rfl) (a_ald rfl)) ?_
        refine Eq.trans (Eq.trans (r_go (act := oS (fIld 93 2)) rfl rfl) (a_ild rfl)) ?_
        refine Eq.trans (Eq.trans (r_go (act := oS (fIld 95 5)) rfl rfl) (a_ild rfl)) ?_
        refine Eq.trans (Eq.trans (r_go (act := oS (fIld 96 3)) rfl rfl) (a_ild rfl)) ?_
        refine Eq.trans (Eq.trans (r_go (act := oCI 99 4 (zcv g 12) (X_X12_servedBy g)) rfl rfl) (a_cI rfl (zck (zO_72 g) rfl))) (zbI_cg (fun x2 M2 => ?_))
        refine Eq.trans (Eq.trans (r_go (act := oCI 102 3 (zcv g 12) (X_X12_greater g)) rfl rfl) (a_cI rfl (zck (zO_72 g) rfl))) (zbI_cg (fun x3 M3 => ?_))
        refine Eq.trans (Eq.trans (r_go (act := oS (fIst 104 4)) rfl rfl) (a_ist rfl rfl)) ?_
        refine Eq.trans (Eq.trans (r_go (act := oS (fInc 107 5 1)) rfl rfl) (a_inc rfl rfl rfl)) ?_
        refine Eq.trans (Eq.trans (r_go (act := oS (fGo 57)) rfl rfl) (a_goto)) ?_
        exact r_cut rfl rfl
    · refine Eq.trans (Eq.trans (r_go (act := oS (fAld 111 0)) rfl rfl) (a_ald rfl)) ?_
      refine Eq.trans (Eq.trans (r_go (act := oS (fGr g 114 12 50)) rfl rfl) (a_gr (zO_72 g) (zR_72_50 g))) ?_
      refine Eq.trans (Eq.trans (r_go (act := oS (fSt 117 (gC (.int 1024)))) rfl rfl) (a_C)) ?_
      refine Eq.trans (Eq.trans (r_go (act := oS (fIld 118 2)) rfl rfl) (a_ild rfl)) ?_
      refine Eq.trans (Eq.trans (r_go (act := oS (fSt 119 (g2 (fun x y => x * y)))) rfl rfl) (a_mul)) ?_
      refine Eq.trans (Eq.trans (r_go (act := oS (fIld 120 3)) rfl rfl) (a_ild rfl)) ?_
      refine Eq.trans (Eq.trans (r_go (act := oS (fSt 121 (g2 (fun x y => x + y)))) rfl rfl) (a_add)) ?_
      refine Eq.trans (Eq.trans (r_go (act := oS (fIld 123 4)) rfl rfl) (a_ild rfl)) ?_
      refine Eq.trans (Eq.trans (r_go (act := oS (fIs g 124)) rfl rfl) (a_is (zA_97 g) zS_97)) (bcg ?_ rfl)
      refine Eq.trans (Eq.trans (r_go (act := oS (fInc 127 3 1)) rfl rfl) (a_inc rfl rfl rfl)) ?_
      refine Eq.trans (Eq.trans (r_go (act := oS (fGo 16)) rfl rfl) (a_goto)) ?_
      exact r_cut rfl rfl
  · refine Eq.trans (Eq.trans (r_go (act := oS (fAld 111 0)) rfl rfl) (a_ald rfl)) ?_
    refine Eq.trans (Eq.trans (r_go (act := oS (fGr g 114 12 50)) rfl rfl) (a_gr (zO_72 g) (zR_72_50 g))) ?_
    refine Eq.trans (Eq.trans (r_go (act := oS (fSt 117 (gC (.int 1024)))) rfl rfl) (a_C)) ?_
    refine Eq.trans (Eq.trans (r_go (act := oS (fIld 118 2)) rfl rfl) (a_ild rfl)) ?_
    refine Eq.trans (Eq.trans (r_go (act := oS (fSt 119 (g2 (fun x y => x * y)))) rfl rfl) (a_mul)) ?_
    refine Eq.trans (Eq.trans (r_go (act := oS (fIld 120 3)) rfl rfl) (a_ild rfl)) ?_
    refine Eq.trans (Eq.trans (r_go (act := oS (fSt 121 (g2 (fun x y => x + y)))) rfl rfl) (a_add)) ?_
    refine Eq.trans (Eq.trans (r_go (act := oS (fIld 123 4)) rfl rfl) (a_ild rfl)) ?_
    refine Eq.trans (Eq.trans (r_go (act := oS (fIs g 124)) rfl rfl) (a_is (zA_97 g) zS_97)) (bcg ?_ rfl)
    refine Eq.trans (Eq.trans (r_go (act := oS (fInc 127 3 1)) rfl rfl) (a_inc rfl rfl rfl)) ?_
    refine Eq.trans (Eq.trans (r_go (act := oS (fGo 16)) rfl rfl) (a_goto)) ?_
    exact r_cut rfl rfl
set_option maxRecDepth 20000 in
theorem e_X12_serves_0 (g : zg) (a1 : Int32) (M : zM) : zX (t_X12_serves g) 0 [some (.ref 72), some (.int a1), none, none, none] [] M = (bif cEq0 a1 then (zbV (X_X12_findsServed g [.ref 72] ((zu M.1 72 0 0), M.2)) (fun M1 => (bif cEq0 a1 then some (some (.int (M1.1 97 0)), M1) else zX (t_X12_serves g) 50 [some (.ref 72), some (.int a1), some (.int 0), some (.int (-1)), some (.int 0)] [] M1))) else (zbI (X_X12_isIn g [.ref 72, .int a1, .int 10, .int (9 + (M.1 72 47))] ((zu M.1 72 0 0), M.2)) (fun x2 M2 => (bif cEq0 x2 then some (some (.int (-1)), M2) else (zbV (X_X12_findsServed g [.ref 72] M2) (fun M3 => (bif cEq0 a1 then some (some (.int (M3.1 97 0)), M3) else zX (t_X12_serves g) 50 [some (.ref 72), some (.int a1), some (.int 0), some (.int (-1)), some (.int 0)] [] M3))))))) := by
  refine Eq.trans (zX_rgN (tl_X12_serves g) (hc_X12_serves g) 26 _ _ _ _) ?_
  refine Eq.trans (Eq.trans (r_0 (act := oS (fAld 1 0)) rfl) (a_ald rfl)) ?_
  refine Eq.trans (Eq.trans (r_go (act := oS (fSt 2 (gC (.int 0)))) rfl rfl) (a_C)) ?_
  refine Eq.trans (Eq.trans (r_go (act := oS (fPi g 5 12 0)) rfl rfl) (a_pi (zO_72 g))) ?_
  refine Eq.trans (Eq.trans (r_go (act := oS (fIld 6 1)) rfl rfl) (a_ild rfl)) ?_
  refine Eq.trans (Eq.trans (r_go (act := oS (fIf 28 9 cEq0)) rfl rfl) (a_if)) (bcg ?_ ?_)
  · refine Eq.trans (Eq.trans (r_go (act := oS (fAld 29 0)) rfl rfl) (a_ald rfl)) ?_
    refine Eq.trans (Eq.trans (r_go (act := oCV 32 1 (zcv g 12) (X_X12_findsServed g)) rfl rfl) (a_cV rfl (zck (zO_72 g) rfl))) (zbV_cg (fun M1 => ?_))
    refine Eq.trans (Eq.trans (r_go (act := oS (fIld 33 1)) rfl rfl) (a_ild rfl)) ?_
    refine Eq.trans (Eq.trans (r_go (act := oS (fIf 36 43 cEq0)) rfl rfl) (a_if)) (bcg ?_ ?_)
    · refine Eq.trans (Eq.trans (r_go (act := oS (fAld 37 0)) rfl rfl) (a_ald rfl)) ?_
      refine Eq.trans (Eq.trans (r_go (act := oS (fGr g 40 12 50)) rfl rfl) (a_gr (zO_72 g) (zR_72_50 g))) ?_
      refine Eq.trans (Eq.trans (r_go (act := oS (fSt 41 (gC (.int 0)))) rfl rfl) (a_C)) ?_
      refine Eq.trans (Eq.trans (r_go (act := oS (fIa g 42)) rfl rfl) (a_iaK (j := 0) (zA_97 g) zS_97 (by decide +kernel) (by decide +kernel))) ?_
      exact Eq.trans (r_go (act := oIret) rfl rfl) (a_iret)
    · refine Eq.trans (Eq.trans (r_go (act := oS (fSt 44 (gC (.int 0)))) rfl rfl) (a_C)) ?_
      refine Eq.trans (Eq.trans (r_go (act := oS (fIst 45 2)) rfl rfl) (a_ist rfl rfl)) ?_
      refine Eq.trans (Eq.trans (r_go (act := oS (fSt 46 (gC (.int (-1))))) rfl rfl) (a_C)) ?_
      refine Eq.trans (Eq.trans (r_go (act := oS (fIst 47 3)) rfl rfl) (a_ist rfl rfl)) ?_
      refine Eq.trans (Eq.trans (r_go (act := oS (fSt 48 (gC (.int 0)))) rfl rfl) (a_C)) ?_
      refine Eq.trans (Eq.trans (r_go (act := oS (fIst 50 4)) rfl rfl) (a_ist rfl rfl)) ?_
      exact r_cut rfl rfl
  · refine Eq.trans (Eq.trans (r_go (act := oS (fAld 10 0)) rfl rfl) (a_ald rfl)) ?_
    refine Eq.trans (Eq.trans (r_go (act := oS (fIld 11 1)) rfl rfl) (a_ild rfl)) ?_
    refine Eq.trans (Eq.trans (r_go (act := oS (fSt 13 (gC (.int 10)))) rfl rfl) (a_C)) ?_
    refine Eq.trans (Eq.trans (r_go (act := oS (fSt 15 (gC (.int 9)))) rfl rfl) (a_C)) ?_
    refine Eq.trans (Eq.trans (r_go (act := oS (fAld 16 0)) rfl rfl) (a_ald rfl)) ?_
    refine Eq.trans (Eq.trans (r_go (act := oS (fGi g 19 12 47)) rfl rfl) (a_giV (zO_72 g) rfl)) ?_
    refine Eq.trans (Eq.trans (r_go (act := oS (fSt 20 (g2 (fun x y => x + y)))) rfl rfl) (a_add)) ?_
    refine Eq.trans (Eq.trans (r_go (act := oCI 23 4 (zcv g 12) (X_X12_isIn g)) rfl rfl) (a_cI rfl (zck (zO_72 g) rfl))) (zbI_cg (fun x2 M2 => ?_))
    refine Eq.trans (Eq.trans (r_go (act := oS (fIf 26 28 cEq0)) rfl rfl) (a_if)) (bcg ?_ ?_)
    · refine Eq.trans (Eq.trans (r_go (act := oS (fSt 27 (gC (.int (-1))))) rfl rfl) (a_C)) ?_
      exact Eq.trans (r_go (act := oIret) rfl rfl) (a_iret)
    · refine Eq.trans (Eq.trans (r_go (act := oS (fAld 29 0)) rfl rfl) (a_ald rfl)) ?_
      refine Eq.trans (Eq.trans (r_go (act := oCV 32 1 (zcv g 12) (X_X12_findsServed g)) rfl rfl) (a_cV rfl (zck (zO_72 g) rfl))) (zbV_cg (fun M3 => ?_))
      refine Eq.trans (Eq.trans (r_go (act := oS (fIld 33 1)) rfl rfl) (a_ild rfl)) ?_
      refine Eq.trans (Eq.trans (r_go (act := oS (fIf 36 43 cEq0)) rfl rfl) (a_if)) (bcg ?_ ?_)
      · refine Eq.trans (Eq.trans (r_go (act := oS (fAld 37 0)) rfl rfl) (a_ald rfl)) ?_
        refine Eq.trans (Eq.trans (r_go (act := oS (fGr g 40 12 50)) rfl rfl) (a_gr (zO_72 g) (zR_72_50 g))) ?_
        refine Eq.trans (Eq.trans (r_go (act := oS (fSt 41 (gC (.int 0)))) rfl rfl) (a_C)) ?_
        refine Eq.trans (Eq.trans (r_go (act := oS (fIa g 42)) rfl rfl) (a_iaK (j := 0) (zA_97 g) zS_97 (by decide +kernel) (by decide +kernel))) ?_
        exact Eq.trans (r_go (act := oIret) rfl rfl) (a_iret)
      · refine Eq.trans (Eq.trans (r_go (act := oS (fSt 44 (gC (.int 0)))) rfl rfl) (a_C)) ?_
        refine Eq.trans (Eq.trans (r_go (act := oS (fIst 45 2)) rfl rfl) (a_ist rfl rfl)) ?_
        refine Eq.trans (Eq.trans (r_go (act := oS (fSt 46 (gC (.int (-1))))) rfl rfl) (a_C)) ?_
        refine Eq.trans (Eq.trans (r_go (act := oS (fIst 47 3)) rfl rfl) (a_ist rfl rfl)) ?_
        refine Eq.trans (Eq.trans (r_go (act := oS (fSt 48 (gC (.int 0)))) rfl rfl) (a_C)) ?_
        refine Eq.trans (Eq.trans (r_go (act := oS (fIst 50 4)) rfl rfl) (a_ist rfl rfl)) ?_
        exact r_cut rfl rfl
theorem x_X12_serves_0 (g : zg) (a1 : Int32) (M : zM) : X_X12_serves g [.ref 72, .int a1] M = (bif cEq0 a1 then (zbV (X_X12_findsServed g [.ref 72] ((zu M.1 72 0 0), M.2)) (fun M1 => (bif cEq0 a1 then some (some (.int (M1.1 97 0)), M1) else zX (t_X12_serves g) 50 [some (.ref 72), some (.int a1), some (.int 0), some (.int (-1)), some (.int 0)] [] M1))) else (zbI (X_X12_isIn g [.ref 72, .int a1, .int 10, .int (9 + (M.1 72 47))] ((zu M.1 72 0 0), M.2)) (fun x2 M2 => (bif cEq0 x2 then some (some (.int (-1)), M2) else (zbV (X_X12_findsServed g [.ref 72] M2) (fun M3 => (bif cEq0 a1 then some (some (.int (M3.1 97 0)), M3) else zX (t_X12_serves g) 50 [some (.ref 72), some (.int a1), some (.int 0), some (.int (-1)), some (.int 0)] [] M3))))))) := e_X12_serves_0 g a1 M
set_option maxRecDepth 20000 in
theorem e_X12_serves_50 (g : zg) (a1 : Int32) (a2 : Int32) (a3 : Int32) (a4 : Int32) (M : zM) : zX (t_X12_serves g) 50 [some (.ref 72), some (.int a1), some (.int a2), some (.int a3), some (.int a4)] [] M = (bif cGt a4 (a1 - 10) then (bif cEq a3 (M.1 72 6) then some (some (.int (-1)), M) else some (some (.int a3), M)) else zX (t_X12_serves g) 61 [some (.ref 72), some (.int a1), some (.int a2), some (.int 0), some (.int a4)] [] M) := by
  refine Eq.trans (zX_rgN (tl_X12_serves g) (hc_X12_serves g) 13 _ _ _ _) ?_
  refine Eq.trans (Eq.trans (Eq.trans (r_0 (act := oF [] (oS (fIld 52 4))) rfl) (a_F rfl)) (a_ild rfl)) ?_
  refine Eq.trans (Eq.trans (r_go (act := oS (fIld 53 1)) rfl rfl) (a_ild rfl)) ?_
  refine Eq.trans (Eq.trans (r_go (act := oS (fSt 55 (gC (.int 10)))) rfl rfl) (a_C)) ?_
  refine Eq.trans (Eq.trans (r_go (act := oS (fSt 56 (g2 (fun x y => x - y)))) rfl rfl) (a_sub)) ?_
  refine Eq.trans (Eq.trans (r_go (act := oS (fCm 136 59 cGt)) rfl rfl) (a_cm)) (bcg ?_ ?_)
  · refine Eq.trans (Eq.trans (r_go (act := oS (fIld 137 3)) rfl rfl) (a_ild rfl)) ?_
    refine Eq.trans (Eq.trans (r_go (act := oS (fAld 138 0)) rfl rfl) (a_ald rfl)) ?_
    refine Eq.trans (Eq.trans (r_go (act := oS (fGi g 141 12 6)) rfl rfl) (a_gi (zO_72 g))) ?_
    refine Eq.trans (Eq.trans (r_go (act := oS (fCm 144 148 cEq)) rfl rfl) (a_cm)) (bcg ?_ ?_)
    · refine Eq.trans (Eq.trans (r_go (act := oS (fSt 145 (gC (.int (-1))))) rfl rfl) (a_C)) ?_
      refine Eq.trans (Eq.trans (r_go (act := oS (fGo 149)) rfl rfl) (a_goto)) ?_
      exact Eq.trans (r_go (act := oIret) rfl rfl) (a_iret)
    · refine Eq.trans (Eq.trans (r_go (act := oS (fIld 149 3)) rfl rfl) (a_ild rfl)) ?_
      exact Eq.trans (r_go (act := oIret) rfl rfl) (a_iret)
  · refine Eq.trans (Eq.trans (r_go (act := oS (fSt 60 (gC (.int 0)))) rfl rfl) (a_C)) ?_
    refine Eq.trans (Eq.trans (r_go (act := oS (fIst 61 3)) rfl rfl) (a_ist rfl rfl)) ?_
    exact r_cut rfl rfl
set_option maxRecDepth 20000 in
theorem e_X12_serves_61 (g : zg) (a1 : Int32) (a2 : Int32) (a3 : Int32) (a4 : Int32) (M : zM) : zX (t_X12_serves g) 61 [some (.ref 72), some (.int a1), some (.int a2), some (.int a3), some (.int a4)] [] M = (bif cLt a3 (M.1 72 6) then (zbI (X_X12_here g [.ref 72] M) (fun x1 M1 => (zbI (X_X12_has g [.ref 72, .int (x1 &&& (a2 ^^^ (-1))), .int a3] M1) (fun x2 M2 => (bif cEq0 x2 then zX (t_X12_serves g) 61 [some (.ref 72), some (.int a1), some (.int a2), some (.int (a3 + 1)), some (.int a4)] [] M2 else (zbI (X_X12_servedBy g [.ref 72, .int a4, .int a3, .int a2] M2) (fun x3 M3 => (bif zb ((1024 * a4) + a2) 7168 then (bif cEq x3 (M3.1 97 (zx ((1024 * a4) + a2))) then (bif cLt a3 (M3.1 72 6) then zX (t_X12_serves g) 50 [some (.ref 72), some (.int a1), some (.int (a2 ||| ((1 : Int32) <<< (a3 &&& 31)))), some (.int a3), some (.int (a4 + 1))] [] M3 else zX (t_X12_serves g) 50 [some (.ref 72), some (.int a1), some (.int a2), some (.int a3), some (.int (a4 + 1))] [] M3) else zX (t_X12_serves g) 61 [some (.ref 72), some (.int a1), some (.int a2), some (.int (a3 + 1)), some (.int a4)] [] M3) else none)))))))) else (bif cLt a3 (M.1 72 6) then zX (t_X12_serves g) 50 [some (.ref 72), some (.int a1), some (.int (a2 ||| ((1 : Int32) <<< (a3 &&& 31)))), some (.int a3), some (.int (a4 + 1))] [] M else zX (t_X12_serves g) 50 [some (.ref 72), some (.int a1), some (.int a2), some (.int a3), some (.int (a4 + 1))] [] M)) := by
  refine Eq.trans (zX_rgN (tl_X12_serves g) (hc_X12_serves g) 42 _ _ _ _) ?_
  refine Eq.trans (Eq.trans (Eq.trans (r_0 (act := oF [] (oS (fIld 62 3))) rfl) (a_F rfl)) (a_ild rfl)) ?_
  refine Eq.trans (Eq.trans (r_go (act := oS (fAld 63 0)) rfl rfl) (a_ald rfl)) ?_
  refine Eq.trans (Eq.trans (r_go (act := oS (fGi g 66 12 6)) rfl rfl) (a_gi (zO_72 g))) ?_
  refine Eq.trans (Eq.trans (r_go (act := oS (fCm 69 116 cLt)) rfl rfl) (a_cm)) (bcg ?_ ?_)
  · refine Eq.trans (Eq.trans (r_go (act := oS (fAld 70 0)) rfl rfl) (a_ald rfl)) ?_
    refine Eq.trans (Eq.trans (r_go (act := oS (fAld 71 0)) rfl rfl) (a_ald rfl)) ?_
    refine Eq.trans (Eq.trans (r_go (act := oCI 74 1 (zcv g 12) (X_X12_here g)) rfl rfl) (a_cI rfl (zck (zO_72 g) rfl))) (zbI_cg (fun x1 M1 => ?_))
    refine Eq.trans (Eq.trans (r_go (act := oS (fIld 75 2)) rfl rfl) (a_ild rfl)) ?_
    refine Eq.trans (Eq.trans (r_go (act := oS (fSt 76 (gC (.int (-1))))) rfl rfl) (a_C)) ?_
    refine Eq.trans (Eq.trans (r_go (act := oS (fSt 77 (g2 (fun x y => x ^^^ y)))) rfl rfl) (a_xor)) ?_
    refine Eq.trans (Eq.trans (r_go (act := oS (fSt 78 (g2 (fun x y => x &&& y)))) rfl rfl) (a_and)) ?_
    refine Eq.trans (Eq.trans (r_go (act := oS (fIld 79 3)) rfl rfl) (a_ild rfl)) ?_
    refine Eq.trans (Eq.trans (r_go (act := oCI 82 3 (zcv g 12) (X_X12_has g)) rfl rfl) (a_cI rfl (zck (zO_72 g) rfl))) (zbI_cg (fun x2 M2 => ?_))
    refine Eq.trans (Eq.trans (r_go (act := oS (fIf 109 85 cEq0)) rfl rfl) (a_if)) (bcg ?_ ?_)
    · refine Eq.trans (Eq.trans (r_go (act := oS (fIld 110 3)) rfl rfl) (a_ild rfl)) ?_
      refine Eq.trans (Eq.trans (r_go (act := oS (fSt 111 (gC (.int 1)))) rfl rfl) (a_C)) ?_
      refine Eq.trans (Eq.trans (r_go (act := oS (fSt 112 (g2 (fun x y => x + y)))) rfl rfl) (a_add)) ?_
      refine Eq.trans (Eq.trans (r_go (act := oS (fIst 113 3)) rfl rfl) (a_ist rfl rfl)) ?_
      refine Eq.trans (Eq.trans (r_go (act := oS (fGo 61)) rfl rfl) (a_goto)) ?_
      exact r_cut rfl rfl
    · refine Eq.trans (Eq.trans (r_go (act := oS (fAld 86 0)) rfl rfl) (a_ald rfl)) ?_
      refine Eq.trans (Eq.trans (r_go (act := oS (fIld 88 4)) rfl rfl) (a_ild rfl)) ?_
      refine Eq.trans (Eq.trans (r_go (act := oS (fIld 89 3)) rfl rfl) (a_ild rfl)) ?_
      refine Eq.trans (Eq.trans (r_go (act := oS (fIld 90 2)) rfl rfl) (a_ild rfl)) ?_
      refine Eq.trans (Eq.trans (r_go (act := oCI 93 4 (zcv g 12) (X_X12_servedBy g)) rfl rfl) (a_cI rfl (zck (zO_72 g) rfl))) (zbI_cg (fun x3 M3 => ?_))
      refine Eq.trans (Eq.trans (r_go (act := oS (fAld 94 0)) rfl rfl) (a_ald rfl)) ?_
      refine Eq.trans (Eq.trans (r_go (act := oS (fGr g 97 12 50)) rfl rfl) (a_gr (zO_72 g) (zR_72_50 g))) ?_
      refine Eq.trans (Eq.trans (r_go (act := oS (fSt 100 (gC (.int 1024)))) rfl rfl) (a_C)) ?_
      refine Eq.trans (Eq.trans (r_go (act := oS (fIld 102 4)) rfl rfl) (a_ild rfl)) ?_
      refine Eq.trans (Eq.trans (r_go (act := oS (fSt 103 (g2 (fun x y => x * y)))) rfl rfl) (a_mul)) ?_
      refine Eq.trans (Eq.trans (r_go (act := oS (fIld 104 2)) rfl rfl) (a_ild rfl)) ?_
      refine Eq.trans (Eq.trans (r_go (act := oS (fSt 105 (g2 (fun x y => x + y)))) rfl rfl) (a_add)) ?_
      refine Eq.trans (Eq.trans (r_go (act := oS (fIa g 106)) rfl rfl) (a_ia (zA_97 g) zS_97)) (bcg ?_ rfl)
      refine Eq.trans (Eq.trans (r_go (act := oS (fCm 116 109 cEq)) rfl rfl) (a_cm)) (bcg ?_ ?_)
      · refine Eq.trans (Eq.trans (r_go (act := oS (fIld 117 3)) rfl rfl) (a_ild rfl)) ?_
        refine Eq.trans (Eq.trans (r_go (act := oS (fAld 118 0)) rfl rfl) (a_ald rfl)) ?_
        refine Eq.trans (Eq.trans (r_go (act := oS (fGi g 121 12 6)) rfl rfl) (a_gi (zO_72 g))) ?_
        refine Eq.trans (Eq.trans (r_go (act := oS (fCm 124 130 cLt)) rfl rfl) (a_cm)) (bcg ?_ ?_)
        · refine Eq.trans (Eq.trans (r_go (act := oS (fIld 125 2)) rfl rfl) (a_ild rfl)) ?_
          refine Eq.trans (Eq.trans (r_go (act := oS (fSt 126 (gC (.int 1)))) rfl rfl) (a_C)) ?_
          refine Eq.trans (Eq.trans (r_go (act := oS (fIld 127 3)) rfl rfl) (a_ild rfl)) ?_
          refine Eq.trans (Eq.trans (r_go (act := oS (fSt 128 (g2 (fun x y => x <<< (y &&& 31))))) rfl rfl) (a_shl)) ?_
          refine Eq.trans (Eq.trans (r_go (act := oS (fSt 129 (g2 (fun x y => x ||| y)))) rfl rfl) (a_or)) ?_
          refine Eq.trans (Eq.trans (r_go (act := oS (fIst 130 2)) rfl rfl) (a_ist rfl rfl)) ?_
          refine Eq.trans (Eq.trans (r_go (act := oS (fInc 133 4 1)) rfl rfl) (a_inc rfl rfl rfl)) ?_
          refine Eq.trans (Eq.trans (r_go (act := oS (fGo 50)) rfl rfl) (a_goto)) ?_
          exact r_cut rfl rfl
        · refine Eq.trans (Eq.trans (r_go (act := oS (fInc 133 4 1)) rfl rfl) (a_inc rfl rfl rfl)) ?_
          refine Eq.trans (Eq.trans (r_go (act := oS (fGo 50)) rfl rfl) (a_goto)) ?_
          exact r_cut rfl rfl
      · refine Eq.trans (Eq.trans (r_go (act := oS (fIld 110 3)) rfl rfl) (a_ild rfl)) ?_
        refine Eq.trans (Eq.trans (r_go (act := oS (fSt 111 (gC (.int 1)))) rfl rfl) (a_C)) ?_
        refine Eq.trans (Eq.trans (r_go (act := oS (fSt 112 (g2 (fun x y => x + y)))) rfl rfl) (a_add)) ?_
        refine Eq.trans (Eq.trans (r_go (act := oS (fIst 113 3)) rfl rfl) (a_ist rfl rfl)) ?_
        refine Eq.trans (Eq.trans (r_go (act := oS (fGo 61)) rfl rfl) (a_goto)) ?_
        exact r_cut rfl rfl
  · refine Eq.trans (Eq.trans (r_go (act := oS (fIld 117 3)) rfl rfl) (a_ild rfl)) ?_
    refine Eq.trans (Eq.trans (r_go (act := oS (fAld 118 0)) rfl rfl) (a_ald rfl)) ?_
    refine Eq.trans (Eq.trans (r_go (act := oS (fGi g 121 12 6)) rfl rfl) (a_gi (zO_72 g))) ?_
    refine Eq.trans (Eq.trans (r_go (act := oS (fCm 124 130 cLt)) rfl rfl) (a_cm)) (bcg ?_ ?_)
    · refine Eq.trans (Eq.trans (r_go (act := oS (fIld 125 2)) rfl rfl) (a_ild rfl)) ?_
      refine Eq.trans (Eq.trans (r_go (act := oS (fSt 126 (gC (.int 1)))) rfl rfl) (a_C)) ?_
      refine Eq.trans (Eq.trans (r_go (act := oS (fIld 127 3)) rfl rfl) (a_ild rfl)) ?_
      refine Eq.trans (Eq.trans (r_go (act := oS (fSt 128 (g2 (fun x y => x <<< (y &&& 31))))) rfl rfl) (a_shl)) ?_
      refine Eq.trans (Eq.trans (r_go (act := oS (fSt 129 (g2 (fun x y => x ||| y)))) rfl rfl) (a_or)) ?_
      refine Eq.trans (Eq.trans (r_go (act := oS (fIst 130 2)) rfl rfl) (a_ist rfl rfl)) ?_
      refine Eq.trans (Eq.trans (r_go (act := oS (fInc 133 4 1)) rfl rfl) (a_inc rfl rfl rfl)) ?_
      refine Eq.trans (Eq.trans (r_go (act := oS (fGo 50)) rfl rfl) (a_goto)) ?_
      exact r_cut rfl rfl
    · refine Eq.trans (Eq.trans (r_go (act := oS (fInc 133 4 1)) rfl rfl) (a_inc rfl rfl rfl)) ?_
      refine Eq.trans (Eq.trans (r_go (act := oS (fGo 50)) rfl rfl) (a_goto)) ?_
      exact r_cut rfl rfl
set_option maxRecDepth 20000 in
theorem e_X12_hats_0 (g : zg) (M : zM) : zX (t_X12_hats g) 0 [some (.ref 72), none, none, none, none, none, none] [] M = (zbI (X_X12_here g [.ref 72] ((zu M.1 72 0 0), M.2)) (fun x1 M1 => zX (t_X12_hats g) 12 [some (.ref 72), some (.int x1), some (.int x1), none, none, none, none] [] M1)) := by
  refine Eq.trans (zX_rgN (tl_X12_hats g) (hc_X12_hats g) 10 _ _ _ _) ?_
  refine Eq.trans (Eq.trans (r_0 (act := oS (fAld 1 0)) rfl) (a_ald rfl)) ?_
  refine Eq.trans (Eq.trans (r_go (act := oS (fSt 2 (gC (.int 0)))) rfl rfl) (a_C)) ?_
  refine Eq.trans (Eq.trans (r_go (act := oS (fPi g 5 12 0)) rfl rfl) (a_pi (zO_72 g))) ?_
  refine Eq.trans (Eq.trans (r_go (act := oS (fAld 6 0)) rfl rfl) (a_ald rfl)) ?_
  refine Eq.trans (Eq.trans (r_go (act := oCI 9 1 (zcv g 12) (X_X12_here g)) rfl rfl) (a_cI rfl (zck (zO_72 g) rfl))) (zbI_cg (fun x1 M1 => ?_))
  refine Eq.trans (Eq.trans (r_go (act := oS (fIst 10 1)) rfl rfl) (a_ist rfl rfl)) ?_
  refine Eq.trans (Eq.trans (r_go (act := oS (fIld 11 1)) rfl rfl) (a_ild rfl)) ?_
  refine Eq.trans (Eq.trans (r_go (act := oS (fIst 12 2)) rfl rfl) (a_ist rfl rfl)) ?_
  exact r_cut rfl rfl
theorem x_X12_hats_0 (g : zg) (M : zM) : X_X12_hats g [.ref 72] M = (zbI (X_X12_here g [.ref 72] ((zu M.1 72 0 0), M.2)) (fun x1 M1 => zX (t_X12_hats g) 12 [some (.ref 72), some (.int x1), some (.int x1), none, none, none, none] [] M1)) := e_X12_hats_0 g M
set_option maxRecDepth 20000 in
theorem e_X12_hats_12 (g : zg) (a1 : Int32) (a2 : Int32) (M : zM) : zX (t_X12_hats g) 12 [some (.ref 72), some (.int a1), some (.int a2), none, none, none, none] [] M = (bif cLt0 a2 then some (some (.int (M.1 98 0)), M) else (bif cEq0 (a2 &&& (a1 ^^^ (-1))) then (bif cEq a2 a1 then (bif zb a2 1024 then zX (t_X12_hats g) 12 [some (.ref 72), some (.int a1), some (.int (a2 + (-1))), none, none, none, none] [] ((zu M.1 98 (zx a2) 1), M.2) else none) else (zbI (X_X12_onesOf g [.ref 72, .int a2] M) (fun x1 M1 => zX (t_X12_hats g) 51 [some (.ref 72), some (.int a1), some (.int a2), some (.int 0), some (.int x1), none, none] [] M1))) else zX (t_X12_hats g) 12 [some (.ref 72), some (.int a1), some (.int (a2 + (-1))), none, none, none, none] [] M)) := by
  refine Eq.trans (zX_rgN (tl_X12_hats g) (hc_X12_hats g) 21 _ _ _ _) ?_
  refine Eq.trans (Eq.trans (Eq.trans (r_0 (act := oF [3, 4, 5, 6] (oS (fIld 13 2))) rfl) (a_F rfl)) (a_ild rfl)) ?_
  refine Eq.trans (Eq.trans (r_go (act := oS (fIf 168 16 cLt0)) rfl rfl) (a_if)) (bcg ?_ ?_)
  · refine Eq.trans (Eq.trans (r_go (act := oS (fAld 169 0)) rfl rfl) (a_ald rfl)) ?_
    refine Eq.trans (Eq.trans (r_go (act := oS (fGr g 172 12 51)) rfl rfl) (a_gr (zO_72 g) (zR_72_51 g))) ?_
    refine Eq.trans (Eq.trans (r_go (act := oS (fSt 173 (gC (.int 0)))) rfl rfl) (a_C)) ?_
    refine Eq.trans (Eq.trans (r_go (act := oS (fIa g 174)) rfl rfl) (a_iaK (j := 0) (zA_98 g) zS_98 (by decide +kernel) (by decide +kernel))) ?_
    exact Eq.trans (r_go (act := oIret) rfl rfl) (a_iret)
  · refine Eq.trans (Eq.trans (r_go (act := oS (fIld 17 2)) rfl rfl) (a_ild rfl)) ?_
    refine Eq.trans (Eq.trans (r_go (act := oS (fIld 18 1)) rfl rfl) (a_ild rfl)) ?_
    refine Eq.trans (Eq.trans (r_go (act := oS (fSt 19 (gC (.int (-1))))) rfl rfl) (a_C)) ?_
    refine Eq.trans (Eq.trans (r_go (act := oS (fSt 20 (g2 (fun x y => x ^^^ y)))) rfl rfl) (a_xor)) ?_
    refine Eq.trans (Eq.trans (r_go (act := oS (fSt 21 (g2 (fun x y => x &&& y)))) rfl rfl) (a_and)) ?_
    refine Eq.trans (Eq.trans (r_go (act := oS (fIf 27 24 cEq0)) rfl rfl) (a_if)) (bcg ?_ ?_)
    · refine Eq.trans (Eq.trans (r_go (act := oS (fIld 28 2)) rfl rfl) (a_ild rfl)) ?_
      refine Eq.trans (Eq.trans (r_go (act := oS (fIld 29 1)) rfl rfl) (a_ild rfl)) ?_
      refine Eq.trans (Eq.trans (r_go (act := oS (fCm 32 42 cEq)) rfl rfl) (a_cm)) (bcg ?_ ?_)
      · refine Eq.trans (Eq.trans (r_go (act := oS (fAld 33 0)) rfl rfl) (a_ald rfl)) ?_
        refine Eq.trans (Eq.trans (r_go (act := oS (fGr g 36 12 51)) rfl rfl) (a_gr (zO_72 g) (zR_72_51 g))) ?_
        refine Eq.trans (Eq.trans (r_go (act := oS (fIld 37 2)) rfl rfl) (a_ild rfl)) ?_
        refine Eq.trans (Eq.trans (r_go (act := oS (fSt 38 (gC (.int 1)))) rfl rfl) (a_C)) ?_
        refine Eq.trans (Eq.trans (r_go (act := oS (fIs g 39)) rfl rfl) (a_is (zA_98 g) zS_98)) (bcg ?_ rfl)
        refine Eq.trans (Eq.trans (r_go (act := oS (fGo 162)) rfl rfl) (a_goto)) ?_
        refine Eq.trans (Eq.trans (r_go (act := oS (fInc 165 2 (-1))) rfl rfl) (a_inc rfl rfl rfl)) ?_
        refine Eq.trans (Eq.trans (r_go (act := oS (fGo 12)) rfl rfl) (a_goto)) ?_
        exact r_cut rfl rfl
      · refine Eq.trans (Eq.trans (r_go (act := oS (fSt 43 (gC (.int 0)))) rfl rfl) (a_C)) ?_
        refine Eq.trans (Eq.trans (r_go (act := oS (fIst 44 3)) rfl rfl) (a_ist rfl rfl)) ?_
        refine Eq.trans (Eq.trans (r_go (act := oS (fAld 45 0)) rfl rfl) (a_ald rfl)) ?_
        refine Eq.trans (Eq.trans (r_go (act := oS (fIld 46 2)) rfl rfl) (a_ild rfl)) ?_
        refine Eq.trans (Eq.trans (r_go (act := oCI 49 2 (zcv g 12) (X_X12_onesOf g)) rfl rfl) (a_cI rfl (zck (zO_72 g) rfl))) (zbI_cg (fun x1 M1 => ?_))
        refine Eq.trans (Eq.trans (r_go (act := oS (fIst 51 4)) rfl rfl) (a_ist rfl rfl)) ?_
        exact r_cut rfl rfl
    · refine Eq.trans (Eq.trans (r_go (act := oS (fGo 162)) rfl rfl) (a_goto)) ?_
      refine Eq.trans (Eq.trans (r_go (act := oS (fInc 165 2 (-1))) rfl rfl) (a_inc rfl rfl rfl)) ?_
      refine Eq.trans (Eq.trans (r_go (act := oS (fGo 12)) rfl rfl) (a_goto)) ?_
      exact r_cut rfl rfl
set_option maxRecDepth 20000 in
theorem e_X12_hats_51 (g : zg) (a1 : Int32) (a2 : Int32) (a3 : Int32) (a4 : Int32) (M : zM) : zX (t_X12_hats g) 51 [some (.ref 72), some (.int a1), some (.int a2), some (.int a3), some (.int a4), none, none] [] M = (zbI (X_X12_has g [.ref 72, .int a1, .int a3] M) (fun x1 M1 => (bif cEq0 x1 then (zbI (X_X12_has g [.ref 72, .int a1, .int a3] M1) (fun x2 M2 => (bif cEq0 x2 then zX (t_X12_hats g) 51 [some (.ref 72), some (.int a1), some (.int a2), some (.int (a3 + 1)), some (.int a4), none, none] [] M2 else zX (t_X12_hats g) 51 [some (.ref 72), some (.int a1), some (.int a2), some (.int (a3 + 1)), some (.int (a4 - 1)), none, none] [] M2))) else (bif cGt0 a4 then (zbI (X_X12_has g [.ref 72, .int a1, .int a3] M1) (fun x3 M3 => (bif cEq0 x3 then zX (t_X12_hats g) 51 [some (.ref 72), some (.int a1), some (.int a2), some (.int (a3 + 1)), some (.int a4), none, none] [] M3 else zX (t_X12_hats g) 51 [some (.ref 72), some (.int a1), some (.int a2), some (.int (a3 + 1)), some (.int (a4 - 1)), none, none] [] M3))) else zX (t_X12_hats g) 93 [some (.ref 72), some (.int a1), some (.int a2), some (.int a3), none, some (.int 0), some (.int 0)] [] M1)))) := by
  refine Eq.trans (zX_rgN (tl_X12_hats g) (hc_X12_hats g) 23 _ _ _ _) ?_
  refine Eq.trans (Eq.trans (Eq.trans (r_0 (act := oF [5, 6] (oS (fAld 52 0))) rfl) (a_F rfl)) (a_ald rfl)) ?_
  refine Eq.trans (Eq.trans (r_go (act := oS (fIld 53 1)) rfl rfl) (a_ild rfl)) ?_
  refine Eq.trans (Eq.trans (r_go (act := oS (fIld 54 3)) rfl rfl) (a_ild rfl)) ?_
  refine Eq.trans (Eq.trans (r_go (act := oCI 57 3 (zcv g 12) (X_X12_has g)) rfl rfl) (a_cI rfl (zck (zO_72 g) rfl))) (zbI_cg (fun x1 M1 => ?_))
  refine Eq.trans (Eq.trans (r_go (act := oS (fIf 65 60 cEq0)) rfl rfl) (a_if)) (bcg ?_ ?_)
  · refine Eq.trans (Eq.trans (r_go (act := oS (fAld 66 0)) rfl rfl) (a_ald rfl)) ?_
    refine Eq.trans (Eq.trans (r_go (act := oS (fIld 67 1)) rfl rfl) (a_ild rfl)) ?_
    refine Eq.trans (Eq.trans (r_go (act := oS (fIld 68 3)) rfl rfl) (a_ild rfl)) ?_
    refine Eq.trans (Eq.trans (r_go (act := oCI 71 3 (zcv g 12) (X_X12_has g)) rfl rfl) (a_cI rfl (zck (zO_72 g) rfl))) (zbI_cg (fun x2 M2 => ?_))
    refine Eq.trans (Eq.trans (r_go (act := oS (fIf 80 74 cEq0)) rfl rfl) (a_if)) (bcg ?_ ?_)
    · refine Eq.trans (Eq.trans (r_go (act := oS (fIld 81 3)) rfl rfl) (a_ild rfl)) ?_
      refine Eq.trans (Eq.trans (r_go (act := oS (fSt 82 (gC (.int 1)))) rfl rfl) (a_C)) ?_
      refine Eq.trans (Eq.trans (r_go (act := oS (fSt 83 (g2 (fun x y => x + y)))) rfl rfl) (a_add)) ?_
      refine Eq.trans (Eq.trans (r_go (act := oS (fIst 84 3)) rfl rfl) (a_ist rfl rfl)) ?_
      refine Eq.trans (Eq.trans (r_go (act := oS (fGo 51)) rfl rfl) (a_goto)) ?_
      exact r_cut rfl rfl
    · refine Eq.trans (Eq.trans (r_go (act := oS (fIld 76 4)) rfl rfl) (a_ild rfl)) ?_
      refine Eq.trans (Eq.trans (r_go (act := oS (fSt 77 (gC (.int 1)))) rfl rfl) (a_C)) ?_
      refine Eq.trans (Eq.trans (r_go (act := oS (fSt 78 (g2 (fun x y => x - y)))) rfl rfl) (a_sub)) ?_
      refine Eq.trans (Eq.trans (r_go (act := oS (fIst 80 4)) rfl rfl) (a_ist rfl rfl)) ?_
      refine Eq.trans (Eq.trans (r_go (act := oS (fIld 81 3)) rfl rfl) (a_ild rfl)) ?_
      refine Eq.trans (Eq.trans (r_go (act := oS (fSt 82 (gC (.int 1)))) rfl rfl) (a_C)) ?_
      refine Eq.trans (Eq.trans (r_go (act := oS (fSt 83 (g2 (fun x y => x + y)))) rfl rfl) (a_add)) ?_
      refine Eq.trans (Eq.trans (r_go (act := oS (fIst 84 3)) rfl rfl) (a_ist rfl rfl)) ?_
      refine Eq.trans (Eq.trans (r_go (act := oS (fGo 51)) rfl rfl) (a_goto)) ?_
      exact r_cut rfl rfl
  · refine Eq.trans (Eq.trans (r_go (act := oS (fIld 62 4)) rfl rfl) (a_ild rfl)) ?_
    refine Eq.trans (Eq.trans (r_go (act := oS (fIf 65 87 cGt0)) rfl rfl) (a_if)) (bcg ?_ ?_)
    · refine Eq.trans (Eq.trans (r_go (act := oS (fAld 66 0)) rfl rfl) (a_ald rfl)) ?_
      refine Eq.trans (Eq.trans (r_go (act := oS (fIld 67 1)) rfl rfl) (a_ild rfl)) ?_
      refine Eq.trans (Eq.trans (r_go (act := oS (fIld 68 3)) rfl rfl) (a_ild rfl)) ?_
      refine Eq.trans (Eq.trans (r_go (act := oCI 71 3 (zcv g 12) (X_X12_has g)) rfl rfl) (a_cI rfl (zck (zO_72 g) rfl))) (zbI_cg (fun x3 M3 => ?_))
      refine Eq.trans (Eq.trans (r_go (act := oS (fIf 80 74 cEq0)) rfl rfl) (a_if)) (bcg ?_ ?_)
      · refine Eq.trans (Eq.trans (r_go (act := oS (fIld 81 3)) rfl rfl) (a_ild rfl)) ?_
        refine Eq.trans (Eq.trans (r_go (act := oS (fSt 82 (gC (.int 1)))) rfl rfl) (a_C)) ?_
        refine Eq.trans (Eq.trans (r_go (act := oS (fSt 83 (g2 (fun x y => x + y)))) rfl rfl) (a_add)) ?_
        refine Eq.trans (Eq.trans (r_go (act := oS (fIst 84 3)) rfl rfl) (a_ist rfl rfl)) ?_
        refine Eq.trans (Eq.trans (r_go (act := oS (fGo 51)) rfl rfl) (a_goto)) ?_
        exact r_cut rfl rfl
      · refine Eq.trans (Eq.trans (r_go (act := oS (fIld 76 4)) rfl rfl) (a_ild rfl)) ?_
        refine Eq.trans (Eq.trans (r_go (act := oS (fSt 77 (gC (.int 1)))) rfl rfl) (a_C)) ?_
        refine Eq.trans (Eq.trans (r_go (act := oS (fSt 78 (g2 (fun x y => x - y)))) rfl rfl) (a_sub)) ?_
        refine Eq.trans (Eq.trans (r_go (act := oS (fIst 80 4)) rfl rfl) (a_ist rfl rfl)) ?_
        refine Eq.trans (Eq.trans (r_go (act := oS (fIld 81 3)) rfl rfl) (a_ild rfl)) ?_
        refine Eq.trans (Eq.trans (r_go (act := oS (fSt 82 (gC (.int 1)))) rfl rfl) (a_C)) ?_
        refine Eq.trans (Eq.trans (r_go (act := oS (fSt 83 (g2 (fun x y => x + y)))) rfl rfl) (a_add)) ?_
        refine Eq.trans (Eq.trans (r_go (act := oS (fIst 84 3)) rfl rfl) (a_ist rfl rfl)) ?_
        refine Eq.trans (Eq.trans (r_go (act := oS (fGo 51)) rfl rfl) (a_goto)) ?_
        exact r_cut rfl rfl
    · refine Eq.trans (Eq.trans (r_go (act := oS (fSt 88 (gC (.int 0)))) rfl rfl) (a_C)) ?_
      refine Eq.trans (Eq.trans (r_go (act := oS (fIst 90 5)) rfl rfl) (a_ist rfl rfl)) ?_
      refine Eq.trans (Eq.trans (r_go (act := oS (fSt 91 (gC (.int 0)))) rfl rfl) (a_C)) ?_
      refine Eq.trans (Eq.trans (r_go (act := oS (fIst 93 6)) rfl rfl) (a_ist rfl rfl)) ?_
      exact r_cut rfl rfl
