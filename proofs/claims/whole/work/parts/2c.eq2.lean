set_option maxRecDepth 20000 in
theorem e_X9_wordOf_9 (g : zg) (a1 : Int32) (a2 : Int32) (a4 : Int32) (a5 : Int32) (a6 : Int32) (M : zM) : zX (t_X9_wordOf g) 9 [some (.ref 1), some (.int a1), some (.int a2), some (.ref 1000), some (.int a4), some (.int a5), some (.int a6)] [] M = (zbI (X_J0_length_8abf5 g [.ref 1000] M) (fun x1 M1 => (bif cLt a6 x1 then (zbI (X_J0_charAt_5068e g [.ref 1000, .int a6] M1) (fun x2 M2 => (bif cEq x2 32 then (bif cEq (a6 - a5) (a2 - a1) then (zbI (X_X9_isSame g [.ref 1, .int a1, .int a2, .ref 1000, .int a5] M2) (fun x3 M3 => (bif cEq0 x3 then zX (t_X9_wordOf g) 9 [some (.ref 1), some (.int a1), some (.int a2), some (.ref 1000), some (.int (a4 + 1)), some (.int (a6 + 1)), some (.int (a6 + 1))] [] M3 else some (some (.int (128 + a4)), M3)))) else zX (t_X9_wordOf g) 9 [some (.ref 1), some (.int a1), some (.int a2), some (.ref 1000), some (.int (a4 + 1)), some (.int (a6 + 1)), some (.int (a6 + 1))] [] M2) else zX (t_X9_wordOf g) 9 [some (.ref 1), some (.int a1), some (.int a2), some (.ref 1000), some (.int a4), some (.int a5), some (.int (a6 + 1))] [] M2))) else some (some (.int (-1)), M1)))) := by
  refine Eq.trans (zX_rgN (tl_X9_wordOf g) (hc_X9_wordOf g) 32 _ _ _ _) ?_
  refine Eq.trans (Eq.trans (Eq.trans (r_0 (act := oF [] (oS (fIld 11 6))) rfl) (a_F rfl)) (a_ild rfl)) ?_
  refine Eq.trans (Eq.trans (r_go (act := oS (fAld 12 3)) rfl rfl) (a_ald rfl)) ?_
  refine Eq.trans (Eq.trans (r_go (act := oCI 15 1 zct (X_J0_length_8abf5 g)) rfl rfl) (a_cI rfl rfl)) (zbI_cg (fun x1 M1 => ?_))
  refine Eq.trans (Eq.trans (r_go (act := oS (fCm 18 74 cLt)) rfl rfl) (a_cm)) (bcg ?_ ?_)
  · refine Eq.trans (Eq.trans (r_go (act := oS (fAld 19 3)) rfl rfl) (a_ald rfl)) ?_
    refine Eq.trans (Eq.trans (r_go (act := oS (fIld 21 6)) rfl rfl) (a_ild rfl)) ?_
    refine Eq.trans (Eq.trans (r_go (act := oCI 24 2 zct (X_J0_charAt_5068e g)) rfl rfl) (a_cI rfl rfl)) (zbI_cg (fun x2 M2 => ?_))
    refine Eq.trans (Eq.trans (r_go (act := oS (fSt 26 (gC (.int 32)))) rfl rfl) (a_C)) ?_
    refine Eq.trans (Eq.trans (r_go (act := oS (fCm 29 68 cEq)) rfl rfl) (a_cm)) (bcg ?_ ?_)
    · refine Eq.trans (Eq.trans (r_go (act := oS (fIld 31 6)) rfl rfl) (a_ild rfl)) ?_
      refine Eq.trans (Eq.trans (r_go (act := oS (fIld 33 5)) rfl rfl) (a_ild rfl)) ?_
      refine Eq.trans (Eq.trans (r_go (act := oS (fSt 34 (g2 (fun x y => x - y)))) rfl rfl) (a_sub)) ?_
      refine Eq.trans (Eq.trans (r_go (act := oS (fIld 35 2)) rfl rfl) (a_ild rfl)) ?_
      refine Eq.trans (Eq.trans (r_go (act := oS (fIld 36 1)) rfl rfl) (a_ild rfl)) ?_
      refine Eq.trans (Eq.trans (r_go (act := oS (fSt 37 (g2 (fun x y => x - y)))) rfl rfl) (a_sub)) ?_
      refine Eq.trans (Eq.trans (r_go (act := oS (fCm 40 59 cEq)) rfl rfl) (a_cm)) (bcg ?_ ?_)
      · refine Eq.trans (Eq.trans (r_go (act := oS (fAld 41 0)) rfl rfl) (a_ald rfl)) ?_
        refine Eq.trans (Eq.trans (r_go (act := oS (fIld 42 1)) rfl rfl) (a_ild rfl)) ?_
        refine Eq.trans (Eq.trans (r_go (act := oS (fIld 43 2)) rfl rfl) (a_ild rfl)) ?_
        refine Eq.trans (Eq.trans (r_go (act := oS (fAld 44 3)) rfl rfl) (a_ald rfl)) ?_
        refine Eq.trans (Eq.trans (r_go (act := oS (fIld 46 5)) rfl rfl) (a_ild rfl)) ?_
        refine Eq.trans (Eq.trans (r_go (act := oCI 49 5 (zcv g 9) (X_X9_isSame g)) rfl rfl) (a_cI rfl (zck (zO_1 g) rfl))) (zbI_cg (fun x3 M3 => ?_))
        refine Eq.trans (Eq.trans (r_go (act := oS (fIf 59 52 cEq0)) rfl rfl) (a_if)) (bcg ?_ ?_)
        · refine Eq.trans (Eq.trans (r_go (act := oS (fInc 62 4 1)) rfl rfl) (a_inc rfl rfl rfl)) ?_
          refine Eq.trans (Eq.trans (r_go (act := oS (fIld 64 6)) rfl rfl) (a_ild rfl)) ?_
          refine Eq.trans (Eq.trans (r_go (act := oS (fSt 65 (gC (.int 1)))) rfl rfl) (a_C)) ?_
          refine Eq.trans (Eq.trans (r_go (act := oS (fSt 66 (g2 (fun x y => x + y)))) rfl rfl) (a_add)) ?_
          refine Eq.trans (Eq.trans (r_go (act := oS (fIst 68 5)) rfl rfl) (a_ist rfl rfl)) ?_
          refine Eq.trans (Eq.trans (r_go (act := oS (fInc 71 6 1)) rfl rfl) (a_inc rfl rfl rfl)) ?_
          refine Eq.trans (Eq.trans (r_go (act := oS (fGo 9)) rfl rfl) (a_goto)) ?_
          exact r_cut rfl rfl
        · refine Eq.trans (Eq.trans (r_go (act := oS (fSt 55 (gC (.int 128)))) rfl rfl) (a_C)) ?_
          refine Eq.trans (Eq.trans (r_go (act := oS (fIld 57 4)) rfl rfl) (a_ild rfl)) ?_
          refine Eq.trans (Eq.trans (r_go (act := oS (fSt 58 (g2 (fun x y => x + y)))) rfl rfl) (a_add)) ?_
          exact Eq.trans (r_go (act := oIret) rfl rfl) (a_iret)
      · refine Eq.trans (Eq.trans (r_go (act := oS (fInc 62 4 1)) rfl rfl) (a_inc rfl rfl rfl)) ?_
        refine Eq.trans (Eq.trans (r_go (act := oS (fIld 64 6)) rfl rfl) (a_ild rfl)) ?_
        refine Eq.trans (Eq.trans (r_go (act := oS (fSt 65 (gC (.int 1)))) rfl rfl) (a_C)) ?_
        refine Eq.trans (Eq.trans (r_go (act := oS (fSt 66 (g2 (fun x y => x + y)))) rfl rfl) (a_add)) ?_
        refine Eq.trans (Eq.trans (r_go (act := oS (fIst 68 5)) rfl rfl) (a_ist rfl rfl)) ?_
        refine Eq.trans (Eq.trans (r_go (act := oS (fInc 71 6 1)) rfl rfl) (a_inc rfl rfl rfl)) ?_
        refine Eq.trans (Eq.trans (r_go (act := oS (fGo 9)) rfl rfl) (a_goto)) ?_
        exact r_cut rfl rfl
    · refine Eq.trans (Eq.trans (r_go (act := oS (fInc 71 6 1)) rfl rfl) (a_inc rfl rfl rfl)) ?_
      refine Eq.trans (Eq.trans (r_go (act := oS (fGo 9)) rfl rfl) (a_goto)) ?_
      exact r_cut rfl rfl
  · refine Eq.trans (Eq.trans (r_go (act := oS (fSt 75 (gC (.int (-1))))) rfl rfl) (a_C)) ?_
    exact Eq.trans (r_go (act := oIret) rfl rfl) (a_iret)
set_option maxRecDepth 20000 in
theorem e_X9_wordOf_9_1 (g : zg) (a1 : Int32) (a2 : Int32) (a4 : Int32) (a5 : Int32) (a6 : Int32) (M : zM) : zX (t_X9_wordOf g) 9 [some (.ref 1), some (.int a1), some (.int a2), some (.ref 1001), some (.int a4), some (.int a5), some (.int a6)] [] M = (zbI (X_J0_length_8abf5 g [.ref 1001] M) (fun x1 M1 => (bif cLt a6 x1 then (zbI (X_J0_charAt_5068e g [.ref 1001, .int a6] M1) (fun x2 M2 => (bif cEq x2 32 then (bif cEq (a6 - a5) (a2 - a1) then (zbI (X_X9_isSame g [.ref 1, .int a1, .int a2, .ref 1001, .int a5] M2) (fun x3 M3 => (bif cEq0 x3 then zX (t_X9_wordOf g) 9 [some (.ref 1), some (.int a1), some (.int a2), some (.ref 1001), some (.int (a4 + 1)), some (.int (a6 + 1)), some (.int (a6 + 1))] [] M3 else some (some (.int (128 + a4)), M3)))) else zX (t_X9_wordOf g) 9 [some (.ref 1), some (.int a1), some (.int a2), some (.ref 1001), some (.int (a4 + 1)), some (.int (a6 + 1)), some (.int (a6 + 1))] [] M2) else zX (t_X9_wordOf g) 9 [some (.ref 1), some (.int a1), some (.int a2), some (.ref 1001), some (.int a4), some (.int a5), some (.int (a6 + 1))] [] M2))) else some (some (.int (-1)), M1)))) := by
  refine Eq.trans (zX_rgN (tl_X9_wordOf g) (hc_X9_wordOf g) 32 _ _ _ _) ?_
  refine Eq.trans (Eq.trans (Eq.trans (r_0 (act := oF [] (oS (fIld 11 6))) rfl) (a_F rfl)) (a_ild rfl)) ?_
  refine Eq.trans (Eq.trans (r_go (act := oS (fAld 12 3)) rfl rfl) (a_ald rfl)) ?_
  refine Eq.trans (Eq.trans (r_go (act := oCI 15 1 zct (X_J0_length_8abf5 g)) rfl rfl) (a_cI rfl rfl)) (zbI_cg (fun x1 M1 => ?_))
  refine Eq.trans (Eq.trans (r_go (act := oS (fCm 18 74 cLt)) rfl rfl) (a_cm)) (bcg ?_ ?_)
  · refine Eq.trans (Eq.trans (r_go (act := oS (fAld 19 3)) rfl rfl) (a_ald rfl)) ?_
    refine Eq.trans (Eq.trans (r_go (act := oS (fIld 21 6)) rfl rfl) (a_ild rfl)) ?_
    refine Eq.trans (Eq.trans (r_go (act := oCI 24 2 zct (X_J0_charAt_5068e g)) rfl rfl) (a_cI rfl rfl)) (zbI_cg (fun x2 M2 => ?_))
    refine Eq.trans (Eq.trans (r_go (act := oS (fSt 26 (gC (.int 32)))) rfl rfl) (a_C)) ?_
    refine Eq.trans (Eq.trans (r_go (act := oS (fCm 29 68 cEq)) rfl rfl) (a_cm)) (bcg ?_ ?_)
    · refine Eq.trans (Eq.trans (r_go (act := oS (fIld 31 6)) rfl rfl) (a_ild rfl)) ?_
      refine Eq.trans (Eq.trans (r_go (act := oS (fIld 33 5)) rfl rfl) (a_ild rfl)) ?_
      refine Eq.trans (Eq.trans (r_go (act := oS (fSt 34 (g2 (fun x y => x - y)))) rfl rfl) (a_sub)) ?_
      refine Eq.trans (Eq.trans (r_go (act := oS (fIld 35 2)) rfl rfl) (a_ild rfl)) ?_
      refine Eq.trans (Eq.trans (r_go (act := oS (fIld 36 1)) rfl rfl) (a_ild rfl)) ?_
      refine Eq.trans (Eq.trans (r_go (act := oS (fSt 37 (g2 (fun x y => x - y)))) rfl rfl) (a_sub)) ?_
      refine Eq.trans (Eq.trans (r_go (act := oS (fCm 40 59 cEq)) rfl rfl) (a_cm)) (bcg ?_ ?_)
      · refine Eq.trans (Eq.trans (r_go (act := oS (fAld 41 0)) rfl rfl) (a_ald rfl)) ?_
        refine Eq.trans (Eq.trans (r_go (act := oS (fIld 42 1)) rfl rfl) (a_ild rfl)) ?_
        refine Eq.trans (Eq.trans (r_go (act := oS (fIld 43 2)) rfl rfl) (a_ild rfl)) ?_
        refine Eq.trans (Eq.trans (r_go (act := oS (fAld 44 3)) rfl rfl) (a_ald rfl)) ?_
        refine Eq.trans (Eq.trans (r_go (act := oS (fIld 46 5)) rfl rfl) (a_ild rfl)) ?_
        refine Eq.trans (Eq.trans (r_go (act := oCI 49 5 (zcv g 9) (X_X9_isSame g)) rfl rfl) (a_cI rfl (zck (zO_1 g) rfl))) (zbI_cg (fun x3 M3 => ?_))
        refine Eq.trans (Eq.trans (r_go (act := oS (fIf 59 52 cEq0)) rfl rfl) (a_if)) (bcg ?_ ?_)
        · refine Eq.trans (Eq.trans (r_go (act := oS (fInc 62 4 1)) rfl rfl) (a_inc rfl rfl rfl)) ?_
          refine Eq.trans (Eq.trans (r_go (act := oS (fIld 64 6)) rfl rfl) (a_ild rfl)) ?_
          refine Eq.trans (Eq.trans (r_go (act := oS (fSt 65 (gC (.int 1)))) rfl rfl) (a_C)) ?_
          refine Eq.trans (Eq.trans (r_go (act := oS (fSt 66 (g2 (fun x y => x + y)))) rfl rfl) (a_add)) ?_
          refine Eq.trans (Eq.trans (r_go (act := oS (fIst 68 5)) rfl rfl) (a_ist rfl rfl)) ?_
          refine Eq.trans (Eq.trans (r_go (act := oS (fInc 71 6 1)) rfl rfl) (a_inc rfl rfl rfl)) ?_
          refine Eq.trans (Eq.trans (r_go (act := oS (fGo 9)) rfl rfl) (a_goto)) ?_
          exact r_cut rfl rfl
        · refine Eq.trans (Eq.trans (r_go (act := oS (fSt 55 (gC (.int 128)))) rfl rfl) (a_C)) ?_
          refine Eq.trans (Eq.trans (r_go (act := oS (fIld 57 4)) rfl rfl) (a_ild rfl)) ?_
          refine Eq.trans (Eq.trans (r_go (act := oS (fSt 58 (g2 (fun x y => x + y)))) rfl rfl) (a_add)) ?_
          exact Eq.trans (r_go (act := oIret) rfl rfl) (a_iret)
      · refine Eq.trans (Eq.trans (r_go (act := oS (fInc 62 4 1)) rfl rfl) (a_inc rfl rfl rfl)) ?_
        refine Eq.trans (Eq.trans (r_go (act := oS (fIld 64 6)) rfl rfl) (a_ild rfl)) ?_
        refine Eq.trans (Eq.trans (r_go (act := oS (fSt 65 (gC (.int 1)))) rfl rfl) (a_C)) ?_
        refine Eq.trans (Eq.trans (r_go (act := oS (fSt 66 (g2 (fun x y => x + y)))) rfl rfl) (a_add)) ?_
        refine Eq.trans (Eq.trans (r_go (act := oS (fIst 68 5)) rfl rfl) (a_ist rfl rfl)) ?_
        refine Eq.trans (Eq.trans (r_go (act := oS (fInc 71 6 1)) rfl rfl) (a_inc rfl rfl rfl)) ?_
        refine Eq.trans (Eq.trans (r_go (act := oS (fGo 9)) rfl rfl) (a_goto)) ?_
        exact r_cut rfl rfl
    · refine Eq.trans (Eq.trans (r_go (act := oS (fInc 71 6 1)) rfl rfl) (a_inc rfl rfl rfl)) ?_
      refine Eq.trans (Eq.trans (r_go (act := oS (fGo 9)) rfl rfl) (a_goto)) ?_
      exact r_cut rfl rfl
  · refine Eq.trans (Eq.trans (r_go (act := oS (fSt 75 (gC (.int (-1))))) rfl rfl) (a_C)) ?_
    exact Eq.trans (r_go (act := oIret) rfl rfl) (a_iret)
set_option maxRecDepth 20000 in
theorem e_X9_wordOf_9_2 (g : zg) (a1 : Int32) (a2 : Int32) (a4 : Int32) (a5 : Int32) (a6 : Int32) (M : zM) : zX (t_X9_wordOf g) 9 [some (.ref 1), some (.int a1), some (.int a2), some (.ref 1002), some (.int a4), some (.int a5), some (.int a6)] [] M = (zbI (X_J0_length_8abf5 g [.ref 1002] M) (fun x1 M1 => (bif cLt a6 x1 then (zbI (X_J0_charAt_5068e g [.ref 1002, .int a6] M1) (fun x2 M2 => (bif cEq x2 32 then (bif cEq (a6 - a5) (a2 - a1) then (zbI (X_X9_isSame g [.ref 1, .int a1, .int a2, .ref 1002, .int a5] M2) (fun x3 M3 => (bif cEq0 x3 then zX (t_X9_wordOf g) 9 [some (.ref 1), some (.int a1), some (.int a2), some (.ref 1002), some (.int (a4 + 1)), some (.int (a6 + 1)), some (.int (a6 + 1))] [] M3 else some (some (.int (128 + a4)), M3)))) else zX (t_X9_wordOf g) 9 [some (.ref 1), some (.int a1), some (.int a2), some (.ref 1002), some (.int (a4 + 1)), some (.int (a6 + 1)), some (.int (a6 + 1))] [] M2) else zX (t_X9_wordOf g) 9 [some (.ref 1), some (.int a1), some (.int a2), some (.ref 1002), some (.int a4), some (.int a5), some (.int (a6 + 1))] [] M2))) else some (some (.int (-1)), M1)))) := by
  refine Eq.trans (zX_rgN (tl_X9_wordOf g) (hc_X9_wordOf g) 32 _ _ _ _) ?_
  refine Eq.trans (Eq.trans (Eq.trans (r_0 (act := oF [] (oS (fIld 11 6))) rfl) (a_F rfl)) (a_ild rfl)) ?_
  refine Eq.trans (Eq.trans (r_go (act := oS (fAld 12 3)) rfl rfl) (a_ald rfl)) ?_
  refine Eq.trans (Eq.trans (r_go (act := oCI 15 1 zct (X_J0_length_8abf5 g)) rfl rfl) (a_cI rfl rfl)) (zbI_cg (fun x1 M1 => ?_))
  refine Eq.trans (Eq.trans (r_go (act := oS (fCm 18 74 cLt)) rfl rfl) (a_cm)) (bcg ?_ ?_)
  · refine Eq.trans (Eq.trans (r_go (act := oS (fAld 19 3)) rfl rfl) (a_ald rfl)) ?_
    refine Eq.trans (Eq.trans (r_go (act := oS (fIld 21 6)) rfl rfl) (a_ild rfl)) ?_
    refine Eq.trans (Eq.trans (r_go (act := oCI 24 2 zct (X_J0_charAt_5068e g)) rfl rfl) (a_cI rfl rfl)) (zbI_cg (fun x2 M2 => ?_))
    refine Eq.trans (Eq.trans (r_go (act := oS (fSt 26 (gC (.int 32)))) rfl rfl) (a_C)) ?_
    refine Eq.trans (Eq.trans (r_go (act := oS (fCm 29 68 cEq)) rfl rfl) (a_cm)) (bcg ?_ ?_)
    · refine Eq.trans (Eq.trans (r_go (act := oS (fIld 31 6)) rfl rfl) (a_ild rfl)) ?_
      refine Eq.trans (Eq.trans (r_go (act := oS (fIld 33 5)) rfl rfl) (a_ild rfl)) ?_
      refine Eq.trans (Eq.trans (r_go (act := oS (fSt 34 (g2 (fun x y => x - y)))) rfl rfl) (a_sub)) ?_
      refine Eq.trans (Eq.trans (r_go (act := oS (fIld 35 2)) rfl rfl) (a_ild rfl)) ?_
      refine Eq.trans (Eq.trans (r_go (act := oS (fIld 36 1)) rfl rfl) (a_ild rfl)) ?_
      refine Eq.trans (Eq.trans (r_go (act := oS (fSt 37 (g2 (fun x y => x - y)))) rfl rfl) (a_sub)) ?_
      refine Eq.trans (Eq.trans (r_go (act := oS (fCm 40 59 cEq)) rfl rfl) (a_cm)) (bcg ?_ ?_)
      · refine Eq.trans (Eq.trans (r_go (act := oS (fAld 41 0)) rfl rfl) (a_ald rfl)) ?_
        refine Eq.trans (Eq.trans (r_go (act := oS (fIld 42 1)) rfl rfl) (a_ild rfl)) ?_
        refine Eq.trans (Eq.trans (r_go (act := oS (fIld 43 2)) rfl rfl) (a_ild rfl)) ?_
        refine Eq.trans (Eq.trans (r_go (act := oS (fAld 44 3)) rfl rfl) (a_ald rfl)) ?_
        refine Eq.trans (Eq.trans (r_go (act := oS (fIld 46 5)) rfl rfl) (a_ild rfl)) ?_
        refine Eq.trans (Eq.trans (r_go (act := oCI 49 5 (zcv g 9) (X_X9_isSame g)) rfl rfl) (a_cI rfl (zck (zO_1 g) rfl))) (zbI_cg (fun x3 M3 => ?_))
        refine Eq.trans (Eq.trans (r_go (act := oS (fIf 59 52 cEq0)) rfl rfl) (a_if)) (bcg ?_ ?_)
        · refine Eq.trans (Eq.trans (r_go (act := oS (fInc 62 4 1)) rfl rfl) (a_inc rfl rfl rfl)) ?_
          refine Eq.trans (Eq.trans (r_go (act := oS (fIld 64 6)) rfl rfl) (a_ild rfl)) ?_
          refine Eq.trans (Eq.trans (r_go (act := oS (fSt 65 (gC (.int 1)))) rfl rfl) (a_C)) ?_
          refine Eq.trans (Eq.trans (r_go (act := oS (fSt 66 (g2 (fun x y => x + y)))) rfl rfl) (a_add)) ?_
          refine Eq.trans (Eq.trans (r_go (act := oS (fIst 68 5)) rfl rfl) (a_ist rfl rfl)) ?_
          refine Eq.trans (Eq.trans (r_go (act := oS (fInc 71 6 1)) rfl rfl) (a_inc rfl rfl rfl)) ?_
          refine Eq.trans (Eq.trans (r_go (act := oS (fGo 9)) rfl rfl) (a_goto)) ?_
          exact r_cut rfl rfl
        · refine Eq.trans (Eq.trans (r_go (act := oS (fSt 55 (gC (.int 128)))) rfl rfl) (a_C)) ?_
          refine Eq.trans (Eq.trans (r_go (act := oS (fIld 57 4)) rfl rfl) (a_ild rfl)) ?_
          refine Eq.trans (Eq.trans (r_go (act := oS (fSt 58 (g2 (fun x y => x + y)))) rfl rfl) (a_add)) ?_
          exact Eq.trans (r_go (act := oIret) rfl rfl) (a_iret)
      · refine Eq.trans (Eq.trans (r_go (act := oS (fInc 62 4 1)) rfl rfl) (a_inc rfl rfl rfl)) ?_
        refine Eq.trans (Eq.trans (r_go (act := oS (fIld 64 6)) rfl rfl) (a_ild rfl)) ?_
        refine Eq.trans (Eq.trans (r_go (act := oS (fSt 65 (gC (.int 1)))) rfl rfl) (a_C)) ?_
        refine Eq.trans (Eq.trans (r_go (act := oS (fSt 66 (g2 (fun x y => x + y)))) rfl rfl) (a_add)) ?_
        refine Eq.trans (Eq.trans (r_go (act := oS (fIst 68 5)) rfl rfl) (a_ist rfl rfl)) ?_
        refine Eq.trans (Eq.trans (r_go (act := oS (fInc 71 6 1)) rfl rfl) (a_inc rfl rfl rfl)) ?_
        refine Eq.trans (Eq.trans (r_go (act := oS (fGo 9)) rfl rfl) (a_goto)) ?_
        exact r_cut rfl rfl
    · refine Eq.trans (Eq.trans (r_go (act := oS (fInc 71 6 1)) rfl rfl) (a_inc rfl rfl rfl)) ?_
      refine Eq.trans (Eq.trans (r_go (act := oS (fGo 9)) rfl rfl) (a_goto)) ?_
      exact r_cut rfl rfl
  · refine Eq.trans (Eq.trans (r_go (act := oS (fSt 75 (gC (.int (-1))))) rfl rfl) (a_C)) ?_
    exact Eq.trans (r_go (act := oIret) rfl rfl) (a_iret)
set_option maxRecDepth 20000 in
theorem e_J1_canEncode_9a6ad_0 (g : zg) (a0 : Int32) (M : zM) : zX (t_J1_canEncode_9a6ad g) 0 [some (.int a0)] [] M = (bif cLt0 a0 then some (some (.int 0), M) else (bif cGt a0 255 then some (some (.int 0), M) else some (some (.int 1), M))) := by
  refine Eq.trans (zX_rgN (tl_J1_canEncode_9a6ad g) (hc_J1_canEncode_9a6ad g) 9 _ _ _ _) ?_
  refine Eq.trans (Eq.trans (r_0 (act := oS (fIld 1 0)) rfl) (a_ild rfl)) ?_
  refine Eq.trans (Eq.trans (r_go (act := oS (fIf 15 4 cLt0)) rfl rfl) (a_if)) (bcg ?_ ?_)
  · refine Eq.trans (Eq.trans (r_go (act := oS (fSt 16 (gC (.int 0)))) rfl rfl) (a_C)) ?_
    exact Eq.trans (Eq.trans (r_go (act := oZret) rfl rfl) a_zret) (bcT (by decide +kernel))
  · refine Eq.trans (Eq.trans (r_go (act := oS (fIld 5 0)) rfl rfl) (a_ild rfl)) ?_
    refine Eq.trans (Eq.trans (r_go (act := oS (fSt 8 (gC (.int 255)))) rfl rfl) (a_C)) ?_
    refine Eq.trans (Eq.trans (r_go (act := oS (fCm 15 11 cGt)) rfl rfl) (a_cm)) (bcg ?_ ?_)
    · refine Eq.trans (Eq.trans (r_go (act := oS (fSt 16 (gC (.int 0)))) rfl rfl) (a_C)) ?_
      exact Eq.trans (Eq.trans (r_go (act := oZret) rfl rfl) a_zret) (bcT (by decide +kernel))
    · refine Eq.trans (Eq.trans (r_go (act := oS (fSt 12 (gC (.int 1)))) rfl rfl) (a_C)) ?_
      refine Eq.trans (Eq.trans (r_go (act := oS (fGo 16)) rfl rfl) (a_goto)) ?_
      exact Eq.trans (Eq.trans (r_go (act := oZret) rfl rfl) a_zret) (bcT (by decide +kernel))
theorem x_J1_canEncode_9a6ad_0 (g : zg) (a0 : Int32) (M : zM) : X_J1_canEncode_9a6ad g [.int a0] M = (bif cLt0 a0 then some (some (.int 0), M) else (bif cGt a0 255 then some (some (.int 0), M) else some (some (.int 1), M))) := e_J1_canEncode_9a6ad_0 g a0 M
set_option maxRecDepth 20000 in
theorem e_J1_indexOfChar_4cfef_0 (g : zg) (a1 : Int32) (a2 : Int32) (a3 : Int32) (M : zM) : zX (t_J1_indexOfChar_4cfef g) 0 [some (.ref 1013), some (.int a1), some (.int a2), some (.int a3), none, none] [] M = zX (t_J1_indexOfChar_4cfef g) 7 [some (.ref 1013), none, none, some (.int a3), some (.int (a1.toInt8.toInt32)), some (.int a2)] [] M := by
  refine Eq.trans (zX_rgN (tl_J1_indexOfChar_4cfef g) (hc_J1_indexOfChar_4cfef g) 7 _ _ _ _) ?_
  refine Eq.trans (Eq.trans (r_0 (act := oS (fIld 1 1)) rfl) (a_ild rfl)) ?_
  refine Eq.trans (Eq.trans (r_go (act := oS (fSt 2 (g1 (fun x => x.toInt8.toInt32)))) rfl rfl) (a_i2b)) ?_
  refine Eq.trans (Eq.trans (r_go (act := oS (fIst 4 4)) rfl rfl) (a_ist rfl rfl)) ?_
  refine Eq.trans (Eq.trans (r_go (act := oS (fIld 5 2)) rfl rfl) (a_ild rfl)) ?_
  refine Eq.trans (Eq.trans (r_go (act := oS (fIst 7 5)) rfl rfl) (a_ist rfl rfl)) ?_
  exact r_cut rfl rfl
theorem x_J1_indexOfChar_4cfef_0 (g : zg) (a1 : Int32) (a2 : Int32) (a3 : Int32) (M : zM) : X_J1_indexOfChar_4cfef g [.ref 1013, .int a1, .int a2, .int a3] M = zX (t_J1_indexOfChar_4cfef g) 7 [some (.ref 1013), none, none, some (.int a3), some (.int (a1.toInt8.toInt32)), some (.int a2)] [] M := e_J1_indexOfChar_4cfef_0 g a1 a2 a3 M
set_option maxRecDepth 20000 in
theorem e_J1_indexOfChar_4cfef_7 (g : zg) (a3 : Int32) (a4 : Int32) (a5 : Int32) (M : zM) : zX (t_J1_indexOfChar_4cfef g) 7 [some (.ref 1013), none, none, some (.int a3), some (.int a4), some (.int a5)] [] M = (bif cLt a5 a3 then (bif zb a5 (zln 1013) then (bif cEq (zbt 1013 (zx a5)) a4 then some (some (.int a5), M) else zX (t_J1_indexOfChar_4cfef g) 7 [some (.ref 1013), none, none, some (.int a3), some (.int a4), some (.int (a5 + 1))] [] M) else none) else some (some (.int (-1)), M)) := by
  refine Eq.trans (zX_rgN (tl_J1_indexOfChar_4cfef g) (hc_J1_indexOfChar_4cfef g) 12 _ _ _ _) ?_
  refine Eq.trans (Eq.trans (Eq.trans (r_0 (act := oF [1, 2] (oS (fIld 9 5))) rfl) (a_F rfl)) (a_ild rfl)) ?_
  refine Eq.trans (Eq.trans (r_go (act := oS (fIld 10 3)) rfl rfl) (a_ild rfl)) ?_
  refine Eq.trans (Eq.trans (r_go (act := oS (fCm 13 31 cLt)) rfl rfl) (a_cm)) (bcg ?_ ?_)
  · refine Eq.trans (Eq.trans (r_go (act := oS (fAld 14 0)) rfl rfl) (a_ald rfl)) ?_
    refine Eq.trans (Eq.trans (r_go (act := oS (fIld 16 5)) rfl rfl) (a_ild rfl)) ?_
    refine Eq.trans (Eq.trans (r_go (act := oS (fBal 17)) rfl rfl) (a_sbal rfl)) (bcg ?_ rfl)
    refine Eq.trans (Eq.trans (r_go (act := oS (fIld 19 4)) rfl rfl) (a_ild rfl)) ?_
    refine Eq.trans (Eq.trans (r_go (act := oS (fCm 22 25 cEq)) rfl rfl) (a_cm)) (bcg ?_ ?_)
    · refine Eq.trans (Eq.trans (r_go (act := oS (fIld 24 5)) rfl rfl) (a_ild rfl)) ?_
      exact Eq.trans (r_go (act := oIret) rfl rfl) (a_iret)
    · refine Eq.trans (Eq.trans (r_go (act := oS (fInc 28 5 1)) rfl rfl) (a_inc rfl rfl rfl)) ?_
      refine Eq.trans (Eq.trans (r_go (act := oS (fGo 7)) rfl rfl) (a_goto)) ?_
      exact r_cut rfl rfl
  · refine Eq.trans (Eq.trans (r_go (act := oS (fSt 32 (gC (.int (-1))))) rfl rfl) (a_C)) ?_
    exact Eq.trans (r_go (act := oIret) rfl rfl) (a_iret)
set_option maxRecDepth 20000 in
theorem e_J1_indexOf_4cfef_0 (g : zg) (a1 : Int32) (a2 : Int32) (a3 : Int32) (M : zM) : zX (t_J1_indexOf_4cfef g) 0 [some (.ref 1013), some (.int a1), some (.int a2), some (.int a3)] [] M = (zbI (X_J1_canEncode_9a6ad g [.int a1] M) (fun x1 M1 => (bif cEq0 x1 then some (some (.int (-1)), M1) else (zbI (X_J9_max_7cf53 g [.int a2, .int 0] M1) (fun x2 M2 => (zbI (X_J9_min_7cf53 g [.int a3, .int (nI (zln 1013))] M2) (fun x3 M3 => (bif cLt x2 x3 then (zbI (X_J1_indexOfChar_4cfef g [.ref 1013, .int a1, .int x2, .int x3] M3) (fun x4 M4 => some (some (.int x4), M4))) else some (some (.int (-1)), M3))))))))) := by
  refine Eq.trans (zX_rgN (tl_J1_indexOf_4cfef g) (hc_J1_indexOf_4cfef g) 22 _ _ _ _) ?_
  refine Eq.trans (Eq.trans (r_0 (act := oS (fIld 1 1)) rfl) (a_ild rfl)) ?_
  refine Eq.trans (Eq.trans (r_go (act := oCI 4 1 zcs (X_J1_canEncode_9a6ad g)) rfl rfl) (a_cI rfl rfl)) (zbI_cg (fun x1 M1 => ?_))
  refine Eq.trans (Eq.trans (r_go (act := oS (fIf 7 9 cEq0)) rfl rfl) (a_if)) (bcg ?_ ?_)
  · refine Eq.trans (Eq.trans (r_go (act := oS (fSt 8 (gC (.int (-1))))) rfl rfl) (a_C)) ?_
    exact Eq.trans (r_go (act := oIret) rfl rfl) (a_iret)
  · refine Eq.trans (Eq.trans (r_go (act := oS (fIld 10 2)) rfl rfl) (a_ild rfl)) ?_
    refine Eq.trans (Eq.trans (r_go (act := oS (fSt 11 (gC (.int 0)))) rfl rfl) (a_C)) ?_
    refine Eq.trans (Eq.trans (r_go (act := oCI 14 2 zcs (X_J9_max_7cf53 g)) rfl rfl) (a_cI rfl rfl)) (zbI_cg (fun x2 M2 => ?_))
    refine Eq.trans (Eq.trans (r_go (act := oS (fIst 15 2)) rfl rfl) (a_ist rfl rfl)) ?_
    refine Eq.trans (Eq.trans (r_go (act := oS (fIld 16 3)) rfl rfl) (a_ild rfl)) ?_
    refine Eq.trans (Eq.trans (r_go (act := oS (fAld 17 0)) rfl rfl) (a_ald rfl)) ?_
    refine Eq.trans (Eq.trans (r_go (act := oS (fAln 18)) rfl rfl) (a_slen rfl)) ?_
    refine Eq.trans (Eq.trans (r_go (act := oCI 21 2 zcs (X_J9_min_7cf53 g)) rfl rfl) (a_cI rfl rfl)) (zbI_cg (fun x3 M3 => ?_))
    refine Eq.trans (Eq.trans (r_go (act := oS (fIst 22 3)) rfl rfl) (a_ist rfl rfl)) ?_
    refine Eq.trans (Eq.trans (r_go (act := oS (fIld 23 2)) rfl rfl) (a_ild rfl)) ?_
    refine Eq.trans (Eq.trans (r_go (act := oS (fIld 24 3)) rfl rfl) (a_ild rfl)) ?_
    refine Eq.trans (Eq.trans (r_go (act := oS (fCm 29 27 cLt)) rfl rfl) (a_cm)) (bcg ?_ ?_)
    · refine Eq.trans (Eq.trans (r_go (act := oS (fAld 30 0)) rfl rfl) (a_ald rfl)) ?_
      refine Eq.trans (Eq.trans (r_go (act := oS (fIld 31 1)) rfl rfl) (a_ild rfl)) ?_
      refine Eq.trans (Eq.trans (r_go (act := oS (fIld 32 2)) rfl rfl) (a_ild rfl)) ?_
      refine Eq.trans (Eq.trans (r_go (act := oS (fIld 33 3)) rfl rfl) (a_ild rfl)) ?_
      refine Eq.trans (Eq.trans (r_go (act := oCI 36 4 zcs (X_J1_indexOfChar_4cfef g)) rfl rfl) (a_cI rfl rfl)) (zbI_cg (fun x4 M4 => ?_))
      exact Eq.trans (r_go (act := oIret) rfl rfl) (a_iret)
    · refine Eq.trans (Eq.trans (r_go (act := oS (fSt 28 (gC (.int (-1))))) rfl rfl) (a_C)) ?_
      exact Eq.trans (r_go (act := oIret) rfl rfl) (a_iret)
theorem x_J1_indexOf_4cfef_0 (g : zg) (a1 : Int32) (a2 : Int32) (a3 : Int32) (M : zM) : X_J1_indexOf_4cfef g [.ref 1013, .int a1, .int a2, .int a3] M = (zbI (X_J1_canEncode_9a6ad g [.int a1] M) (fun x1 M1 => (bif cEq0 x1 then some (some (.int (-1)), M1) else (zbI (X_J9_max_7cf53 g [.int a2, .int 0] M1) (fun x2 M2 => (zbI (X_J9_min_7cf53 g [.int a3, .int (nI (zln 1013))] M2) (fun x3 M3 => (bif cLt x2 x3 then (zbI (X_J1_indexOfChar_4cfef g [.ref 1013, .int a1, .int x2, .int x3] M3) (fun x4 M4 => some (some (.int x4), M4))) else some (some (.int (-1)), M3))))))))) := e_J1_indexOf_4cfef_0 g a1 a2 a3 M
set_option maxRecDepth 20000 in
theorem e_J0_indexOf_7cf53_0 (g : zg) (a1 : Int32) (a2 : Int32) (M : zM) : zX (t_J0_indexOf_7cf53 g) 0 [some (.ref 1003), some (.int a1), some (.int a2)] [] M = (zbI (X_J0_isLatin1_aae02 g [.ref 1003] M) (fun x1 M1 => (bif cEq0 x1 then (zbI (X_J0_length_8abf5 g [.ref 1003] M1) (fun x2 M2 => none)) else (zbI (X_J0_length_8abf5 g [.ref 1003] M1) (fun x3 M3 => (zbI (X_J1_indexOf_4cfef g [.ref 1013, .int a1, .int a2, .int x3] M3) (fun x4 M4 => some (some (.int x4), M4)))))))) := by
  refine Eq.trans (zX_rgN (tl_J0_indexOf_7cf53 g) (hc_J0_indexOf_7cf53 g) 13 _ _ _ _) ?_
  refine Eq.trans (Eq.trans (r_0 (act := oS (fAld 1 0)) rfl) (a_ald rfl)) ?_
  refine Eq.trans (Eq.trans (r_go (act := oCI 4 1 zct (X_J0_isLatin1_aae02 g)) rfl rfl) (a_cI rfl rfl)) (zbI_cg (fun x1 M1 => ?_))
  refine Eq.trans (Eq.trans (r_go (act := oS (fIf 23 7 cEq0)) rfl rfl) (a_if)) (bcg ?_ ?_)
  · refine Eq.trans (Eq.trans (r_go (act := oS (fAld 24 0)) rfl rfl) (a_ald rfl)) ?_
    refine Eq.trans (Eq.trans (r_go (act := oS (fGsv 27)) rfl rfl) (a_sval rfl)) ?_
    refine Eq.trans (Eq.trans (r_go (act := oS (fIld 28 1)) rfl rfl) (a_ild rfl)) ?_
    refine Eq.trans (Eq.trans (r_go (act := oS (fIld 29 2)) rfl rfl) (a_ild rfl)) ?_
    refine Eq.trans (Eq.trans (r_go (act := oS (fAld 30 0)) rfl rfl) (a_ald rfl)) ?_
    refine Eq.trans (Eq.trans (r_go (act := oCI 33 1 zct (X_J0_length_8abf5 g)) rfl rfl) (a_cI rfl rfl)) (zbI_cg (fun x2 M2 => ?_))
    exact Eq.trans (r_go (act := oNo) rfl rfl) rfl
  · refine Eq.trans (Eq.trans (r_go (act := oS (fAld 8 0)) rfl rfl) (a_ald rfl)) ?_
    refine Eq.trans (Eq.trans (r_go (act := oS (fGsv 11)) rfl rfl) (a_sval rfl)) ?_
    refine Eq.trans (Eq.trans (r_go (act := oS (fIld 12 1)) rfl rfl) (a_ild rfl)) ?_
    refine Eq.trans (Eq.trans (r_go (act := oS (fIld 13 2)) rfl rfl) (a_ild rfl)) ?_
    refine Eq.trans (Eq.trans (r_go (act := oS (fAld 14 0)) rfl rfl) (a_ald rfl)) ?_
    refine Eq.trans (Eq.trans (r_go (act := oCI 17 1 zct (X_J0_length_8abf5 g)) rfl rfl) (a_cI rfl rfl)) (zbI_cg (fun x3 M3 => ?_))
    refine Eq.trans (Eq.trans (r_go (act := oCI 20 4 zcs (X_J1_indexOf_4cfef g)) rfl rfl) (a_cI rfl rfl)) (zbI_cg (fun x4 M4 => ?_))
    refine Eq.trans (Eq.trans (r_go (act := oS (fGo 36)) rfl rfl) (a_goto)) ?_
    exact Eq.trans (r_go (act := oIret) rfl rfl) (a_iret)
theorem x_J0_indexOf_7cf53_0 (g : zg) (a1 : Int32) (a2 : Int32) (M : zM) : X_J0_indexOf_7cf53 g [.ref 1003, .int a1, .int a2] M = (zbI (X_J0_isLatin1_aae02 g [.ref 1003] M) (fun x1 M1 => (bif cEq0 x1 then (zbI (X_J0_length_8abf5 g [.ref 1003] M1) (fun x2 M2 => none)) else (zbI (X_J0_length_8abf5 g [.ref 1003] M1) (fun x3 M3 => (zbI (X_J1_indexOf_4cfef g [.ref 1013, .int a1, .int a2, .int x3] M3) (fun x4 M4 => some (some (.int x4), M4)))))))) := e_J0_indexOf_7cf53_0 g a1 a2 M
set_option maxRecDepth 20000 in
theorem e_J0_indexOf_0f7a4_0 (g : zg) (a1 : Int32) (M : zM) : zX (t_J0_indexOf_0f7a4 g) 0 [some (.ref 1003), some (.int a1)] [] M = (zbI (X_J0_indexOf_7cf53 g [.ref 1003, .int a1, .int 0] M) (fun x1 M1 => some (some (.int x1), M1))) := by
  refine Eq.trans (zX_rgN (tl_J0_indexOf_0f7a4 g) (hc_J0_indexOf_0f7a4 g) 6 _ _ _ _) ?_
  refine Eq.trans (Eq.trans (r_0 (act := oS (fAld 1 0)) rfl) (a_ald rfl)) ?_
  refine Eq.trans (Eq.trans (r_go (act := oS (fIld 2 1)) rfl rfl) (a_ild rfl)) ?_
  refine Eq.trans (Eq.trans (r_go (act := oS (fSt 3 (gC (.int 0)))) rfl rfl) (a_C)) ?_
  refine Eq.trans (Eq.trans (r_go (act := oCI 6 3 zct (X_J0_indexOf_7cf53 g)) rfl rfl) (a_cI rfl rfl)) (zbI_cg (fun x1 M1 => ?_))
  exact Eq.trans (r_go (act := oIret) rfl rfl) (a_iret)
theorem x_J0_indexOf_0f7a4_0 (g : zg) (a1 : Int32) (M : zM) : X_J0_indexOf_0f7a4 g [.ref 1003, .int a1] M = (zbI (X_J0_indexOf_7cf53 g [.ref 1003, .int a1, .int 0] M) (fun x1 M1 => some (some (.int x1), M1))) := e_J0_indexOf_0f7a4_0 g a1 M
set_option maxRecDepth 20000 in
theorem e_X9_tokenOf_0 (g : zg) (a1 : Int32) (a2 : Int32) (M : zM) : zX (t_X9_tokenOf g) 0 [some (.ref 1), some (.int a1), some (.int a2), some (.ref 1000), none] [] M = (bif zb a1 400 then (zbI (X_X9_isLetter g [.int (M.1 2 (zx a1))] M) (fun x1 M1 => (bif cEq0 x1 then (zbI (X_X9_isDigit g [.int (M.1 2 (zx a1))] M1) (fun x2 M2 => (bif cEq0 x2 then (zbI (X_J0_indexOf_0f7a4 g [.ref 1003, .int (((M.1 2 (zx a1)).toUInt32 % 65536).toInt32)] M2) (fun x3 M3 => (bif cLt0 x3 then some (some (.int (-1)), M3) else some (some (.int (M.1 2 (zx a1))), M3)))) else (bif cGt (a2 - a1) 4 then some (some (.int (-1)), M2) else some (some (.int 1), M2))))) else (zbI (X_X9_wordOf g [.ref 1, .int a1, .int a2, .ref 1000] M1) (fun x4 M4 => some (some (.int x4), M4)))))) else none) := by
  refine Eq.trans (zX_rgN (tl_X9_tokenOf g) (hc_X9_tokenOf g) 20 _ _ _ _) ?_
  refine Eq.trans (Eq.trans (r_0 (act := oS (fAld 1 0)) rfl) (a_ald rfl)) ?_
  refine Eq.trans (Eq.trans (r_go (act := oS (fGr g 4 9 0)) rfl rfl) (a_gr (zO_1 g) (zR_1_0 g))) ?_
  refine Eq.trans (Eq.trans (r_go (act := oS (fIld 5 1)) rfl rfl) (a_ild rfl)) ?_
  refine Eq.trans (Eq.trans (r_go (act := oS (fIa g 6)) rfl rfl) (a_ia (zA_2 g) zS_2)) (bcg ?_ rfl)
  refine Eq.trans (Eq.trans (r_go (act := oS (fIst 8 4)) rfl rfl) (a_ist rfl rfl)) ?_
  refine Eq.trans (Eq.trans (r_go (act := oS (fIld 10 4)) rfl rfl) (a_ild rfl)) ?_
  refine Eq.trans (Eq.trans (r_go (act := oCI 13 1 zcs (X_X9_isLetter g)) rfl rfl) (a_cI rfl rfl)) (zbI_cg (fun x1 M1 => ?_))
  refine Eq.trans (Eq.trans (r_go (act := oS (fIf 24 16 cEq0)) rfl rfl) (a_if)) (bcg ?_ ?_)
  · refine Eq.trans (Eq.trans (r_go (act := oS (fIld 26 4)) rfl rfl) (a_ild rfl)) ?_
    refine Eq.trans (Eq.trans (r_go (act := oCI 29 1 zcs (X_X9_isDigit g)) rfl rfl) (a_cI rfl rfl)) (zbI_cg (fun x2 M2 => ?_))
    refine Eq.trans (Eq.trans (r_go (act := oS (fIf 45 32 cEq0)) rfl rfl) (a_if)) (bcg ?_ ?_)
    · refine Eq.trans (Eq.trans (r_go (act := oS (fLdS 47 3)) rfl rfl) (a_ldS)) ?_
      refine Eq.trans (Eq.trans (r_go (act := oS (fIld 49 4)) rfl rfl) (a_ild rfl)) ?_
      refine Eq.trans (Eq.trans (r_go (act := oS (fSt 50 (g1 (fun x => (x.toUInt32 % 65536).toInt32)))) rfl rfl) (a_i2c)) ?_
      refine Eq.trans (Eq.trans (r_go (act := oCI 53 2 zct (X_J0_indexOf_0f7a4 g)) rfl rfl) (a_cI rfl rfl)) (zbI_cg (fun x3 M3 => ?_))
      refine Eq.trans (Eq.trans (r_go (act := oS (fIf 61 56 cLt0)) rfl rfl) (a_if)) (bcg ?_ ?_)
      · refine Eq.trans (Eq.trans (r_go (act := oS (fSt 62 (gC (.int (-1))))) rfl rfl) (a_C)) ?_
        exact Eq.trans (r_go (act := oIret) rfl rfl) (a_iret)
      · refine Eq.trans (Eq.trans (r_go (act := oS (fIld 58 4)) rfl rfl) (a_ild rfl)) ?_
        refine Eq.trans (Eq.trans (r_go (act := oS (fGo 62)) rfl rfl) (a_goto)) ?_
        exact Eq.trans (r_go (act := oIret) rfl rfl) (a_iret)
    · refine Eq.trans (Eq.trans (r_go (act := oS (fIld 33 2)) rfl rfl) (a_ild rfl)) ?_
      refine Eq.trans (Eq.trans (r_go (act := oS (fIld 34 1)) rfl rfl) (a_ild rfl)) ?_
      refine Eq.trans (Eq.trans (r_go (act := oS (fSt 35 (g2 (fun x y => x - y)))) rfl rfl) (a_sub)) ?_
      refine Eq.trans (Eq.trans (r_go (act := oS (fSt 36 (gC (.int 4)))) rfl rfl) (a_C)) ?_
      refine Eq.trans (Eq.trans (r_go (act := oS (fCm 43 39 cGt)) rfl rfl) (a_cm)) (bcg ?_ ?_)
      · refine Eq.trans (Eq.trans (r_go (act := oS (fSt 44 (gC (.int (-1))))) rfl rfl) (a_C)) ?_
        exact Eq.trans (r_go (act := oIret) rfl rfl) (a_iret)
      · refine Eq.trans (Eq.trans (r_go (act := oS (fSt 40 (gC (.int 1)))) rfl rfl) (a_C)) ?_
        refine Eq.trans (Eq.trans (r_go (act := oS (fGo 44)) rfl rfl) (a_goto)) ?_
        exact Eq.trans (r_go (act := oIret) rfl rfl) (a_iret)
  · refine Eq.trans (Eq.trans (r_go (act := oS (fAld 17 0)) rfl rfl) (a_ald rfl)) ?_
    refine Eq.trans (Eq.trans (r_go (act := oS (fIld 18 1)) rfl rfl) (a_ild rfl)) ?_
    refine Eq.trans (Eq.trans (r_go (act := oS (fIld 19 2)) rfl rfl) (a_ild rfl)) ?_
    refine Eq.trans (Eq.trans (r_go (act := oS (fAld 20 3)) rfl rfl) (a_ald rfl)) ?_
    refine Eq.trans (Eq.trans (r_go (act := oCI 23 4 (zcv g 9) (X_X9_wordOf g)) rfl rfl) (a_cI rfl (zck (zO_1 g) rfl))) (zbI_cg (fun x4 M4 => ?_))
    exact Eq.trans (r_go (act := oIret) rfl rfl) (a_iret)
theorem x_X9_tokenOf_0 (g : zg) (a1 : Int32) (a2 : Int32) (M : zM) : X_X9_tokenOf g [.ref 1, .int a1, .int a2, .ref 1000] M = (bif zb a1 400 then (zbI (X_X9_isLetter g [.int (M.1 2 (zx a1))] M) (fun x1 M1 => (bif cEq0 x1 then (zbI (X_X9_isDigit g [.int (M.1 2 (zx a1))] M1) (fun x2 M2 => (bif cEq0 x2 then (zbI (X_J0_indexOf_0f7a4 g [.ref 1003, .int (((M.1 2 (zx a1)).toUInt32 % 65536).toInt32)] M2) (fun x3 M3 => (bif cLt0 x3 then some (some (.int (-1)), M3) else some (some (.int (M.1 2 (zx a1))), M3)))) else (bif cGt (a2 - a1) 4 then some (some (.int (-1)), M2) else some (some (.int 1), M2))))) else (zbI (X_X9_wordOf g [.ref 1, .int a1, .int a2, .ref 1000] M1) (fun x4 M4 => some (some (.int x4), M4)))))) else none) := e_X9_tokenOf_0 g a1 a2 M
set_option maxRecDepth 20000 in
theorem e_X9_tokenOf_0_1 (g : zg) (a1 : Int32) (a2 : Int32) (M : zM) : zX (t_X9_tokenOf g) 0 [some (.ref 1), some (.int a1), some (.int a2), some (.ref 1001), none] [] M = (bif zb a1 400 then (zbI (X_X9_isLetter g [.int (M.1 2 (zx a1))] M) (fun x1 M1 => (bif cEq0 x1 then (zbI (X_X9_isDigit g [.int (M.1 2 (zx a1))] M1) (fun x2 M2 => (bif cEq0 x2 then (zbI (X_J0_indexOf_0f7a4 g [.ref 1003, .int (((M.1 2 (zx a1)).toUInt32 % 65536).toInt32)] M2) (fun x3 M3 => (bif cLt0 x3 then some (some (.int (-1)), M3) else some (some (.int (M.1 2 (zx a1))), M3)))) else (bif cGt (a2 - a1) 4 then some (some (.int (-1)), M2) else some (some (.int 1), M2))))) else (zbI (X_X9_wordOf g [.ref 1, .int a1, .int a2, .ref 1001] M1) (fun x4 M4 => some (some (.int x4), M4)))))) else none) := by
  refine Eq.trans (zX_rgN (tl_X9_tokenOf g) (hc_X9_tokenOf g) 20 _ _ _ _) ?_
  refine Eq.trans (Eq.trans (r_0 (act := oS (fAld 1 0)) rfl) (a_ald rfl)) ?_
  refine Eq.trans (Eq.trans (r_go (act := oS (fGr g 4 9 0)) rfl rfl) (a_gr (zO_1 g) (zR_1_0 g))) ?_
  refine Eq.trans (Eq.trans (r_go (act := oS (fIld 5 1)) rfl rfl) (a_ild rfl)) ?_
  refine Eq.trans (Eq.trans (r_go (act := oS (fIa g 6)) rfl rfl) (a_ia (zA_2 g) zS_2)) (bcg ?_ rfl)
  refine Eq.trans (Eq.trans (r_go (act := oS (fIst 8 4)) rfl rfl) (a_ist rfl rfl)) ?_
  refine Eq.trans (Eq.trans (r_go (act := oS (fIld 10 4)) rfl rfl) (a_ild rfl)) ?_
  refine Eq.trans (Eq.trans (r_go (act := oCI 13 1 zcs (X_X9_isLetter g)) rfl rfl) (a_cI rfl rfl)) (zbI_cg (fun x1 M1 => ?_))
  refine Eq.trans (Eq.trans (r_go (act := oS (fIf 24 16 cEq0)) rfl rfl) (a_if)) (bcg ?_ ?_)
  · refine Eq.trans (Eq.trans (r_go (act := oS (fIld 26 4)) rfl rfl) (a_ild rfl)) ?_
    refine Eq.trans (Eq.trans (r_go (act := oCI 29 1 zcs (X_X9_isDigit g)) rfl rfl) (a_cI rfl rfl)) (zbI_cg (fun x2 M2 => ?_))
    refine Eq.trans (Eq.trans (r_go (act := oS (fIf 45 32 cEq0)) rfl rfl) (a_if)) (bcg ?_ ?_)
    · refine Eq.trans (Eq.trans (r_go (act := oS (fLdS 47 3)) rfl rfl) (a_ldS)) ?_
      refine Eq.trans (Eq.trans (r_go (act := oS (fIld 49 4)) rfl rfl) (a_ild rfl)) ?_
      refine Eq.trans (Eq.trans (r_go (act := oS (fSt 50 (g1 (fun x => (x.toUInt32 % 65536).toInt32)))) rfl rfl) (a_i2c)) ?_
      refine Eq.trans (Eq.trans (r_go (act := oCI 53 2 zct (X_J0_indexOf_0f7a4 g)) rfl rfl) (a_cI rfl rfl)) (zbI_cg (fun x3 M3 => ?_))
      refine Eq.trans (Eq.trans (r_go (act := oS (fIf 61 56 cLt0)) rfl rfl) (a_if)) (bcg ?_ ?_)
      · refine Eq.trans (Eq.trans (r_go (act := oS (fSt 62 (gC (.int (-1))))) rfl rfl) (a_C)) ?_
        exact Eq.trans (r_go (act := oIret) rfl rfl) (a_iret)
      · refine Eq.trans (Eq.trans (r_go (act := oS (fIld 58 4)) rfl rfl) (a_ild rfl)) ?_
        refine Eq.trans (Eq.trans (r_go (act := oS (fGo 62)) rfl rfl) (a_goto)) ?_
        exact Eq.trans (r_go (act := oIret) rfl rfl) (a_iret)
    · refine Eq.trans (Eq.trans (r_go (act := oS (fIld 33 2)) rfl rfl) (a_ild rfl)) ?_
      refine Eq.trans (Eq.trans (r_go (act := oS (fIld 34 1)) rfl rfl) (a_ild rfl)) ?_
      refine Eq.trans (Eq.trans (r_go (act := oS (fSt 35 (g2 (fun x y => x - y)))) rfl rfl) (a_sub)) ?_
      refine Eq.trans (Eq.trans (r_go (act := oS (fSt 36 (gC (.int 4)))) rfl rfl) (a_C)) ?_
      refine Eq.trans (Eq.trans (r_go (act := oS (fCm 43 39 cGt)) rfl rfl) (a_cm)) (bcg ?_ ?_)
      · refine Eq.trans (Eq.trans (r_go (act := oS (fSt 44 (gC (.int (-1))))) rfl rfl) (a_C)) ?_
        exact Eq.trans (r_go (act := oIret) rfl rfl) (a_iret)
      · refine Eq.trans (Eq.trans (r_go (act := oS (fSt 40 (gC (.int 1)))) rfl rfl) (a_C)) ?_
        refine Eq.trans (Eq.trans (r_go (act := oS (fGo 44)) rfl rfl) (a_goto)) ?_
        exact Eq.trans (r_go (act := oIret) rfl rfl) (a_iret)
  · refine Eq.trans (Eq.trans (r_go (act := oS (fAld 17 0)) rfl rfl) (a_ald rfl)) ?_
    refine Eq.trans (Eq.trans (r_go (act := oS (fIld 18 1)) rfl rfl) (a_ild rfl)) ?_
    refine Eq.trans (Eq.trans (r_go (act := oS (fIld 19 2)) rfl rfl) (a_ild rfl)) ?_
    refine Eq.trans (Eq.trans (r_go (act := oS (fAld 20 3)) rfl rfl) (a_ald rfl)) ?_
    refine Eq.trans (Eq.trans (r_go (act := oCI 23 4 (zcv g 9) (X_X9_wordOf g)) rfl rfl) (a_cI rfl (zck (zO_1 g) rfl))) (zbI_cg (fun x4 M4 => ?_))
    exact Eq.trans (r_go (act := oIret) rfl rfl) (a_iret)
theorem x_X9_tokenOf_0_1 (g : zg) (a1 : Int32) (a2 : Int32) (M : zM) : X_X9_tokenOf g [.ref 1, .int a1, .int a2, .ref 1001] M = (bif zb a1 400 then (zbI (X_X9_isLetter g [.int (M.1 2 (zx a1))] M) (fun x1 M1 => (bif cEq0 x1 then (zbI (X_X9_isDigit g [.int (M.1 2 (zx a1))] M1) (fun x2 M2 => (bif cEq0 x2 then (zbI (X_J0_indexOf_0f7a4 g [.ref 1003, .int (((M.1 2 (zx a1)).toUInt32 % 65536).toInt32)] M2) (fun x3 M3 => (bif cLt0 x3 then some (some (.int (-1)), M3) else some (some (.int (M.1 2 (zx a1))), M3)))) else (bif cGt (a2 - a1) 4 then some (some (.int (-1)), M2) else some (some (.int 1), M2))))) else (zbI (X_X9_wordOf g [.ref 1, .int a1, .int a2, .ref 1001] M1) (fun x4 M4 => some (some (.int x4), M4)))))) else none) := e_X9_tokenOf_0_1 g a1 a2 M
set_option maxRecDepth 20000 in
theorem e_X9_tokenOf_0_2 (g : zg) (a1 : Int32) (a2 : Int32) (M : zM) : zX (t_X9_tokenOf g) 0 [some (.ref 1), some (.int a1), some (.int a2), some (.ref 1002), none] [] M = (bif zb a1 400 then (zbI (X_X9_isLetter g [.int (M.1 2 (zx a1))] M) (fun x1 M1 => (bif cEq0 x1 then (zbI (X_X9_isDigit g [.int (M.1 2 (zx a1))] M1) (fun x2 M2 => (bif cEq0 x2 then (zbI (X_J0_indexOf_0f7a4 g [.ref 1003, .int (((M.1 2 (zx a1)).toUInt32 % 65536).toInt32)] M2) (fun x3 M3 => (bif cLt0 x3 then some (some (.int (-1)), M3) else some (some (.int (M.1 2 (zx a1))), M3)))) else (bif cGt (a2 - a1) 4 then some (some (.int (-1)), M2) else some (some (.int 1), M2))))) else (zbI (X_X9_wordOf g [.ref 1, .int a1, .int a2, .ref 1002] M1) (fun x4 M4 => some (some (.int x4), M4)))))) else none) := by
  refine Eq.trans (zX_rgN (tl_X9_tokenOf g) (hc_X9_tokenOf g) 20 _ _ _ _) ?_
  refine Eq.trans (Eq.trans (r_0 (act := oS (fAld 1 0)) rfl) (a_ald rfl)) ?_
  refine Eq.trans (Eq.trans (r_go (act := oS (fGr g 4 9 0)) rfl rfl) (a_gr (zO_1 g) (zR_1_0 g))) ?_
  refine Eq.trans (Eq.trans (r_go (act := oS (fIld 5 1)) rfl rfl) (a_ild rfl)) ?_
  refine Eq.trans (Eq.trans (r_go (act := oS (fIa g 6)) rfl rfl) (a_ia (zA_2 g) zS_2)) (bcg ?_ rfl)
  refine Eq.trans (Eq.trans (r_go (act := oS (fIst 8 4)) rfl rfl) (a_ist rfl rfl)) ?_
  refine Eq.trans (Eq.trans (r_go (act := oS (fIld 10 4)) rfl rfl) (a_ild rfl)) ?_
  refine Eq.trans (Eq.trans (r_go (act := oCI 13 1 zcs (X_X9_isLetter g)) rfl rfl) (a_cI rfl rfl)) (zbI_cg (fun x1 M1 => ?_))
  refine Eq.trans (Eq.trans (r_go (act := oS (fIf 24 16 cEq0)) rfl rfl) (a_if)) (bcg ?_ ?_)
  · refine Eq.trans (Eq.trans (r_go (act := oS (fIld 26 4)) rfl rfl) (a_ild rfl)) ?_
    refine Eq.trans (Eq.trans (r_go (act := oCI 29 1 zcs (X_X9_isDigit g)) rfl rfl) (a_cI rfl rfl)) (zbI_cg (fun x2 M2 => ?_))
    refine Eq.trans (Eq.trans (r_go (act := oS (fIf 45 32 cEq0)) rfl rfl) (a_if)) (bcg ?_ ?_)
    · refine Eq.trans (Eq.trans (r_go (act := oS (fLdS 47 3)) rfl rfl) (a_ldS)) ?_
      refine Eq.trans (Eq.trans (r_go (act := oS (fIld 49 4)) rfl rfl) (a_ild rfl)) ?_
      refine Eq.trans (Eq.trans (r_go (act := oS (fSt 50 (g1 (fun x => (x.toUInt32 % 65536).toInt32)))) rfl rfl) (a_i2c)) ?_
      refine Eq.trans (Eq.trans (r_go (act := oCI 53 2 zct (X_J0_indexOf_0f7a4 g)) rfl rfl) (a_cI rfl rfl)) (zbI_cg (fun x3 M3 => ?_))
      refine Eq.trans (Eq.trans (r_go (act := oS (fIf 61 56 cLt0)) rfl rfl) (a_if)) (bcg ?_ ?_)
      · refine Eq.trans (Eq.trans (r_go (act := oS (fSt 62 (gC (.int (-1))))) rfl rfl) (a_C)) ?_
        exact Eq.trans (r_go (act := oIret) rfl rfl) (a_iret)
      · refine Eq.trans (Eq.trans (r_go (act := oS (fIld 58 4)) rfl rfl) (a_ild rfl)) ?_
        refine Eq.trans (Eq.trans (r_go (act := oS (fGo 62)) rfl rfl) (a_goto)) ?_
        exact Eq.trans (r_go (act := oIret) rfl rfl) (a_iret)
    · refine Eq.trans (Eq.trans (r_go (act := oS (fIld 33 2)) rfl rfl) (a_ild rfl)) ?_
      refine Eq.trans (Eq.trans (r_go (act := oS (fIld 34 1)) rfl rfl) (a_ild rfl)) ?_
      refine Eq.trans (Eq.trans (r_go (act := oS (fSt 35 (g2 (fun x y => x - y)))) rfl rfl) (a_sub)) ?_
      refine Eq.trans (Eq.trans (r_go (act := oS (fSt 36 (gC (.int 4)))) rfl rfl) (a_C)) ?_
      refine Eq.trans (Eq.trans (r_go (act := oS (fCm 43 39 cGt)) rfl rfl) (a_cm)) (bcg ?_ ?_)
      · refine Eq.trans (Eq.trans (r_go (act := oS (fSt 44 (gC (.int (-1))))) rfl rfl) (a_C)) ?_
        exact Eq.trans (r_go (act := oIret) rfl rfl) (a_iret)
      · refine Eq.trans (Eq.trans (r_go (act := oS (fSt 40 (gC (.int 1)))) rfl rfl) (a_C)) ?_
        refine Eq.trans (Eq.trans (r_go (act := oS (fGo 44)) rfl rfl) (a_goto)) ?_
        exact Eq.trans (r_go (act := oIret) rfl rfl) (a_iret)
  · refine Eq.trans (Eq.trans (r_go (act := oS (fAld 17 0)) rfl rfl) (a_ald rfl)) ?_
    refine Eq.trans (Eq.trans (r_go (act := oS (fIld 18 1)) rfl rfl) (a_ild rfl)) ?_
    refine Eq.trans (Eq.trans (r_go (act := oS (fIld 19 2)) rfl rfl) (a_ild rfl)) ?_
    refine Eq.trans (Eq.trans (r_go (act := oS (fAld 20 3)) rfl rfl) (a_ald rfl)) ?_
    refine Eq.trans (Eq.trans (r_go (act := oCI 23 4 (zcv g 9) (X_X9_wordOf g)) rfl rfl) (a_cI rfl (zck (zO_1 g) rfl))) (zbI_cg (fun x4 M4 => ?_))
    exact Eq.trans (r_go (act := oIret) rfl rfl) (a_iret)
theorem x_X9_tokenOf_0_2 (g : zg) (a1 : Int32) (a2 : Int32) (M : zM) : X_X9_tokenOf g [.ref 1, .int a1, .int a2, .ref 1002] M = (bif zb a1 400 then (zbI (X_X9_isLetter g [.int (M.1 2 (zx a1))] M) (fun x1 M1 => (bif cEq0 x1 then (zbI (X_X9_isDigit g [.int (M.1 2 (zx a1))] M1) (fun x2 M2 => (bif cEq0 x2 then (zbI (X_J0_indexOf_0f7a4 g [.ref 1003, .int (((M.1 2 (zx a1)).toUInt32 % 65536).toInt32)] M2) (fun x3 M3 => (bif cLt0 x3 then some (some (.int (-1)), M3) else some (some (.int (M.1 2 (zx a1))), M3)))) else (bif cGt (a2 - a1) 4 then some (some (.int (-1)), M2) else some (some (.int 1), M2))))) else (zbI (X_X9_wordOf g [.ref 1, .int a1, .int a2, .ref 1002] M1) (fun x4 M4 => some (some (.int x4), M4)))))) else none) := e_X9_tokenOf_0_2 g a1 a2 M
set_option maxRecDepth 20000 in
theorem e_X9_numberOf_0 (g : zg) (a1 : Int32) (a2 : Int32) (M : zM) : zX (t_X9_numberOf g) 0 [some (.ref 1), some (.int a1), some (.int a2), none, none] [] M = zX (t_X9_numberOf g) 5 [some (.ref 1), none, some (.int a2), some (.int 0), some (.int a1)] [] M := by
  refine Eq.trans (zX_rgN (tl_X9_numberOf g) (hc_X9_numberOf g) 6 _ _ _ _) ?_
  refine Eq.trans (Eq.trans (r_0 (act := oS (fSt 1 (gC (.int 0)))) rfl) (a_C)) ?_
  refine Eq.trans (Eq.trans (r_go (act := oS (fIst 2 3)) rfl rfl) (a_ist rfl rfl)) ?_
  refine Eq.trans (Eq.trans (r_go (act := oS (fIld 3 1)) rfl rfl) (a_ild rfl)) ?_
  refine Eq.trans (Eq.trans (r_go (act := oS (fIst 5 4)) rfl rfl) (a_ist rfl rfl)) ?_
  exact r_cut rfl rfl
theorem x_X9_numberOf_0 (g : zg) (a1 : Int32) (a2 : Int32) (M : zM) : X_X9_numberOf g [.ref 1, .int a1, .int a2] M = zX (t_X9_numberOf g) 5 [some (.ref 1), none, some (.int a2), some (.int 0), some (.int a1)] [] M := e_X9_numberOf_0 g a1 a2 M
set_option maxRecDepth 20000 in
theorem e_X9_numberOf_5 (g : zg) (a2 : Int32) (a3 : Int32) (a4 : Int32) (M : zM) : zX (t_X9_numberOf g) 5 [some (.ref 1), none, some (.int a2), some (.int a3), some (.int a4)] [] M = (bif cLt a4 a2 then (bif zb a4 400 then zX (t_X9_numberOf g) 5 [some (.ref 1), none, some (.int a2), some (.int (((a3 * 10) + (M.1 2 (zx a4))) - 48)), some (.int (a4 + 1))] [] M else none) else some (some (.int a3), M)) := by
  refine Eq.trans (zX_rgN (tl_X9_numberOf g) (hc_X9_numberOf g) 18 _ _ _ _) ?_
  refine Eq.trans (Eq.trans (Eq.trans (r_0 (act := oF [1] (oS (fIld 7 4))) rfl) (a_F rfl)) (a_ild rfl)) ?_
  refine Eq.trans (Eq.trans (r_go (act := oS (fIld 8 2)) rfl rfl) (a_ild rfl)) ?_
  refine Eq.trans (Eq.trans (r_go (act := oS (fCm 11 33 cLt)) rfl rfl) (a_cm)) (bcg ?_ ?_)
  · refine Eq.trans (Eq.trans (r_go (act := oS (fIld 12 3)) rfl rfl) (a_ild rfl)) ?_
    refine Eq.trans (Eq.trans (r_go (act := oS (fSt 14 (gC (.int 10)))) rfl rfl) (a_C)) ?_
    refine Eq.trans (Eq.trans (r_go (act := oS (fSt 15 (g2 (fun x y => x * y)))) rfl rfl) (a_mul)) ?_
    refine Eq.trans (Eq.trans (r_go (act := oS (fAld 16 0)) rfl rfl) (a_ald rfl)) ?_
    refine Eq.trans (Eq.trans (r_go (act := oS (fGr g 19 9 0)) rfl rfl) (a_gr (zO_1 g) (zR_1_0 g))) ?_
    refine Eq.trans (Eq.trans (r_go (act := oS (fIld 21 4)) rfl rfl) (a_ild rfl)) ?_
    refine Eq.trans (Eq.trans (r_go (act := oS (fIa g 22)) rfl rfl) (a_ia (zA_2 g) zS_2)) (bcg ?_ rfl)
    refine Eq.trans (Eq.trans (r_go (act := oS (fSt 23 (g2 (fun x y => x + y)))) rfl rfl) (a_add)) ?_
    refine Eq.trans (Eq.trans (r_go (act := oS (fSt 25 (gC (.int 48)))) rfl rfl) (a_C)) ?_
    refine Eq.trans (Eq.trans (r_go (act := oS (fSt 26 (g2 (fun x y => x - y)))) rfl rfl) (a_sub)) ?_
    refine Eq.trans (Eq.trans (r_go (act := oS (fIst 27 3)) rfl rfl) (a_ist rfl rfl)) ?_
    refine Eq.trans (Eq.trans (r_go (act := oS (fInc 30 4 1)) rfl rfl) (a_inc rfl rfl rfl)) ?_
    refine Eq.trans (Eq.trans (r_go (act := oS (fGo 5)) rfl rfl) (a_goto)) ?_
    exact r_cut rfl rfl
  · refine Eq.trans (Eq.trans (r_go (act := oS (fIld 34 3)) rfl rfl) (a_ild rfl)) ?_
    exact Eq.trans (r_go (act := oIret) rfl rfl) (a_iret)
set_option maxRecDepth 20000 in
theorem e_X9_split_0 (g : zg) (M : zM) : zX (t_X9_split g) 0 [some (.ref 1), some (.ref 1000), none, none, none, none] [] M = zX (t_X9_split g) 12 [some (.ref 1), some (.ref 1000), some (.int 0), some (.int 0), some (.int 0), none] [] ((zu M.1 1 4 0), M.2) := by
  refine Eq.trans (zX_rgN (tl_X9_split g) (hc_X9_split g) 11 _ _ _ _) ?_
  refine Eq.trans (Eq.trans (r_0 (act := oS (fSt 1 (gC (.int 0)))) rfl) (a_C)) ?_
  refine Eq.trans (Eq.trans (r_go (act := oS (fIst 2 2)) rfl rfl) (a_ist rfl rfl)) ?_
  refine Eq.trans (Eq.trans (r_go (act := oS (fSt 3 (gC (.int 0)))) rfl rfl) (a_C)) ?_
  refine Eq.trans (Eq.trans (r_go (act := oS (fIst 4 3)) rfl rfl) (a_ist rfl rfl)) ?_
  refine Eq.trans (Eq.trans (r_go (act := oS (fAld 5 0)) rfl rfl) (a_ald rfl)) ?_
  refine Eq.trans (Eq.trans (r_go (act := oS (fSt 6 (gC (.int 0)))) rfl rfl) (a_C)) ?_
  refine Eq.trans (Eq.trans (r_go (act := oS (fPi g 9 9 4)) rfl rfl) (a_pi (zO_1 g))) ?_
  refine Eq.trans (Eq.trans (r_go (act := oS (fSt 10 (gC (.int 0)))) rfl rfl) (a_C)) ?_
  refine Eq.trans (Eq.trans (r_go (act := oS (fIst 12 4)) rfl rfl) (a_ist rfl rfl)) ?_
  exact r_cut rfl rfl
theorem x_X9_split_0 (g : zg) (M : zM) : X_X9_split g [.ref 1, .ref 1000] M = zX (t_X9_split g) 12 [some (.ref 1), some (.ref 1000), some (.int 0), some (.int 0), some (.int 0), none] [] ((zu M.1 1 4 0), M.2) := e_X9_split_0 g M
set_option maxRecDepth 20000 in
theorem e_X9_split_0_1 (g : zg) (M : zM) : zX (t_X9_split g) 0 [some (.ref 1), some (.ref 1001), none, none, none, none] [] M = zX (t_X9_split g) 12 [some (.ref 1), some (.ref 1001), some (.int 0), some (.int 0), some (.int 0), none] [] ((zu M.1 1 4 0), M.2) := by
  refine Eq.trans (zX_rgN (tl_X9_split g) (hc_X9_split g) 11 _ _ _ _) ?_
  refine Eq.trans (Eq.trans (r_0 (act := oS (fSt 1 (gC (.int 0)))) rfl) (a_C)) ?_
  refine Eq.trans (Eq.trans (r_go (act := oS (fIst 2 2)) rfl rfl) (a_ist rfl rfl)) ?_
  refine Eq.trans (Eq.trans (r_go (act := oS (fSt 3 (gC (.int 0)))) rfl rfl) (a_C)) ?_
  refine Eq.trans (Eq.trans (r_go (act := oS (fIst 4 3)) rfl rfl) (a_ist rfl rfl)) ?_
  refine Eq.trans (Eq.trans (r_go (act := oS (fAld 5 0)) rfl rfl) (a_ald rfl)) ?_
  refine Eq.trans (Eq.trans (r_go (act := oS (fSt 6 (gC (.int 0)))) rfl rfl) (a_C)) ?_
  refine Eq.trans (Eq.trans (r_go (act := oS (fPi g 9 9 4)) rfl rfl) (a_pi (zO_1 g))) ?_
  refine Eq.trans (Eq.trans (r_go (act := oS (fSt 10 (gC (.int 0)))) rfl rfl) (a_C)) ?_
  refine Eq.trans (Eq.trans (r_go (act := oS (fIst 12 4)) rfl rfl) (a_ist rfl rfl)) ?_
  exact r_cut rfl rfl
theorem x_X9_split_0_1 (g : zg) (M : zM) : X_X9_split g [.ref 1, .ref 1001] M = zX (t_X9_split g) 12 [some (.ref 1), some (.ref 1001), some (.int 0), some (.int 0), some (.int 0), none] [] ((zu M.1 1 4 0), M.2) := e_X9_split_0_1 g M
set_option maxRecDepth 20000 in
theorem e_X9_split_0_2 (g : zg) (M : zM) : zX (t_X9_split g) 0 [some (.ref 1), some (.ref 1002), none, none, none, none] [] M = zX (t_X9_split g) 12 [some (.ref 1), some (.ref 1002), some (.int 0), some (.int 0), some (.int 0), none] [] ((zu M.1 1 4 0), M.2) := by
  refine Eq.trans (zX_rgN (tl_X9_split g) (hc_X9_split g) 11 _ _ _ _) ?_
  refine Eq.trans (Eq.trans (r_0 (act := oS (fSt 1 (gC (.int 0)))) rfl) (a_C)) ?_
  refine Eq.trans (Eq.trans (r_go (act := oS (fIst 2 2)) rfl rfl) (a_ist rfl rfl)) ?_
  refine Eq.trans (Eq.trans (r_go (act := oS (fSt 3 (gC (.int 0)))) rfl rfl) (a_C)) ?_
  refine Eq.trans (Eq.trans (r_go (act := oS (fIst 4 3)) rfl rfl) (a_ist rfl rfl)) ?_
  refine Eq.trans (Eq.trans (r_go (act := oS (fAld 5 0)) rfl rfl) (a_ald rfl)) ?_
  refine Eq.trans (Eq.trans (r_go (act := oS (fSt 6 (gC (.int 0)))) rfl rfl) (a_C)) ?_
  refine Eq.trans (Eq.trans (r_go (act := oS (fPi g 9 9 4)) rfl rfl) (a_pi (zO_1 g))) ?_
  refine Eq.trans (Eq.trans (r_go (act := oS (fSt 10 (gC (.int 0)))) rfl rfl) (a_C)) ?_
  refine Eq.trans (Eq.trans (r_go (act := oS (fIst 12 4)) rfl rfl) (a_ist rfl rfl)) ?_
  exact r_cut rfl rfl
theorem x_X9_split_0_2 (g : zg) (M : zM) : X_X9_split g [.ref 1, .ref 1002] M = zX (t_X9_split g) 12 [some (.ref 1), some (.ref 1002), some (.int 0), some (.int 0), some (.int 0), none] [] ((zu M.1 1 4 0), M.2) := e_X9_split_0_2 g M
set_option maxRecDepth 20000 in
theorem e_X9_split_12 (g : zg) (a2 : Int32) (a3 : Int32) (a4 : Int32) (M : zM) : zX (t_X9_split g) 12 [some (.ref 1), some (.ref 1000), some (.int a2), some (.int a3), some (.int a4), none] [] M = (bif cLt a4 400 then (bif cLt a3 (M.1 1 5) then (zbI (X_X9_runFrom g [.ref 1, .int a3] M) (fun x1 M1 => (bif zb a3 400 then (zbI (X_X9_isBlank g [.int (M1.1 2 (zx a3))] M1) (fun x2 M2 => (bif cEq0 x2 then (bif zb a2 401 then (zbI (X_X9_tokenOf g [.ref 1, .int a3, .int x1, .ref 1000] ((zu M2.1 5 (zx a2) a3), M2.2)) (fun x3 M3 => (bif zb a2 401 then (bif zb a2 401 then (bif cEq ((zu M3.1 3 (zx a2) x3) 3 (zx a2)) 1 then (zbI (X_X9_numberOf g [.ref 1, .int a3, .int x1] ((zu M3.1 3 (zx a2) x3), M3.2)) (fun x4 M4 => (bif zb a2 401 then zX (t_X9_split g) 12 [some (.ref 1), some (.ref 1000), some (.int (a2 + 1)), some (.int x1), some (.int (a4 + 1)), none] [] ((zu M4.1 4 (zx a2) x4), M4.2) else none))) else (bif zb a2 401 then zX (t_X9_split g) 12 [some (.ref 1), some (.ref 1000), some (.int (a2 + 1)), some (.int x1), some (.int (a4 + 1)), none] [] ((zu (zu M3.1 3 (zx a2) x3) 4 (zx a2) 0), M3.2) else none)) else none) else none))) else none) else zX (t_X9_split g) 12 [some (.ref 1), some (.ref 1000), some (.int a2), some (.int x1), some (.int (a4 + 1)), none] [] M2))) else none))) else (bif zb a2 401 then (bif zb a2 401 then some (none, ((zu (zu M.1 3 (zx a2) 0) 5 (zx a2) (M.1 1 5)), M.2)) else none) else none)) else (bif zb a2 401 then (bif zb a2 401 then some (none, ((zu (zu M.1 3 (zx a2) 0) 5 (zx a2) (M.1 1 5)), M.2)) else none) else none)) := by
  refine Eq.trans (zX_rgN (tl_X9_split g) (hc_X9_split g) 53 _ _ _ _) ?_
  refine Eq.trans (Eq.trans (Eq.trans (r_0 (act := oF [5] (oS (fIld 14 4))) rfl) (a_F rfl)) (a_ild rfl)) ?_
  refine Eq.trans (Eq.trans (r_go (act := oS (fSt 17 (gC (.int 400)))) rfl rfl) (a_C)) ?_
  refine Eq.trans (Eq.trans (r_go (act := oS (fCm 20 107 cLt)) rfl rfl) (a_cm)) (bcg ?_ ?_)
  · refine Eq.trans (Eq.trans (r_go (act := oS (fIld 21 3)) rfl rfl) (a_ild rfl)) ?_
    refine Eq.trans (Eq.trans (r_go (act := oS (fAld 22 0)) rfl rfl) (a_ald rfl)) ?_
    refine Eq.trans (Eq.trans (r_go (act := oS (fGi g 25 9 5)) rfl rfl) (a_gi (zO_1 g))) ?_
    refine Eq.trans (Eq.trans (r_go (act := oS (fCm 28 107 cLt)) rfl rfl) (a_cm)) (bcg ?_ ?_)
    · refine Eq.trans (Eq.trans (r_go (act := oS (fAld 29 0)) rfl rfl) (a_ald rfl)) ?_
      refine Eq.trans (Eq.trans (r_go (act := oS (fIld 30 3)) rfl rfl) (a_ild rfl)) ?_
      refine Eq.trans (Eq.trans (r_go (act := oCI 33 2 (zcv g 9) (X_X9_runFrom g)) rfl rfl) (a_cI rfl (zck (zO_1 g) rfl))) (zbI_cg (fun x1 M1 => ?_))
      refine Eq.trans (Eq.trans (r_go (act := oS (fIst 35 5)) rfl rfl) (a_ist rfl rfl)) ?_
      refine Eq.trans (Eq.trans (r_go (act := oS (fAld 36 0)) rfl rfl) (a_ald rfl)) ?_
      refine Eq.trans (Eq.trans (r_go (act := oS (fGr g 39 9 0)) rfl rfl) (a_gr (zO_1 g) (zR_1_0 g))) ?_
      refine Eq.trans (Eq.trans (r_go (act := oS (fIld 40 3)) rfl rfl) (a_ild rfl)) ?_
      refine Eq.trans (Eq.trans (r_go (act := oS (fIa g 41)) rfl rfl) (a_ia (zA_2 g) zS_2)) (bcg ?_ rfl)
      refine Eq.trans (Eq.trans (r_go (act := oCI 44 1 zcs (X_X9_isBlank g)) rfl rfl) (a_cI rfl rfl)) (zbI_cg (fun x2 M2 => ?_))
      refine Eq.trans (Eq.trans (r_go (act := oS (fIf 47 98 cEq0)) rfl rfl) (a_if)) (bcg ?_ ?_)
      · refine Eq.trans (Eq.trans (r_go (act := oS (fAld 48 0)) rfl rfl) (a_ald rfl)) ?_
        refine Eq.trans (Eq.trans (r_go (act := oS (fGr g 51 9 3)) rfl rfl) (a_gr (zO_1 g) (zR_1_3 g))) ?_
        refine Eq.trans (Eq.trans (r_go (act := oS (fIld 52 2)) rfl rfl) (a_ild rfl)) ?_
        refine Eq.trans (Eq.trans (r_go (act := oS (fIld 53 3)) rfl rfl) (a_ild rfl)) ?_
        refine Eq.trans (Eq.trans (r_go (act := oS (fIs g 54)) rfl rfl) (a_is (zA_5 g) zS_5)) (bcg ?_ rfl)
        refine Eq.trans (Eq.trans (r_go (act := oS (fAld 55 0)) rfl rfl) (a_ald rfl)) ?_
        refine Eq.trans (Eq.trans (r_go (act := oS (fGr g 58 9 1)) rfl rfl) (a_gr (zO_1 g) (zR_1_1 g))) ?_
        refine Eq.trans (Eq.trans (r_go (act := oS (fIld 59 2)) rfl rfl) (a_ild rfl)) ?_
        refine Eq.trans (Eq.trans (r_go (act := oS (fAld 60 0)) rfl rfl) (a_ald rfl)) ?_
        refine Eq.trans (Eq.trans (r_go (act := oS (fIld 61 3)) rfl rfl) (a_ild rfl)) ?_
        refine Eq.trans (Eq.trans (r_go (act := oS (fIld 63 5)) rfl rfl) (a_ild rfl)) ?_
        refine Eq.trans (Eq.trans (r_go (act := oS (fAld 64 1)) rfl rfl) (a_ald rfl)) ?_
        refine Eq.trans (Eq.trans (r_go (act := oCI 67 4 (zcv g 9) (X_X9_tokenOf g)) rfl rfl) (a_cI rfl (zck (zO_1 g) rfl))) (zbI_cg (fun x3 M3 => ?_))
        refine Eq.trans (Eq.trans (r_go (act := oS (fIs g 68)) rfl rfl) (a_is (zA_3 g) zS_3)) (bcg ?_ rfl)
        refine Eq.trans (Eq.trans (r_go (act := oS (fAld 69 0)) rfl rfl) (a_ald rfl)) ?_
        refine Eq.trans (Eq.trans (r_go (act := oS (fGr g 72 9 2)) rfl rfl) (a_gr (zO_1 g) (zR_1_2 g))) ?_
        refine Eq.trans (Eq.trans (r_go (act := oS (fIld 73 2)) rfl rfl) (a_ild rfl)) ?_
        refine Eq.trans (Eq.trans (r_go (act := oS (fAld 74 0)) rfl rfl) (a_ald rfl)) ?_
        refine Eq.trans (Eq.trans (r_go (act := oS (fGr g 77 9 1)) rfl rfl) (a_gr (zO_1 g) (zR_1_1 g))) ?_
        refine Eq.trans (Eq.trans (r_go (act := oS (fIld 78 2)) rfl rfl) (a_ild rfl)) ?_
        refine Eq.trans (Eq.trans (r_go (act := oS (fIa g 79)) rfl rfl) (a_ia (zA_3 g) zS_3)) (bcg ?_ rfl)
        refine Eq.trans (Eq.trans (r_go (act := oS (fSt 80 (gC (.int 1)))) rfl rfl) (a_C)) ?_
        refine Eq.trans (Eq.trans (r_go (act := oS (fCm 83 93 cEq)) rfl rfl) (a_cm)) (bcg ?_ ?_)
        · refine Eq.trans (Eq.trans (r_go (act := oS (fAld 84 0)) rfl rfl) (a_ald rfl)) ?_
          refine Eq.trans (Eq.trans (r_go (act := oS (fIld 85 3)) rfl rfl) (a_ild rfl)) ?_
          refine Eq.trans (Eq.trans (r_go (act := oS (fIld 87 5)) rfl rfl) (a_ild rfl)) ?_
          refine Eq.trans (Eq.trans (r_go (act := oCI 90 3 (zcv g 9) (X_X9_numberOf g)) rfl rfl) (a_cI rfl (zck (zO_1 g) rfl))) (zbI_cg (fun x4 M4 => ?_))
          refine Eq.trans (Eq.trans (r_go (act := oS (fGo 94)) rfl rfl) (a_goto)) ?_
          refine Eq.trans (Eq.trans (r_go (act := oS (fIs g 95)) rfl rfl) (a_is (zA_4 g) zS_4)) (bcg ?_ rfl)
          refine Eq.trans (Eq.trans (r_go (act := oS (fInc 98 2 1)) rfl rfl) (a_inc rfl rfl rfl)) ?_
          refine Eq.trans (Eq.trans (r_go (act := oS (fIld 100 5)) rfl rfl) (a_ild rfl)) ?_
          refine Eq.trans (Eq.trans (r_go (act := oS (fIst 101 3)) rfl rfl) (a_ist rfl rfl)) ?_
          refine Eq.trans (Eq.trans (r_go (act := oS (fInc 104 4 1)) rfl rfl) (a_inc rfl rfl rfl)) ?_
          refine Eq.trans (Eq.trans (r_go (act := oS (fGo 12)) rfl rfl) (a_goto)) ?_
          exact r_cut rfl rfl
        · refine Eq.trans (Eq.trans (r_go (act := oS (fSt 94 (gC (.int 0)))) rfl rfl) (a_C)) ?_
          refine Eq.trans (Eq.trans (r_go (act := oS (fIs g 95)) rfl rfl) (a_is (zA_4 g) zS_4)) (bcg ?_ rfl)
          refine Eq.trans (Eq.trans (r_go (act := oS (fInc 98 2 1)) rfl rfl) (a_inc rfl rfl rfl)) ?_
          refine Eq.trans (Eq.trans (r_go (act := oS (fIld 100 5)) rfl rfl) (a_ild rfl)) ?_
          refine Eq.trans (Eq.trans (r_go (act := oS (fIst 101 3)) rfl rfl) (a_ist rfl rfl)) ?_
          refine Eq.trans (Eq.trans (r_go (act := oS (fInc 104 4 1)) rfl rfl) (a_inc rfl rfl rfl)) ?_
          refine Eq.trans (Eq.trans (r_go (act := oS (fGo 12)) rfl rfl) (a_goto)) ?_
          exact r_cut rfl rfl
      · refine Eq.trans (Eq.trans (r_go (act := oS (fIld 100 5)) rfl rfl) (a_ild rfl)) ?_
        refine Eq.trans (Eq.trans (r_go (act := oS (fIst 101 3)) rfl rfl) (a_ist rfl rfl)) ?_
        refine Eq.trans (Eq.trans (r_go (act := oS (fInc 104 4 1)) rfl rfl) (a_inc rfl rfl rfl)) ?_
        refine Eq.trans (Eq.trans (r_go (act := oS (fGo 12)) rfl rfl) (a_goto)) ?_
        exact r_cut rfl rfl
    · refine Eq.trans (Eq.trans (r_go (act := oS (fAld 108 0)) rfl rfl) (a_ald rfl)) ?_
      refine Eq.trans (Eq.trans (r_go (act := oS (fGr g 111 9 1)) rfl rfl) (a_gr (zO_1 g) (zR_1_1 g))) ?_
      refine Eq.trans (Eq.trans (r_go (act := oS (fIld 112 2)) rfl rfl) (a_ild rfl)) ?_
      refine Eq.trans (Eq.trans (r_go (act := oS (fSt 113 (gC (.int 0)))) rfl rfl) (a_C)) ?_
      refine Eq.trans (Eq.trans (r_go (act := oS (fIs g 114)) rfl rfl) (a_is (zA_3 g) zS_3)) (bcg ?_ rfl)
      refine Eq.trans (Eq.trans (r_go (act := oS (fAld 115 0)) rfl rfl) (a_ald rfl)) ?_
      refine Eq.trans (Eq.trans (r_go (act := oS (fGr g 118 9 3)) rfl rfl) (a_gr (zO_1 g) (zR_1_3 g))) ?_
      refine Eq.trans (Eq.trans (r_go (act := oS (fIld 119 2)) rfl rfl) (a_ild rfl)) ?_
      refine Eq.trans (Eq.trans (r_go (act := oS (fAld 120 0)) rfl rfl) (a_ald rfl)) ?_
      refine Eq.trans (Eq.trans (r_go (act := oS (fGi g 123 9 5)) rfl rfl) (a_giV (zO_1 g) rfl)) ?_
      refine Eq.trans (Eq.trans (r_go (act := oS (fIs g 124)) rfl rfl) (a_is (zA_5 g) zS_5)) (bcg ?_ rfl)
      exact Eq.trans (r_go (act := oVret) rfl rfl) (a_vret)
  · refine Eq.trans (Eq.trans (r_go (act := oS (fAld 108 0)) rfl rfl) (a_ald rfl)) ?_
    refine Eq.trans (Eq.trans (r_go (act := oS (fGr g 111 9 1)) rfl rfl) (a_gr (zO_1 g) (zR_1_1 g))) ?_
    refine Eq.trans (Eq.trans (r_go (act := oS (fIld 112 2)) rfl rfl) (a_ild rfl)) ?_
    refine Eq.trans (Eq.trans (r_go (act := oS (fSt 113 (gC (.int 0)))) rfl rfl) (a_C)) ?_
    refine Eq.trans (Eq.trans (r_go (act := oS (fIs g 114)) rfl rfl) (a_is (zA_3 g) zS_3)) (bcg ?_ rfl)
    refine Eq.trans (Eq.trans (r_go (act := oS (fAld 115 0)) rfl rfl) (a_ald rfl)) ?_
    refine Eq.trans (Eq.trans (r_go (act := oS (fGr g 118 9 3)) rfl rfl) (a_gr (zO_1 g) (zR_1_3 g))) ?_
    refine Eq.trans (Eq.trans (r_go (act := oS (fIld 119 2)) rfl rfl) (a_ild rfl)) ?_
    refine Eq.trans (Eq.trans (r_go (act := oS (fAld 120 0)) rfl rfl) (a_ald rfl)) ?_
    refine Eq.trans (Eq.trans (r_go (act := oS (fGi g 123 9 5)) rfl rfl) (a_giV (zO_1 g) rfl)) ?_
    refine Eq.trans (Eq.trans (r_go (act := oS (fIs g 124)) rfl rfl) (a_is (zA_5 g) zS_5)) (bcg ?_ rfl)
    exact Eq.trans (r_go (act := oVret) rfl rfl) (a_vret)
set_option maxRecDepth 20000 in
theorem e_X9_split_12_1 (g : zg) (a2 : Int32) (a3 : Int32) (a4 : Int32) (M : zM) : zX (t_X9_split g) 12 [some (.ref 1), some (.ref 1001), some (.int a2), some (.int a3), some (.int a4), none] [] M = (bif cLt a4 400 then (bif cLt a3 (M.1 1 5) then (zbI (X_X9_runFrom g [.ref 1, .int a3] M) (fun x1 M1 => (bif zb a3 400 then (zbI (X_X9_isBlank g [.int (M1.1 2 (zx a3))] M1) (fun x2 M2 => (bif cEq0 x2 then (bif zb a2 401 then (zbI (X_X9_tokenOf g [.ref 1, .int a3, .int x1, .ref 1001] ((zu M2.1 5 (zx a2) a3), M2.2)) (fun x3 M3 => (bif zb a2 401 then (bif zb a2 401 then (bif cEq ((zu M3.1 3 (zx a2) x3) 3 (zx a2)) 1 then (zbI (X_X9_numberOf g [.ref 1, .int a3, .int x1] ((zu M3.1 3 (zx a2) x3), M3.2)) (fun x4 M4 => (bif zb a2 401 then zX (t_X9_split g) 12 [some (.ref 1), some (.ref 1001), some (.int (a2 + 1)), some (.int x1), some (.int (a4 + 1)), none] [] ((zu M4.1 4 (zx a2) x4), M4.2) else none))) else (bif zb a2 401 then zX (t_X9_split g) 12 [some (.ref 1), some (.ref 1001), some (.int (a2 + 1)), some (.int x1), some (.int (a4 + 1)), none] [] ((zu (zu M3.1 3 (zx a2) x3) 4 (zx a2) 0), M3.2) else none)) else none) else none))) else none) else zX (t_X9_split g) 12 [some (.ref 1), some (.ref 1001), some (.int a2), some (.int x1), some (.int (a4 + 1)), none] [] M2))) else none))) else (bif zb a2 401 then (bif zb a2 401 then some (none, ((zu (zu M.1 3 (zx a2) 0) 5 (zx a2) (M.1 1 5)), M.2)) else none) else none)) else (bif zb a2 401 then (bif zb a2 401 then some (none, ((zu (zu M.1 3 (zx a2) 0) 5 (zx a2) (M.1 1 5)), M.2)) else none) else none)) := by
  refine Eq.trans (zX_rgN (tl_X9_split g) (hc_X9_split g) 53 _ _ _ _) ?_
  refine Eq.trans (Eq.trans (Eq.trans (r_0 (act := oF [5] (oS (fIld 14 4))) rfl) (a_F rfl)) (a_ild rfl)) ?_
  refine Eq.trans (Eq.trans (r_go (act := oS (fSt 17 (gC (.int 400)))) rfl rfl) (a_C)) ?_
  refine Eq.trans (Eq.trans (r_go (act := oS (fCm 20 107 cLt)) rfl rfl) (a_cm)) (bcg ?_ ?_)
  · refine Eq.trans (Eq.trans (r_go (act := oS (fIld 21 3)) rfl rfl) (a_ild rfl)) ?_
    refine Eq.trans (Eq.trans (r_go (act := oS (fAld 22 0)) rfl rfl) (a_ald rfl)) ?_
    refine Eq.trans (Eq.trans (r_go (act := oS (fGi g 25 9 5)) rfl rfl) (a_gi (zO_1 g))) ?_
    refine Eq.trans (Eq.trans (r_go (act := oS (fCm 28 107 cLt)) rfl rfl) (a_cm)) (bcg ?_ ?_)
    · refine Eq.trans (Eq.trans (r_go (act := oS (fAld 29 0)) rfl rfl) (a_ald rfl)) ?_
      refine Eq.trans (Eq.trans (r_go (act := oS (fIld 30 3)) rfl rfl) (a_ild rfl)) ?_
      refine Eq.trans (Eq.trans (r_go (act := oCI 33 2 (zcv g 9) (X_X9_runFrom g)) rfl rfl) (a_cI rfl (zck (zO_1 g) rfl))) (zbI_cg (fun x1 M1 => ?_))
      refine Eq.trans (Eq.trans (r_go (act := oS (fIst 35 5)) rfl rfl) (a_ist rfl rfl)) ?_
      refine Eq.trans (Eq.trans (r_go (act := oS (fAld 36 0)) rfl rfl) (a_ald rfl)) ?_
      refine Eq.trans (Eq.trans (r_go (act := oS (fGr g 39 9 0)) rfl rfl) (a_gr (zO_1 g) (zR_1_0 g))) ?_
      refine Eq.trans (Eq.trans (r_go (act := oS (fIld 40 3)) rfl rfl) (a_ild rfl)) ?_
      refine Eq.trans (Eq.trans (r_go (act := oS (fIa g 41)) rfl rfl) (a_ia (zA_2 g) zS_2)) (bcg ?_ rfl)
      refine Eq.trans (Eq.trans (r_go (act := oCI 44 1 zcs (X_X9_isBlank g)) rfl rfl) (a_cI rfl rfl)) (zbI_cg (fun x2 M2 => ?_))
      refine Eq.trans (Eq.trans (r_go (act := oS (fIf 47 98 cEq0)) rfl rfl) (a_if)) (bcg ?_ ?_)
      · refine Eq.trans (Eq.trans (r_go (act := oS (fAld 48 0)) rfl rfl) (a_ald rfl)) ?_
        refine Eq.trans (Eq.trans (r_go (act := oS (fGr g 51 9 3)) rfl rfl) (a_gr (zO_1 g) (zR_1_3 g))) ?_
        refine Eq.trans (Eq.trans (r_go (act := oS (fIld 52 2)) rfl rfl) (a_ild rfl)) ?_
        refine Eq.trans (Eq.trans (r_go (act := oS (fIld 53 3)) rfl rfl) (a_ild rfl)) ?_
        refine Eq.trans (Eq.trans (r_go (act := oS (fIs g 54)) rfl rfl) (a_is (zA_5 g) zS_5)) (bcg ?_ rfl)
        refine Eq.trans (Eq.trans (r_go (act := oS (fAld 55 0)) rfl rfl) (a_ald rfl)) ?_
        refine Eq.trans (Eq.trans (r_go (act := oS (fGr g 58 9 1)) rfl rfl) (a_gr (zO_1 g) (zR_1_1 g))) ?_
        refine Eq.trans (Eq.trans (r_go (act := oS (fIld 59 2)) rfl rfl) (a_ild rfl)) ?_
        refine Eq.trans (Eq.trans (r_go (act := oS (fAld 60 0)) rfl rfl) (a_ald rfl)) ?_
        refine Eq.trans (Eq.trans (r_go (act := oS (fIld 61 3)) rfl rfl) (a_ild rfl)) ?_
        refine Eq.trans (Eq.trans (r_go (act := oS (fIld 63 5)) rfl rfl) (a_ild rfl)) ?_
        refine Eq.trans (Eq.trans (r_go (act := oS (fAld 64 1)) rfl rfl) (a_ald rfl)) ?_
        refine Eq.trans (Eq.trans (r_go (act := oCI 67 4 (zcv g 9) (X_X9_tokenOf g)) rfl rfl) (a_cI rfl (zck (zO_1 g) rfl))) (zbI_cg (fun x3 M3 => ?_))
        refine Eq.trans (Eq.trans (r_go (act := oS (fIs g 68)) rfl rfl) (a_is (zA_3 g) zS_3)) (bcg ?_ rfl)
        refine Eq.trans (Eq.trans (r_go (act := oS (fAld 69 0)) rfl rfl) (a_ald rfl)) ?_
        refine Eq.trans (Eq.trans (r_go (act := oS (fGr g 72 9 2)) rfl rfl) (a_gr (zO_1 g) (zR_1_2 g))) ?_
        refine Eq.trans (Eq.trans (r_go (act := oS (fIld 73 2)) rfl rfl) (a_ild rfl)) ?_
        refine Eq.trans (Eq.trans (r_go (act := oS (fAld 74 0)) rfl rfl) (a_ald rfl)) ?_
        refine Eq.trans (Eq.trans (r_go (act := oS (fGr g 77 9 1)) rfl rfl) (a_gr (zO_1 g) (zR_1_1 g))) ?_
        refine Eq.trans (Eq.trans (r_go (act := oS (fIld 78 2)) rfl rfl) (a_ild rfl)) ?_
        refine Eq.trans (Eq.trans (r_go (act := oS (fIa g 79)) rfl rfl) (a_ia (zA_3 g) zS_3)) (bcg ?_ rfl)
        refine Eq.trans (Eq.trans (r_go (act := oS (fSt 80 (gC (.int 1)))) rfl rfl) (a_C)) ?_
        refine Eq.trans (Eq.trans (r_go (act := oS (fCm 83 93 cEq)) rfl rfl) (a_cm)) (bcg ?_ ?_)
        · refine Eq.trans (Eq.trans (r_go (act := oS (fAld 84 0)) rfl rfl) (a_ald rfl)) ?_
          refine Eq.trans (Eq.trans (r_go (act := oS (fIld 85 3)) rfl rfl) (a_ild rfl)) ?_
          refine Eq.trans (Eq.trans (r_go (act := oS (fIld 87 5)) rfl rfl) (a_ild rfl)) ?_
          refine Eq.trans (Eq.trans (r_go (act := oCI 90 3 (zcv g 9) (X_X9_numberOf g)) rfl rfl) (a_cI rfl (zck (zO_1 g) rfl))) (zbI_cg (fun x4 M4 => ?_))
          refine Eq.trans (Eq.trans (r_go (act := oS (fGo 94)) rfl rfl) (a_goto)) ?_
          refine Eq.trans (Eq.trans (r_go (act := oS (fIs g 95)) rfl rfl) (a_is (zA_4 g) zS_4)) (bcg ?_ rfl)
          refine Eq.trans (Eq.trans (r_go (act := oS (fInc 98 2 1)) rfl rfl) (a_inc rfl rfl rfl)) ?_
          refine Eq.trans (Eq.trans (r_go (act := oS (fIld 100 5)) rfl rfl) (a_ild rfl)) ?_
          refine Eq.trans (Eq.trans (r_go (act := oS (fIst 101 3)) rfl rfl) (a_ist rfl rfl)) ?_
          refine Eq.trans (Eq.trans (r_go (act := oS (fInc 104 4 1)) rfl rfl) (a_inc rfl rfl rfl)) ?_
          refine Eq.trans (Eq.trans (r_go (act := oS (fGo 12)) rfl rfl) (a_goto)) ?_
          exact r_cut rfl rfl
        · refine Eq.trans (Eq.trans (r_go (act := oS (fSt 94 (gC (.int 0)))) rfl rfl) (a_C)) ?_
          refine Eq.trans (Eq.trans (r_go (act := oS (fIs g 95)) rfl rfl) (a_is (zA_4 g) zS_4)) (bcg ?_ rfl)
          refine Eq.trans (Eq.trans (r_go (act := oS (fInc 98 2 1)) rfl rfl) (a_inc rfl rfl rfl)) ?_
          refine Eq.trans (Eq.trans (r_go (act := oS (fIld 100 5)) rfl rfl) (a_ild rfl)) ?_
          refine Eq.trans (Eq.trans (r_go (act := oS (fIst 101 3)) rfl rfl) (a_ist rfl rfl)) ?_
          refine Eq.trans (Eq.trans (r_go (act := oS (fInc 104 4 1)) rfl rfl) (a_inc rfl rfl rfl)) ?_
          refine Eq.trans (Eq.trans (r_go (act := oS (fGo 12)) rfl rfl) (a_goto)) ?_
          exact r_cut rfl rfl
      · refine Eq.trans (Eq.trans (r_go (act := oS (fIld 100 5)) rfl rfl) (a_ild rfl)) ?_
        refine Eq.trans (Eq.trans (r_go (act := oS (fIst 101 3)) rfl rfl) (a_ist rfl rfl)) ?_
        refine Eq.trans (Eq.trans (r_go (act := oS (fInc 104 4 1)) rfl rfl) (a_inc rfl rfl rfl)) ?_
        refine Eq.trans (Eq.trans (r_go (act := oS (fGo 12)) rfl rfl) (a_goto)) ?_
        exact r_cut rfl rfl
    · refine Eq.trans (Eq.trans (r_go (act := oS (fAld 108 0)) rfl rfl) (a_ald rfl)) ?_
      refine Eq.trans (Eq.trans (r_go (act := oS (fGr g 111 9 1)) rfl rfl) (a_gr (zO_1 g) (zR_1_1 g))) ?_
      refine Eq.trans (Eq.trans (r_go (act := oS (fIld 112 2)) rfl rfl) (a_ild rfl)) ?_
      refine Eq.trans (Eq.trans (r_go (act := oS (fSt 113 (gC (.int 0)))) rfl rfl) (a_C)) ?_
      refine Eq.trans (Eq.trans (r_go (act := oS (fIs g 114)) rfl rfl) (a_is (zA_3 g) zS_3)) (bcg ?_ rfl)
      refine Eq.trans (Eq.trans (r_go (act := oS (fAld 115 0)) rfl rfl) (a_ald rfl)) ?_
      refine Eq.trans (Eq.trans (r_go (act := oS (fGr g 118 9 3)) rfl rfl) (a_gr (zO_1 g) (zR_1_3 g))) ?_
      refine Eq.trans (Eq.trans (r_go (act := oS (fIld 119 2)) rfl rfl) (a_ild rfl)) ?_
      refine Eq.trans (Eq.trans (r_go (act := oS (fAld 120 0)) rfl rfl) (a_ald rfl)) ?_
      refine Eq.trans (Eq.trans (r_go (act := oS (fGi g 123 9 5)) rfl rfl) (a_giV (zO_1 g) rfl)) ?_
      refine Eq.trans (Eq.trans (r_go (act := oS (fIs g 124)) rfl rfl) (a_is (zA_5 g) zS_5)) (bcg ?_ rfl)
      exact Eq.trans (r_go (act := oVret) rfl rfl) (a_vret)
  · refine Eq.trans (Eq.trans (r_go (act := oS (fAld 108 0)) rfl rfl) (a_ald rfl)) ?_
    refine Eq.trans (Eq.trans (r_go (act := oS (fGr g 111 9 1)) rfl rfl) (a_gr (zO_1 g) (zR_1_1 g))) ?_
    refine Eq.trans (Eq.trans (r_go (act := oS (fIld 112 2)) rfl rfl) (a_ild rfl)) ?_
    refine Eq.trans (Eq.trans (r_go (act := oS (fSt 113 (gC (.int 0)))) rfl rfl) (a_C)) ?_
    refine Eq.trans (Eq.trans (r_go (act := oS (fIs g 114)) rfl rfl) (a_is (zA_3 g) zS_3)) (bcg ?_ rfl)
    refine Eq.trans (Eq.trans (r_go (act := oS (fAld 115 0)) rfl rfl) (a_ald rfl)) ?_
    refine Eq.trans (Eq.trans (r_go (act := oS (fGr g 118 9 3)) rfl rfl) (a_gr (zO_1 g) (zR_1_3 g))) ?_
    refine Eq.trans (Eq.trans (r_go (act := oS (fIld 119 2)) rfl rfl) (a_ild rfl)) ?_
    refine Eq.trans (Eq.trans (r_go (act := oS (fAld 120 0)) rfl rfl) (a_ald rfl)) ?_
    refine Eq.trans (Eq.trans (r_go (act := oS (fGi g 123 9 5)) rfl rfl) (a_giV (zO_1 g) rfl)) ?_
    refine Eq.trans (Eq.trans (r_go (act := oS (fIs g 124)) rfl rfl) (a_is (zA_5 g) zS_5)) (bcg ?_ rfl)
    exact Eq.trans (r_go (act := oVret) rfl rfl) (a_vret)
set_option maxRecDepth 20000 in
theorem e_X9_split_12_2 (g : zg) (a2 : Int32) (a3 : Int32) (a4 : Int32) (M : zM) : zX (t_X9_split g) 12 [some (.ref 1), some (.ref 1002), some (.int a2), some (.int a3), some (.int a4), none] [] M = (bif cLt a4 400 then (bif cLt a3 (M.1 1 5) then (zbI (X_X9_runFrom g [.ref 1, .int a3] M) (fun x1 M1 => (bif zb a3 400 then (zbI (X_X9_isBlank g [.int (M1.1 2 (zx a3))] M1) (fun x2 M2 => (bif cEq0 x2 then (bif zb a2 401 then (zbI (X_X9_tokenOf g [.ref 1, .int a3, .int x1, .ref 1002] ((zu M2.1 5 (zx a2) a3), M2.2)) (fun x3 M3 => (bif zb a2 401 then (bif zb a2 401 then (bif cEq ((zu M3.1 3 (zx a2) x3) 3 (zx a2)) 1 then (zbI (X_X9_numberOf g [.ref 1, .int a3, .int x1] ((zu M3.1 3 (zx a2) x3), M3.2)) (fun x4 M4 => (bif zb a2 401 then zX (t_X9_split g) 12 [some (.ref 1), some (.ref 1002), some (.int (a2 + 1)), some (.int x1), some (.int (a4 + 1)), none] [] ((zu M4.1 4 (zx a2) x4), M4.2) else none))) else (bif zb a2 401 then zX (t_X9_split g) 12 [some (.ref 1), some (.ref 1002), some (.int (a2 + 1)), some (.int x1), some (.int (a4 + 1)), none] [] ((zu (zu M3.1 3 (zx a2) x3) 4 (zx a2) 0), M3.2) else none)) else none) else none))) else none) else zX (t_X9_split g) 12 [some (.ref 1), some (.ref 1002), some (.int a2), some (.int x1), some (.int (a4 + 1)), none] [] M2))) else none))) else (bif zb a2 401 then (bif zb a2 401 then some (none, ((zu (zu M.1 3 (zx a2) 0) 5 (zx a2) (M.1 1 5)), M.2)) else none) else none)) else (bif zb a2 401 then (bif zb a2 401 then some (none, ((zu (zu M.1 3 (zx a2) 0) 5 (zx a2) (M.1 1 5)), M.2)) else none) else none)) := by
  refine Eq.trans (zX_rgN (tl_X9_split g) (hc_X9_split g) 53 _ _ _ _) ?_
  refine Eq.trans (Eq.trans (Eq.trans (r_0 (act := oF [5] (oS (fIld 14 4))) rfl) (a_F rfl)) (a_ild rfl)) ?_
  refine Eq.trans (Eq.trans (r_go (act := oS (fSt 17 (gC (.int 400)))) rfl rfl) (a_C)) ?_
  refine Eq.trans (Eq.trans (r_go (act := oS (fCm 20 107 cLt)) rfl rfl) (a_cm)) (bcg ?_ ?_)
  · refine Eq.trans (Eq.trans (r_go (act := oS (fIld 21 3)) rfl rfl) (a_ild rfl)) ?_
    refine Eq.trans (Eq.trans (r_go (act := oS (fAld 22 0)) rfl rfl) (a_ald rfl)) ?_
    refine Eq.trans (Eq.trans (r_go (act := oS (fGi g 25 9 5)) rfl rfl) (a_gi (zO_1 g))) ?_
    refine Eq.trans (Eq.trans (r_go (act := oS (fCm 28 107 cLt)) rfl rfl) (a_cm)) (bcg ?_ ?_)
    · refine Eq.trans (Eq.trans (r_go (act := oS (fAld 29 0)) rfl rfl) (a_ald rfl)) ?_
      refine Eq.trans (Eq.trans (r_go (act := oS (fIld 30 3)) rfl rfl) (a_ild rfl)) ?_
      refine Eq.trans (Eq.trans (r_go (act := oCI 33 2 (zcv g 9) (X_X9_runFrom g)) rfl rfl) (a_cI rfl (zck (zO_1 g) rfl))) (zbI_cg (fun x1 M1 => ?_))
      refine Eq.trans (Eq.trans (r_go (act := oS (fIst 35 5)) rfl rfl) (a_ist rfl rfl)) ?_
      refine Eq.trans (Eq.trans (r_go (act := oS (fAld 36 0)) rfl rfl) (a_ald rfl)) ?_
      refine Eq.trans (Eq.trans (r_go (act := oS (fGr g 39 9 0)) rfl rfl) (a_gr (zO_1 g) (zR_1_0 g))) ?_
      refine Eq.trans (Eq.trans (r_go (act := oS (fIld 40 3)) rfl rfl) (a_ild rfl)) ?_
      refine Eq.trans (Eq.trans (r_go (act := oS (fIa g 41)) rfl rfl) (a_ia (zA_2 g) zS_2)) (bcg ?_ rfl)
      refine Eq.trans (Eq.trans (r_go (act := oCI 44 1 zcs (X_X9_isBlank g)) rfl rfl) (a_cI rfl rfl)) (zbI_cg (fun x2 M2 => ?_))
      refine Eq.trans (Eq.trans (r_go (act := oS (fIf 47 98 cEq0)) rfl rfl) (a_if)) (bcg ?_ ?_)
      · refine Eq.trans (Eq.trans (r_go (act := oS (fAld 48 0)) rfl rfl) (a_ald rfl)) ?_
        refine Eq.trans (Eq.trans (r_go (act := oS (fGr g 51 9 3)) rfl rfl) (a_gr (zO_1 g) (zR_1_3 g))) ?_
        refine Eq.trans (Eq.trans (r_go (act := oS (fIld 52 2)) rfl rfl) (a_ild rfl)) ?_
        refine Eq.trans (Eq.trans (r_go (act := oS (fIld 53 3)) rfl rfl) (a_ild rfl)) ?_
        refine Eq.trans (Eq.trans (r_go (act := oS (fIs g 54)) rfl rfl) (a_is (zA_5 g) zS_5)) (bcg ?_ rfl)
        refine Eq.trans (Eq.trans (r_go (act := oS (fAld 55 0)) rfl rfl) (a_ald rfl)) ?_
        refine Eq.trans (Eq.trans (r_go (act := oS (fGr g 58 9 1)) rfl rfl) (a_gr (zO_1 g) (zR_1_1 g))) ?_
        refine Eq.trans (Eq.trans (r_go (act := oS (fIld 59 2)) rfl rfl) (a_ild rfl)) ?_
        refine Eq.trans (Eq.trans (r_go (act := oS (fAld 60 0)) rfl rfl) (a_ald rfl)) ?_
        refine Eq.trans (Eq.trans (r_go (act := oS (fIld 61 3)) rfl rfl) (a_ild rfl)) ?_
        refine Eq.trans (Eq.trans (r_go (act := oS (fIld 63 5)) rfl rfl) (a_ild rfl)) ?_
        refine Eq.trans (Eq.trans (r_go (act := oS (fAld 64 1)) rfl rfl) (a_ald rfl)) ?_
        refine Eq.trans (Eq.trans (r_go (act := oCI 67 4 (zcv g 9) (X_X9_tokenOf g)) rfl rfl) (a_cI rfl (zck (zO_1 g) rfl))) (zbI_cg (fun x3 M3 => ?_))
        refine Eq.trans (Eq.trans (r_go (act := oS (fIs g 68)) rfl rfl) (a_is (zA_3 g) zS_3)) (bcg ?_ rfl)
        refine Eq.trans (Eq.trans (r_go (act := oS (fAld 69 0)) rfl rfl) (a_ald rfl)) ?_
        refine Eq.trans (Eq.trans (r_go (act := oS (fGr g 72 9 2)) rfl rfl) (a_gr (zO_1 g) (zR_1_2 g))) ?_
        refine Eq.trans (Eq.trans (r_go (act := oS (fIld 73 2)) rfl rfl) (a_ild rfl)) ?_
        refine Eq.trans (Eq.trans (r_go (act := oS (fAld 74 0)) rfl rfl) (a_ald rfl)) ?_
        refine Eq.trans (Eq.trans (r_go (act := oS (fGr g 77 9 1)) rfl rfl) (a_gr (zO_1 g) (zR_1_1 g))) ?_
        refine Eq.trans (Eq.trans (r_go (act := oS (fIld 78 2)) rfl rfl) (a_ild rfl)) ?_
        refine Eq.trans (Eq.trans (r_go (act := oS (fIa g 79)) rfl rfl) (a_ia (zA_3 g) zS_3)) (bcg ?_ rfl)
        refine Eq.trans (Eq.trans (r_go (act := oS (fSt 80 (gC (.int 1)))) rfl rfl) (a_C)) ?_
        refine Eq.trans (Eq.trans (r_go (act := oS (fCm 83 93 cEq)) rfl rfl) (a_cm)) (bcg ?_ ?_)
        · refine Eq.trans (Eq.trans (r_go (act := oS (fAld 84 0)) rfl rfl) (a_ald rfl)) ?_
          refine Eq.trans (Eq.trans (r_go (act := oS (fIld 85 3)) rfl rfl) (a_ild rfl)) ?_
          refine Eq.trans (Eq.trans (r_go (act := oS (fIld 87 5)) rfl rfl) (a_ild rfl)) ?_
          refine Eq.trans (Eq.trans (r_go (act := oCI 90 3 (zcv g 9) (X_X9_numberOf g)) rfl rfl) (a_cI rfl (zck (zO_1 g) rfl))) (zbI_cg (fun x4 M4 => ?_))
          refine Eq.trans (Eq.trans (r_go (act := oS (fGo 94)) rfl rfl) (a_goto)) ?_
          refine Eq.trans (Eq.trans (r_go (act := oS (fIs g 95)) rfl rfl) (a_is (zA_4 g) zS_4)) (bcg ?_ rfl)
          refine Eq.trans (Eq.trans (r_go (act := oS (fInc 98 2 1)) rfl rfl) (a_inc rfl rfl rfl)) ?_
          refine Eq.trans (Eq.trans (r_go (act := oS (fIld 100 5)) rfl rfl) (a_ild rfl)) ?_
          refine Eq.trans (Eq.trans (r_go (act := oS (fIst 101 3)) rfl rfl) (a_ist rfl rfl)) ?_
          refine Eq.trans (Eq.trans (r_go (act := oS (fInc 104 4 1)) rfl rfl) (a_inc rfl rfl rfl)) ?_
          refine Eq.trans (Eq.trans (r_go (act := oS (fGo 12)) rfl rfl) (a_goto)) ?_
          exact r_cut rfl rfl
        · refine Eq.trans (Eq.trans (r_go (act := oS (fSt 94 (gC (.int 0)))) rfl rfl) (a_C)) ?_
          refine Eq.trans (Eq.trans (r_go (act := oS (fIs g 95)) rfl rfl) (a_is (zA_4 g) zS_4)) (bcg ?_ rfl)
          refine Eq.trans (Eq.trans (r_go (act := oS (fInc 98 2 1)) rfl rfl) (a_inc rfl rfl rfl)) ?_
          refine Eq.trans (Eq.trans (r_go (act := oS (fIld 100 5)) rfl rfl) (a_ild rfl)) ?_
          refine Eq.trans (Eq.trans (r_go (act := oS (fIst 101 3)) rfl rfl) (a_ist rfl rfl)) ?_
          refine Eq.trans (Eq.trans (r_go (act := oS (fInc 104 4 1)) rfl rfl) (a_inc rfl rfl rfl)) ?_
          refine Eq.trans (Eq.trans (r_go (act := oS (fGo 12)) rfl rfl) (a_goto)) ?_
          exact r_cut rfl rfl
      · refine Eq.trans (Eq.trans (r_go (act := oS (fIld 100 5)) rfl rfl) (a_ild rfl)) ?_
        refine Eq.trans (Eq.trans (r_go (act := oS (fIst 101 3)) rfl rfl) (a_ist rfl rfl)) ?_
        refine Eq.trans (Eq.trans (r_go (act := oS (fInc 104 4 1)) rfl rfl) (a_inc rfl rfl rfl)) ?_
        refine Eq.trans (Eq.trans (r_go (act := oS (fGo 12)) rfl rfl) (a_goto)) ?_
        exact r_cut rfl rfl
    · refine Eq.trans (Eq.trans (r_go (act := oS (fAld 108 0)) rfl rfl) (a_ald rfl)) ?_
      refine Eq.trans (Eq.trans (r_go (act := oS (fGr g 111 9 1)) rfl rfl) (a_gr (zO_1 g) (zR_1_1 g))) ?_
      refine Eq.trans (Eq.trans (r_go (act := oS (fIld 112 2)) rfl rfl) (a_ild rfl)) ?_
      refine Eq.trans (Eq.trans (r_go (act := oS (fSt 113 (gC (.int 0)))) rfl rfl) (a_C)) ?_
      refine Eq.trans (Eq.trans (r_go (act := oS (fIs g 114)) rfl rfl) (a_is (zA_3 g) zS_3)) (bcg ?_ rfl)
      refine Eq.trans (Eq.trans (r_go (act := oS (fAld 115 0)) rfl rfl) (a_ald rfl)) ?_
      refine Eq.trans (Eq.trans (r_go (act := oS (fGr g 118 9 3)) rfl rfl) (a_gr (zO_1 g) (zR_1_3 g))) ?_
      refine Eq.trans (Eq.trans (r_go (act := oS (fIld 119 2)) rfl rfl) (a_ild rfl)) ?_
      refine Eq.trans (Eq.trans (r_go (act := oS (fAld 120 0)) rfl rfl) (a_ald rfl)) ?_
      refine Eq.trans (Eq.trans (r_go (act := oS (fGi g 123 9 5)) rfl rfl) (a_giV (zO_1 g) rfl)) ?_
      refine Eq.trans (Eq.trans (r_go (act := oS (fIs g 124)) rfl rfl) (a_is (zA_5 g) zS_5)) (bcg ?_ rfl)
      exact Eq.trans (r_go (act := oVret) rfl rfl) (a_vret)
  · refine Eq.trans (Eq.trans (r_go (act := oS (fAld 108 0)) rfl rfl) (a_ald rfl)) ?_
    refine Eq.trans (Eq.trans (r_go (act := oS (fGr g 111 9 1)) rfl rfl) (a_gr (zO_1 g) (zR_1_1 g))) ?_
    refine Eq.trans (Eq.trans (r_go (act := oS (fIld 112 2)) rfl rfl) (a_ild rfl)) ?_
    refine Eq.trans (Eq.trans (r_go (act := oS (fSt 113 (gC (.int 0)))) rfl rfl) (a_C)) ?_
    refine Eq.trans (Eq.trans (r_go (act := oS (fIs g 114)) rfl rfl) (a_is (zA_3 g) zS_3)) (bcg ?_ rfl)
    refine Eq.trans (Eq.trans (r_go (act := oS (fAld 115 0)) rfl rfl) (a_ald rfl)) ?_
    refine Eq.trans (Eq.trans (r_go (act := oS (fGr g 118 9 3)) rfl rfl) (a_gr (zO_1 g) (zR_1_3 g))) ?_
    refine Eq.trans (Eq.trans (r_go (act := oS (fIld 119 2)) rfl rfl) (a_ild rfl)) ?_
    refine Eq.trans (Eq.trans (r_go (act := oS (fAld 120 0)) rfl rfl) (a_ald rfl)) ?_
    refine Eq.trans (Eq.trans (r_go (act := oS (fGi g 123 9 5)) rfl rfl) (a_giV (zO_1 g) rfl)) ?_
    refine Eq.trans (Eq.trans (r_go (act := oS (fIs g 124)) rfl rfl) (a_is (zA_5 g) zS_5)) (bcg ?_ rfl)
    exact Eq.trans (r_go (act := oVret) rfl rfl) (a_vret)
set_option maxRecDepth 20000 in
theorem e_X9_token_0 (g : zg) (M : zM) : zX (t_X9_token g) 0 [some (.ref 1)] [] M = (bif zb (M.1 1 4) 401 then some (some (.int (M.1 3 (zx (M.1 1 4)))), M) else none) := by
  refine Eq.trans (zX_rgN (tl_X9_token g) (hc_X9_token g) 7 _ _ _ _) ?_
  refine Eq.trans (Eq.trans (r_0 (act := oS (fAld 1 0)) rfl) (a_ald rfl)) ?_
  refine Eq.trans (Eq.trans (r_go (act := oS (fGr g 4 9 1)) rfl rfl) (a_gr (zO_1 g) (zR_1_1 g))) ?_
  refine Eq.trans (Eq.trans (r_go (act := oS (fAld 5 0)) rfl rfl) (a_ald rfl)) ?_
  refine Eq.trans (Eq.trans (r_go (act := oS (fGi g 8 9 4)) rfl rfl) (a_gi (zO_1 g))) ?_
  refine Eq.trans (Eq.trans (r_go (act := oS (fIa g 9)) rfl rfl) (a_ia (zA_3 g) zS_3)) (bcg ?_ rfl)
  exact Eq.trans (r_go (act := oIret) rfl rfl) (a_iret)
theorem x_X9_token_0 (g : zg) (M : zM) : X_X9_token g [.ref 1] M = (bif zb (M.1 1 4) 401 then some (some (.int (M.1 3 (zx (M.1 1 4)))), M) else none) := e_X9_token_0 g M
set_option maxRecDepth 20000 in
theorem e_X9_refuse_0 (g : zg) (a1 : Int32) (M : zM) : zX (t_X9_refuse g) 0 [some (.ref 1), some (.int a1)] [] M = (bif zb (M.1 1 4) 401 then some (some (.int 0), ((zu (zu M.1 1 6 a1) 1 7 (M.1 5 (zx (M.1 1 4)))), M.2)) else none) := by
  refine Eq.trans (zX_rgN (tl_X9_refuse g) (hc_X9_refuse g) 13 _ _ _ _) ?_
  refine Eq.trans (Eq.trans (r_0 (act := oS (fAld 1 0)) rfl) (a_ald rfl)) ?_
  refine Eq.trans (Eq.trans (r_go (act := oS (fIld 2 1)) rfl rfl) (a_ild rfl)) ?_
  refine Eq.trans (Eq.trans (r_go (act := oS (fPi g 5 9 6)) rfl rfl) (a_pi (zO_1 g))) ?_
  refine Eq.trans (Eq.trans (r_go (act := oS (fAld 6 0)) rfl rfl) (a_ald rfl)) ?_
  refine Eq.trans (Eq.trans (r_go (act := oS (fAld 7 0)) rfl rfl) (a_ald rfl)) ?_
  refine Eq.trans (Eq.trans (r_go (act := oS (fGr g 10 9 3)) rfl rfl) (a_gr (zO_1 g) (zR_1_3 g))) ?_
  refine Eq.trans (Eq.trans (r_go (act := oS (fAld 11 0)) rfl rfl) (a_ald rfl)) ?_
  refine Eq.trans (Eq.trans (r_go (act := oS (fGi g 14 9 4)) rfl rfl) (a_giV (zO_1 g) rfl)) ?_
  refine Eq.trans (Eq.trans (r_go (act := oS (fIa g 15)) rfl rfl) (a_iaV (zA_5 g) zS_5 rfl)) (bcg ?_ rfl)
  refine Eq.trans (Eq.trans (r_go (act := oS (fPi g 18 9 7)) rfl rfl) (a_pi (zO_1 g))) ?_
  refine Eq.trans (Eq.trans (r_go (act := oS (fSt 19 (gC (.int 0)))) rfl rfl) (a_C)) ?_
  exact Eq.trans (Eq.trans (r_go (act := oZret) rfl rfl) a_zret) (bcT (by decide +kernel))
theorem x_X9_refuse_0 (g : zg) (a1 : Int32) (M : zM) : X_X9_refuse g [.ref 1, .int a1] M = (bif zb (M.1 1 4) 401 then some (some (.int 0), ((zu (zu M.1 1 6 a1) 1 7 (M.1 5 (zx (M.1 1 4)))), M.2)) else none) := e_X9_refuse_0 g a1 M
set_option maxRecDepth 20000 in
theorem e_X9_step_0 (g : zg) (M : zM) : zX (t_X9_step g) 0 [some (.ref 1)] [] M = (bif zb (M.1 1 4) 401 then (bif cEq0 (M.1 3 (zx (M.1 1 4))) then some (none, M) else (bif cLt (M.1 1 4) 400 then some (none, ((zu M.1 1 4 ((M.1 1 4) + 1)), M.2)) else some (none, M))) else none) := by
  refine Eq.trans (zX_rgN (tl_X9_step g) (hc_X9_step g) 18 _ _ _ _) ?_
  refine Eq.trans (Eq.trans (r_0 (act := oS (fAld 1 0)) rfl) (a_ald rfl)) ?_
  refine Eq.trans (Eq.trans (r_go (act := oS (fGr g 4 9 1)) rfl rfl) (a_gr (zO_1 g) (zR_1_1 g))) ?_
  refine Eq.trans (Eq.trans (r_go (act := oS (fAld 5 0)) rfl rfl) (a_ald rfl)) ?_
  refine Eq.trans (Eq.trans (r_go (act := oS (fGi g 8 9 4)) rfl rfl) (a_gi (zO_1 g))) ?_
  refine Eq.trans (Eq.trans (r_go (act := oS (fIa g 9)) rfl rfl) (a_ia (zA_3 g) zS_3)) (bcg ?_ rfl)
  refine Eq.trans (Eq.trans (r_go (act := oS (fIf 32 12 cEq0)) rfl rfl) (a_if)) (bcg ?_ ?_)
  · exact Eq.trans (r_go (act := oVret) rfl rfl) (a_vret)
  · refine Eq.trans (Eq.trans (r_go (act := oS (fAld 13 0)) rfl rfl) (a_ald rfl)) ?_
    refine Eq.trans (Eq.trans (r_go (act := oS (fGi g 16 9 4)) rfl rfl) (a_gi (zO_1 g))) ?_
    refine Eq.trans (Eq.trans (r_go (act := oS (fSt 19 (gC (.int 400)))) rfl rfl) (a_C)) ?_
    refine Eq.trans (Eq.trans (r_go (act := oS (fCm 22 32 cLt)) rfl rfl) (a_cm)) (bcg ?_ ?_)
    · refine Eq.trans (Eq.trans (r_go (act := oS (fAld 23 0)) rfl rfl) (a_ald rfl)) ?_
      refine Eq.trans (Eq.trans (r_go (act := oS (fSt 24 gDup)) rfl rfl) (a_dupR)) ?_
      refine Eq.trans (Eq.trans (r_go (act := oS (fGi g 27 9 4)) rfl rfl) (a_gi (zO_1 g))) ?_
      refine Eq.trans (Eq.trans (r_go (act := oS (fSt 28 (gC (.int 1)))) rfl rfl) (a_C)) ?_
      refine Eq.trans (Eq.trans (r_go (act := oS (fSt 29 (g2 (fun x y => x + y)))) rfl rfl) (a_add)) ?_
      refine Eq.trans (Eq.trans (r_go (act := oS (fPi g 32 9 4)) rfl rfl) (a_pi (zO_1 g))) ?_
      exact Eq.trans (r_go (act := oVret) rfl rfl) (a_vret)
    · exact Eq.trans (r_go (act := oVret) rfl rfl) (a_vret)
theorem x_X9_step_0 (g : zg) (M : zM) : X_X9_step g [.ref 1] M = (bif zb (M.1 1 4) 401 then (bif cEq0 (M.1 3 (zx (M.1 1 4))) then some (none, M) else (bif cLt (M.1 1 4) 400 then some (none, ((zu M.1 1 4 ((M.1 1 4) + 1)), M.2)) else some (none, M))) else none) := e_X9_step_0 g M
set_option maxRecDepth 20000 in
theorem e_X9_number_0 (g : zg) (M : zM) : zX (t_X9_number g) 0 [some (.ref 1)] [] M = (bif zb (M.1 1 4) 401 then some (some (.int (M.1 4 (zx (M.1 1 4)))), M) else none) := by
  refine Eq.trans (zX_rgN (tl_X9_number g) (hc_X9_number g) 7 _ _ _ _) ?_
  refine Eq.trans (Eq.trans (r_0 (act := oS (fAld 1 0)) rfl) (a_ald rfl)) ?_
  refine Eq.trans (Eq.trans (r_go (act := oS (fGr g 4 9 2)) rfl rfl) (a_gr (zO_1 g) (zR_1_2 g))) ?_
  refine Eq.trans (Eq.trans (r_go (act := oS (fAld 5 0)) rfl rfl) (a_ald rfl)) ?_
  refine Eq.trans (Eq.trans (r_go (act := oS (fGi g 8 9 4)) rfl rfl) (a_gi (zO_1 g))) ?_
  refine Eq.trans (Eq.trans (r_go (act := oS (fIa g 9)) rfl rfl) (a_ia (zA_4 g) zS_4)) (bcg ?_ rfl)
  exact Eq.trans (r_go (act := oIret) rfl rfl) (a_iret)
theorem x_X9_number_0 (g : zg) (M : zM) : X_X9_number g [.ref 1] M = (bif zb (M.1 1 4) 401 then some (some (.int (M.1 4 (zx (M.1 1 4)))), M) else none) := e_X9_number_0 g M
set_option maxRecDepth 20000 in
theorem e_X4_emit_0 (g : zg) (a1 : Int32) (M : zM) : zX (t_X4_emit g) 0 [some (.ref 56), some (.int a1)] [] M = (bif cLt (M.1 56 7) 400 then (bif zb (M.1 56 7) 400 then some (none, ((zu (zu M.1 61 (zx (M.1 56 7)) a1) 56 7 ((M.1 56 7) + 1)), M.2)) else none) else some (none, M)) := by
  refine Eq.trans (zX_rgN (tl_X4_emit g) (hc_X4_emit g) 18 _ _ _ _) ?_
  refine Eq.trans (Eq.trans (r_0 (act := oS (fAld 1 0)) rfl) (a_ald rfl)) ?_
  refine Eq.trans (Eq.trans (r_go (act := oS (fGi g 4 4 7)) rfl rfl) (a_gi (zO_56 g))) ?_
  refine Eq.trans (Eq.trans (r_go (act := oS (fSt 7 (gC (.int 400)))) rfl rfl) (a_C)) ?_
  refine Eq.trans (Eq.trans (r_go (act := oS (fCm 10 30 cLt)) rfl rfl) (a_cm)) (bcg ?_ ?_)
  · refine Eq.trans (Eq.trans (r_go (act := oS (fAld 11 0)) rfl rfl) (a_ald rfl)) ?_
    refine Eq.trans (Eq.trans (r_go (act := oS (fGr g 14 4 4)) rfl rfl) (a_gr (zO_56 g) (zR_56_4 g))) ?_
    refine Eq.trans (Eq.trans (r_go (act := oS (fAld 15 0)) rfl rfl) (a_ald rfl)) ?_
    refine Eq.trans (Eq.trans (r_go (act := oS (fGi g 18 4 7)) rfl rfl) (a_gi (zO_56 g))) ?_
    refine Eq.trans (Eq.trans (r_go (act := oS (fIld 19 1)) rfl rfl) (a_ild rfl)) ?_
    refine Eq.trans (Eq.trans (r_go (act := oS (fIs g 20)) rfl rfl) (a_is (zA_61 g) zS_61)) (bcg ?_ rfl)
    refine Eq.trans (Eq.trans (r_go (act := oS (fAld 21 0)) rfl rfl) (a_ald rfl)) ?_
    refine Eq.trans (Eq.trans (r_go (act := oS (fSt 22 gDup)) rfl rfl) (a_dupR)) ?_
    refine Eq.trans (Eq.trans (r_go (act := oS (fGi g 25 4 7)) rfl rfl) (a_giV (zO_56 g) rfl)) ?_
    refine Eq.trans (Eq.trans (r_go (act := oS (fSt 26 (gC (.int 1)))) rfl rfl) (a_C)) ?_
    refine Eq.trans (Eq.trans (r_go (act := oS (fSt 27 (g2 (fun x y => x + y)))) rfl rfl) (a_add)) ?_
    refine Eq.trans (Eq.trans (r_go (act := oS (fPi g 30 4 7)) rfl rfl) (a_pi (zO_56 g))) ?_
    exact Eq.trans (r_go (act := oVret) rfl rfl) (a_vret)
  · exact Eq.trans (r_go (act := oVret) rfl rfl) (a_vret)
theorem x_X4_emit_0 (g : zg) (a1 : Int32) (M : zM) : X_X4_emit g [.ref 56, .int a1] M = (bif cLt (M.1 56 7) 400 then (bif zb (M.1 56 7) 400 then some (none, ((zu (zu M.1 61 (zx (M.1 56 7)) a1) 56 7 ((M.1 56 7) + 1)), M.2)) else none) else some (none, M)) := e_X4_emit_0 g a1 M
set_option maxRecDepth 20000 in
theorem e_X4_readUnit_0 (g : zg) (a2 : Int32) (M : zM) : zX (t_X4_readUnit g) 0 [some (.ref 56), some (.ref 1), some (.int a2), none, none] [] M = (zbI (X_X9_token g [.ref 1] M) (fun x1 M1 => (bif cLt x1 128 then (bif cEq x1 1 then zX (t_X4_readUnit g) 46 [some (.ref 56), some (.ref 1), some (.int a2), some (.int x1), some (.int 0)] [] M1 else (bif cEq0 a2 then (zbI (X_X9_refuse g [.ref 1, .int 1] M1) (fun x2 M2 => (bif cEq (x2 &&& 1) x2 then some (some (.int x2), M2) else none))) else (zbI (X_X9_refuse g [.ref 1, .int 1] M1) (fun x3 M3 => (bif cEq (x3 &&& 1) x3 then some (some (.int x3), M3) else none))))) else (bif cLt x1 137 then (bif cEq x1 1 then zX (t_X4_readUnit g) 46 [some (.ref 56), some (.ref 1), some (.int a2), some (.int x1), some (.int 1)] [] M1 else (bif cEq0 a2 then zX (t_X4_readUnit g) 46 [some (.ref 56), some (.ref 1), some (.int a2), some (.int x1), some (.int 1)] [] M1 else (zbI (X_X9_refuse g [.ref 1, .int 1] M1) (fun x4 M4 => (bif cEq (x4 &&& 1) x4 then some (some (.int x4), M4) else none))))) else (bif cEq x1 1 then zX (t_X4_readUnit g) 46 [some (.ref 56), some (.ref 1), some (.int a2), some (.int x1), some (.int 0)] [] M1 else (bif cEq0 a2 then (zbI (X_X9_refuse g [.ref 1, .int 1] M1) (fun x5 M5 => (bif cEq (x5 &&& 1) x5 then some (some (.int x5), M5) else none))) else (zbI (X_X9_refuse g [.ref 1, .int 1] M1) (fun x6 M6 => (bif cEq (x6 &&& 1) x6 then some (some (.int x6), M6) else none))))))))) := by
  refine Eq.trans (zX_rgN (tl_X4_readUnit g) (hc_X4_readUnit g) 23 _ _ _ _) ?_
  refine Eq.trans (Eq.trans (r_0 (act := oS (fAld 1 1)) rfl) (a_ald rfl)) ?_
  refine Eq.trans (Eq.trans (r_go (act := oCI 4 1 (zcv g 9) (X_X9_token g)) rfl rfl) (a_cI rfl (zck (zO_1 g) rfl))) (zbI_cg (fun x1 M1 => ?_))
  refine Eq.trans (Eq.trans (r_go (act := oS (fIst 5 3)) rfl rfl) (a_ist rfl rfl)) ?_
  refine Eq.trans (Eq.trans (r_go (act := oS (fIld 6 3)) rfl rfl) (a_ild rfl)) ?_
  refine Eq.trans (Eq.trans (r_go (act := oS (fSt 9 (gC (.int 128)))) rfl rfl) (a_C)) ?_
  refine Eq.trans (Eq.trans (r_go (act := oS (fCm 23 12 cLt)) rfl rfl) (a_cm)) (bcg ?_ ?_)
  · refine Eq.trans (Eq.trans (r_go (act := oS (fSt 24 (gC (.int 0)))) rfl rfl) (a_C)) ?_
    refine Eq.trans (Eq.trans (r_go (act := oS (fIst 26 4)) rfl rfl) (a_ist rfl rfl)) ?_
    refine Eq.trans (Eq.trans (r_go (act := oS (fIld 27 3)) rfl rfl) (a_ild rfl)) ?_
    refine Eq.trans (Eq.trans (r_go (act := oS (fSt 28 (gC (.int 1)))) rfl rfl) (a_C)) ?_
    refine Eq.trans (Eq.trans (r_go (act := oS (fCm 46 31 cEq)) rfl rfl) (a_cm)) (bcg ?_ ?_)
    · exact r_cut rfl rfl
    · refine Eq.trans (Eq.trans (r_go (act := oS (fIld 32 2)) rfl rfl) (a_ild rfl)) ?_
      refine Eq.trans (Eq.trans (r_go (act := oS (fIf 35 40 cEq0)) rfl rfl) (a_if)) (bcg ?_ ?_)
      · refine Eq.trans (Eq.trans (r_go (act := oS (fIld 37 4)) rfl rfl) (a_ild rfl)) ?_
        refine Eq.trans (Eq.trans (r_go (act := oS (fIf 40 46 cEq0)) rfl rfl) (a_ifT (by decide +kernel))) ?_
        refine Eq.trans (Eq.trans (r_go (act := oS (fAld 41 1)) rfl rfl) (a_ald rfl)) ?_
        refine Eq.trans (Eq.trans (r_go (act := oS (fSt 42 (gC (.int 1)))) rfl rfl) (a_C)) ?_
        refine Eq.trans (Eq.trans (r_go (act := oCI 45 2 (zcv g 9) (X_X9_refuse g)) rfl rfl) (a_cI rfl (zck (zO_1 g) rfl))) (zbI_cg (fun x2 M2 => ?_))
        exact Eq.trans (r_go (act := oZret) rfl rfl) (a_zret)
      · refine Eq.trans (Eq.trans (r_go (act := oS (fAld 41 1)) rfl rfl) (a_ald rfl)) ?_
        refine Eq.trans (Eq.trans (r_go (act := oS (fSt 42 (gC (.int 1)))) rfl rfl) (a_C)) ?_
        refine Eq.trans (Eq.trans (r_go (act := oCI 45 2 (zcv g 9) (X_X9_refuse g)) rfl rfl) (a_cI rfl (zck (zO_1 g) rfl))) (zbI_cg (fun x3 M3 => ?_))
        exact Eq.trans (r_go (act := oZret) rfl rfl) (a_zret)
  · refine Eq.trans (Eq.trans (r_go (act := oS (fIld 13 3)) rfl rfl) (a_ild rfl)) ?_
    refine Eq.trans (Eq.trans (r_go (act := oS (fSt 16 (gC (.int 137)))) rfl rfl) (a_C)) ?_
    refine Eq.trans (Eq.trans (r_go (act := oS (fCm 19 23 cLt)) rfl rfl) (a_cm)) (bcg ?_ ?_)
    · refine Eq.trans (Eq.trans (r_go (act := oS (fSt 20 (gC (.int 1)))) rfl rfl) (a_C)) ?_
      refine Eq.trans (Eq.trans (r_go (act := oS (fGo 24)) rfl rfl) (a_goto)) ?_
      refine Eq.trans (Eq.trans (r_go (act := oS (fIst 26 4)) rfl rfl) (a_ist rfl rfl)) ?_
      refine Eq.trans (Eq.trans (r_go (act := oS (fIld 27 3)) rfl rfl) (a_ild rfl)) ?_
      refine Eq.trans (Eq.trans (r_go (act := oS (fSt 28 (gC (.int 1)))) rfl rfl) (a_C)) ?_
      refine Eq.trans (Eq.trans (r_go (act := oS (fCm 46 31 cEq)) rfl rfl) (a_cm)) (bcg ?_ ?_)
      · exact r_cut rfl rfl
      · refine Eq.trans (Eq.trans (r_go (act := oS (fIld 32 2)) rfl rfl) (a_ild rfl)) ?_
        refine Eq.trans (Eq.trans (r_go (act := oS (fIf 35 40 cEq0)) rfl rfl) (a_if)) (bcg ?_ ?_)
        · refine Eq.trans (Eq.trans (r_go (act := oS (fIld 37 4)) rfl rfl) (a_ild rfl)) ?_
          refine Eq.trans (Eq.trans (r_go (act := oS (fIf 40 46 cEq0)) rfl rfl) (a_ifF (by decide +kernel))) ?_
          exact r_cut rfl rfl
        · refine Eq.trans (Eq.trans (r_go (act := oS (fAld 41 1)) rfl rfl) (a_ald rfl)) ?_
          refine Eq.trans (Eq.trans (r_go (act := oS (fSt 42 (gC (.int 1)))) rfl rfl) (a_C)) ?_
          refine Eq.trans (Eq.trans (r_go (act := oCI 45 2 (zcv g 9) (X_X9_refuse g)) rfl rfl) (a_cI rfl (zck (zO_1 g) rfl))) (zbI_cg (fun x4 M4 => ?_))
          exact Eq.trans (r_go (act := oZret) rfl rfl) (a_zret)
    · refine Eq.trans (Eq.trans (r_go (act := oS (fSt 24 (gC (.int 0)))) rfl rfl) (a_C)) ?_
      refine Eq.trans (Eq.trans (r_go (act := oS (fIst 26 4)) rfl rfl) (a_ist rfl rfl)) ?_
      refine Eq.trans (Eq.trans (r_go (act := oS (fIld 27 3)) rfl rfl) (a_ild rfl)) ?_
      refine Eq.trans (Eq.trans (r_go (act := oS (fSt 28 (gC (.int 1)))) rfl rfl) (a_C)) ?_
      refine Eq.trans (Eq.trans (r_go (act := oS (fCm 46 31 cEq)) rfl rfl) (a_cm)) (bcg ?_ ?_)
      · exact r_cut rfl rfl
      · refine Eq.trans (Eq.trans (r_go (act := oS (fIld 32 2)) rfl rfl) (a_ild rfl)) ?_
        refine Eq.trans (Eq.trans (r_go (act := oS (fIf 35 40 cEq0)) rfl rfl) (a_if)) (bcg ?_ ?_)
        · refine Eq.trans (Eq.trans (r_go (act := oS (fIld 37 4)) rfl rfl) (a_ild rfl)) ?_
          refine Eq.trans (Eq.trans (r_go (act := oS (fIf 40 46 cEq0)) rfl rfl) (a_ifT (by decide +kernel))) ?_
          refine Eq.trans (Eq.trans (r_go (act := oS (fAld 41 1)) rfl rfl) (a_ald rfl)) ?_
          refine Eq.trans (Eq.trans (r_go (act := oS (fSt 42 (gC (.int 1)))) rfl rfl) (a_C)) ?_
          refine Eq.trans (Eq.trans (r_go (act := oCI 45 2 (zcv g 9) (X_X9_refuse g)) rfl rfl) (a_cI rfl (zck (zO_1 g) rfl))) (zbI_cg (fun x5 M5 => ?_))
          exact Eq.trans (r_go (act := oZret) rfl rfl) (a_zret)
        · refine Eq.trans (Eq.trans (r_go (act := oS (fAld 41 1)) rfl rfl) (a_ald rfl)) ?_
          refine Eq.trans (Eq.trans (r_go (act := oS (fSt 42 (gC (.int 1)))) rfl rfl) (a_C)) ?_
          refine Eq.trans (Eq.trans (r_go (act := oCI 45 2 (zcv g 9) (X_X9_refuse g)) rfl rfl) (a_cI rfl (zck (zO_1 g) rfl))) (zbI_cg (fun x6 M6 => ?_))
          exact Eq.trans (r_go (act := oZret) rfl rfl) (a_zret)
theorem x_X4_readUnit_0 (g : zg) (a2 : Int32) (M : zM) : X_X4_readUnit g [.ref 56, .ref 1, .int a2] M = (zbI (X_X9_token g [.ref 1] M) (fun x1 M1 => (bif cLt x1 128 then (bif cEq x1 1 then zX (t_X4_readUnit g) 46 [some (.ref 56), some (.ref 1), some (.int a2), some (.int x1), some (.int 0)] [] M1 else (bif cEq0 a2 then (zbI (X_X9_refuse g [.ref 1, .int 1] M1) (fun x2 M2 => (bif cEq (x2 &&& 1) x2 then some (some (.int x2), M2) else none))) else (zbI (X_X9_refuse g [.ref 1, .int 1] M1) (fun x3 M3 => (bif cEq (x3 &&& 1) x3 then some (some (.int x3), M3) else none))))) else (bif cLt x1 137 then (bif cEq x1 1 then zX (t_X4_readUnit g) 46 [some (.ref 56), some (.ref 1), some (.int a2), some (.int x1), some (.int 1)] [] M1 else (bif cEq0 a2 then zX (t_X4_readUnit g) 46 [some (.ref 56), some (.ref 1), some (.int a2), some (.int x1), some (.int 1)] [] M1 else (zbI (X_X9_refuse g [.ref 1, .int 1] M1) (fun x4 M4 => (bif cEq (x4 &&& 1) x4 then some (some (.int x4), M4) else none))))) else (bif cEq x1 1 then zX (t_X4_readUnit g) 46 [some (.ref 56), some (.ref 1), some (.int a2), some (.int x1), some (.int 0)] [] M1 else (bif cEq0 a2 then (zbI (X_X9_refuse g [.ref 1, .int 1] M1) (fun x5 M5 => (bif cEq (x5 &&& 1) x5 then some (some (.int x5), M5) else none))) else (zbI (X_X9_refuse g [.ref 1, .int 1] M1) (fun x6 M6 => (bif cEq (x6 &&& 1) x6 then some (some (.int x6), M6) else none))))))))) := e_X4_readUnit_0 g a2 M
set_option maxRecDepth 20000 in
theorem e_X4_readUnit_46 (g : zg) (a2 : Int32) (a3 : Int32) (a4 : Int32) (M : zM) : zX (t_X4_readUnit g) 46 [some (.ref 56), some (.ref 1), some (.int a2), some (.int a3), some (.int a4)] [] M = (bif cEq0 a2 then (bif cEq0 a4 then (zbI (X_X9_number g [.ref 1] M) (fun x1 M1 => (zbV (X_X4_emit g [.ref 56, .int x1] M1) (fun M2 => (zbV (X_X9_step g [.ref 1] M2) (fun M3 => some (some (.int 1), M3))))))) else (zbV (X_X4_emit g [.ref 56, .int (-a3)] M) (fun M4 => (zbV (X_X9_step g [.ref 1] M4) (fun M5 => some (some (.int 1), M5)))))) else (zbI (X_X9_number g [.ref 1] M) (fun x6 M6 => (bif cEq0 x6 then (zbI (X_X9_refuse g [.ref 1, .int 2] M6) (fun x7 M7 => (bif cEq (x7 &&& 1) x7 then some (some (.int x7), M7) else none))) else (bif cEq0 a4 then (zbI (X_X9_number g [.ref 1] M6) (fun x8 M8 => (zbV (X_X4_emit g [.ref 56, .int x8] M8) (fun M9 => (zbV (X_X9_step g [.ref 1] M9) (fun M10 => some (some (.int 1), M10))))))) else (zbV (X_X4_emit g [.ref 56, .int (-a3)] M6) (fun M11 => (zbV (X_X9_step g [.ref 1] M11) (fun M12 => some (some (.int 1), M12)))))))))) := by
  refine Eq.trans (zX_rgN (tl_X4_readUnit g) (hc_X4_readUnit g) 17 _ _ _ _) ?_
  refine Eq.trans (Eq.trans (Eq.trans (r_0 (act := oF [] (oS (fIld 47 2))) rfl) (a_F rfl)) (a_ild rfl)) ?_
  refine Eq.trans (Eq.trans (r_go (act := oS (fIf 63 50 cEq0)) rfl rfl) (a_if)) (bcg ?_ ?_)
  · refine Eq.trans (Eq.trans (r_go (act := oS (fAld 64 0)) rfl rfl) (a_ald rfl)) ?_
    refine Eq.trans (Eq.trans (r_go (act := oS (fIld 66 4)) rfl rfl) (a_ild rfl)) ?_
    refine Eq.trans (Eq.trans (r_go (act := oS (fIf 74 69 cEq0)) rfl rfl) (a_if)) (bcg ?_ ?_)
    · refine Eq.trans (Eq.trans (r_go (act := oS (fAld 75 1)) rfl rfl) (a_ald rfl)) ?_
      refine Eq.trans (Eq.trans (r_go (act := oCI 78 1 (zcv g 9) (X_X9_number g)) rfl rfl) (a_cI rfl (zck (zO_1 g) rfl))) (zbI_cg (fun x1 M1 => ?_))
      refine Eq.trans (Eq.trans (r_go (act := oCV 81 2 (zcv g 4) (X_X4_emit g)) rfl rfl) (a_cV rfl (zck (zO_56 g) rfl))) (zbV_cg (fun M2 => ?_))
      refine Eq.trans (Eq.trans (r_go (act := oS (fAld 82 1)) rfl rfl) (a_ald rfl)) ?_
      refine Eq.trans (Eq.trans (r_go (act := oCV 85 1 (zcv g 9) (X_X9_step g)) rfl rfl) (a_cV rfl (zck (zO_1 g) rfl))) (zbV_cg (fun M3 => ?_))
      refine Eq.trans (Eq.trans (r_go (act := oS (fSt 86 (gC (.int 1)))) rfl rfl) (a_C)) ?_
      exact Eq.trans (Eq.trans (r_go (act := oZret) rfl rfl) a_zret) (bcT (by decide +kernel))
    · refine Eq.trans (Eq.trans (r_go (act := oS (fIld 70 3)) rfl rfl) (a_ild rfl)) ?_
      refine Eq.trans (Eq.trans (r_go (act := oS (fSt 71 (g1 (fun x => -x)))) rfl rfl) (a_neg)) ?_
      refine Eq.trans (Eq.trans (r_go (act := oS (fGo 78)) rfl rfl) (a_goto)) ?_
      refine Eq.trans (Eq.trans (r_go (act := oCV 81 2 (zcv g 4) (X_X4_emit g)) rfl rfl) (a_cV rfl (zck (zO_56 g) rfl))) (zbV_cg (fun M4 => ?_))
      refine Eq.trans (Eq.trans (r_go (act := oS (fAld 82 1)) rfl rfl) (a_ald rfl)) ?_
      refine Eq.trans (Eq.trans (r_go (act := oCV 85 1 (zcv g 9) (X_X9_step g)) rfl rfl) (a_cV rfl (zck (zO_1 g) rfl))) (zbV_cg (fun M5 => ?_))
      refine Eq.trans (Eq.trans (r_go (act := oS (fSt 86 (gC (.int 1)))) rfl rfl) (a_C)) ?_
      exact Eq.trans (Eq.trans (r_go (act := oZret) rfl rfl) a_zret) (bcT (by decide +kernel))
  · refine Eq.trans (Eq.trans (r_go (act := oS (fAld 51 1)) rfl rfl) (a_ald rfl)) ?_
    refine Eq.trans (Eq.trans (r_go (act := oCI 54 1 (zcv g 9) (X_X9_number g)) rfl rfl) (a_cI rfl (zck (zO_1 g) rfl))) (zbI_cg (fun x6 M6 => ?_))
    refine Eq.trans (Eq.trans (r_go (act := oS (fIf 57 63 cEq0)) rfl rfl) (a_if)) (bcg ?_ ?_)
    · refine Eq.trans (Eq.trans (r_go (act := oS (fAld 58 1)) rfl rfl) (a_ald rfl)) ?_
      refine Eq.trans (Eq.trans (r_go (act := oS (fSt 59 (gC (.int 2)))) rfl rfl) (a_C)) ?_
      refine Eq.trans (Eq.trans (r_go (act := oCI 62 2 (zcv g 9) (X_X9_refuse g)) rfl rfl) (a_cI rfl (zck (zO_1 g) rfl))) (zbI_cg (fun x7 M7 => ?_))
      exact Eq.trans (r_go (act := oZret) rfl rfl) (a_zret)
    · refine Eq.trans (Eq.trans (r_go (act := oS (fAld 64 0)) rfl rfl) (a_ald rfl)) ?_
      refine Eq.trans (Eq.trans (r_go (act := oS (fIld 66 4)) rfl rfl) (a_ild rfl)) ?_
      refine Eq.trans (Eq.trans (r_go (act := oS (fIf 74 69 cEq0)) rfl rfl) (a_if)) (bcg ?_ ?_)
      · refine Eq.trans (Eq.trans (r_go (act := oS (fAld 75 1)) rfl rfl) (a_ald rfl)) ?_
        refine Eq.trans (Eq.trans (r_go (act := oCI 78 1 (zcv g 9) (X_X9_number g)) rfl rfl) (a_cI rfl (zck (zO_1 g) rfl))) (zbI_cg (fun x8 M8 => ?_))
        refine Eq.trans (Eq.trans (r_go (act := oCV 81 2 (zcv g 4) (X_X4_emit g)) rfl rfl) (a_cV rfl (zck (zO_56 g) rfl))) (zbV_cg (fun M9 => ?_))
        refine Eq.trans (Eq.trans (r_go (act := oS (fAld 82 1)) rfl rfl) (a_ald rfl)) ?_
        refine Eq.trans (Eq.trans (r_go (act := oCV 85 1 (zcv g 9) (X_X9_step g)) rfl rfl) (a_cV rfl (zck (zO_1 g) rfl))) (zbV_cg (fun M10 => ?_))
        refine Eq.trans (Eq.trans (r_go (act := oS (fSt 86 (gC (.int 1)))) rfl rfl) (a_C)) ?_
        exact Eq.trans (Eq.trans (r_go (act := oZret) rfl rfl) a_zret) (bcT (by decide +kernel))
      · refine Eq.trans (Eq.trans (r_go (act := oS (fIld 70 3)) rfl rfl) (a_ild rfl)) ?_
        refine Eq.trans (Eq.trans (r_go (act := oS (fSt 71 (g1 (fun x => -x)))) rfl rfl) (a_neg)) ?_
        refine Eq.trans (Eq.trans (r_go (act := oS (fGo 78)) rfl rfl) (a_goto)) ?_
        refine Eq.trans (Eq.trans (r_go (act := oCV 81 2 (zcv g 4) (X_X4_emit g)) rfl rfl) (a_cV rfl (zck (zO_56 g) rfl))) (zbV_cg (fun M11 => ?_))
        refine Eq.trans (Eq.trans (r_go (act := oS (fAld 82 1)) rfl rfl) (a_ald rfl)) ?_
        refine Eq.trans (Eq.trans (r_go (act := oCV 85 1 (zcv g 9) (X_X9_step g)) rfl rfl) (a_cV rfl (zck (zO_1 g) rfl))) (zbV_cg (fun M12 => ?_))
        refine Eq.trans (Eq.trans (r_go (act := oS (fSt 86 (gC (.int 1)))) rfl rfl) (a_C)) ?_
        exact Eq.trans (Eq.trans (r_go (act := oZret) rfl rfl) a_zret) (bcT (by decide +kernel))
set_option maxRecDepth 20000 in
theorem e_X4_readSum_0 (g : zg) (M : zM) : zX (t_X4_readSum g) 0 [some (.ref 56), some (.ref 1), none, none, none, none] [] M = zX (t_X4_readSum g) 7 [some (.ref 56), some (.ref 1), some (.int 0), some (.int 0), some (.int 0), none] [] M := by
  refine Eq.trans (zX_rgN (tl_X4_readSum g) (hc_X4_readSum g) 8 _ _ _ _) ?_
  refine Eq.trans (Eq.trans (r_0 (act := oS (fSt 1 (gC (.int 0)))) rfl) (a_C)) ?_
  refine Eq.trans (Eq.trans (r_go (act := oS (fIst 2 2)) rfl rfl) (a_ist rfl rfl)) ?_
  refine Eq.trans (Eq.trans (r_go (act := oS (fSt 3 (gC (.int 0)))) rfl rfl) (a_C)) ?_
  refine Eq.trans (Eq.trans (r_go (act := oS (fIst 4 3)) rfl rfl) (a_ist rfl rfl)) ?_
  refine Eq.trans (Eq.trans (r_go (act := oS (fSt 5 (gC (.int 0)))) rfl rfl) (a_C)) ?_
  refine Eq.trans (Eq.trans (r_go (act := oS (fIst 7 4)) rfl rfl) (a_ist rfl rfl)) ?_
  exact r_cut rfl rfl
theorem x_X4_readSum_0 (g : zg) (M : zM) : X_X4_readSum g [.ref 56, .ref 1] M = zX (t_X4_readSum g) 7 [some (.ref 56), some (.ref 1), some (.int 0), some (.int 0), some (.int 0), none] [] M := e_X4_readSum_0 g M
set_option maxRecDepth 20000 in
theorem e_X4_readSum_7 (g : zg) (a2 : Int32) (a3 : Int32) (a4 : Int32) (M : zM) : zX (t_X4_readSum g) 7 [some (.ref 56), some (.ref 1), some (.int a2), some (.int a3), some (.int a4), none] [] M = (bif cLt a4 400 then (bif cEq a3 47 then zX (t_X4_readSum g) 28 [some (.ref 56), some (.ref 1), some (.int a2), some (.int a3), some (.int a4), none] [.int 1, .ref 1, .ref 56] M else zX (t_X4_readSum g) 28 [some (.ref 56), some (.ref 1), some (.int a2), some (.int a3), some (.int a4), none] [.int 0, .ref 1, .ref 56] M) else (zbI (X_X9_refuse g [.ref 1, .int 1] M) (fun x1 M1 => (bif cEq (x1 &&& 1) x1 then some (some (.int x1), M1) else none)))) := by
  refine Eq.trans (zX_rgN (tl_X4_readSum g) (hc_X4_readSum g) 12 _ _ _ _) ?_
  refine Eq.trans (Eq.trans (Eq.trans (r_0 (act := oF [5] (oS (fIld 9 4))) rfl) (a_F rfl)) (a_ild rfl)) ?_
  refine Eq.trans (Eq.trans (r_go (act := oS (fSt 12 (gC (.int 400)))) rfl rfl) (a_C)) ?_
  refine Eq.trans (Eq.trans (r_go (act := oS (fCm 15 116 cLt)) rfl rfl) (a_cm)) (bcg ?_ ?_)
  · refine Eq.trans (Eq.trans (r_go (act := oS (fAld 16 0)) rfl rfl) (a_ald rfl)) ?_
    refine Eq.trans (Eq.trans (r_go (act := oS (fAld 17 1)) rfl rfl) (a_ald rfl)) ?_
    refine Eq.trans (Eq.trans (r_go (act := oS (fIld 18 3)) rfl rfl) (a_ild rfl)) ?_
    refine Eq.trans (Eq.trans (r_go (act := oS (fSt 20 (gC (.int 47)))) rfl rfl) (a_C)) ?_
    refine Eq.trans (Eq.trans (r_go (act := oS (fCm 23 27 cEq)) rfl rfl) (a_cm)) (bcg ?_ ?_)
    · refine Eq.trans (Eq.trans (r_go (act := oS (fSt 24 (gC (.int 1)))) rfl rfl) (a_C)) ?_
      refine Eq.trans (Eq.trans (r_go (act := oS (fGo 28)) rfl rfl) (a_goto)) ?_
      exact r_cut rfl rfl
    · refine Eq.trans (Eq.trans (r_go (act := oS (fSt 28 (gC (.int 0)))) rfl rfl) (a_C)) ?_
      exact r_cut rfl rfl
  · refine Eq.trans (Eq.trans (r_go (act := oS (fAld 117 1)) rfl rfl) (a_ald rfl)) ?_
    refine Eq.trans (Eq.trans (r_go (act := oS (fSt 118 (gC (.int 1)))) rfl rfl) (a_C)) ?_
    refine Eq.trans (Eq.trans (r_go (act := oCI 121 2 (zcv g 9) (X_X9_refuse g)) rfl rfl) (a_cI rfl (zck (zO_1 g) rfl))) (zbI_cg (fun x1 M1 => ?_))
    exact Eq.trans (r_go (act := oZret) rfl rfl) (a_zret)
set_option maxRecDepth 20000 in
theorem e_X4_readSum_28 (g : zg) (a2 : Int32) (a3 : Int32) (a4 : Int32) (s0 : Int32) (M : zM) : zX (t_X4_readSum g) 28 [some (.ref 56), some (.ref 1), some (.int a2), some (.int a3), some (.int a4), none] [.int s0, .ref 1, .ref 56] M = (zbI (X_X4_readUnit g [.ref 56, .ref 1, .int s0] M) (fun x1 M1 => (bif cEq0 x1 then some (some (.int 0), M1) else (bif cEq0 a3 then (zbI (X_X9_token g [.ref 1] M1) (fun x2 M2 => (bif cEq x2 42 then zX (t_X4_readSum g) 72 [some (.ref 56), some (.ref 1), some (.int a2), none, some (.int a4), some (.int x2)] [.int x2] M2 else (bif cEq x2 47 then zX (t_X4_readSum g) 72 [some (.ref 56), some (.ref 1), some (.int a2), none, some (.int a4), some (.int x2)] [.int x2] M2 else zX (t_X4_readSum g) 72 [some (.ref 56), some (.ref 1), some (.int a2), none, some (.int a4), some (.int x2)] [.int 0] M2)))) else (zbV (X_X4_emit g [.ref 56, .int (-a3)] M1) (fun M3 => (zbI (X_X9_token g [.ref 1] M3) (fun x4 M4 => (bif cEq x4 42 then zX (t_X4_readSum g) 72 [some (.ref 56), some (.ref 1), some (.int a2), none, some (.int a4), some (.int x4)] [.int x4] M4 else (bif cEq x4 47 then zX (t_X4_readSum g) 72 [some (.ref 56), some (.ref 1), some (.int a2), none, some (.int a4), some (.int x4)] [.int x4] M4 else zX (t_X4_readSum g) 72 [some (.ref 56), some (.ref 1), some (.int a2), none, some (.int a4), some (.int x4)] [.int 0] M4)))))))))) := by
  refine Eq.trans (zX_rgN (tl_X4_readSum g) (hc_X4_readSum g) 21 _ _ _ _) ?_
  refine Eq.trans (Eq.trans (Eq.trans (r_0 (act := oF [5] (oCI 31 3 (zcv g 4) (X_X4_readUnit g))) rfl) (a_F rfl)) (a_cI rfl (zck (zO_56 g) rfl))) (zbI_cg (fun x1 M1 => ?_))
  refine Eq.trans (Eq.trans (r_go (act := oS (fIf 34 36 cEq0)) rfl rfl) (a_if)) (bcg ?_ ?_)
  · refine Eq.trans (Eq.trans (r_go (act := oS (fSt 35 (gC (.int 0)))) rfl rfl) (a_C)) ?_
    exact Eq.trans (Eq.trans (r_go (act := oZret) rfl rfl) a_zret) (bcT (by decide +kernel))
  · refine Eq.trans (Eq.trans (r_go (act := oS (fIld 37 3)) rfl rfl) (a_ild rfl)) ?_
    refine Eq.trans (Eq.trans (r_go (act := oS (fIf 46 40 cEq0)) rfl rfl) (a_if)) (bcg ?_ ?_)
    · refine Eq.trans (Eq.trans (r_go (act := oS (fAld 47 1)) rfl rfl) (a_ald rfl)) ?_
      refine Eq.trans (Eq.trans (r_go (act := oCI 50 1 (zcv g 9) (X_X9_token g)) rfl rfl) (a_cI rfl (zck (zO_1 g) rfl))) (zbI_cg (fun x2 M2 => ?_))
      refine Eq.trans (Eq.trans (r_go (act := oS (fIst 52 5)) rfl rfl) (a_ist rfl rfl)) ?_
      refine Eq.trans (Eq.trans (r_go (act := oS (fIld 54 5)) rfl rfl) (a_ild rfl)) ?_
      refine Eq.trans (Eq.trans (r_go (act := oS (fSt 56 (gC (.int 42)))) rfl rfl) (a_C)) ?_
      refine Eq.trans (Eq.trans (r_go (act := oS (fCm 66 59 cEq)) rfl rfl) (a_cm)) (bcg ?_ ?_)
      · refine Eq.trans (Eq.trans (r_go (act := oS (fIld 68 5)) rfl rfl) (a_ild rfl)) ?_
        refine Eq.trans (Eq.trans (r_go (act := oS (fGo 72)) rfl rfl) (a_goto)) ?_
        exact r_cut rfl rfl
      · refine Eq.trans (Eq.trans (r_go (act := oS (fIld 61 5)) rfl rfl) (a_ild rfl)) ?_
        refine Eq.trans (Eq.trans (r_go (act := oS (fSt 63 (gC (.int 47)))) rfl rfl) (a_C)) ?_
        refine Eq.trans (Eq.trans (r_go (act := oS (fCm 66 71 cEq)) rfl rfl) (a_cm)) (bcg ?_ ?_)
        · refine Eq.trans (Eq.trans (r_go (act := oS (fIld 68 5)) rfl rfl) (a_ild rfl)) ?_
          refine Eq.trans (Eq.trans (r_go (act := oS (fGo 72)) rfl rfl) (a_goto)) ?_
          exact r_cut rfl rfl
        · refine Eq.trans (Eq.trans (r_go (act := oS (fSt 72 (gC (.int 0)))) rfl rfl) (a_C)) ?_
          exact r_cut rfl rfl
    · refine Eq.trans (Eq.trans (r_go (act := oS (fAld 41 0)) rfl rfl) (a_ald rfl)) ?_
      refine Eq.trans (Eq.trans (r_go (act := oS (fIld 42 3)) rfl rfl) (a_ild rfl)) ?_
      refine Eq.trans (Eq.trans (r_go (act := oS (fSt 43 (g1 (fun x => -x)))) rfl rfl) (a_neg)) ?_
      refine Eq.trans (Eq.trans (r_go (act := oCV 46 2 (zcv g 4) (X_X4_emit g)) rfl rfl) (a_cV rfl (zck (zO_56 g) rfl))) (zbV_cg (fun M3 => ?_))
      refine Eq.trans (Eq.trans (r_go (act := oS (fAld 47 1)) rfl rfl) (a_ald rfl)) ?_
      refine Eq.trans (Eq.trans (r_go (act := oCI 50 1 (zcv g 9) (X_X9_token g)) rfl rfl) (a_cI rfl (zck (zO_1 g) rfl))) (zbI_cg (fun x4 M4 => ?_))
      refine Eq.trans (Eq.trans (r_go (act := oS (fIst 52 5)) rfl rfl) (a_ist rfl rfl)) ?_
      refine Eq.trans (Eq.trans (r_go (act := oS (fIld 54 5)) rfl rfl) (a_ild rfl)) ?_
      refine Eq.trans (Eq.trans (r_go (act := oS (fSt 56 (gC (.int 42)))) rfl rfl) (a_C)) ?_
      refine Eq.trans (Eq.trans (r_go (act := oS (fCm 66 59 cEq)) rfl rfl) (a_cm)) (bcg ?_ ?_)
      · refine Eq.trans (Eq.trans (r_go (act := oS (fIld 68 5)) rfl rfl) (a_ild rfl)) ?_
        refine Eq.trans (Eq.trans (r_go (act := oS (fGo 72)) rfl rfl) (a_goto)) ?_
        exact r_cut rfl rfl
      · refine Eq.trans (Eq.trans (r_go (act := oS (fIld 61 5)) rfl rfl) (a_ild rfl)) ?_
        refine Eq.trans (Eq.trans (r_go (act := oS (fSt 63 (gC (.int 47)))) rfl rfl) (a_C)) ?_
        refine Eq.trans (Eq.trans (r_go (act := oS (fCm 66 71 cEq)) rfl rfl) (a_cm)) (bcg ?_ ?_)
        · refine Eq.trans (Eq.trans (r_go (act := oS (fIld 68 5)) rfl rfl) (a_ild rfl)) ?_
          refine Eq.trans (Eq.trans (r_go (act := oS (fGo 72)) rfl rfl) (a_goto)) ?_
          exact r_cut rfl rfl
        · refine Eq.trans (Eq.trans (r_go (act := oS (fSt 72 (gC (.int 0)))) rfl rfl) (a_C)) ?_
          exact r_cut rfl rfl
set_option maxRecDepth 20000 in
theorem e_X4_readSum_72 (g : zg) (a2 : Int32) (a4 : Int32) (a5 : Int32) (s0 : Int32) (M : zM) : zX (t_X4_readSum g) 72 [some (.ref 56), some (.ref 1), some (.int a2), none, some (.int a4), some (.int a5)] [.int s0] M = (bif cEq0 s0 then (bif cEq0 a2 then (bif cEq a5 43 then (zbV (X_X9_step g [.ref 1] M) (fun M1 => zX (t_X4_readSum g) 7 [some (.ref 56), some (.ref 1), some (.int a5), some (.int s0), some (.int (a4 + 1)), none] [] M1)) else (bif cEq a5 45 then (zbV (X_X9_step g [.ref 1] M) (fun M2 => zX (t_X4_readSum g) 7 [some (.ref 56), some (.ref 1), some (.int a5), some (.int s0), some (.int (a4 + 1)), none] [] M2)) else some (some (.int 1), M))) else (zbV (X_X4_emit g [.ref 56, .int (-a2)] M) (fun M3 => (bif cEq a5 43 then (zbV (X_X9_step g [.ref 1] M3) (fun M4 => zX (t_X4_readSum g) 7 [some (.ref 56), some (.ref 1), some (.int a5), some (.int s0), some (.int (a4 + 1)), none] [] M4)) else (bif cEq a5 45 then (zbV (X_X9_step g [.ref 1] M3) (fun M5 => zX (t_X4_readSum g) 7 [some (.ref 56), some (.ref 1), some (.int a5), some (.int s0), some (.int (a4 + 1)), none] [] M5)) else some (some (.int 1), M3)))))) else (zbV (X_X9_step g [.ref 1] M) (fun M6 => zX (t_X4_readSum g) 7 [some (.ref 56), some (.ref 1), some (.int a2), some (.int s0), some (.int (a4 + 1)), none] [] M6))) := by
  refine Eq.trans (zX_rgN (tl_X4_readSum g) (hc_X4_readSum g) 23 _ _ _ _) ?_
  refine Eq.trans (Eq.trans (Eq.trans (r_0 (act := oF [3] (oS (fIst 73 3))) rfl) (a_F rfl)) (a_ist rfl rfl)) ?_
  refine Eq.trans (Eq.trans (r_go (act := oS (fIld 74 3)) rfl rfl) (a_ild rfl)) ?_
  refine Eq.trans (Eq.trans (r_go (act := oS (fIf 77 106 cEq0)) rfl rfl) (a_if)) (bcg ?_ ?_)
  · refine Eq.trans (Eq.trans (r_go (act := oS (fIld 78 2)) rfl rfl) (a_ild rfl)) ?_
    refine Eq.trans (Eq.trans (r_go (act := oS (fIf 87 81 cEq0)) rfl rfl) (a_if)) (bcg ?_ ?_)
    · refine Eq.trans (Eq.trans (r_go (act := oS (fIld 89 5)) rfl rfl) (a_ild rfl)) ?_
      refine Eq.trans (Eq.trans (r_go (act := oS (fIst 90 2)) rfl rfl) (a_ist rfl rfl)) ?_
      refine Eq.trans (Eq.trans (r_go (act := oS (fIld 92 5)) rfl rfl) (a_ild rfl)) ?_
      refine Eq.trans (Eq.trans (r_go (act := oS (fSt 94 (gC (.int 43)))) rfl rfl) (a_C)) ?_
      refine Eq.trans (Eq.trans (r_go (act := oS (fCm 106 97 cEq)) rfl rfl) (a_cm)) (bcg ?_ ?_)
      · refine Eq.trans (Eq.trans (r_go (act := oS (fAld 107 1)) rfl rfl) (a_ald rfl)) ?_
        refine Eq.trans (Eq.trans (r_go (act := oCV 110 1 (zcv g 9) (X_X9_step g)) rfl rfl) (a_cV rfl (zck (zO_1 g) rfl))) (zbV_cg (fun M1 => ?_))
        refine Eq.trans (Eq.trans (r_go (act := oS (fInc 113 4 1)) rfl rfl) (a_inc rfl rfl rfl)) ?_
        refine Eq.trans (Eq.trans (r_go (act := oS (fGo 7)) rfl rfl) (a_goto)) ?_
        exact r_cut rfl rfl
      · refine Eq.trans (Eq.trans (r_go (act := oS (fIld 99 5)) rfl rfl) (a_ild rfl)) ?_
        refine Eq.trans (Eq.trans (r_go (act := oS (fSt 101 (gC (.int 45)))) rfl rfl) (a_C)) ?_
        refine Eq.trans (Eq.trans (r_go (act := oS (fCm 106 104 cEq)) rfl rfl) (a_cm)) (bcg ?_ ?_)
        · refine Eq.trans (Eq.trans (r_go (act := oS (fAld 107 1)) rfl rfl) (a_ald rfl)) ?_
          refine Eq.trans (Eq.trans (r_go (act := oCV 110 1 (zcv g 9) (X_X9_step g)) rfl rfl) (a_cV rfl (zck (zO_1 g) rfl))) (zbV_cg (fun M2 => ?_))
          refine Eq.trans (Eq.trans (r_go (act := oS (fInc 113 4 1)) rfl rfl) (a_inc rfl rfl rfl)) ?_
          refine Eq.trans (Eq.trans (r_go (act := oS (fGo 7)) rfl rfl) (a_goto)) ?_
          exact r_cut rfl rfl
        · refine Eq.trans (Eq.trans (r_go (act := oS (fSt 105 (gC (.int 1)))) rfl rfl) (a_C)) ?_
          exact Eq.trans (Eq.trans (r_go (act := oZret) rfl rfl) a_zret) (bcT (by decide +kernel))
    · refine Eq.trans (Eq.trans (r_go (act := oS (fAld 82 0)) rfl rfl) (a_ald rfl)) ?_
      refine Eq.trans (Eq.trans (r_go (act := oS (fIld 83 2)) rfl rfl) (a_ild rfl)) ?_
      refine Eq.trans (Eq.trans (r_go (act := oS (fSt 84 (g1 (fun x => -x)))) rfl rfl) (a_neg)) ?_
      refine Eq.trans (Eq.trans (r_go (act := oCV 87 2 (zcv g 4) (X_X4_emit g)) rfl rfl) (a_cV rfl (zck (zO_56 g) rfl))) (zbV_cg (fun M3 => ?_))
      refine Eq.trans (Eq.trans (r_go (act := oS (fIld 89 5)) rfl rfl) (a_ild rfl)) ?_
      refine Eq.trans (Eq.trans (r_go (act := oS (fIst 90 2)) rfl rfl) (a_ist rfl rfl)) ?_
      refine Eq.trans (Eq.trans (r_go (act := oS (fIld 92 5)) rfl rfl) (a_ild rfl)) ?_
      refine Eq.trans (Eq.trans (r_go (act := oS (fSt 94 (gC (.int 43)))) rfl rfl) (a_C)) ?_
      refine Eq.trans (Eq.trans (r_go (act := oS (fCm 106 97 cEq)) rfl rfl) (a_cm)) (bcg ?_ ?_)
      · refine Eq.trans (Eq.trans (r_go (act := oS (fAld 107 1)) rfl rfl) (a_ald rfl)) ?_
        refine Eq.trans (Eq.trans (r_go (act := oCV 110 1 (zcv g 9) (X_X9_step g)) rfl rfl) (a_cV rfl (zck (zO_1 g) rfl))) (zbV_cg (fun M4 => ?_))
        refine Eq.trans (Eq.trans (r_go (act := oS (fInc 113 4 1)) rfl rfl) (a_inc rfl rfl rfl)) ?_
        refine Eq.trans (Eq.trans (r_go (act := oS (fGo 7)) rfl rfl) (a_goto)) ?_
        exact r_cut rfl rfl
      · refine Eq.trans (Eq.trans (r_go (act := oS (fIld 99 5)) rfl rfl) (a_ild rfl)) ?_
        refine Eq.trans (Eq.trans (r_go (act := oS (fSt 101 (gC (.int 45)))) rfl rfl) (a_C)) ?_
        refine Eq.trans (Eq.trans (r_go (act := oS (fCm 106 104 cEq)) rfl rfl) (a_cm)) (bcg ?_ ?_)
        · refine Eq.trans (Eq.trans (r_go (act := oS (fAld 107 1)) rfl rfl) (a_ald rfl)) ?_
          refine Eq.trans (Eq.trans (r_go (act := oCV 110 1 (zcv g 9) (X_X9_step g)) rfl rfl) (a_cV rfl (zck (zO_1 g) rfl))) (zbV_cg (fun M5 => ?_))
          refine Eq.trans (Eq.trans (r_go (act := oS (fInc 113 4 1)) rfl rfl) (a_inc rfl rfl rfl)) ?_
          refine Eq.trans (Eq.trans (r_go (act := oS (fGo 7)) rfl rfl) (a_goto)) ?_
          exact r_cut rfl rfl
        · refine Eq.trans (Eq.trans (r_go (act := oS (fSt 105 (gC (.int 1)))) rfl rfl) (a_C)) ?_
          exact Eq.trans (Eq.trans (r_go (act := oZret) rfl rfl) a_zret) (bcT (by decide +kernel))
  · refine Eq.trans (Eq.trans (r_go (act := oS (fAld 107 1)) rfl rfl) (a_ald rfl)) ?_
    refine Eq.trans (Eq.trans (r_go (act := oCV 110 1 (zcv g 9) (X_X9_step g)) rfl rfl) (a_cV rfl (zck (zO_1 g) rfl))) (zbV_cg (fun M6 => ?_))
    refine Eq.trans (Eq.trans (r_go (act := oS (fInc 113 4 1)) rfl rfl) (a_inc rfl rfl rfl)) ?_
    refine Eq.trans (Eq.trans (r_go (act := oS (fGo 7)) rfl rfl) (a_goto)) ?_
    exact r_cut rfl rfl
set_option maxRecDepth 20000 in
theorem e_X9_expect_0 (g : zg) (a1 : Int32) (M : zM) : zX (t_X9_expect g) 0 [some (.ref 1), some (.int a1)] [] M = (bif zb (M.1 1 4) 401 then (bif cEq (M.1 3 (zx (M.1 1 4))) a1 then (zbV (X_X9_step g [.ref 1] M) (fun M1 => some (some (.int 1), M1))) else (zbI (X_X9_refuse g [.ref 1, .int 1] M) (fun x2 M2 => (bif cEq (x2 &&& 1) x2 then some (some (.int x2), M2) else none)))) else none) := by
  refine Eq.trans (zX_rgN (tl_X9_expect g) (hc_X9_expect g) 12 _ _ _ _) ?_
  refine Eq.trans (Eq.trans (r_0 (act := oS (fAld 1 0)) rfl) (a_ald rfl)) ?_
  refine Eq.trans (Eq.trans (r_go (act := oS (fGr g 4 9 1)) rfl rfl) (a_gr (zO_1 g) (zR_1_1 g))) ?_
  refine Eq.trans (Eq.trans (r_go (act := oS (fAld 5 0)) rfl rfl) (a_ald rfl)) ?_
  refine Eq.trans (Eq.trans (r_go (act := oS (fGi g 8 9 4)) rfl rfl) (a_gi (zO_1 g))) ?_
  refine Eq.trans (Eq.trans (r_go (act := oS (fIa g 9)) rfl rfl) (a_ia (zA_3 g) zS_3)) (bcg ?_ rfl)
  refine Eq.trans (Eq.trans (r_go (act := oS (fIld 10 1)) rfl rfl) (a_ild rfl)) ?_
  refine Eq.trans (Eq.trans (r_go (act := oS (fCm 19 13 cEq)) rfl rfl) (a_cm)) (bcg ?_ ?_)
  · refine Eq.trans (Eq.trans (r_go (act := oS (fAld 20 0)) rfl rfl) (a_ald rfl)) ?_
    refine Eq.trans (Eq.trans (r_go (act := oCV 23 1 (zcv g 9) (X_X9_step g)) rfl rfl) (a_cV rfl (zck (zO_1 g) rfl))) (zbV_cg (fun M1 => ?_))
    refine Eq.trans (Eq.trans (r_go (act := oS (fSt 24 (gC (.int 1)))) rfl rfl) (a_C)) ?_
    exact Eq.trans (Eq.trans (r_go (act := oZret) rfl rfl) a_zret) (bcT (by decide +kernel))
  · refine Eq.trans (Eq.trans (r_go (act := oS (fAld 14 0)) rfl rfl) (a_ald rfl)) ?_
    refine Eq.trans (Eq.trans (r_go (act := oS (fSt 15 (gC (.int 1)))) rfl rfl) (a_C)) ?_
    refine Eq.trans (Eq.trans (r_go (act := oCI 18 2 (zcv g 9) (X_X9_refuse g)) rfl rfl) (a_cI rfl (zck (zO_1 g) rfl))) (zbI_cg (fun x2 M2 => ?_))
    exact Eq.trans (r_go (act := oZret) rfl rfl) (a_zret)
theorem x_X9_expect_0 (g : zg) (a1 : Int32) (M : zM) : X_X9_expect g [.ref 1, .int a1] M = (bif zb (M.1 1 4) 401 then (bif cEq (M.1 3 (zx (M.1 1 4))) a1 then (zbV (X_X9_step g [.ref 1] M) (fun M1 => some (some (.int 1), M1))) else (zbI (X_X9_refuse g [.ref 1, .int 1] M) (fun x2 M2 => (bif cEq (x2 &&& 1) x2 then some (some (.int x2), M2) else none)))) else none) := e_X9_expect_0 g a1 M
set_option maxRecDepth 20000 in
theorem e_X4_readEither_0 (g : zg) (a2 : Int32) (n : Nat) (M : zM) : zX (t_X4_readEither g (X_T g n)) 0 [some (.ref 56), some (.ref 1), some (.int a2), none, none, none] [] M = zX (t_X4_readEither g (X_T g n)) 8 [some (.ref 56), some (.ref 1), some (.int a2), some (.int 0), some (.int 0), some (.int 0)] [] M := by
  refine Eq.trans (zX_rgN (tl_X4_readEither g n) (hc_X4_readEither g (X_T g n)) 8 _ _ _ _) ?_
  refine Eq.trans (Eq.trans (r_0 (act := oS (fSt 1 (gC (.int 0)))) rfl) (a_C)) ?_
  refine Eq.trans (Eq.trans (r_go (act := oS (fIst 2 3)) rfl rfl) (a_ist rfl rfl)) ?_
  refine Eq.trans (Eq.trans (r_go (act := oS (fSt 3 (gC (.int 0)))) rfl rfl) (a_C)) ?_
  refine Eq.trans (Eq.trans (r_go (act := oS (fIst 5 4)) rfl rfl) (a_ist rfl rfl)) ?_
  refine Eq.trans (Eq.trans (r_go (act := oS (fSt 6 (gC (.int 0)))) rfl rfl) (a_C)) ?_
  refine Eq.trans (Eq.trans (r_go (act := oS (fIst 8 5)) rfl rfl) (a_ist rfl rfl)) ?_
  exact r_cut rfl rfl
theorem x_X4_readEither_0 (g : zg) (a2 : Int32) (n : Nat) (M : zM) : X_E g n [.ref 56, .ref 1, .int a2] M = zX (t_X4_readEither g (X_T g n)) 8 [some (.ref 56), some (.ref 1), some (.int a2), some (.int 0), some (.int 0), some (.int 0)] [] M := e_X4_readEither_0 g a2 n M
set_option maxRecDepth 20000 in
theorem e_X4_readTest_0 (g : zg) (a2 : Int32) (n : Nat) (M : zM) : zX (t_X4_readTest g (X_E g n) (X_T g n)) 0 [some (.ref 56), some (.ref 1), some (.int a2), none, none] [] M = (zbI (X_X9_token g [.ref 1] M) (fun x1 M1 => (bif cEq x1 143 then zX (t_X4_readTest g (X_E g n) (X_T g n)) 18 [some (.ref 56), some (.ref 1), some (.int a2), some (.int x1), none] [] M1 else (bif cEq x1 40 then zX (t_X4_readTest g (X_E g n) (X_T g n)) 18 [some (.ref 56), some (.ref 1), some (.int a2), some (.int x1), none] [] M1 else (zbI (X_X4_readSum g [.ref 56, .ref 1] M1) (fun x2 M2 => (bif cEq0 x2 then some (some (.int 0), M2) else (zbI (X_X9_token g [.ref 1] M2) (fun x3 M3 => (bif cEq x3 60 then (zbV (X_X9_step g [.ref 1] M3) (fun M4 => (zbI (X_X4_readSum g [.ref 56, .ref 1] M4) (fun x5 M5 => (bif cEq0 x5 then some (some (.int 0), M5) else (zbV (X_X4_emit g [.ref 56, .int (-x3)] M5) (fun M6 => some (some (.int 1), M6)))))))) else (bif cEq x3 61 then (zbV (X_X9_step g [.ref 1] M3) (fun M7 => (zbI (X_X4_readSum g [.ref 56, .ref 1] M7) (fun x8 M8 => (bif cEq0 x8 then some (some (.int 0), M8) else (zbV (X_X4_emit g [.ref 56, .int (-x3)] M8) (fun M9 => some (some (.int 1), M9)))))))) else (bif cEq x3 62 then (zbV (X_X9_step g [.ref 1] M3) (fun M10 => (zbI (X_X4_readSum g [.ref 56, .ref 1] M10) (fun x11 M11 => (bif cEq0 x11 then some (some (.int 0), M11) else (zbV (X_X4_emit g [.ref 56, .int (-x3)] M11) (fun M12 => some (some (.int 1), M12)))))))) else (zbI (X_X9_refuse g [.ref 1, .int 1] M3) (fun x13 M13 => (bif cEq (x13 &&& 1) x13 then some (some (.int x13), M13) else none))))))))))))))) := by
  refine Eq.trans (zX_rgN (tl_X4_readTest g n) (hc_X4_readTest g (X_E g n) (X_T g n)) 38 _ _ _ _) ?_
  refine Eq.trans (Eq.trans (r_0 (act := oS (fAld 1 1)) rfl) (a_ald rfl)) ?_
  refine Eq.trans (Eq.trans (r_go (act := oCI 4 1 (zcv g 9) (X_X9_token g)) rfl rfl) (a_cI rfl (zck (zO_1 g) rfl))) (zbI_cg (fun x1 M1 => ?_))
  refine Eq.trans (Eq.trans (r_go (act := oS (fIst 5 3)) rfl rfl) (a_ist rfl rfl)) ?_
  refine Eq.trans (Eq.trans (r_go (act := oS (fIld 6 3)) rfl rfl) (a_ild rfl)) ?_
  refine Eq.trans (Eq.trans (r_go (act := oS (fSt 9 (gC (.int 143)))) rfl rfl) (a_C)) ?_
  refine Eq.trans (Eq.trans (r_go (act := oS (fCm 18 12 cEq)) rfl rfl) (a_cm)) (bcg ?_ ?_)
  · exact r_cut rfl rfl
  · refine Eq.trans (Eq.trans (r_go (act := oS (fIld 13 3)) rfl rfl) (a_ild rfl)) ?_
    refine Eq.trans (Eq.trans (r_go (act := oS (fSt 15 (gC (.int 40)))) rfl rfl) (a_C)) ?_
    refine Eq.trans (Eq.trans (r_go (act := oS (fCm 18 88 cEq)) rfl rfl) (a_cm)) (bcg ?_ ?_)
    · exact r_cut rfl rfl
    · refine Eq.trans (Eq.trans (r_go (act := oS (fAld 89 0)) rfl rfl) (a_ald rfl)) ?_
      refine Eq.trans (Eq.trans (r_go (act := oS (fAld 90 1)) rfl rfl) (a_ald rfl)) ?_
      refine Eq.trans (Eq.trans (r_go (act := oCI 93 2 (zcv g 4) (X_X4_readSum g)) rfl rfl) (a_cI rfl (zck (zO_56 g) rfl))) (zbI_cg (fun x2 M2 => ?_))
      refine Eq.trans (Eq.trans (r_go (act := oS (fIf 96 98 cEq0)) rfl rfl) (a_if)) (bcg ?_ ?_)
      · refine Eq.trans (Eq.trans (r_go (act := oS (fSt 97 (gC (.int 0)))) rfl rfl) (a_C)) ?_
        exact Eq.trans (Eq.trans (r_go (act := oZret) rfl rfl) a_zret) (bcT (by decide +kernel))
      · refine Eq.trans (Eq.trans (r_go (act := oS (fAld 99 1)) rfl rfl) (a_ald rfl)) ?_
        refine Eq.trans (Eq.trans (r_go (act := oCI 102 1 (zcv g 9) (X_X9_token g)) rfl rfl) (a_cI rfl (zck (zO_1 g) rfl))) (zbI_cg (fun x3 M3 => ?_))
        refine Eq.trans (Eq.trans (r_go (act := oS (fIst 104 4)) rfl rfl) (a_ist rfl rfl)) ?_
        refine Eq.trans (Eq.trans (r_go (act := oS (fIld 106 4)) rfl rfl) (a_ild rfl)) ?_
        refine Eq.trans (Eq.trans (r_go (act := oS (fSt 108 (gC (.int 60)))) rfl rfl) (a_C)) ?_
        refine Eq.trans (Eq.trans (r_go (act := oS (fCm 131 111 cEq)) rfl rfl) (a_cm)) (bcg ?_ ?_)
        · refine Eq.trans (Eq.trans (r_go (act := oS (fAld 132 1)) rfl rfl) (a_ald rfl)) ?_
          refine Eq.trans (Eq.trans (r_go (act := oCV 135 1 (zcv g 9) (X_X9_step g)) rfl rfl) (a_cV rfl (zck (zO_1 g) rfl))) (zbV_cg (fun M4 => ?_))
          refine Eq.trans (Eq.trans (r_go (act := oS (fAld 136 0)) rfl rfl) (a_ald rfl)) ?_
          refine Eq.trans (Eq.trans (r_go (act := oS (fAld 137 1)) rfl rfl) (a_ald rfl)) ?_
          refine Eq.trans (Eq.trans (r_go (act := oCI 140 2 (zcv g 4) (X_X4_readSum g)) rfl rfl) (a_cI rfl (zck (zO_56 g) rfl))) (zbI_cg (fun x5 M5 => ?_))
          refine Eq.trans (Eq.trans (r_go (act := oS (fIf 143 145 cEq0)) rfl rfl) (a_if)) (bcg ?_ ?_)
          · refine Eq.trans (Eq.trans (r_go (act := oS (fSt 144 (gC (.int 0)))) rfl rfl) (a_C)) ?_
            exact Eq.trans (Eq.trans (r_go (act := oZret) rfl rfl) a_zret) (bcT (by decide +kernel))
          · refine Eq.trans (Eq.trans (r_go (act := oS (fAld 146 0)) rfl rfl) (a_ald rfl)) ?_
            refine Eq.trans (Eq.trans (r_go (act := oS (fIld 148 4)) rfl rfl) (a_ild rfl)) ?_
            refine Eq.trans (Eq.trans (r_go (act := oS (fSt 149 (g1 (fun x => -x)))) rfl rfl) (a_neg)) ?_
            refine Eq.trans (Eq.trans (r_go (act := oCV 152 2 (zcv g 4) (X_X4_emit g)) rfl rfl) (a_cV rfl (zck (zO_56 g) rfl))) (zbV_cg (fun M6 => ?_))
            refine Eq.trans (Eq.trans (r_go (act := oS (fSt 153 (gC (.int 1)))) rfl rfl) (a_C)) ?_
            exact Eq.trans (Eq.trans (r_go (act := oZret) rfl rfl) a_zret) (bcT (by decide +kernel))
        · refine Eq.trans (Eq.trans (r_go (act := oS (fIld 113 4)) rfl rfl) (a_ild rfl)) ?_
          refine Eq.trans (Eq.trans (r_go (act := oS (fSt 115 (gC (.int 61)))) rfl rfl) (a_C)) ?_
          refine Eq.trans (Eq.trans (r_go (act := oS (fCm 131 118 cEq)) rfl rfl) (a_cm)) (bcg ?_ ?_)
          · refine Eq.trans (Eq.trans (r_go (act := oS (fAld 132 1)) rfl rfl) (a_ald rfl)) ?_
            refine Eq.trans (Eq.trans (r_go (act := oCV 135 1 (zcv g 9) (X_X9_step g)) rfl rfl) (a_cV rfl (zck (zO_1 g) rfl))) (zbV_cg (fun M7 => ?_))
            refine Eq.trans (Eq.trans (r_go (act := oS (fAld 136 0)) rfl rfl) (a_ald rfl)) ?_
            refine Eq.trans (Eq.trans (r_go (act := oS (fAld 137 1)) rfl rfl) (a_ald rfl)) ?_
            refine Eq.trans (Eq.trans (r_go (act := oCI 140 2 (zcv g 4) (X_X4_readSum g)) rfl rfl) (a_cI rfl (zck (zO_56 g) rfl))) (zbI_cg (fun x8 M8 => ?_))
            refine Eq.trans (Eq.trans (r_go (act := oS (fIf 143 145 cEq0)) rfl rfl) (a_if)) (bcg ?_ ?_)
            · refine Eq.trans (Eq.trans (r_go (act := oS (fSt 144 (gC (.int 0)))) rfl rfl) (a_C)) ?_
              exact Eq.trans (Eq.trans (r_go (act := oZret) rfl rfl) a_zret) (bcT (by decide +kernel))
            · refine Eq.trans (Eq.trans (r_go (act := oS (fAld 146 0)) rfl rfl) (a_ald rfl)) ?_
              refine Eq.trans (Eq.trans (r_go (act := oS (fIld 148 4)) rfl rfl) (a_ild rfl)) ?_
              refine Eq.trans (Eq.trans (r_go (act := oS (fSt 149 (g1 (fun x => -x)))) rfl rfl) (a_neg)) ?_
              refine Eq.trans (Eq.trans (r_go (act := oCV 152 2 (zcv g 4) (X_X4_emit g)) rfl rfl) (a_cV rfl (zck (zO_56 g) rfl))) (zbV_cg (fun M9 => ?_))
              refine Eq.trans (Eq.trans (r_go (act := oS (fSt 153 (gC (.int 1)))) rfl rfl) (a_C)) ?_
              exact Eq.trans (Eq.trans (r_go (act := oZret) rfl rfl) a_zret) (bcT (by decide +kernel))
          · refine Eq.trans (Eq.trans (r_go (act := oS (fIld 120 4)) rfl rfl) (a_ild rfl)) ?_
            refine Eq.trans (Eq.trans (r_go (act := oS (fSt 122 (gC (.int 62)))) rfl rfl) (a_C)) ?_
            refine Eq.trans (Eq.trans (r_go (act := oS (fCm 131 125 cEq)) rfl rfl) (a_cm)) (bcg ?_ ?_)
            · refine Eq.trans (Eq.trans (r_go (act := oS (fAld 132 1)) rfl rfl) (a_ald rfl)) ?_
              refine Eq.trans (Eq.trans (r_go (act := oCV 135 1 (zcv g 9) (X_X9_step g)) rfl rfl) (a_cV rfl (zck (zO_1 g) rfl))) (zbV_cg (fun M10 => ?_))
              refine Eq.trans (Eq.trans (r_go (act := oS (fAld 136 0)) rfl rfl) (a_ald rfl)) ?_
              refine Eq.trans (Eq.trans (r_go (act := oS (fAld 137 1)) rfl rfl) (a_ald rfl)) ?_
              refine Eq.trans (Eq.trans (r_go (act := oCI 140 2 (zcv g 4) (X_X4_readSum g)) rfl rfl) (a_cI rfl (zck (zO_56 g) rfl))) (zbI_cg (fun x11 M11 => ?_))
              refine Eq.trans (Eq.trans (r_go (act := oS (fIf 143 145 cEq0)) rfl rfl) (a_if)) (bcg ?_ ?_)
              · refine Eq.trans (Eq.trans (r_go (act := oS (fSt 144 (gC (.int 0)))) rfl rfl) (a_C)) ?_
                exact Eq.trans (Eq.trans (r_go (act := oZret) rfl rfl) a_zret) (bcT (by decide +kernel))
              · refine Eq.trans (Eq.trans (r_go (act := oS (fAld 146 0)) rfl rfl) (a_ald rfl)) ?_
                refine Eq.trans (Eq.trans (r_go (act := oS (fIld 148 4)) rfl rfl) (a_ild rfl)) ?_
                refine Eq.trans (Eq.trans (r_go (act := oS (fSt 149 (g1 (fun x => -x)))) rfl rfl) (a_neg)) ?_
                refine Eq.trans (Eq.trans (r_go (act := oCV 152 2 (zcv g 4) (X_X4_emit g)) rfl rfl) (a_cV rfl (zck (zO_56 g) rfl))) (zbV_cg (fun M12 => ?_))
                refine Eq.trans (Eq.trans (r_go (act := oS (fSt 153 (gC (.int 1)))) rfl rfl) (a_C)) ?_
                exact Eq.trans (Eq.trans (r_go (act := oZret) rfl rfl) a_zret) (bcT (by decide +kernel))
            · refine Eq.trans (Eq.trans (r_go (act := oS (fAld 126 1)) rfl rfl) (a_ald rfl)) ?_
              refine Eq.trans (Eq.trans (r_go (act := oS (fSt 127 (gC (.int 1)))) rfl rfl) (a_C)) ?_
              refine Eq.trans (Eq.trans (r_go (act := oCI 130 2 (zcv g 9) (X_X9_refuse g)) rfl rfl) (a_cI rfl (zck (zO_1 g) rfl))) (zbI_cg (fun x13 M13 => ?_))
              exact Eq.trans (r_go (act := oZret) rfl rfl) (a_zret)
theorem x_X4_readTest_0 (g : zg) (a2 : Int32) (n : Nat) (M : zM) : X_T g (n + 1) [.ref 56, .ref 1, .int a2] M = (zbI (X_X9_token g [.ref 1] M) (fun x1 M1 => (bif cEq x1 143 then zX (t_X4_readTest g (X_E g n) (X_T g n)) 18 [some (.ref 56), some (.ref 1), some (.int a2), some (.int x1), none] [] M1 else (bif cEq x1 40 then zX (t_X4_readTest g (X_E g n) (X_T g n)) 18 [some (.ref 56), some (.ref 1), some (.int a2), some (.int x1), none] [] M1 else (zbI (X_X4_readSum g [.ref 56, .ref 1] M1) (fun x2 M2 => (bif cEq0 x2 then some (some (.int 0), M2) else (zbI (X_X9_token g [.ref 1] M2) (fun x3 M3 => (bif cEq x3 60 then (zbV (X_X9_step g [.ref 1] M3) (fun M4 => (zbI (X_X4_readSum g [.ref 56, .ref 1] M4) (fun x5 M5 => (bif cEq0 x5 then some (some (.int 0), M5) else (zbV (X_X4_emit g [.ref 56, .int (-x3)] M5) (fun M6 => some (some (.int 1), M6)))))))) else (bif cEq x3 61 then (zbV (X_X9_step g [.ref 1] M3) (fun M7 => (zbI (X_X4_readSum g [.ref 56, .ref 1] M7) (fun x8 M8 => (bif cEq0 x8 then some (some (.int 0), M8) else (zbV (X_X4_emit g [.ref 56, .int (-x3)] M8) (fun M9 => some (some (.int 1), M9)))))))) else (bif cEq x3 62 then (zbV (X_X9_step g [.ref 1] M3) (fun M10 => (zbI (X_X4_readSum g [.ref 56, .ref 1] M10) (fun x11 M11 => (bif cEq0 x11 then some (some (.int 0), M11) else (zbV (X_X4_emit g [.ref 56, .int (-x3)] M11) (fun M12 => some (some (.int 1), M12)))))))) else (zbI (X_X9_refuse g [.ref 1, .int 1] M3) (fun x13 M13 => (bif cEq (x13 &&& 1) x13 then some (some (.int x13), M13) else none))))))))))))))) := e_X4_readTest_0 g a2 n M
set_option maxRecDepth 20000 in
theorem e_X4_readEither_8 (g : zg) (a2 : Int32) (a3 : Int32) (a4 : Int32) (a5 : Int32) (n : Nat) (M : zM) : zX (t_X4_readEither g (X_T g n)) 8 [some (.ref 56), some (.ref 1), some (.int a2), some (.int a3), some (.int a4), some (.int a5)] [] M = (bif cLt a5 400 then (zbI (X_T g n [.ref 56, .ref 1, .int a2] M) (fun x1 M1 => (bif cEq0 x1 then some (some (.int 0), M1) else (bif cEq0 a4 then zX (t_X4_readEither g (X_T g n)) 39 [some (.ref 56), some (.ref 1), some (.int a2), some (.int a3), none, some (.int a5)] [] M1 else (zbV (X_X4_emit g [.ref 56, .int (-142)] M1) (fun M2 => zX (t_X4_readEither g (X_T g n)) 39 [some (.ref 56), some (.ref 1), some (.int a2), some (.int a3), none, some (.int a5)] [] M2)))))) else (zbI (X_X9_refuse g [.ref 1, .int 1] M) (fun x3 M3 => (bif cEq (x3 &&& 1) x3 then some (some (.int x3), M3) else none)))) := by
  refine Eq.trans (zX_rgN (tl_X4_readEither g n) (hc_X4_readEither g (X_T g n)) 15 _ _ _ _) ?_
  refine Eq.trans (Eq.trans (Eq.trans (r_0 (act := oF [] (oS (fIld 10 5))) rfl) (a_F rfl)) (a_ild rfl)) ?_
  refine Eq.trans (Eq.trans (r_go (act := oS (fSt 13 (gC (.int 400)))) rfl rfl) (a_C)) ?_
  refine Eq.trans (Eq.trans (r_go (act := oS (fCm 16 104 cLt)) rfl rfl) (a_cm)) (bcg ?_ ?_)
  · refine Eq.trans (Eq.trans (r_go (act := oS (fAld 17 0)) rfl rfl) (a_ald rfl)) ?_
    refine Eq.trans (Eq.trans (r_go (act := oS (fAld 18 1)) rfl rfl) (a_ald rfl)) ?_
    refine Eq.trans (Eq.trans (r_go (act := oS (fIld 19 2)) rfl rfl) (a_ild rfl)) ?_
    refine Eq.trans (Eq.trans (r_go (act := oCI 22 3 (zcv g 4) (X_T g n)) rfl rfl) (a_cI rfl (zck (zO_56 g) rfl))) (zbI_cg (fun x1 M1 => ?_))
    refine Eq.trans (Eq.trans (r_go (act := oS (fIf 25 27 cEq0)) rfl rfl) (a_if)) (bcg ?_ ?_)
    · refine Eq.trans (Eq.trans (r_go (act := oS (fSt 26 (gC (.int 0)))) rfl rfl) (a_C)) ?_
      exact Eq.trans (Eq.trans (r_go (act := oZret) rfl rfl) a_zret) (bcT (by decide +kernel))
    · refine Eq.trans (Eq.trans (r_go (act := oS (fIld 29 4)) rfl rfl) (a_ild rfl)) ?_
      refine Eq.trans (Eq.trans (r_go (act := oS (fIf 39 32 cEq0)) rfl rfl) (a_if)) (bcg ?_ ?_)
      · exact r_cut rfl rfl
      · refine Eq.trans (Eq.trans (r_go (act := oS (fAld 33 0)) rfl rfl) (a_ald rfl)) ?_
        refine Eq.trans (Eq.trans (r_go (act := oS (fSt 36 (gC (.int (-142))))) rfl rfl) (a_C)) ?_
        refine Eq.trans (Eq.trans (r_go (act := oCV 39 2 (zcv g 4) (X_X4_emit g)) rfl rfl) (a_cV rfl (zck (zO_56 g) rfl))) (zbV_cg (fun M2 => ?_))
        exact r_cut rfl rfl
  · refine Eq.trans (Eq.trans (r_go (act := oS (fAld 105 1)) rfl rfl) (a_ald rfl)) ?_
    refine Eq.trans (Eq.trans (r_go (act := oS (fSt 106 (gC (.int 1)))) rfl rfl) (a_C)) ?_
    refine Eq.trans (Eq.trans (r_go (act := oCI 109 2 (zcv g 9) (X_X9_refuse g)) rfl rfl) (a_cI rfl (zck (zO_1 g) rfl))) (zbI_cg (fun x3 M3 => ?_))
    exact Eq.trans (r_go (act := oZret) rfl rfl) (a_zret)
set_option maxRecDepth 20000 in
theorem e_X4_readTest_18 (g : zg) (a2 : Int32) (a3 : Int32) (n : Nat) (M : zM) : zX (t_X4_readTest g (X_E g n) (X_T g n)) 18 [some (.ref 56), some (.ref 1), some (.int a2), some (.int a3), none] [] M = (bif cLt a2 8 then (zbV (X_X9_step g [.ref 1] M) (fun M1 => (bif cEq a3 40 then (zbI (X_E g n [.ref 56, .ref 1, .int (a2 + 1)] M1) (fun x2 M2 => (bif cEq0 x2 then some (some (.int 0), M2) else (zbI (X_X9_expect g [.ref 1, .int 41] M2) (fun x3 M3 => (bif cEq0 x3 then some (some (.int 0), M3) else some (some (.int 1), M3))))))) else (zbI (X_T g n [.ref 56, .ref 1, .int (a2 + 1)] M1) (fun x4 M4 => (bif cEq0 x4 then some (some (.int 0), M4) else (zbV (X_X4_emit g [.ref 56, .int (-143)] M4) (fun M5 => some (some (.int 1), M5))))))))) else (zbI (X_X9_refuse g [.ref 1, .int 3] M) (fun x6 M6 => (bif cEq (x6 &&& 1) x6 then some (some (.int x6), M6) else none)))) := by
  refine Eq.trans (zX_rgN (tl_X4_readTest g n) (hc_X4_readTest g (X_E g n) (X_T g n)) 23 _ _ _ _) ?_
  refine Eq.trans (Eq.trans (Eq.trans (r_0 (act := oF [4] (oS (fIld 19 2))) rfl) (a_F rfl)) (a_ild rfl)) ?_
  refine Eq.trans (Eq.trans (r_go (act := oS (fSt 21 (gC (.int 8)))) rfl rfl) (a_C)) ?_
  refine Eq.trans (Eq.trans (r_go (act := oS (fCm 30 24 cLt)) rfl rfl) (a_cm)) (bcg ?_ ?_)
  · refine Eq.trans (Eq.trans (r_go (act := oS (fAld 31 1)) rfl rfl) (a_ald rfl)) ?_
    refine Eq.trans (Eq.trans (r_go (act := oCV 34 1 (zcv g 9) (X_X9_step g)) rfl rfl) (a_cV rfl (zck (zO_1 g) rfl))) (zbV_cg (fun M1 => ?_))
    refine Eq.trans (Eq.trans (r_go (act := oS (fIld 35 3)) rfl rfl) (a_ild rfl)) ?_
    refine Eq.trans (Eq.trans (r_go (act := oS (fSt 37 (gC (.int 40)))) rfl rfl) (a_C)) ?_
    refine Eq.trans (Eq.trans (r_go (act := oS (fCm 40 66 cEq)) rfl rfl) (a_cm)) (bcg ?_ ?_)
    · refine Eq.trans (Eq.trans (r_go (act := oS (fAld 41 0)) rfl rfl) (a_ald rfl)) ?_
      refine Eq.trans (Eq.trans (r_go (act := oS (fAld 42 1)) rfl rfl) (a_ald rfl)) ?_
      refine Eq.trans (Eq.trans (r_go (act := oS (fIld 43 2)) rfl rfl) (a_ild rfl)) ?_
      refine Eq.trans (Eq.trans (r_go (act := oS (fSt 44 (gC (.int 1)))) rfl rfl) (a_C)) ?_
      refine Eq.trans (Eq.trans (r_go (act := oS (fSt 45 (g2 (fun x y => x + y)))) rfl rfl) (a_add)) ?_
      refine Eq.trans (Eq.trans (r_go (act := oCI 48 3 (zcv g 4) (X_E g n)) rfl rfl) (a_cI rfl (zck (zO_56 g) rfl))) (zbI_cg (fun x2 M2 => ?_))
      refine Eq.trans (Eq.trans (r_go (act := oS (fIf 64 51 cEq0)) rfl rfl) (a_if)) (bcg ?_ ?_)
      · refine Eq.trans (Eq.trans (r_go (act := oS (fSt 65 (gC (.int 0)))) rfl rfl) (a_C)) ?_
        exact Eq.trans (Eq.trans (r_go (act := oZret) rfl rfl) a_zret) (bcT (by decide +kernel))
      · refine Eq.trans (Eq.trans (r_go (act := oS (fAld 52 1)) rfl rfl) (a_ald rfl)) ?_
        refine Eq.trans (Eq.trans (r_go (act := oS (fSt 54 (gC (.int 41)))) rfl rfl) (a_C)) ?_
        refine Eq.trans (Eq.trans (r_go (act := oCI 57 2 (zcv g 9) (X_X9_expect g)) rfl rfl) (a_cI rfl (zck (zO_1 g) rfl))) (zbI_cg (fun x3 M3 => ?_))
        refine Eq.trans (Eq.trans (r_go (act := oS (fIf 64 60 cEq0)) rfl rfl) (a_if)) (bcg ?_ ?_)
        · refine Eq.trans (Eq.trans (r_go (act := oS (fSt 65 (gC (.int 0)))) rfl rfl) (a_C)) ?_
          exact Eq.trans (Eq.trans (r_go (act := oZret) rfl rfl) a_zret) (bcT (by decide +kernel))
        · refine Eq.trans (Eq.trans (r_go (act := oS (fSt 61 (gC (.int 1)))) rfl rfl) (a_C)) ?_
          refine Eq.trans (Eq.trans (r_go (act := oS (fGo 65)) rfl rfl) (a_goto)) ?_
          exact Eq.trans (Eq.trans (r_go (act := oZret) rfl rfl) a_zret) (bcT (by decide +kernel))
    · refine Eq.trans (Eq.trans (r_go (act := oS (fAld 67 0)) rfl rfl) (a_ald rfl)) ?_
      refine Eq.trans (Eq.trans (r_go (act := oS (fAld 68 1)) rfl rfl) (a_ald rfl)) ?_
      refine Eq.trans (Eq.trans (r_go (act := oS (fIld 69 2)) rfl rfl) (a_ild rfl)) ?_
      refine Eq.trans (Eq.trans (r_go (act := oS (fSt 70 (gC (.int 1)))) rfl rfl) (a_C)) ?_
      refine Eq.trans (Eq.trans (r_go (act := oS (fSt 71 (g2 (fun x y => x + y)))) rfl rfl) (a_add)) ?_
      refine Eq.trans (Eq.trans (r_go (act := oCI 74 3 (zcv g 4) (X_T g n)) rfl rfl) (a_cI rfl (zck (zO_56 g) rfl))) (zbI_cg (fun x4 M4 => ?_))
      refine Eq.trans (Eq.trans (r_go (act := oS (fIf 77 79 cEq0)) rfl rfl) (a_if)) (bcg ?_ ?_)
      · refine Eq.trans (Eq.trans (r_go (act := oS (fSt 78 (gC (.int 0)))) rfl rfl) (a_C)) ?_
        exact Eq.trans (Eq.trans (r_go (act := oZret) rfl rfl) a_zret) (bcT (by decide +kernel))
      · refine Eq.trans (Eq.trans (r_go (act := oS (fAld 80 0)) rfl rfl) (a_ald rfl)) ?_
        refine Eq.trans (Eq.trans (r_go (act := oS (fSt 83 (gC (.int (-143))))) rfl rfl) (a_C)) ?_
        refine Eq.trans (Eq.trans (r_go (act := oCV 86 2 (zcv g 4) (X_X4_emit g)) rfl rfl) (a_cV rfl (zck (zO_56 g) rfl))) (zbV_cg (fun M5 => ?_))
        refine Eq.trans (Eq.trans (r_go (act := oS (fSt 87 (gC (.int 1)))) rfl rfl) (a_C)) ?_
        exact Eq.trans (Eq.trans (r_go (act := oZret) rfl rfl) a_zret) (bcT (by decide +kernel))
  · refine Eq.trans (Eq.trans (r_go (act := oS (fAld 25 1)) rfl rfl) (a_ald rfl)) ?_
    refine Eq.trans (Eq.trans (r_go (act := oS (fSt 26 (gC (.int 3)))) rfl rfl) (a_C)) ?_
    refine Eq.trans (Eq.trans (r_go (act := oCI 29 2 (zcv g 9) (X_X9_refuse g)) rfl rfl) (a_cI rfl (zck (zO_1 g) rfl))) (zbI_cg (fun x6 M6 => ?_))
    exact Eq.trans (r_go (act := oZret) rfl rfl) (a_zret)
set_option maxRecDepth 20000 in
theorem e_X4_readEither_39 (g : zg) (a2 : Int32) (a3 : Int32) (a5 : Int32) (n : Nat) (M : zM) : zX (t_X4_readEither g (X_T g n)) 39 [some (.ref 56), some (.ref 1), some (.int a2), some (.int a3), none, some (.int a5)] [] M = (zbI (X_X9_token g [.ref 1] M) (fun x1 M1 => (bif cEq x1 142 then (zbV (X_X9_step g [.ref 1] M1) (fun M2 => zX (t_X4_readEither g (X_T g n)) 8 [some (.ref 56), some (.ref 1), some (.int a2), some (.int a3), some (.int 1), some (.int (a5 + 1))] [] M2)) else (bif cEq0 a3 then zX (t_X4_readEither g (X_T g n)) 72 [some (.ref 56), some (.ref 1), some (.int a2), none, some (.int 0), some (.int a5)] [] M1 else (zbV (X_X4_emit g [.ref 56, .int (-141)] M1) (fun M3 => zX (t_X4_readEither g (X_T g n)) 72 [some (.ref 56), some (.ref 1), some (.int a2), none, some (.int 0), some (.int a5)] [] M3)))))) := by
  refine Eq.trans (zX_rgN (tl_X4_readEither g n) (hc_X4_readEither g (X_T g n)) 15 _ _ _ _) ?_
  refine Eq.trans (Eq.trans (Eq.trans (r_0 (act := oF [4] (oS (fAld 40 1))) rfl) (a_F rfl)) (a_ald rfl)) ?_
  refine Eq.trans (Eq.trans (r_go (act := oCI 43 1 (zcv g 9) (X_X9_token g)) rfl rfl) (a_cI rfl (zck (zO_1 g) rfl))) (zbI_cg (fun x1 M1 => ?_))
  refine Eq.trans (Eq.trans (r_go (act := oS (fSt 46 (gC (.int 142)))) rfl rfl) (a_C)) ?_
  refine Eq.trans (Eq.trans (r_go (act := oS (fCm 49 53 cEq)) rfl rfl) (a_cm)) (bcg ?_ ?_)
  · refine Eq.trans (Eq.trans (r_go (act := oS (fSt 50 (gC (.int 1)))) rfl rfl) (a_C)) ?_
    refine Eq.trans (Eq.trans (r_go (act := oS (fGo 54)) rfl rfl) (a_goto)) ?_
    refine Eq.trans (Eq.trans (r_go (act := oS (fIst 56 4)) rfl rfl) (a_ist rfl rfl)) ?_
    refine Eq.trans (Eq.trans (r_go (act := oS (fIld 58 4)) rfl rfl) (a_ild rfl)) ?_
    refine Eq.trans (Eq.trans (r_go (act := oS (fIf 61 94 cEq0)) rfl rfl) (a_ifF (by decide +kernel))) ?_
    refine Eq.trans (Eq.trans (r_go (act := oS (fAld 95 1)) rfl rfl) (a_ald rfl)) ?_
    refine Eq.trans (Eq.trans (r_go (act := oCV 98 1 (zcv g 9) (X_X9_step g)) rfl rfl) (a_cV rfl (zck (zO_1 g) rfl))) (zbV_cg (fun M2 => ?_))
    refine Eq.trans (Eq.trans (r_go (act := oS (fInc 101 5 1)) rfl rfl) (a_inc rfl rfl rfl)) ?_
    refine Eq.trans (Eq.trans (r_go (act := oS (fGo 8)) rfl rfl) (a_goto)) ?_
    exact r_cut rfl rfl
  · refine Eq.trans (Eq.trans (r_go (act := oS (fSt 54 (gC (.int 0)))) rfl rfl) (a_C)) ?_
    refine Eq.trans (Eq.trans (r_go (act := oS (fIst 56 4)) rfl rfl) (a_ist rfl rfl)) ?_
    refine Eq.trans (Eq.trans (r_go (act := oS (fIld 58 4)) rfl rfl) (a_ild rfl)) ?_
    refine Eq.trans (Eq.trans (r_go (act := oS (fIf 61 94 cEq0)) rfl rfl) (a_ifT (by decide +kernel))) ?_
    refine Eq.trans (Eq.trans (r_go (act := oS (fIld 62 3)) rfl rfl) (a_ild rfl)) ?_
    refine Eq.trans (Eq.trans (r_go (act := oS (fIf 72 65 cEq0)) rfl rfl) (a_if)) (bcg ?_ ?_)
    · exact r_cut rfl rfl
    · refine Eq.trans (Eq.trans (r_go (act := oS (fAld 66 0)) rfl rfl) (a_ald rfl)) ?_
      refine Eq.trans (Eq.trans (r_go (act := oS (fSt 69 (gC (.int (-141))))) rfl rfl) (a_C)) ?_
      refine Eq.trans (Eq.trans (r_go (act := oCV 72 2 (zcv g 4) (X_X4_emit g)) rfl rfl) (a_cV rfl (zck (zO_56 g) rfl))) (zbV_cg (fun M3 => ?_))
      exact r_cut rfl rfl
set_option maxRecDepth 20000 in
theorem e_X4_readEither_72 (g : zg) (a2 : Int32) (a4 : Int32) (a5 : Int32) (n : Nat) (M : zM) : zX (t_X4_readEither g (X_T g n)) 72 [some (.ref 56), some (.ref 1), some (.int a2), none, some (.int a4), some (.int a5)] [] M = (zbI (X_X9_token g [.ref 1] M) (fun x1 M1 => (bif cEq x1 141 then (zbV (X_X9_step g [.ref 1] M1) (fun M2 => zX (t_X4_readEither g (X_T g n)) 8 [some (.ref 56), some (.ref 1), some (.int a2), some (.int 1), some (.int a4), some (.int (a5 + 1))] [] M2)) else some (some (.int 1), M1)))) := by
  refine Eq.trans (zX_rgN (tl_X4_readEither g n) (hc_X4_readEither g (X_T g n)) 15 _ _ _ _) ?_
  refine Eq.trans (Eq.trans (Eq.trans (r_0 (act := oF [3] (oS (fAld 73 1))) rfl) (a_F rfl)) (a_ald rfl)) ?_
  refine Eq.trans (Eq.trans (r_go (act := oCI 76 1 (zcv g 9) (X_X9_token g)) rfl rfl) (a_cI rfl (zck (zO_1 g) rfl))) (zbI_cg (fun x1 M1 => ?_))
  refine Eq.trans (Eq.trans (r_go (act := oS (fSt 79 (gC (.int 141)))) rfl rfl) (a_C)) ?_
  refine Eq.trans (Eq.trans (r_go (act := oS (fCm 82 86 cEq)) rfl rfl) (a_cm)) (bcg ?_ ?_)
  · refine Eq.trans (Eq.trans (r_go (act := oS (fSt 83 (gC (.int 1)))) rfl rfl) (a_C)) ?_
    refine Eq.trans (Eq.trans (r_go (act := oS (fGo 87)) rfl rfl) (a_goto)) ?_
    refine Eq.trans (Eq.trans (r_go (act := oS (fIst 88 3)) rfl rfl) (a_ist rfl rfl)) ?_
    refine Eq.trans (Eq.trans (r_go (act := oS (fIld 89 3)) rfl rfl) (a_ild rfl)) ?_
    refine Eq.trans (Eq.trans (r_go (act := oS (fIf 92 94 cEq0)) rfl rfl) (a_ifF (by decide +kernel))) ?_
    refine Eq.trans (Eq.trans (r_go (act := oS (fAld 95 1)) rfl rfl) (a_ald rfl)) ?_
    refine Eq.trans (Eq.trans (r_go (act := oCV 98 1 (zcv g 9) (X_X9_step g)) rfl rfl) (a_cV rfl (zck (zO_1 g) rfl))) (zbV_cg (fun M2 => ?_))
    refine Eq.trans (Eq.trans (r_go (act := oS (fInc 101 5 1)) rfl rfl) (a_inc rfl rfl rfl)) ?_
    refine Eq.trans (Eq.trans (r_go (act := oS (fGo 8)) rfl rfl) (a_goto)) ?_
    exact r_cut rfl rfl
  · refine Eq.trans (Eq.trans (r_go (act := oS (fSt 87 (gC (.int 0)))) rfl rfl) (a_C)) ?_
    refine Eq.trans (Eq.trans (r_go (act := oS (fIst 88 3)) rfl rfl) (a_ist rfl rfl)) ?_
    refine Eq.trans (Eq.trans (r_go (act := oS (fIld 89 3)) rfl rfl) (a_ild rfl)) ?_
    refine Eq.trans (Eq.trans (r_go (act := oS (fIf 92 94 cEq0)) rfl rfl) (a_ifT (by decide +kernel))) ?_
    refine Eq.trans (Eq.trans (r_go (act := oS (fSt 93 (gC (.int 1)))) rfl rfl) (a_C)) ?_
    exact Eq.trans (Eq.trans (r_go (act := oZret) rfl rfl) a_zret) (bcT (by decide +kernel))
set_option maxRecDepth 20000 in
theorem e_X4_readLine_0 (g : zg) (M : zM) : zX (t_X4_readLine g) 0 [some (.ref 56), some (.ref 1), none] [] M = (zbI (X_X9_token g [.ref 1] M) (fun x1 M1 => (bif cEq x1 137 then zX (t_X4_readLine g) 32 [some (.ref 56), some (.ref 1), some (.int x1)] [] M1 else (bif cEq x1 138 then zX (t_X4_readLine g) 32 [some (.ref 56), some (.ref 1), some (.int x1)] [] M1 else (bif cEq x1 139 then zX (t_X4_readLine g) 32 [some (.ref 56), some (.ref 1), some (.int x1)] [] M1 else (zbI (X_X9_refuse g [.ref 1, .int 1] M1) (fun x2 M2 => (bif cEq (x2 &&& 1) x2 then some (some (.int x2), M2) else none)))))))) := by
  refine Eq.trans (zX_rgN (tl_X4_readLine g) (hc_X4_readLine g) 17 _ _ _ _) ?_
  refine Eq.trans (Eq.trans (r_0 (act := oS (fAld 1 1)) rfl) (a_ald rfl)) ?_
  refine Eq.trans (Eq.trans (r_go (act := oCI 4 1 (zcv g 9) (X_X9_token g)) rfl rfl) (a_cI rfl (zck (zO_1 g) rfl))) (zbI_cg (fun x1 M1 => ?_))
  refine Eq.trans (Eq.trans (r_go (act := oS (fIst 5 2)) rfl rfl) (a_ist rfl rfl)) ?_
  refine Eq.trans (Eq.trans (r_go (act := oS (fIld 6 2)) rfl rfl) (a_ild rfl)) ?_
  refine Eq.trans (Eq.trans (r_go (act := oS (fSt 9 (gC (.int 137)))) rfl rfl) (a_C)) ?_
  refine Eq.trans (Eq.trans (r_go (act := oS (fCm 32 12 cEq)) rfl rfl) (a_cm)) (bcg ?_ ?_)
  · exact r_cut rfl rfl
  · refine Eq.trans (Eq.trans (r_go (act := oS (fIld 13 2)) rfl rfl) (a_ild rfl)) ?_
    refine Eq.trans (Eq.trans (r_go (act := oS (fSt 16 (gC (.int 138)))) rfl rfl) (a_C)) ?_
    refine Eq.trans (Eq.trans (r_go (act := oS (fCm 32 19 cEq)) rfl rfl) (a_cm)) (bcg ?_ ?_)
    · exact r_cut rfl rfl
    · refine Eq.trans (Eq.trans (r_go (act := oS (fIld 20 2)) rfl rfl) (a_ild rfl)) ?_
      refine Eq.trans (Eq.trans (r_go (act := oS (fSt 23 (gC (.int 139)))) rfl rfl) (a_C)) ?_
      refine Eq.trans (Eq.trans (r_go (act := oS (fCm 32 26 cEq)) rfl rfl) (a_cm)) (bcg ?_ ?_)
      · exact r_cut rfl rfl
      · refine Eq.trans (Eq.trans (r_go (act := oS (fAld 27 1)) rfl rfl) (a_ald rfl)) ?_
        refine Eq.trans (Eq.trans (r_go (act := oS (fSt 28 (gC (.int 1)))) rfl rfl) (a_C)) ?_
        refine Eq.trans (Eq.trans (r_go (act := oCI 31 2 (zcv g 9) (X_X9_refuse g)) rfl rfl) (a_cI rfl (zck (zO_1 g) rfl))) (zbI_cg (fun x2 M2 => ?_))
        exact Eq.trans (r_go (act := oZret) rfl rfl) (a_zret)
theorem x_X4_readLine_0 (g : zg) (M : zM) : X_X4_readLine g [.ref 56, .ref 1] M = (zbI (X_X9_token g [.ref 1] M) (fun x1 M1 => (bif cEq x1 137 then zX (t_X4_readLine g) 32 [some (.ref 56), some (.ref 1), some (.int x1)] [] M1 else (bif cEq x1 138 then zX (t_X4_readLine g) 32 [some (.ref 56), some (.ref 1), some (.int x1)] [] M1 else (bif cEq x1 139 then zX (t_X4_readLine g) 32 [some (.ref 56), some (.ref 1), some (.int x1)] [] M1 else (zbI (X_X9_refuse g [.ref 1, .int 1] M1) (fun x2 M2 => (bif cEq (x2 &&& 1) x2 then some (some (.int x2), M2) else none)))))))) := e_X4_readLine_0 g M
set_option maxRecDepth 20000 in
theorem e_X4_readLine_32 (g : zg) (a2 : Int32) (M : zM) : zX (t_X4_readLine g) 32 [some (.ref 56), some (.ref 1), some (.int a2)] [] M = (bif cLt (M.1 56 8) 16 then (zbV (X_X9_step g [.ref 1] M) (fun M1 => (bif zb (M1.1 56 8) 16 then (bif zb (M1.1 56 8) 16 then (zbI (X_X4_readSum g [.ref 56, .ref 1] ((zu (zu M1.1 57 (zx (M1.1 56 8)) a2) 58 (zx (M1.1 56 8)) (M1.1 56 7)), M1.2)) (fun x2 M2 => (bif cEq0 x2 then some (some (.int 0), M2) else (bif zb (M2.1 56 8) 16 then (zbI (X_X9_token g [.ref 1] ((zu M2.1 59 (zx (M2.1 56 8)) (M2.1 56 7)), M2.2)) (fun x3 M3 => (bif cEq x3 140 then (zbV (X_X9_step g [.ref 1] M3) (fun M4 => (zbI (X_X4_readEither g [.ref 56, .ref 1, .int 0] M4) (fun x5 M5 => (bif cEq0 x5 then some (some (.int 0), M5) else (bif zb (M5.1 56 8) 16 then (zbI (X_X9_expect g [.ref 1, .int 59] ((zu (zu M5.1 60 (zx (M5.1 56 8)) (M5.1 56 7)) 56 8 ((M5.1 56 8) + 1)), M5.2)) (fun x6 M6 => (bif cEq (x6 &&& 1) x6 then some (some (.int x6), M6) else none))) else none)))))) else (bif zb (M3.1 56 8) 16 then (zbI (X_X9_expect g [.ref 1, .int 59] ((zu (zu M3.1 60 (zx (M3.1 56 8)) (M3.1 56 7)) 56 8 ((M3.1 56 8) + 1)), M3.2)) (fun x7 M7 => (bif cEq (x7 &&& 1) x7 then some (some (.int x7), M7) else none))) else none)))) else none)))) else none) else none))) else (zbI (X_X9_refuse g [.ref 1, .int 3] M) (fun x8 M8 => (bif cEq (x8 &&& 1) x8 then some (some (.int x8), M8) else none)))) := by
  refine Eq.trans (zX_rgN (tl_X4_readLine g) (hc_X4_readLine g) 59 _ _ _ _) ?_
  refine Eq.trans (Eq.trans (Eq.trans (r_0 (act := oF [] (oS (fAld 33 0))) rfl) (a_F rfl)) (a_ald rfl)) ?_
  refine Eq.trans (Eq.trans (r_go (act := oS (fGi g 36 4 8)) rfl rfl) (a_gi (zO_56 g))) ?_
  refine Eq.trans (Eq.trans (r_go (act := oS (fSt 38 (gC (.int 16)))) rfl rfl) (a_C)) ?_
  refine Eq.trans (Eq.trans (r_go (act := oS (fCm 47 41 cLt)) rfl rfl) (a_cm)) (bcg ?_ ?_)
  · refine Eq.trans (Eq.trans (r_go (act := oS (fAld 48 1)) rfl rfl) (a_ald rfl)) ?_
    refine Eq.trans (Eq.trans (r_go (act := oCV 51 1 (zcv g 9) (X_X9_step g)) rfl rfl) (a_cV rfl (zck (zO_1 g) rfl))) (zbV_cg (fun M1 => ?_))
    refine Eq.trans (Eq.trans (r_go (act := oS (fAld 52 0)) rfl rfl) (a_ald rfl)) ?_
    refine Eq.trans (Eq.trans (r_go (act := oS (fGr g 55 4 0)) rfl rfl) (a_gr (zO_56 g) (zR_56_0 g))) ?_
    refine Eq.trans (Eq.trans (r_go (act := oS (fAld 56 0)) rfl rfl) (a_ald rfl)) ?_
    refine Eq.trans (Eq.trans (r_go (act := oS (fGi g 59 4 8)) rfl rfl) (a_gi (zO_56 g))) ?_
    refine Eq.trans (Eq.trans (r_go (act := oS (fIld 60 2)) rfl rfl) (a_ild rfl)) ?_
    refine Eq.trans (Eq.trans (r_go (act := oS (fIs g 61)) rfl rfl) (a_is (zA_57 g) zS_57)) (bcg ?_ rfl)
    refine Eq.trans (Eq.trans (r_go (act := oS (fAld 62 0)) rfl rfl) (a_ald rfl)) ?_
    refine Eq.trans (Eq.trans (r_go (act := oS (fGr g 65 4 1)) rfl rfl) (a_gr (zO_56 g) (zR_56_1 g))) ?_
    refine Eq.trans (Eq.trans (r_go (act := oS (fAld 66 0)) rfl rfl) (a_ald rfl)) ?_
    refine Eq.trans (Eq.trans (r_go (act := oS (fGi g 69 4 8)) rfl rfl) (a_giV (zO_56 g) rfl)) ?_
    refine Eq.trans (Eq.trans (r_go (act := oS (fAld 70 0)) rfl rfl) (a_ald rfl)) ?_
    refine Eq.trans (Eq.trans (r_go (act := oS (fGi g 73 4 7)) rfl rfl) (a_giV (zO_56 g) rfl)) ?_
    refine Eq.trans (Eq.trans (r_go (act := oS (fIs g 74)) rfl rfl) (a_is (zA_58 g) zS_58)) (bcg ?_ rfl)
    refine Eq.trans (Eq.trans (r_go (act := oS (fAld 75 0)) rfl rfl) (a_ald rfl)) ?_
    refine Eq.trans (Eq.trans (r_go (act := oS (fAld 76 1)) rfl rfl) (a_ald rfl)) ?_
    refine Eq.trans (Eq.trans (r_go (act := oCI 79 2 (zcv g 4) (X_X4_readSum g)) rfl rfl) (a_cI rfl (zck (zO_56 g) rfl))) (zbI_cg (fun x2 M2 => ?_))
    refine Eq.trans (Eq.trans (r_go (act := oS (fIf 82 84 cEq0)) rfl rfl) (a_if)) (bcg ?_ ?_)
    · refine Eq.trans (Eq.trans (r_go (act := oS (fSt 83 (gC (.int 0)))) rfl rfl) (a_C)) ?_
      exact Eq.trans (Eq.trans (r_go (act := oZret) rfl rfl) a_zret) (bcT (by decide +kernel))
    · refine Eq.trans (Eq.trans (r_go (act := oS (fAld 85 0)) rfl rfl) (a_ald rfl)) ?_
      refine Eq.trans (Eq.trans (r_go (act := oS (fGr g 88 4 2)) rfl rfl) (a_gr (zO_56 g) (zR_56_2 g))) ?_
      refine Eq.trans (Eq.trans (r_go (act := oS (fAld 89 0)) rfl rfl) (a_ald rfl)) ?_
      refine Eq.trans (Eq.trans (r_go (act := oS (fGi g 92 4 8)) rfl rfl) (a_gi (zO_56 g))) ?_
      refine Eq.trans (Eq.trans (r_go (act := oS (fAld 93 0)) rfl rfl) (a_ald rfl)) ?_
      refine Eq.trans (Eq.trans (r_go (act := oS (fGi g 96 4 7)) rfl rfl) (a_gi (zO_56 g))) ?_
      refine Eq.trans (Eq.trans (r_go (act := oS (fIs g 97)) rfl rfl) (a_is (zA_59 g) zS_59)) (bcg ?_ rfl)
      refine Eq.trans (Eq.trans (r_go (act := oS (fAld 98 1)) rfl rfl) (a_ald rfl)) ?_
      refine Eq.trans (Eq.trans (r_go (act := oCI 101 1 (zcv g 9) (X_X9_token g)) rfl rfl) (a_cI rfl (zck (zO_1 g) rfl))) (zbI_cg (fun x3 M3 => ?_))
      refine Eq.trans (Eq.trans (r_go (act := oS (fSt 104 (gC (.int 140)))) rfl rfl) (a_C)) ?_
      refine Eq.trans (Eq.trans (r_go (act := oS (fCm 107 122 cEq)) rfl rfl) (a_cm)) (bcg ?_ ?_)
      · refine Eq.trans (Eq.trans (r_go (act := oS (fAld 108 1)) rfl rfl) (a_ald rfl)) ?_
        refine Eq.trans (Eq.trans (r_go (act := oCV 111 1 (zcv g 9) (X_X9_step g)) rfl rfl) (a_cV rfl (zck (zO_1 g) rfl))) (zbV_cg (fun M4 => ?_))
        refine Eq.trans (Eq.trans (r_go (act := oS (fAld 112 0)) rfl rfl) (a_ald rfl)) ?_
        refine Eq.trans (Eq.trans (r_go (act := oS (fAld 113 1)) rfl rfl) (a_ald rfl)) ?_
        refine Eq.trans (Eq.trans (r_go (act := oS (fSt 114 (gC (.int 0)))) rfl rfl) (a_C)) ?_
        refine Eq.trans (Eq.trans (r_go (act := oCI 117 3 (zcv g 4) (X_X4_readEither g)) rfl rfl) (a_cI rfl (zck (zO_56 g) rfl))) (zbI_cg (fun x5 M5 => ?_))
        refine Eq.trans (Eq.trans (r_go (act := oS (fIf 120 122 cEq0)) rfl rfl) (a_if)) (bcg ?_ ?_)
        · refine Eq.trans (Eq.trans (r_go (act := oS (fSt 121 (gC (.int 0)))) rfl rfl) (a_C)) ?_
          exact Eq.trans (Eq.trans (r_go (act := oZret) rfl rfl) a_zret) (bcT (by decide +kernel))
        · refine Eq.trans (Eq.trans (r_go (act := oS (fAld 123 0)) rfl rfl) (a_ald rfl)) ?_
          refine Eq.trans (Eq.trans (r_go (act := oS (fGr g 126 4 3)) rfl rfl) (a_gr (zO_56 g) (zR_56_3 g))) ?_
          refine Eq.trans (Eq.trans (r_go (act := oS (fAld 127 0)) rfl rfl) (a_ald rfl)) ?_
          refine Eq.trans (Eq.trans (r_go (act := oS (fGi g 130 4 8)) rfl rfl) (a_gi (zO_56 g))) ?_
          refine Eq.trans (Eq.trans (r_go (act := oS (fAld 131 0)) rfl rfl) (a_ald rfl)) ?_
          refine Eq.trans (Eq.trans (r_go (act := oS (fGi g 134 4 7)) rfl rfl) (a_gi (zO_56 g))) ?_
          refine Eq.trans (Eq.trans (r_go (act := oS (fIs g 135)) rfl rfl) (a_is (zA_60 g) zS_60)) (bcg ?_ rfl)
          refine Eq.trans (Eq.trans (r_go (act := oS (fAld 136 0)) rfl rfl) (a_ald rfl)) ?_
          refine Eq.trans (Eq.trans (r_go (act := oS (fSt 137 gDup)) rfl rfl) (a_dupR)) ?_
          refine Eq.trans (Eq.trans (r_go (act := oS (fGi g 140 4 8)) rfl rfl) (a_giV (zO_56 g) rfl)) ?_
          refine Eq.trans (Eq.trans (r_go (act := oS (fSt 141 (gC (.int 1)))) rfl rfl) (a_C)) ?_
          refine Eq.trans (Eq.trans (r_go (act := oS (fSt 142 (g2 (fun x y => x + y)))) rfl rfl) (a_add)) ?_
          refine Eq.trans (Eq.trans (r_go (act := oS (fPi g 145 4 8)) rfl rfl) (a_pi (zO_56 g))) ?_
          refine Eq.trans (Eq.trans (r_go (act := oS (fAld 146 1)) rfl rfl) (a_ald rfl)) ?_
          refine Eq.trans (Eq.trans (r_go (act := oS (fSt 148 (gC (.int 59)))) rfl rfl) (a_C)) ?_
          refine Eq.trans (Eq.trans (r_go (act := oCI 151 2 (zcv g 9) (X_X9_expect g)) rfl rfl) (a_cI rfl (zck (zO_1 g) rfl))) (zbI_cg (fun x6 M6 => ?_))
          exact Eq.trans (r_go (act := oZret) rfl rfl) (a_zret)
      · refine Eq.trans (Eq.trans (r_go (act := oS (fAld 123 0)) rfl rfl) (a_ald rfl)) ?_
        refine Eq.trans (Eq.trans (r_go (act := oS (fGr g 126 4 3)) rfl rfl) (a_gr (zO_56 g) (zR_56_3 g))) ?_
        refine Eq.trans (Eq.trans (r_go (act := oS (fAld 127 0)) rfl rfl) (a_ald rfl)) ?_
        refine Eq.trans (Eq.trans (r_go (act := oS (fGi g 130 4 8)) rfl rfl) (a_gi (zO_56 g))) ?_
        refine Eq.trans (Eq.trans (r_go (act := oS (fAld 131 0)) rfl rfl) (a_ald rfl)) ?_
        refine Eq.trans (Eq.trans (r_go (act := oS (fGi g 134 4 7)) rfl rfl) (a_gi (zO_56 g))) ?_
        refine Eq.trans (Eq.trans (r_go (act := oS (fIs g 135)) rfl rfl) (a_is (zA_60 g) zS_60)) (bcg ?_ rfl)
        refine Eq.trans (Eq.trans (r_go (act := oS (fAld 136 0)) rfl rfl) (a_ald rfl)) ?_
        refine Eq.trans (Eq.trans (r_go (act := oS (fSt 137 gDup)) rfl rfl) (a_dupR)) ?_
        refine Eq.trans (Eq.trans (r_go (act := oS (fGi g 140 4 8)) rfl rfl) (a_giV (zO_56 g) rfl)) ?_
        refine Eq.trans (Eq.trans (r_go (act := oS (fSt 141 (gC (.int 1)))) rfl rfl) (a_C)) ?_
        refine Eq.trans (Eq.trans (r_go (act := oS (fSt 142 (g2 (fun x y => x + y)))) rfl rfl) (a_add)) ?_
        refine Eq.trans (Eq.trans (r_go (act := oS (fPi g 145 4 8)) rfl rfl) (a_pi (zO_56 g))) ?_
        refine Eq.trans (Eq.trans (r_go (act := oS (fAld 146 1)) rfl rfl) (a_ald rfl)) ?_
        refine Eq.trans (Eq.trans (r_go (act := oS (fSt 148 (gC (.int 59)))) rfl rfl) (a_C)) ?_
        refine Eq.trans (Eq.trans (r_go (act := oCI 151 2 (zcv g 9) (X_X9_expect g)) rfl rfl) (a_cI rfl (zck (zO_1 g) rfl))) (zbI_cg (fun x7 M7 => ?_))
        exact Eq.trans (r_go (act := oZret) rfl rfl) (a_zret)
  · refine Eq.trans (Eq.trans (r_go (act := oS (fAld 42 1)) rfl rfl) (a_ald rfl)) ?_
    refine Eq.trans (Eq.trans (r_go (act := oS (fSt 43 (gC (.int 3)))) rfl rfl) (a_C)) ?_
    refine Eq.trans (Eq.trans (r_go (act := oCI 46 2 (zcv g 9) (X_X9_refuse g)) rfl rfl) (a_cI rfl (zck (zO_1 g) rfl))) (zbI_cg (fun x8 M8 => ?_))
    exact Eq.trans (r_go (act := oZret) rfl rfl) (a_zret)
set_option maxRecDepth 20000 in
theorem e_X4_read_0 (g : zg) (M : zM) : zX (t_X4_read g) 0 [some (.ref 56), some (.ref 1), none] [] M = (zbV (X_X9_split g [.ref 1, .ref 1000] M) (fun M1 => zX (t_X4_read g) 18 [some (.ref 56), some (.ref 1), some (.int 0)] [] ((zu (zu M1.1 56 8 0) 56 7 0), M1.2))) := by
  refine Eq.trans (zX_rgN (tl_X4_read g) (hc_X4_read g) 13 _ _ _ _) ?_
  refine Eq.trans (Eq.trans (r_0 (act := oS (fAld 1 1)) rfl) (a_ald rfl)) ?_
  refine Eq.trans (Eq.trans (r_go (act := oS (fLdS 3 0)) rfl rfl) (a_ldS)) ?_
  refine Eq.trans (Eq.trans (r_go (act := oCV 6 2 (zcv g 9) (X_X9_split g)) rfl rfl) (a_cV rfl (zck (zO_1 g) rfl))) (zbV_cg (fun M1 => ?_))
  refine Eq.trans (Eq.trans (r_go (act := oS (fAld 7 0)) rfl rfl) (a_ald rfl)) ?_
  refine Eq.trans (Eq.trans (r_go (act := oS (fSt 8 (gC (.int 0)))) rfl rfl) (a_C)) ?_
  refine Eq.trans (Eq.trans (r_go (act := oS (fPi g 11 4 8)) rfl rfl) (a_pi (zO_56 g))) ?_
  refine Eq.trans (Eq.trans (r_go (act := oS (fAld 12 0)) rfl rfl) (a_ald rfl)) ?_
  refine Eq.trans (Eq.trans (r_go (act := oS (fSt 13 (gC (.int 0)))) rfl rfl) (a_C)) ?_
  refine Eq.trans (Eq.trans (r_go (act := oS (fPi g 16 4 7)) rfl rfl) (a_pi (zO_56 g))) ?_
  refine Eq.trans (Eq.trans (r_go (act := oS (fSt 17 (gC (.int 0)))) rfl rfl) (a_C)) ?_
  refine Eq.trans (Eq.trans (r_go (act := oS (fIst 18 2)) rfl rfl) (a_ist rfl rfl)) ?_
  exact r_cut rfl rfl
theorem x_X4_read_0 (g : zg) (M : zM) : X_X4_read g [.ref 56, .ref 1] M = (zbV (X_X9_split g [.ref 1, .ref 1000] M) (fun M1 => zX (t_X4_read g) 18 [some (.ref 56), some (.ref 1), some (.int 0)] [] ((zu (zu M1.1 56 8 0) 56 7 0), M1.2))) := e_X4_read_0 g M
set_option maxRecDepth 20000 in
theorem e_X4_read_18 (g : zg) (a2 : Int32) (M : zM) : zX (t_X4_read g) 18 [some (.ref 56), some (.ref 1), some (.int a2)] [] M = (bif cGt a2 16 then some (some (.int 1), M) else (zbI (X_X9_token g [.ref 1] M) (fun x1 M1 => (bif cEq0 x1 then some (some (.int 1), M1) else (zbI (X_X4_readLine g [.ref 56, .ref 1] M1) (fun x2 M2 => (bif cEq0 x2 then some (some (.int 0), M2) else zX (t_X4_read g) 18 [some (.ref 56), some (.ref 1), some (.int (a2 + 1))] [] M2))))))) := by
  refine Eq.trans (zX_rgN (tl_X4_read g) (hc_X4_read g) 14 _ _ _ _) ?_
  refine Eq.trans (Eq.trans (Eq.trans (r_0 (act := oF [] (oS (fIld 19 2))) rfl) (a_F rfl)) (a_ild rfl)) ?_
  refine Eq.trans (Eq.trans (r_go (act := oS (fSt 21 (gC (.int 16)))) rfl rfl) (a_C)) ?_
  refine Eq.trans (Eq.trans (r_go (act := oS (fCm 47 24 cGt)) rfl rfl) (a_cm)) (bcg ?_ ?_)
  · refine Eq.trans (Eq.trans (r_go (act := oS (fSt 48 (gC (.int 1)))) rfl rfl) (a_C)) ?_
    exact Eq.trans (Eq.trans (r_go (act := oZret) rfl rfl) a_zret) (bcT (by decide +kernel))
  · refine Eq.trans (Eq.trans (r_go (act := oS (fAld 25 1)) rfl rfl) (a_ald rfl)) ?_
    refine Eq.trans (Eq.trans (r_go (act := oCI 28 1 (zcv g 9) (X_X9_token g)) rfl rfl) (a_cI rfl (zck (zO_1 g) rfl))) (zbI_cg (fun x1 M1 => ?_))
    refine Eq.trans (Eq.trans (r_go (act := oS (fIf 47 31 cEq0)) rfl rfl) (a_if)) (bcg ?_ ?_)
    · refine Eq.trans (Eq.trans (r_go (act := oS (fSt 48 (gC (.int 1)))) rfl rfl) (a_C)) ?_
      exact Eq.trans (Eq.trans (r_go (act := oZret) rfl rfl) a_zret) (bcT (by decide +kernel))
    · refine Eq.trans (Eq.trans (r_go (act := oS (fAld 32 0)) rfl rfl) (a_ald rfl)) ?_
      refine Eq.trans (Eq.trans (r_go (act := oS (fAld 33 1)) rfl rfl) (a_ald rfl)) ?_
      refine Eq.trans (Eq.trans (r_go (act := oCI 36 2 (zcv g 4) (X_X4_readLine g)) rfl rfl) (a_cI rfl (zck (zO_56 g) rfl))) (zbI_cg (fun x2 M2 => ?_))
      refine Eq.trans (Eq.trans (r_go (act := oS (fIf 39 41 cEq0)) rfl rfl) (a_if)) (bcg ?_ ?_)
      · refine Eq.trans (Eq.trans (r_go (act := oS (fSt 40 (gC (.int 0)))) rfl rfl) (a_C)) ?_
        exact Eq.trans (Eq.trans (r_go (act := oZret) rfl rfl) a_zret) (bcT (by decide +kernel))
      · refine Eq.trans (Eq.trans (r_go (act := oS (fInc 44 2 1)) rfl rfl) (a_inc rfl rfl rfl)) ?_
        refine Eq.trans (Eq.trans (r_go (act := oS (fGo 18)) rfl rfl) (a_goto)) ?_
        exact r_cut rfl rfl
set_option maxRecDepth 20000 in
theorem e_X4_take_0 (g : zg) (M : zM) : zX (t_X4_take g) 0 [some (.ref 9), some (.ref 56)] [] M = some (none, ((zcp (zcp (zcp (zcp (zcp (zu (zu M.1 9 8 (M.1 56 8)) 9 7 (M.1 56 7)) 57 10 (zx 16)) 58 11 (zx 16)) 59 12 (zx 16)) 60 13 (zx 16)) 61 14 (zx 400)), M.2)) := by
  refine Eq.trans (zX_rgN (tl_X4_take g) (hc_X4_take g) 50 _ _ _ _) ?_
  refine Eq.trans (Eq.trans (r_0 (act := oS (fAld 1 0)) rfl) (a_ald rfl)) ?_
  refine Eq.trans (Eq.trans (r_go (act := oS (fAld 2 1)) rfl rfl) (a_ald rfl)) ?_
  refine Eq.trans (Eq.trans (r_go (act := oS (fGi g 5 4 8)) rfl rfl) (a_gi (zO_56 g))) ?_
  refine Eq.trans (Eq.trans (r_go (act := oS (fPi g 8 4 8)) rfl rfl) (a_pi (zO_9 g))) ?_
  refine Eq.trans (Eq.trans (r_go (act := oS (fAld 9 0)) rfl rfl) (a_ald rfl)) ?_
  refine Eq.trans (Eq.trans (r_go (act := oS (fAld 10 1)) rfl rfl) (a_ald rfl)) ?_
  refine Eq.trans (Eq.trans (r_go (act := oS (fGi g 13 4 7)) rfl rfl) (a_giV (zO_56 g) rfl)) ?_
  refine Eq.trans (Eq.trans (r_go (act := oS (fPi g 16 4 7)) rfl rfl) (a_pi (zO_9 g))) ?_
  refine Eq.trans (Eq.trans (r_go (act := oS (fAld 17 1)) rfl rfl) (a_ald rfl)) ?_
  refine Eq.trans (Eq.trans (r_go (act := oS (fGr g 20 4 0)) rfl rfl) (a_gr (zO_56 g) (zR_56_0 g))) ?_
  refine Eq.trans (Eq.trans (r_go (act := oS (fSt 21 (gC (.int 0)))) rfl rfl) (a_C)) ?_
  refine Eq.trans (Eq.trans (r_go (act := oS (fAld 22 0)) rfl rfl) (a_ald rfl)) ?_
  refine Eq.trans (Eq.trans (r_go (act := oS (fGr g 25 4 0)) rfl rfl) (a_gr (zO_9 g) (zR_9_0 g))) ?_
  refine Eq.trans (Eq.trans (r_go (act := oS (fSt 26 (gC (.int 0)))) rfl rfl) (a_C)) ?_
  refine Eq.trans (Eq.trans (r_go (act := oS (fSt 28 (gC (.int 16)))) rfl rfl) (a_C)) ?_
  refine Eq.trans (Eq.trans (r_go (act := oS (fCp g 31)) rfl rfl) (a_cp (zCp (zA_57 g) (zA_10 g) zS_57 zS_10 (by decide +kernel) (by decide +kernel) rfl))) ?_
  refine Eq.trans (Eq.trans (r_go (act := oS (fAld 32 1)) rfl rfl) (a_ald rfl)) ?_
  refine Eq.trans (Eq.trans (r_go (act := oS (fGr g 35 4 1)) rfl rfl) (a_gr (zO_56 g) (zR_56_1 g))) ?_
  refine Eq.trans (Eq.trans (r_go (act := oS (fSt 36 (gC (.int 0)))) rfl rfl) (a_C)) ?_
  refine Eq.trans (Eq.trans (r_go (act := oS (fAld 37 0)) rfl rfl) (a_ald rfl)) ?_
  refine Eq.trans (Eq.trans (r_go (act := oS (fGr g 40 4 1)) rfl rfl) (a_gr (zO_9 g) (zR_9_1 g))) ?_
  refine Eq.trans (Eq.trans (r_go (act := oS (fSt 41 (gC (.int 0)))) rfl rfl) (a_C)) ?_
  refine Eq.trans (Eq.trans (r_go (act := oS (fSt 43 (gC (.int 16)))) rfl rfl) (a_C)) ?_
  refine Eq.trans (Eq.trans (r_go (act := oS (fCp g 46)) rfl rfl) (a_cp (zCp (zA_58 g) (zA_11 g) zS_58 zS_11 (by decide +kernel) (by decide +kernel) rfl))) ?_
  refine Eq.trans (Eq.trans (r_go (act := oS (fAld 47 1)) rfl rfl) (a_ald rfl)) ?_
  refine Eq.trans (Eq.trans (r_go (act := oS (fGr g 50 4 2)) rfl rfl) (a_gr (zO_56 g) (zR_56_2 g))) ?_
  refine Eq.trans (Eq.trans (r_go (act := oS (fSt 51 (gC (.int 0)))) rfl rfl) (a_C)) ?_
  refine Eq.trans (Eq.trans (r_go (act := oS (fAld 52 0)) rfl rfl) (a_ald rfl)) ?_
  refine Eq.trans (Eq.trans (r_go (act := oS (fGr g 55 4 2)) rfl rfl) (a_gr (zO_9 g) (zR_9_2 g))) ?_
  refine Eq.trans (Eq.trans (r_go (act := oS (fSt 56 (gC (.int 0)))) rfl rfl) (a_C)) ?_
  refine Eq.trans (Eq.trans (r_go (act := oS (fSt 58 (gC (.int 16)))) rfl rfl) (a_C)) ?_
  refine Eq.trans (Eq.trans (r_go (act := oS (fCp g 61)) rfl rfl) (a_cp (zCp (zA_59 g) (zA_12 g) zS_59 zS_12 (by decide +kernel) (by decide +kernel) rfl))) ?_
  refine Eq.trans (Eq.trans (r_go (act := oS (fAld 62 1)) rfl rfl) (a_ald rfl)) ?_
  refine Eq.trans (Eq.trans (r_go (act := oS (fGr g 65 4 3)) rfl rfl) (a_gr (zO_56 g) (zR_56_3 g))) ?_
  refine Eq.trans (Eq.trans (r_go (act := oS (fSt 66 (gC (.int 0)))) rfl rfl) (a_C)) ?_
  refine Eq.trans (Eq.trans (r_go (act := oS (fAld 67 0)) rfl rfl) (a_ald rfl)) ?_
  refine Eq.trans (Eq.trans (r_go (act := oS (fGr g 70 4 3)) rfl rfl) (a_gr (zO_9 g) (zR_9_3 g))) ?_
  refine Eq.trans (Eq.trans (r_go (act := oS (fSt 71 (gC (.int 0)))) rfl rfl) (a_C)) ?_
  refine Eq.trans (Eq.trans (r_go (act := oS (fSt 73 (gC (.int 16)))) rfl rfl) (a_C)) ?_
  refine Eq.trans (Eq.trans (r_go (act := oS (fCp g 76)) rfl rfl) (a_cp (zCp (zA_60 g) (zA_13 g) zS_60 zS_13 (by decide +kernel) (by decide +kernel) rfl))) ?_
  refine Eq.trans (Eq.trans (r_go (act := oS (fAld 77 1)) rfl rfl) (a_ald rfl)) ?_
  refine Eq.trans (Eq.trans (r_go (act := oS (fGr g 80 4 4)) rfl rfl) (a_gr (zO_56 g) (zR_56_4 g))) ?_
  refine Eq.trans (Eq.trans (r_go (act := oS (fSt 81 (gC (.int 0)))) rfl rfl) (a_C)) ?_
  refine Eq.trans (Eq.trans (r_go (act := oS (fAld 82 0)) rfl rfl) (a_ald rfl)) ?_
  refine Eq.trans (Eq.trans (r_go (act := oS (fGr g 85 4 4)) rfl rfl) (a_gr (zO_9 g) (zR_9_4 g))) ?_
  refine Eq.trans (Eq.trans (r_go (act := oS (fSt 86 (gC (.int 0)))) rfl rfl) (a_C)) ?_
  refine Eq.trans (Eq.trans (r_go (act := oS (fSt 89 (gC (.int 400)))) rfl rfl) (a_C)) ?_
  refine Eq.trans (Eq.trans (r_go (act := oS (fCp g 92)) rfl rfl) (a_cp (zCp (zA_61 g) (zA_14 g) zS_61 zS_14 (by decide +kernel) (by decide +kernel) rfl))) ?_
  exact Eq.trans (r_go (act := oVret) rfl rfl) (a_vret)
theorem x_X4_take_0 (g : zg) (M : zM) : X_X4_take g [.ref 9, .ref 56] M = some (none, ((zcp (zcp (zcp (zcp (zcp (zu (zu M.1 9 8 (M.1 56 8)) 9 7 (M.1 56 7)) 57 10 (zx 16)) 58 11 (zx 16)) 59 12 (zx 16)) 60 13 (zx 16)) 61 14 (zx 400)), M.2)) := e_X4_take_0 g M
set_option maxRecDepth 20000 in
theorem e_X9_expectNumber_0 (g : zg) (a1 : Int32) (a2 : Int32) (M : zM) : zX (t_X9_expectNumber g) 0 [some (.ref 1), some (.int a1), some (.int a2), none] [] M = (bif zb (M.1 1 4) 401 then (bif zb (M.1 1 4) 401 then (bif cEq (M.1 3 (zx (M.1 1 4))) 1 then (bif cLt (M.1 4 (zx (M.1 1 4))) a1 then (zbI (X_X9_refuse g [.ref 1, .int 2] M) (fun x1 M1 => some (some (.int (-1)), M1))) else (bif cGt (M.1 4 (zx (M.1 1 4))) a2 then (zbI (X_X9_refuse g [.ref 1, .int 2] M) (fun x2 M2 => some (some (.int (-1)), M2))) else (zbV (X_X9_step g [.ref 1] M) (fun M3 => some (some (.int (M.1 4 (zx (M.1 1 4)))), M3))))) else (zbI (X_X9_refuse g [.ref 1, .int 1] M) (fun x4 M4 => some (some (.int (-1)), M4)))) else none) else none) := by
  refine Eq.trans (zX_rgN (tl_X9_expectNumber g) (hc_X9_expectNumber g) 26 _ _ _ _) ?_
  refine Eq.trans (Eq.trans (r_0 (act := oS (fAld 1 0)) rfl) (a_ald rfl)) ?_
  refine Eq.trans (Eq.trans (r_go (act := oS (fGr g 4 9 2)) rfl rfl) (a_gr (zO_1 g) (zR_1_2 g))) ?_
  refine Eq.trans (Eq.trans (r_go (act := oS (fAld 5 0)) rfl rfl) (a_ald rfl)) ?_
  refine Eq.trans (Eq.trans (r_go (act := oS (fGi g 8 9 4)) rfl rfl) (a_gi (zO_1 g))) ?_
  refine Eq.trans (Eq.trans (r_go (act := oS (fIa g 9)) rfl rfl) (a_ia (zA_4 g) zS_4)) (bcg ?_ rfl)
  refine Eq.trans (Eq.trans (r_go (act := oS (fIst 10 3)) rfl rfl) (a_ist rfl rfl)) ?_
  refine Eq.trans (Eq.trans (r_go (act := oS (fAld 11 0)) rfl rfl) (a_ald rfl)) ?_
  refine Eq.trans (Eq.trans (r_go (act := oS (fGr g 14 9 1)) rfl rfl) (a_gr (zO_1 g) (zR_1_1 g))) ?_
  refine Eq.trans (Eq.trans (r_go (act := oS (fAld 15 0)) rfl rfl) (a_ald rfl)) ?_
  refine Eq.trans (Eq.trans (r_go (act := oS (fGi g 18 9 4)) rfl rfl) (a_gi (zO_1 g))) ?_
  refine Eq.trans (Eq.trans (r_go (act := oS (fIa g 19)) rfl rfl) (a_ia (zA_3 g) zS_3)) (bcg ?_ rfl)
  refine Eq.trans (Eq.trans (r_go (act := oS (fSt 20 (gC (.int 1)))) rfl rfl) (a_C)) ?_
  refine Eq.trans (Eq.trans (r_go (act := oS (fCm 31 23 cEq)) rfl rfl) (a_cm)) (bcg ?_ ?_)
  · refine Eq.trans (Eq.trans (r_go (act := oS (fIld 32 3)) rfl rfl) (a_ild rfl)) ?_
    refine Eq.trans (Eq.trans (r_go (act := oS (fIld 33 1)) rfl rfl) (a_ild rfl)) ?_
    refine Eq.trans (Eq.trans (r_go (act := oS (fCm 41 36 cLt)) rfl rfl) (a_cm)) (bcg ?_ ?_)
    · refine Eq.trans (Eq.trans (r_go (act := oS (fAld 42 0)) rfl rfl) (a_ald rfl)) ?_
      refine Eq.trans (Eq.trans (r_go (act := oS (fSt 43 (gC (.int 2)))) rfl rfl) (a_C)) ?_
      refine Eq.trans (Eq.trans (r_go (act := oCI 46 2 (zcv g 9) (X_X9_refuse g)) rfl rfl) (a_cI rfl (zck (zO_1 g) rfl))) (zbI_cg (fun x1 M1 => ?_))
      refine Eq.trans (Eq.trans (r_go (act := oS (fSt 47 gPop)) rfl rfl) (a_popI)) ?_
      refine Eq.trans (Eq.trans (r_go (act := oS (fSt 48 (gC (.int (-1))))) rfl rfl) (a_C)) ?_
      exact Eq.trans (r_go (act := oIret) rfl rfl) (a_iret)
    · refine Eq.trans (Eq.trans (r_go (act := oS (fIld 37 3)) rfl rfl) (a_ild rfl)) ?_
      refine Eq.trans (Eq.trans (r_go (act := oS (fIld 38 2)) rfl rfl) (a_ild rfl)) ?_
      refine Eq.trans (Eq.trans (r_go (act := oS (fCm 41 49 cGt)) rfl rfl) (a_cm)) (bcg ?_ ?_)
      · refine Eq.trans (Eq.trans (r_go (act := oS (fAld 42 0)) rfl rfl) (a_ald rfl)) ?_
        refine Eq.trans (Eq.trans (r_go (act := oS (fSt 43 (gC (.int 2)))) rfl rfl) (a_C)) ?_
        refine Eq.trans (Eq.trans (r_go (act := oCI 46 2 (zcv g 9) (X_X9_refuse g)) rfl rfl) (a_cI rfl (zck (zO_1 g) rfl))) (zbI_cg (fun x2 M2 => ?_))
        refine Eq.trans (Eq.trans (r_go (act := oS (fSt 47 gPop)) rfl rfl) (a_popI)) ?_
        refine Eq.trans (Eq.trans (r_go (act := oS (fSt 48 (gC (.int (-1))))) rfl rfl) (a_C)) ?_
        exact Eq.trans (r_go (act := oIret) rfl rfl) (a_iret)
      · refine Eq.trans (Eq.trans (r_go (act := oS (fAld 50 0)) rfl rfl) (a_ald rfl)) ?_
        refine Eq.trans (Eq.trans (r_go (act := oCV 53 1 (zcv g 9) (X_X9_step g)) rfl rfl) (a_cV rfl (zck (zO_1 g) rfl))) (zbV_cg (fun M3 => ?_))
        refine Eq.trans (Eq.trans (r_go (act := oS (fIld 54 3)) rfl rfl) (a_ild rfl)) ?_
        exact Eq.trans (r_go (act := oIret) rfl rfl) (a_iret)
  · refine Eq.trans (Eq.trans (r_go (act := oS (fAld 24 0)) rfl rfl) (a_ald rfl)) ?_
    refine Eq.trans (Eq.trans (r_go (act := oS (fSt 25 (gC (.int 1)))) rfl rfl) (a_C)) ?_
    refine Eq.trans (Eq.trans (r_go (act := oCI 28 2 (zcv g 9) (X_X9_refuse g)) rfl rfl) (a_cI rfl (zck (zO_1 g) rfl))) (zbI_cg (fun x4 M4 => ?_))
    refine Eq.trans (Eq.trans (r_go (act := oS (fSt 29 gPop)) rfl rfl) (a_popI)) ?_
    refine Eq.trans (Eq.trans (r_go (act := oS (fSt 30 (gC (.int (-1))))) rfl rfl) (a_C)) ?_
    exact Eq.trans (r_go (act := oIret) rfl rfl) (a_iret)
theorem x_X9_expectNumber_0 (g : zg) (a1 : Int32) (a2 : Int32) (M : zM) : X_X9_expectNumber g [.ref 1, .int a1, .int a2] M = (bif zb (M.1 1 4) 401 then (bif zb (M.1 1 4) 401 then (bif cEq (M.1 3 (zx (M.1 1 4))) 1 then (bif cLt (M.1 4 (zx (M.1 1 4))) a1 then (zbI (X_X9_refuse g [.ref 1, .int 2] M) (fun x1 M1 => some (some (.int (-1)), M1))) else (bif cGt (M.1 4 (zx (M.1 1 4))) a2 then (zbI (X_X9_refuse g [.ref 1, .int 2] M) (fun x2 M2 => some (some (.int (-1)), M2))) else (zbV (X_X9_step g [.ref 1] M) (fun M3 => some (some (.int (M.1 4 (zx (M.1 1 4)))), M3))))) else (zbI (X_X9_refuse g [.ref 1, .int 1] M) (fun x4 M4 => some (some (.int (-1)), M4)))) else none) else none) := e_X9_expectNumber_0 g a1 a2 M
set_option maxRecDepth 20000 in
theorem e_X7_readLine_0 (g : zg) (M : zM) : zX (t_X7_readLine g) 0 [some (.ref 64), some (.ref 1), none, none, none] [] M = (zbI (X_X9_token g [.ref 1] M) (fun x1 M1 => (bif cEq x1 128 then (bif cLt (M1.1 64 3) 12 then zX (t_X7_readLine g) 25 [some (.ref 64), some (.ref 1), none, none, none] [] M1 else (zbI (X_X9_refuse g [.ref 1, .int 3] M1) (fun x2 M2 => (bif cEq (x2 &&& 1) x2 then some (some (.int x2), M2) else none)))) else zX (t_X7_readLine g) 25 [some (.ref 64), some (.ref 1), none, none, none] [] M1))) := by
  refine Eq.trans (zX_rgN (tl_X7_readLine g) (hc_X7_readLine g) 13 _ _ _ _) ?_
  refine Eq.trans (Eq.trans (r_0 (act := oS (fAld 1 1)) rfl) (a_ald rfl)) ?_
  refine Eq.trans (Eq.trans (r_go (act := oCI 4 1 (zcv g 9) (X_X9_token g)) rfl rfl) (a_cI rfl (zck (zO_1 g) rfl))) (zbI_cg (fun x1 M1 => ?_))
  refine Eq.trans (Eq.trans (r_go (act := oS (fSt 7 (gC (.int 128)))) rfl rfl) (a_C)) ?_
  refine Eq.trans (Eq.trans (r_go (act := oS (fCm 10 25 cEq)) rfl rfl) (a_cm)) (bcg ?_ ?_)
  · refine Eq.trans (Eq.trans (r_go (act := oS (fAld 11 0)) rfl rfl) (a_ald rfl)) ?_
    refine Eq.trans (Eq.trans (r_go (act := oS (fGi g 14 7 3)) rfl rfl) (a_gi (zO_64 g))) ?_
    refine Eq.trans (Eq.trans (r_go (act := oS (fSt 16 (gC (.int 12)))) rfl rfl) (a_C)) ?_
    refine Eq.trans (Eq.trans (r_go (act := oS (fCm 25 19 cLt)) rfl rfl) (a_cm)) (bcg ?_ ?_)
    · exact r_cut rfl rfl
    · refine Eq.trans (Eq.trans (r_go (act := oS (fAld 20 1)) rfl rfl) (a_ald rfl)) ?_
      refine Eq.trans (Eq.trans (r_go (act := oS (fSt 21 (gC (.int 3)))) rfl rfl) (a_C)) ?_
      refine Eq.trans (Eq.trans (r_go (act := oCI 24 2 (zcv g 9) (X_X9_refuse g)) rfl rfl) (a_cI rfl (zck (zO_1 g) rfl))) (zbI_cg (fun x2 M2 => ?_))
      exact Eq.trans (r_go (act := oZret) rfl rfl) (a_zret)
  · exact r_cut rfl rfl
theorem x_X7_readLine_0 (g : zg) (M : zM) : X_X7_readLine g [.ref 64, .ref 1] M = (zbI (X_X9_token g [.ref 1] M) (fun x1 M1 => (bif cEq x1 128 then (bif cLt (M1.1 64 3) 12 then zX (t_X7_readLine g) 25 [some (.ref 64), some (.ref 1), none, none, none] [] M1 else (zbI (X_X9_refuse g [.ref 1, .int 3] M1) (fun x2 M2 => (bif cEq (x2 &&& 1) x2 then some (some (.int x2), M2) else none)))) else zX (t_X7_readLine g) 25 [some (.ref 64), some (.ref 1), none, none, none] [] M1))) := e_X7_readLine_0 g M
set_option maxRecDepth 20000 in
theorem e_X7_readLine_25 (g : zg) (M : zM) : zX (t_X7_readLine g) 25 [some (.ref 64), some (.ref 1), none, none, none] [] M = (zbI (X_X9_expect g [.ref 1, .int 128] M) (fun x1 M1 => (bif cEq0 x1 then some (some (.int 0), M1) else (zbI (X_X9_expectNumber g [.ref 1, .int 1, .int 30] M1) (fun x2 M2 => (bif cEq x2 (-1) then some (some (.int 0), M2) else (zbI (X_X9_token g [.ref 1] M2) (fun x3 M3 => (bif cEq x3 129 then zX (t_X7_readLine g) 77 [some (.ref 64), some (.ref 1), some (.int x2), some (.int x3), none] [] M3 else (bif cEq x3 130 then zX (t_X7_readLine g) 77 [some (.ref 64), some (.ref 1), some (.int x2), some (.int x3), none] [] M3 else (zbI (X_X9_refuse g [.ref 1, .int 1] M3) (fun x4 M4 => (bif cEq (x4 &&& 1) x4 then some (some (.int x4), M4) else none))))))))))))) := by
  refine Eq.trans (zX_rgN (tl_X7_readLine g) (hc_X7_readLine g) 26 _ _ _ _) ?_
  refine Eq.trans (Eq.trans (Eq.trans (r_0 (act := oF [2, 3, 4] (oS (fAld 26 1))) rfl) (a_F rfl)) (a_ald rfl)) ?_
  refine Eq.trans (Eq.trans (r_go (act := oS (fSt 29 (gC (.int 128)))) rfl rfl) (a_C)) ?_
  refine Eq.trans (Eq.trans (r_go (act := oCI 32 2 (zcv g 9) (X_X9_expect g)) rfl rfl) (a_cI rfl (zck (zO_1 g) rfl))) (zbI_cg (fun x1 M1 => ?_))
  refine Eq.trans (Eq.trans (r_go (act := oS (fIf 35 37 cEq0)) rfl rfl) (a_if)) (bcg ?_ ?_)
  · refine Eq.trans (Eq.trans (r_go (act := oS (fSt 36 (gC (.int 0)))) rfl rfl) (a_C)) ?_
    exact Eq.trans (Eq.trans (r_go (act := oZret) rfl rfl) a_zret) (bcT (by decide +kernel))
  · refine Eq.trans (Eq.trans (r_go (act := oS (fAld 38 1)) rfl rfl) (a_ald rfl)) ?_
    refine Eq.trans (Eq.trans (r_go (act := oS (fSt 39 (gC (.int 1)))) rfl rfl) (a_C)) ?_
    refine Eq.trans (Eq.trans (r_go (act := oS (fSt 41 (gC (.int 30)))) rfl rfl) (a_C)) ?_
    refine Eq.trans (Eq.trans (r_go (act := oCI 44 3 (zcv g 9) (X_X9_expectNumber g)) rfl rfl) (a_cI rfl (zck (zO_1 g) rfl))) (zbI_cg (fun x2 M2 => ?_))
    refine Eq.trans (Eq.trans (r_go (act := oS (fIst 45 2)) rfl rfl) (a_ist rfl rfl)) ?_
    refine Eq.trans (Eq.trans (r_go (act := oS (fIld 46 2)) rfl rfl) (a_ild rfl)) ?_
    refine Eq.trans (Eq.trans (r_go (act := oS (fSt 47 (gC (.int (-1))))) rfl rfl) (a_C)) ?_
    refine Eq.trans (Eq.trans (r_go (act := oS (fCm 50 52 cEq)) rfl rfl) (a_cm)) (bcg ?_ ?_)
    · refine Eq.trans (Eq.trans (r_go (act := oS (fSt 51 (gC (.int 0)))) rfl rfl) (a_C)) ?_
      exact Eq.trans (Eq.trans (r_go (act := oZret) rfl rfl) a_zret) (bcT (by decide +kernel))
    · refine Eq.trans (Eq.trans (r_go (act := oS (fAld 53 1)) rfl rfl) (a_ald rfl)) ?_
      refine Eq.trans (Eq.trans (r_go (act := oCI 56 1 (zcv g 9) (X_X9_token g)) rfl rfl) (a_cI rfl (zck (zO_1 g) rfl))) (zbI_cg (fun x3 M3 => ?_))
      refine Eq.trans (Eq.trans (r_go (act := oS (fIst 57 3)) rfl rfl) (a_ist rfl rfl)) ?_
      refine Eq.trans (Eq.trans (r_go (act := oS (fIld 58 3)) rfl rfl) (a_ild rfl)) ?_
      refine Eq.trans (Eq.trans (r_go (act := oS (fSt 61 (gC (.int 129)))) rfl rfl) (a_C)) ?_
      refine Eq.trans (Eq.trans (r_go (act := oS (fCm 77 64 cEq)) rfl rfl) (a_cm)) (bcg ?_ ?_)
      · exact r_cut rfl rfl
      · refine Eq.trans (Eq.trans (r_go (act := oS (fIld 65 3)) rfl rfl) (a_ild rfl)) ?_
        refine Eq.trans (Eq.trans (r_go (act := oS (fSt 68 (gC (.int 130)))) rfl rfl) (a_C)) ?_
        refine Eq.trans (Eq.trans (r_go (act := oS (fCm 77 71 cEq)) rfl rfl) (a_cm)) (bcg ?_ ?_)
        · exact r_cut rfl rfl
        · refine Eq.trans (Eq.trans (r_go (act := oS (fAld 72 1)) rfl rfl) (a_ald rfl)) ?_
          refine Eq.trans (Eq.trans (r_go (act := oS (fSt 73 (gC (.int 1)))) rfl rfl) (a_C)) ?_
          refine Eq.trans (Eq.trans (r_go (act := oCI 76 2 (zcv g 9) (X_X9_refuse g)) rfl rfl) (a_cI rfl (zck (zO_1 g) rfl))) (zbI_cg (fun x4 M4 => ?_))
          exact Eq.trans (r_go (act := oZret) rfl rfl) (a_zret)
set_option maxRecDepth 20000 in
theorem e_X7_readLine_77 (g : zg) (a2 : Int32) (a3 : Int32) (M : zM) : zX (t_X7_readLine g) 77 [some (.ref 64), some (.ref 1), some (.int a2), some (.int a3), none] [] M = (zbV (X_X9_step g [.ref 1] M) (fun M1 => (zbI (X_X9_expectNumber g [.ref 1, .int 0, .int 40] M1) (fun x2 M2 => (bif cEq x2 (-1) then some (some (.int 0), M2) else (bif zb (M2.1 64 3) 12 then (bif cEq a3 129 then (bif zb (M2.1 64 3) 12 then (zbI (X_X9_expect g [.ref 1, .int 59] ((zu (zu (zu (zu M2.1 65 (zx (M2.1 64 3)) a2) 66 (zx (M2.1 64 3)) x2) 64 2 ((M2.1 64 2) + a2)) 64 3 ((M2.1 64 3) + 1)), M2.2)) (fun x3 M3 => (bif cEq (x3 &&& 1) x3 then some (some (.int x3), M3) else none))) else none) else (bif zb (M2.1 64 3) 12 then (zbI (X_X9_expect g [.ref 1, .int 59] ((zu (zu (zu (zu M2.1 65 (zx (M2.1 64 3)) a2) 66 (zx (M2.1 64 3)) (-x2)) 64 2 ((M2.1 64 2) + a2)) 64 3 ((M2.1 64 3) + 1)), M2.2)) (fun x4 M4 => (bif cEq (x4 &&& 1) x4 then some (some (.int x4), M4) else none))) else none)) else none)))))) := by
  refine Eq.trans (zX_rgN (tl_X7_readLine g) (hc_X7_readLine g) 43 _ _ _ _) ?_
  refine Eq.trans (Eq.trans (Eq.trans (r_0 (act := oF [4] (oS (fAld 78 1))) rfl) (a_F rfl)) (a_ald rfl)) ?_
  refine Eq.trans (Eq.trans (r_go (act := oCV 81 1 (zcv g 9) (X_X9_step g)) rfl rfl) (a_cV rfl (zck (zO_1 g) rfl))) (zbV_cg (fun M1 => ?_))
  refine Eq.trans (Eq.trans (r_go (act := oS (fAld 82 1)) rfl rfl) (a_ald rfl)) ?_
  refine Eq.trans (Eq.trans (r_go (act := oS (fSt 83 (gC (.int 0)))) rfl rfl) (a_C)) ?_
  refine Eq.trans (Eq.trans (r_go (act := oS (fSt 85 (gC (.int 40)))) rfl rfl) (a_C)) ?_
  refine Eq.trans (Eq.trans (r_go (act := oCI 88 3 (zcv g 9) (X_X9_expectNumber g)) rfl rfl) (a_cI rfl (zck (zO_1 g) rfl))) (zbI_cg (fun x2 M2 => ?_))
  refine Eq.trans (Eq.trans (r_go (act := oS (fIst 90 4)) rfl rfl) (a_ist rfl rfl)) ?_
  refine Eq.trans (Eq.trans (r_go (act := oS (fIld 92 4)) rfl rfl) (a_ild rfl)) ?_
  refine Eq.trans (Eq.trans (r_go (act := oS (fSt 93 (gC (.int (-1))))) rfl rfl) (a_C)) ?_
  refine Eq.trans (Eq.trans (r_go (act := oS (fCm 96 98 cEq)) rfl rfl) (a_cm)) (bcg ?_ ?_)
  · refine Eq.trans (Eq.trans (r_go (act := oS (fSt 97 (gC (.int 0)))) rfl rfl) (a_C)) ?_
    exact Eq.trans (Eq.trans (r_go (act := oZret) rfl rfl) a_zret) (bcT (by decide +kernel))
  · refine Eq.trans (Eq.trans (r_go (act := oS (fAld 99 0)) rfl rfl) (a_ald rfl)) ?_
    refine Eq.trans (Eq.trans (r_go (act := oS (fGr g 102 7 0)) rfl rfl) (a_gr (zO_64 g) (zR_64_0 g))) ?_
    refine Eq.trans (Eq.trans (r_go (act := oS (fAld 103 0)) rfl rfl) (a_ald rfl)) ?_
    refine Eq.trans (Eq.trans (r_go (act := oS (fGi g 106 7 3)) rfl rfl) (a_gi (zO_64 g))) ?_
    refine Eq.trans (Eq.trans (r_go (act := oS (fIld 107 2)) rfl rfl) (a_ild rfl)) ?_
    refine Eq.trans (Eq.trans (r_go (act := oS (fIs g 108)) rfl rfl) (a_is (zA_65 g) zS_65)) (bcg ?_ rfl)
    refine Eq.trans (Eq.trans (r_go (act := oS (fAld 109 0)) rfl rfl) (a_ald rfl)) ?_
    refine Eq.trans (Eq.trans (r_go (act := oS (fGr g 112 7 1)) rfl rfl) (a_gr (zO_64 g) (zR_64_1 g))) ?_
    refine Eq.trans (Eq.trans (r_go (act := oS (fAld 113 0)) rfl rfl) (a_ald rfl)) ?_
    refine Eq.trans (Eq.trans (r_go (act := oS (fGi g 116 7 3)) rfl rfl) (a_giV (zO_64 g) rfl)) ?_
    refine Eq.trans (Eq.trans (r_go (act := oS (fIld 117 3)) rfl rfl) (a_ild rfl)) ?_
    refine Eq.trans (Eq.trans (r_go (act := oS (fSt 120 (gC (.int 129)))) rfl rfl) (a_C)) ?_
    refine Eq.trans (Eq.trans (r_go (act := oS (fCm 123 128 cEq)) rfl rfl) (a_cm)) (bcg ?_ ?_)
    · refine Eq.trans (Eq.trans (r_go (act := oS (fIld 125 4)) rfl rfl) (a_ild rfl)) ?_
      refine Eq.trans (Eq.trans (r_go (act := oS (fGo 131)) rfl rfl) (a_goto)) ?_
      refine Eq.trans (Eq.trans (r_go (act := oS (fIs g 132)) rfl rfl) (a_is (zA_66 g) zS_66)) (bcg ?_ rfl)
      refine Eq.trans (Eq.trans (r_go (act := oS (fAld 133 0)) rfl rfl) (a_ald rfl)) ?_
      refine Eq.trans (Eq.trans (r_go (act := oS (fSt 134 gDup)) rfl rfl) (a_dupR)) ?_
      refine Eq.trans (Eq.trans (r_go (act := oS (fGi g 137 7 2)) rfl rfl) (a_giV (zO_64 g) rfl)) ?_
      refine Eq.trans (Eq.trans (r_go (act := oS (fIld 138 2)) rfl rfl) (a_ild rfl)) ?_
      refine Eq.trans (Eq.trans (r_go (act := oS (fSt 139 (g2 (fun x y => x + y)))) rfl rfl) (a_add)) ?_
      refine Eq.trans (Eq.trans (r_go (act := oS (fPi g 142 7 2)) rfl rfl) (a_pi (zO_64 g))) ?_
      refine Eq.trans (Eq.trans (r_go (act := oS (fAld 143 0)) rfl rfl) (a_ald rfl)) ?_
      refine Eq.trans (Eq.trans (r_go (act := oS (fSt 144 gDup)) rfl rfl) (a_dupR)) ?_
      refine Eq.trans (Eq.trans (r_go (act := oS (fGi g 147 7 3)) rfl rfl) (a_giV (zO_64 g) rfl)) ?_
      refine Eq.trans (Eq.trans (r_go (act := oS (fSt 148 (gC (.int 1)))) rfl rfl) (a_C)) ?_
      refine Eq.trans (Eq.trans (r_go (act := oS (fSt 149 (g2 (fun x y => x + y)))) rfl rfl) (a_add)) ?_
      refine Eq.trans (Eq.trans (r_go (act := oS (fPi g 152 7 3)) rfl rfl) (a_pi (zO_64 g))) ?_
      refine Eq.trans (Eq.trans (r_go (act := oS (fAld 153 1)) rfl rfl) (a_ald rfl)) ?_
      refine Eq.trans (Eq.trans (r_go (act := oS (fSt 155 (gC (.int 59)))) rfl rfl) (a_C)) ?_
      refine Eq.trans (Eq.trans (r_go (act := oCI 158 2 (zcv g 9) (X_X9_expect g)) rfl rfl) (a_cI rfl (zck (zO_1 g) rfl))) (zbI_cg (fun x3 M3 => ?_))
      exact Eq.trans (r_go (act := oZret) rfl rfl) (a_zret)
    · refine Eq.trans (Eq.trans (r_go (act := oS (fIld 130 4)) rfl rfl) (a_ild rfl)) ?_
      refine Eq.trans (Eq.trans (r_go (act := oS (fSt 131 (g1 (fun x => -x)))) rfl rfl) (a_neg)) ?_
      refine Eq.trans (Eq.trans (r_go (act := oS (fIs g 132)) rfl rfl) (a_is (zA_66 g) zS_66)) (bcg ?_ rfl)
      refine Eq.trans (Eq.trans (r_go (act := oS (fAld 133 0)) rfl rfl) (a_ald rfl)) ?_
      refine Eq.trans (Eq.trans (r_go (act := oS (fSt 134 gDup)) rfl rfl) (a_dupR)) ?_
      refine Eq.trans (Eq.trans (r_go (act := oS (fGi g 137 7 2)) rfl rfl) (a_giV (zO_64 g) rfl)) ?_
      refine Eq.trans (Eq.trans (r_go (act := oS (fIld 138 2)) rfl rfl) (a_ild rfl)) ?_
      refine Eq.trans (Eq.trans (r_go (act := oS (fSt 139 (g2 (fun x y => x + y)))) rfl rfl) (a_add)) ?_
      refine Eq.trans (Eq.trans (r_go (act := oS (fPi g 142 7 2)) rfl rfl) (a_pi (zO_64 g))) ?_
      refine Eq.trans (Eq.trans (r_go (act := oS (fAld 143 0)) rfl rfl) (a_ald rfl)) ?_
      refine Eq.trans (Eq.trans (r_go (act := oS (fSt 144 gDup)) rfl rfl) (a_dupR)) ?_
      refine Eq.trans (Eq.trans (r_go (act := oS (fGi g 147 7 3)) rfl rfl) (a_giV (zO_64 g) rfl)) ?_
      refine Eq.trans (Eq.trans (r_go (act := oS (fSt 148 (gC (.int 1)))) rfl rfl) (a_C)) ?_
      refine Eq.trans (Eq.trans (r_go (act := oS (fSt 149 (g2 (fun x y => x + y)))) rfl rfl) (a_add)) ?_
      refine Eq.trans (Eq.trans (r_go (act := oS (fPi g 152 7 3)) rfl rfl) (a_pi (zO_64 g))) ?_
      refine Eq.trans (Eq.trans (r_go (act := oS (fAld 153 1)) rfl rfl) (a_ald rfl)) ?_
      refine Eq.trans (Eq.trans (r_go (act := oS (fSt 155 (gC (.int 59)))) rfl rfl) (a_C)) ?_
      refine Eq.trans (Eq.trans (r_go (act := oCI 158 2 (zcv g 9) (X_X9_expect g)) rfl rfl) (a_cI rfl (zck (zO_1 g) rfl))) (zbI_cg (fun x4 M4 => ?_))
      exact Eq.trans (r_go (act := oZret) rfl rfl) (a_zret)
set_option maxRecDepth 20000 in
theorem e_X7_read_0 (g : zg) (M : zM) : zX (t_X7_read g) 0 [some (.ref 64), some (.ref 1), none] [] M = (zbV (X_X9_split g [.ref 1, .ref 1001] M) (fun M1 => zX (t_X7_read g) 18 [some (.ref 64), some (.ref 1), some (.int 0)] [] ((zu (zu M1.1 64 3 0) 64 2 0), M1.2))) := by
  refine Eq.trans (zX_rgN (tl_X7_read g) (hc_X7_read g) 13 _ _ _ _) ?_
  refine Eq.trans (Eq.trans (r_0 (act := oS (fAld 1 1)) rfl) (a_ald rfl)) ?_
  refine Eq.trans (Eq.trans (r_go (act := oS (fLdS 3 1)) rfl rfl) (a_ldS)) ?_
  refine Eq.trans (Eq.trans (r_go (act := oCV 6 2 (zcv g 9) (X_X9_split g)) rfl rfl) (a_cV rfl (zck (zO_1 g) rfl))) (zbV_cg (fun M1 => ?_))
  refine Eq.trans (Eq.trans (r_go (act := oS (fAld 7 0)) rfl rfl) (a_ald rfl)) ?_
  refine Eq.trans (Eq.trans (r_go (act := oS (fSt 8 (gC (.int 0)))) rfl rfl) (a_C)) ?_
  refine Eq.trans (Eq.trans (r_go (act := oS (fPi g 11 7 3)) rfl rfl) (a_pi (zO_64 g))) ?_
  refine Eq.trans (Eq.trans (r_go (act := oS (fAld 12 0)) rfl rfl) (a_ald rfl)) ?_
  refine Eq.trans (Eq.trans (r_go (act := oS (fSt 13 (gC (.int 0)))) rfl rfl) (a_C)) ?_
  refine Eq.trans (Eq.trans (r_go (act := oS (fPi g 16 7 2)) rfl rfl) (a_pi (zO_64 g))) ?_
  refine Eq.trans (Eq.trans (r_go (act := oS (fSt 17 (gC (.int 0)))) rfl rfl) (a_C)) ?_
  refine Eq.trans (Eq.trans (r_go (act := oS (fIst 18 2)) rfl rfl) (a_ist rfl rfl)) ?_
  exact r_cut rfl rfl
theorem x_X7_read_0 (g : zg) (M : zM) : X_X7_read g [.ref 64, .ref 1] M = (zbV (X_X9_split g [.ref 1, .ref 1001] M) (fun M1 => zX (t_X7_read g) 18 [some (.ref 64), some (.ref 1), some (.int 0)] [] ((zu (zu M1.1 64 3 0) 64 2 0), M1.2))) := e_X7_read_0 g M
set_option maxRecDepth 20000 in
theorem e_X7_read_18 (g : zg) (a2 : Int32) (M : zM) : zX (t_X7_read g) 18 [some (.ref 64), some (.ref 1), some (.int a2)] [] M = (bif cGt a2 12 then some (some (.int 1), M) else (zbI (X_X9_token g [.ref 1] M) (fun x1 M1 => (bif cEq0 x1 then some (some (.int 1), M1) else (zbI (X_X7_readLine g [.ref 64, .ref 1] M1) (fun x2 M2 => (bif cEq0 x2 then some (some (.int 0), M2) else zX (t_X7_read g) 18 [some (.ref 64), some (.ref 1), some (.int (a2 + 1))] [] M2))))))) := by
  refine Eq.trans (zX_rgN (tl_X7_read g) (hc_X7_read g) 14 _ _ _ _) ?_
  refine Eq.trans (Eq.trans (Eq.trans (r_0 (act := oF [] (oS (fIld 19 2))) rfl) (a_F rfl)) (a_ild rfl)) ?_
  refine Eq.trans (Eq.trans (r_go (act := oS (fSt 21 (gC (.int 12)))) rfl rfl) (a_C)) ?_
  refine Eq.trans (Eq.trans (r_go (act := oS (fCm 47 24 cGt)) rfl rfl) (a_cm)) (bcg ?_ ?_)
  · refine Eq.trans (Eq.trans (r_go (act := oS (fSt 48 (gC (.int 1)))) rfl rfl) (a_C)) ?_
    exact Eq.trans (Eq.trans (r_go (act := oZret) rfl rfl) a_zret) (bcT (by decide +kernel))
  · refine Eq.trans (Eq.trans (r_go (act := oS (fAld 25 1)) rfl rfl) (a_ald rfl)) ?_
    refine Eq.trans (Eq.trans (r_go (act := oCI 28 1 (zcv g 9) (X_X9_token g)) rfl rfl) (a_cI rfl (zck (zO_1 g) rfl))) (zbI_cg (fun x1 M1 => ?_))
    refine Eq.trans (Eq.trans (r_go (act := oS (fIf 47 31 cEq0)) rfl rfl) (a_if)) (bcg ?_ ?_)
    · refine Eq.trans (Eq.trans (r_go (act := oS (fSt 48 (gC (.int 1)))) rfl rfl) (a_C)) ?_
      exact Eq.trans (Eq.trans (r_go (act := oZret) rfl rfl) a_zret) (bcT (by decide +kernel))
    · refine Eq.trans (Eq.trans (r_go (act := oS (fAld 32 0)) rfl rfl) (a_ald rfl)) ?_
      refine Eq.trans (Eq.trans (r_go (act := oS (fAld 33 1)) rfl rfl) (a_ald rfl)) ?_
      refine Eq.trans (Eq.trans (r_go (act := oCI 36 2 (zcv g 7) (X_X7_readLine g)) rfl rfl) (a_cI rfl (zck (zO_64 g) rfl))) (zbI_cg (fun x2 M2 => ?_))
      refine Eq.trans (Eq.trans (r_go (act := oS (fIf 39 41 cEq0)) rfl rfl) (a_if)) (bcg ?_ ?_)
      · refine Eq.trans (Eq.trans (r_go (act := oS (fSt 40 (gC (.int 0)))) rfl rfl) (a_C)) ?_
        exact Eq.trans (Eq.trans (r_go (act := oZret) rfl rfl) a_zret) (bcT (by decide +kernel))
      · refine Eq.trans (Eq.trans (r_go (act := oS (fInc 44 2 1)) rfl rfl) (a_inc rfl rfl rfl)) ?_
        refine Eq.trans (Eq.trans (r_go (act := oS (fGo 18)) rfl rfl) (a_goto)) ?_
        exact r_cut rfl rfl
set_option maxRecDepth 20000 in
theorem e_X7_take_0 (g : zg) (M : zM) : zX (t_X7_take g) 0 [some (.ref 17), some (.ref 64)] [] M = some (none, ((zcp (zcp (zu (zu M.1 17 3 (M.1 64 3)) 17 2 (M.1 64 2)) 65 18 (zx 12)) 66 19 (zx 12)), M.2)) := by
  refine Eq.trans (zX_rgN (tl_X7_take g) (hc_X7_take g) 26 _ _ _ _) ?_
  refine Eq.trans (Eq.trans (r_0 (act := oS (fAld 1 0)) rfl) (a_ald rfl)) ?_
  refine Eq.trans (Eq.trans (r_go (act := oS (fAld 2 1)) rfl rfl) (a_ald rfl)) ?_
  refine Eq.trans (Eq.trans (r_go (act := oS (fGi g 5 7 3)) rfl rfl) (a_gi (zO_64 g))) ?_
  refine Eq.trans (Eq.trans (r_go (act := oS (fPi g 8 7 3)) rfl rfl) (a_pi (zO_17 g))) ?_
  refine Eq.trans (Eq.trans (r_go (act := oS (fAld 9 0)) rfl rfl) (a_ald rfl)) ?_
  refine Eq.trans (Eq.trans (r_go (act := oS (fAld 10 1)) rfl rfl) (a_ald rfl)) ?_
  refine Eq.trans (Eq.trans (r_go (act := oS (fGi g 13 7 2)) rfl rfl) (a_giV (zO_64 g) rfl)) ?_
  refine Eq.trans (Eq.trans (r_go (act := oS (fPi g 16 7 2)) rfl rfl) (a_pi (zO_17 g))) ?_
  refine Eq.trans (Eq.trans (r_go (act := oS (fAld 17 1)) rfl rfl) (a_ald rfl)) ?_
  refine Eq.trans (Eq.trans (r_go (act := oS (fGr g 20 7 0)) rfl rfl) (a_gr (zO_64 g) (zR_64_0 g))) ?_
  refine Eq.trans (Eq.trans (r_go (act := oS (fSt 21 (gC (.int 0)))) rfl rfl) (a_C)) ?_
  refine Eq.trans (Eq.trans (r_go (act := oS (fAld 22 0)) rfl rfl) (a_ald rfl)) ?_
  refine Eq.trans (Eq.trans (r_go (act := oS (fGr g 25 7 0)) rfl rfl) (a_gr (zO_17 g) (zR_17_0 g))) ?_
  refine Eq.trans (Eq.trans (r_go (act := oS (fSt 26 (gC (.int 0)))) rfl rfl) (a_C)) ?_
  refine Eq.trans (Eq.trans (r_go (act := oS (fSt 28 (gC (.int 12)))) rfl rfl) (a_C)) ?_
  refine Eq.trans (Eq.trans (r_go (act := oS (fCp g 31)) rfl rfl) (a_cp (zCp (zA_65 g) (zA_18 g) zS_65 zS_18 (by decide +kernel) (by decide +kernel) rfl))) ?_
  refine Eq.trans (Eq.trans (r_go (act := oS (fAld 32 1)) rfl rfl) (a_ald rfl)) ?_
  refine Eq.trans (Eq.trans (r_go (act := oS (fGr g 35 7 1)) rfl rfl) (a_gr (zO_64 g) (zR_64_1 g))) ?_
  refine Eq.trans (Eq.trans (r_go (act := oS (fSt 36 (gC (.int 0)))) rfl rfl) (a_C)) ?_
  refine Eq.trans (Eq.trans (r_go (act := oS (fAld 37 0)) rfl rfl) (a_ald rfl)) ?_
  refine Eq.trans (Eq.trans (r_go (act := oS (fGr g 40 7 1)) rfl rfl) (a_gr (zO_17 g) (zR_17_1 g))) ?_
  refine Eq.trans (Eq.trans (r_go (act := oS (fSt 41 (gC (.int 0)))) rfl rfl) (a_C)) ?_
  refine Eq.trans (Eq.trans (r_go (act := oS (fSt 43 (gC (.int 12)))) rfl rfl) (a_C)) ?_
  refine Eq.trans (Eq.trans (r_go (act := oS (fCp g 46)) rfl rfl) (a_cp (zCp (zA_66 g) (zA_19 g) zS_66 zS_19 (by decide +kernel) (by decide +kernel) rfl))) ?_
  exact Eq.trans (r_go (act := oVret) rfl rfl) (a_vret)
theorem x_X7_take_0 (g : zg) (M : zM) : X_X7_take g [.ref 17, .ref 64] M = some (none, ((zcp (zcp (zu (zu M.1 17 3 (M.1 64 3)) 17 2 (M.1 64 2)) 65 18 (zx 12)) 66 19 (zx 12)), M.2)) := e_X7_take_0 g M
set_option maxRecDepth 20000 in
theorem e_X0_readWhom_0 (g : zg) (a2 : Int32) (M : zM) : zX (t_X0_readWhom g) 0 [some (.ref 67), some (.ref 1), some (.int a2)] [] M = (zbI (X_X9_expectNumber g [.ref 1, .int 0, .int (a2 - 1)] M) (fun x1 M1 => (bif zb (M.1 67 4) 16 then (bif zb (M1.1 67 4) 16 then (bif cEq ((zu M1.1 70 (zx (M.1 67 4)) x1) 70 (zx (M1.1 67 4))) (-1) then some (some (.int 0), ((zu M1.1 70 (zx (M.1 67 4)) x1), M1.2)) else (bif zb (M1.1 67 4) 16 then (bif cEq (M1.1 69 (zx (M1.1 67 4))) 1 then (zbI (X_X9_expectNumber g [.ref 1, .int 0, .int 99] ((zu M1.1 70 (zx (M.1 67 4)) x1), M1.2)) (fun x2 M2 => (bif zb (M1.1 67 4) 16 then (bif zb (M2.1 67 4) 16 then (bif cEq ((zu M2.1 71 (zx (M1.1 67 4)) x2) 71 (zx (M2.1 67 4))) (-1) then some (some (.int 0), ((zu M2.1 71 (zx (M1.1 67 4)) x2), M2.2)) else some (some (.int 1), ((zu M2.1 71 (zx (M1.1 67 4)) x2), M2.2))) else none) else none))) else (bif zb (M1.1 67 4) 16 then (bif cEq (M1.1 69 (zx (M1.1 67 4))) 2 then (zbI (X_X9_expectNumber g [.ref 1, .int 0, .int 4] ((zu M1.1 70 (zx (M.1 67 4)) x1), M1.2)) (fun x3 M3 => (bif zb (M1.1 67 4) 16 then (bif zb (M3.1 67 4) 16 then (bif cEq ((zu M3.1 71 (zx (M1.1 67 4)) x3) 71 (zx (M3.1 67 4))) (-1) then some (some (.int 0), ((zu M3.1 71 (zx (M1.1 67 4)) x3), M3.2)) else some (some (.int 1), ((zu M3.1 71 (zx (M1.1 67 4)) x3), M3.2))) else none) else none))) else (bif zb (M1.1 67 4) 16 then (bif zb (M1.1 67 4) 16 then (bif cEq ((zu (zu M1.1 70 (zx (M.1 67 4)) x1) 71 (zx (M1.1 67 4)) 0) 71 (zx (M1.1 67 4))) (-1) then some (some (.int 0), ((zu (zu M1.1 70 (zx (M.1 67 4)) x1) 71 (zx (M1.1 67 4)) 0), M1.2)) else some (some (.int 1), ((zu (zu M1.1 70 (zx (M.1 67 4)) x1) 71 (zx (M1.1 67 4)) 0), M1.2))) else none) else none)) else none)) else none)) else none) else none))) := by
  refine Eq.trans (zX_rgN (tl_X0_readWhom g) (hc_X0_readWhom g) 53 _ _ _ _) ?_
  refine Eq.trans (Eq.trans (r_0 (act := oS (fAld 1 0)) rfl) (a_ald rfl)) ?_
  refine Eq.trans (Eq.trans (r_go (act := oS (fGr g 4 0 2)) rfl rfl) (a_gr (zO_67 g) (zR_67_2 g))) ?_
  refine Eq.trans (Eq.trans (r_go (act := oS (fAld 5 0)) rfl rfl) (a_ald rfl)) ?_
  refine Eq.trans (Eq.trans (r_go (act := oS (fGi g 8 0 4)) rfl rfl) (a_gi (zO_67 g))) ?_
  refine Eq.trans (Eq.trans (r_go (act := oS (fAld 9 1)) rfl rfl) (a_ald rfl)) ?_
  refine Eq.trans (Eq.trans (r_go (act := oS (fSt 10 (gC (.int 0)))) rfl rfl) (a_C)) ?_
  refine Eq.trans (Eq.trans (r_go (act := oS (fIld 11 2)) rfl rfl) (a_ild rfl)) ?_
  refine Eq.trans (Eq.trans (r_go (act := oS (fSt 12 (gC (.int 1)))) rfl rfl) (a_C)) ?_
  refine Eq.trans (Eq.trans (r_go (act := oS (fSt 13 (g2 (fun x y => x - y)))) rfl rfl) (a_sub)) ?_
  refine Eq.trans (Eq.trans (r_go (act := oCI 16 3 (zcv g 9) (X_X9_expectNumber g)) rfl rfl) (a_cI rfl (zck (zO_1 g) rfl))) (zbI_cg (fun x1 M1 => ?_))
  refine Eq.trans (Eq.trans (r_go (act := oS (fIs g 17)) rfl rfl) (a_is (zA_70 g) zS_70)) (bcg ?_ rfl)
  refine Eq.trans (Eq.trans (r_go (act := oS (fAld 18 0)) rfl rfl) (a_ald rfl)) ?_
  refine Eq.trans (Eq.trans (r_go (act := oS (fGr g 21 0 2)) rfl rfl) (a_gr (zO_67 g) (zR_67_2 g))) ?_
  refine Eq.trans (Eq.trans (r_go (act := oS (fAld 22 0)) rfl rfl) (a_ald rfl)) ?_
  refine Eq.trans (Eq.trans (r_go (act := oS (fGi g 25 0 4)) rfl rfl) (a_giV (zO_67 g) rfl)) ?_
  refine Eq.trans (Eq.trans (r_go (act := oS (fIa g 26)) rfl rfl) (a_ia (zA_70 g) zS_70)) (bcg ?_ rfl)
  refine Eq.trans (Eq.trans (r_go (act := oS (fSt 27 (gC (.int (-1))))) rfl rfl) (a_C)) ?_
  refine Eq.trans (Eq.trans (r_go (act := oS (fCm 30 32 cEq)) rfl rfl) (a_cm)) (bcg ?_ ?_)
  · refine Eq.trans (Eq.trans (r_go (act := oS (fSt 31 (gC (.int 0)))) rfl rfl) (a_C)) ?_
    exact Eq.trans (Eq.trans (r_go (act := oZret) rfl rfl) a_zret) (bcT (by decide +kernel))
  · refine Eq.trans (Eq.trans (r_go (act := oS (fAld 33 0)) rfl rfl) (a_ald rfl)) ?_
    refine Eq.trans (Eq.trans (r_go (act := oS (fGr g 36 0 1)) rfl rfl) (a_gr (zO_67 g) (zR_67_1 g))) ?_
    refine Eq.trans (Eq.trans (r_go (act := oS (fAld 37 0)) rfl rfl) (a_ald rfl)) ?_
    refine Eq.trans (Eq.trans (r_go (act := oS (fGi g 40 0 4)) rfl rfl) (a_giV (zO_67 g) rfl)) ?_
    refine Eq.trans (Eq.trans (r_go (act := oS (fIa g 41)) rfl rfl) (a_iaV (zA_69 g) zS_69 rfl)) (bcg ?_ rfl)
    refine Eq.trans (Eq.trans (r_go (act := oS (fSt 42 (gC (.int 1)))) rfl rfl) (a_C)) ?_
    refine Eq.trans (Eq.trans (r_go (act := oS (fCm 45 64 cEq)) rfl rfl) (a_cm)) (bcg ?_ ?_)
    · refine Eq.trans (Eq.trans (r_go (act := oS (fAld 46 0)) rfl rfl) (a_ald rfl)) ?_
      refine Eq.trans (Eq.trans (r_go (act := oS (fGr g 49 0 3)) rfl rfl) (a_gr (zO_67 g) (zR_67_3 g))) ?_
      refine Eq.trans (Eq.trans (r_go (act := oS (fAld 50 0)) rfl rfl) (a_ald rfl)) ?_
      refine Eq.trans (Eq.trans (r_go (act := oS (fGi g 53 0 4)) rfl rfl) (a_giV (zO_67 g) rfl)) ?_
      refine Eq.trans (Eq.trans (r_go (act := oS (fAld 54 1)) rfl rfl) (a_ald rfl)) ?_
      refine Eq.trans (Eq.trans (r_go (act := oS (fSt 55 (gC (.int 0)))) rfl rfl) (a_C)) ?_
      refine Eq.trans (Eq.trans (r_go (act := oS (fSt 57 (gC (.int 99)))) rfl rfl) (a_C)) ?_
      refine Eq.trans (Eq.trans (r_go (act := oCI 60 3 (zcv g 9) (X_X9_expectNumber g)) rfl rfl) (a_cI rfl (zck (zO_1 g) rfl))) (zbI_cg (fun x2 M2 => ?_))
      refine Eq.trans (Eq.trans (r_go (act := oS (fIs g 61)) rfl rfl) (a_is (zA_71 g) zS_71)) (bcg ?_ rfl)
      refine Eq.trans (Eq.trans (r_go (act := oS (fGo 105)) rfl rfl) (a_goto)) ?_
      refine Eq.trans (Eq.trans (r_go (act := oS (fAld 106 0)) rfl rfl) (a_ald rfl)) ?_
      refine Eq.trans (Eq.trans (r_go (act := oS (fGr g 109 0 3)) rfl rfl) (a_gr (zO_67 g) (zR_67_3 g))) ?_
      refine Eq.trans (Eq.trans (r_go (act := oS (fAld 110 0)) rfl rfl) (a_ald rfl)) ?_
      refine Eq.trans (Eq.trans (r_go (act := oS (fGi g 113 0 4)) rfl rfl) (a_giV (zO_67 g) rfl)) ?_
      refine Eq.trans (Eq.trans (r_go (act := oS (fIa g 114)) rfl rfl) (a_ia (zA_71 g) zS_71)) (bcg ?_ rfl)
      refine Eq.trans (Eq.trans (r_go (act := oS (fSt 115 (gC (.int (-1))))) rfl rfl) (a_C)) ?_
      refine Eq.trans (Eq.trans (r_go (act := oS (fCm 122 118 cEq)) rfl rfl) (a_cm)) (bcg ?_ ?_)
      · refine Eq.trans (Eq.trans (r_go (act := oS (fSt 123 (gC (.int 0)))) rfl rfl) (a_C)) ?_
        exact Eq.trans (Eq.trans (r_go (act := oZret) rfl rfl) a_zret) (bcT (by decide +kernel))
      · refine Eq.trans (Eq.trans (r_go (act := oS (fSt 119 (gC (.int 1)))) rfl rfl) (a_C)) ?_
        refine Eq.trans (Eq.trans (r_go (act := oS (fGo 123)) rfl rfl) (a_goto)) ?_
        exact Eq.trans (Eq.trans (r_go (act := oZret) rfl rfl) a_zret) (bcT (by decide +kernel))
    · refine Eq.trans (Eq.trans (r_go (act := oS (fAld 65 0)) rfl rfl) (a_ald rfl)) ?_
      refine Eq.trans (Eq.trans (r_go (act := oS (fGr g 68 0 1)) rfl rfl) (a_gr (zO_67 g) (zR_67_1 g))) ?_
      refine Eq.trans (Eq.trans (r_go (act := oS (fAld 69 0)) rfl rfl) (a_ald rfl)) ?_
      refine Eq.trans (Eq.trans (r_go (act := oS (fGi g 72 0 4)) rfl rfl) (a_giV (zO_67 g) rfl)) ?_
      refine Eq.trans (Eq.trans (r_go (act := oS (fIa g 73)) rfl rfl) (a_iaV (zA_69 g) zS_69 rfl)) (bcg ?_ rfl)
      refine Eq.trans (Eq.trans (r_go (act := oS (fSt 74 (gC (.int 2)))) rfl rfl) (a_C)) ?_
      refine Eq.trans (Eq.trans (r_go (act := oS (fCm 77 95 cEq)) rfl rfl) (a_cm)) (bcg ?_ ?_)
      · refine Eq.trans (Eq.trans (r_go (act := oS (fAld 78 0)) rfl rfl) (a_ald rfl)) ?_
        refine Eq.trans (Eq.trans (r_go (act := oS (fGr g 81 0 3)) rfl rfl) (a_gr (zO_67 g) (zR_67_3 g))) ?_
        refine Eq.trans (Eq.trans (r_go (act := oS (fAld 82 0)) rfl rfl) (a_ald rfl)) ?_
        refine Eq.trans (Eq.trans (r_go (act := oS (fGi g 85 0 4)) rfl rfl) (a_giV (zO_67 g) rfl)) ?_
        refine Eq.trans (Eq.trans (r_go (act := oS (fAld 86 1)) rfl rfl) (a_ald rfl)) ?_
        refine Eq.trans (Eq.trans (r_go (act := oS (fSt 87 (gC (.int 0)))) rfl rfl) (a_C)) ?_
        refine Eq.trans (Eq.trans (r_go (act := oS (fSt 88 (gC (.int 4)))) rfl rfl) (a_C)) ?_
        refine Eq.trans (Eq.trans (r_go (act := oCI 91 3 (zcv g 9) (X_X9_expectNumber g)) rfl rfl) (a_cI rfl (zck (zO_1 g) rfl))) (zbI_cg (fun x3 M3 => ?_))
        refine Eq.trans (Eq.trans (r_go (act := oS (fIs g 92)) rfl rfl) (a_is (zA_71 g) zS_71)) (bcg ?_ rfl)
        refine Eq.trans (Eq.trans (r_go (act := oS (fGo 105)) rfl rfl) (a_goto)) ?_
        refine Eq.trans (Eq.trans (r_go (act := oS (fAld 106 0)) rfl rfl) (a_ald rfl)) ?_
        refine Eq.trans (Eq.trans (r_go (act := oS (fGr g 109 0 3)) rfl rfl) (a_gr (zO_67 g) (zR_67_3 g))) ?_
        refine Eq.trans (Eq.trans (r_go (act := oS (fAld 110 0)) rfl rfl) (a_ald rfl)) ?_
        refine Eq.trans (Eq.trans (r_go (act := oS (fGi g 113 0 4)) rfl rfl) (a_giV (zO_67 g) rfl)) ?_
        refine Eq.trans (Eq.trans (r_go (act := oS (fIa g 114)) rfl rfl) (a_ia (zA_71 g) zS_71)) (bcg ?_ rfl)
        refine Eq.trans (Eq.trans (r_go (act := oS (fSt 115 (gC (.int (-1))))) rfl rfl) (a_C)) ?_
        refine Eq.trans (Eq.trans (r_go (act := oS (fCm 122 118 cEq)) rfl rfl) (a_cm)) (bcg ?_ ?_)
        · refine Eq.trans (Eq.trans (r_go (act := oS (fSt 123 (gC (.int 0)))) rfl rfl) (a_C)) ?_
          exact Eq.trans (Eq.trans (r_go (act := oZret) rfl rfl) a_zret) (bcT (by decide +kernel))
        · refine Eq.trans (Eq.trans (r_go (act := oS (fSt 119 (gC (.int 1)))) rfl rfl) (a_C)) ?_
          refine Eq.trans (Eq.trans (r_go (act := oS (fGo 123)) rfl rfl) (a_goto)) ?_
          exact Eq.trans (Eq.trans (r_go (act := oZret) rfl rfl) a_zret) (bcT (by decide +kernel))
      · refine Eq.trans (Eq.trans (r_go (act := oS (fAld 96 0)) rfl rfl) (a_ald rfl)) ?_
        refine Eq.trans (Eq.trans (r_go (act := oS (fGr g 99 0 3)) rfl rfl) (a_gr (zO_67 g) (zR_67_3 g))) ?_
        refine Eq.trans (Eq.trans (r_go (act := oS (fAld 100 0)) rfl rfl) (a_ald rfl)) ?_
        refine Eq.trans (Eq.trans (r_go (act := oS (fGi g 103 0 4)) rfl rfl) (a_giV (zO_67 g) rfl)) ?_
        refine Eq.trans (Eq.trans (r_go (act := oS (fSt 104 (gC (.int 0)))) rfl rfl) (a_C)) ?_
        refine Eq.trans (Eq.trans (r_go (act := oS (fIs g 105)) rfl rfl) (a_is (zA_71 g) zS_71)) (bcg ?_ rfl)
        refine Eq.trans (Eq.trans (r_go (act := oS (fAld 106 0)) rfl rfl) (a_ald rfl)) ?_
        refine Eq.trans (Eq.trans (r_go (act := oS (fGr g 109 0 3)) rfl rfl) (a_gr (zO_67 g) (zR_67_3 g))) ?_
        refine Eq.trans (Eq.trans (r_go (act := oS (fAld 110 0)) rfl rfl) (a_ald rfl)) ?_
        refine Eq.trans (Eq.trans (r_go (act := oS (fGi g 113 0 4)) rfl rfl) (a_giV (zO_67 g) rfl)) ?_
        refine Eq.trans (Eq.trans (r_go (act := oS (fIa g 114)) rfl rfl) (a_ia (zA_71 g) zS_71)) (bcg ?_ rfl)
        refine Eq.trans (Eq.trans (r_go (act := oS (fSt 115 (gC (.int (-1))))) rfl rfl) (a_C)) ?_
        refine Eq.trans (Eq.trans (r_go (act := oS (fCm 122 118 cEq)) rfl rfl) (a_cm)) (bcg ?_ ?_)
        · refine Eq.trans (Eq.trans (r_go (act := oS (fSt 123 (gC (.int 0)))) rfl rfl) (a_C)) ?_
          exact Eq.trans (Eq.trans (r_go (act := oZret) rfl rfl) a_zret) (bcT (by decide +kernel))
        · refine Eq.trans (Eq.trans (r_go (act := oS (fSt 119 (gC (.int 1)))) rfl rfl) (a_C)) ?_
          refine Eq.trans (Eq.trans (r_go (act := oS (fGo 123)) rfl rfl) (a_goto)) ?_
          exact Eq.trans (Eq.trans (r_go (act := oZret) rfl rfl) a_zret) (bcT (by decide +kernel))
theorem x_X0_readWhom_0 (g : zg) (a2 : Int32) (M : zM) : X_X0_readWhom g [.ref 67, .ref 1, .int a2] M = (zbI (X_X9_expectNumber g [.ref 1, .int 0, .int (a2 - 1)] M) (fun x1 M1 => (bif zb (M.1 67 4) 16 then (bif zb (M1.1 67 4) 16 then (bif cEq ((zu M1.1 70 (zx (M.1 67 4)) x1) 70 (zx (M1.1 67 4))) (-1) then some (some (.int 0), ((zu M1.1 70 (zx (M.1 67 4)) x1), M1.2)) else (bif zb (M1.1 67 4) 16 then (bif cEq (M1.1 69 (zx (M1.1 67 4))) 1 then (zbI (X_X9_expectNumber g [.ref 1, .int 0, .int 99] ((zu M1.1 70 (zx (M.1 67 4)) x1), M1.2)) (fun x2 M2 => (bif zb (M1.1 67 4) 16 then (bif zb (M2.1 67 4) 16 then (bif cEq ((zu M2.1 71 (zx (M1.1 67 4)) x2) 71 (zx (M2.1 67 4))) (-1) then some (some (.int 0), ((zu M2.1 71 (zx (M1.1 67 4)) x2), M2.2)) else some (some (.int 1), ((zu M2.1 71 (zx (M1.1 67 4)) x2), M2.2))) else none) else none))) else (bif zb (M1.1 67 4) 16 then (bif cEq (M1.1 69 (zx (M1.1 67 4))) 2 then (zbI (X_X9_expectNumber g [.ref 1, .int 0, .int 4] ((zu M1.1 70 (zx (M.1 67 4)) x1), M1.2)) (fun x3 M3 => (bif zb (M1.1 67 4) 16 then (bif zb (M3.1 67 4) 16 then (bif cEq ((zu M3.1 71 (zx (M1.1 67 4)) x3) 71 (zx (M3.1 67 4))) (-1) then some (some (.int 0), ((zu M3.1 71 (zx (M1.1 67 4)) x3), M3.2)) else some (some (.int 1), ((zu M3.1 71 (zx (M1.1 67 4)) x3), M3.2))) else none) else none))) else (bif zb (M1.1 67 4) 16 then (bif zb (M1.1 67 4) 16 then (bif cEq ((zu (zu M1.1 70 (zx (M.1 67 4)) x1) 71 (zx (M1.1 67 4)) 0) 71 (zx (M1.1 67 4))) (-1) then some (some (.int 0), ((zu (zu M1.1 70 (zx (M.1 67 4)) x1) 71 (zx (M1.1 67 4)) 0), M1.2)) else some (some (.int 1), ((zu (zu M1.1 70 (zx (M.1 67 4)) x1) 71 (zx (M1.1 67 4)) 0), M1.2))) else none) else none)) else none)) else none)) else none) else none))) := e_X0_readWhom_0 g a2 M
set_option maxRecDepth 20000 in
theorem e_X0_readLine_0 (g : zg) (a2 : Int32) (M : zM) : zX (t_X0_readLine g) 0 [some (.ref 67), some (.ref 1), some (.int a2)] [] M = (zbI (X_X9_token g [.ref 1] M) (fun x1 M1 => (bif cEq x1 134 then (bif cLt (M1.1 67 4) 16 then zX (t_X0_readLine g) 25 [some (.ref 67), some (.ref 1), some (.int a2)] [] M1 else (zbI (X_X9_refuse g [.ref 1, .int 3] M1) (fun x2 M2 => (bif cEq (x2 &&& 1) x2 then some (some (.int x2), M2) else none)))) else zX (t_X0_readLine g) 25 [some (.ref 67), some (.ref 1), some (.int a2)] [] M1))) := by
  refine Eq.trans (zX_rgN (tl_X0_readLine g) (hc_X0_readLine g) 13 _ _ _ _) ?_
  refine Eq.trans (Eq.trans (r_0 (act := oS (fAld 1 1)) rfl) (a_ald rfl)) ?_
  refine Eq.trans (Eq.trans (r_go (act := oCI 4 1 (zcv g 9) (X_X9_token g)) rfl rfl) (a_cI rfl (zck (zO_1 g) rfl))) (zbI_cg (fun x1 M1 => ?_))
  refine Eq.trans (Eq.trans (r_go (act := oS (fSt 7 (gC (.int 134)))) rfl rfl) (a_C)) ?_
  refine Eq.trans (Eq.trans (r_go (act := oS (fCm 10 25 cEq)) rfl rfl) (a_cm)) (bcg ?_ ?_)
  · refine Eq.trans (Eq.trans (r_go (act := oS (fAld 11 0)) rfl rfl) (a_ald rfl)) ?_
    refine Eq.trans (Eq.trans (r_go (act := oS (fGi g 14 0 4)) rfl rfl) (a_gi (zO_67 g))) ?_
    refine Eq.trans (Eq.trans (r_go (act := oS (fSt 16 (gC (.int 16)))) rfl rfl) (a_C)) ?_
    refine Eq.trans (Eq.trans (r_go (act := oS (fCm 25 19 cLt)) rfl rfl) (a_cm)) (bcg ?_ ?_)
    · exact r_cut rfl rfl
    · refine Eq.trans (Eq.trans (r_go (act := oS (fAld 20 1)) rfl rfl) (a_ald rfl)) ?_
      refine Eq.trans (Eq.trans (r_go (act := oS (fSt 21 (gC (.int 3)))) rfl rfl) (a_C)) ?_
      refine Eq.trans (Eq.trans (r_go (act := oCI 24 2 (zcv g 9) (X_X9_refuse g)) rfl rfl) (a_cI rfl (zck (zO_1 g) rfl))) (zbI_cg (fun x2 M2 => ?_))
      exact Eq.trans (r_go (act := oZret) rfl rfl) (a_zret)
  · exact r_cut rfl rfl
theorem x_X0_readLine_0 (g : zg) (a2 : Int32) (M : zM) : X_X0_readLine g [.ref 67, .ref 1, .int a2] M = (zbI (X_X9_token g [.ref 1] M) (fun x1 M1 => (bif cEq x1 134 then (bif cLt (M1.1 67 4) 16 then zX (t_X0_readLine g) 25 [some (.ref 67), some (.ref 1), some (.int a2)] [] M1 else (zbI (X_X9_refuse g [.ref 1, .int 3] M1) (fun x2 M2 => (bif cEq (x2 &&& 1) x2 then some (some (.int x2), M2) else none)))) else zX (t_X0_readLine g) 25 [some (.ref 67), some (.ref 1), some (.int a2)] [] M1))) := e_X0_readLine_0 g a2 M
set_option maxRecDepth 20000 in
theorem e_X0_readLine_25 (g : zg) (a2 : Int32) (M : zM) : zX (t_X0_readLine g) 25 [some (.ref 67), some (.ref 1), some (.int a2)] [] M = (zbI (X_X9_expect g [.ref 1, .int 134] M) (fun x1 M1 => (bif cEq0 x1 then some (some (.int 0), M1) else (zbI (X_X9_expectNumber g [.ref 1, .int 0, .int 999] M1) (fun x2 M2 => (bif zb (M1.1 67 4) 16 then (bif zb (M2.1 67 4) 16 then (bif cEq ((zu M2.1 68 (zx (M1.1 67 4)) x2) 68 (zx (M2.1 67 4))) (-1) then some (some (.int 0), ((zu M2.1 68 (zx (M1.1 67 4)) x2), M2.2)) else (zbI (X_X9_token g [.ref 1] ((zu M2.1 68 (zx (M1.1 67 4)) x2), M2.2)) (fun x3 M3 => (bif zb (M2.1 67 4) 16 then (bif zb (M3.1 67 4) 16 then (zbI (X_X11_within g [.int ((zu M3.1 69 (zx (M2.1 67 4)) (x3 - 128)) 69 (zx (M3.1 67 4))), .int 0, .int 5] ((zu M3.1 69 (zx (M2.1 67 4)) (x3 - 128)), M3.2)) (fun x4 M4 => (bif cEq0 x4 then (zbI (X_X9_refuse g [.ref 1, .int 1] M4) (fun x5 M5 => (bif cEq (x5 &&& 1) x5 then some (some (.int x5), M5) else none))) else (zbV (X_X9_step g [.ref 1] M4) (fun M6 => (bif zb (M6.1 67 4) 16 then (bif cEq (M6.1 69 (zx (M6.1 67 4))) 5 then (zbI (X_X9_expect g [.ref 1, .int 59] ((zu M6.1 67 4 ((M6.1 67 4) + 1)), M6.2)) (fun x7 M7 => (bif cEq (x7 &&& 1) x7 then some (some (.int x7), M7) else none))) else (zbI (X_X0_readWhom g [.ref 67, .ref 1, .int a2] M6) (fun x8 M8 => (bif cEq0 x8 then some (some (.int 0), M8) else (zbI (X_X9_expect g [.ref 1, .int 59] ((zu M8.1 67 4 ((M8.1 67 4) + 1)), M8.2)) (fun x9 M9 => (bif cEq (x9 &&& 1) x9 then some (some (.int x9), M9) else none))))))) else none)))))) else none) else none)))) else none) else none)))))) := by
  refine Eq.trans (zX_rgN (tl_X0_readLine g) (hc_X0_readLine g) 63 _ _ _ _) ?_
  refine Eq.trans (Eq.trans (Eq.trans (r_0 (act := oF [] (oS (fAld 26 1))) rfl) (a_F rfl)) (a_ald rfl)) ?_
  refine Eq.trans (Eq.trans (r_go (act := oS (fSt 29 (gC (.int 134)))) rfl rfl) (a_C)) ?_
  refine Eq.trans (Eq.trans (r_go (act := oCI 32 2 (zcv g 9) (X_X9_expect g)) rfl rfl) (a_cI rfl (zck (zO_1 g) rfl))) (zbI_cg (fun x1 M1 => ?_))
  refine Eq.trans (Eq.trans (r_go (act := oS (fIf 35 37 cEq0)) rfl rfl) (a_if)) (bcg ?_ ?_)
  · refine Eq.trans (Eq.trans (r_go (act := oS (fSt 36 (gC (.int 0)))) rfl rfl) (a_C)) ?_
    exact Eq.trans (Eq.trans (r_go (act := oZret) rfl rfl) a_zret) (bcT (by decide +kernel))
  · refine Eq.trans (Eq.trans (r_go (act := oS (fAld 38 0)) rfl rfl) (a_ald rfl)) ?_
    refine Eq.trans (Eq.trans (r_go (act := oS (fGr g 41 0 0)) rfl rfl) (a_gr (zO_67 g) (zR_67_0 g))) ?_
    refine Eq.trans (Eq.trans (r_go (act := oS (fAld 42 0)) rfl rfl) (a_ald rfl)) ?_
    refine Eq.trans (Eq.trans (r_go (act := oS (fGi g 45 0 4)) rfl rfl) (a_gi (zO_67 g))) ?_
    refine Eq.trans (Eq.trans (r_go (act := oS (fAld 46 1)) rfl rfl) (a_ald rfl)) ?_
    refine Eq.trans (Eq.trans (r_go (act := oS (fSt 47 (gC (.int 0)))) rfl rfl) (a_C)) ?_
    refine Eq.trans (Eq.trans (r_go (act := oS (fSt 50 (gC (.int 999)))) rfl rfl) (a_C)) ?_
    refine Eq.trans (Eq.trans (r_go (act := oCI 53 3 (zcv g 9) (X_X9_expectNumber g)) rfl rfl) (a_cI rfl (zck (zO_1 g) rfl))) (zbI_cg (fun x2 M2 => ?_))
    refine Eq.trans (Eq.trans (r_go (act := oS (fIs g 54)) rfl rfl) (a_is (zA_68 g) zS_68)) (bcg ?_ rfl)
    refine Eq.trans (Eq.trans (r_go (act := oS (fAld 55 0)) rfl rfl) (a_ald rfl)) ?_
    refine Eq.trans (Eq.trans (r_go (act := oS (fGr g 58 0 0)) rfl rfl) (a_gr (zO_67 g) (zR_67_0 g))) ?_
    refine Eq.trans (Eq.trans (r_go (act := oS (fAld 59 0)) rfl rfl) (a_ald rfl)) ?_
    refine Eq.trans (Eq.trans (r_go (act := oS (fGi g 62 0 4)) rfl rfl) (a_giV (zO_67 g) rfl)) ?_
    refine Eq.trans (Eq.trans (r_go (act := oS (fIa g 63)) rfl rfl) (a_ia (zA_68 g) zS_68)) (bcg ?_ rfl)
    refine Eq.trans (Eq.trans (r_go (act := oS (fSt 64 (gC (.int (-1))))) rfl rfl) (a_C)) ?_
    refine Eq.trans (Eq.trans (r_go (act := oS (fCm 67 69 cEq)) rfl rfl) (a_cm)) (bcg ?_ ?_)
    · refine Eq.trans (Eq.trans (r_go (act := oS (fSt 68 (gC (.int 0)))) rfl rfl) (a_C)) ?_
      exact Eq.trans (Eq.trans (r_go (act := oZret) rfl rfl) a_zret) (bcT (by decide +kernel))
    · refine Eq.trans (Eq.trans (r_go (act := oS (fAld 70 0)) rfl rfl) (a_ald rfl)) ?_
      refine Eq.trans (Eq.trans (r_go (act := oS (fGr g 73 0 1)) rfl rfl) (a_gr (zO_67 g) (zR_67_1 g))) ?_
      refine Eq.trans (Eq.trans (r_go (act := oS (fAld 74 0)) rfl rfl) (a_ald rfl)) ?_
      refine Eq.trans (Eq.trans (r_go (act := oS (fGi g 77 0 4)) rfl rfl) (a_giV (zO_67 g) rfl)) ?_
      refine Eq.trans (Eq.trans (r_go (act := oS (fAld 78 1)) rfl rfl) (a_ald rfl)) ?_
      refine Eq.trans (Eq.trans (r_go (act := oCI 81 1 (zcv g 9) (X_X9_token g)) rfl rfl) (a_cI rfl (zck (zO_1 g) rfl))) (zbI_cg (fun x3 M3 => ?_))
      refine Eq.trans (Eq.trans (r_go (act := oS (fSt 84 (gC (.int 128)))) rfl rfl) (a_C)) ?_
      refine Eq.trans (Eq.trans (r_go (act := oS (fSt 85 (g2 (fun x y => x - y)))) rfl rfl) (a_sub)) ?_
      refine Eq.trans (Eq.trans (r_go (act := oS (fIs g 86)) rfl rfl) (a_is (zA_69 g) zS_69)) (bcg ?_ rfl)
      refine Eq.trans (Eq.trans (r_go (act := oS (fAld 87 0)) rfl rfl) (a_ald rfl)) ?_
      refine Eq.trans (Eq.trans (r_go (act := oS (fGr g 90 0 1)) rfl rfl) (a_gr (zO_67 g) (zR_67_1 g))) ?_
      refine Eq.trans (Eq.trans (r_go (act := oS (fAld 91 0)) rfl rfl) (a_ald rfl)) ?_
      refine Eq.trans (Eq.trans (r_go (act := oS (fGi g 94 0 4)) rfl rfl) (a_giV (zO_67 g) rfl)) ?_
      refine Eq.trans (Eq.trans (r_go (act := oS (fIa g 95)) rfl rfl) (a_ia (zA_69 g) zS_69)) (bcg ?_ rfl)
      refine Eq.trans (Eq.trans (r_go (act := oS (fSt 96 (gC (.int 0)))) rfl rfl) (a_C)) ?_
      refine Eq.trans (Eq.trans (r_go (act := oS (fSt 97 (gC (.int 5)))) rfl rfl) (a_C)) ?_
      refine Eq.trans (Eq.trans (r_go (act := oCI 100 3 zcs (X_X11_within g)) rfl rfl) (a_cI rfl rfl)) (zbI_cg (fun x4 M4 => ?_))
      refine Eq.trans (Eq.trans (r_go (act := oS (fIf 103 109 cEq0)) rfl rfl) (a_if)) (bcg ?_ ?_)
      · refine Eq.trans (Eq.trans (r_go (act := oS (fAld 104 1)) rfl rfl) (a_ald rfl)) ?_
        refine Eq.trans (Eq.trans (r_go (act := oS (fSt 105 (gC (.int 1)))) rfl rfl) (a_C)) ?_
        refine Eq.trans (Eq.trans (r_go (act := oCI 108 2 (zcv g 9) (X_X9_refuse g)) rfl rfl) (a_cI rfl (zck (zO_1 g) rfl))) (zbI_cg (fun x5 M5 => ?_))
        exact Eq.trans (r_go (act := oZret) rfl rfl) (a_zret)
      · refine Eq.trans (Eq.trans (r_go (act := oS (fAld 110 1)) rfl rfl) (a_ald rfl)) ?_
        refine Eq.trans (Eq.trans (r_go (act := oCV 113 1 (zcv g 9) (X_X9_step g)) rfl rfl) (a_cV rfl (zck (zO_1 g) rfl))) (zbV_cg (fun M6 => ?_))
        refine Eq.trans (Eq.trans (r_go (act := oS (fAld 114 0)) rfl rfl) (a_ald rfl)) ?_
        refine Eq.trans (Eq.trans (r_go (act := oS (fGr g 117 0 1)) rfl rfl) (a_gr (zO_67 g) (zR_67_1 g))) ?_
        refine Eq.trans (Eq.trans (r_go (act := oS (fAld 118 0)) rfl rfl) (a_ald rfl)) ?_
        refine Eq.trans (Eq.trans (r_go (act := oS (fGi g 121 0 4)) rfl rfl) (a_gi (zO_67 g))) ?_
        refine Eq.trans (Eq.trans (r_go (act := oS (fIa g 122)) rfl rfl) (a_ia (zA_69 g) zS_69)) (bcg ?_ rfl)
        refine Eq.trans (Eq.trans (r_go (act := oS (fSt 123 (gC (.int 5)))) rfl rfl) (a_C)) ?_
        refine Eq.trans (Eq.trans (r_go (act := oS (fCm 137 126 cEq)) rfl rfl) (a_cm)) (bcg ?_ ?_)
        · refine Eq.trans (Eq.trans (r_go (act := oS (fAld 138 0)) rfl rfl) (a_ald rfl)) ?_
          refine Eq.trans (Eq.trans (r_go (act := oS (fSt 139 gDup)) rfl rfl) (a_dupR)) ?_
          refine Eq.trans (Eq.trans (r_go (act := oS (fGi g 142 0 4)) rfl rfl) (a_gi (zO_67 g))) ?_
          refine Eq.trans (Eq.trans (r_go (act := oS (fSt 143 (gC (.int 1)))) rfl rfl) (a_C)) ?_
          refine Eq.trans (Eq.trans (r_go (act := oS (fSt 144 (g2 (fun x y => x + y)))) rfl rfl) (a_add)) ?_
          refine Eq.trans (Eq.trans (r_go (act := oS (fPi g 147 0 4)) rfl rfl) (a_pi (zO_67 g))) ?_
          refine Eq.trans (Eq.trans (r_go (act := oS (fAld 148 1)) rfl rfl) (a_ald rfl)) ?_
          refine Eq.trans (Eq.trans (r_go (act := oS (fSt 150 (gC (.int 59)))) rfl rfl) (a_C)) ?_
          refine Eq.trans (Eq.trans (r_go (act := oCI 153 2 (zcv g 9) (X_X9_expect g)) rfl rfl) (a_cI rfl (zck (zO_1 g) rfl))) (zbI_cg (fun x7 M7 => ?_))
          exact Eq.trans (r_go (act := oZret) rfl rfl) (a_zret)
        · refine Eq.trans (Eq.trans (r_go (act := oS (fAld 127 0)) rfl rfl) (a_ald rfl)) ?_
          refine Eq.trans (Eq.trans (r_go (act := oS (fAld 128 1)) rfl rfl) (a_ald rfl)) ?_
          refine Eq.trans (Eq.trans (r_go (act := oS (fIld 129 2)) rfl rfl) (a_ild rfl)) ?_
          refine Eq.trans (Eq.trans (r_go (act := oCI 132 3 (zcv g 0) (X_X0_readWhom g)) rfl rfl) (a_cI rfl (zck (zO_67 g) rfl))) (zbI_cg (fun x8 M8 => ?_))
          refine Eq.trans (Eq.trans (r_go (act := oS (fIf 135 137 cEq0)) rfl rfl) (a_if)) (bcg ?_ ?_)
          · refine Eq.trans (Eq.trans (r_go (act := oS (fSt 136 (gC (.int 0)))) rfl rfl) (a_C)) ?_
            exact Eq.trans (Eq.trans (r_go (act := oZret) rfl rfl) a_zret) (bcT (by decide +kernel))
          · refine Eq.trans (Eq.trans (r_go (act := oS (fAld 138 0)) rfl rfl) (a_ald rfl)) ?_
            refine Eq.trans (Eq.trans (r_go (act := oS (fSt 139 gDup)) rfl rfl) (a_dupR)) ?_
            refine Eq.trans (Eq.trans (r_go (act := oS (fGi g 142 0 4)) rfl rfl) (a_gi (zO_67 g))) ?_
            refine Eq.trans (Eq.trans (r_go (act := oS (fSt 143 (gC (.int 1)))) rfl rfl) (a_C)) ?_
            refine Eq.trans (Eq.trans (r_go (act := oS (fSt 144 (g2 (fun x y => x + y)))) rfl rfl) (a_add)) ?_
            refine Eq.trans (Eq.trans (r_go (act := oS (fPi g 147 0 4)) rfl rfl) (a_pi (zO_67 g))) ?_
            refine Eq.trans (Eq.trans (r_go (act := oS (fAld 148 1)) rfl rfl) (a_ald rfl)) ?_
            refine Eq.trans (Eq.trans (r_go (act := oS (fSt 150 (gC (.int 59)))) rfl rfl) (a_C)) ?_
            refine Eq.trans (Eq.trans (r_go (act := oCI 153 2 (zcv g 9) (X_X9_expect g)) rfl rfl) (a_cI rfl (zck (zO_1 g) rfl))) (zbI_cg (fun x9 M9 => ?_))
            exact Eq.trans (r_go (act := oZret) rfl rfl) (a_zret)
set_option maxRecDepth 20000 in
theorem e_X0_read_0 (g : zg) (a2 : Int32) (M : zM) : zX (t_X0_read g) 0 [some (.ref 67), some (.ref 1), some (.int a2), none] [] M = (zbV (X_X9_split g [.ref 1, .ref 1002] M) (fun M1 => zX (t_X0_read g) 13 [some (.ref 67), some (.ref 1), some (.int a2), some (.int 0)] [] ((zu M1.1 67 4 0), M1.2))) := by
  refine Eq.trans (zX_rgN (tl_X0_read g) (hc_X0_read g) 10 _ _ _ _) ?_
  refine Eq.trans (Eq.trans (r_0 (act := oS (fAld 1 1)) rfl) (a_ald rfl)) ?_
  refine Eq.trans (Eq.trans (r_go (act := oS (fLdS 3 2)) rfl rfl) (a_ldS)) ?_
  refine Eq.trans (Eq.trans (r_go (act := oCV 6 2 (zcv g 9) (X_X9_split g)) rfl rfl) (a_cV rfl (zck (zO_1 g) rfl))) (zbV_cg (fun M1 => ?_))
  refine Eq.trans (Eq.trans (r_go (act := oS (fAld 7 0)) rfl rfl) (a_ald rfl)) ?_
  refine Eq.trans (Eq.trans (r_go (act := oS (fSt 8 (gC (.int 0)))) rfl rfl) (a_C)) ?_
  refine Eq.trans (Eq.trans (r_go (act := oS (fPi g 11 0 4)) rfl rfl) (a_pi (zO_67 g))) ?_
  refine Eq.trans (Eq.trans (r_go (act := oS (fSt 12 (gC (.int 0)))) rfl rfl) (a_C)) ?_
  refine Eq.trans (Eq.trans (r_go (act := oS (fIst 13 3)) rfl rfl) (a_ist rfl rfl)) ?_
  exact r_cut rfl rfl
theorem x_X0_read_0 (g : zg) (a2 : Int32) (M : zM) : X_X0_read g [.ref 67, .ref 1, .int a2] M = (zbV (X_X9_split g [.ref 1, .ref 1002] M) (fun M1 => zX (t_X0_read g) 13 [some (.ref 67), some (.ref 1), some (.int a2), some (.int 0)] [] ((zu M1.1 67 4 0), M1.2))) := e_X0_read_0 g a2 M
set_option maxRecDepth 20000 in
theorem e_X0_read_13 (g : zg) (a2 : Int32) (a3 : Int32) (M : zM) : zX (t_X0_read g) 13 [some (.ref 67), some (.ref 1), some (.int a2), some (.int a3)] [] M = (bif cGt a3 16 then some (some (.int 1), M) else (zbI (X_X9_token g [.ref 1] M) (fun x1 M1 => (bif cEq0 x1 then some (some (.int 1), M1) else (zbI (X_X0_readLine g [.ref 67, .ref 1, .int a2] M1) (fun x2 M2 => (bif cEq0 x2 then some (some (.int 0), M2) else zX (t_X0_read g) 13 [some (.ref 67), some (.ref 1), some (.int a2), some (.int (a3 + 1))] [] M2))))))) := by
  refine Eq.trans (zX_rgN (tl_X0_read g) (hc_X0_read g) 15 _ _ _ _) ?_
  refine Eq.trans (Eq.trans (Eq.trans (r_0 (act := oF [] (oS (fIld 14 3))) rfl) (a_F rfl)) (a_ild rfl)) ?_
  refine Eq.trans (Eq.trans (r_go (act := oS (fSt 16 (gC (.int 16)))) rfl rfl) (a_C)) ?_
  refine Eq.trans (Eq.trans (r_go (act := oS (fCm 43 19 cGt)) rfl rfl) (a_cm)) (bcg ?_ ?_)
  · refine Eq.trans (Eq.trans (r_go (act := oS (fSt 44 (gC (.int 1)))) rfl rfl) (a_C)) ?_
    exact Eq.trans (Eq.trans (r_go (act := oZret) rfl rfl) a_zret) (bcT (by decide +kernel))
  · refine Eq.trans (Eq.trans (r_go (act := oS (fAld 20 1)) rfl rfl) (a_ald rfl)) ?_
    refine Eq.trans (Eq.trans (r_go (act := oCI 23 1 (zcv g 9) (X_X9_token g)) rfl rfl) (a_cI rfl (zck (zO_1 g) rfl))) (zbI_cg (fun x1 M1 => ?_))
    refine Eq.trans (Eq.trans (r_go (act := oS (fIf 43 26 cEq0)) rfl rfl) (a_if)) (bcg ?_ ?_)
    · refine Eq.trans (Eq.trans (r_go (act := oS (fSt 44 (gC (.int 1)))) rfl rfl) (a_C)) ?_
      exact Eq.trans (Eq.trans (r_go (act := oZret) rfl rfl) a_zret) (bcT (by decide +kernel))
    · refine Eq.trans (Eq.trans (r_go (act := oS (fAld 27 0)) rfl rfl) (a_ald rfl)) ?_
      refine Eq.trans (Eq.trans (r_go (act := oS (fAld 28 1)) rfl rfl) (a_ald rfl)) ?_
      refine Eq.trans (Eq.trans (r_go (act := oS (fIld 29 2)) rfl rfl) (a_ild rfl)) ?_
      refine Eq.trans (Eq.trans (r_go (act := oCI 32 3 (zcv g 0) (X_X0_readLine g)) rfl rfl) (a_cI rfl (zck (zO_67 g) rfl))) (zbI_cg (fun x2 M2 => ?_))
      refine Eq.trans (Eq.trans (r_go (act := oS (fIf 35 37 cEq0)) rfl rfl) (a_if)) (bcg ?_ ?_)
      · refine Eq.trans (Eq.trans (r_go (act := oS (fSt 36 (gC (.int 0)))) rfl rfl) (a_C)) ?_
        exact Eq.trans (Eq.trans (r_go (act := oZret) rfl rfl) a_zret) (bcT (by decide +kernel))
      · refine Eq.trans (Eq.trans (r_go (act := oS (fInc 40 3 1)) rfl rfl) (a_inc rfl rfl rfl)) ?_
        refine Eq.trans (Eq.trans (r_go (act := oS (fGo 13)) rfl rfl) (a_goto)) ?_
        exact r_cut rfl rfl
set_option maxRecDepth 20000 in
theorem e_X0_take_0 (g : zg) (M : zM) : zX (t_X0_take g) 0 [some (.ref 20), some (.ref 67)] [] M = some (none, ((zcp (zcp (zcp (zcp (zu M.1 20 4 (M.1 67 4)) 68 21 (zx 16)) 69 22 (zx 16)) 70 23 (zx 16)) 71 24 (zx 16)), M.2)) := by
  refine Eq.trans (zX_rgN (tl_X0_take g) (hc_X0_take g) 38 _ _ _ _) ?_
  refine Eq.trans (Eq.trans (r_0 (act := oS (fAld 1 0)) rfl) (a_ald rfl)) ?_
  refine Eq.trans (Eq.trans (r_go (act := oS (fAld 2 1)) rfl rfl) (a_ald rfl)) ?_
  refine Eq.trans (Eq.trans (r_go (act := oS (fGi g 5 0 4)) rfl rfl) (a_gi (zO_67 g))) ?_
  refine Eq.trans (Eq.trans (r_go (act := oS (fPi g 8 0 4)) rfl rfl) (a_pi (zO_20 g))) ?_
  refine Eq.trans (Eq.trans (r_go (act := oS (fAld 9 1)) rfl rfl) (a_ald rfl)) ?_
  refine Eq.trans (Eq.trans (r_go (act := oS (fGr g 12 0 0)) rfl rfl) (a_gr (zO_67 g) (zR_67_0 g))) ?_
  refine Eq.trans (Eq.trans (r_go (act := oS (fSt 13 (gC (.int 0)))) rfl rfl) (a_C)) ?_
  refine Eq.trans (Eq.trans (r_go (act := oS (fAld 14 0)) rfl rfl) (a_ald rfl)) ?_
  refine Eq.trans (Eq.trans (r_go (act := oS (fGr g 17 0 0)) rfl rfl) (a_gr (zO_20 g) (zR_20_0 g))) ?_
  refine Eq.trans (Eq.trans (r_go (act := oS (fSt 18 (gC (.int 0)))) rfl rfl) (a_C)) ?_
  refine Eq.trans (Eq.trans (r_go (act := oS (fSt 20 (gC (.int 16)))) rfl rfl) (a_C)) ?_
  refine Eq.trans (Eq.trans (r_go (act := oS (fCp g 23)) rfl rfl) (a_cp (zCp (zA_68 g) (zA_21 g) zS_68 zS_21 (by decide +kernel) (by decide +kernel) rfl))) ?_
  refine Eq.trans (Eq.trans (r_go (act := oS (fAld 24 1)) rfl rfl) (a_ald rfl)) ?_
  refine Eq.trans (Eq.trans (r_go (act := oS (fGr g 27 0 1)) rfl rfl) (a_gr (zO_67 g) (zR_67_1 g))) ?_
  refine Eq.trans (Eq.trans (r_go (act := oS (fSt 28 (gC (.int 0)))) rfl rfl) (a_C)) ?_
  refine Eq.trans (Eq.trans (r_go (act := oS (fAld 29 0)) rfl rfl) (a_ald rfl)) ?_
  refine Eq.trans (Eq.trans (r_go (act := oS (fGr g 32 0 1)) rfl rfl) (a_gr (zO_20 g) (zR_20_1 g))) ?_
  refine Eq.trans (Eq.trans (r_go (act := oS (fSt 33 (gC (.int 0)))) rfl rfl) (a_C)) ?_
  refine Eq.trans (Eq.trans (r_go (act := oS (fSt 35 (gC (.int 16)))) rfl rfl) (a_C)) ?_
  refine Eq.trans (Eq.trans (r_go (act := oS (fCp g 38)) rfl rfl) (a_cp (zCp (zA_69 g) (zA_22 g) zS_69 zS_22 (by decide +kernel) (by decide +kernel) rfl))) ?_
  refine Eq.trans (Eq.trans (r_go (act := oS (fAld 39 1)) rfl rfl) (a_ald rfl)) ?_
  refine Eq.trans (Eq.trans (r_go (act := oS (fGr g 42 0 2)) rfl rfl) (a_gr (zO_67 g) (zR_67_2 g))) ?_
  refine Eq.trans (Eq.trans (r_go (act := oS (fSt 43 (gC (.int 0)))) rfl rfl) (a_C)) ?_
  refine Eq.trans (Eq.trans (r_go (act := oS (fAld 44 0)) rfl rfl) (a_ald rfl)) ?_
  refine Eq.trans (Eq.trans (r_go (act := oS (fGr g 47 0 2)) rfl rfl) (a_gr (zO_20 g) (zR_20_2 g))) ?_
  refine Eq.trans (Eq.trans (r_go (act := oS (fSt 48 (gC (.int 0)))) rfl rfl) (a_C)) ?_
  refine Eq.trans (Eq.trans (r_go (act := oS (fSt 50 (gC (.int 16)))) rfl rfl) (a_C)) ?_
  refine Eq.trans (Eq.trans (r_go (act := oS (fCp g 53)) rfl rfl) (a_cp (zCp (zA_70 g) (zA_23 g) zS_70 zS_23 (by decide +kernel) (by decide +kernel) rfl))) ?_
  refine Eq.trans (Eq.trans (r_go (act := oS (fAld 54 1)) rfl rfl) (a_ald rfl)) ?_
  refine Eq.trans (Eq.trans (r_go (act := oS (fGr g 57 0 3)) rfl rfl) (a_gr (zO_67 g) (zR_67_3 g))) ?_
  refine Eq.trans (Eq.trans (r_go (act := oS (fSt 58 (gC (.int 0)))) rfl rfl) (a_C)) ?_
  refine Eq.trans (Eq.trans (r_go (act := oS (fAld 59 0)) rfl rfl) (a_ald rfl)) ?_
  refine Eq.trans (Eq.trans (r_go (act := oS (fGr g 62 0 3)) rfl rfl) (a_gr (zO_20 g) (zR_20_3 g))) ?_
  refine Eq.trans (Eq.trans (r_go (act := oS (fSt 63 (gC (.int 0)))) rfl rfl) (a_C)) ?_
  refine Eq.trans (Eq.trans (r_go (act := oS (fSt 65 (gC (.int 16)))) rfl rfl) (a_C)) ?_
  refine Eq.trans (Eq.trans (r_go (act := oS (fCp g 68)) rfl rfl) (a_cp (zCp (zA_71 g) (zA_24 g) zS_71 zS_24 (by decide +kernel) (by decide +kernel) rfl))) ?_
  exact Eq.trans (r_go (act := oVret) rfl rfl) (a_vret)
theorem x_X0_take_0 (g : zg) (M : zM) : X_X0_take g [.ref 20, .ref 67] M = some (none, ((zcp (zcp (zcp (zcp (zu M.1 20 4 (M.1 67 4)) 68 21 (zx 16)) 69 22 (zx 16)) 70 23 (zx 16)) 71 24 (zx 16)), M.2)) := e_X0_take_0 g M
set_option maxRecDepth 20000 in
theorem e_X11_text_0 (g : zg) (a1 : Int32) (M : zM) : zX (t_X11_text g) 0 [some (.ref 0), some (.int a1), none] [] M = (zbV (X_X9_clearFault g [.ref 1] M) (fun M1 => (bif cEq0 a1 then (zbI (X_X4_read g [.ref 56, .ref 1] M1) (fun x2 M2 => (bif cEq0 x2 then zX (t_X11_text g) 55 [some (.ref 0), some (.int a1), some (.int (-1))] [] M2 else (zbV (X_X4_take g [.ref 9, .ref 56] M2) (fun M3 => (zbI (X_X9_cut g [.ref 1, .int 0] M3) (fun x4 M4 => some (some (.int (M3.1 9 8)), M4)))))))) else zX (t_X11_text g) 55 [some (.ref 0), some (.int a1), some (.int (-1))] [] M1))) := by
  refine Eq.trans (zX_rgN (tl_X11_text g) (hc_X11_text g) 33 _ _ _ _) ?_
  refine Eq.trans (Eq.trans (r_0 (act := oS (fSt 1 (gC (.int (-1))))) rfl) (a_C)) ?_
  refine Eq.trans (Eq.trans (r_go (act := oS (fIst 2 2)) rfl rfl) (a_ist rfl rfl)) ?_
  refine Eq.trans (Eq.trans (r_go (act := oS (fAld 3 0)) rfl rfl) (a_ald rfl)) ?_
  refine Eq.trans (Eq.trans (r_go (act := oS (fGr g 6 11 0)) rfl rfl) (a_gr (zO_0 g) (zR_0_0 g))) ?_
  refine Eq.trans (Eq.trans (r_go (act := oCV 9 1 (zcv g 9) (X_X9_clearFault g)) rfl rfl) (a_cV rfl (zck (zO_1 g) rfl))) (zbV_cg (fun M1 => ?_))
  refine Eq.trans (Eq.trans (r_go (act := oS (fIld 10 1)) rfl rfl) (a_ild rfl)) ?_
  refine Eq.trans (Eq.trans (r_go (act := oS (fIf 13 55 cEq0)) rfl rfl) (a_if)) (bcg ?_ ?_)
  · refine Eq.trans (Eq.trans (r_go (act := oS (fAld 14 0)) rfl rfl) (a_ald rfl)) ?_
    refine Eq.trans (Eq.trans (r_go (act := oS (fGr g 17 11 4)) rfl rfl) (a_gr (zO_0 g) (zR_0_4 g))) ?_
    refine Eq.trans (Eq.trans (r_go (act := oS (fAld 18 0)) rfl rfl) (a_ald rfl)) ?_
    refine Eq.trans (Eq.trans (r_go (act := oS (fGr g 21 11 0)) rfl rfl) (a_gr (zO_0 g) (zR_0_0 g))) ?_
    refine Eq.trans (Eq.trans (r_go (act := oCI 24 2 (zcv g 4) (X_X4_read g)) rfl rfl) (a_cI rfl (zck (zO_56 g) rfl))) (zbI_cg (fun x2 M2 => ?_))
    refine Eq.trans (Eq.trans (r_go (act := oS (fIf 55 27 cEq0)) rfl rfl) (a_if)) (bcg ?_ ?_)
    · exact r_cut rfl rfl
    · refine Eq.trans (Eq.trans (r_go (act := oS (fAld 28 0)) rfl rfl) (a_ald rfl)) ?_
      refine Eq.trans (Eq.trans (r_go (act := oS (fGr g 31 11 1)) rfl rfl) (a_gr (zO_0 g) (zR_0_1 g))) ?_
      refine Eq.trans (Eq.trans (r_go (act := oS (fGr g 34 10 1)) rfl rfl) (a_gr (zO_6 g) (zR_6_1 g))) ?_
      refine Eq.trans (Eq.trans (r_go (act := oS (fAld 35 0)) rfl rfl) (a_ald rfl)) ?_
      refine Eq.trans (Eq.trans (r_go (act := oS (fGr g 38 11 4)) rfl rfl) (a_gr (zO_0 g) (zR_0_4 g))) ?_
      refine Eq.trans (Eq.trans (r_go (act := oCV 41 2 (zcv g 4) (X_X4_take g)) rfl rfl) (a_cV rfl (zck (zO_9 g) rfl))) (zbV_cg (fun M3 => ?_))
      refine Eq.trans (Eq.trans (r_go (act := oS (fAld 42 0)) rfl rfl) (a_ald rfl)) ?_
      refine Eq.trans (Eq.trans (r_go (act := oS (fGr g 45 11 1)) rfl rfl) (a_gr (zO_0 g) (zR_0_1 g))) ?_
      refine Eq.trans (Eq.trans (r_go (act := oS (fGr g 48 10 1)) rfl rfl) (a_gr (zO_6 g) (zR_6_1 g))) ?_
      refine Eq.trans (Eq.trans (r_go (act := oS (fGi g 51 4 8)) rfl rfl) (a_gi (zO_9 g))) ?_
      refine Eq.trans (Eq.trans (r_go (act := oS (fIst 52 2)) rfl rfl) (a_ist rfl rfl)) ?_
      refine Eq.trans (Eq.trans (r_go (act := oS (fGo 170)) rfl rfl) (a_goto)) ?_
      refine Eq.trans (Eq.trans (r_go (act := oS (fAld 171 0)) rfl rfl) (a_ald rfl)) ?_
      refine Eq.trans (Eq.trans (r_go (act := oS (fGr g 174 11 0)) rfl rfl) (a_gr (zO_0 g) (zR_0_0 g))) ?_
      refine Eq.trans (Eq.trans (r_go (act := oS (fSt 175 (gC (.int 0)))) rfl rfl) (a_C)) ?_
      refine Eq.trans (Eq.trans (r_go (act := oCI 178 2 (zcv g 9) (X_X9_cut g)) rfl rfl) (a_cI rfl (zck (zO_1 g) rfl))) (zbI_cg (fun x4 M4 => ?_))
      refine Eq.trans (Eq.trans (r_go (act := oS (fSt 179 gPop)) rfl rfl) (a_popI)) ?_
      refine Eq.trans (Eq.trans (r_go (act := oS (fIld 180 2)) rfl rfl) (a_ild rfl)) ?_
      exact Eq.trans (r_go (act := oIret) rfl rfl) (a_iret)
  · exact r_cut rfl rfl
theorem x_X11_text_0 (g : zg) (a1 : Int32) (M : zM) : X_X11_text g [.ref 0, .int a1] M = (zbV (X_X9_clearFault g [.ref 1] M) (fun M1 => (bif cEq0 a1 then (zbI (X_X4_read g [.ref 56, .ref 1] M1) (fun x2 M2 => (bif cEq0 x2 then zX (t_X11_text g) 55 [some (.ref 0), some (.int a1), some (.int (-1))] [] M2 else (zbV (X_X4_take g [.ref 9, .ref 56] M2) (fun M3 => (zbI (X_X9_cut g [.ref 1, .int 0] M3) (fun x4 M4 => some (some (.int (M3.1 9 8)), M4)))))))) else zX (t_X11_text g) 55 [some (.ref 0), some (.int a1), some (.int (-1))] [] M1))) := e_X11_text_0 g a1 M
set_option maxRecDepth 20000 in
theorem e_X11_text_55 (g : zg) (a1 : Int32) (a2 : Int32) (M : zM) : zX (t_X11_text g) 55 [some (.ref 0), some (.int a1), some (.int a2)] [] M = (bif cEq a1 1 then (zbI (X_X7_read g [.ref 64, .ref 1] M) (fun x1 M1 => (bif cEq0 x1 then zX (t_X11_text g) 109 [some (.ref 0), some (.int a1), some (.int a2)] [] M1 else (zbV (X_X7_take g [.ref 17, .ref 64] M1) (fun M2 => (zbV (X_X8_forget g [.ref 42] M2) (fun M3 => (zbI (X_X9_cut g [.ref 1, .int 0] M3) (fun x4 M4 => some (some (.int (M2.1 17 3)), M4)))))))))) else zX (t_X11_text g) 109 [some (.ref 0), some (.int a1), some (.int a2)] [] M) := by
  refine Eq.trans (zX_rgN (tl_X11_text g) (hc_X11_text g) 32 _ _ _ _) ?_
  refine Eq.trans (Eq.trans (Eq.trans (r_0 (act := oF [] (oS (fIld 56 1))) rfl) (a_F rfl)) (a_ild rfl)) ?_
  refine Eq.trans (Eq.trans (r_go (act := oS (fSt 57 (gC (.int 1)))) rfl rfl) (a_C)) ?_
  refine Eq.trans (Eq.trans (r_go (act := oS (fCm 60 109 cEq)) rfl rfl) (a_cm)) (bcg ?_ ?_)
  · refine Eq.trans (Eq.trans (r_go (act := oS (fAld 61 0)) rfl rfl) (a_ald rfl)) ?_
    refine Eq.trans (Eq.trans (r_go (act := oS (fGr g 64 11 5)) rfl rfl) (a_gr (zO_0 g) (zR_0_5 g))) ?_
    refine Eq.trans (Eq.trans (r_go (act := oS (fAld 65 0)) rfl rfl) (a_ald rfl)) ?_
    refine Eq.trans (Eq.trans (r_go (act := oS (fGr g 68 11 0)) rfl rfl) (a_gr (zO_0 g) (zR_0_0 g))) ?_
    refine Eq.trans (Eq.trans (r_go (act := oCI 71 2 (zcv g 7) (X_X7_read g)) rfl rfl) (a_cI rfl (zck (zO_64 g) rfl))) (zbI_cg (fun x1 M1 => ?_))
    refine Eq.trans (Eq.trans (r_go (act := oS (fIf 109 74 cEq0)) rfl rfl) (a_if)) (bcg ?_ ?_)
    · exact r_cut rfl rfl
    · refine Eq.trans (Eq.trans (r_go (act := oS (fAld 75 0)) rfl rfl) (a_ald rfl)) ?_
      refine Eq.trans (Eq.trans (r_go (act := oS (fGr g 78 11 1)) rfl rfl) (a_gr (zO_0 g) (zR_0_1 g))) ?_
      refine Eq.trans (Eq.trans (r_go (act := oS (fGr g 81 10 2)) rfl rfl) (a_gr (zO_6 g) (zR_6_2 g))) ?_
      refine Eq.trans (Eq.trans (r_go (act := oS (fAld 82 0)) rfl rfl) (a_ald rfl)) ?_
      refine Eq.trans (Eq.trans (r_go (act := oS (fGr g 85 11 5)) rfl rfl) (a_gr (zO_0 g) (zR_0_5 g))) ?_
      refine Eq.trans (Eq.trans (r_go (act := oCV 88 2 (zcv g 7) (X_X7_take g)) rfl rfl) (a_cV rfl (zck (zO_17 g) rfl))) (zbV_cg (fun M2 => ?_))
      refine Eq.trans (Eq.trans (r_go (act := oS (fAld 89 0)) rfl rfl) (a_ald rfl)) ?_
      refine Eq.trans (Eq.trans (r_go (act := oS (fGr g 92 11 1)) rfl rfl) (a_gr (zO_0 g) (zR_0_1 g))) ?_
      refine Eq.trans (Eq.trans (r_go (act := oS (fGr g 95 10 2)) rfl rfl) (a_gr (zO_6 g) (zR_6_2 g))) ?_
      refine Eq.trans (Eq.trans (r_go (act := oS (fGi g 98 7 3)) rfl rfl) (a_gi (zO_17 g))) ?_
      refine Eq.trans (Eq.trans (r_go (act := oS (fIst 99 2)) rfl rfl) (a_ist rfl rfl)) ?_
      refine Eq.trans (Eq.trans (r_go (act := oS (fAld 100 0)) rfl rfl) (a_ald rfl)) ?_
      refine Eq.trans (Eq.trans (r_go (act := oS (fGr g 103 11 3)) rfl rfl) (a_gr (zO_0 g) (zR_0_3 g))) ?_
      refine Eq.trans (Eq.trans (r_go (act := oCV 106 1 (zcv g 8) (X_X8_forget g)) rfl rfl) (a_cV rfl (zck (zO_42 g) rfl))) (zbV_cg (fun M3 => ?_))
      refine Eq.trans (Eq.trans (r_go (act := oS (fGo 170)) rfl rfl) (a_goto)) ?_
      refine Eq.trans (Eq.trans (r_go (act := oS (fAld 171 0)) rfl rfl) (a_ald rfl)) ?_
      refine Eq.trans (Eq.trans (r_go (act := oS (fGr g 174 11 0)) rfl rfl) (a_gr (zO_0 g) (zR_0_0 g))) ?_
      refine Eq.trans (Eq.trans (r_go (act := oS (fSt 175 (gC (.int 0)))) rfl rfl) (a_C)) ?_
      refine Eq.trans (Eq.trans (r_go (act := oCI 178 2 (zcv g 9) (X_X9_cut g)) rfl rfl) (a_cI rfl (zck (zO_1 g) rfl))) (zbI_cg (fun x4 M4 => ?_))
      refine Eq.trans (Eq.trans (r_go (act := oS (fSt 179 gPop)) rfl rfl) (a_popI)) ?_
      refine Eq.trans (Eq.trans (r_go (act := oS (fIld 180 2)) rfl rfl) (a_ild rfl)) ?_
      exact Eq.trans (r_go (act := oIret) rfl rfl) (a_iret)
  · exact r_cut rfl rfl
set_option maxRecDepth 20000 in
theorem e_X11_text_109 (g : zg) (a1 : Int32) (a2 : Int32) (M : zM) : zX (t_X11_text g) 109 [some (.ref 0), some (.int a1), some (.int a2)] [] M = (bif cEq a1 2 then (zbI (X_X0_read g [.ref 67, .ref 1, .int (M.1 7 2)] M) (fun x1 M1 => (bif cEq0 x1 then (zbI (X_X9_cut g [.ref 1, .int 0] M1) (fun x2 M2 => some (some (.int a2), M2))) else (zbV (X_X0_take g [.ref 20, .ref 67] M1) (fun M3 => (zbV (X_X8_forget g [.ref 42] M3) (fun M4 => (zbI (X_X9_cut g [.ref 1, .int 0] M4) (fun x5 M5 => some (some (.int (M3.1 20 4)), M5)))))))))) else (zbI (X_X9_cut g [.ref 1, .int 0] M) (fun x6 M6 => some (some (.int a2), M6)))) := by
  refine Eq.trans (zX_rgN (tl_X11_text g) (hc_X11_text g) 35 _ _ _ _) ?_
  refine Eq.trans (Eq.trans (Eq.trans (r_0 (act := oF [] (oS (fIld 110 1))) rfl) (a_F rfl)) (a_ild rfl)) ?_
  refine Eq.trans (Eq.trans (r_go (act := oS (fSt 111 (gC (.int 2)))) rfl rfl) (a_C)) ?_
  refine Eq.trans (Eq.trans (r_go (act := oS (fCm 114 170 cEq)) rfl rfl) (a_cm)) (bcg ?_ ?_)
  · refine Eq.trans (Eq.trans (r_go (act := oS (fAld 115 0)) rfl rfl) (a_ald rfl)) ?_
    refine Eq.trans (Eq.trans (r_go (act := oS (fGr g 118 11 6)) rfl rfl) (a_gr (zO_0 g) (zR_0_6 g))) ?_
    refine Eq.trans (Eq.trans (r_go (act := oS (fAld 119 0)) rfl rfl) (a_ald rfl)) ?_
    refine Eq.trans (Eq.trans (r_go (act := oS (fGr g 122 11 0)) rfl rfl) (a_gr (zO_0 g) (zR_0_0 g))) ?_
    refine Eq.trans (Eq.trans (r_go (act := oS (fAld 123 0)) rfl rfl) (a_ald rfl)) ?_
    refine Eq.trans (Eq.trans (r_go (act := oS (fGr g 126 11 1)) rfl rfl) (a_gr (zO_0 g) (zR_0_1 g))) ?_
    refine Eq.trans (Eq.trans (r_go (act := oS (fGr g 129 10 0)) rfl rfl) (a_gr (zO_6 g) (zR_6_0 g))) ?_
    refine Eq.trans (Eq.trans (r_go (act := oS (fGi g 132 3 2)) rfl rfl) (a_gi (zO_7 g))) ?_
    refine Eq.trans (Eq.trans (r_go (act := oCI 135 3 (zcv g 0) (X_X0_read g)) rfl rfl) (a_cI rfl (zck (zO_67 g) rfl))) (zbI_cg (fun x1 M1 => ?_))
    refine Eq.trans (Eq.trans (r_go (act := oS (fIf 170 138 cEq0)) rfl rfl) (a_if)) (bcg ?_ ?_)
    · refine Eq.trans (Eq.trans (r_go (act := oS (fAld 171 0)) rfl rfl) (a_ald rfl)) ?_
      refine Eq.trans (Eq.trans (r_go (act := oS (fGr g 174 11 0)) rfl rfl) (a_gr (zO_0 g) (zR_0_0 g))) ?_
      refine Eq.trans (Eq.trans (r_go (act := oS (fSt 175 (gC (.int 0)))) rfl rfl) (a_C)) ?_
      refine Eq.trans (Eq.trans (r_go (act := oCI 178 2 (zcv g 9) (X_X9_cut g)) rfl rfl) (a_cI rfl (zck (zO_1 g) rfl))) (zbI_cg (fun x2 M2 => ?_))
      refine Eq.trans (Eq.trans (r_go (act := oS (fSt 179 gPop)) rfl rfl) (a_popI)) ?_
      refine Eq.trans (Eq.trans (r_go (act := oS (fIld 180 2)) rfl rfl) (a_ild rfl)) ?_
      exact Eq.trans (r_go (act := oIret) rfl rfl) (a_iret)
    · refine Eq.trans (Eq.trans (r_go (act := oS (fAld 139 0)) rfl rfl) (a_ald rfl)) ?_
      refine Eq.trans (Eq.trans (r_go (act := oS (fGr g 142 11 1)) rfl rfl) (a_gr (zO_0 g) (zR_0_1 g))) ?_
      refine Eq.trans (Eq.trans (r_go (act := oS (fGr g 145 10 3)) rfl rfl) (a_gr (zO_6 g) (zR_6_3 g))) ?_
      refine Eq.trans (Eq.trans (r_go (act := oS (fAld 146 0)) rfl rfl) (a_ald rfl)) ?_
      refine Eq.trans (Eq.trans (r_go (act := oS (fGr g 149 11 6)) rfl rfl) (a_gr (zO_0 g) (zR_0_6 g))) ?_
      refine Eq.trans (Eq.trans (r_go (act := oCV 152 2 (zcv g 0) (X_X0_take g)) rfl rfl) (a_cV rfl (zck (zO_20 g) rfl))) (zbV_cg (fun M3 => ?_))
      refine Eq.trans (Eq.trans (r_go (act := oS (fAld 153 0)) rfl rfl) (a_ald rfl)) ?_
      refine Eq.trans (Eq.trans (r_go (act := oS (fGr g 156 11 1)) rfl rfl) (a_gr (zO_0 g) (zR_0_1 g))) ?_
      refine Eq.trans (Eq.trans (r_go (act := oS (fGr g 159 10 3)) rfl rfl) (a_gr (zO_6 g) (zR_6_3 g))) ?_
      refine Eq.trans (Eq.trans (r_go (act := oS (fGi g 162 0 4)) rfl rfl) (a_gi (zO_20 g))) ?_
      refine Eq.trans (Eq.trans (r_go (act := oS (fIst 163 2)) rfl rfl) (a_ist rfl rfl)) ?_
      refine Eq.trans (Eq.trans (r_go (act := oS (fAld 164 0)) rfl rfl) (a_ald rfl)) ?_
      refine Eq.trans (Eq.trans (r_go (act := oS (fGr g 167 11 3)) rfl rfl) (a_gr (zO_0 g) (zR_0_3 g))) ?_
      refine Eq.trans (Eq.trans (r_go (act := oCV 170 1 (zcv g 8) (X_X8_forget g)) rfl rfl) (a_cV rfl (zck (zO_42 g) rfl))) (zbV_cg (fun M4 => ?_))
      refine Eq.trans (Eq.trans (r_go (act := oS (fAld 171 0)) rfl rfl) (a_ald rfl)) ?_
      refine Eq.trans (Eq.trans (r_go (act := oS (fGr g 174 11 0)) rfl rfl) (a_gr (zO_0 g) (zR_0_0 g))) ?_
      refine Eq.trans (Eq.trans (r_go (act := oS (fSt 175 (gC (.int 0)))) rfl rfl) (a_C)) ?_
      refine Eq.trans (Eq.trans (r_go (act := oCI 178 2 (zcv g 9) (X_X9_cut g)) rfl rfl) (a_cI rfl (zck (zO_1 g) rfl))) (zbI_cg (fun x5 M5 => ?_))
      refine Eq.trans (Eq.trans (r_go (act := oS (fSt 179 gPop)) rfl rfl) (a_popI)) ?_
      refine Eq.trans (Eq.trans (r_go (act := oS (fIld 180 2)) rfl rfl) (a_ild rfl)) ?_
      exact Eq.trans (r_go (act := oIret) rfl rfl) (a_iret)
  · refine Eq.trans (Eq.trans (r_go (act := oS (fAld 171 0)) rfl rfl) (a_ald rfl)) ?_
    refine Eq.trans (Eq.trans (r_go (act := oS (fGr g 174 11 0)) rfl rfl) (a_gr (zO_0 g) (zR_0_0 g))) ?_
    refine Eq.trans (Eq.trans (r_go (act := oS (fSt 175 (gC (.int 0)))) rfl rfl) (a_C)) ?_
    refine Eq.trans (Eq.trans (r_go (act := oCI 178 2 (zcv g 9) (X_X9_cut g)) rfl rfl) (a_cI rfl (zck (zO_1 g) rfl))) (zbI_cg (fun x6 M6 => ?_))
    refine Eq.trans (Eq.trans (r_go (act := oS (fSt 179 gPop)) rfl rfl) (a_popI)) ?_
    refine Eq.trans (Eq.trans (r_go (act := oS (fIld 180 2)) rfl rfl) (a_ild rfl)) ?_
    exact Eq.trans (r_go (act := oIret) rfl rfl) (a_iret)
set_option maxRecDepth 20000 in
theorem e_X11_fault_0 (g : zg) (a1 : Int32) (M : zM) : zX (t_X11_fault g) 0 [some (.ref 0), some (.int a1)] [] M = (bif cEq0 a1 then some (some (.int (M.1 1 6)), M) else (bif cEq a1 1 then some (some (.int (M.1 1 7)), M) else some (some (.int (-1)), M))) := by
  refine Eq.trans (zX_rgN (tl_X11_fault g) (hc_X11_fault g) 11 _ _ _ _) ?_
  refine Eq.trans (Eq.trans (r_0 (act := oS (fIld 1 1)) rfl) (a_ild rfl)) ?_
  refine Eq.trans (Eq.trans (r_go (act := oS (fIf 4 12 cEq0)) rfl rfl) (a_if)) (bcg ?_ ?_)
  · refine Eq.trans (Eq.trans (r_go (act := oS (fAld 5 0)) rfl rfl) (a_ald rfl)) ?_
    refine Eq.trans (Eq.trans (r_go (act := oS (fGr g 8 11 0)) rfl rfl) (a_gr (zO_0 g) (zR_0_0 g))) ?_
    refine Eq.trans (Eq.trans (r_go (act := oS (fGi g 11 9 6)) rfl rfl) (a_gi (zO_1 g))) ?_
    exact Eq.trans (r_go (act := oIret) rfl rfl) (a_iret)
  · refine Eq.trans (Eq.trans (r_go (act := oS (fIld 13 1)) rfl rfl) (a_ild rfl)) ?_
    refine Eq.trans (Eq.trans (r_go (act := oS (fSt 14 (gC (.int 1)))) rfl rfl) (a_C)) ?_
    refine Eq.trans (Eq.trans (r_go (act := oS (fCm 17 27 cEq)) rfl rfl) (a_cm)) (bcg ?_ ?_)
    · refine Eq.trans (Eq.trans (r_go (act := oS (fAld 18 0)) rfl rfl) (a_ald rfl)) ?_
      refine Eq.trans (Eq.trans (r_go (act := oS (fGr g 21 11 0)) rfl rfl) (a_gr (zO_0 g) (zR_0_0 g))) ?_
      refine Eq.trans (Eq.trans (r_go (act := oS (fGi g 24 9 7)) rfl rfl) (a_gi (zO_1 g))) ?_
      refine Eq.trans (Eq.trans (r_go (act := oS (fGo 28)) rfl rfl) (a_goto)) ?_
      exact Eq.trans (r_go (act := oIret) rfl rfl) (a_iret)
    · refine Eq.trans (Eq.trans (r_go (act := oS (fSt 28 (gC (.int (-1))))) rfl rfl) (a_C)) ?_
      exact Eq.trans (r_go (act := oIret) rfl rfl) (a_iret)
theorem x_X11_fault_0 (g : zg) (a1 : Int32) (M : zM) : X_X11_fault g [.ref 0, .int a1] M = (bif cEq0 a1 then some (some (.int (M.1 1 6)), M) else (bif cEq a1 1 then some (some (.int (M.1 1 7)), M) else some (some (.int (-1)), M))) := e_X11_fault_0 g a1 M
