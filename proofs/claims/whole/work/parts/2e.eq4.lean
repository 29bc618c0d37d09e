set_option maxRecDepth 20000 in
theorem e_X12_glassBe_0 (g : zg) (a1 : Int32) (M : zM) : zX (t_X12_glassBe g) 0 [some (.ref 72), some (.int a1)] [] M = some (none, ((zu M.1 73 3 (a1 - 50)), M.2)) := by
  refine Eq.trans (zX_rgN (tl_X12_glassBe g) (hc_X12_glassBe g) 9 _ _ _ _) ?_
  refine Eq.trans (Eq.trans (r_0 (act := oS (fAld 1 0)) rfl) (a_ald rfl)) ?_
  refine Eq.trans (Eq.trans (r_go (act := oS (fGr g 4 12 1)) rfl rfl) (a_gr (zO_72 g) (zR_72_1 g))) ?_
  refine Eq.trans (Eq.trans (r_go (act := oS (fSt 5 (gC (.int 3)))) rfl rfl) (a_C)) ?_
  refine Eq.trans (Eq.trans (r_go (act := oS (fIld 6 1)) rfl rfl) (a_ild rfl)) ?_
  refine Eq.trans (Eq.trans (r_go (act := oS (fSt 8 (gC (.int 50)))) rfl rfl) (a_C)) ?_
  refine Eq.trans (Eq.trans (r_go (act := oS (fSt 9 (g2 (fun x y => x - y)))) rfl rfl) (a_sub)) ?_
  refine Eq.trans (Eq.trans (r_go (act := oS (fIs g 10)) rfl rfl) (a_isK (j := 3) (zA_73 g) zS_73 (by decide +kernel) (by decide +kernel))) ?_
  exact Eq.trans (r_go (act := oVret) rfl rfl) (a_vret)
theorem x_X12_glassBe_0 (g : zg) (a1 : Int32) (M : zM) : X_X12_glassBe g [.ref 72, .int a1] M = some (none, ((zu M.1 73 3 (a1 - 50)), M.2)) := e_X12_glassBe_0 g a1 M
set_option maxRecDepth 20000 in
theorem e_X12_set_0 (g : zg) (a1 : Int32) (a2 : Int32) (a3 : Int32) (M : zM) : zX (t_X12_set g) 0 [some (.ref 72), some (.int a1), some (.int a2), some (.int a3)] [] M = (zbI (X_X12_canSet g [.ref 72, .int a1, .int a2, .int a3] ((zu M.1 72 0 0), M.2)) (fun x1 M1 => (bif cEq0 x1 then some (some (.int 0), M1) else (bif cEq0 a1 then (zbV (X_X12_glassBe g [.ref 72, .int a3] M1) (fun M2 => zX (t_X12_set g) 26 [some (.ref 72), some (.int a1), some (.int a2), some (.int a3)] [] M2)) else zX (t_X12_set g) 26 [some (.ref 72), some (.int a1), some (.int a2), some (.int a3)] [] M1)))) := by
  refine Eq.trans (zX_rgN (tl_X12_set g) (hc_X12_set g) 16 _ _ _ _) ?_
  refine Eq.trans (Eq.trans (r_0 (act := oS (fAld 1 0)) rfl) (a_ald rfl)) ?_
  refine Eq.trans (Eq.trans (r_go (act := oS (fSt 2 (gC (.int 0)))) rfl rfl) (a_C)) ?_
  refine Eq.trans (Eq.trans (r_go (act := oS (fPi g 5 12 0)) rfl rfl) (a_pi (zO_72 g))) ?_
  refine Eq.trans (Eq.trans (r_go (act := oS (fAld 6 0)) rfl rfl) (a_ald rfl)) ?_
  refine Eq.trans (Eq.trans (r_go (act := oS (fIld 7 1)) rfl rfl) (a_ild rfl)) ?_
  refine Eq.trans (Eq.trans (r_go (act := oS (fIld 8 2)) rfl rfl) (a_ild rfl)) ?_
  refine Eq.trans (Eq.trans (r_go (act := oS (fIld 9 3)) rfl rfl) (a_ild rfl)) ?_
  refine Eq.trans (Eq.trans (r_go (act := oCI 12 4 (zcv g 12) (X_X12_canSet g)) rfl rfl) (a_cI rfl (zck (zO_72 g) rfl))) (zbI_cg (fun x1 M1 => ?_))
  refine Eq.trans (Eq.trans (r_go (act := oS (fIf 15 17 cEq0)) rfl rfl) (a_if)) (bcg ?_ ?_)
  · refine Eq.trans (Eq.trans (r_go (act := oS (fSt 16 (gC (.int 0)))) rfl rfl) (a_C)) ?_
    exact Eq.trans (Eq.trans (r_go (act := oZret) rfl rfl) a_zret) (bcT (by decide +kernel))
  · refine Eq.trans (Eq.trans (r_go (act := oS (fIld 18 1)) rfl rfl) (a_ild rfl)) ?_
    refine Eq.trans (Eq.trans (r_go (act := oS (fIf 21 26 cEq0)) rfl rfl) (a_if)) (bcg ?_ ?_)
    · refine Eq.trans (Eq.trans (r_go (act := oS (fAld 22 0)) rfl rfl) (a_ald rfl)) ?_
      refine Eq.trans (Eq.trans (r_go (act := oS (fIld 23 3)) rfl rfl) (a_ild rfl)) ?_
      refine Eq.trans (Eq.trans (r_go (act := oCV 26 2 (zcv g 12) (X_X12_glassBe g)) rfl rfl) (a_cV rfl (zck (zO_72 g) rfl))) (zbV_cg (fun M2 => ?_))
      exact r_cut rfl rfl
    · exact r_cut rfl rfl
theorem x_X12_set_0 (g : zg) (a1 : Int32) (a2 : Int32) (a3 : Int32) (M : zM) : X_X12_set g [.ref 72, .int a1, .int a2, .int a3] M = (zbI (X_X12_canSet g [.ref 72, .int a1, .int a2, .int a3] ((zu M.1 72 0 0), M.2)) (fun x1 M1 => (bif cEq0 x1 then some (some (.int 0), M1) else (bif cEq0 a1 then (zbV (X_X12_glassBe g [.ref 72, .int a3] M1) (fun M2 => zX (t_X12_set g) 26 [some (.ref 72), some (.int a1), some (.int a2), some (.int a3)] [] M2)) else zX (t_X12_set g) 26 [some (.ref 72), some (.int a1), some (.int a2), some (.int a3)] [] M1)))) := e_X12_set_0 g a1 a2 a3 M
set_option maxRecDepth 20000 in
theorem e_X12_set_26 (g : zg) (a1 : Int32) (a2 : Int32) (a3 : Int32) (M : zM) : zX (t_X12_set g) 26 [some (.ref 72), some (.int a1), some (.int a2), some (.int a3)] [] M = (bif cEq a1 1 then (bif cEq a1 2 then zX (t_X12_set g) 49 [some (.ref 72), some (.int a1), some (.int a2), some (.int a3)] [] ((zu (zu M.1 72 7 a3) 72 8 (a3 + 10)), M.2) else zX (t_X12_set g) 49 [some (.ref 72), some (.int a1), some (.int a2), some (.int a3)] [] ((zu M.1 72 7 a3), M.2)) else (bif cEq a1 2 then zX (t_X12_set g) 49 [some (.ref 72), some (.int a1), some (.int a2), some (.int a3)] [] ((zu M.1 72 8 (a3 + 10)), M.2) else zX (t_X12_set g) 49 [some (.ref 72), some (.int a1), some (.int a2), some (.int a3)] [] M)) := by
  refine Eq.trans (zX_rgN (tl_X12_set g) (hc_X12_set g) 16 _ _ _ _) ?_
  refine Eq.trans (Eq.trans (Eq.trans (r_0 (act := oF [] (oS (fIld 27 1))) rfl) (a_F rfl)) (a_ild rfl)) ?_
  refine Eq.trans (Eq.trans (r_go (act := oS (fSt 28 (gC (.int 1)))) rfl rfl) (a_C)) ?_
  refine Eq.trans (Eq.trans (r_go (act := oS (fCm 31 36 cEq)) rfl rfl) (a_cm)) (bcg ?_ ?_)
  · refine Eq.trans (Eq.trans (r_go (act := oS (fAld 32 0)) rfl rfl) (a_ald rfl)) ?_
    refine Eq.trans (Eq.trans (r_go (act := oS (fIld 33 3)) rfl rfl) (a_ild rfl)) ?_
    refine Eq.trans (Eq.trans (r_go (act := oS (fPi g 36 12 7)) rfl rfl) (a_pi (zO_72 g))) ?_
    refine Eq.trans (Eq.trans (r_go (act := oS (fIld 37 1)) rfl rfl) (a_ild rfl)) ?_
    refine Eq.trans (Eq.trans (r_go (act := oS (fSt 38 (gC (.int 2)))) rfl rfl) (a_C)) ?_
    refine Eq.trans (Eq.trans (r_go (act := oS (fCm 41 49 cEq)) rfl rfl) (a_cm)) (bcg ?_ ?_)
    · refine Eq.trans (Eq.trans (r_go (act := oS (fAld 42 0)) rfl rfl) (a_ald rfl)) ?_
      refine Eq.trans (Eq.trans (r_go (act := oS (fIld 43 3)) rfl rfl) (a_ild rfl)) ?_
      refine Eq.trans (Eq.trans (r_go (act := oS (fSt 45 (gC (.int 10)))) rfl rfl) (a_C)) ?_
      refine Eq.trans (Eq.trans (r_go (act := oS (fSt 46 (g2 (fun x y => x + y)))) rfl rfl) (a_add)) ?_
      refine Eq.trans (Eq.trans (r_go (act := oS (fPi g 49 12 8)) rfl rfl) (a_pi (zO_72 g))) ?_
      exact r_cut rfl rfl
    · exact r_cut rfl rfl
  · refine Eq.trans (Eq.trans (r_go (act := oS (fIld 37 1)) rfl rfl) (a_ild rfl)) ?_
    refine Eq.trans (Eq.trans (r_go (act := oS (fSt 38 (gC (.int 2)))) rfl rfl) (a_C)) ?_
    refine Eq.trans (Eq.trans (r_go (act := oS (fCm 41 49 cEq)) rfl rfl) (a_cm)) (bcg ?_ ?_)
    · refine Eq.trans (Eq.trans (r_go (act := oS (fAld 42 0)) rfl rfl) (a_ald rfl)) ?_
      refine Eq.trans (Eq.trans (r_go (act := oS (fIld 43 3)) rfl rfl) (a_ild rfl)) ?_
      refine Eq.trans (Eq.trans (r_go (act := oS (fSt 45 (gC (.int 10)))) rfl rfl) (a_C)) ?_
      refine Eq.trans (Eq.trans (r_go (act := oS (fSt 46 (g2 (fun x y => x + y)))) rfl rfl) (a_add)) ?_
      refine Eq.trans (Eq.trans (r_go (act := oS (fPi g 49 12 8)) rfl rfl) (a_pi (zO_72 g))) ?_
      exact r_cut rfl rfl
    · exact r_cut rfl rfl
set_option maxRecDepth 20000 in
theorem e_X12_set_49 (g : zg) (a1 : Int32) (a2 : Int32) (a3 : Int32) (M : zM) : zX (t_X12_set g) 49 [some (.ref 72), some (.int a1), some (.int a2), some (.int a3)] [] M = (bif cEq a1 3 then (bif zb a2 10 then (bif cEq a1 4 then (bif zb (28 + a2) 148 then some (some (.int 1), ((zu (zu (zu M.1 77 (zx a2) a3) 73 (zx (28 + a2)) a3) 72 3 0), M.2)) else none) else some (some (.int 1), ((zu (zu M.1 77 (zx a2) a3) 72 3 0), M.2))) else none) else (bif cEq a1 4 then (bif zb (28 + a2) 148 then some (some (.int 1), ((zu (zu M.1 73 (zx (28 + a2)) a3) 72 3 0), M.2)) else none) else some (some (.int 1), ((zu M.1 72 3 0), M.2)))) := by
  refine Eq.trans (zX_rgN (tl_X12_set g) (hc_X12_set g) 24 _ _ _ _) ?_
  refine Eq.trans (Eq.trans (Eq.trans (r_0 (act := oF [] (oS (fIld 50 1))) rfl) (a_F rfl)) (a_ild rfl)) ?_
  refine Eq.trans (Eq.trans (r_go (act := oS (fSt 51 (gC (.int 3)))) rfl rfl) (a_C)) ?_
  refine Eq.trans (Eq.trans (r_go (act := oS (fCm 54 61 cEq)) rfl rfl) (a_cm)) (bcg ?_ ?_)
  · refine Eq.trans (Eq.trans (r_go (act := oS (fAld 55 0)) rfl rfl) (a_ald rfl)) ?_
    refine Eq.trans (Eq.trans (r_go (act := oS (fGr g 58 12 10)) rfl rfl) (a_gr (zO_72 g) (zR_72_10 g))) ?_
    refine Eq.trans (Eq.trans (r_go (act := oS (fIld 59 2)) rfl rfl) (a_ild rfl)) ?_
    refine Eq.trans (Eq.trans (r_go (act := oS (fIld 60 3)) rfl rfl) (a_ild rfl)) ?_
    refine Eq.trans (Eq.trans (r_go (act := oS (fIs g 61)) rfl rfl) (a_is (zA_77 g) zS_77)) (bcg ?_ rfl)
    refine Eq.trans (Eq.trans (r_go (act := oS (fIld 62 1)) rfl rfl) (a_ild rfl)) ?_
    refine Eq.trans (Eq.trans (r_go (act := oS (fSt 63 (gC (.int 4)))) rfl rfl) (a_C)) ?_
    refine Eq.trans (Eq.trans (r_go (act := oS (fCm 66 76 cEq)) rfl rfl) (a_cm)) (bcg ?_ ?_)
    · refine Eq.trans (Eq.trans (r_go (act := oS (fAld 67 0)) rfl rfl) (a_ald rfl)) ?_
      refine Eq.trans (Eq.trans (r_go (act := oS (fGr g 70 12 1)) rfl rfl) (a_gr (zO_72 g) (zR_72_1 g))) ?_
      refine Eq.trans (Eq.trans (r_go (act := oS (fSt 72 (gC (.int 28)))) rfl rfl) (a_C)) ?_
      refine Eq.trans (Eq.trans (r_go (act := oS (fIld 73 2)) rfl rfl) (a_ild rfl)) ?_
      refine Eq.trans (Eq.trans (r_go (act := oS (fSt 74 (g2 (fun x y => x + y)))) rfl rfl) (a_add)) ?_
      refine Eq.trans (Eq.trans (r_go (act := oS (fIld 75 3)) rfl rfl) (a_ild rfl)) ?_
      refine Eq.trans (Eq.trans (r_go (act := oS (fIs g 76)) rfl rfl) (a_is (zA_73 g) zS_73)) (bcg ?_ rfl)
      refine Eq.trans (Eq.trans (r_go (act := oS (fAld 77 0)) rfl rfl) (a_ald rfl)) ?_
      refine Eq.trans (Eq.trans (r_go (act := oS (fSt 78 (gC (.int 0)))) rfl rfl) (a_C)) ?_
      refine Eq.trans (Eq.trans (r_go (act := oS (fPi g 81 12 3)) rfl rfl) (a_pi (zO_72 g))) ?_
      refine Eq.trans (Eq.trans (r_go (act := oS (fSt 82 (gC (.int 1)))) rfl rfl) (a_C)) ?_
      exact Eq.trans (Eq.trans (r_go (act := oZret) rfl rfl) a_zret) (bcT (by decide +kernel))
    · refine Eq.trans (Eq.trans (r_go (act := oS (fAld 77 0)) rfl rfl) (a_ald rfl)) ?_
      refine Eq.trans (Eq.trans (r_go (act := oS (fSt 78 (gC (.int 0)))) rfl rfl) (a_C)) ?_
      refine Eq.trans (Eq.trans (r_go (act := oS (fPi g 81 12 3)) rfl rfl) (a_pi (zO_72 g))) ?_
      refine Eq.trans (Eq.trans (r_go (act := oS (fSt 82 (gC (.int 1)))) rfl rfl) (a_C)) ?_
      exact Eq.trans (Eq.trans (r_go (act := oZret) rfl rfl) a_zret) (bcT (by decide +kernel))
  · refine Eq.trans (Eq.trans (r_go (act := oS (fIld 62 1)) rfl rfl) (a_ild rfl)) ?_
    refine Eq.trans (Eq.trans (r_go (act := oS (fSt 63 (gC (.int 4)))) rfl rfl) (a_C)) ?_
    refine Eq.trans (Eq.trans (r_go (act := oS (fCm 66 76 cEq)) rfl rfl) (a_cm)) (bcg ?_ ?_)
    · refine Eq.trans (Eq.trans (r_go (act := oS (fAld 67 0)) rfl rfl) (a_ald rfl)) ?_
      refine Eq.trans (Eq.trans (r_go (act := oS (fGr g 70 12 1)) rfl rfl) (a_gr (zO_72 g) (zR_72_1 g))) ?_
      refine Eq.trans (Eq.trans (r_go (act := oS (fSt 72 (gC (.int 28)))) rfl rfl) (a_C)) ?_
      refine Eq.trans (Eq.trans (r_go (act := oS (fIld 73 2)) rfl rfl) (a_ild rfl)) ?_
      refine Eq.trans (Eq.trans (r_go (act := oS (fSt 74 (g2 (fun x y => x + y)))) rfl rfl) (a_add)) ?_
      refine Eq.trans (Eq.trans (r_go (act := oS (fIld 75 3)) rfl rfl) (a_ild rfl)) ?_
      refine Eq.trans (Eq.trans (r_go (act := oS (fIs g 76)) rfl rfl) (a_is (zA_73 g) zS_73)) (bcg ?_ rfl)
      refine Eq.trans (Eq.trans (r_go (act := oS (fAld 77 0)) rfl rfl) (a_ald rfl)) ?_
      refine Eq.trans (Eq.trans (r_go (act := oS (fSt 78 (gC (.int 0)))) rfl rfl) (a_C)) ?_
      refine Eq.trans (Eq.trans (r_go (act := oS (fPi g 81 12 3)) rfl rfl) (a_pi (zO_72 g))) ?_
      refine Eq.trans (Eq.trans (r_go (act := oS (fSt 82 (gC (.int 1)))) rfl rfl) (a_C)) ?_
      exact Eq.trans (Eq.trans (r_go (act := oZret) rfl rfl) a_zret) (bcT (by decide +kernel))
    · refine Eq.trans (Eq.trans (r_go (act := oS (fAld 77 0)) rfl rfl) (a_ald rfl)) ?_
      refine Eq.trans (Eq.trans (r_go (act := oS (fSt 78 (gC (.int 0)))) rfl rfl) (a_C)) ?_
      refine Eq.trans (Eq.trans (r_go (act := oS (fPi g 81 12 3)) rfl rfl) (a_pi (zO_72 g))) ?_
      refine Eq.trans (Eq.trans (r_go (act := oS (fSt 82 (gC (.int 1)))) rfl rfl) (a_C)) ?_
      exact Eq.trans (Eq.trans (r_go (act := oZret) rfl rfl) a_zret) (bcT (by decide +kernel))
set_option maxRecDepth 20000 in
theorem e_X12_types_0 (g : zg) (a1 : Int32) (M : zM) : zX (t_X12_types g) 0 [some (.ref 72), some (.int a1), none] [] M = zX (t_X12_types g) 3 [some (.ref 72), some (.int a1), some (.int 24)] [] M := by
  refine Eq.trans (zX_rgN (tl_X12_types g) (hc_X12_types g) 4 _ _ _ _) ?_
  refine Eq.trans (Eq.trans (r_0 (act := oS (fSt 2 (gC (.int 24)))) rfl) (a_C)) ?_
  refine Eq.trans (Eq.trans (r_go (act := oS (fIst 3 2)) rfl rfl) (a_ist rfl rfl)) ?_
  exact r_cut rfl rfl
theorem x_X12_types_0 (g : zg) (a1 : Int32) (M : zM) : X_X12_types g [.ref 72, .int a1] M = zX (t_X12_types g) 3 [some (.ref 72), some (.int a1), some (.int 24)] [] M := e_X12_types_0 g a1 M
set_option maxRecDepth 20000 in
theorem e_X12_types_3 (g : zg) (a1 : Int32) (a2 : Int32) (M : zM) : zX (t_X12_types g) 3 [some (.ref 72), some (.int a1), some (.int a2)] [] M = (bif cLt0 a2 then some (none, M) else (bif zb (M.1 72 13) 400 then zX (t_X12_types g) 3 [some (.ref 72), some (.int a1), some (.int (a2 + (-8)))] [] ((zu (zu M.1 79 (zx (M.1 72 13)) ((a1 >>> (a2 &&& 31)) &&& 255)) 72 13 ((M.1 72 13) + 1)), M.2) else none)) := by
  refine Eq.trans (zX_rgN (tl_X12_types g) (hc_X12_types g) 22 _ _ _ _) ?_
  refine Eq.trans (Eq.trans (Eq.trans (r_0 (act := oF [] (oS (fIld 4 2))) rfl) (a_F rfl)) (a_ild rfl)) ?_
  refine Eq.trans (Eq.trans (r_go (act := oS (fIf 39 7 cLt0)) rfl rfl) (a_if)) (bcg ?_ ?_)
  · exact Eq.trans (r_go (act := oVret) rfl rfl) (a_vret)
  · refine Eq.trans (Eq.trans (r_go (act := oS (fAld 8 0)) rfl rfl) (a_ald rfl)) ?_
    refine Eq.trans (Eq.trans (r_go (act := oS (fGr g 11 12 12)) rfl rfl) (a_gr (zO_72 g) (zR_72_12 g))) ?_
    refine Eq.trans (Eq.trans (r_go (act := oS (fAld 12 0)) rfl rfl) (a_ald rfl)) ?_
    refine Eq.trans (Eq.trans (r_go (act := oS (fGi g 15 12 13)) rfl rfl) (a_gi (zO_72 g))) ?_
    refine Eq.trans (Eq.trans (r_go (act := oS (fIld 16 1)) rfl rfl) (a_ild rfl)) ?_
    refine Eq.trans (Eq.trans (r_go (act := oS (fIld 17 2)) rfl rfl) (a_ild rfl)) ?_
    refine Eq.trans (Eq.trans (r_go (act := oS (fSt 18 (g2 (fun x y => x >>> (y &&& 31))))) rfl rfl) (a_shr)) ?_
    refine Eq.trans (Eq.trans (r_go (act := oS (fSt 21 (gC (.int 255)))) rfl rfl) (a_C)) ?_
    refine Eq.trans (Eq.trans (r_go (act := oS (fSt 22 (g2 (fun x y => x &&& y)))) rfl rfl) (a_and)) ?_
    refine Eq.trans (Eq.trans (r_go (act := oS (fIs g 23)) rfl rfl) (a_is (zA_79 g) zS_79)) (bcg ?_ rfl)
    refine Eq.trans (Eq.trans (r_go (act := oS (fAld 24 0)) rfl rfl) (a_ald rfl)) ?_
    refine Eq.trans (Eq.trans (r_go (act := oS (fAld 25 0)) rfl rfl) (a_ald rfl)) ?_
    refine Eq.trans (Eq.trans (r_go (act := oS (fGi g 28 12 13)) rfl rfl) (a_giV (zO_72 g) rfl)) ?_
    refine Eq.trans (Eq.trans (r_go (act := oS (fSt 29 (gC (.int 1)))) rfl rfl) (a_C)) ?_
    refine Eq.trans (Eq.trans (r_go (act := oS (fSt 30 (g2 (fun x y => x + y)))) rfl rfl) (a_add)) ?_
    refine Eq.trans (Eq.trans (r_go (act := oS (fPi g 33 12 13)) rfl rfl) (a_pi (zO_72 g))) ?_
    refine Eq.trans (Eq.trans (r_go (act := oS (fInc 36 2 (-8))) rfl rfl) (a_inc rfl rfl rfl)) ?_
    refine Eq.trans (Eq.trans (r_go (act := oS (fGo 3)) rfl rfl) (a_goto)) ?_
    exact r_cut rfl rfl
set_option maxRecDepth 20000 in
theorem e_X12_feed_0 (g : zg) (a1 : Int32) (a2 : Int32) (a3 : Int32) (a4 : Int32) (a5 : Int32) (M : zM) : zX (t_X12_feed g) 0 [some (.ref 72), some (.int a1), some (.int a2), some (.int a3), some (.int a4), some (.int a5)] [] M = (bif cGt (M.1 72 13) 380 then some (some (.int (-1)), ((zu M.1 72 0 0), M.2)) else (zbV (X_X12_types g [.ref 72, .int a1] ((zu M.1 72 0 0), M.2)) (fun M1 => (zbV (X_X12_types g [.ref 72, .int a2] M1) (fun M2 => (zbV (X_X12_types g [.ref 72, .int a3] M2) (fun M3 => (zbV (X_X12_types g [.ref 72, .int a4] M3) (fun M4 => (zbV (X_X12_types g [.ref 72, .int a5] M4) (fun M5 => some (some (.int (M5.1 72 13)), M5)))))))))))) := by
  refine Eq.trans (zX_rgN (tl_X12_feed g) (hc_X12_feed g) 26 _ _ _ _) ?_
  refine Eq.trans (Eq.trans (r_0 (act := oS (fAld 1 0)) rfl) (a_ald rfl)) ?_
  refine Eq.trans (Eq.trans (r_go (act := oS (fSt 2 (gC (.int 0)))) rfl rfl) (a_C)) ?_
  refine Eq.trans (Eq.trans (r_go (act := oS (fPi g 5 12 0)) rfl rfl) (a_pi (zO_72 g))) ?_
  refine Eq.trans (Eq.trans (r_go (act := oS (fAld 6 0)) rfl rfl) (a_ald rfl)) ?_
  refine Eq.trans (Eq.trans (r_go (act := oS (fGi g 9 12 13)) rfl rfl) (a_giV (zO_72 g) rfl)) ?_
  refine Eq.trans (Eq.trans (r_go (act := oS (fSt 12 (gC (.int 380)))) rfl rfl) (a_C)) ?_
  refine Eq.trans (Eq.trans (r_go (act := oS (fCm 15 17 cGt)) rfl rfl) (a_cm)) (bcg ?_ ?_)
  · refine Eq.trans (Eq.trans (r_go (act := oS (fSt 16 (gC (.int (-1))))) rfl rfl) (a_C)) ?_
    exact Eq.trans (r_go (act := oIret) rfl rfl) (a_iret)
  · refine Eq.trans (Eq.trans (r_go (act := oS (fAld 18 0)) rfl rfl) (a_ald rfl)) ?_
    refine Eq.trans (Eq.trans (r_go (act := oS (fIld 19 1)) rfl rfl) (a_ild rfl)) ?_
    refine Eq.trans (Eq.trans (r_go (act := oCV 22 2 (zcv g 12) (X_X12_types g)) rfl rfl) (a_cV rfl (zck (zO_72 g) rfl))) (zbV_cg (fun M1 => ?_))
    refine Eq.trans (Eq.trans (r_go (act := oS (fAld 23 0)) rfl rfl) (a_ald rfl)) ?_
    refine Eq.trans (Eq.trans (r_go (act := oS (fIld 24 2)) rfl rfl) (a_ild rfl)) ?_
    refine Eq.trans (Eq.trans (r_go (act := oCV 27 2 (zcv g 12) (X_X12_types g)) rfl rfl) (a_cV rfl (zck (zO_72 g) rfl))) (zbV_cg (fun M2 => ?_))
    refine Eq.trans (Eq.trans (r_go (act := oS (fAld 28 0)) rfl rfl) (a_ald rfl)) ?_
    refine Eq.trans (Eq.trans (r_go (act := oS (fIld 29 3)) rfl rfl) (a_ild rfl)) ?_
    refine Eq.trans (Eq.trans (r_go (act := oCV 32 2 (zcv g 12) (X_X12_types g)) rfl rfl) (a_cV rfl (zck (zO_72 g) rfl))) (zbV_cg (fun M3 => ?_))
    refine Eq.trans (Eq.trans (r_go (act := oS (fAld 33 0)) rfl rfl) (a_ald rfl)) ?_
    refine Eq.trans (Eq.trans (r_go (act := oS (fIld 35 4)) rfl rfl) (a_ild rfl)) ?_
    refine Eq.trans (Eq.trans (r_go (act := oCV 38 2 (zcv g 12) (X_X12_types g)) rfl rfl) (a_cV rfl (zck (zO_72 g) rfl))) (zbV_cg (fun M4 => ?_))
    refine Eq.trans (Eq.trans (r_go (act := oS (fAld 39 0)) rfl rfl) (a_ald rfl)) ?_
    refine Eq.trans (Eq.trans (r_go (act := oS (fIld 41 5)) rfl rfl) (a_ild rfl)) ?_
    refine Eq.trans (Eq.trans (r_go (act := oCV 44 2 (zcv g 12) (X_X12_types g)) rfl rfl) (a_cV rfl (zck (zO_72 g) rfl))) (zbV_cg (fun M5 => ?_))
    refine Eq.trans (Eq.trans (r_go (act := oS (fAld 45 0)) rfl rfl) (a_ald rfl)) ?_
    refine Eq.trans (Eq.trans (r_go (act := oS (fGi g 48 12 13)) rfl rfl) (a_gi (zO_72 g))) ?_
    exact Eq.trans (r_go (act := oIret) rfl rfl) (a_iret)
theorem x_X12_feed_0 (g : zg) (a1 : Int32) (a2 : Int32) (a3 : Int32) (a4 : Int32) (a5 : Int32) (M : zM) : X_X12_feed g [.ref 72, .int a1, .int a2, .int a3, .int a4, .int a5] M = (bif cGt (M.1 72 13) 380 then some (some (.int (-1)), ((zu M.1 72 0 0), M.2)) else (zbV (X_X12_types g [.ref 72, .int a1] ((zu M.1 72 0 0), M.2)) (fun M1 => (zbV (X_X12_types g [.ref 72, .int a2] M1) (fun M2 => (zbV (X_X12_types g [.ref 72, .int a3] M2) (fun M3 => (zbV (X_X12_types g [.ref 72, .int a4] M3) (fun M4 => (zbV (X_X12_types g [.ref 72, .int a5] M4) (fun M5 => some (some (.int (M5.1 72 13)), M5)))))))))))) := e_X12_feed_0 g a1 a2 a3 a4 a5 M
set_option maxRecDepth 20000 in
theorem e_X12_end_0 (g : zg) (a1 : Int32) (M : zM) : zX (t_X12_end g) 0 [some (.ref 72), some (.int a1)] [] M = (zbI (X_X12_isIn g [.ref 72, .int a1, .int 0, .int (M.1 72 13)] ((zu M.1 72 0 0), M.2)) (fun x1 M1 => (bif cEq0 x1 then some (some (.int 0), M1) else some (some (.int 1), ((zu M1.1 72 13 a1), M1.2))))) := by
  refine Eq.trans (zX_rgN (tl_X12_end g) (hc_X12_end g) 16 _ _ _ _) ?_
  refine Eq.trans (Eq.trans (r_0 (act := oS (fAld 1 0)) rfl) (a_ald rfl)) ?_
  refine Eq.trans (Eq.trans (r_go (act := oS (fSt 2 (gC (.int 0)))) rfl rfl) (a_C)) ?_
  refine Eq.trans (Eq.trans (r_go (act := oS (fPi g 5 12 0)) rfl rfl) (a_pi (zO_72 g))) ?_
  refine Eq.trans (Eq.trans (r_go (act := oS (fAld 6 0)) rfl rfl) (a_ald rfl)) ?_
  refine Eq.trans (Eq.trans (r_go (act := oS (fIld 7 1)) rfl rfl) (a_ild rfl)) ?_
  refine Eq.trans (Eq.trans (r_go (act := oS (fSt 8 (gC (.int 0)))) rfl rfl) (a_C)) ?_
  refine Eq.trans (Eq.trans (r_go (act := oS (fAld 9 0)) rfl rfl) (a_ald rfl)) ?_
  refine Eq.trans (Eq.trans (r_go (act := oS (fGi g 12 12 13)) rfl rfl) (a_giV (zO_72 g) rfl)) ?_
  refine Eq.trans (Eq.trans (r_go (act := oCI 15 4 (zcv g 12) (X_X12_isIn g)) rfl rfl) (a_cI rfl (zck (zO_72 g) rfl))) (zbI_cg (fun x1 M1 => ?_))
  refine Eq.trans (Eq.trans (r_go (act := oS (fIf 18 20 cEq0)) rfl rfl) (a_if)) (bcg ?_ ?_)
  · refine Eq.trans (Eq.trans (r_go (act := oS (fSt 19 (gC (.int 0)))) rfl rfl) (a_C)) ?_
    exact Eq.trans (Eq.trans (r_go (act := oZret) rfl rfl) a_zret) (bcT (by decide +kernel))
  · refine Eq.trans (Eq.trans (r_go (act := oS (fAld 21 0)) rfl rfl) (a_ald rfl)) ?_
    refine Eq.trans (Eq.trans (r_go (act := oS (fIld 22 1)) rfl rfl) (a_ild rfl)) ?_
    refine Eq.trans (Eq.trans (r_go (act := oS (fPi g 25 12 13)) rfl rfl) (a_pi (zO_72 g))) ?_
    refine Eq.trans (Eq.trans (r_go (act := oS (fSt 26 (gC (.int 1)))) rfl rfl) (a_C)) ?_
    exact Eq.trans (Eq.trans (r_go (act := oZret) rfl rfl) a_zret) (bcT (by decide +kernel))
theorem x_X12_end_0 (g : zg) (a1 : Int32) (M : zM) : X_X12_end g [.ref 72, .int a1] M = (zbI (X_X12_isIn g [.ref 72, .int a1, .int 0, .int (M.1 72 13)] ((zu M.1 72 0 0), M.2)) (fun x1 M1 => (bif cEq0 x1 then some (some (.int 0), M1) else some (some (.int 1), ((zu M1.1 72 13 a1), M1.2))))) := e_X12_end_0 g a1 M
set_option maxRecDepth 20000 in
theorem e_X12_raw_0 (g : zg) (a1 : Int32) (M : zM) : zX (t_X12_raw g) 0 [some (.ref 72), some (.int a1)] [] M = (bif cLt a1 (M.1 72 13) then (bif zb a1 400 then some (some (.int (M.1 79 (zx a1))), M) else none) else some (some (.int (-1)), M)) := by
  refine Eq.trans (zX_rgN (tl_X12_raw g) (hc_X12_raw g) 11 _ _ _ _) ?_
  refine Eq.trans (Eq.trans (r_0 (act := oS (fIld 1 1)) rfl) (a_ild rfl)) ?_
  refine Eq.trans (Eq.trans (r_go (act := oS (fAld 2 0)) rfl rfl) (a_ald rfl)) ?_
  refine Eq.trans (Eq.trans (r_go (act := oS (fGi g 5 12 13)) rfl rfl) (a_gi (zO_72 g))) ?_
  refine Eq.trans (Eq.trans (r_go (act := oS (fCm 8 17 cLt)) rfl rfl) (a_cm)) (bcg ?_ ?_)
  · refine Eq.trans (Eq.trans (r_go (act := oS (fAld 9 0)) rfl rfl) (a_ald rfl)) ?_
    refine Eq.trans (Eq.trans (r_go (act := oS (fGr g 12 12 12)) rfl rfl) (a_gr (zO_72 g) (zR_72_12 g))) ?_
    refine Eq.trans (Eq.trans (r_go (act := oS (fIld 13 1)) rfl rfl) (a_ild rfl)) ?_
    refine Eq.trans (Eq.trans (r_go (act := oS (fIa g 14)) rfl rfl) (a_ia (zA_79 g) zS_79)) (bcg ?_ rfl)
    refine Eq.trans (Eq.trans (r_go (act := oS (fGo 18)) rfl rfl) (a_goto)) ?_
    exact Eq.trans (r_go (act := oIret) rfl rfl) (a_iret)
  · refine Eq.trans (Eq.trans (r_go (act := oS (fSt 18 (gC (.int (-1))))) rfl rfl) (a_C)) ?_
    exact Eq.trans (r_go (act := oIret) rfl rfl) (a_iret)
theorem x_X12_raw_0 (g : zg) (a1 : Int32) (M : zM) : X_X12_raw g [.ref 72, .int a1] M = (bif cLt a1 (M.1 72 13) then (bif zb a1 400 then some (some (.int (M.1 79 (zx a1))), M) else none) else some (some (.int (-1)), M)) := e_X12_raw_0 g a1 M
set_option maxRecDepth 20000 in
theorem e_X12_isLetter_0 (g : zg) (a1 : Int32) (M : zM) : zX (t_X12_isLetter g) 0 [some (.ref 72), some (.int a1)] [] M = (zbI (X_X12_isIn g [.ref 72, .int a1, .int 97, .int 122] M) (fun x1 M1 => (bif cEq0 x1 then (zbI (X_X12_isIn g [.ref 72, .int a1, .int 65, .int 90] M1) (fun x2 M2 => (bif cEq0 x2 then some (some (.int 0), M2) else some (some (.int 1), M2)))) else some (some (.int 1), M1)))) := by
  refine Eq.trans (zX_rgN (tl_X12_isLetter g) (hc_X12_isLetter g) 16 _ _ _ _) ?_
  refine Eq.trans (Eq.trans (r_0 (act := oS (fAld 1 0)) rfl) (a_ald rfl)) ?_
  refine Eq.trans (Eq.trans (r_go (act := oS (fIld 2 1)) rfl rfl) (a_ild rfl)) ?_
  refine Eq.trans (Eq.trans (r_go (act := oS (fSt 4 (gC (.int 97)))) rfl rfl) (a_C)) ?_
  refine Eq.trans (Eq.trans (r_go (act := oS (fSt 6 (gC (.int 122)))) rfl rfl) (a_C)) ?_
  refine Eq.trans (Eq.trans (r_go (act := oCI 9 4 (zcv g 12) (X_X12_isIn g)) rfl rfl) (a_cI rfl (zck (zO_72 g) rfl))) (zbI_cg (fun x1 M1 => ?_))
  refine Eq.trans (Eq.trans (r_go (act := oS (fIf 12 24 cEq0)) rfl rfl) (a_if)) (bcg ?_ ?_)
  · refine Eq.trans (Eq.trans (r_go (act := oS (fAld 13 0)) rfl rfl) (a_ald rfl)) ?_
    refine Eq.trans (Eq.trans (r_go (act := oS (fIld 14 1)) rfl rfl) (a_ild rfl)) ?_
    refine Eq.trans (Eq.trans (r_go (act := oS (fSt 16 (gC (.int 65)))) rfl rfl) (a_C)) ?_
    refine Eq.trans (Eq.trans (r_go (act := oS (fSt 18 (gC (.int 90)))) rfl rfl) (a_C)) ?_
    refine Eq.trans (Eq.trans (r_go (act := oCI 21 4 (zcv g 12) (X_X12_isIn g)) rfl rfl) (a_cI rfl (zck (zO_72 g) rfl))) (zbI_cg (fun x2 M2 => ?_))
    refine Eq.trans (Eq.trans (r_go (act := oS (fIf 28 24 cEq0)) rfl rfl) (a_if)) (bcg ?_ ?_)
    · refine Eq.trans (Eq.trans (r_go (act := oS (fSt 29 (gC (.int 0)))) rfl rfl) (a_C)) ?_
      exact Eq.trans (Eq.trans (r_go (act := oZret) rfl rfl) a_zret) (bcT (by decide +kernel))
    · refine Eq.trans (Eq.trans (r_go (act := oS (fSt 25 (gC (.int 1)))) rfl rfl) (a_C)) ?_
      refine Eq.trans (Eq.trans (r_go (act := oS (fGo 29)) rfl rfl) (a_goto)) ?_
      exact Eq.trans (Eq.trans (r_go (act := oZret) rfl rfl) a_zret) (bcT (by decide +kernel))
  · refine Eq.trans (Eq.trans (r_go (act := oS (fSt 25 (gC (.int 1)))) rfl rfl) (a_C)) ?_
    refine Eq.trans (Eq.trans (r_go (act := oS (fGo 29)) rfl rfl) (a_goto)) ?_
    exact Eq.trans (Eq.trans (r_go (act := oZret) rfl rfl) a_zret) (bcT (by decide +kernel))
theorem x_X12_isLetter_0 (g : zg) (a1 : Int32) (M : zM) : X_X12_isLetter g [.ref 72, .int a1] M = (zbI (X_X12_isIn g [.ref 72, .int a1, .int 97, .int 122] M) (fun x1 M1 => (bif cEq0 x1 then (zbI (X_X12_isIn g [.ref 72, .int a1, .int 65, .int 90] M1) (fun x2 M2 => (bif cEq0 x2 then some (some (.int 0), M2) else some (some (.int 1), M2)))) else some (some (.int 1), M1)))) := e_X12_isLetter_0 g a1 M
set_option maxRecDepth 20000 in
theorem e_X12_wordAt_0 (g : zg) (a1 : Int32) (a2 : Int32) (M : zM) : zX (t_X12_wordAt g) 0 [some (.ref 72), some (.int a1), some (.int a2), none, none, none] [] M = zX (t_X12_wordAt g) 5 [some (.ref 72), some (.int a1), some (.int a2), some (.int (-1)), some (.int 0), none] [] M := by
  refine Eq.trans (zX_rgN (tl_X12_wordAt g) (hc_X12_wordAt g) 6 _ _ _ _) ?_
  refine Eq.trans (Eq.trans (r_0 (act := oS (fSt 1 (gC (.int (-1))))) rfl) (a_C)) ?_
  refine Eq.trans (Eq.trans (r_go (act := oS (fIst 2 3)) rfl rfl) (a_ist rfl rfl)) ?_
  refine Eq.trans (Eq.trans (r_go (act := oS (fSt 3 (gC (.int 0)))) rfl rfl) (a_C)) ?_
  refine Eq.trans (Eq.trans (r_go (act := oS (fIst 5 4)) rfl rfl) (a_ist rfl rfl)) ?_
  exact r_cut rfl rfl
theorem x_X12_wordAt_0 (g : zg) (a1 : Int32) (a2 : Int32) (M : zM) : X_X12_wordAt g [.ref 72, .int a1, .int a2] M = zX (t_X12_wordAt g) 5 [some (.ref 72), some (.int a1), some (.int a2), some (.int (-1)), some (.int 0), none] [] M := e_X12_wordAt_0 g a1 a2 M
set_option maxRecDepth 20000 in
theorem e_X12_wordAt_5 (g : zg) (a1 : Int32) (a2 : Int32) (a3 : Int32) (a4 : Int32) (M : zM) : zX (t_X12_wordAt g) 5 [some (.ref 72), some (.int a1), some (.int a2), some (.int a3), some (.int a4), none] [] M = (bif cLt a4 124 then zX (t_X12_wordAt g) 19 [some (.ref 72), some (.int a1), some (.int a2), some (.int (a3 + 1)), some (.int a4), some (.int 0)] [] M else some (some (.int (-1)), M)) := by
  refine Eq.trans (zX_rgN (tl_X12_wordAt g) (hc_X12_wordAt g) 11 _ _ _ _) ?_
  refine Eq.trans (Eq.trans (Eq.trans (r_0 (act := oF [5] (oS (fIld 7 4))) rfl) (a_F rfl)) (a_ild rfl)) ?_
  refine Eq.trans (Eq.trans (r_go (act := oS (fSt 9 (gC (.int 124)))) rfl rfl) (a_C)) ?_
  refine Eq.trans (Eq.trans (r_go (act := oS (fCm 12 117 cLt)) rfl rfl) (a_cm)) (bcg ?_ ?_)
  · refine Eq.trans (Eq.trans (r_go (act := oS (fSt 13 (gC (.int 0)))) rfl rfl) (a_C)) ?_
    refine Eq.trans (Eq.trans (r_go (act := oS (fIst 15 5)) rfl rfl) (a_ist rfl rfl)) ?_
    refine Eq.trans (Eq.trans (r_go (act := oS (fIld 16 3)) rfl rfl) (a_ild rfl)) ?_
    refine Eq.trans (Eq.trans (r_go (act := oS (fSt 17 (gC (.int 1)))) rfl rfl) (a_C)) ?_
    refine Eq.trans (Eq.trans (r_go (act := oS (fSt 18 (g2 (fun x y => x + y)))) rfl rfl) (a_add)) ?_
    refine Eq.trans (Eq.trans (r_go (act := oS (fIst 19 3)) rfl rfl) (a_ist rfl rfl)) ?_
    exact r_cut rfl rfl
  · refine Eq.trans (Eq.trans (r_go (act := oS (fSt 118 (gC (.int (-1))))) rfl rfl) (a_C)) ?_
    exact Eq.trans (r_go (act := oIret) rfl rfl) (a_iret)
set_option maxRecDepth 20000 in
theorem e_X12_wordAt_19 (g : zg) (a1 : Int32) (a2 : Int32) (a3 : Int32) (a4 : Int32) (a5 : Int32) (M : zM) : zX (t_X12_wordAt g) 19 [some (.ref 72), some (.int a1), some (.int a2), some (.int a3), some (.int a4), some (.int a5)] [] M = (bif cLt (a1 + a5) a2 then (bif zb ((a4 + 1) + a5) 125 then (bif zb (a1 + a5) 400 then (bif cEq (M.1 80 (zx ((a4 + 1) + a5))) (M.1 79 (zx (a1 + a5))) then zX (t_X12_wordAt g) 19 [some (.ref 72), some (.int a1), some (.int a2), some (.int a3), some (.int a4), some (.int (a5 + 1))] [] M else zX (t_X12_wordAt g) 60 [some (.ref 72), some (.int a1), some (.int a2), some (.int a3), some (.int a4), some (.int a5)] [] M) else none) else none) else zX (t_X12_wordAt g) 60 [some (.ref 72), some (.int a1), some (.int a2), some (.int a3), some (.int a4), some (.int a5)] [] M) := by
  refine Eq.trans (zX_rgN (tl_X12_wordAt g) (hc_X12_wordAt g) 27 _ _ _ _) ?_
  refine Eq.trans (Eq.trans (Eq.trans (r_0 (act := oF [] (oS (fIld 20 1))) rfl) (a_F rfl)) (a_ild rfl)) ?_
  refine Eq.trans (Eq.trans (r_go (act := oS (fIld 22 5)) rfl rfl) (a_ild rfl)) ?_
  refine Eq.trans (Eq.trans (r_go (act := oS (fSt 23 (g2 (fun x y => x + y)))) rfl rfl) (a_add)) ?_
  refine Eq.trans (Eq.trans (r_go (act := oS (fIld 24 2)) rfl rfl) (a_ild rfl)) ?_
  refine Eq.trans (Eq.trans (r_go (act := oS (fCm 27 60 cLt)) rfl rfl) (a_cm)) (bcg ?_ ?_)
  · refine Eq.trans (Eq.trans (r_go (act := oS (fAld 28 0)) rfl rfl) (a_ald rfl)) ?_
    refine Eq.trans (Eq.trans (r_go (act := oS (fGr g 31 12 18)) rfl rfl) (a_gr (zO_72 g) (zR_72_18 g))) ?_
    refine Eq.trans (Eq.trans (r_go (act := oS (fIld 33 4)) rfl rfl) (a_ild rfl)) ?_
    refine Eq.trans (Eq.trans (r_go (act := oS (fSt 34 (gC (.int 1)))) rfl rfl) (a_C)) ?_
    refine Eq.trans (Eq.trans (r_go (act := oS (fSt 35 (g2 (fun x y => x + y)))) rfl rfl) (a_add)) ?_
    refine Eq.trans (Eq.trans (r_go (act := oS (fIld 37 5)) rfl rfl) (a_ild rfl)) ?_
    refine Eq.trans (Eq.trans (r_go (act := oS (fSt 38 (g2 (fun x y => x + y)))) rfl rfl) (a_add)) ?_
    refine Eq.trans (Eq.trans (r_go (act := oS (fIa g 39)) rfl rfl) (a_ia (zA_80 g) zS_80)) (bcg ?_ rfl)
    refine Eq.trans (Eq.trans (r_go (act := oS (fAld 40 0)) rfl rfl) (a_ald rfl)) ?_
    refine Eq.trans (Eq.trans (r_go (act := oS (fGr g 43 12 12)) rfl rfl) (a_gr (zO_72 g) (zR_72_12 g))) ?_
    refine Eq.trans (Eq.trans (r_go (act := oS (fIld 44 1)) rfl rfl) (a_ild rfl)) ?_
    refine Eq.trans (Eq.trans (r_go (act := oS (fIld 46 5)) rfl rfl) (a_ild rfl)) ?_
    refine Eq.trans (Eq.trans (r_go (act := oS (fSt 47 (g2 (fun x y => x + y)))) rfl rfl) (a_add)) ?_
    refine Eq.trans (Eq.trans (r_go (act := oS (fIa g 48)) rfl rfl) (a_ia (zA_79 g) zS_79)) (bcg ?_ rfl)
    refine Eq.trans (Eq.trans (r_go (act := oS (fCm 51 60 cEq)) rfl rfl) (a_cm)) (bcg ?_ ?_)
    · refine Eq.trans (Eq.trans (r_go (act := oS (fIld 53 5)) rfl rfl) (a_ild rfl)) ?_
      refine Eq.trans (Eq.trans (r_go (act := oS (fSt 54 (gC (.int 1)))) rfl rfl) (a_C)) ?_
      refine Eq.trans (Eq.trans (r_go (act := oS (fSt 55 (g2 (fun x y => x + y)))) rfl rfl) (a_add)) ?_
      refine Eq.trans (Eq.trans (r_go (act := oS (fIst 57 5)) rfl rfl) (a_ist rfl rfl)) ?_
      refine Eq.trans (Eq.trans (r_go (act := oS (fGo 19)) rfl rfl) (a_goto)) ?_
      exact r_cut rfl rfl
    · exact r_cut rfl rfl
  · exact r_cut rfl rfl
set_option maxRecDepth 20000 in
theorem e_X12_wordAt_60 (g : zg) (a1 : Int32) (a2 : Int32) (a3 : Int32) (a4 : Int32) (a5 : Int32) (M : zM) : zX (t_X12_wordAt g) 60 [some (.ref 72), some (.int a1), some (.int a2), some (.int a3), some (.int a4), some (.int a5)] [] M = (bif cEq (a1 + a5) a2 then (bif zb ((a4 + 1) + a5) 125 then (bif cEq (M.1 80 (zx ((a4 + 1) + a5))) 32 then some (some (.int a3), M) else zX (t_X12_wordAt g) 93 [some (.ref 72), some (.int a1), some (.int a2), some (.int a3), some (.int (a4 + 1)), none] [] M) else none) else zX (t_X12_wordAt g) 93 [some (.ref 72), some (.int a1), some (.int a2), some (.int a3), some (.int (a4 + 1)), none] [] M) := by
  refine Eq.trans (zX_rgN (tl_X12_wordAt g) (hc_X12_wordAt g) 21 _ _ _ _) ?_
  refine Eq.trans (Eq.trans (Eq.trans (r_0 (act := oF [] (oS (fIld 61 1))) rfl) (a_F rfl)) (a_ild rfl)) ?_
  refine Eq.trans (Eq.trans (r_go (act := oS (fIld 63 5)) rfl rfl) (a_ild rfl)) ?_
  refine Eq.trans (Eq.trans (r_go (act := oS (fSt 64 (g2 (fun x y => x + y)))) rfl rfl) (a_add)) ?_
  refine Eq.trans (Eq.trans (r_go (act := oS (fIld 65 2)) rfl rfl) (a_ild rfl)) ?_
  refine Eq.trans (Eq.trans (r_go (act := oS (fCm 68 87 cEq)) rfl rfl) (a_cm)) (bcg ?_ ?_)
  · refine Eq.trans (Eq.trans (r_go (act := oS (fAld 69 0)) rfl rfl) (a_ald rfl)) ?_
    refine Eq.trans (Eq.trans (r_go (act := oS (fGr g 72 12 18)) rfl rfl) (a_gr (zO_72 g) (zR_72_18 g))) ?_
    refine Eq.trans (Eq.trans (r_go (act := oS (fIld 74 4)) rfl rfl) (a_ild rfl)) ?_
    refine Eq.trans (Eq.trans (r_go (act := oS (fSt 75 (gC (.int 1)))) rfl rfl) (a_C)) ?_
    refine Eq.trans (Eq.trans (r_go (act := oS (fSt 76 (g2 (fun x y => x + y)))) rfl rfl) (a_add)) ?_
    refine Eq.trans (Eq.trans (r_go (act := oS (fIld 78 5)) rfl rfl) (a_ild rfl)) ?_
    refine Eq.trans (Eq.trans (r_go (act := oS (fSt 79 (g2 (fun x y => x + y)))) rfl rfl) (a_add)) ?_
    refine Eq.trans (Eq.trans (r_go (act := oS (fIa g 80)) rfl rfl) (a_ia (zA_80 g) zS_80)) (bcg ?_ rfl)
    refine Eq.trans (Eq.trans (r_go (act := oS (fSt 82 (gC (.int 32)))) rfl rfl) (a_C)) ?_
    refine Eq.trans (Eq.trans (r_go (act := oS (fCm 85 87 cEq)) rfl rfl) (a_cm)) (bcg ?_ ?_)
    · refine Eq.trans (Eq.trans (r_go (act := oS (fIld 86 3)) rfl rfl) (a_ild rfl)) ?_
      exact Eq.trans (r_go (act := oIret) rfl rfl) (a_iret)
    · refine Eq.trans (Eq.trans (r_go (act := oS (fIld 89 4)) rfl rfl) (a_ild rfl)) ?_
      refine Eq.trans (Eq.trans (r_go (act := oS (fSt 90 (gC (.int 1)))) rfl rfl) (a_C)) ?_
      refine Eq.trans (Eq.trans (r_go (act := oS (fSt 91 (g2 (fun x y => x + y)))) rfl rfl) (a_add)) ?_
      refine Eq.trans (Eq.trans (r_go (act := oS (fIst 93 4)) rfl rfl) (a_ist rfl rfl)) ?_
      exact r_cut rfl rfl
  · refine Eq.trans (Eq.trans (r_go (act := oS (fIld 89 4)) rfl rfl) (a_ild rfl)) ?_
    refine Eq.trans (Eq.trans (r_go (act := oS (fSt 90 (gC (.int 1)))) rfl rfl) (a_C)) ?_
    refine Eq.trans (Eq.trans (r_go (act := oS (fSt 91 (g2 (fun x y => x + y)))) rfl rfl) (a_add)) ?_
    refine Eq.trans (Eq.trans (r_go (act := oS (fIst 93 4)) rfl rfl) (a_ist rfl rfl)) ?_
    exact r_cut rfl rfl
set_option maxRecDepth 20000 in
theorem e_X12_wordAt_93 (g : zg) (a1 : Int32) (a2 : Int32) (a3 : Int32) (a4 : Int32) (M : zM) : zX (t_X12_wordAt g) 93 [some (.ref 72), some (.int a1), some (.int a2), some (.int a3), some (.int a4), none] [] M = (bif zb a4 125 then (bif cEq (M.1 80 (zx a4)) 32 then zX (t_X12_wordAt g) 5 [some (.ref 72), some (.int a1), some (.int a2), some (.int a3), some (.int a4), none] [] M else zX (t_X12_wordAt g) 93 [some (.ref 72), some (.int a1), some (.int a2), some (.int a3), some (.int (a4 + 1)), none] [] M) else none) := by
  refine Eq.trans (zX_rgN (tl_X12_wordAt g) (hc_X12_wordAt g) 13 _ _ _ _) ?_
  refine Eq.trans (Eq.trans (Eq.trans (r_0 (act := oF [5] (oS (fAld 94 0))) rfl) (a_F rfl)) (a_ald rfl)) ?_
  refine Eq.trans (Eq.trans (r_go (act := oS (fGr g 97 12 18)) rfl rfl) (a_gr (zO_72 g) (zR_72_18 g))) ?_
  refine Eq.trans (Eq.trans (r_go (act := oS (fIld 99 4)) rfl rfl) (a_ild rfl)) ?_
  refine Eq.trans (Eq.trans (r_go (act := oS (fIa g 100)) rfl rfl) (a_ia (zA_80 g) zS_80)) (bcg ?_ rfl)
  refine Eq.trans (Eq.trans (r_go (act := oS (fSt 102 (gC (.int 32)))) rfl rfl) (a_C)) ?_
  refine Eq.trans (Eq.trans (r_go (act := oS (fCm 114 105 cEq)) rfl rfl) (a_cm)) (bcg ?_ ?_)
  · refine Eq.trans (Eq.trans (r_go (act := oS (fGo 5)) rfl rfl) (a_goto)) ?_
    exact r_cut rfl rfl
  · refine Eq.trans (Eq.trans (r_go (act := oS (fIld 107 4)) rfl rfl) (a_ild rfl)) ?_
    refine Eq.trans (Eq.trans (r_go (act := oS (fSt 108 (gC (.int 1)))) rfl rfl) (a_C)) ?_
    refine Eq.trans (Eq.trans (r_go (act := oS (fSt 109 (g2 (fun x y => x + y)))) rfl rfl) (a_add)) ?_
    refine Eq.trans (Eq.trans (r_go (act := oS (fIst 111 4)) rfl rfl) (a_ist rfl rfl)) ?_
    refine Eq.trans (Eq.trans (r_go (act := oS (fGo 93)) rfl rfl) (a_goto)) ?_
    exact r_cut rfl rfl
set_option maxRecDepth 20000 in
theorem e_X12_isDigit_0 (g : zg) (a1 : Int32) (M : zM) : zX (t_X12_isDigit g) 0 [some (.ref 72), some (.int a1)] [] M = (zbI (X_X12_isIn g [.ref 72, .int a1, .int 48, .int 57] M) (fun x1 M1 => (bif cEq (x1 &&& 1) x1 then some (some (.int x1), M1) else none))) := by
  refine Eq.trans (zX_rgN (tl_X12_isDigit g) (hc_X12_isDigit g) 7 _ _ _ _) ?_
  refine Eq.trans (Eq.trans (r_0 (act := oS (fAld 1 0)) rfl) (a_ald rfl)) ?_
  refine Eq.trans (Eq.trans (r_go (act := oS (fIld 2 1)) rfl rfl) (a_ild rfl)) ?_
  refine Eq.trans (Eq.trans (r_go (act := oS (fSt 4 (gC (.int 48)))) rfl rfl) (a_C)) ?_
  refine Eq.trans (Eq.trans (r_go (act := oS (fSt 6 (gC (.int 57)))) rfl rfl) (a_C)) ?_
  refine Eq.trans (Eq.trans (r_go (act := oCI 9 4 (zcv g 12) (X_X12_isIn g)) rfl rfl) (a_cI rfl (zck (zO_72 g) rfl))) (zbI_cg (fun x1 M1 => ?_))
  exact Eq.trans (r_go (act := oZret) rfl rfl) (a_zret)
theorem x_X12_isDigit_0 (g : zg) (a1 : Int32) (M : zM) : X_X12_isDigit g [.ref 72, .int a1] M = (zbI (X_X12_isIn g [.ref 72, .int a1, .int 48, .int 57] M) (fun x1 M1 => (bif cEq (x1 &&& 1) x1 then some (some (.int x1), M1) else none))) := e_X12_isDigit_0 g a1 M
set_option maxRecDepth 20000 in
theorem e_X12_isMarkSign_0 (g : zg) (a1 : Int32) (M : zM) : zX (t_X12_isMarkSign g) 0 [some (.ref 72), some (.int a1)] [] M = (bif cEq a1 59 then some (some (.int 1), M) else (bif cEq a1 43 then some (some (.int 1), M) else (bif cEq a1 45 then some (some (.int 1), M) else (bif cEq a1 42 then some (some (.int 1), M) else (bif cEq a1 47 then some (some (.int 1), M) else (bif cEq a1 40 then some (some (.int 1), M) else (bif cEq a1 41 then some (some (.int 1), M) else (bif cEq a1 60 then some (some (.int 1), M) else (bif cEq a1 61 then some (some (.int 1), M) else (bif cEq a1 62 then some (some (.int 1), M) else some (some (.int 0), M))))))))))) := by
  refine Eq.trans (zX_rgN (tl_X12_isMarkSign g) (hc_X12_isMarkSign g) 34 _ _ _ _) ?_
  refine Eq.trans (Eq.trans (r_0 (act := oS (fIld 1 1)) rfl) (a_ild rfl)) ?_
  refine Eq.trans (Eq.trans (r_go (act := oS (fSt 3 (gC (.int 59)))) rfl rfl) (a_C)) ?_
  refine Eq.trans (Eq.trans (r_go (act := oS (fCm 60 6 cEq)) rfl rfl) (a_cm)) (bcg ?_ ?_)
  · refine Eq.trans (Eq.trans (r_go (act := oS (fSt 61 (gC (.int 1)))) rfl rfl) (a_C)) ?_
    refine Eq.trans (Eq.trans (r_go (act := oS (fGo 65)) rfl rfl) (a_goto)) ?_
    exact Eq.trans (Eq.trans (r_go (act := oZret) rfl rfl) a_zret) (bcT (by decide +kernel))
  · refine Eq.trans (Eq.trans (r_go (act := oS (fIld 7 1)) rfl rfl) (a_ild rfl)) ?_
    refine Eq.trans (Eq.trans (r_go (act := oS (fSt 9 (gC (.int 43)))) rfl rfl) (a_C)) ?_
    refine Eq.trans (Eq.trans (r_go (act := oS (fCm 60 12 cEq)) rfl rfl) (a_cm)) (bcg ?_ ?_)
    · refine Eq.trans (Eq.trans (r_go (act := oS (fSt 61 (gC (.int 1)))) rfl rfl) (a_C)) ?_
      refine Eq.trans (Eq.trans (r_go (act := oS (fGo 65)) rfl rfl) (a_goto)) ?_
      exact Eq.trans (Eq.trans (r_go (act := oZret) rfl rfl) a_zret) (bcT (by decide +kernel))
    · refine Eq.trans (Eq.trans (r_go (act := oS (fIld 13 1)) rfl rfl) (a_ild rfl)) ?_
      refine Eq.trans (Eq.trans (r_go (act := oS (fSt 15 (gC (.int 45)))) rfl rfl) (a_C)) ?_
      refine Eq.trans (Eq.trans (r_go (act := oS (fCm 60 18 cEq)) rfl rfl) (a_cm)) (bcg ?_ ?_)
      · refine Eq.trans (Eq.trans (r_go (act := oS (fSt 61 (gC (.int 1)))) rfl rfl) (a_C)) ?_
        refine Eq.trans (Eq.trans (r_go (act := oS (fGo 65)) rfl rfl) (a_goto)) ?_
        exact Eq.trans (Eq.trans (r_go (act := oZret) rfl rfl) a_zret) (bcT (by decide +kernel))
      · refine Eq.trans (Eq.trans (r_go (act := oS (fIld 19 1)) rfl rfl) (a_ild rfl)) ?_
        refine Eq.trans (Eq.trans (r_go (act := oS (fSt 21 (gC (.int 42)))) rfl rfl) (a_C)) ?_
        refine Eq.trans (Eq.trans (r_go (act := oS (fCm 60 24 cEq)) rfl rfl) (a_cm)) (bcg ?_ ?_)
        · refine Eq.trans (Eq.trans (r_go (act := oS (fSt 61 (gC (.int 1)))) rfl rfl) (a_C)) ?_
          refine Eq.trans (Eq.trans (r_go (act := oS (fGo 65)) rfl rfl) (a_goto)) ?_
          exact Eq.trans (Eq.trans (r_go (act := oZret) rfl rfl) a_zret) (bcT (by decide +kernel))
        · refine Eq.trans (Eq.trans (r_go (act := oS (fIld 25 1)) rfl rfl) (a_ild rfl)) ?_
          refine Eq.trans (Eq.trans (r_go (act := oS (fSt 27 (gC (.int 47)))) rfl rfl) (a_C)) ?_
          refine Eq.trans (Eq.trans (r_go (act := oS (fCm 60 30 cEq)) rfl rfl) (a_cm)) (bcg ?_ ?_)
          · refine Eq.trans (Eq.trans (r_go (act := oS (fSt 61 (gC (.int 1)))) rfl rfl) (a_C)) ?_
            refine Eq.trans (Eq.trans (r_go (act := oS (fGo 65)) rfl rfl) (a_goto)) ?_
            exact Eq.trans (Eq.trans (r_go (act := oZret) rfl rfl) a_zret) (bcT (by decide +kernel))
          · refine Eq.trans (Eq.trans (r_go (act := oS (fIld 31 1)) rfl rfl) (a_ild rfl)) ?_
            refine Eq.trans (Eq.trans (r_go (act := oS (fSt 33 (gC (.int 40)))) rfl rfl) (a_C)) ?_
            refine Eq.trans (Eq.trans (r_go (act := oS (fCm 60 36 cEq)) rfl rfl) (a_cm)) (bcg ?_ ?_)
            · refine Eq.trans (Eq.trans (r_go (act := oS (fSt 61 (gC (.int 1)))) rfl rfl) (a_C)) ?_
              refine Eq.trans (Eq.trans (r_go (act := oS (fGo 65)) rfl rfl) (a_goto)) ?_
              exact Eq.trans (Eq.trans (r_go (act := oZret) rfl rfl) a_zret) (bcT (by decide +kernel))
            · refine Eq.trans (Eq.trans (r_go (act := oS (fIld 37 1)) rfl rfl) (a_ild rfl)) ?_
              refine Eq.trans (Eq.trans (r_go (act := oS (fSt 39 (gC (.int 41)))) rfl rfl) (a_C)) ?_
              refine Eq.trans (Eq.trans (r_go (act := oS (fCm 60 42 cEq)) rfl rfl) (a_cm)) (bcg ?_ ?_)
              · refine Eq.trans (Eq.trans (r_go (act := oS (fSt 61 (gC (.int 1)))) rfl rfl) (a_C)) ?_
                refine Eq.trans (Eq.trans (r_go (act := oS (fGo 65)) rfl rfl) (a_goto)) ?_
                exact Eq.trans (Eq.trans (r_go (act := oZret) rfl rfl) a_zret) (bcT (by decide +kernel))
              · refine Eq.trans (Eq.trans (r_go (act := oS (fIld 43 1)) rfl rfl) (a_ild rfl)) ?_
                refine Eq.trans (Eq.trans (r_go (act := oS (fSt 45 (gC (.int 60)))) rfl rfl) (a_C)) ?_
                refine Eq.trans (Eq.trans (r_go (act := oS (fCm 60 48 cEq)) rfl rfl) (a_cm)) (bcg ?_ ?_)
                · refine Eq.trans (Eq.trans (r_go (act := oS (fSt 61 (gC (.int 1)))) rfl rfl) (a_C)) ?_
                  refine Eq.trans (Eq.trans (r_go (act := oS (fGo 65)) rfl rfl) (a_goto)) ?_
                  exact Eq.trans (Eq.trans (r_go (act := oZret) rfl rfl) a_zret) (bcT (by decide +kernel))
                · refine Eq.trans (Eq.trans (r_go (act := oS (fIld 49 1)) rfl rfl) (a_ild rfl)) ?_
                  refine Eq.trans (Eq.trans (r_go (act := oS (fSt 51 (gC (.int 61)))) rfl rfl) (a_C)) ?_
                  refine Eq.trans (Eq.trans (r_go (act := oS (fCm 60 54 cEq)) rfl rfl) (a_cm)) (bcg ?_ ?_)
                  · refine Eq.trans (Eq.trans (r_go (act := oS (fSt 61 (gC (.int 1)))) rfl rfl) (a_C)) ?_
                    refine Eq.trans (Eq.trans (r_go (act := oS (fGo 65)) rfl rfl) (a_goto)) ?_
                    exact Eq.trans (Eq.trans (r_go (act := oZret) rfl rfl) a_zret) (bcT (by decide +kernel))
                  · refine Eq.trans (Eq.trans (r_go (act := oS (fIld 55 1)) rfl rfl) (a_ild rfl)) ?_
                    refine Eq.trans (Eq.trans (r_go (act := oS (fSt 57 (gC (.int 62)))) rfl rfl) (a_C)) ?_
                    refine Eq.trans (Eq.trans (r_go (act := oS (fCm 60 64 cEq)) rfl rfl) (a_cm)) (bcg ?_ ?_)
                    · refine Eq.trans (Eq.trans (r_go (act := oS (fSt 61 (gC (.int 1)))) rfl rfl) (a_C)) ?_
                      refine Eq.trans (Eq.trans (r_go (act := oS (fGo 65)) rfl rfl) (a_goto)) ?_
                      exact Eq.trans (Eq.trans (r_go (act := oZret) rfl rfl) a_zret) (bcT (by decide +kernel))
                    · refine Eq.trans (Eq.trans (r_go (act := oS (fSt 65 (gC (.int 0)))) rfl rfl) (a_C)) ?_
                      exact Eq.trans (Eq.trans (r_go (act := oZret) rfl rfl) a_zret) (bcT (by decide +kernel))
theorem x_X12_isMarkSign_0 (g : zg) (a1 : Int32) (M : zM) : X_X12_isMarkSign g [.ref 72, .int a1] M = (bif cEq a1 59 then some (some (.int 1), M) else (bif cEq a1 43 then some (some (.int 1), M) else (bif cEq a1 45 then some (some (.int 1), M) else (bif cEq a1 42 then some (some (.int 1), M) else (bif cEq a1 47 then some (some (.int 1), M) else (bif cEq a1 40 then some (some (.int 1), M) else (bif cEq a1 41 then some (some (.int 1), M) else (bif cEq a1 60 then some (some (.int 1), M) else (bif cEq a1 61 then some (some (.int 1), M) else (bif cEq a1 62 then some (some (.int 1), M) else some (some (.int 0), M))))))))))) := e_X12_isMarkSign_0 g a1 M
set_option maxRecDepth 20000 in
theorem e_X12_reads_0 (g : zg) (M : zM) : zX (t_X12_reads g) 0 [some (.ref 72), none] [] M = (zbI (X_X12_raw g [.ref 72, .int (M.1 72 14)] M) (fun x1 M1 => (bif cEq x1 32 then zX (t_X12_reads g) 0 [some (.ref 72), none] [] ((zu M1.1 72 14 ((M1.1 72 14) + 1)), M1.2) else (zbI (X_X12_raw g [.ref 72, .int (M1.1 72 14)] M1) (fun x2 M2 => (bif cEq x2 10 then zX (t_X12_reads g) 0 [some (.ref 72), none] [] ((zu M2.1 72 14 ((M2.1 72 14) + 1)), M2.2) else (zbI (X_X12_raw g [.ref 72, .int (M2.1 72 14)] ((zu (zu M2.1 72 15 (M2.1 72 14)) 72 16 1), M2.2)) (fun x3 M3 => (bif cEq x3 (-1) then some (none, ((zu M3.1 72 16 0), M3.2)) else (zbI (X_X12_isLetter g [.ref 72, .int x3] ((zu (zu M3.1 72 14 ((M3.1 72 14) + 1)) 72 17 x3), M3.2)) (fun x4 M4 => (bif cEq0 x4 then (zbI (X_X12_isDigit g [.ref 72, .int x3] M4) (fun x5 M5 => (bif cEq0 x5 then (zbI (X_X12_isMarkSign g [.ref 72, .int x3] M5) (fun x6 M6 => (bif cEq0 x6 then some (none, M6) else some (none, ((zu M6.1 72 16 4), M6.2))))) else zX (t_X12_reads g) 171 [some (.ref 72), none] [] ((zu M5.1 72 17 (x3 - 48)), M5.2)))) else zX (t_X12_reads g) 95 [some (.ref 72), none] [] M4)))))))))))) := by
  refine Eq.trans (zX_rgN (tl_X12_reads g) (hc_X12_reads g) 53 _ _ _ _) ?_
  refine Eq.trans (Eq.trans (Eq.trans (r_0 (act := oF [1] (oS (fAld 1 0))) rfl) (a_F rfl)) (a_ald rfl)) ?_
  refine Eq.trans (Eq.trans (r_go (act := oS (fAld 2 0)) rfl rfl) (a_ald rfl)) ?_
  refine Eq.trans (Eq.trans (r_go (act := oS (fGi g 5 12 14)) rfl rfl) (a_gi (zO_72 g))) ?_
  refine Eq.trans (Eq.trans (r_go (act := oCI 8 2 (zcv g 12) (X_X12_raw g)) rfl rfl) (a_cI rfl (zck (zO_72 g) rfl))) (zbI_cg (fun x1 M1 => ?_))
  refine Eq.trans (Eq.trans (r_go (act := oS (fSt 10 (gC (.int 32)))) rfl rfl) (a_C)) ?_
  refine Eq.trans (Eq.trans (r_go (act := oS (fCm 26 13 cEq)) rfl rfl) (a_cm)) (bcg ?_ ?_)
  · refine Eq.trans (Eq.trans (r_go (act := oS (fAld 27 0)) rfl rfl) (a_ald rfl)) ?_
    refine Eq.trans (Eq.trans (r_go (act := oS (fAld 28 0)) rfl rfl) (a_ald rfl)) ?_
    refine Eq.trans (Eq.trans (r_go (act := oS (fGi g 31 12 14)) rfl rfl) (a_gi (zO_72 g))) ?_
    refine Eq.trans (Eq.trans (r_go (act := oS (fSt 32 (gC (.int 1)))) rfl rfl) (a_C)) ?_
    refine Eq.trans (Eq.trans (r_go (act := oS (fSt 33 (g2 (fun x y => x + y)))) rfl rfl) (a_add)) ?_
    refine Eq.trans (Eq.trans (r_go (act := oS (fPi g 36 12 14)) rfl rfl) (a_pi (zO_72 g))) ?_
    refine Eq.trans (Eq.trans (r_go (act := oS (fGo 0)) rfl rfl) (a_goto)) ?_
    exact r_cut rfl rfl
  · refine Eq.trans (Eq.trans (r_go (act := oS (fAld 14 0)) rfl rfl) (a_ald rfl)) ?_
    refine Eq.trans (Eq.trans (r_go (act := oS (fAld 15 0)) rfl rfl) (a_ald rfl)) ?_
    refine Eq.trans (Eq.trans (r_go (act := oS (fGi g 18 12 14)) rfl rfl) (a_gi (zO_72 g))) ?_
    refine Eq.trans (Eq.trans (r_go (act := oCI 21 2 (zcv g 12) (X_X12_raw g)) rfl rfl) (a_cI rfl (zck (zO_72 g) rfl))) (zbI_cg (fun x2 M2 => ?_))
    refine Eq.trans (Eq.trans (r_go (act := oS (fSt 23 (gC (.int 10)))) rfl rfl) (a_C)) ?_
    refine Eq.trans (Eq.trans (r_go (act := oS (fCm 26 39 cEq)) rfl rfl) (a_cm)) (bcg ?_ ?_)
    · refine Eq.trans (Eq.trans (r_go (act := oS (fAld 27 0)) rfl rfl) (a_ald rfl)) ?_
      refine Eq.trans (Eq.trans (r_go (act := oS (fAld 28 0)) rfl rfl) (a_ald rfl)) ?_
      refine Eq.trans (Eq.trans (r_go (act := oS (fGi g 31 12 14)) rfl rfl) (a_gi (zO_72 g))) ?_
      refine Eq.trans (Eq.trans (r_go (act := oS (fSt 32 (gC (.int 1)))) rfl rfl) (a_C)) ?_
      refine Eq.trans (Eq.trans (r_go (act := oS (fSt 33 (g2 (fun x y => x + y)))) rfl rfl) (a_add)) ?_
      refine Eq.trans (Eq.trans (r_go (act := oS (fPi g 36 12 14)) rfl rfl) (a_pi (zO_72 g))) ?_
      refine Eq.trans (Eq.trans (r_go (act := oS (fGo 0)) rfl rfl) (a_goto)) ?_
      exact r_cut rfl rfl
    · refine Eq.trans (Eq.trans (r_go (act := oS (fAld 40 0)) rfl rfl) (a_ald rfl)) ?_
      refine Eq.trans (Eq.trans (r_go (act := oS (fAld 41 0)) rfl rfl) (a_ald rfl)) ?_
      refine Eq.trans (Eq.trans (r_go (act := oS (fGi g 44 12 14)) rfl rfl) (a_gi (zO_72 g))) ?_
      refine Eq.trans (Eq.trans (r_go (act := oS (fPi g 47 12 15)) rfl rfl) (a_pi (zO_72 g))) ?_
      refine Eq.trans (Eq.trans (r_go (act := oS (fAld 48 0)) rfl rfl) (a_ald rfl)) ?_
      refine Eq.trans (Eq.trans (r_go (act := oS (fSt 49 (gC (.int 1)))) rfl rfl) (a_C)) ?_
      refine Eq.trans (Eq.trans (r_go (act := oS (fPi g 52 12 16)) rfl rfl) (a_pi (zO_72 g))) ?_
      refine Eq.trans (Eq.trans (r_go (act := oS (fAld 53 0)) rfl rfl) (a_ald rfl)) ?_
      refine Eq.trans (Eq.trans (r_go (act := oS (fAld 54 0)) rfl rfl) (a_ald rfl)) ?_
      refine Eq.trans (Eq.trans (r_go (act := oS (fGi g 57 12 14)) rfl rfl) (a_giV (zO_72 g) rfl)) ?_
      refine Eq.trans (Eq.trans (r_go (act := oCI 60 2 (zcv g 12) (X_X12_raw g)) rfl rfl) (a_cI rfl (zck (zO_72 g) rfl))) (zbI_cg (fun x3 M3 => ?_))
      refine Eq.trans (Eq.trans (r_go (act := oS (fIst 61 1)) rfl rfl) (a_ist rfl rfl)) ?_
      refine Eq.trans (Eq.trans (r_go (act := oS (fIld 62 1)) rfl rfl) (a_ild rfl)) ?_
      refine Eq.trans (Eq.trans (r_go (act := oS (fSt 63 (gC (.int (-1))))) rfl rfl) (a_C)) ?_
      refine Eq.trans (Eq.trans (r_go (act := oS (fCm 66 72 cEq)) rfl rfl) (a_cm)) (bcg ?_ ?_)
      · refine Eq.trans (Eq.trans (r_go (act := oS (fAld 67 0)) rfl rfl) (a_ald rfl)) ?_
        refine Eq.trans (Eq.trans (r_go (act := oS (fSt 68 (gC (.int 0)))) rfl rfl) (a_C)) ?_
        refine Eq.trans (Eq.trans (r_go (act := oS (fPi g 71 12 16)) rfl rfl) (a_pi (zO_72 g))) ?_
        exact Eq.trans (r_go (act := oVret) rfl rfl) (a_vret)
      · refine Eq.trans (Eq.trans (r_go (act := oS (fAld 73 0)) rfl rfl) (a_ald rfl)) ?_
        refine Eq.trans (Eq.trans (r_go (act := oS (fAld 74 0)) rfl rfl) (a_ald rfl)) ?_
        refine Eq.trans (Eq.trans (r_go (act := oS (fGi g 77 12 14)) rfl rfl) (a_gi (zO_72 g))) ?_
        refine Eq.trans (Eq.trans (r_go (act := oS (fSt 78 (gC (.int 1)))) rfl rfl) (a_C)) ?_
        refine Eq.trans (Eq.trans (r_go (act := oS (fSt 79 (g2 (fun x y => x + y)))) rfl rfl) (a_add)) ?_
        refine Eq.trans (Eq.trans (r_go (act := oS (fPi g 82 12 14)) rfl rfl) (a_pi (zO_72 g))) ?_
        refine Eq.trans (Eq.trans (r_go (act := oS (fAld 83 0)) rfl rfl) (a_ald rfl)) ?_
        refine Eq.trans (Eq.trans (r_go (act := oS (fIld 84 1)) rfl rfl) (a_ild rfl)) ?_
        refine Eq.trans (Eq.trans (r_go (act := oS (fPi g 87 12 17)) rfl rfl) (a_pi (zO_72 g))) ?_
        refine Eq.trans (Eq.trans (r_go (act := oS (fAld 88 0)) rfl rfl) (a_ald rfl)) ?_
        refine Eq.trans (Eq.trans (r_go (act := oS (fIld 89 1)) rfl rfl) (a_ild rfl)) ?_
        refine Eq.trans (Eq.trans (r_go (act := oCI 92 2 (zcv g 12) (X_X12_isLetter g)) rfl rfl) (a_cI rfl (zck (zO_72 g) rfl))) (zbI_cg (fun x4 M4 => ?_))
        refine Eq.trans (Eq.trans (r_go (act := oS (fIf 155 95 cEq0)) rfl rfl) (a_if)) (bcg ?_ ?_)
        · refine Eq.trans (Eq.trans (r_go (act := oS (fAld 156 0)) rfl rfl) (a_ald rfl)) ?_
          refine Eq.trans (Eq.trans (r_go (act := oS (fIld 157 1)) rfl rfl) (a_ild rfl)) ?_
          refine Eq.trans (Eq.trans (r_go (act := oCI 160 2 (zcv g 12) (X_X12_isDigit g)) rfl rfl) (a_cI rfl (zck (zO_72 g) rfl))) (zbI_cg (fun x5 M5 => ?_))
          refine Eq.trans (Eq.trans (r_go (act := oS (fIf 260 163 cEq0)) rfl rfl) (a_if)) (bcg ?_ ?_)
          · refine Eq.trans (Eq.trans (r_go (act := oS (fAld 261 0)) rfl rfl) (a_ald rfl)) ?_
            refine Eq.trans (Eq.trans (r_go (act := oS (fIld 262 1)) rfl rfl) (a_ild rfl)) ?_
            refine Eq.trans (Eq.trans (r_go (act := oCI 265 2 (zcv g 12) (X_X12_isMarkSign g)) rfl rfl) (a_cI rfl (zck (zO_72 g) rfl))) (zbI_cg (fun x6 M6 => ?_))
            refine Eq.trans (Eq.trans (r_go (act := oS (fIf 273 268 cEq0)) rfl rfl) (a_if)) (bcg ?_ ?_)
            · exact Eq.trans (r_go (act := oVret) rfl rfl) (a_vret)
            · refine Eq.trans (Eq.trans (r_go (act := oS (fAld 269 0)) rfl rfl) (a_ald rfl)) ?_
              refine Eq.trans (Eq.trans (r_go (act := oS (fSt 270 (gC (.int 4)))) rfl rfl) (a_C)) ?_
              refine Eq.trans (Eq.trans (r_go (act := oS (fPi g 273 12 16)) rfl rfl) (a_pi (zO_72 g))) ?_
              exact Eq.trans (r_go (act := oVret) rfl rfl) (a_vret)
          · refine Eq.trans (Eq.trans (r_go (act := oS (fAld 164 0)) rfl rfl) (a_ald rfl)) ?_
            refine Eq.trans (Eq.trans (r_go (act := oS (fIld 165 1)) rfl rfl) (a_ild rfl)) ?_
            refine Eq.trans (Eq.trans (r_go (act := oS (fSt 167 (gC (.int 48)))) rfl rfl) (a_C)) ?_
            refine Eq.trans (Eq.trans (r_go (act := oS (fSt 168 (g2 (fun x y => x - y)))) rfl rfl) (a_sub)) ?_
            refine Eq.trans (Eq.trans (r_go (act := oS (fPi g 171 12 17)) rfl rfl) (a_pi (zO_72 g))) ?_
            exact r_cut rfl rfl
        · exact r_cut rfl rfl
theorem x_X12_reads_0 (g : zg) (M : zM) : X_X12_reads g [.ref 72] M = (zbI (X_X12_raw g [.ref 72, .int (M.1 72 14)] M) (fun x1 M1 => (bif cEq x1 32 then zX (t_X12_reads g) 0 [some (.ref 72), none] [] ((zu M1.1 72 14 ((M1.1 72 14) + 1)), M1.2) else (zbI (X_X12_raw g [.ref 72, .int (M1.1 72 14)] M1) (fun x2 M2 => (bif cEq x2 10 then zX (t_X12_reads g) 0 [some (.ref 72), none] [] ((zu M2.1 72 14 ((M2.1 72 14) + 1)), M2.2) else (zbI (X_X12_raw g [.ref 72, .int (M2.1 72 14)] ((zu (zu M2.1 72 15 (M2.1 72 14)) 72 16 1), M2.2)) (fun x3 M3 => (bif cEq x3 (-1) then some (none, ((zu M3.1 72 16 0), M3.2)) else (zbI (X_X12_isLetter g [.ref 72, .int x3] ((zu (zu M3.1 72 14 ((M3.1 72 14) + 1)) 72 17 x3), M3.2)) (fun x4 M4 => (bif cEq0 x4 then (zbI (X_X12_isDigit g [.ref 72, .int x3] M4) (fun x5 M5 => (bif cEq0 x5 then (zbI (X_X12_isMarkSign g [.ref 72, .int x3] M5) (fun x6 M6 => (bif cEq0 x6 then some (none, M6) else some (none, ((zu M6.1 72 16 4), M6.2))))) else zX (t_X12_reads g) 171 [some (.ref 72), none] [] ((zu M5.1 72 17 (x3 - 48)), M5.2)))) else zX (t_X12_reads g) 95 [some (.ref 72), none] [] M4)))))))))))) := e_X12_reads_0 g M
set_option maxRecDepth 20000 in
theorem e_X12_reads_95 (g : zg) (M : zM) : zX (t_X12_reads g) 95 [some (.ref 72), none] [] M = (zbI (X_X12_raw g [.ref 72, .int (M.1 72 14)] M) (fun x1 M1 => (zbI (X_X12_isLetter g [.ref 72, .int x1] M1) (fun x2 M2 => (bif cEq0 x2 then (zbI (X_X12_wordAt g [.ref 72, .int (M2.1 72 15), .int (M2.1 72 14)] M2) (fun x3 M3 => (bif cEq x3 (-1) then some (none, ((zu M3.1 72 17 x3), M3.2)) else some (none, ((zu (zu M3.1 72 17 x3) 72 16 2), M3.2))))) else zX (t_X12_reads g) 95 [some (.ref 72), none] [] ((zu M2.1 72 14 ((M2.1 72 14) + 1)), M2.2)))))) := by
  refine Eq.trans (zX_rgN (tl_X12_reads g) (hc_X12_reads g) 25 _ _ _ _) ?_
  refine Eq.trans (Eq.trans (Eq.trans (r_0 (act := oF [1] (oS (fAld 96 0))) rfl) (a_F rfl)) (a_ald rfl)) ?_
  refine Eq.trans (Eq.trans (r_go (act := oS (fAld 97 0)) rfl rfl) (a_ald rfl)) ?_
  refine Eq.trans (Eq.trans (r_go (act := oS (fAld 98 0)) rfl rfl) (a_ald rfl)) ?_
  refine Eq.trans (Eq.trans (r_go (act := oS (fGi g 101 12 14)) rfl rfl) (a_gi (zO_72 g))) ?_
  refine Eq.trans (Eq.trans (r_go (act := oCI 104 2 (zcv g 12) (X_X12_raw g)) rfl rfl) (a_cI rfl (zck (zO_72 g) rfl))) (zbI_cg (fun x1 M1 => ?_))
  refine Eq.trans (Eq.trans (r_go (act := oCI 107 2 (zcv g 12) (X_X12_isLetter g)) rfl rfl) (a_cI rfl (zck (zO_72 g) rfl))) (zbI_cg (fun x2 M2 => ?_))
  refine Eq.trans (Eq.trans (r_go (act := oS (fIf 123 110 cEq0)) rfl rfl) (a_if)) (bcg ?_ ?_)
  · refine Eq.trans (Eq.trans (r_go (act := oS (fAld 124 0)) rfl rfl) (a_ald rfl)) ?_
    refine Eq.trans (Eq.trans (r_go (act := oS (fAld 125 0)) rfl rfl) (a_ald rfl)) ?_
    refine Eq.trans (Eq.trans (r_go (act := oS (fAld 126 0)) rfl rfl) (a_ald rfl)) ?_
    refine Eq.trans (Eq.trans (r_go (act := oS (fGi g 129 12 15)) rfl rfl) (a_gi (zO_72 g))) ?_
    refine Eq.trans (Eq.trans (r_go (act := oS (fAld 130 0)) rfl rfl) (a_ald rfl)) ?_
    refine Eq.trans (Eq.trans (r_go (act := oS (fGi g 133 12 14)) rfl rfl) (a_gi (zO_72 g))) ?_
    refine Eq.trans (Eq.trans (r_go (act := oCI 136 3 (zcv g 12) (X_X12_wordAt g)) rfl rfl) (a_cI rfl (zck (zO_72 g) rfl))) (zbI_cg (fun x3 M3 => ?_))
    refine Eq.trans (Eq.trans (r_go (act := oS (fPi g 139 12 17)) rfl rfl) (a_pi (zO_72 g))) ?_
    refine Eq.trans (Eq.trans (r_go (act := oS (fAld 140 0)) rfl rfl) (a_ald rfl)) ?_
    refine Eq.trans (Eq.trans (r_go (act := oS (fGi g 143 12 17)) rfl rfl) (a_giV (zO_72 g) rfl)) ?_
    refine Eq.trans (Eq.trans (r_go (act := oS (fSt 144 (gC (.int (-1))))) rfl rfl) (a_C)) ?_
    refine Eq.trans (Eq.trans (r_go (act := oS (fCm 273 147 cEq)) rfl rfl) (a_cm)) (bcg ?_ ?_)
    · exact Eq.trans (r_go (act := oVret) rfl rfl) (a_vret)
    · refine Eq.trans (Eq.trans (r_go (act := oS (fAld 148 0)) rfl rfl) (a_ald rfl)) ?_
      refine Eq.trans (Eq.trans (r_go (act := oS (fSt 149 (gC (.int 2)))) rfl rfl) (a_C)) ?_
      refine Eq.trans (Eq.trans (r_go (act := oS (fPi g 152 12 16)) rfl rfl) (a_pi (zO_72 g))) ?_
      refine Eq.trans (Eq.trans (r_go (act := oS (fGo 273)) rfl rfl) (a_goto)) ?_
      exact Eq.trans (r_go (act := oVret) rfl rfl) (a_vret)
  · refine Eq.trans (Eq.trans (r_go (act := oS (fAld 111 0)) rfl rfl) (a_ald rfl)) ?_
    refine Eq.trans (Eq.trans (r_go (act := oS (fAld 112 0)) rfl rfl) (a_ald rfl)) ?_
    refine Eq.trans (Eq.trans (r_go (act := oS (fGi g 115 12 14)) rfl rfl) (a_gi (zO_72 g))) ?_
    refine Eq.trans (Eq.trans (r_go (act := oS (fSt 116 (gC (.int 1)))) rfl rfl) (a_C)) ?_
    refine Eq.trans (Eq.trans (r_go (act := oS (fSt 117 (g2 (fun x y => x + y)))) rfl rfl) (a_add)) ?_
    refine Eq.trans (Eq.trans (r_go (act := oS (fPi g 120 12 14)) rfl rfl) (a_pi (zO_72 g))) ?_
    refine Eq.trans (Eq.trans (r_go (act := oS (fGo 95)) rfl rfl) (a_goto)) ?_
    exact r_cut rfl rfl
set_option maxRecDepth 20000 in
theorem e_X12_reads_171 (g : zg) (M : zM) : zX (t_X12_reads g) 171 [some (.ref 72), none] [] M = (zbI (X_X12_raw g [.ref 72, .int (M.1 72 14)] M) (fun x1 M1 => (zbI (X_X12_isDigit g [.ref 72, .int x1] M1) (fun x2 M2 => (bif cEq0 x2 then (bif cLt ((M2.1 72 14) - (M2.1 72 15)) 5 then some (none, ((zu M2.1 72 16 3), M2.2)) else some (none, M2)) else (bif cLt (M2.1 72 17) 10000 then (zbI (X_X12_raw g [.ref 72, .int (M2.1 72 14)] M2) (fun x3 M3 => zX (t_X12_reads g) 171 [some (.ref 72), none] [] ((zu (zu M3.1 72 17 (((10 * (M2.1 72 17)) + x3) - 48)) 72 14 ((M3.1 72 14) + 1)), M3.2))) else zX (t_X12_reads g) 171 [some (.ref 72), none] [] ((zu (zu M2.1 72 17 (M2.1 72 17)) 72 14 ((M2.1 72 14) + 1)), M2.2))))))) := by
  refine Eq.trans (zX_rgN (tl_X12_reads g) (hc_X12_reads g) 34 _ _ _ _) ?_
  refine Eq.trans (Eq.trans (Eq.trans (r_0 (act := oF [1] (oS (fAld 172 0))) rfl) (a_F rfl)) (a_ald rfl)) ?_
  refine Eq.trans (Eq.trans (r_go (act := oS (fAld 173 0)) rfl rfl) (a_ald rfl)) ?_
  refine Eq.trans (Eq.trans (r_go (act := oS (fAld 174 0)) rfl rfl) (a_ald rfl)) ?_
  refine Eq.trans (Eq.trans (r_go (act := oS (fGi g 177 12 14)) rfl rfl) (a_gi (zO_72 g))) ?_
  refine Eq.trans (Eq.trans (r_go (act := oCI 180 2 (zcv g 12) (X_X12_raw g)) rfl rfl) (a_cI rfl (zck (zO_72 g) rfl))) (zbI_cg (fun x1 M1 => ?_))
  refine Eq.trans (Eq.trans (r_go (act := oCI 183 2 (zcv g 12) (X_X12_isDigit g)) rfl rfl) (a_cI rfl (zck (zO_72 g) rfl))) (zbI_cg (fun x2 M2 => ?_))
  refine Eq.trans (Eq.trans (r_go (act := oS (fIf 239 186 cEq0)) rfl rfl) (a_if)) (bcg ?_ ?_)
  · refine Eq.trans (Eq.trans (r_go (act := oS (fAld 240 0)) rfl rfl) (a_ald rfl)) ?_
    refine Eq.trans (Eq.trans (r_go (act := oS (fGi g 243 12 14)) rfl rfl) (a_gi (zO_72 g))) ?_
    refine Eq.trans (Eq.trans (r_go (act := oS (fAld 244 0)) rfl rfl) (a_ald rfl)) ?_
    refine Eq.trans (Eq.trans (r_go (act := oS (fGi g 247 12 15)) rfl rfl) (a_gi (zO_72 g))) ?_
    refine Eq.trans (Eq.trans (r_go (act := oS (fSt 248 (g2 (fun x y => x - y)))) rfl rfl) (a_sub)) ?_
    refine Eq.trans (Eq.trans (r_go (act := oS (fSt 249 (gC (.int 5)))) rfl rfl) (a_C)) ?_
    refine Eq.trans (Eq.trans (r_go (act := oS (fCm 252 273 cLt)) rfl rfl) (a_cm)) (bcg ?_ ?_)
    · refine Eq.trans (Eq.trans (r_go (act := oS (fAld 253 0)) rfl rfl) (a_ald rfl)) ?_
      refine Eq.trans (Eq.trans (r_go (act := oS (fSt 254 (gC (.int 3)))) rfl rfl) (a_C)) ?_
      refine Eq.trans (Eq.trans (r_go (act := oS (fPi g 257 12 16)) rfl rfl) (a_pi (zO_72 g))) ?_
      refine Eq.trans (Eq.trans (r_go (act := oS (fGo 273)) rfl rfl) (a_goto)) ?_
      exact Eq.trans (r_go (act := oVret) rfl rfl) (a_vret)
    · exact Eq.trans (r_go (act := oVret) rfl rfl) (a_vret)
  · refine Eq.trans (Eq.trans (r_go (act := oS (fAld 187 0)) rfl rfl) (a_ald rfl)) ?_
    refine Eq.trans (Eq.trans (r_go (act := oS (fAld 188 0)) rfl rfl) (a_ald rfl)) ?_
    refine Eq.trans (Eq.trans (r_go (act := oS (fGi g 191 12 17)) rfl rfl) (a_gi (zO_72 g))) ?_
    refine Eq.trans (Eq.trans (r_go (act := oS (fSt 194 (gC (.int 10000)))) rfl rfl) (a_C)) ?_
    refine Eq.trans (Eq.trans (r_go (act := oS (fCm 197 219 cLt)) rfl rfl) (a_cm)) (bcg ?_ ?_)
    · refine Eq.trans (Eq.trans (r_go (act := oS (fSt 199 (gC (.int 10)))) rfl rfl) (a_C)) ?_
      refine Eq.trans (Eq.trans (r_go (act := oS (fAld 200 0)) rfl rfl) (a_ald rfl)) ?_
      refine Eq.trans (Eq.trans (r_go (act := oS (fGi g 203 12 17)) rfl rfl) (a_gi (zO_72 g))) ?_
      refine Eq.trans (Eq.trans (r_go (act := oS (fSt 204 (g2 (fun x y => x * y)))) rfl rfl) (a_mul)) ?_
      refine Eq.trans (Eq.trans (r_go (act := oS (fAld 205 0)) rfl rfl) (a_ald rfl)) ?_
      refine Eq.trans (Eq.trans (r_go (act := oS (fAld 206 0)) rfl rfl) (a_ald rfl)) ?_
      refine Eq.trans (Eq.trans (r_go (act := oS (fGi g 209 12 14)) rfl rfl) (a_gi (zO_72 g))) ?_
      refine Eq.trans (Eq.trans (r_go (act := oCI 212 2 (zcv g 12) (X_X12_raw g)) rfl rfl) (a_cI rfl (zck (zO_72 g) rfl))) (zbI_cg (fun x3 M3 => ?_))
      refine Eq.trans (Eq.trans (r_go (act := oS (fSt 213 (g2 (fun x y => x + y)))) rfl rfl) (a_add)) ?_
      refine Eq.trans (Eq.trans (r_go (act := oS (fSt 215 (gC (.int 48)))) rfl rfl) (a_C)) ?_
      refine Eq.trans (Eq.trans (r_go (act := oS (fSt 216 (g2 (fun x y => x - y)))) rfl rfl) (a_sub)) ?_
      refine Eq.trans (Eq.trans (r_go (act := oS (fGo 223)) rfl rfl) (a_goto)) ?_
      refine Eq.trans (Eq.trans (r_go (act := oS (fPi g 226 12 17)) rfl rfl) (a_pi (zO_72 g))) ?_
      refine Eq.trans (Eq.trans (r_go (act := oS (fAld 227 0)) rfl rfl) (a_ald rfl)) ?_
      refine Eq.trans (Eq.trans (r_go (act := oS (fAld 228 0)) rfl rfl) (a_ald rfl)) ?_
      refine Eq.trans (Eq.trans (r_go (act := oS (fGi g 231 12 14)) rfl rfl) (a_giV (zO_72 g) rfl)) ?_
      refine Eq.trans (Eq.trans (r_go (act := oS (fSt 232 (gC (.int 1)))) rfl rfl) (a_C)) ?_
      refine Eq.trans (Eq.trans (r_go (act := oS (fSt 233 (g2 (fun x y => x + y)))) rfl rfl) (a_add)) ?_
      refine Eq.trans (Eq.trans (r_go (act := oS (fPi g 236 12 14)) rfl rfl) (a_pi (zO_72 g))) ?_
      refine Eq.trans (Eq.trans (r_go (act := oS (fGo 171)) rfl rfl) (a_goto)) ?_
      exact r_cut rfl rfl
    · refine Eq.trans (Eq.trans (r_go (act := oS (fAld 220 0)) rfl rfl) (a_ald rfl)) ?_
      refine Eq.trans (Eq.trans (r_go (act := oS (fGi g 223 12 17)) rfl rfl) (a_gi (zO_72 g))) ?_
      refine Eq.trans (Eq.trans (r_go (act := oS (fPi g 226 12 17)) rfl rfl) (a_pi (zO_72 g))) ?_
      refine Eq.trans (Eq.trans (r_go (act := oS (fAld 227 0)) rfl rfl) (a_ald rfl)) ?_
      refine Eq.trans (Eq.trans (r_go (act := oS (fAld 228 0)) rfl rfl) (a_ald rfl)) ?_
      refine Eq.trans (Eq.trans (r_go (act := oS (fGi g 231 12 14)) rfl rfl) (a_giV (zO_72 g) rfl)) ?_
      refine Eq.trans (Eq.trans (r_go (act := oS (fSt 232 (gC (.int 1)))) rfl rfl) (a_C)) ?_
      refine Eq.trans (Eq.trans (r_go (act := oS (fSt 233 (g2 (fun x y => x + y)))) rfl rfl) (a_add)) ?_
      refine Eq.trans (Eq.trans (r_go (act := oS (fPi g 236 12 14)) rfl rfl) (a_pi (zO_72 g))) ?_
      refine Eq.trans (Eq.trans (r_go (act := oS (fGo 171)) rfl rfl) (a_goto)) ?_
      exact r_cut rfl rfl
set_option maxRecDepth 20000 in
theorem e_X12_isWord_0 (g : zg) (a1 : Int32) (M : zM) : zX (t_X12_isWord g) 0 [some (.ref 72), some (.int a1)] [] M = (bif cEq (M.1 72 16) 2 then (bif cEq (M.1 72 17) a1 then some (some (.int 1), M) else some (some (.int 0), M)) else some (some (.int 0), M)) := by
  refine Eq.trans (zX_rgN (tl_X12_isWord g) (hc_X12_isWord g) 12 _ _ _ _) ?_
  refine Eq.trans (Eq.trans (r_0 (act := oS (fAld 1 0)) rfl) (a_ald rfl)) ?_
  refine Eq.trans (Eq.trans (r_go (act := oS (fGi g 4 12 16)) rfl rfl) (a_gi (zO_72 g))) ?_
  refine Eq.trans (Eq.trans (r_go (act := oS (fSt 5 (gC (.int 2)))) rfl rfl) (a_C)) ?_
  refine Eq.trans (Eq.trans (r_go (act := oS (fCm 8 20 cEq)) rfl rfl) (a_cm)) (bcg ?_ ?_)
  · refine Eq.trans (Eq.trans (r_go (act := oS (fAld 9 0)) rfl rfl) (a_ald rfl)) ?_
    refine Eq.trans (Eq.trans (r_go (act := oS (fGi g 12 12 17)) rfl rfl) (a_gi (zO_72 g))) ?_
    refine Eq.trans (Eq.trans (r_go (act := oS (fIld 13 1)) rfl rfl) (a_ild rfl)) ?_
    refine Eq.trans (Eq.trans (r_go (act := oS (fCm 16 20 cEq)) rfl rfl) (a_cm)) (bcg ?_ ?_)
    · refine Eq.trans (Eq.trans (r_go (act := oS (fSt 17 (gC (.int 1)))) rfl rfl) (a_C)) ?_
      refine Eq.trans (Eq.trans (r_go (act := oS (fGo 21)) rfl rfl) (a_goto)) ?_
      exact Eq.trans (Eq.trans (r_go (act := oZret) rfl rfl) a_zret) (bcT (by decide +kernel))
    · refine Eq.trans (Eq.trans (r_go (act := oS (fSt 21 (gC (.int 0)))) rfl rfl) (a_C)) ?_
      exact Eq.trans (Eq.trans (r_go (act := oZret) rfl rfl) a_zret) (bcT (by decide +kernel))
  · refine Eq.trans (Eq.trans (r_go (act := oS (fSt 21 (gC (.int 0)))) rfl rfl) (a_C)) ?_
    exact Eq.trans (Eq.trans (r_go (act := oZret) rfl rfl) a_zret) (bcT (by decide +kernel))
theorem x_X12_isWord_0 (g : zg) (a1 : Int32) (M : zM) : X_X12_isWord g [.ref 72, .int a1] M = (bif cEq (M.1 72 16) 2 then (bif cEq (M.1 72 17) a1 then some (some (.int 1), M) else some (some (.int 0), M)) else some (some (.int 0), M)) := e_X12_isWord_0 g a1 M
set_option maxRecDepth 20000 in
theorem e_X12_errs_0 (g : zg) (a1 : Int32) (M : zM) : zX (t_X12_errs g) 0 [some (.ref 72), some (.int a1)] [] M = some (some (.int (-1)), ((zu (zu M.1 72 31 a1) 72 32 (M.1 72 15)), M.2)) := by
  refine Eq.trans (zX_rgN (tl_X12_errs g) (hc_X12_errs g) 10 _ _ _ _) ?_
  refine Eq.trans (Eq.trans (r_0 (act := oS (fAld 1 0)) rfl) (a_ald rfl)) ?_
  refine Eq.trans (Eq.trans (r_go (act := oS (fIld 2 1)) rfl rfl) (a_ild rfl)) ?_
  refine Eq.trans (Eq.trans (r_go (act := oS (fPi g 5 12 31)) rfl rfl) (a_pi (zO_72 g))) ?_
  refine Eq.trans (Eq.trans (r_go (act := oS (fAld 6 0)) rfl rfl) (a_ald rfl)) ?_
  refine Eq.trans (Eq.trans (r_go (act := oS (fAld 7 0)) rfl rfl) (a_ald rfl)) ?_
  refine Eq.trans (Eq.trans (r_go (act := oS (fGi g 10 12 15)) rfl rfl) (a_giV (zO_72 g) rfl)) ?_
  refine Eq.trans (Eq.trans (r_go (act := oS (fPi g 13 12 32)) rfl rfl) (a_pi (zO_72 g))) ?_
  refine Eq.trans (Eq.trans (r_go (act := oS (fSt 14 (gC (.int (-1))))) rfl rfl) (a_C)) ?_
  exact Eq.trans (r_go (act := oIret) rfl rfl) (a_iret)
theorem x_X12_errs_0 (g : zg) (a1 : Int32) (M : zM) : X_X12_errs g [.ref 72, .int a1] M = some (some (.int (-1)), ((zu (zu M.1 72 31 a1) 72 32 (M.1 72 15)), M.2)) := e_X12_errs_0 g a1 M
set_option maxRecDepth 20000 in
theorem e_X12_readNumber_0 (g : zg) (a1 : Int32) (a2 : Int32) (M : zM) : zX (t_X12_readNumber g) 0 [some (.ref 72), some (.int a1), some (.int a2), none] [] M = (bif cEq (M.1 72 16) 3 then (zbI (X_X12_isIn g [.ref 72, .int (M.1 72 17), .int a1, .int a2] M) (fun x1 M1 => (bif cEq0 x1 then (zbI (X_X12_errs g [.ref 72, .int 2] M1) (fun x2 M2 => some (some (.int x2), M2))) else (zbV (X_X12_reads g [.ref 72] M1) (fun M3 => some (some (.int (M1.1 72 17)), M3)))))) else (zbI (X_X12_errs g [.ref 72, .int 1] M) (fun x4 M4 => some (some (.int x4), M4)))) := by
  refine Eq.trans (zX_rgN (tl_X12_readNumber g) (hc_X12_readNumber g) 19 _ _ _ _) ?_
  refine Eq.trans (Eq.trans (r_0 (act := oS (fAld 1 0)) rfl) (a_ald rfl)) ?_
  refine Eq.trans (Eq.trans (r_go (act := oS (fGi g 4 12 16)) rfl rfl) (a_gi (zO_72 g))) ?_
  refine Eq.trans (Eq.trans (r_go (act := oS (fSt 5 (gC (.int 3)))) rfl rfl) (a_C)) ?_
  refine Eq.trans (Eq.trans (r_go (act := oS (fCm 14 8 cEq)) rfl rfl) (a_cm)) (bcg ?_ ?_)
  · refine Eq.trans (Eq.trans (r_go (act := oS (fAld 15 0)) rfl rfl) (a_ald rfl)) ?_
    refine Eq.trans (Eq.trans (r_go (act := oS (fAld 16 0)) rfl rfl) (a_ald rfl)) ?_
    refine Eq.trans (Eq.trans (r_go (act := oS (fGi g 19 12 17)) rfl rfl) (a_gi (zO_72 g))) ?_
    refine Eq.trans (Eq.trans (r_go (act := oS (fIld 20 1)) rfl rfl) (a_ild rfl)) ?_
    refine Eq.trans (Eq.trans (r_go (act := oS (fIld 21 2)) rfl rfl) (a_ild rfl)) ?_
    refine Eq.trans (Eq.trans (r_go (act := oCI 24 4 (zcv g 12) (X_X12_isIn g)) rfl rfl) (a_cI rfl (zck (zO_72 g) rfl))) (zbI_cg (fun x1 M1 => ?_))
    refine Eq.trans (Eq.trans (r_go (act := oS (fIf 27 33 cEq0)) rfl rfl) (a_if)) (bcg ?_ ?_)
    · refine Eq.trans (Eq.trans (r_go (act := oS (fAld 28 0)) rfl rfl) (a_ald rfl)) ?_
      refine Eq.trans (Eq.trans (r_go (act := oS (fSt 29 (gC (.int 2)))) rfl rfl) (a_C)) ?_
      refine Eq.trans (Eq.trans (r_go (act := oCI 32 2 (zcv g 12) (X_X12_errs g)) rfl rfl) (a_cI rfl (zck (zO_72 g) rfl))) (zbI_cg (fun x2 M2 => ?_))
      exact Eq.trans (r_go (act := oIret) rfl rfl) (a_iret)
    · refine Eq.trans (Eq.trans (r_go (act := oS (fAld 34 0)) rfl rfl) (a_ald rfl)) ?_
      refine Eq.trans (Eq.trans (r_go (act := oS (fGi g 37 12 17)) rfl rfl) (a_gi (zO_72 g))) ?_
      refine Eq.trans (Eq.trans (r_go (act := oS (fIst 38 3)) rfl rfl) (a_ist rfl rfl)) ?_
      refine Eq.trans (Eq.trans (r_go (act := oS (fAld 39 0)) rfl rfl) (a_ald rfl)) ?_
      refine Eq.trans (Eq.trans (r_go (act := oCV 42 1 (zcv g 12) (X_X12_reads g)) rfl rfl) (a_cV rfl (zck (zO_72 g) rfl))) (zbV_cg (fun M3 => ?_))
      refine Eq.trans (Eq.trans (r_go (act := oS (fIld 43 3)) rfl rfl) (a_ild rfl)) ?_
      exact Eq.trans (r_go (act := oIret) rfl rfl) (a_iret)
  · refine Eq.trans (Eq.trans (r_go (act := oS (fAld 9 0)) rfl rfl) (a_ald rfl)) ?_
    refine Eq.trans (Eq.trans (r_go (act := oS (fSt 10 (gC (.int 1)))) rfl rfl) (a_C)) ?_
    refine Eq.trans (Eq.trans (r_go (act := oCI 13 2 (zcv g 12) (X_X12_errs g)) rfl rfl) (a_cI rfl (zck (zO_72 g) rfl))) (zbI_cg (fun x4 M4 => ?_))
    exact Eq.trans (r_go (act := oIret) rfl rfl) (a_iret)
theorem x_X12_readNumber_0 (g : zg) (a1 : Int32) (a2 : Int32) (M : zM) : X_X12_readNumber g [.ref 72, .int a1, .int a2] M = (bif cEq (M.1 72 16) 3 then (zbI (X_X12_isIn g [.ref 72, .int (M.1 72 17), .int a1, .int a2] M) (fun x1 M1 => (bif cEq0 x1 then (zbI (X_X12_errs g [.ref 72, .int 2] M1) (fun x2 M2 => some (some (.int x2), M2))) else (zbV (X_X12_reads g [.ref 72] M1) (fun M3 => some (some (.int (M1.1 72 17)), M3)))))) else (zbI (X_X12_errs g [.ref 72, .int 1] M) (fun x4 M4 => some (some (.int x4), M4)))) := e_X12_readNumber_0 g a1 a2 M
set_option maxRecDepth 20000 in
theorem e_X12_readTold_0 (g : zg) (a1 : Int32) (a2 : Int32) (a3 : Int32) (M : zM) : zX (t_X12_readTold g) 0 [some (.ref 72), some (.int a1), some (.int a2), some (.int a3)] [] M = (zbI (X_X12_isWord g [.ref 72, .int a1] M) (fun x1 M1 => (bif cEq0 x1 then (zbI (X_X12_errs g [.ref 72, .int 1] M1) (fun x2 M2 => some (some (.int x2), M2))) else (zbV (X_X12_reads g [.ref 72] M1) (fun M3 => (zbI (X_X12_readNumber g [.ref 72, .int a2, .int a3] M3) (fun x4 M4 => some (some (.int x4), M4)))))))) := by
  refine Eq.trans (zX_rgN (tl_X12_readTold g) (hc_X12_readTold g) 12 _ _ _ _) ?_
  refine Eq.trans (Eq.trans (r_0 (act := oS (fAld 1 0)) rfl) (a_ald rfl)) ?_
  refine Eq.trans (Eq.trans (r_go (act := oS (fIld 2 1)) rfl rfl) (a_ild rfl)) ?_
  refine Eq.trans (Eq.trans (r_go (act := oCI 5 2 (zcv g 12) (X_X12_isWord g)) rfl rfl) (a_cI rfl (zck (zO_72 g) rfl))) (zbI_cg (fun x1 M1 => ?_))
  refine Eq.trans (Eq.trans (r_go (act := oS (fIf 8 14 cEq0)) rfl rfl) (a_if)) (bcg ?_ ?_)
  · refine Eq.trans (Eq.trans (r_go (act := oS (fAld 9 0)) rfl rfl) (a_ald rfl)) ?_
    refine Eq.trans (Eq.trans (r_go (act := oS (fSt 10 (gC (.int 1)))) rfl rfl) (a_C)) ?_
    refine Eq.trans (Eq.trans (r_go (act := oCI 13 2 (zcv g 12) (X_X12_errs g)) rfl rfl) (a_cI rfl (zck (zO_72 g) rfl))) (zbI_cg (fun x2 M2 => ?_))
    exact Eq.trans (r_go (act := oIret) rfl rfl) (a_iret)
  · refine Eq.trans (Eq.trans (r_go (act := oS (fAld 15 0)) rfl rfl) (a_ald rfl)) ?_
    refine Eq.trans (Eq.trans (r_go (act := oCV 18 1 (zcv g 12) (X_X12_reads g)) rfl rfl) (a_cV rfl (zck (zO_72 g) rfl))) (zbV_cg (fun M3 => ?_))
    refine Eq.trans (Eq.trans (r_go (act := oS (fAld 19 0)) rfl rfl) (a_ald rfl)) ?_
    refine Eq.trans (Eq.trans (r_go (act := oS (fIld 20 2)) rfl rfl) (a_ild rfl)) ?_
    refine Eq.trans (Eq.trans (r_go (act := oS (fIld 21 3)) rfl rfl) (a_ild rfl)) ?_
    refine Eq.trans (Eq.trans (r_go (act := oCI 24 3 (zcv g 12) (X_X12_readNumber g)) rfl rfl) (a_cI rfl (zck (zO_72 g) rfl))) (zbI_cg (fun x4 M4 => ?_))
    exact Eq.trans (r_go (act := oIret) rfl rfl) (a_iret)
theorem x_X12_readTold_0 (g : zg) (a1 : Int32) (a2 : Int32) (a3 : Int32) (M : zM) : X_X12_readTold g [.ref 72, .int a1, .int a2, .int a3] M = (zbI (X_X12_isWord g [.ref 72, .int a1] M) (fun x1 M1 => (bif cEq0 x1 then (zbI (X_X12_errs g [.ref 72, .int 1] M1) (fun x2 M2 => some (some (.int x2), M2))) else (zbV (X_X12_reads g [.ref 72] M1) (fun M3 => (zbI (X_X12_readNumber g [.ref 72, .int a2, .int a3] M3) (fun x4 M4 => some (some (.int x4), M4)))))))) := e_X12_readTold_0 g a1 a2 a3 M
set_option maxRecDepth 20000 in
theorem e_X12_isSign_0 (g : zg) (a1 : Int32) (M : zM) : zX (t_X12_isSign g) 0 [some (.ref 72), some (.int a1)] [] M = (bif cEq (M.1 72 16) 4 then (bif cEq (M.1 72 17) a1 then some (some (.int 1), M) else some (some (.int 0), M)) else some (some (.int 0), M)) := by
  refine Eq.trans (zX_rgN (tl_X12_isSign g) (hc_X12_isSign g) 12 _ _ _ _) ?_
  refine Eq.trans (Eq.trans (r_0 (act := oS (fAld 1 0)) rfl) (a_ald rfl)) ?_
  refine Eq.trans (Eq.trans (r_go (act := oS (fGi g 4 12 16)) rfl rfl) (a_gi (zO_72 g))) ?_
  refine Eq.trans (Eq.trans (r_go (act := oS (fSt 5 (gC (.int 4)))) rfl rfl) (a_C)) ?_
  refine Eq.trans (Eq.trans (r_go (act := oS (fCm 8 20 cEq)) rfl rfl) (a_cm)) (bcg ?_ ?_)
  · refine Eq.trans (Eq.trans (r_go (act := oS (fAld 9 0)) rfl rfl) (a_ald rfl)) ?_
    refine Eq.trans (Eq.trans (r_go (act := oS (fGi g 12 12 17)) rfl rfl) (a_gi (zO_72 g))) ?_
    refine Eq.trans (Eq.trans (r_go (act := oS (fIld 13 1)) rfl rfl) (a_ild rfl)) ?_
    refine Eq.trans (Eq.trans (r_go (act := oS (fCm 16 20 cEq)) rfl rfl) (a_cm)) (bcg ?_ ?_)
    · refine Eq.trans (Eq.trans (r_go (act := oS (fSt 17 (gC (.int 1)))) rfl rfl) (a_C)) ?_
      refine Eq.trans (Eq.trans (r_go (act := oS (fGo 21)) rfl rfl) (a_goto)) ?_
      exact Eq.trans (Eq.trans (r_go (act := oZret) rfl rfl) a_zret) (bcT (by decide +kernel))
    · refine Eq.trans (Eq.trans (r_go (act := oS (fSt 21 (gC (.int 0)))) rfl rfl) (a_C)) ?_
      exact Eq.trans (Eq.trans (r_go (act := oZret) rfl rfl) a_zret) (bcT (by decide +kernel))
  · refine Eq.trans (Eq.trans (r_go (act := oS (fSt 21 (gC (.int 0)))) rfl rfl) (a_C)) ?_
    exact Eq.trans (Eq.trans (r_go (act := oZret) rfl rfl) a_zret) (bcT (by decide +kernel))
theorem x_X12_isSign_0 (g : zg) (a1 : Int32) (M : zM) : X_X12_isSign g [.ref 72, .int a1] M = (bif cEq (M.1 72 16) 4 then (bif cEq (M.1 72 17) a1 then some (some (.int 1), M) else some (some (.int 0), M)) else some (some (.int 0), M)) := e_X12_isSign_0 g a1 M
set_option maxRecDepth 20000 in
theorem e_X12_readMark_0 (g : zg) (a1 : Int32) (M : zM) : zX (t_X12_readMark g) 0 [some (.ref 72), some (.int a1)] [] M = (zbI (X_X12_isSign g [.ref 72, .int a1] M) (fun x1 M1 => (bif cEq0 x1 then (zbI (X_X12_errs g [.ref 72, .int 1] M1) (fun x2 M2 => some (some (.int x2), M2))) else (zbV (X_X12_reads g [.ref 72] M1) (fun M3 => some (some (.int 0), M3)))))) := by
  refine Eq.trans (zX_rgN (tl_X12_readMark g) (hc_X12_readMark g) 9 _ _ _ _) ?_
  refine Eq.trans (Eq.trans (r_0 (act := oS (fAld 1 0)) rfl) (a_ald rfl)) ?_
  refine Eq.trans (Eq.trans (r_go (act := oS (fIld 2 1)) rfl rfl) (a_ild rfl)) ?_
  refine Eq.trans (Eq.trans (r_go (act := oCI 5 2 (zcv g 12) (X_X12_isSign g)) rfl rfl) (a_cI rfl (zck (zO_72 g) rfl))) (zbI_cg (fun x1 M1 => ?_))
  refine Eq.trans (Eq.trans (r_go (act := oS (fIf 8 14 cEq0)) rfl rfl) (a_if)) (bcg ?_ ?_)
  · refine Eq.trans (Eq.trans (r_go (act := oS (fAld 9 0)) rfl rfl) (a_ald rfl)) ?_
    refine Eq.trans (Eq.trans (r_go (act := oS (fSt 10 (gC (.int 1)))) rfl rfl) (a_C)) ?_
    refine Eq.trans (Eq.trans (r_go (act := oCI 13 2 (zcv g 12) (X_X12_errs g)) rfl rfl) (a_cI rfl (zck (zO_72 g) rfl))) (zbI_cg (fun x2 M2 => ?_))
    exact Eq.trans (r_go (act := oIret) rfl rfl) (a_iret)
  · refine Eq.trans (Eq.trans (r_go (act := oS (fAld 15 0)) rfl rfl) (a_ald rfl)) ?_
    refine Eq.trans (Eq.trans (r_go (act := oCV 18 1 (zcv g 12) (X_X12_reads g)) rfl rfl) (a_cV rfl (zck (zO_72 g) rfl))) (zbV_cg (fun M3 => ?_))
    refine Eq.trans (Eq.trans (r_go (act := oS (fSt 19 (gC (.int 0)))) rfl rfl) (a_C)) ?_
    exact Eq.trans (r_go (act := oIret) rfl rfl) (a_iret)
theorem x_X12_readMark_0 (g : zg) (a1 : Int32) (M : zM) : X_X12_readMark g [.ref 72, .int a1] M = (zbI (X_X12_isSign g [.ref 72, .int a1] M) (fun x1 M1 => (bif cEq0 x1 then (zbI (X_X12_errs g [.ref 72, .int 1] M1) (fun x2 M2 => some (some (.int x2), M2))) else (zbV (X_X12_reads g [.ref 72] M1) (fun M3 => some (some (.int 0), M3)))))) := e_X12_readMark_0 g a1 M
set_option maxRecDepth 20000 in
theorem e_X12_readRound_0 (g : zg) (a1 : Int32) (M : zM) : zX (t_X12_readRound g) 0 [some (.ref 72), some (.int a1), none, none] [] M = (zbI (X_X12_readTold g [.ref 72, .int 16, .int 1, .int 30] M) (fun x1 M1 => (bif zb a1 48 then (bif zb a1 48 then (bif cEq ((zu M1.1 89 (zx a1) x1) 89 (zx a1)) (-1) then some (some (.int (-1)), ((zu M1.1 89 (zx a1) x1), M1.2)) else (zbI (X_X12_isWord g [.ref 72, .int 17] ((zu M1.1 89 (zx a1) x1), M1.2)) (fun x2 M2 => (bif cEq0 x2 then (zbI (X_X12_isWord g [.ref 72, .int 18] M2) (fun x3 M3 => (bif cEq0 x3 then (zbI (X_X12_errs g [.ref 72, .int 1] M3) (fun x4 M4 => some (some (.int x4), M4))) else zX (t_X12_readRound g) 53 [some (.ref 72), some (.int a1), some (.int x2), none] [] M3))) else zX (t_X12_readRound g) 53 [some (.ref 72), some (.int a1), some (.int x2), none] [] M2)))) else none) else none))) := by
  refine Eq.trans (zX_rgN (tl_X12_readRound g) (hc_X12_readRound g) 30 _ _ _ _) ?_
  refine Eq.trans (Eq.trans (r_0 (act := oS (fAld 1 0)) rfl) (a_ald rfl)) ?_
  refine Eq.trans (Eq.trans (r_go (act := oS (fGr g 4 12 36)) rfl rfl) (a_gr (zO_72 g) (zR_72_36 g))) ?_
  refine Eq.trans (Eq.trans (r_go (act := oS (fIld 5 1)) rfl rfl) (a_ild rfl)) ?_
  refine Eq.trans (Eq.trans (r_go (act := oS (fAld 6 0)) rfl rfl) (a_ald rfl)) ?_
  refine Eq.trans (Eq.trans (r_go (act := oS (fSt 8 (gC (.int 16)))) rfl rfl) (a_C)) ?_
  refine Eq.trans (Eq.trans (r_go (act := oS (fSt 9 (gC (.int 1)))) rfl rfl) (a_C)) ?_
  refine Eq.trans (Eq.trans (r_go (act := oS (fSt 11 (gC (.int 30)))) rfl rfl) (a_C)) ?_
  refine Eq.trans (Eq.trans (r_go (act := oCI 14 4 (zcv g 12) (X_X12_readTold g)) rfl rfl) (a_cI rfl (zck (zO_72 g) rfl))) (zbI_cg (fun x1 M1 => ?_))
  refine Eq.trans (Eq.trans (r_go (act := oS (fIs g 15)) rfl rfl) (a_is (zA_89 g) zS_89)) (bcg ?_ rfl)
  refine Eq.trans (Eq.trans (r_go (act := oS (fAld 16 0)) rfl rfl) (a_ald rfl)) ?_
  refine Eq.trans (Eq.trans (r_go (act := oS (fGr g 19 12 36)) rfl rfl) (a_gr (zO_72 g) (zR_72_36 g))) ?_
  refine Eq.trans (Eq.trans (r_go (act := oS (fIld 20 1)) rfl rfl) (a_ild rfl)) ?_
  refine Eq.trans (Eq.trans (r_go (act := oS (fIa g 21)) rfl rfl) (a_ia (zA_89 g) zS_89)) (bcg ?_ rfl)
  refine Eq.trans (Eq.trans (r_go (act := oS (fSt 22 (gC (.int (-1))))) rfl rfl) (a_C)) ?_
  refine Eq.trans (Eq.trans (r_go (act := oS (fCm 25 27 cEq)) rfl rfl) (a_cm)) (bcg ?_ ?_)
  · refine Eq.trans (Eq.trans (r_go (act := oS (fSt 26 (gC (.int (-1))))) rfl rfl) (a_C)) ?_
    exact Eq.trans (r_go (act := oIret) rfl rfl) (a_iret)
  · refine Eq.trans (Eq.trans (r_go (act := oS (fAld 28 0)) rfl rfl) (a_ald rfl)) ?_
    refine Eq.trans (Eq.trans (r_go (act := oS (fSt 30 (gC (.int 17)))) rfl rfl) (a_C)) ?_
    refine Eq.trans (Eq.trans (r_go (act := oCI 33 2 (zcv g 12) (X_X12_isWord g)) rfl rfl) (a_cI rfl (zck (zO_72 g) rfl))) (zbI_cg (fun x2 M2 => ?_))
    refine Eq.trans (Eq.trans (r_go (act := oS (fIst 34 2)) rfl rfl) (a_ist rfl rfl)) ?_
    refine Eq.trans (Eq.trans (r_go (act := oS (fIld 35 2)) rfl rfl) (a_ild rfl)) ?_
    refine Eq.trans (Eq.trans (r_go (act := oS (fIf 38 53 cEq0)) rfl rfl) (a_if)) (bcg ?_ ?_)
    · refine Eq.trans (Eq.trans (r_go (act := oS (fAld 39 0)) rfl rfl) (a_ald rfl)) ?_
      refine Eq.trans (Eq.trans (r_go (act := oS (fSt 41 (gC (.int 18)))) rfl rfl) (a_C)) ?_
      refine Eq.trans (Eq.trans (r_go (act := oCI 44 2 (zcv g 12) (X_X12_isWord g)) rfl rfl) (a_cI rfl (zck (zO_72 g) rfl))) (zbI_cg (fun x3 M3 => ?_))
      refine Eq.trans (Eq.trans (r_go (act := oS (fIf 47 53 cEq0)) rfl rfl) (a_if)) (bcg ?_ ?_)
      · refine Eq.trans (Eq.trans (r_go (act := oS (fAld 48 0)) rfl rfl) (a_ald rfl)) ?_
        refine Eq.trans (Eq.trans (r_go (act := oS (fSt 49 (gC (.int 1)))) rfl rfl) (a_C)) ?_
        refine Eq.trans (Eq.trans (r_go (act := oCI 52 2 (zcv g 12) (X_X12_errs g)) rfl rfl) (a_cI rfl (zck (zO_72 g) rfl))) (zbI_cg (fun x4 M4 => ?_))
        exact Eq.trans (r_go (act := oIret) rfl rfl) (a_iret)
      · exact r_cut rfl rfl
    · exact r_cut rfl rfl
theorem x_X12_readRound_0 (g : zg) (a1 : Int32) (M : zM) : X_X12_readRound g [.ref 72, .int a1] M = (zbI (X_X12_readTold g [.ref 72, .int 16, .int 1, .int 30] M) (fun x1 M1 => (bif zb a1 48 then (bif zb a1 48 then (bif cEq ((zu M1.1 89 (zx a1) x1) 89 (zx a1)) (-1) then some (some (.int (-1)), ((zu M1.1 89 (zx a1) x1), M1.2)) else (zbI (X_X12_isWord g [.ref 72, .int 17] ((zu M1.1 89 (zx a1) x1), M1.2)) (fun x2 M2 => (bif cEq0 x2 then (zbI (X_X12_isWord g [.ref 72, .int 18] M2) (fun x3 M3 => (bif cEq0 x3 then (zbI (X_X12_errs g [.ref 72, .int 1] M3) (fun x4 M4 => some (some (.int x4), M4))) else zX (t_X12_readRound g) 53 [some (.ref 72), some (.int a1), some (.int x2), none] [] M3))) else zX (t_X12_readRound g) 53 [some (.ref 72), some (.int a1), some (.int x2), none] [] M2)))) else none) else none))) := e_X12_readRound_0 g a1 M
set_option maxRecDepth 20000 in
theorem e_X12_readRound_53 (g : zg) (a1 : Int32) (a2 : Int32) (M : zM) : zX (t_X12_readRound g) 53 [some (.ref 72), some (.int a1), some (.int a2), none] [] M = (zbV (X_X12_reads g [.ref 72] M) (fun M1 => (zbI (X_X12_readNumber g [.ref 72, .int 0, .int 40] M1) (fun x2 M2 => (bif cEq x2 (-1) then some (some (.int (-1)), M2) else (bif cEq0 a2 then (bif zb (a1 + 1) 48 then (zbI (X_X12_readMark g [.ref 72, .int 59] ((zu M2.1 89 (zx (a1 + 1)) (-x2)), M2.2)) (fun x3 M3 => some (some (.int x3), M3))) else none) else (bif zb (a1 + 1) 48 then (zbI (X_X12_readMark g [.ref 72, .int 59] ((zu M2.1 89 (zx (a1 + 1)) x2), M2.2)) (fun x4 M4 => some (some (.int x4), M4))) else none))))))) := by
  refine Eq.trans (zX_rgN (tl_X12_readRound g) (hc_X12_readRound g) 25 _ _ _ _) ?_
  refine Eq.trans (Eq.trans (Eq.trans (r_0 (act := oF [3] (oS (fAld 54 0))) rfl) (a_F rfl)) (a_ald rfl)) ?_
  refine Eq.trans (Eq.trans (r_go (act := oCV 57 1 (zcv g 12) (X_X12_reads g)) rfl rfl) (a_cV rfl (zck (zO_72 g) rfl))) (zbV_cg (fun M1 => ?_))
  refine Eq.trans (Eq.trans (r_go (act := oS (fAld 58 0)) rfl rfl) (a_ald rfl)) ?_
  refine Eq.trans (Eq.trans (r_go (act := oS (fSt 59 (gC (.int 0)))) rfl rfl) (a_C)) ?_
  refine Eq.trans (Eq.trans (r_go (act := oS (fSt 61 (gC (.int 40)))) rfl rfl) (a_C)) ?_
  refine Eq.trans (Eq.trans (r_go (act := oCI 64 3 (zcv g 12) (X_X12_readNumber g)) rfl rfl) (a_cI rfl (zck (zO_72 g) rfl))) (zbI_cg (fun x2 M2 => ?_))
  refine Eq.trans (Eq.trans (r_go (act := oS (fIst 65 3)) rfl rfl) (a_ist rfl rfl)) ?_
  refine Eq.trans (Eq.trans (r_go (act := oS (fIld 66 3)) rfl rfl) (a_ild rfl)) ?_
  refine Eq.trans (Eq.trans (r_go (act := oS (fSt 67 (gC (.int (-1))))) rfl rfl) (a_C)) ?_
  refine Eq.trans (Eq.trans (r_go (act := oS (fCm 70 72 cEq)) rfl rfl) (a_cm)) (bcg ?_ ?_)
  · refine Eq.trans (Eq.trans (r_go (act := oS (fSt 71 (gC (.int (-1))))) rfl rfl) (a_C)) ?_
    exact Eq.trans (r_go (act := oIret) rfl rfl) (a_iret)
  · refine Eq.trans (Eq.trans (r_go (act := oS (fAld 73 0)) rfl rfl) (a_ald rfl)) ?_
    refine Eq.trans (Eq.trans (r_go (act := oS (fGr g 76 12 36)) rfl rfl) (a_gr (zO_72 g) (zR_72_36 g))) ?_
    refine Eq.trans (Eq.trans (r_go (act := oS (fIld 77 1)) rfl rfl) (a_ild rfl)) ?_
    refine Eq.trans (Eq.trans (r_go (act := oS (fSt 78 (gC (.int 1)))) rfl rfl) (a_C)) ?_
    refine Eq.trans (Eq.trans (r_go (act := oS (fSt 79 (g2 (fun x y => x + y)))) rfl rfl) (a_add)) ?_
    refine Eq.trans (Eq.trans (r_go (act := oS (fIld 80 2)) rfl rfl) (a_ild rfl)) ?_
    refine Eq.trans (Eq.trans (r_go (act := oS (fIf 87 83 cEq0)) rfl rfl) (a_if)) (bcg ?_ ?_)
    · refine Eq.trans (Eq.trans (r_go (act := oS (fIld 88 3)) rfl rfl) (a_ild rfl)) ?_
      refine Eq.trans (Eq.trans (r_go (act := oS (fSt 89 (g1 (fun x => -x)))) rfl rfl) (a_neg)) ?_
      refine Eq.trans (Eq.trans (r_go (act := oS (fIs g 90)) rfl rfl) (a_is (zA_89 g) zS_89)) (bcg ?_ rfl)
      refine Eq.trans (Eq.trans (r_go (act := oS (fAld 91 0)) rfl rfl) (a_ald rfl)) ?_
      refine Eq.trans (Eq.trans (r_go (act := oS (fSt 93 (gC (.int 59)))) rfl rfl) (a_C)) ?_
      refine Eq.trans (Eq.trans (r_go (act := oCI 96 2 (zcv g 12) (X_X12_readMark g)) rfl rfl) (a_cI rfl (zck (zO_72 g) rfl))) (zbI_cg (fun x3 M3 => ?_))
      exact Eq.trans (r_go (act := oIret) rfl rfl) (a_iret)
    · refine Eq.trans (Eq.trans (r_go (act := oS (fIld 84 3)) rfl rfl) (a_ild rfl)) ?_
      refine Eq.trans (Eq.trans (r_go (act := oS (fGo 89)) rfl rfl) (a_goto)) ?_
      refine Eq.trans (Eq.trans (r_go (act := oS (fIs g 90)) rfl rfl) (a_is (zA_89 g) zS_89)) (bcg ?_ rfl)
      refine Eq.trans (Eq.trans (r_go (act := oS (fAld 91 0)) rfl rfl) (a_ald rfl)) ?_
      refine Eq.trans (Eq.trans (r_go (act := oS (fSt 93 (gC (.int 59)))) rfl rfl) (a_C)) ?_
      refine Eq.trans (Eq.trans (r_go (act := oCI 96 2 (zcv g 12) (X_X12_readMark g)) rfl rfl) (a_cI rfl (zck (zO_72 g) rfl))) (zbI_cg (fun x4 M4 => ?_))
      exact Eq.trans (r_go (act := oIret) rfl rfl) (a_iret)
set_option maxRecDepth 20000 in
theorem e_X12_readRounds_0 (g : zg) (M : zM) : zX (t_X12_readRounds g) 0 [some (.ref 72), none] [] M = zX (t_X12_readRounds g) 2 [some (.ref 72), some (.int 0)] [] M := by
  refine Eq.trans (zX_rgN (tl_X12_readRounds g) (hc_X12_readRounds g) 4 _ _ _ _) ?_
  refine Eq.trans (Eq.trans (r_0 (act := oS (fSt 1 (gC (.int 0)))) rfl) (a_C)) ?_
  refine Eq.trans (Eq.trans (r_go (act := oS (fIst 2 1)) rfl rfl) (a_ist rfl rfl)) ?_
  exact r_cut rfl rfl
theorem x_X12_readRounds_0 (g : zg) (M : zM) : X_X12_readRounds g [.ref 72] M = zX (t_X12_readRounds g) 2 [some (.ref 72), some (.int 0)] [] M := e_X12_readRounds_0 g M
set_option maxRecDepth 20000 in
theorem e_X12_readRounds_2 (g : zg) (a1 : Int32) (M : zM) : zX (t_X12_readRounds g) 2 [some (.ref 72), some (.int a1)] [] M = (zbI (X_X12_isWord g [.ref 72, .int 16] M) (fun x1 M1 => (bif cEq0 x1 then (bif cEq0 (M1.1 72 16) then some (some (.int a1), M1) else (zbI (X_X12_errs g [.ref 72, .int 1] M1) (fun x2 M2 => some (some (.int x2), M2)))) else (bif cEq a1 12 then (zbI (X_X12_errs g [.ref 72, .int 3] M1) (fun x3 M3 => some (some (.int x3), M3))) else (zbI (X_X12_readRound g [.ref 72, .int (24 + (2 * a1))] M1) (fun x4 M4 => (bif cEq x4 (-1) then some (some (.int (-1)), M4) else zX (t_X12_readRounds g) 2 [some (.ref 72), some (.int (a1 + 1))] [] M4))))))) := by
  refine Eq.trans (zX_rgN (tl_X12_readRounds g) (hc_X12_readRounds g) 23 _ _ _ _) ?_
  refine Eq.trans (Eq.trans (Eq.trans (r_0 (act := oF [] (oS (fAld 3 0))) rfl) (a_F rfl)) (a_ald rfl)) ?_
  refine Eq.trans (Eq.trans (r_go (act := oS (fSt 5 (gC (.int 16)))) rfl rfl) (a_C)) ?_
  refine Eq.trans (Eq.trans (r_go (act := oCI 8 2 (zcv g 12) (X_X12_isWord g)) rfl rfl) (a_cI rfl (zck (zO_72 g) rfl))) (zbI_cg (fun x1 M1 => ?_))
  refine Eq.trans (Eq.trans (r_go (act := oS (fIf 46 11 cEq0)) rfl rfl) (a_if)) (bcg ?_ ?_)
  · refine Eq.trans (Eq.trans (r_go (act := oS (fAld 47 0)) rfl rfl) (a_ald rfl)) ?_
    refine Eq.trans (Eq.trans (r_go (act := oS (fGi g 50 12 16)) rfl rfl) (a_gi (zO_72 g))) ?_
    refine Eq.trans (Eq.trans (r_go (act := oS (fIf 53 57 cEq0)) rfl rfl) (a_if)) (bcg ?_ ?_)
    · refine Eq.trans (Eq.trans (r_go (act := oS (fIld 54 1)) rfl rfl) (a_ild rfl)) ?_
      refine Eq.trans (Eq.trans (r_go (act := oS (fGo 62)) rfl rfl) (a_goto)) ?_
      exact Eq.trans (r_go (act := oIret) rfl rfl) (a_iret)
    · refine Eq.trans (Eq.trans (r_go (act := oS (fAld 58 0)) rfl rfl) (a_ald rfl)) ?_
      refine Eq.trans (Eq.trans (r_go (act := oS (fSt 59 (gC (.int 1)))) rfl rfl) (a_C)) ?_
      refine Eq.trans (Eq.trans (r_go (act := oCI 62 2 (zcv g 12) (X_X12_errs g)) rfl rfl) (a_cI rfl (zck (zO_72 g) rfl))) (zbI_cg (fun x2 M2 => ?_))
      exact Eq.trans (r_go (act := oIret) rfl rfl) (a_iret)
  · refine Eq.trans (Eq.trans (r_go (act := oS (fIld 12 1)) rfl rfl) (a_ild rfl)) ?_
    refine Eq.trans (Eq.trans (r_go (act := oS (fSt 14 (gC (.int 12)))) rfl rfl) (a_C)) ?_
    refine Eq.trans (Eq.trans (r_go (act := oS (fCm 17 23 cEq)) rfl rfl) (a_cm)) (bcg ?_ ?_)
    · refine Eq.trans (Eq.trans (r_go (act := oS (fAld 18 0)) rfl rfl) (a_ald rfl)) ?_
      refine Eq.trans (Eq.trans (r_go (act := oS (fSt 19 (gC (.int 3)))) rfl rfl) (a_C)) ?_
      refine Eq.trans (Eq.trans (r_go (act := oCI 22 2 (zcv g 12) (X_X12_errs g)) rfl rfl) (a_cI rfl (zck (zO_72 g) rfl))) (zbI_cg (fun x3 M3 => ?_))
      exact Eq.trans (r_go (act := oIret) rfl rfl) (a_iret)
    · refine Eq.trans (Eq.trans (r_go (act := oS (fAld 24 0)) rfl rfl) (a_ald rfl)) ?_
      refine Eq.trans (Eq.trans (r_go (act := oS (fSt 26 (gC (.int 24)))) rfl rfl) (a_C)) ?_
      refine Eq.trans (Eq.trans (r_go (act := oS (fSt 27 (gC (.int 2)))) rfl rfl) (a_C)) ?_
      refine Eq.trans (Eq.trans (r_go (act := oS (fIld 28 1)) rfl rfl) (a_ild rfl)) ?_
      refine Eq.trans (Eq.trans (r_go (act := oS (fSt 29 (g2 (fun x y => x * y)))) rfl rfl) (a_mul)) ?_
      refine Eq.trans (Eq.trans (r_go (act := oS (fSt 30 (g2 (fun x y => x + y)))) rfl rfl) (a_add)) ?_
      refine Eq.trans (Eq.trans (r_go (act := oCI 33 2 (zcv g 12) (X_X12_readRound g)) rfl rfl) (a_cI rfl (zck (zO_72 g) rfl))) (zbI_cg (fun x4 M4 => ?_))
      refine Eq.trans (Eq.trans (r_go (act := oS (fSt 34 (gC (.int (-1))))) rfl rfl) (a_C)) ?_
      refine Eq.trans (Eq.trans (r_go (act := oS (fCm 37 39 cEq)) rfl rfl) (a_cm)) (bcg ?_ ?_)
      · refine Eq.trans (Eq.trans (r_go (act := oS (fSt 38 (gC (.int (-1))))) rfl rfl) (a_C)) ?_
        exact Eq.trans (r_go (act := oIret) rfl rfl) (a_iret)
      · refine Eq.trans (Eq.trans (r_go (act := oS (fIld 40 1)) rfl rfl) (a_ild rfl)) ?_
        refine Eq.trans (Eq.trans (r_go (act := oS (fSt 41 (gC (.int 1)))) rfl rfl) (a_C)) ?_
        refine Eq.trans (Eq.trans (r_go (act := oS (fSt 42 (g2 (fun x y => x + y)))) rfl rfl) (a_add)) ?_
        refine Eq.trans (Eq.trans (r_go (act := oS (fIst 43 1)) rfl rfl) (a_ist rfl rfl)) ?_
        refine Eq.trans (Eq.trans (r_go (act := oS (fGo 2)) rfl rfl) (a_goto)) ?_
        exact r_cut rfl rfl
set_option maxRecDepth 20000 in
theorem e_X12_kindOfDeed_0 (g : zg) (M : zM) : zX (t_X12_kindOfDeed g) 0 [some (.ref 72)] [] M = (zbI (X_X12_isWord g [.ref 72, .int 20] M) (fun x1 M1 => (bif cEq0 x1 then (zbI (X_X12_isWord g [.ref 72, .int 9] M1) (fun x2 M2 => (bif cEq0 x2 then (bif cEq (M2.1 72 16) 2 then (zbI (X_X12_isIn g [.ref 72, .int (M2.1 72 17), .int 21, .int 24] M2) (fun x3 M3 => (bif cEq0 x3 then some (some (.int (-1)), M3) else some (some (.int ((2 + (M3.1 72 17)) - 21)), M3)))) else some (some (.int (-1)), M2)) else some (some (.int 1), M2)))) else some (some (.int 0), M1)))) := by
  refine Eq.trans (zX_rgN (tl_X12_kindOfDeed g) (hc_X12_kindOfDeed g) 28 _ _ _ _) ?_
  refine Eq.trans (Eq.trans (r_0 (act := oS (fAld 1 0)) rfl) (a_ald rfl)) ?_
  refine Eq.trans (Eq.trans (r_go (act := oS (fSt 3 (gC (.int 20)))) rfl rfl) (a_C)) ?_
  refine Eq.trans (Eq.trans (r_go (act := oCI 6 2 (zcv g 12) (X_X12_isWord g)) rfl rfl) (a_cI rfl (zck (zO_72 g) rfl))) (zbI_cg (fun x1 M1 => ?_))
  refine Eq.trans (Eq.trans (r_go (act := oS (fIf 11 9 cEq0)) rfl rfl) (a_if)) (bcg ?_ ?_)
  · refine Eq.trans (Eq.trans (r_go (act := oS (fAld 12 0)) rfl rfl) (a_ald rfl)) ?_
    refine Eq.trans (Eq.trans (r_go (act := oS (fSt 14 (gC (.int 9)))) rfl rfl) (a_C)) ?_
    refine Eq.trans (Eq.trans (r_go (act := oCI 17 2 (zcv g 12) (X_X12_isWord g)) rfl rfl) (a_cI rfl (zck (zO_72 g) rfl))) (zbI_cg (fun x2 M2 => ?_))
    refine Eq.trans (Eq.trans (r_go (act := oS (fIf 22 20 cEq0)) rfl rfl) (a_if)) (bcg ?_ ?_)
    · refine Eq.trans (Eq.trans (r_go (act := oS (fAld 23 0)) rfl rfl) (a_ald rfl)) ?_
      refine Eq.trans (Eq.trans (r_go (act := oS (fGi g 26 12 16)) rfl rfl) (a_gi (zO_72 g))) ?_
      refine Eq.trans (Eq.trans (r_go (act := oS (fSt 27 (gC (.int 2)))) rfl rfl) (a_C)) ?_
      refine Eq.trans (Eq.trans (r_go (act := oS (fCm 30 57 cEq)) rfl rfl) (a_cm)) (bcg ?_ ?_)
      · refine Eq.trans (Eq.trans (r_go (act := oS (fAld 31 0)) rfl rfl) (a_ald rfl)) ?_
        refine Eq.trans (Eq.trans (r_go (act := oS (fAld 32 0)) rfl rfl) (a_ald rfl)) ?_
        refine Eq.trans (Eq.trans (r_go (act := oS (fGi g 35 12 17)) rfl rfl) (a_gi (zO_72 g))) ?_
        refine Eq.trans (Eq.trans (r_go (act := oS (fSt 37 (gC (.int 21)))) rfl rfl) (a_C)) ?_
        refine Eq.trans (Eq.trans (r_go (act := oS (fSt 39 (gC (.int 24)))) rfl rfl) (a_C)) ?_
        refine Eq.trans (Eq.trans (r_go (act := oCI 42 4 (zcv g 12) (X_X12_isIn g)) rfl rfl) (a_cI rfl (zck (zO_72 g) rfl))) (zbI_cg (fun x3 M3 => ?_))
        refine Eq.trans (Eq.trans (r_go (act := oS (fIf 57 45 cEq0)) rfl rfl) (a_if)) (bcg ?_ ?_)
        · refine Eq.trans (Eq.trans (r_go (act := oS (fSt 58 (gC (.int (-1))))) rfl rfl) (a_C)) ?_
          exact Eq.trans (r_go (act := oIret) rfl rfl) (a_iret)
        · refine Eq.trans (Eq.trans (r_go (act := oS (fSt 46 (gC (.int 2)))) rfl rfl) (a_C)) ?_
          refine Eq.trans (Eq.trans (r_go (act := oS (fAld 47 0)) rfl rfl) (a_ald rfl)) ?_
          refine Eq.trans (Eq.trans (r_go (act := oS (fGi g 50 12 17)) rfl rfl) (a_gi (zO_72 g))) ?_
          refine Eq.trans (Eq.trans (r_go (act := oS (fSt 51 (g2 (fun x y => x + y)))) rfl rfl) (a_add)) ?_
          refine Eq.trans (Eq.trans (r_go (act := oS (fSt 53 (gC (.int 21)))) rfl rfl) (a_C)) ?_
          refine Eq.trans (Eq.trans (r_go (act := oS (fSt 54 (g2 (fun x y => x - y)))) rfl rfl) (a_sub)) ?_
          refine Eq.trans (Eq.trans (r_go (act := oS (fGo 58)) rfl rfl) (a_goto)) ?_
          exact Eq.trans (r_go (act := oIret) rfl rfl) (a_iret)
      · refine Eq.trans (Eq.trans (r_go (act := oS (fSt 58 (gC (.int (-1))))) rfl rfl) (a_C)) ?_
        exact Eq.trans (r_go (act := oIret) rfl rfl) (a_iret)
    · refine Eq.trans (Eq.trans (r_go (act := oS (fSt 21 (gC (.int 1)))) rfl rfl) (a_C)) ?_
      exact Eq.trans (r_go (act := oIret) rfl rfl) (a_iret)
  · refine Eq.trans (Eq.trans (r_go (act := oS (fSt 10 (gC (.int 0)))) rfl rfl) (a_C)) ?_
    exact Eq.trans (r_go (act := oIret) rfl rfl) (a_iret)
theorem x_X12_kindOfDeed_0 (g : zg) (M : zM) : X_X12_kindOfDeed g [.ref 72] M = (zbI (X_X12_isWord g [.ref 72, .int 20] M) (fun x1 M1 => (bif cEq0 x1 then (zbI (X_X12_isWord g [.ref 72, .int 9] M1) (fun x2 M2 => (bif cEq0 x2 then (bif cEq (M2.1 72 16) 2 then (zbI (X_X12_isIn g [.ref 72, .int (M2.1 72 17), .int 21, .int 24] M2) (fun x3 M3 => (bif cEq0 x3 then some (some (.int (-1)), M3) else some (some (.int ((2 + (M3.1 72 17)) - 21)), M3)))) else some (some (.int (-1)), M2)) else some (some (.int 1), M2)))) else some (some (.int 0), M1)))) := e_X12_kindOfDeed_0 g M
set_option maxRecDepth 20000 in
theorem e_X12_readDeed_0 (g : zg) (a1 : Int32) (M : zM) : zX (t_X12_readDeed g) 0 [some (.ref 72), some (.int a1), none] [] M = (zbI (X_X12_readTold g [.ref 72, .int 19, .int 0, .int 999] M) (fun x1 M1 => (bif zb a1 128 then (bif zb a1 128 then (bif cEq ((zu M1.1 90 (zx a1) x1) 90 (zx a1)) (-1) then some (some (.int (-1)), ((zu M1.1 90 (zx a1) x1), M1.2)) else (zbI (X_X12_kindOfDeed g [.ref 72] ((zu M1.1 90 (zx a1) x1), M1.2)) (fun x2 M2 => (bif cEq x2 (-1) then (zbI (X_X12_errs g [.ref 72, .int 1] M2) (fun x3 M3 => some (some (.int x3), M3))) else (zbV (X_X12_reads g [.ref 72] M2) (fun M4 => (bif zb (a1 + 1) 128 then (bif cEq x2 5 then zX (t_X12_readDeed g) 84 [some (.ref 72), some (.int a1), some (.int x2)] [.int 0, .int (a1 + 2), .ref 90] ((zu M4.1 90 (zx (a1 + 1)) x2), M4.2) else (zbI (X_X12_readNumber g [.ref 72, .int 0, .int ((M4.1 72 6) - 1)] ((zu M4.1 90 (zx (a1 + 1)) x2), M4.2)) (fun x5 M5 => zX (t_X12_readDeed g) 84 [some (.ref 72), some (.int a1), some (.int x2)] [.int x5, .int (a1 + 2), .ref 90] M5))) else none))))))) else none) else none))) := by
  refine Eq.trans (zX_rgN (tl_X12_readDeed g) (hc_X12_readDeed g) 47 _ _ _ _) ?_
  refine Eq.trans (Eq.trans (r_0 (act := oS (fAld 1 0)) rfl) (a_ald rfl)) ?_
  refine Eq.trans (Eq.trans (r_go (act := oS (fGr g 4 12 38)) rfl rfl) (a_gr (zO_72 g) (zR_72_38 g))) ?_
  refine Eq.trans (Eq.trans (r_go (act := oS (fIld 5 1)) rfl rfl) (a_ild rfl)) ?_
  refine Eq.trans (Eq.trans (r_go (act := oS (fAld 6 0)) rfl rfl) (a_ald rfl)) ?_
  refine Eq.trans (Eq.trans (r_go (act := oS (fSt 8 (gC (.int 19)))) rfl rfl) (a_C)) ?_
  refine Eq.trans (Eq.trans (r_go (act := oS (fSt 9 (gC (.int 0)))) rfl rfl) (a_C)) ?_
  refine Eq.trans (Eq.trans (r_go (act := oS (fSt 12 (gC (.int 999)))) rfl rfl) (a_C)) ?_
  refine Eq.trans (Eq.trans (r_go (act := oCI 15 4 (zcv g 12) (X_X12_readTold g)) rfl rfl) (a_cI rfl (zck (zO_72 g) rfl))) (zbI_cg (fun x1 M1 => ?_))
  refine Eq.trans (Eq.trans (r_go (act := oS (fIs g 16)) rfl rfl) (a_is (zA_90 g) zS_90)) (bcg ?_ rfl)
  refine Eq.trans (Eq.trans (r_go (act := oS (fAld 17 0)) rfl rfl) (a_ald rfl)) ?_
  refine Eq.trans (Eq.trans (r_go (act := oS (fGr g 20 12 38)) rfl rfl) (a_gr (zO_72 g) (zR_72_38 g))) ?_
  refine Eq.trans (Eq.trans (r_go (act := oS (fIld 21 1)) rfl rfl) (a_ild rfl)) ?_
  refine Eq.trans (Eq.trans (r_go (act := oS (fIa g 22)) rfl rfl) (a_ia (zA_90 g) zS_90)) (bcg ?_ rfl)
  refine Eq.trans (Eq.trans (r_go (act := oS (fSt 23 (gC (.int (-1))))) rfl rfl) (a_C)) ?_
  refine Eq.trans (Eq.trans (r_go (act := oS (fCm 26 28 cEq)) rfl rfl) (a_cm)) (bcg ?_ ?_)
  · refine Eq.trans (Eq.trans (r_go (act := oS (fSt 27 (gC (.int (-1))))) rfl rfl) (a_C)) ?_
    exact Eq.trans (r_go (act := oIret) rfl rfl) (a_iret)
  · refine Eq.trans (Eq.trans (r_go (act := oS (fAld 29 0)) rfl rfl) (a_ald rfl)) ?_
    refine Eq.trans (Eq.trans (r_go (act := oCI 32 1 (zcv g 12) (X_X12_kindOfDeed g)) rfl rfl) (a_cI rfl (zck (zO_72 g) rfl))) (zbI_cg (fun x2 M2 => ?_))
    refine Eq.trans (Eq.trans (r_go (act := oS (fIst 33 2)) rfl rfl) (a_ist rfl rfl)) ?_
    refine Eq.trans (Eq.trans (r_go (act := oS (fIld 34 2)) rfl rfl) (a_ild rfl)) ?_
    refine Eq.trans (Eq.trans (r_go (act := oS (fSt 35 (gC (.int (-1))))) rfl rfl) (a_C)) ?_
    refine Eq.trans (Eq.trans (r_go (act := oS (fCm 38 44 cEq)) rfl rfl) (a_cm)) (bcg ?_ ?_)
    · refine Eq.trans (Eq.trans (r_go (act := oS (fAld 39 0)) rfl rfl) (a_ald rfl)) ?_
      refine Eq.trans (Eq.trans (r_go (act := oS (fSt 40 (gC (.int 1)))) rfl rfl) (a_C)) ?_
      refine Eq.trans (Eq.trans (r_go (act := oCI 43 2 (zcv g 12) (X_X12_errs g)) rfl rfl) (a_cI rfl (zck (zO_72 g) rfl))) (zbI_cg (fun x3 M3 => ?_))
      exact Eq.trans (r_go (act := oIret) rfl rfl) (a_iret)
    · refine Eq.trans (Eq.trans (r_go (act := oS (fAld 45 0)) rfl rfl) (a_ald rfl)) ?_
      refine Eq.trans (Eq.trans (r_go (act := oCV 48 1 (zcv g 12) (X_X12_reads g)) rfl rfl) (a_cV rfl (zck (zO_72 g) rfl))) (zbV_cg (fun M4 => ?_))
      refine Eq.trans (Eq.trans (r_go (act := oS (fAld 49 0)) rfl rfl) (a_ald rfl)) ?_
      refine Eq.trans (Eq.trans (r_go (act := oS (fGr g 52 12 38)) rfl rfl) (a_gr (zO_72 g) (zR_72_38 g))) ?_
      refine Eq.trans (Eq.trans (r_go (act := oS (fIld 53 1)) rfl rfl) (a_ild rfl)) ?_
      refine Eq.trans (Eq.trans (r_go (act := oS (fSt 54 (gC (.int 1)))) rfl rfl) (a_C)) ?_
      refine Eq.trans (Eq.trans (r_go (act := oS (fSt 55 (g2 (fun x y => x + y)))) rfl rfl) (a_add)) ?_
      refine Eq.trans (Eq.trans (r_go (act := oS (fIld 56 2)) rfl rfl) (a_ild rfl)) ?_
      refine Eq.trans (Eq.trans (r_go (act := oS (fIs g 57)) rfl rfl) (a_is (zA_90 g) zS_90)) (bcg ?_ rfl)
      refine Eq.trans (Eq.trans (r_go (act := oS (fAld 58 0)) rfl rfl) (a_ald rfl)) ?_
      refine Eq.trans (Eq.trans (r_go (act := oS (fGr g 61 12 38)) rfl rfl) (a_gr (zO_72 g) (zR_72_38 g))) ?_
      refine Eq.trans (Eq.trans (r_go (act := oS (fIld 62 1)) rfl rfl) (a_ild rfl)) ?_
      refine Eq.trans (Eq.trans (r_go (act := oS (fSt 63 (gC (.int 2)))) rfl rfl) (a_C)) ?_
      refine Eq.trans (Eq.trans (r_go (act := oS (fSt 64 (g2 (fun x y => x + y)))) rfl rfl) (a_add)) ?_
      refine Eq.trans (Eq.trans (r_go (act := oS (fIld 65 2)) rfl rfl) (a_ild rfl)) ?_
      refine Eq.trans (Eq.trans (r_go (act := oS (fSt 66 (gC (.int 5)))) rfl rfl) (a_C)) ?_
      refine Eq.trans (Eq.trans (r_go (act := oS (fCm 69 73 cEq)) rfl rfl) (a_cm)) (bcg ?_ ?_)
      · refine Eq.trans (Eq.trans (r_go (act := oS (fSt 70 (gC (.int 0)))) rfl rfl) (a_C)) ?_
        refine Eq.trans (Eq.trans (r_go (act := oS (fGo 84)) rfl rfl) (a_goto)) ?_
        exact r_cut rfl rfl
      · refine Eq.trans (Eq.trans (r_go (act := oS (fAld 74 0)) rfl rfl) (a_ald rfl)) ?_
        refine Eq.trans (Eq.trans (r_go (act := oS (fSt 75 (gC (.int 0)))) rfl rfl) (a_C)) ?_
        refine Eq.trans (Eq.trans (r_go (act := oS (fAld 76 0)) rfl rfl) (a_ald rfl)) ?_
        refine Eq.trans (Eq.trans (r_go (act := oS (fGi g 79 12 6)) rfl rfl) (a_giV (zO_72 g) rfl)) ?_
        refine Eq.trans (Eq.trans (r_go (act := oS (fSt 80 (gC (.int 1)))) rfl rfl) (a_C)) ?_
        refine Eq.trans (Eq.trans (r_go (act := oS (fSt 81 (g2 (fun x y => x - y)))) rfl rfl) (a_sub)) ?_
        refine Eq.trans (Eq.trans (r_go (act := oCI 84 3 (zcv g 12) (X_X12_readNumber g)) rfl rfl) (a_cI rfl (zck (zO_72 g) rfl))) (zbI_cg (fun x5 M5 => ?_))
        exact r_cut rfl rfl
theorem x_X12_readDeed_0 (g : zg) (a1 : Int32) (M : zM) : X_X12_readDeed g [.ref 72, .int a1] M = (zbI (X_X12_readTold g [.ref 72, .int 19, .int 0, .int 999] M) (fun x1 M1 => (bif zb a1 128 then (bif zb a1 128 then (bif cEq ((zu M1.1 90 (zx a1) x1) 90 (zx a1)) (-1) then some (some (.int (-1)), ((zu M1.1 90 (zx a1) x1), M1.2)) else (zbI (X_X12_kindOfDeed g [.ref 72] ((zu M1.1 90 (zx a1) x1), M1.2)) (fun x2 M2 => (bif cEq x2 (-1) then (zbI (X_X12_errs g [.ref 72, .int 1] M2) (fun x3 M3 => some (some (.int x3), M3))) else (zbV (X_X12_reads g [.ref 72] M2) (fun M4 => (bif zb (a1 + 1) 128 then (bif cEq x2 5 then zX (t_X12_readDeed g) 84 [some (.ref 72), some (.int a1), some (.int x2)] [.int 0, .int (a1 + 2), .ref 90] ((zu M4.1 90 (zx (a1 + 1)) x2), M4.2) else (zbI (X_X12_readNumber g [.ref 72, .int 0, .int ((M4.1 72 6) - 1)] ((zu M4.1 90 (zx (a1 + 1)) x2), M4.2)) (fun x5 M5 => zX (t_X12_readDeed g) 84 [some (.ref 72), some (.int a1), some (.int x2)] [.int x5, .int (a1 + 2), .ref 90] M5))) else none))))))) else none) else none))) := e_X12_readDeed_0 g a1 M
set_option maxRecDepth 20000 in
theorem e_X12_readDeed_84 (g : zg) (a1 : Int32) (a2 : Int32) (s0 : Int32) (s1 : Int32) (M : zM) : zX (t_X12_readDeed g) 84 [some (.ref 72), some (.int a1), some (.int a2)] [.int s0, .int s1, .ref 90] M = (bif zb s1 128 then (bif zb (a1 + 2) 128 then (bif cEq ((zu M.1 90 (zx s1) s0) 90 (zx (a1 + 2))) (-1) then some (some (.int (-1)), ((zu M.1 90 (zx s1) s0), M.2)) else (bif cEq a2 1 then (zbI (X_X12_readNumber g [.ref 72, .int 0, .int 99] ((zu M.1 90 (zx s1) s0), M.2)) (fun x1 M1 => (bif zb (a1 + 3) 128 then (bif zb (a1 + 3) 128 then (bif cEq ((zu M1.1 90 (zx (a1 + 3)) x1) 90 (zx (a1 + 3))) (-1) then some (some (.int (-1)), ((zu M1.1 90 (zx (a1 + 3)) x1), M1.2)) else (zbI (X_X12_readMark g [.ref 72, .int 59] ((zu M1.1 90 (zx (a1 + 3)) x1), M1.2)) (fun x2 M2 => some (some (.int x2), M2)))) else none) else none))) else (bif cEq a2 2 then (zbI (X_X12_readNumber g [.ref 72, .int 0, .int 4] ((zu M.1 90 (zx s1) s0), M.2)) (fun x3 M3 => (bif zb (a1 + 3) 128 then (bif zb (a1 + 3) 128 then (bif cEq ((zu M3.1 90 (zx (a1 + 3)) x3) 90 (zx (a1 + 3))) (-1) then some (some (.int (-1)), ((zu M3.1 90 (zx (a1 + 3)) x3), M3.2)) else (zbI (X_X12_readMark g [.ref 72, .int 59] ((zu M3.1 90 (zx (a1 + 3)) x3), M3.2)) (fun x4 M4 => some (some (.int x4), M4)))) else none) else none))) else (bif zb (a1 + 3) 128 then (bif zb (a1 + 3) 128 then (bif cEq ((zu (zu M.1 90 (zx s1) s0) 90 (zx (a1 + 3)) 0) 90 (zx (a1 + 3))) (-1) then some (some (.int (-1)), ((zu (zu M.1 90 (zx s1) s0) 90 (zx (a1 + 3)) 0), M.2)) else (zbI (X_X12_readMark g [.ref 72, .int 59] ((zu (zu M.1 90 (zx s1) s0) 90 (zx (a1 + 3)) 0), M.2)) (fun x5 M5 => some (some (.int x5), M5)))) else none) else none)))) else none) else none) := by
  refine Eq.trans (zX_rgN (tl_X12_readDeed g) (hc_X12_readDeed g) 39 _ _ _ _) ?_
  refine Eq.trans (Eq.trans (Eq.trans (r_0 (act := oF [] (oS (fIs g 85))) rfl) (a_F rfl)) (a_is (zA_90 g) zS_90)) (bcg ?_ rfl)
  refine Eq.trans (Eq.trans (r_go (act := oS (fAld 86 0)) rfl rfl) (a_ald rfl)) ?_
  refine Eq.trans (Eq.trans (r_go (act := oS (fGr g 89 12 38)) rfl rfl) (a_gr (zO_72 g) (zR_72_38 g))) ?_
  refine Eq.trans (Eq.trans (r_go (act := oS (fIld 90 1)) rfl rfl) (a_ild rfl)) ?_
  refine Eq.trans (Eq.trans (r_go (act := oS (fSt 91 (gC (.int 2)))) rfl rfl) (a_C)) ?_
  refine Eq.trans (Eq.trans (r_go (act := oS (fSt 92 (g2 (fun x y => x + y)))) rfl rfl) (a_add)) ?_
  refine Eq.trans (Eq.trans (r_go (act := oS (fIa g 93)) rfl rfl) (a_ia (zA_90 g) zS_90)) (bcg ?_ rfl)
  refine Eq.trans (Eq.trans (r_go (act := oS (fSt 94 (gC (.int (-1))))) rfl rfl) (a_C)) ?_
  refine Eq.trans (Eq.trans (r_go (act := oS (fCm 97 99 cEq)) rfl rfl) (a_cm)) (bcg ?_ ?_)
  · refine Eq.trans (Eq.trans (r_go (act := oS (fSt 98 (gC (.int (-1))))) rfl rfl) (a_C)) ?_
    exact Eq.trans (r_go (act := oIret) rfl rfl) (a_iret)
  · refine Eq.trans (Eq.trans (r_go (act := oS (fAld 100 0)) rfl rfl) (a_ald rfl)) ?_
    refine Eq.trans (Eq.trans (r_go (act := oS (fGr g 103 12 38)) rfl rfl) (a_gr (zO_72 g) (zR_72_38 g))) ?_
    refine Eq.trans (Eq.trans (r_go (act := oS (fIld 104 1)) rfl rfl) (a_ild rfl)) ?_
    refine Eq.trans (Eq.trans (r_go (act := oS (fSt 105 (gC (.int 3)))) rfl rfl) (a_C)) ?_
    refine Eq.trans (Eq.trans (r_go (act := oS (fSt 106 (g2 (fun x y => x + y)))) rfl rfl) (a_add)) ?_
    refine Eq.trans (Eq.trans (r_go (act := oS (fIld 107 2)) rfl rfl) (a_ild rfl)) ?_
    refine Eq.trans (Eq.trans (r_go (act := oS (fSt 108 (gC (.int 1)))) rfl rfl) (a_C)) ?_
    refine Eq.trans (Eq.trans (r_go (act := oS (fCm 111 121 cEq)) rfl rfl) (a_cm)) (bcg ?_ ?_)
    · refine Eq.trans (Eq.trans (r_go (act := oS (fAld 112 0)) rfl rfl) (a_ald rfl)) ?_
      refine Eq.trans (Eq.trans (r_go (act := oS (fSt 113 (gC (.int 0)))) rfl rfl) (a_C)) ?_
      refine Eq.trans (Eq.trans (r_go (act := oS (fSt 115 (gC (.int 99)))) rfl rfl) (a_C)) ?_
      refine Eq.trans (Eq.trans (r_go (act := oCI 118 3 (zcv g 12) (X_X12_readNumber g)) rfl rfl) (a_cI rfl (zck (zO_72 g) rfl))) (zbI_cg (fun x1 M1 => ?_))
      refine Eq.trans (Eq.trans (r_go (act := oS (fGo 136)) rfl rfl) (a_goto)) ?_
      refine Eq.trans (Eq.trans (r_go (act := oS (fIs g 137)) rfl rfl) (a_is (zA_90 g) zS_90)) (bcg ?_ rfl)
      refine Eq.trans (Eq.trans (r_go (act := oS (fAld 138 0)) rfl rfl) (a_ald rfl)) ?_
      refine Eq.trans (Eq.trans (r_go (act := oS (fGr g 141 12 38)) rfl rfl) (a_gr (zO_72 g) (zR_72_38 g))) ?_
      refine Eq.trans (Eq.trans (r_go (act := oS (fIld 142 1)) rfl rfl) (a_ild rfl)) ?_
      refine Eq.trans (Eq.trans (r_go (act := oS (fSt 143 (gC (.int 3)))) rfl rfl) (a_C)) ?_
      refine Eq.trans (Eq.trans (r_go (act := oS (fSt 144 (g2 (fun x y => x + y)))) rfl rfl) (a_add)) ?_
      refine Eq.trans (Eq.trans (r_go (act := oS (fIa g 145)) rfl rfl) (a_ia (zA_90 g) zS_90)) (bcg ?_ rfl)
      refine Eq.trans (Eq.trans (r_go (act := oS (fSt 146 (gC (.int (-1))))) rfl rfl) (a_C)) ?_
      refine Eq.trans (Eq.trans (r_go (act := oS (fCm 149 153 cEq)) rfl rfl) (a_cm)) (bcg ?_ ?_)
      · refine Eq.trans (Eq.trans (r_go (act := oS (fSt 150 (gC (.int (-1))))) rfl rfl) (a_C)) ?_
        refine Eq.trans (Eq.trans (r_go (act := oS (fGo 159)) rfl rfl) (a_goto)) ?_
        exact Eq.trans (r_go (act := oIret) rfl rfl) (a_iret)
      · refine Eq.trans (Eq.trans (r_go (act := oS (fAld 154 0)) rfl rfl) (a_ald rfl)) ?_
        refine Eq.trans (Eq.trans (r_go (act := oS (fSt 156 (gC (.int 59)))) rfl rfl) (a_C)) ?_
        refine Eq.trans (Eq.trans (r_go (act := oCI 159 2 (zcv g 12) (X_X12_readMark g)) rfl rfl) (a_cI rfl (zck (zO_72 g) rfl))) (zbI_cg (fun x2 M2 => ?_))
        exact Eq.trans (r_go (act := oIret) rfl rfl) (a_iret)
    · refine Eq.trans (Eq.trans (r_go (act := oS (fIld 122 2)) rfl rfl) (a_ild rfl)) ?_
      refine Eq.trans (Eq.trans (r_go (act := oS (fSt 123 (gC (.int 2)))) rfl rfl) (a_C)) ?_
      refine Eq.trans (Eq.trans (r_go (act := oS (fCm 126 135 cEq)) rfl rfl) (a_cm)) (bcg ?_ ?_)
      · refine Eq.trans (Eq.trans (r_go (act := oS (fAld 127 0)) rfl rfl) (a_ald rfl)) ?_
        refine Eq.trans (Eq.trans (r_go (act := oS (fSt 128 (gC (.int 0)))) rfl rfl) (a_C)) ?_
        refine Eq.trans (Eq.trans (r_go (act := oS (fSt 129 (gC (.int 4)))) rfl rfl) (a_C)) ?_
        refine Eq.trans (Eq.trans (r_go (act := oCI 132 3 (zcv g 12) (X_X12_readNumber g)) rfl rfl) (a_cI rfl (zck (zO_72 g) rfl))) (zbI_cg (fun x3 M3 => ?_))
        refine Eq.trans (Eq.trans (r_go (act := oS (fGo 136)) rfl rfl) (a_goto)) ?_
        refine Eq.trans (Eq.trans (r_go (act := oS (fIs g 137)) rfl rfl) (a_is (zA_90 g) zS_90)) (bcg ?_ rfl)
        refine Eq.trans (Eq.trans (r_go (act := oS (fAld 138 0)) rfl rfl) (a_ald rfl)) ?_
        refine Eq.trans (Eq.trans (r_go (act := oS (fGr g 141 12 38)) rfl rfl) (a_gr (zO_72 g) (zR_72_38 g))) ?_
        refine Eq.trans (Eq.trans (r_go (act := oS (fIld 142 1)) rfl rfl) (a_ild rfl)) ?_
        refine Eq.trans (Eq.trans (r_go (act := oS (fSt 143 (gC (.int 3)))) rfl rfl) (a_C)) ?_
        refine Eq.trans (Eq.trans (r_go (act := oS (fSt 144 (g2 (fun x y => x + y)))) rfl rfl) (a_add)) ?_
        refine Eq.trans (Eq.trans (r_go (act := oS (fIa g 145)) rfl rfl) (a_ia (zA_90 g) zS_90)) (bcg ?_ rfl)
        refine Eq.trans (Eq.trans (r_go (act := oS (fSt 146 (gC (.int (-1))))) rfl rfl) (a_C)) ?_
        refine Eq.trans (Eq.trans (r_go (act := oS (fCm 149 153 cEq)) rfl rfl) (a_cm)) (bcg ?_ ?_)
        · refine Eq.trans (Eq.trans (r_go (act := oS (fSt 150 (gC (.int (-1))))) rfl rfl) (a_C)) ?_
          refine Eq.trans (Eq.trans (r_go (act := oS (fGo 159)) rfl rfl) (a_goto)) ?_
          exact Eq.trans (r_go (act := oIret) rfl rfl) (a_iret)
        · refine Eq.trans (Eq.trans (r_go (act := oS (fAld 154 0)) rfl rfl) (a_ald rfl)) ?_
          refine Eq.trans (Eq.trans (r_go (act := oS (fSt 156 (gC (.int 59)))) rfl rfl) (a_C)) ?_
          refine Eq.trans (Eq.trans (r_go (act := oCI 159 2 (zcv g 12) (X_X12_readMark g)) rfl rfl) (a_cI rfl (zck (zO_72 g) rfl))) (zbI_cg (fun x4 M4 => ?_))
          exact Eq.trans (r_go (act := oIret) rfl rfl) (a_iret)
      · refine Eq.trans (Eq.trans (r_go (act := oS (fSt 136 (gC (.int 0)))) rfl rfl) (a_C)) ?_
        refine Eq.trans (Eq.trans (r_go (act := oS (fIs g 137)) rfl rfl) (a_is (zA_90 g) zS_90)) (bcg ?_ rfl)
        refine Eq.trans (Eq.trans (r_go (act := oS (fAld 138 0)) rfl rfl) (a_ald rfl)) ?_
        refine Eq.trans (Eq.trans (r_go (act := oS (fGr g 141 12 38)) rfl rfl) (a_gr (zO_72 g) (zR_72_38 g))) ?_
        refine Eq.trans (Eq.trans (r_go (act := oS (fIld 142 1)) rfl rfl) (a_ild rfl)) ?_
        refine Eq.trans (Eq.trans (r_go (act := oS (fSt 143 (gC (.int 3)))) rfl rfl) (a_C)) ?_
        refine Eq.trans (Eq.trans (r_go (act := oS (fSt 144 (g2 (fun x y => x + y)))) rfl rfl) (a_add)) ?_
        refine Eq.trans (Eq.trans (r_go (act := oS (fIa g 145)) rfl rfl) (a_ia (zA_90 g) zS_90)) (bcg ?_ rfl)
        refine Eq.trans (Eq.trans (r_go (act := oS (fSt 146 (gC (.int (-1))))) rfl rfl) (a_C)) ?_
        refine Eq.trans (Eq.trans (r_go (act := oS (fCm 149 153 cEq)) rfl rfl) (a_cm)) (bcg ?_ ?_)
        · refine Eq.trans (Eq.trans (r_go (act := oS (fSt 150 (gC (.int (-1))))) rfl rfl) (a_C)) ?_
          refine Eq.trans (Eq.trans (r_go (act := oS (fGo 159)) rfl rfl) (a_goto)) ?_
          exact Eq.trans (r_go (act := oIret) rfl rfl) (a_iret)
        · refine Eq.trans (Eq.trans (r_go (act := oS (fAld 154 0)) rfl rfl) (a_ald rfl)) ?_
          refine Eq.trans (Eq.trans (r_go (act := oS (fSt 156 (gC (.int 59)))) rfl rfl) (a_C)) ?_
          refine Eq.trans (Eq.trans (r_go (act := oCI 159 2 (zcv g 12) (X_X12_readMark g)) rfl rfl) (a_cI rfl (zck (zO_72 g) rfl))) (zbI_cg (fun x5 M5 => ?_))
          exact Eq.trans (r_go (act := oIret) rfl rfl) (a_iret)
set_option maxRecDepth 20000 in
theorem e_X12_readAgenda_0 (g : zg) (M : zM) : zX (t_X12_readAgenda g) 0 [some (.ref 72), none] [] M = zX (t_X12_readAgenda g) 2 [some (.ref 72), some (.int 0)] [] M := by
  refine Eq.trans (zX_rgN (tl_X12_readAgenda g) (hc_X12_readAgenda g) 4 _ _ _ _) ?_
  refine Eq.trans (Eq.trans (r_0 (act := oS (fSt 1 (gC (.int 0)))) rfl) (a_C)) ?_
  refine Eq.trans (Eq.trans (r_go (act := oS (fIst 2 1)) rfl rfl) (a_ist rfl rfl)) ?_
  exact r_cut rfl rfl
theorem x_X12_readAgenda_0 (g : zg) (M : zM) : X_X12_readAgenda g [.ref 72] M = zX (t_X12_readAgenda g) 2 [some (.ref 72), some (.int 0)] [] M := e_X12_readAgenda_0 g M
set_option maxRecDepth 20000 in
theorem e_X12_readAgenda_2 (g : zg) (a1 : Int32) (M : zM) : zX (t_X12_readAgenda g) 2 [some (.ref 72), some (.int a1)] [] M = (zbI (X_X12_isWord g [.ref 72, .int 19] M) (fun x1 M1 => (bif cEq0 x1 then (bif cEq0 (M1.1 72 16) then some (some (.int a1), M1) else (zbI (X_X12_errs g [.ref 72, .int 1] M1) (fun x2 M2 => some (some (.int x2), M2)))) else (bif cEq a1 16 then (zbI (X_X12_errs g [.ref 72, .int 3] M1) (fun x3 M3 => some (some (.int x3), M3))) else (zbI (X_X12_readDeed g [.ref 72, .int (64 + (4 * a1))] M1) (fun x4 M4 => (bif cEq x4 (-1) then some (some (.int (-1)), M4) else zX (t_X12_readAgenda g) 2 [some (.ref 72), some (.int (a1 + 1))] [] M4))))))) := by
  refine Eq.trans (zX_rgN (tl_X12_readAgenda g) (hc_X12_readAgenda g) 23 _ _ _ _) ?_
  refine Eq.trans (Eq.trans (Eq.trans (r_0 (act := oF [] (oS (fAld 3 0))) rfl) (a_F rfl)) (a_ald rfl)) ?_
  refine Eq.trans (Eq.trans (r_go (act := oS (fSt 5 (gC (.int 19)))) rfl rfl) (a_C)) ?_
  refine Eq.trans (Eq.trans (r_go (act := oCI 8 2 (zcv g 12) (X_X12_isWord g)) rfl rfl) (a_cI rfl (zck (zO_72 g) rfl))) (zbI_cg (fun x1 M1 => ?_))
  refine Eq.trans (Eq.trans (r_go (act := oS (fIf 46 11 cEq0)) rfl rfl) (a_if)) (bcg ?_ ?_)
  · refine Eq.trans (Eq.trans (r_go (act := oS (fAld 47 0)) rfl rfl) (a_ald rfl)) ?_
    refine Eq.trans (Eq.trans (r_go (act := oS (fGi g 50 12 16)) rfl rfl) (a_gi (zO_72 g))) ?_
    refine Eq.trans (Eq.trans (r_go (act := oS (fIf 53 57 cEq0)) rfl rfl) (a_if)) (bcg ?_ ?_)
    · refine Eq.trans (Eq.trans (r_go (act := oS (fIld 54 1)) rfl rfl) (a_ild rfl)) ?_
      refine Eq.trans (Eq.trans (r_go (act := oS (fGo 62)) rfl rfl) (a_goto)) ?_
      exact Eq.trans (r_go (act := oIret) rfl rfl) (a_iret)
    · refine Eq.trans (Eq.trans (r_go (act := oS (fAld 58 0)) rfl rfl) (a_ald rfl)) ?_
      refine Eq.trans (Eq.trans (r_go (act := oS (fSt 59 (gC (.int 1)))) rfl rfl) (a_C)) ?_
      refine Eq.trans (Eq.trans (r_go (act := oCI 62 2 (zcv g 12) (X_X12_errs g)) rfl rfl) (a_cI rfl (zck (zO_72 g) rfl))) (zbI_cg (fun x2 M2 => ?_))
      exact Eq.trans (r_go (act := oIret) rfl rfl) (a_iret)
  · refine Eq.trans (Eq.trans (r_go (act := oS (fIld 12 1)) rfl rfl) (a_ild rfl)) ?_
    refine Eq.trans (Eq.trans (r_go (act := oS (fSt 14 (gC (.int 16)))) rfl rfl) (a_C)) ?_
    refine Eq.trans (Eq.trans (r_go (act := oS (fCm 17 23 cEq)) rfl rfl) (a_cm)) (bcg ?_ ?_)
    · refine Eq.trans (Eq.trans (r_go (act := oS (fAld 18 0)) rfl rfl) (a_ald rfl)) ?_
      refine Eq.trans (Eq.trans (r_go (act := oS (fSt 19 (gC (.int 3)))) rfl rfl) (a_C)) ?_
      refine Eq.trans (Eq.trans (r_go (act := oCI 22 2 (zcv g 12) (X_X12_errs g)) rfl rfl) (a_cI rfl (zck (zO_72 g) rfl))) (zbI_cg (fun x3 M3 => ?_))
      exact Eq.trans (r_go (act := oIret) rfl rfl) (a_iret)
    · refine Eq.trans (Eq.trans (r_go (act := oS (fAld 24 0)) rfl rfl) (a_ald rfl)) ?_
      refine Eq.trans (Eq.trans (r_go (act := oS (fSt 26 (gC (.int 64)))) rfl rfl) (a_C)) ?_
      refine Eq.trans (Eq.trans (r_go (act := oS (fSt 27 (gC (.int 4)))) rfl rfl) (a_C)) ?_
      refine Eq.trans (Eq.trans (r_go (act := oS (fIld 28 1)) rfl rfl) (a_ild rfl)) ?_
      refine Eq.trans (Eq.trans (r_go (act := oS (fSt 29 (g2 (fun x y => x * y)))) rfl rfl) (a_mul)) ?_
      refine Eq.trans (Eq.trans (r_go (act := oS (fSt 30 (g2 (fun x y => x + y)))) rfl rfl) (a_add)) ?_
      refine Eq.trans (Eq.trans (r_go (act := oCI 33 2 (zcv g 12) (X_X12_readDeed g)) rfl rfl) (a_cI rfl (zck (zO_72 g) rfl))) (zbI_cg (fun x4 M4 => ?_))
      refine Eq.trans (Eq.trans (r_go (act := oS (fSt 34 (gC (.int (-1))))) rfl rfl) (a_C)) ?_
      refine Eq.trans (Eq.trans (r_go (act := oS (fCm 37 39 cEq)) rfl rfl) (a_cm)) (bcg ?_ ?_)
      · refine Eq.trans (Eq.trans (r_go (act := oS (fSt 38 (gC (.int (-1))))) rfl rfl) (a_C)) ?_
        exact Eq.trans (r_go (act := oIret) rfl rfl) (a_iret)
      · refine Eq.trans (Eq.trans (r_go (act := oS (fIld 40 1)) rfl rfl) (a_ild rfl)) ?_
        refine Eq.trans (Eq.trans (r_go (act := oS (fSt 41 (gC (.int 1)))) rfl rfl) (a_C)) ?_
        refine Eq.trans (Eq.trans (r_go (act := oS (fSt 42 (g2 (fun x y => x + y)))) rfl rfl) (a_add)) ?_
        refine Eq.trans (Eq.trans (r_go (act := oS (fIst 43 1)) rfl rfl) (a_ist rfl rfl)) ?_
        refine Eq.trans (Eq.trans (r_go (act := oS (fGo 2)) rfl rfl) (a_goto)) ?_
        exact r_cut rfl rfl
set_option maxRecDepth 20000 in
theorem e_X12_isLineWord_0 (g : zg) (M : zM) : zX (t_X12_isLineWord g) 0 [some (.ref 72)] [] M = (bif cEq (M.1 72 16) 2 then (zbI (X_X12_isIn g [.ref 72, .int (M.1 72 17), .int 0, .int 2] M) (fun x1 M1 => (bif cEq0 x1 then some (some (.int 0), M1) else some (some (.int 1), M1)))) else some (some (.int 0), M)) := by
  refine Eq.trans (zX_rgN (tl_X12_isLineWord g) (hc_X12_isLineWord g) 15 _ _ _ _) ?_
  refine Eq.trans (Eq.trans (r_0 (act := oS (fAld 1 0)) rfl) (a_ald rfl)) ?_
  refine Eq.trans (Eq.trans (r_go (act := oS (fGi g 4 12 16)) rfl rfl) (a_gi (zO_72 g))) ?_
  refine Eq.trans (Eq.trans (r_go (act := oS (fSt 5 (gC (.int 2)))) rfl rfl) (a_C)) ?_
  refine Eq.trans (Eq.trans (r_go (act := oS (fCm 8 25 cEq)) rfl rfl) (a_cm)) (bcg ?_ ?_)
  · refine Eq.trans (Eq.trans (r_go (act := oS (fAld 9 0)) rfl rfl) (a_ald rfl)) ?_
    refine Eq.trans (Eq.trans (r_go (act := oS (fAld 10 0)) rfl rfl) (a_ald rfl)) ?_
    refine Eq.trans (Eq.trans (r_go (act := oS (fGi g 13 12 17)) rfl rfl) (a_gi (zO_72 g))) ?_
    refine Eq.trans (Eq.trans (r_go (act := oS (fSt 14 (gC (.int 0)))) rfl rfl) (a_C)) ?_
    refine Eq.trans (Eq.trans (r_go (act := oS (fSt 15 (gC (.int 2)))) rfl rfl) (a_C)) ?_
    refine Eq.trans (Eq.trans (r_go (act := oCI 18 4 (zcv g 12) (X_X12_isIn g)) rfl rfl) (a_cI rfl (zck (zO_72 g) rfl))) (zbI_cg (fun x1 M1 => ?_))
    refine Eq.trans (Eq.trans (r_go (act := oS (fIf 25 21 cEq0)) rfl rfl) (a_if)) (bcg ?_ ?_)
    · refine Eq.trans (Eq.trans (r_go (act := oS (fSt 26 (gC (.int 0)))) rfl rfl) (a_C)) ?_
      exact Eq.trans (Eq.trans (r_go (act := oZret) rfl rfl) a_zret) (bcT (by decide +kernel))
    · refine Eq.trans (Eq.trans (r_go (act := oS (fSt 22 (gC (.int 1)))) rfl rfl) (a_C)) ?_
      refine Eq.trans (Eq.trans (r_go (act := oS (fGo 26)) rfl rfl) (a_goto)) ?_
      exact Eq.trans (Eq.trans (r_go (act := oZret) rfl rfl) a_zret) (bcT (by decide +kernel))
  · refine Eq.trans (Eq.trans (r_go (act := oS (fSt 26 (gC (.int 0)))) rfl rfl) (a_C)) ?_
    exact Eq.trans (Eq.trans (r_go (act := oZret) rfl rfl) a_zret) (bcT (by decide +kernel))
theorem x_X12_isLineWord_0 (g : zg) (M : zM) : X_X12_isLineWord g [.ref 72] M = (bif cEq (M.1 72 16) 2 then (zbI (X_X12_isIn g [.ref 72, .int (M.1 72 17), .int 0, .int 2] M) (fun x1 M1 => (bif cEq0 x1 then some (some (.int 0), M1) else some (some (.int 1), M1)))) else some (some (.int 0), M)) := e_X12_isLineWord_0 g M
set_option maxRecDepth 20000 in
theorem e_X12_canAsk_0 (g : zg) (a1 : Int32) (M : zM) : zX (t_X12_canAsk g) 0 [some (.ref 72), some (.int a1)] [] M = (zbI (X_X12_isIn g [.ref 72, .int a1, .int 7, .int 15] M) (fun x1 M1 => (bif cEq (x1 &&& 1) x1 then some (some (.int x1), M1) else none))) := by
  refine Eq.trans (zX_rgN (tl_X12_canAsk g) (hc_X12_canAsk g) 7 _ _ _ _) ?_
  refine Eq.trans (Eq.trans (r_0 (act := oS (fAld 1 0)) rfl) (a_ald rfl)) ?_
  refine Eq.trans (Eq.trans (r_go (act := oS (fIld 2 1)) rfl rfl) (a_ild rfl)) ?_
  refine Eq.trans (Eq.trans (r_go (act := oS (fSt 4 (gC (.int 7)))) rfl rfl) (a_C)) ?_
  refine Eq.trans (Eq.trans (r_go (act := oS (fSt 6 (gC (.int 15)))) rfl rfl) (a_C)) ?_
  refine Eq.trans (Eq.trans (r_go (act := oCI 9 4 (zcv g 12) (X_X12_isIn g)) rfl rfl) (a_cI rfl (zck (zO_72 g) rfl))) (zbI_cg (fun x1 M1 => ?_))
  exact Eq.trans (r_go (act := oZret) rfl rfl) (a_zret)
theorem x_X12_canAsk_0 (g : zg) (a1 : Int32) (M : zM) : X_X12_canAsk g [.ref 72, .int a1] M = (zbI (X_X12_isIn g [.ref 72, .int a1, .int 7, .int 15] M) (fun x1 M1 => (bif cEq (x1 &&& 1) x1 then some (some (.int x1), M1) else none))) := e_X12_canAsk_0 g a1 M
set_option maxRecDepth 20000 in
theorem e_X12_emits_0 (g : zg) (a1 : Int32) (a2 : Int32) (M : zM) : zX (t_X12_emits g) 0 [some (.ref 72), some (.int a1), some (.int a2)] [] M = (bif zb (800 + (M.1 72 27)) 1200 then (bif zb (800 + (M.1 72 27)) 1200 then some (none, ((zu (zu (zu M.1 86 (zx (800 + (M.1 72 27))) a1) 87 (zx (800 + (M.1 72 27))) a2) 72 27 ((M.1 72 27) + 1)), M.2)) else none) else none) := by
  refine Eq.trans (zX_rgN (tl_X12_emits g) (hc_X12_emits g) 24 _ _ _ _) ?_
  refine Eq.trans (Eq.trans (r_0 (act := oS (fAld 1 0)) rfl) (a_ald rfl)) ?_
  refine Eq.trans (Eq.trans (r_go (act := oS (fGr g 4 12 24)) rfl rfl) (a_gr (zO_72 g) (zR_72_24 g))) ?_
  refine Eq.trans (Eq.trans (r_go (act := oS (fSt 7 (gC (.int 800)))) rfl rfl) (a_C)) ?_
  refine Eq.trans (Eq.trans (r_go (act := oS (fAld 8 0)) rfl rfl) (a_ald rfl)) ?_
  refine Eq.trans (Eq.trans (r_go (act := oS (fGi g 11 12 27)) rfl rfl) (a_gi (zO_72 g))) ?_
  refine Eq.trans (Eq.trans (r_go (act := oS (fSt 12 (g2 (fun x y => x + y)))) rfl rfl) (a_add)) ?_
  refine Eq.trans (Eq.trans (r_go (act := oS (fIld 13 1)) rfl rfl) (a_ild rfl)) ?_
  refine Eq.trans (Eq.trans (r_go (act := oS (fIs g 14)) rfl rfl) (a_is (zA_86 g) zS_86)) (bcg ?_ rfl)
  refine Eq.trans (Eq.trans (r_go (act := oS (fAld 15 0)) rfl rfl) (a_ald rfl)) ?_
  refine Eq.trans (Eq.trans (r_go (act := oS (fGr g 18 12 25)) rfl rfl) (a_gr (zO_72 g) (zR_72_25 g))) ?_
  refine Eq.trans (Eq.trans (r_go (act := oS (fSt 21 (gC (.int 800)))) rfl rfl) (a_C)) ?_
  refine Eq.trans (Eq.trans (r_go (act := oS (fAld 22 0)) rfl rfl) (a_ald rfl)) ?_
  refine Eq.trans (Eq.trans (r_go (act := oS (fGi g 25 12 27)) rfl rfl) (a_giV (zO_72 g) rfl)) ?_
  refine Eq.trans (Eq.trans (r_go (act := oS (fSt 26 (g2 (fun x y => x + y)))) rfl rfl) (a_add)) ?_
  refine Eq.trans (Eq.trans (r_go (act := oS (fIld 27 2)) rfl rfl) (a_ild rfl)) ?_
  refine Eq.trans (Eq.trans (r_go (act := oS (fIs g 28)) rfl rfl) (a_is (zA_87 g) zS_87)) (bcg ?_ rfl)
  refine Eq.trans (Eq.trans (r_go (act := oS (fAld 29 0)) rfl rfl) (a_ald rfl)) ?_
  refine Eq.trans (Eq.trans (r_go (act := oS (fAld 30 0)) rfl rfl) (a_ald rfl)) ?_
  refine Eq.trans (Eq.trans (r_go (act := oS (fGi g 33 12 27)) rfl rfl) (a_giV (zO_72 g) rfl)) ?_
  refine Eq.trans (Eq.trans (r_go (act := oS (fSt 34 (gC (.int 1)))) rfl rfl) (a_C)) ?_
  refine Eq.trans (Eq.trans (r_go (act := oS (fSt 35 (g2 (fun x y => x + y)))) rfl rfl) (a_add)) ?_
  refine Eq.trans (Eq.trans (r_go (act := oS (fPi g 38 12 27)) rfl rfl) (a_pi (zO_72 g))) ?_
  exact Eq.trans (r_go (act := oVret) rfl rfl) (a_vret)
theorem x_X12_emits_0 (g : zg) (a1 : Int32) (a2 : Int32) (M : zM) : X_X12_emits g [.ref 72, .int a1, .int a2] M = (bif zb (800 + (M.1 72 27)) 1200 then (bif zb (800 + (M.1 72 27)) 1200 then some (none, ((zu (zu (zu M.1 86 (zx (800 + (M.1 72 27))) a1) 87 (zx (800 + (M.1 72 27))) a2) 72 27 ((M.1 72 27) + 1)), M.2)) else none) else none) := e_X12_emits_0 g a1 a2 M
set_option maxRecDepth 20000 in
theorem e_X12_readUnit_0 (g : zg) (M : zM) : zX (t_X12_readUnit g) 0 [some (.ref 72), none] [] M = (bif cEq (M.1 72 16) 2 then (zbI (X_X12_canAsk g [.ref 72, .int (M.1 72 17)] M) (fun x1 M1 => (bif cEq0 x1 then (bif cEq (M1.1 72 16) 3 then zX (t_X12_readUnit g) 43 [some (.ref 72), some (.int 0)] [] M1 else (zbI (X_X12_errs g [.ref 72, .int 1] M1) (fun x2 M2 => some (some (.int x2), M2)))) else zX (t_X12_readUnit g) 43 [some (.ref 72), some (.int 1)] [] M1))) else (bif cEq (M.1 72 16) 3 then zX (t_X12_readUnit g) 43 [some (.ref 72), some (.int 0)] [] M else (zbI (X_X12_errs g [.ref 72, .int 1] M) (fun x3 M3 => some (some (.int x3), M3))))) := by
  refine Eq.trans (zX_rgN (tl_X12_readUnit g) (hc_X12_readUnit g) 22 _ _ _ _) ?_
  refine Eq.trans (Eq.trans (r_0 (act := oS (fAld 1 0)) rfl) (a_ald rfl)) ?_
  refine Eq.trans (Eq.trans (r_go (act := oS (fGi g 4 12 16)) rfl rfl) (a_gi (zO_72 g))) ?_
  refine Eq.trans (Eq.trans (r_go (act := oS (fSt 5 (gC (.int 2)))) rfl rfl) (a_C)) ?_
  refine Eq.trans (Eq.trans (r_go (act := oS (fCm 8 23 cEq)) rfl rfl) (a_cm)) (bcg ?_ ?_)
  · refine Eq.trans (Eq.trans (r_go (act := oS (fAld 9 0)) rfl rfl) (a_ald rfl)) ?_
    refine Eq.trans (Eq.trans (r_go (act := oS (fAld 10 0)) rfl rfl) (a_ald rfl)) ?_
    refine Eq.trans (Eq.trans (r_go (act := oS (fGi g 13 12 17)) rfl rfl) (a_gi (zO_72 g))) ?_
    refine Eq.trans (Eq.trans (r_go (act := oCI 16 2 (zcv g 12) (X_X12_canAsk g)) rfl rfl) (a_cI rfl (zck (zO_72 g) rfl))) (zbI_cg (fun x1 M1 => ?_))
    refine Eq.trans (Eq.trans (r_go (act := oS (fIf 23 19 cEq0)) rfl rfl) (a_if)) (bcg ?_ ?_)
    · refine Eq.trans (Eq.trans (r_go (act := oS (fSt 24 (gC (.int 0)))) rfl rfl) (a_C)) ?_
      refine Eq.trans (Eq.trans (r_go (act := oS (fIst 25 1)) rfl rfl) (a_ist rfl rfl)) ?_
      refine Eq.trans (Eq.trans (r_go (act := oS (fIld 26 1)) rfl rfl) (a_ild rfl)) ?_
      refine Eq.trans (Eq.trans (r_go (act := oS (fIf 29 43 cEq0)) rfl rfl) (a_ifT (by decide +kernel))) ?_
      refine Eq.trans (Eq.trans (r_go (act := oS (fAld 30 0)) rfl rfl) (a_ald rfl)) ?_
      refine Eq.trans (Eq.trans (r_go (act := oS (fGi g 33 12 16)) rfl rfl) (a_gi (zO_72 g))) ?_
      refine Eq.trans (Eq.trans (r_go (act := oS (fSt 34 (gC (.int 3)))) rfl rfl) (a_C)) ?_
      refine Eq.trans (Eq.trans (r_go (act := oS (fCm 43 37 cEq)) rfl rfl) (a_cm)) (bcg ?_ ?_)
      · exact r_cut rfl rfl
      · refine Eq.trans (Eq.trans (r_go (act := oS (fAld 38 0)) rfl rfl) (a_ald rfl)) ?_
        refine Eq.trans (Eq.trans (r_go (act := oS (fSt 39 (gC (.int 1)))) rfl rfl) (a_C)) ?_
        refine Eq.trans (Eq.trans (r_go (act := oCI 42 2 (zcv g 12) (X_X12_errs g)) rfl rfl) (a_cI rfl (zck (zO_72 g) rfl))) (zbI_cg (fun x2 M2 => ?_))
        exact Eq.trans (r_go (act := oIret) rfl rfl) (a_iret)
    · refine Eq.trans (Eq.trans (r_go (act := oS (fSt 20 (gC (.int 1)))) rfl rfl) (a_C)) ?_
      refine Eq.trans (Eq.trans (r_go (act := oS (fGo 24)) rfl rfl) (a_goto)) ?_
      refine Eq.trans (Eq.trans (r_go (act := oS (fIst 25 1)) rfl rfl) (a_ist rfl rfl)) ?_
      refine Eq.trans (Eq.trans (r_go (act := oS (fIld 26 1)) rfl rfl) (a_ild rfl)) ?_
      refine Eq.trans (Eq.trans (r_go (act := oS (fIf 29 43 cEq0)) rfl rfl) (a_ifF (by decide +kernel))) ?_
      exact r_cut rfl rfl
  · refine Eq.trans (Eq.trans (r_go (act := oS (fSt 24 (gC (.int 0)))) rfl rfl) (a_C)) ?_
    refine Eq.trans (Eq.trans (r_go (act := oS (fIst 25 1)) rfl rfl) (a_ist rfl rfl)) ?_
    refine Eq.trans (Eq.trans (r_go (act := oS (fIld 26 1)) rfl rfl) (a_ild rfl)) ?_
    refine Eq.trans (Eq.trans (r_go (act := oS (fIf 29 43 cEq0)) rfl rfl) (a_ifT (by decide +kernel))) ?_
    refine Eq.trans (Eq.trans (r_go (act := oS (fAld 30 0)) rfl rfl) (a_ald rfl)) ?_
    refine Eq.trans (Eq.trans (r_go (act := oS (fGi g 33 12 16)) rfl rfl) (a_gi (zO_72 g))) ?_
    refine Eq.trans (Eq.trans (r_go (act := oS (fSt 34 (gC (.int 3)))) rfl rfl) (a_C)) ?_
    refine Eq.trans (Eq.trans (r_go (act := oS (fCm 43 37 cEq)) rfl rfl) (a_cm)) (bcg ?_ ?_)
    · exact r_cut rfl rfl
    · refine Eq.trans (Eq.trans (r_go (act := oS (fAld 38 0)) rfl rfl) (a_ald rfl)) ?_
      refine Eq.trans (Eq.trans (r_go (act := oS (fSt 39 (gC (.int 1)))) rfl rfl) (a_C)) ?_
      refine Eq.trans (Eq.trans (r_go (act := oCI 42 2 (zcv g 12) (X_X12_errs g)) rfl rfl) (a_cI rfl (zck (zO_72 g) rfl))) (zbI_cg (fun x3 M3 => ?_))
      exact Eq.trans (r_go (act := oIret) rfl rfl) (a_iret)
theorem x_X12_readUnit_0 (g : zg) (M : zM) : X_X12_readUnit g [.ref 72] M = (bif cEq (M.1 72 16) 2 then (zbI (X_X12_canAsk g [.ref 72, .int (M.1 72 17)] M) (fun x1 M1 => (bif cEq0 x1 then (bif cEq (M1.1 72 16) 3 then zX (t_X12_readUnit g) 43 [some (.ref 72), some (.int 0)] [] M1 else (zbI (X_X12_errs g [.ref 72, .int 1] M1) (fun x2 M2 => some (some (.int x2), M2)))) else zX (t_X12_readUnit g) 43 [some (.ref 72), some (.int 1)] [] M1))) else (bif cEq (M.1 72 16) 3 then zX (t_X12_readUnit g) 43 [some (.ref 72), some (.int 0)] [] M else (zbI (X_X12_errs g [.ref 72, .int 1] M) (fun x3 M3 => some (some (.int x3), M3))))) := e_X12_readUnit_0 g M
set_option maxRecDepth 20000 in
theorem e_X12_readUnit_43 (g : zg) (a1 : Int32) (M : zM) : zX (t_X12_readUnit g) 43 [some (.ref 72), some (.int a1)] [] M = (bif cEq0 a1 then (bif cEq0 a1 then (zbV (X_X12_emits g [.ref 72, .int 0, .int (M.1 72 17)] M) (fun M1 => (zbV (X_X12_reads g [.ref 72] M1) (fun M2 => some (some (.int 0), M2))))) else (zbV (X_X12_emits g [.ref 72, .int 0, .int ((M.1 72 17) - 7)] M) (fun M3 => (zbV (X_X12_reads g [.ref 72] M3) (fun M4 => some (some (.int 0), M4)))))) else (bif cEq0 a1 then (zbV (X_X12_emits g [.ref 72, .int 1, .int (M.1 72 17)] M) (fun M5 => (zbV (X_X12_reads g [.ref 72] M5) (fun M6 => some (some (.int 0), M6))))) else (zbV (X_X12_emits g [.ref 72, .int 1, .int ((M.1 72 17) - 7)] M) (fun M7 => (zbV (X_X12_reads g [.ref 72] M7) (fun M8 => some (some (.int 0), M8))))))) := by
  refine Eq.trans (zX_rgN (tl_X12_readUnit g) (hc_X12_readUnit g) 18 _ _ _ _) ?_
  refine Eq.trans (Eq.trans (Eq.trans (r_0 (act := oF [] (oS (fAld 44 0))) rfl) (a_F rfl)) (a_ald rfl)) ?_
  refine Eq.trans (Eq.trans (r_go (act := oS (fIld 45 1)) rfl rfl) (a_ild rfl)) ?_
  refine Eq.trans (Eq.trans (r_go (act := oS (fIf 52 48 cEq0)) rfl rfl) (a_if)) (bcg ?_ ?_)
  · refine Eq.trans (Eq.trans (r_go (act := oS (fSt 53 (gC (.int 0)))) rfl rfl) (a_C)) ?_
    refine Eq.trans (Eq.trans (r_go (act := oS (fIld 54 1)) rfl rfl) (a_ild rfl)) ?_
    refine Eq.trans (Eq.trans (r_go (act := oS (fIf 67 57 cEq0)) rfl rfl) (a_if)) (bcg ?_ ?_)
    · refine Eq.trans (Eq.trans (r_go (act := oS (fAld 68 0)) rfl rfl) (a_ald rfl)) ?_
      refine Eq.trans (Eq.trans (r_go (act := oS (fGi g 71 12 17)) rfl rfl) (a_gi (zO_72 g))) ?_
      refine Eq.trans (Eq.trans (r_go (act := oCV 74 3 (zcv g 12) (X_X12_emits g)) rfl rfl) (a_cV rfl (zck (zO_72 g) rfl))) (zbV_cg (fun M1 => ?_))
      refine Eq.trans (Eq.trans (r_go (act := oS (fAld 75 0)) rfl rfl) (a_ald rfl)) ?_
      refine Eq.trans (Eq.trans (r_go (act := oCV 78 1 (zcv g 12) (X_X12_reads g)) rfl rfl) (a_cV rfl (zck (zO_72 g) rfl))) (zbV_cg (fun M2 => ?_))
      refine Eq.trans (Eq.trans (r_go (act := oS (fSt 79 (gC (.int 0)))) rfl rfl) (a_C)) ?_
      exact Eq.trans (r_go (act := oIret) rfl rfl) (a_iret)
    · refine Eq.trans (Eq.trans (r_go (act := oS (fAld 58 0)) rfl rfl) (a_ald rfl)) ?_
      refine Eq.trans (Eq.trans (r_go (act := oS (fGi g 61 12 17)) rfl rfl) (a_gi (zO_72 g))) ?_
      refine Eq.trans (Eq.trans (r_go (act := oS (fSt 63 (gC (.int 7)))) rfl rfl) (a_C)) ?_
      refine Eq.trans (Eq.trans (r_go (act := oS (fSt 64 (g2 (fun x y => x - y)))) rfl rfl) (a_sub)) ?_
      refine Eq.trans (Eq.trans (r_go (act := oS (fGo 71)) rfl rfl) (a_goto)) ?_
      refine Eq.trans (Eq.trans (r_go (act := oCV 74 3 (zcv g 12) (X_X12_emits g)) rfl rfl) (a_cV rfl (zck (zO_72 g) rfl))) (zbV_cg (fun M3 => ?_))
      refine Eq.trans (Eq.trans (r_go (act := oS (fAld 75 0)) rfl rfl) (a_ald rfl)) ?_
      refine Eq.trans (Eq.trans (r_go (act := oCV 78 1 (zcv g 12) (X_X12_reads g)) rfl rfl) (a_cV rfl (zck (zO_72 g) rfl))) (zbV_cg (fun M4 => ?_))
      refine Eq.trans (Eq.trans (r_go (act := oS (fSt 79 (gC (.int 0)))) rfl rfl) (a_C)) ?_
      exact Eq.trans (r_go (act := oIret) rfl rfl) (a_iret)
  · refine Eq.trans (Eq.trans (r_go (act := oS (fSt 49 (gC (.int 1)))) rfl rfl) (a_C)) ?_
    refine Eq.trans (Eq.trans (r_go (act := oS (fGo 53)) rfl rfl) (a_goto)) ?_
    refine Eq.trans (Eq.trans (r_go (act := oS (fIld 54 1)) rfl rfl) (a_ild rfl)) ?_
    refine Eq.trans (Eq.trans (r_go (act := oS (fIf 67 57 cEq0)) rfl rfl) (a_if)) (bcg ?_ ?_)
    · refine Eq.trans (Eq.trans (r_go (act := oS (fAld 68 0)) rfl rfl) (a_ald rfl)) ?_
      refine Eq.trans (Eq.trans (r_go (act := oS (fGi g 71 12 17)) rfl rfl) (a_gi (zO_72 g))) ?_
      refine Eq.trans (Eq.trans (r_go (act := oCV 74 3 (zcv g 12) (X_X12_emits g)) rfl rfl) (a_cV rfl (zck (zO_72 g) rfl))) (zbV_cg (fun M5 => ?_))
      refine Eq.trans (Eq.trans (r_go (act := oS (fAld 75 0)) rfl rfl) (a_ald rfl)) ?_
      refine Eq.trans (Eq.trans (r_go (act := oCV 78 1 (zcv g 12) (X_X12_reads g)) rfl rfl) (a_cV rfl (zck (zO_72 g) rfl))) (zbV_cg (fun M6 => ?_))
      refine Eq.trans (Eq.trans (r_go (act := oS (fSt 79 (gC (.int 0)))) rfl rfl) (a_C)) ?_
      exact Eq.trans (r_go (act := oIret) rfl rfl) (a_iret)
    · refine Eq.trans (Eq.trans (r_go (act := oS (fAld 58 0)) rfl rfl) (a_ald rfl)) ?_
      refine Eq.trans (Eq.trans (r_go (act := oS (fGi g 61 12 17)) rfl rfl) (a_gi (zO_72 g))) ?_
      refine Eq.trans (Eq.trans (r_go (act := oS (fSt 63 (gC (.int 7)))) rfl rfl) (a_C)) ?_
      refine Eq.trans (Eq.trans (r_go (act := oS (fSt 64 (g2 (fun x y => x - y)))) rfl rfl) (a_sub)) ?_
      refine Eq.trans (Eq.trans (r_go (act := oS (fGo 71)) rfl rfl) (a_goto)) ?_
      refine Eq.trans (Eq.trans (r_go (act := oCV 74 3 (zcv g 12) (X_X12_emits g)) rfl rfl) (a_cV rfl (zck (zO_72 g) rfl))) (zbV_cg (fun M7 => ?_))
      refine Eq.trans (Eq.trans (r_go (act := oS (fAld 75 0)) rfl rfl) (a_ald rfl)) ?_
      refine Eq.trans (Eq.trans (r_go (act := oCV 78 1 (zcv g 12) (X_X12_reads g)) rfl rfl) (a_cV rfl (zck (zO_72 g) rfl))) (zbV_cg (fun M8 => ?_))
      refine Eq.trans (Eq.trans (r_go (act := oS (fSt 79 (gC (.int 0)))) rfl rfl) (a_C)) ?_
      exact Eq.trans (r_go (act := oIret) rfl rfl) (a_iret)
set_option maxRecDepth 20000 in
theorem e_X12_readProduct_0 (g : zg) (M : zM) : zX (t_X12_readProduct g) 0 [some (.ref 72), none] [] M = (zbI (X_X12_readUnit g [.ref 72] M) (fun x1 M1 => (bif cEq x1 (-1) then some (some (.int (-1)), M1) else zX (t_X12_readProduct g) 10 [some (.ref 72), none] [] M1))) := by
  refine Eq.trans (zX_rgN (tl_X12_readProduct g) (hc_X12_readProduct g) 7 _ _ _ _) ?_
  refine Eq.trans (Eq.trans (r_0 (act := oS (fAld 1 0)) rfl) (a_ald rfl)) ?_
  refine Eq.trans (Eq.trans (r_go (act := oCI 4 1 (zcv g 12) (X_X12_readUnit g)) rfl rfl) (a_cI rfl (zck (zO_72 g) rfl))) (zbI_cg (fun x1 M1 => ?_))
  refine Eq.trans (Eq.trans (r_go (act := oS (fSt 5 (gC (.int (-1))))) rfl rfl) (a_C)) ?_
  refine Eq.trans (Eq.trans (r_go (act := oS (fCm 8 10 cEq)) rfl rfl) (a_cm)) (bcg ?_ ?_)
  · refine Eq.trans (Eq.trans (r_go (act := oS (fSt 9 (gC (.int (-1))))) rfl rfl) (a_C)) ?_
    exact Eq.trans (r_go (act := oIret) rfl rfl) (a_iret)
  · exact r_cut rfl rfl
theorem x_X12_readProduct_0 (g : zg) (M : zM) : X_X12_readProduct g [.ref 72] M = (zbI (X_X12_readUnit g [.ref 72] M) (fun x1 M1 => (bif cEq x1 (-1) then some (some (.int (-1)), M1) else zX (t_X12_readProduct g) 10 [some (.ref 72), none] [] M1))) := e_X12_readProduct_0 g M
set_option maxRecDepth 20000 in
theorem e_X12_readProduct_10 (g : zg) (M : zM) : zX (t_X12_readProduct g) 10 [some (.ref 72), none] [] M = (zbI (X_X12_isSign g [.ref 72, .int 42] M) (fun x1 M1 => (bif cEq0 x1 then (zbI (X_X12_isSign g [.ref 72, .int 47] M1) (fun x2 M2 => (bif cEq0 x2 then some (some (.int 0), M2) else (zbI (X_X12_isSign g [.ref 72, .int 42] M2) (fun x3 M3 => (zbV (X_X12_reads g [.ref 72] M3) (fun M4 => (bif cEq0 x3 then (bif cEq (M4.1 72 16) 3 then zX (t_X12_readProduct g) 57 [some (.ref 72), some (.int x3)] [] M4 else (zbI (X_X12_errs g [.ref 72, .int 1] M4) (fun x5 M5 => some (some (.int x5), M5)))) else zX (t_X12_readProduct g) 57 [some (.ref 72), some (.int x3)] [] M4)))))))) else (zbI (X_X12_isSign g [.ref 72, .int 42] M1) (fun x6 M6 => (zbV (X_X12_reads g [.ref 72] M6) (fun M7 => (bif cEq0 x6 then (bif cEq (M7.1 72 16) 3 then zX (t_X12_readProduct g) 57 [some (.ref 72), some (.int x6)] [] M7 else (zbI (X_X12_errs g [.ref 72, .int 1] M7) (fun x8 M8 => some (some (.int x8), M8)))) else zX (t_X12_readProduct g) 57 [some (.ref 72), some (.int x6)] [] M7)))))))) := by
  refine Eq.trans (zX_rgN (tl_X12_readProduct g) (hc_X12_readProduct g) 25 _ _ _ _) ?_
  refine Eq.trans (Eq.trans (Eq.trans (r_0 (act := oF [1] (oS (fAld 11 0))) rfl) (a_F rfl)) (a_ald rfl)) ?_
  refine Eq.trans (Eq.trans (r_go (act := oS (fSt 13 (gC (.int 42)))) rfl rfl) (a_C)) ?_
  refine Eq.trans (Eq.trans (r_go (act := oCI 16 2 (zcv g 12) (X_X12_isSign g)) rfl rfl) (a_cI rfl (zck (zO_72 g) rfl))) (zbI_cg (fun x1 M1 => ?_))
  refine Eq.trans (Eq.trans (r_go (act := oS (fIf 19 28 cEq0)) rfl rfl) (a_if)) (bcg ?_ ?_)
  · refine Eq.trans (Eq.trans (r_go (act := oS (fAld 20 0)) rfl rfl) (a_ald rfl)) ?_
    refine Eq.trans (Eq.trans (r_go (act := oS (fSt 22 (gC (.int 47)))) rfl rfl) (a_C)) ?_
    refine Eq.trans (Eq.trans (r_go (act := oCI 25 2 (zcv g 12) (X_X12_isSign g)) rfl rfl) (a_cI rfl (zck (zO_72 g) rfl))) (zbI_cg (fun x2 M2 => ?_))
    refine Eq.trans (Eq.trans (r_go (act := oS (fIf 101 28 cEq0)) rfl rfl) (a_if)) (bcg ?_ ?_)
    · refine Eq.trans (Eq.trans (r_go (act := oS (fSt 102 (gC (.int 0)))) rfl rfl) (a_C)) ?_
      exact Eq.trans (r_go (act := oIret) rfl rfl) (a_iret)
    · refine Eq.trans (Eq.trans (r_go (act := oS (fAld 29 0)) rfl rfl) (a_ald rfl)) ?_
      refine Eq.trans (Eq.trans (r_go (act := oS (fSt 31 (gC (.int 42)))) rfl rfl) (a_C)) ?_
      refine Eq.trans (Eq.trans (r_go (act := oCI 34 2 (zcv g 12) (X_X12_isSign g)) rfl rfl) (a_cI rfl (zck (zO_72 g) rfl))) (zbI_cg (fun x3 M3 => ?_))
      refine Eq.trans (Eq.trans (r_go (act := oS (fIst 35 1)) rfl rfl) (a_ist rfl rfl)) ?_
      refine Eq.trans (Eq.trans (r_go (act := oS (fAld 36 0)) rfl rfl) (a_ald rfl)) ?_
      refine Eq.trans (Eq.trans (r_go (act := oCV 39 1 (zcv g 12) (X_X12_reads g)) rfl rfl) (a_cV rfl (zck (zO_72 g) rfl))) (zbV_cg (fun M4 => ?_))
      refine Eq.trans (Eq.trans (r_go (act := oS (fIld 40 1)) rfl rfl) (a_ild rfl)) ?_
      refine Eq.trans (Eq.trans (r_go (act := oS (fIf 43 57 cEq0)) rfl rfl) (a_if)) (bcg ?_ ?_)
      · refine Eq.trans (Eq.trans (r_go (act := oS (fAld 44 0)) rfl rfl) (a_ald rfl)) ?_
        refine Eq.trans (Eq.trans (r_go (act := oS (fGi g 47 12 16)) rfl rfl) (a_gi (zO_72 g))) ?_
        refine Eq.trans (Eq.trans (r_go (act := oS (fSt 48 (gC (.int 3)))) rfl rfl) (a_C)) ?_
        refine Eq.trans (Eq.trans (r_go (act := oS (fCm 57 51 cEq)) rfl rfl) (a_cm)) (bcg ?_ ?_)
        · exact r_cut rfl rfl
        · refine Eq.trans (Eq.trans (r_go (act := oS (fAld 52 0)) rfl rfl) (a_ald rfl)) ?_
          refine Eq.trans (Eq.trans (r_go (act := oS (fSt 53 (gC (.int 1)))) rfl rfl) (a_C)) ?_
          refine Eq.trans (Eq.trans (r_go (act := oCI 56 2 (zcv g 12) (X_X12_errs g)) rfl rfl) (a_cI rfl (zck (zO_72 g) rfl))) (zbI_cg (fun x5 M5 => ?_))
          exact Eq.trans (r_go (act := oIret) rfl rfl) (a_iret)
      · exact r_cut rfl rfl
  · refine Eq.trans (Eq.trans (r_go (act := oS (fAld 29 0)) rfl rfl) (a_ald rfl)) ?_
    refine Eq.trans (Eq.trans (r_go (act := oS (fSt 31 (gC (.int 42)))) rfl rfl) (a_C)) ?_
    refine Eq.trans (Eq.trans (r_go (act := oCI 34 2 (zcv g 12) (X_X12_isSign g)) rfl rfl) (a_cI rfl (zck (zO_72 g) rfl))) (zbI_cg (fun x6 M6 => ?_))
    refine Eq.trans (Eq.trans (r_go (act := oS (fIst 35 1)) rfl rfl) (a_ist rfl rfl)) ?_
    refine Eq.trans (Eq.trans (r_go (act := oS (fAld 36 0)) rfl rfl) (a_ald rfl)) ?_
    refine Eq.trans (Eq.trans (r_go (act := oCV 39 1 (zcv g 12) (X_X12_reads g)) rfl rfl) (a_cV rfl (zck (zO_72 g) rfl))) (zbV_cg (fun M7 => ?_))
    refine Eq.trans (Eq.trans (r_go (act := oS (fIld 40 1)) rfl rfl) (a_ild rfl)) ?_
    refine Eq.trans (Eq.trans (r_go (act := oS (fIf 43 57 cEq0)) rfl rfl) (a_if)) (bcg ?_ ?_)
    · refine Eq.trans (Eq.trans (r_go (act := oS (fAld 44 0)) rfl rfl) (a_ald rfl)) ?_
      refine Eq.trans (Eq.trans (r_go (act := oS (fGi g 47 12 16)) rfl rfl) (a_gi (zO_72 g))) ?_
      refine Eq.trans (Eq.trans (r_go (act := oS (fSt 48 (gC (.int 3)))) rfl rfl) (a_C)) ?_
      refine Eq.trans (Eq.trans (r_go (act := oS (fCm 57 51 cEq)) rfl rfl) (a_cm)) (bcg ?_ ?_)
      · exact r_cut rfl rfl
      · refine Eq.trans (Eq.trans (r_go (act := oS (fAld 52 0)) rfl rfl) (a_ald rfl)) ?_
        refine Eq.trans (Eq.trans (r_go (act := oS (fSt 53 (gC (.int 1)))) rfl rfl) (a_C)) ?_
        refine Eq.trans (Eq.trans (r_go (act := oCI 56 2 (zcv g 12) (X_X12_errs g)) rfl rfl) (a_cI rfl (zck (zO_72 g) rfl))) (zbI_cg (fun x8 M8 => ?_))
        exact Eq.trans (r_go (act := oIret) rfl rfl) (a_iret)
    · exact r_cut rfl rfl
set_option maxRecDepth 20000 in
theorem e_X12_readProduct_57 (g : zg) (a1 : Int32) (M : zM) : zX (t_X12_readProduct g) 57 [some (.ref 72), some (.int a1)] [] M = (bif cEq0 a1 then (bif cEq0 (M.1 72 17) then (zbI (X_X12_errs g [.ref 72, .int 2] M) (fun x1 M1 => some (some (.int x1), M1))) else (zbI (X_X12_readUnit g [.ref 72] M) (fun x2 M2 => (bif cEq x2 (-1) then some (some (.int (-1)), M2) else (bif cEq0 a1 then (zbV (X_X12_emits g [.ref 72, .int 5, .int 0] M2) (fun M3 => zX (t_X12_readProduct g) 10 [some (.ref 72), none] [] M3)) else (zbV (X_X12_emits g [.ref 72, .int 4, .int 0] M2) (fun M4 => zX (t_X12_readProduct g) 10 [some (.ref 72), none] [] M4))))))) else (zbI (X_X12_readUnit g [.ref 72] M) (fun x5 M5 => (bif cEq x5 (-1) then some (some (.int (-1)), M5) else (bif cEq0 a1 then (zbV (X_X12_emits g [.ref 72, .int 5, .int 0] M5) (fun M6 => zX (t_X12_readProduct g) 10 [some (.ref 72), none] [] M6)) else (zbV (X_X12_emits g [.ref 72, .int 4, .int 0] M5) (fun M7 => zX (t_X12_readProduct g) 10 [some (.ref 72), none] [] M7))))))) := by
  refine Eq.trans (zX_rgN (tl_X12_readProduct g) (hc_X12_readProduct g) 19 _ _ _ _) ?_
  refine Eq.trans (Eq.trans (Eq.trans (r_0 (act := oF [] (oS (fIld 58 1))) rfl) (a_F rfl)) (a_ild rfl)) ?_
  refine Eq.trans (Eq.trans (r_go (act := oS (fIf 61 74 cEq0)) rfl rfl) (a_if)) (bcg ?_ ?_)
  · refine Eq.trans (Eq.trans (r_go (act := oS (fAld 62 0)) rfl rfl) (a_ald rfl)) ?_
    refine Eq.trans (Eq.trans (r_go (act := oS (fGi g 65 12 17)) rfl rfl) (a_gi (zO_72 g))) ?_
    refine Eq.trans (Eq.trans (r_go (act := oS (fIf 68 74 cEq0)) rfl rfl) (a_if)) (bcg ?_ ?_)
    · refine Eq.trans (Eq.trans (r_go (act := oS (fAld 69 0)) rfl rfl) (a_ald rfl)) ?_
      refine Eq.trans (Eq.trans (r_go (act := oS (fSt 70 (gC (.int 2)))) rfl rfl) (a_C)) ?_
      refine Eq.trans (Eq.trans (r_go (act := oCI 73 2 (zcv g 12) (X_X12_errs g)) rfl rfl) (a_cI rfl (zck (zO_72 g) rfl))) (zbI_cg (fun x1 M1 => ?_))
      exact Eq.trans (r_go (act := oIret) rfl rfl) (a_iret)
    · refine Eq.trans (Eq.trans (r_go (act := oS (fAld 75 0)) rfl rfl) (a_ald rfl)) ?_
      refine Eq.trans (Eq.trans (r_go (act := oCI 78 1 (zcv g 12) (X_X12_readUnit g)) rfl rfl) (a_cI rfl (zck (zO_72 g) rfl))) (zbI_cg (fun x2 M2 => ?_))
      refine Eq.trans (Eq.trans (r_go (act := oS (fSt 79 (gC (.int (-1))))) rfl rfl) (a_C)) ?_
      refine Eq.trans (Eq.trans (r_go (act := oS (fCm 82 84 cEq)) rfl rfl) (a_cm)) (bcg ?_ ?_)
      · refine Eq.trans (Eq.trans (r_go (act := oS (fSt 83 (gC (.int (-1))))) rfl rfl) (a_C)) ?_
        exact Eq.trans (r_go (act := oIret) rfl rfl) (a_iret)
      · refine Eq.trans (Eq.trans (r_go (act := oS (fAld 85 0)) rfl rfl) (a_ald rfl)) ?_
        refine Eq.trans (Eq.trans (r_go (act := oS (fIld 86 1)) rfl rfl) (a_ild rfl)) ?_
        refine Eq.trans (Eq.trans (r_go (act := oS (fIf 93 89 cEq0)) rfl rfl) (a_if)) (bcg ?_ ?_)
        · refine Eq.trans (Eq.trans (r_go (act := oS (fSt 94 (gC (.int 5)))) rfl rfl) (a_C)) ?_
          refine Eq.trans (Eq.trans (r_go (act := oS (fSt 95 (gC (.int 0)))) rfl rfl) (a_C)) ?_
          refine Eq.trans (Eq.trans (r_go (act := oCV 98 3 (zcv g 12) (X_X12_emits g)) rfl rfl) (a_cV rfl (zck (zO_72 g) rfl))) (zbV_cg (fun M3 => ?_))
          refine Eq.trans (Eq.trans (r_go (act := oS (fGo 10)) rfl rfl) (a_goto)) ?_
          exact r_cut rfl rfl
        · refine Eq.trans (Eq.trans (r_go (act := oS (fSt 90 (gC (.int 4)))) rfl rfl) (a_C)) ?_
          refine Eq.trans (Eq.trans (r_go (act := oS (fGo 94)) rfl rfl) (a_goto)) ?_
          refine Eq.trans (Eq.trans (r_go (act := oS (fSt 95 (gC (.int 0)))) rfl rfl) (a_C)) ?_
          refine Eq.trans (Eq.trans (r_go (act := oCV 98 3 (zcv g 12) (X_X12_emits g)) rfl rfl) (a_cV rfl (zck (zO_72 g) rfl))) (zbV_cg (fun M4 => ?_))
          refine Eq.trans (Eq.trans (r_go (act := oS (fGo 10)) rfl rfl) (a_goto)) ?_
          exact r_cut rfl rfl
  · refine Eq.trans (Eq.trans (r_go (act := oS (fAld 75 0)) rfl rfl) (a_ald rfl)) ?_
    refine Eq.trans (Eq.trans (r_go (act := oCI 78 1 (zcv g 12) (X_X12_readUnit g)) rfl rfl) (a_cI rfl (zck (zO_72 g) rfl))) (zbI_cg (fun x5 M5 => ?_))
    refine Eq.trans (Eq.trans (r_go (act := oS (fSt 79 (gC (.int (-1))))) rfl rfl) (a_C)) ?_
    refine Eq.trans (Eq.trans (r_go (act := oS (fCm 82 84 cEq)) rfl rfl) (a_cm)) (bcg ?_ ?_)
    · refine Eq.trans (Eq.trans (r_go (act := oS (fSt 83 (gC (.int (-1))))) rfl rfl) (a_C)) ?_
      exact Eq.trans (r_go (act := oIret) rfl rfl) (a_iret)
    · refine Eq.trans (Eq.trans (r_go (act := oS (fAld 85 0)) rfl rfl) (a_ald rfl)) ?_
      refine Eq.trans (Eq.trans (r_go (act := oS (fIld 86 1)) rfl rfl) (a_ild rfl)) ?_
      refine Eq.trans (Eq.trans (r_go (act := oS (fIf 93 89 cEq0)) rfl rfl) (a_if)) (bcg ?_ ?_)
      · refine Eq.trans (Eq.trans (r_go (act := oS (fSt 94 (gC (.int 5)))) rfl rfl) (a_C)) ?_
        refine Eq.trans (Eq.trans (r_go (act := oS (fSt 95 (gC (.int 0)))) rfl rfl) (a_C)) ?_
        refine Eq.trans (Eq.trans (r_go (act := oCV 98 3 (zcv g 12) (X_X12_emits g)) rfl rfl) (a_cV rfl (zck (zO_72 g) rfl))) (zbV_cg (fun M6 => ?_))
        refine Eq.trans (Eq.trans (r_go (act := oS (fGo 10)) rfl rfl) (a_goto)) ?_
        exact r_cut rfl rfl
      · refine Eq.trans (Eq.trans (r_go (act := oS (fSt 90 (gC (.int 4)))) rfl rfl) (a_C)) ?_
        refine Eq.trans (Eq.trans (r_go (act := oS (fGo 94)) rfl rfl) (a_goto)) ?_
        refine Eq.trans (Eq.trans (r_go (act := oS (fSt 95 (gC (.int 0)))) rfl rfl) (a_C)) ?_
        refine Eq.trans (Eq.trans (r_go (act := oCV 98 3 (zcv g 12) (X_X12_emits g)) rfl rfl) (a_cV rfl (zck (zO_72 g) rfl))) (zbV_cg (fun M7 => ?_))
        refine Eq.trans (Eq.trans (r_go (act := oS (fGo 10)) rfl rfl) (a_goto)) ?_
        exact r_cut rfl rfl
set_option maxRecDepth 20000 in
theorem e_X12_readSum_0 (g : zg) (M : zM) : zX (t_X12_readSum g) 0 [some (.ref 72), none] [] M = (zbI (X_X12_readProduct g [.ref 72] M) (fun x1 M1 => (bif cEq x1 (-1) then some (some (.int (-1)), M1) else zX (t_X12_readSum g) 10 [some (.ref 72), none] [] M1))) := by
  refine Eq.trans (zX_rgN (tl_X12_readSum g) (hc_X12_readSum g) 7 _ _ _ _) ?_
  refine Eq.trans (Eq.trans (r_0 (act := oS (fAld 1 0)) rfl) (a_ald rfl)) ?_
  refine Eq.trans (Eq.trans (r_go (act := oCI 4 1 (zcv g 12) (X_X12_readProduct g)) rfl rfl) (a_cI rfl (zck (zO_72 g) rfl))) (zbI_cg (fun x1 M1 => ?_))
  refine Eq.trans (Eq.trans (r_go (act := oS (fSt 5 (gC (.int (-1))))) rfl rfl) (a_C)) ?_
  refine Eq.trans (Eq.trans (r_go (act := oS (fCm 8 10 cEq)) rfl rfl) (a_cm)) (bcg ?_ ?_)
  · refine Eq.trans (Eq.trans (r_go (act := oS (fSt 9 (gC (.int (-1))))) rfl rfl) (a_C)) ?_
    exact Eq.trans (r_go (act := oIret) rfl rfl) (a_iret)
  · exact r_cut rfl rfl
theorem x_X12_readSum_0 (g : zg) (M : zM) : X_X12_readSum g [.ref 72] M = (zbI (X_X12_readProduct g [.ref 72] M) (fun x1 M1 => (bif cEq x1 (-1) then some (some (.int (-1)), M1) else zX (t_X12_readSum g) 10 [some (.ref 72), none] [] M1))) := e_X12_readSum_0 g M
set_option maxRecDepth 20000 in
theorem e_X12_readSum_10 (g : zg) (M : zM) : zX (t_X12_readSum g) 10 [some (.ref 72), none] [] M = (zbI (X_X12_isSign g [.ref 72, .int 43] M) (fun x1 M1 => (bif cEq0 x1 then (zbI (X_X12_isSign g [.ref 72, .int 45] M1) (fun x2 M2 => (bif cEq0 x2 then some (some (.int 0), M2) else zX (t_X12_readSum g) 28 [some (.ref 72), none] [] M2))) else zX (t_X12_readSum g) 28 [some (.ref 72), none] [] M1))) := by
  refine Eq.trans (zX_rgN (tl_X12_readSum g) (hc_X12_readSum g) 11 _ _ _ _) ?_
  refine Eq.trans (Eq.trans (Eq.trans (r_0 (act := oF [1] (oS (fAld 11 0))) rfl) (a_F rfl)) (a_ald rfl)) ?_
  refine Eq.trans (Eq.trans (r_go (act := oS (fSt 13 (gC (.int 43)))) rfl rfl) (a_C)) ?_
  refine Eq.trans (Eq.trans (r_go (act := oCI 16 2 (zcv g 12) (X_X12_isSign g)) rfl rfl) (a_cI rfl (zck (zO_72 g) rfl))) (zbI_cg (fun x1 M1 => ?_))
  refine Eq.trans (Eq.trans (r_go (act := oS (fIf 19 28 cEq0)) rfl rfl) (a_if)) (bcg ?_ ?_)
  · refine Eq.trans (Eq.trans (r_go (act := oS (fAld 20 0)) rfl rfl) (a_ald rfl)) ?_
    refine Eq.trans (Eq.trans (r_go (act := oS (fSt 22 (gC (.int 45)))) rfl rfl) (a_C)) ?_
    refine Eq.trans (Eq.trans (r_go (act := oCI 25 2 (zcv g 12) (X_X12_isSign g)) rfl rfl) (a_cI rfl (zck (zO_72 g) rfl))) (zbI_cg (fun x2 M2 => ?_))
    refine Eq.trans (Eq.trans (r_go (act := oS (fIf 66 28 cEq0)) rfl rfl) (a_if)) (bcg ?_ ?_)
    · refine Eq.trans (Eq.trans (r_go (act := oS (fSt 67 (gC (.int 0)))) rfl rfl) (a_C)) ?_
      exact Eq.trans (r_go (act := oIret) rfl rfl) (a_iret)
    · exact r_cut rfl rfl
  · exact r_cut rfl rfl
set_option maxRecDepth 20000 in
theorem e_X12_readSum_28 (g : zg) (M : zM) : zX (t_X12_readSum g) 28 [some (.ref 72), none] [] M = (bif cEq (M.1 72 17) 43 then (zbV (X_X12_reads g [.ref 72] M) (fun M1 => (zbI (X_X12_readProduct g [.ref 72] M1) (fun x2 M2 => (bif cEq x2 (-1) then some (some (.int (-1)), M2) else (zbV (X_X12_emits g [.ref 72, .int 2, .int 0] M2) (fun M3 => zX (t_X12_readSum g) 10 [some (.ref 72), none] [] M3))))))) else (zbV (X_X12_reads g [.ref 72] M) (fun M4 => (zbI (X_X12_readProduct g [.ref 72] M4) (fun x5 M5 => (bif cEq x5 (-1) then some (some (.int (-1)), M5) else (zbV (X_X12_emits g [.ref 72, .int 3, .int 0] M5) (fun M6 => zX (t_X12_readSum g) 10 [some (.ref 72), none] [] M6)))))))) := by
  refine Eq.trans (zX_rgN (tl_X12_readSum g) (hc_X12_readSum g) 20 _ _ _ _) ?_
  refine Eq.trans (Eq.trans (Eq.trans (r_0 (act := oF [1] (oS (fAld 29 0))) rfl) (a_F rfl)) (a_ald rfl)) ?_
  refine Eq.trans (Eq.trans (r_go (act := oS (fGi g 32 12 17)) rfl rfl) (a_gi (zO_72 g))) ?_
  refine Eq.trans (Eq.trans (r_go (act := oS (fSt 34 (gC (.int 43)))) rfl rfl) (a_C)) ?_
  refine Eq.trans (Eq.trans (r_go (act := oS (fCm 37 41 cEq)) rfl rfl) (a_cm)) (bcg ?_ ?_)
  · refine Eq.trans (Eq.trans (r_go (act := oS (fSt 38 (gC (.int 2)))) rfl rfl) (a_C)) ?_
    refine Eq.trans (Eq.trans (r_go (act := oS (fGo 42)) rfl rfl) (a_goto)) ?_
    refine Eq.trans (Eq.trans (r_go (act := oS (fIst 43 1)) rfl rfl) (a_ist rfl rfl)) ?_
    refine Eq.trans (Eq.trans (r_go (act := oS (fAld 44 0)) rfl rfl) (a_ald rfl)) ?_
    refine Eq.trans (Eq.trans (r_go (act := oCV 47 1 (zcv g 12) (X_X12_reads g)) rfl rfl) (a_cV rfl (zck (zO_72 g) rfl))) (zbV_cg (fun M1 => ?_))
    refine Eq.trans (Eq.trans (r_go (act := oS (fAld 48 0)) rfl rfl) (a_ald rfl)) ?_
    refine Eq.trans (Eq.trans (r_go (act := oCI 51 1 (zcv g 12) (X_X12_readProduct g)) rfl rfl) (a_cI rfl (zck (zO_72 g) rfl))) (zbI_cg (fun x2 M2 => ?_))
    refine Eq.trans (Eq.trans (r_go (act := oS (fSt 52 (gC (.int (-1))))) rfl rfl) (a_C)) ?_
    refine Eq.trans (Eq.trans (r_go (act := oS (fCm 55 57 cEq)) rfl rfl) (a_cm)) (bcg ?_ ?_)
    · refine Eq.trans (Eq.trans (r_go (act := oS (fSt 56 (gC (.int (-1))))) rfl rfl) (a_C)) ?_
      exact Eq.trans (r_go (act := oIret) rfl rfl) (a_iret)
    · refine Eq.trans (Eq.trans (r_go (act := oS (fAld 58 0)) rfl rfl) (a_ald rfl)) ?_
      refine Eq.trans (Eq.trans (r_go (act := oS (fIld 59 1)) rfl rfl) (a_ild rfl)) ?_
      refine Eq.trans (Eq.trans (r_go (act := oS (fSt 60 (gC (.int 0)))) rfl rfl) (a_C)) ?_
      refine Eq.trans (Eq.trans (r_go (act := oCV 63 3 (zcv g 12) (X_X12_emits g)) rfl rfl) (a_cV rfl (zck (zO_72 g) rfl))) (zbV_cg (fun M3 => ?_))
      refine Eq.trans (Eq.trans (r_go (act := oS (fGo 10)) rfl rfl) (a_goto)) ?_
      exact r_cut rfl rfl
  · refine Eq.trans (Eq.trans (r_go (act := oS (fSt 42 (gC (.int 3)))) rfl rfl) (a_C)) ?_
    refine Eq.trans (Eq.trans (r_go (act := oS (fIst 43 1)) rfl rfl) (a_ist rfl rfl)) ?_
    refine Eq.trans (Eq.trans (r_go (act := oS (fAld 44 0)) rfl rfl) (a_ald rfl)) ?_
    refine Eq.trans (Eq.trans (r_go (act := oCV 47 1 (zcv g 12) (X_X12_reads g)) rfl rfl) (a_cV rfl (zck (zO_72 g) rfl))) (zbV_cg (fun M4 => ?_))
    refine Eq.trans (Eq.trans (r_go (act := oS (fAld 48 0)) rfl rfl) (a_ald rfl)) ?_
    refine Eq.trans (Eq.trans (r_go (act := oCI 51 1 (zcv g 12) (X_X12_readProduct g)) rfl rfl) (a_cI rfl (zck (zO_72 g) rfl))) (zbI_cg (fun x5 M5 => ?_))
    refine Eq.trans (Eq.trans (r_go (act := oS (fSt 52 (gC (.int (-1))))) rfl rfl) (a_C)) ?_
    refine Eq.trans (Eq.trans (r_go (act := oS (fCm 55 57 cEq)) rfl rfl) (a_cm)) (bcg ?_ ?_)
    · refine Eq.trans (Eq.trans (r_go (act := oS (fSt 56 (gC (.int (-1))))) rfl rfl) (a_C)) ?_
      exact Eq.trans (r_go (act := oIret) rfl rfl) (a_iret)
    · refine Eq.trans (Eq.trans (r_go (act := oS (fAld 58 0)) rfl rfl) (a_ald rfl)) ?_
      refine Eq.trans (Eq.trans (r_go (act := oS (fIld 59 1)) rfl rfl) (a_ild rfl)) ?_
      refine Eq.trans (Eq.trans (r_go (act := oS (fSt 60 (gC (.int 0)))) rfl rfl) (a_C)) ?_
      refine Eq.trans (Eq.trans (r_go (act := oCV 63 3 (zcv g 12) (X_X12_emits g)) rfl rfl) (a_cV rfl (zck (zO_72 g) rfl))) (zbV_cg (fun M6 => ?_))
      refine Eq.trans (Eq.trans (r_go (act := oS (fGo 10)) rfl rfl) (a_goto)) ?_
      exact r_cut rfl rfl
set_option maxRecDepth 20000 in
theorem e_X12_waits_0 (g : zg) (a1 : Int32) (M : zM) : zX (t_X12_waits g) 0 [some (.ref 72), some (.int a1)] [] M = (bif zb (M.1 72 30) 40 then some (none, ((zu (zu M.1 88 (zx (M.1 72 30)) a1) 72 30 ((M.1 72 30) + 1)), M.2)) else none) := by
  refine Eq.trans (zX_rgN (tl_X12_waits g) (hc_X12_waits g) 14 _ _ _ _) ?_
  refine Eq.trans (Eq.trans (r_0 (act := oS (fAld 1 0)) rfl) (a_ald rfl)) ?_
  refine Eq.trans (Eq.trans (r_go (act := oS (fGr g 4 12 29)) rfl rfl) (a_gr (zO_72 g) (zR_72_29 g))) ?_
  refine Eq.trans (Eq.trans (r_go (act := oS (fAld 5 0)) rfl rfl) (a_ald rfl)) ?_
  refine Eq.trans (Eq.trans (r_go (act := oS (fGi g 8 12 30)) rfl rfl) (a_gi (zO_72 g))) ?_
  refine Eq.trans (Eq.trans (r_go (act := oS (fIld 9 1)) rfl rfl) (a_ild rfl)) ?_
  refine Eq.trans (Eq.trans (r_go (act := oS (fIs g 10)) rfl rfl) (a_is (zA_88 g) zS_88)) (bcg ?_ rfl)
  refine Eq.trans (Eq.trans (r_go (act := oS (fAld 11 0)) rfl rfl) (a_ald rfl)) ?_
  refine Eq.trans (Eq.trans (r_go (act := oS (fAld 12 0)) rfl rfl) (a_ald rfl)) ?_
  refine Eq.trans (Eq.trans (r_go (act := oS (fGi g 15 12 30)) rfl rfl) (a_giV (zO_72 g) rfl)) ?_
  refine Eq.trans (Eq.trans (r_go (act := oS (fSt 16 (gC (.int 1)))) rfl rfl) (a_C)) ?_
  refine Eq.trans (Eq.trans (r_go (act := oS (fSt 17 (g2 (fun x y => x + y)))) rfl rfl) (a_add)) ?_
  refine Eq.trans (Eq.trans (r_go (act := oS (fPi g 20 12 30)) rfl rfl) (a_pi (zO_72 g))) ?_
  exact Eq.trans (r_go (act := oVret) rfl rfl) (a_vret)
theorem x_X12_waits_0 (g : zg) (a1 : Int32) (M : zM) : X_X12_waits g [.ref 72, .int a1] M = (bif zb (M.1 72 30) 40 then some (none, ((zu (zu M.1 88 (zx (M.1 72 30)) a1) 72 30 ((M.1 72 30) + 1)), M.2)) else none) := e_X12_waits_0 g a1 M
set_option maxRecDepth 20000 in
theorem e_X12_readCompared_0 (g : zg) (M : zM) : zX (t_X12_readCompared g) 0 [some (.ref 72), none] [] M = (zbI (X_X12_readSum g [.ref 72] M) (fun x1 M1 => (bif cEq x1 (-1) then some (some (.int (-1)), M1) else (zbI (X_X12_isSign g [.ref 72, .int 60] M1) (fun x2 M2 => (bif cEq0 x2 then (zbI (X_X12_isSign g [.ref 72, .int 61] M2) (fun x3 M3 => (bif cEq0 x3 then (zbI (X_X12_isSign g [.ref 72, .int 62] M3) (fun x4 M4 => (bif cEq0 x4 then (zbI (X_X12_errs g [.ref 72, .int 1] M4) (fun x5 M5 => some (some (.int x5), M5))) else zX (t_X12_readCompared g) 43 [some (.ref 72), none] [] M4))) else zX (t_X12_readCompared g) 43 [some (.ref 72), none] [] M3))) else zX (t_X12_readCompared g) 43 [some (.ref 72), none] [] M2)))))) := by
  refine Eq.trans (zX_rgN (tl_X12_readCompared g) (hc_X12_readCompared g) 21 _ _ _ _) ?_
  refine Eq.trans (Eq.trans (r_0 (act := oS (fAld 1 0)) rfl) (a_ald rfl)) ?_
  refine Eq.trans (Eq.trans (r_go (act := oCI 4 1 (zcv g 12) (X_X12_readSum g)) rfl rfl) (a_cI rfl (zck (zO_72 g) rfl))) (zbI_cg (fun x1 M1 => ?_))
  refine Eq.trans (Eq.trans (r_go (act := oS (fSt 5 (gC (.int (-1))))) rfl rfl) (a_C)) ?_
  refine Eq.trans (Eq.trans (r_go (act := oS (fCm 8 10 cEq)) rfl rfl) (a_cm)) (bcg ?_ ?_)
  · refine Eq.trans (Eq.trans (r_go (act := oS (fSt 9 (gC (.int (-1))))) rfl rfl) (a_C)) ?_
    exact Eq.trans (r_go (act := oIret) rfl rfl) (a_iret)
  · refine Eq.trans (Eq.trans (r_go (act := oS (fAld 11 0)) rfl rfl) (a_ald rfl)) ?_
    refine Eq.trans (Eq.trans (r_go (act := oS (fSt 13 (gC (.int 60)))) rfl rfl) (a_C)) ?_
    refine Eq.trans (Eq.trans (r_go (act := oCI 16 2 (zcv g 12) (X_X12_isSign g)) rfl rfl) (a_cI rfl (zck (zO_72 g) rfl))) (zbI_cg (fun x2 M2 => ?_))
    refine Eq.trans (Eq.trans (r_go (act := oS (fIf 19 43 cEq0)) rfl rfl) (a_if)) (bcg ?_ ?_)
    · refine Eq.trans (Eq.trans (r_go (act := oS (fAld 20 0)) rfl rfl) (a_ald rfl)) ?_
      refine Eq.trans (Eq.trans (r_go (act := oS (fSt 22 (gC (.int 61)))) rfl rfl) (a_C)) ?_
      refine Eq.trans (Eq.trans (r_go (act := oCI 25 2 (zcv g 12) (X_X12_isSign g)) rfl rfl) (a_cI rfl (zck (zO_72 g) rfl))) (zbI_cg (fun x3 M3 => ?_))
      refine Eq.trans (Eq.trans (r_go (act := oS (fIf 28 43 cEq0)) rfl rfl) (a_if)) (bcg ?_ ?_)
      · refine Eq.trans (Eq.trans (r_go (act := oS (fAld 29 0)) rfl rfl) (a_ald rfl)) ?_
        refine Eq.trans (Eq.trans (r_go (act := oS (fSt 31 (gC (.int 62)))) rfl rfl) (a_C)) ?_
        refine Eq.trans (Eq.trans (r_go (act := oCI 34 2 (zcv g 12) (X_X12_isSign g)) rfl rfl) (a_cI rfl (zck (zO_72 g) rfl))) (zbI_cg (fun x4 M4 => ?_))
        refine Eq.trans (Eq.trans (r_go (act := oS (fIf 37 43 cEq0)) rfl rfl) (a_if)) (bcg ?_ ?_)
        · refine Eq.trans (Eq.trans (r_go (act := oS (fAld 38 0)) rfl rfl) (a_ald rfl)) ?_
          refine Eq.trans (Eq.trans (r_go (act := oS (fSt 39 (gC (.int 1)))) rfl rfl) (a_C)) ?_
          refine Eq.trans (Eq.trans (r_go (act := oCI 42 2 (zcv g 12) (X_X12_errs g)) rfl rfl) (a_cI rfl (zck (zO_72 g) rfl))) (zbI_cg (fun x5 M5 => ?_))
          exact Eq.trans (r_go (act := oIret) rfl rfl) (a_iret)
        · exact r_cut rfl rfl
      · exact r_cut rfl rfl
    · exact r_cut rfl rfl
theorem x_X12_readCompared_0 (g : zg) (M : zM) : X_X12_readCompared g [.ref 72] M = (zbI (X_X12_readSum g [.ref 72] M) (fun x1 M1 => (bif cEq x1 (-1) then some (some (.int (-1)), M1) else (zbI (X_X12_isSign g [.ref 72, .int 60] M1) (fun x2 M2 => (bif cEq0 x2 then (zbI (X_X12_isSign g [.ref 72, .int 61] M2) (fun x3 M3 => (bif cEq0 x3 then (zbI (X_X12_isSign g [.ref 72, .int 62] M3) (fun x4 M4 => (bif cEq0 x4 then (zbI (X_X12_errs g [.ref 72, .int 1] M4) (fun x5 M5 => some (some (.int x5), M5))) else zX (t_X12_readCompared g) 43 [some (.ref 72), none] [] M4))) else zX (t_X12_readCompared g) 43 [some (.ref 72), none] [] M3))) else zX (t_X12_readCompared g) 43 [some (.ref 72), none] [] M2)))))) := e_X12_readCompared_0 g M
set_option maxRecDepth 20000 in
theorem e_X12_readCompared_43 (g : zg) (M : zM) : zX (t_X12_readCompared g) 43 [some (.ref 72), none] [] M = (bif cEq (M.1 72 17) 60 then (zbV (X_X12_reads g [.ref 72] M) (fun M1 => (zbI (X_X12_readSum g [.ref 72] M1) (fun x2 M2 => (bif cEq x2 (-1) then some (some (.int (-1)), M2) else (zbV (X_X12_emits g [.ref 72, .int 6, .int 0] M2) (fun M3 => some (some (.int 0), M3)))))))) else (bif cEq (M.1 72 17) 61 then (zbV (X_X12_reads g [.ref 72] M) (fun M4 => (zbI (X_X12_readSum g [.ref 72] M4) (fun x5 M5 => (bif cEq x5 (-1) then some (some (.int (-1)), M5) else (zbV (X_X12_emits g [.ref 72, .int 7, .int 0] M5) (fun M6 => some (some (.int 0), M6)))))))) else (zbV (X_X12_reads g [.ref 72] M) (fun M7 => (zbI (X_X12_readSum g [.ref 72] M7) (fun x8 M8 => (bif cEq x8 (-1) then some (some (.int (-1)), M8) else (zbV (X_X12_emits g [.ref 72, .int 8, .int 0] M8) (fun M9 => some (some (.int 0), M9)))))))))) := by
  refine Eq.trans (zX_rgN (tl_X12_readCompared g) (hc_X12_readCompared g) 24 _ _ _ _) ?_
  refine Eq.trans (Eq.trans (Eq.trans (r_0 (act := oF [1] (oS (fAld 44 0))) rfl) (a_F rfl)) (a_ald rfl)) ?_
  refine Eq.trans (Eq.trans (r_go (act := oS (fGi g 47 12 17)) rfl rfl) (a_gi (zO_72 g))) ?_
  refine Eq.trans (Eq.trans (r_go (act := oS (fSt 49 (gC (.int 60)))) rfl rfl) (a_C)) ?_
  refine Eq.trans (Eq.trans (r_go (act := oS (fCm 52 57 cEq)) rfl rfl) (a_cm)) (bcg ?_ ?_)
  · refine Eq.trans (Eq.trans (r_go (act := oS (fSt 54 (gC (.int 6)))) rfl rfl) (a_C)) ?_
    refine Eq.trans (Eq.trans (r_go (act := oS (fGo 73)) rfl rfl) (a_goto)) ?_
    refine Eq.trans (Eq.trans (r_go (act := oS (fIst 74 1)) rfl rfl) (a_ist rfl rfl)) ?_
    refine Eq.trans (Eq.trans (r_go (act := oS (fAld 75 0)) rfl rfl) (a_ald rfl)) ?_
    refine Eq.trans (Eq.trans (r_go (act := oCV 78 1 (zcv g 12) (X_X12_reads g)) rfl rfl) (a_cV rfl (zck (zO_72 g) rfl))) (zbV_cg (fun M1 => ?_))
    refine Eq.trans (Eq.trans (r_go (act := oS (fAld 79 0)) rfl rfl) (a_ald rfl)) ?_
    refine Eq.trans (Eq.trans (r_go (act := oCI 82 1 (zcv g 12) (X_X12_readSum g)) rfl rfl) (a_cI rfl (zck (zO_72 g) rfl))) (zbI_cg (fun x2 M2 => ?_))
    refine Eq.trans (Eq.trans (r_go (act := oS (fSt 83 (gC (.int (-1))))) rfl rfl) (a_C)) ?_
    refine Eq.trans (Eq.trans (r_go (act := oS (fCm 86 88 cEq)) rfl rfl) (a_cm)) (bcg ?_ ?_)
    · refine Eq.trans (Eq.trans (r_go (act := oS (fSt 87 (gC (.int (-1))))) rfl rfl) (a_C)) ?_
      exact Eq.trans (r_go (act := oIret) rfl rfl) (a_iret)
    · refine Eq.trans (Eq.trans (r_go (act := oS (fAld 89 0)) rfl rfl) (a_ald rfl)) ?_
      refine Eq.trans (Eq.trans (r_go (act := oS (fIld 90 1)) rfl rfl) (a_ild rfl)) ?_
      refine Eq.trans (Eq.trans (r_go (act := oS (fSt 91 (gC (.int 0)))) rfl rfl) (a_C)) ?_
      refine Eq.trans (Eq.trans (r_go (act := oCV 94 3 (zcv g 12) (X_X12_emits g)) rfl rfl) (a_cV rfl (zck (zO_72 g) rfl))) (zbV_cg (fun M3 => ?_))
      refine Eq.trans (Eq.trans (r_go (act := oS (fSt 95 (gC (.int 0)))) rfl rfl) (a_C)) ?_
      exact Eq.trans (r_go (act := oIret) rfl rfl) (a_iret)
  · refine Eq.trans (Eq.trans (r_go (act := oS (fAld 58 0)) rfl rfl) (a_ald rfl)) ?_
    refine Eq.trans (Eq.trans (r_go (act := oS (fGi g 61 12 17)) rfl rfl) (a_gi (zO_72 g))) ?_
    refine Eq.trans (Eq.trans (r_go (act := oS (fSt 63 (gC (.int 61)))) rfl rfl) (a_C)) ?_
    refine Eq.trans (Eq.trans (r_go (act := oS (fCm 66 71 cEq)) rfl rfl) (a_cm)) (bcg ?_ ?_)
    · refine Eq.trans (Eq.trans (r_go (act := oS (fSt 68 (gC (.int 7)))) rfl rfl) (a_C)) ?_
      refine Eq.trans (Eq.trans (r_go (act := oS (fGo 73)) rfl rfl) (a_goto)) ?_
      refine Eq.trans (Eq.trans (r_go (act := oS (fIst 74 1)) rfl rfl) (a_ist rfl rfl)) ?_
      refine Eq.trans (Eq.trans (r_go (act := oS (fAld 75 0)) rfl rfl) (a_ald rfl)) ?_
      refine Eq.trans (Eq.trans (r_go (act := oCV 78 1 (zcv g 12) (X_X12_reads g)) rfl rfl) (a_cV rfl (zck (zO_72 g) rfl))) (zbV_cg (fun M4 => ?_))
      refine Eq.trans (Eq.trans (r_go (act := oS (fAld 79 0)) rfl rfl) (a_ald rfl)) ?_
      refine Eq.trans (Eq.trans (r_go (act := oCI 82 1 (zcv g 12) (X_X12_readSum g)) rfl rfl) (a_cI rfl (zck (zO_72 g) rfl))) (zbI_cg (fun x5 M5 => ?_))
      refine Eq.trans (Eq.trans (r_go (act := oS (fSt 83 (gC (.int (-1))))) rfl rfl) (a_C)) ?_
      refine Eq.trans (Eq.trans (r_go (act := oS (fCm 86 88 cEq)) rfl rfl) (a_cm)) (bcg ?_ ?_)
      · refine Eq.trans (Eq.trans (r_go (act := oS (fSt 87 (gC (.int (-1))))) rfl rfl) (a_C)) ?_
        exact Eq.trans (r_go (act := oIret) rfl rfl) (a_iret)
      · refine Eq.trans (Eq.trans (r_go (act := oS (fAld 89 0)) rfl rfl) (a_ald rfl)) ?_
        refine Eq.trans (Eq.trans (r_go (act := oS (fIld 90 1)) rfl rfl) (a_ild rfl)) ?_
        refine Eq.trans (Eq.trans (r_go (act := oS (fSt 91 (gC (.int 0)))) rfl rfl) (a_C)) ?_
        refine Eq.trans (Eq.trans (r_go (act := oCV 94 3 (zcv g 12) (X_X12_emits g)) rfl rfl) (a_cV rfl (zck (zO_72 g) rfl))) (zbV_cg (fun M6 => ?_))
        refine Eq.trans (Eq.trans (r_go (act := oS (fSt 95 (gC (.int 0)))) rfl rfl) (a_C)) ?_
        exact Eq.trans (r_go (act := oIret) rfl rfl) (a_iret)
    · refine Eq.trans (Eq.trans (r_go (act := oS (fSt 73 (gC (.int 8)))) rfl rfl) (a_C)) ?_
      refine Eq.trans (Eq.trans (r_go (act := oS (fIst 74 1)) rfl rfl) (a_ist rfl rfl)) ?_
      refine Eq.trans (Eq.trans (r_go (act := oS (fAld 75 0)) rfl rfl) (a_ald rfl)) ?_
      refine Eq.trans (Eq.trans (r_go (act := oCV 78 1 (zcv g 12) (X_X12_reads g)) rfl rfl) (a_cV rfl (zck (zO_72 g) rfl))) (zbV_cg (fun M7 => ?_))
      refine Eq.trans (Eq.trans (r_go (act := oS (fAld 79 0)) rfl rfl) (a_ald rfl)) ?_
      refine Eq.trans (Eq.trans (r_go (act := oCI 82 1 (zcv g 12) (X_X12_readSum g)) rfl rfl) (a_cI rfl (zck (zO_72 g) rfl))) (zbI_cg (fun x8 M8 => ?_))
      refine Eq.trans (Eq.trans (r_go (act := oS (fSt 83 (gC (.int (-1))))) rfl rfl) (a_C)) ?_
      refine Eq.trans (Eq.trans (r_go (act := oS (fCm 86 88 cEq)) rfl rfl) (a_cm)) (bcg ?_ ?_)
      · refine Eq.trans (Eq.trans (r_go (act := oS (fSt 87 (gC (.int (-1))))) rfl rfl) (a_C)) ?_
        exact Eq.trans (r_go (act := oIret) rfl rfl) (a_iret)
      · refine Eq.trans (Eq.trans (r_go (act := oS (fAld 89 0)) rfl rfl) (a_ald rfl)) ?_
        refine Eq.trans (Eq.trans (r_go (act := oS (fIld 90 1)) rfl rfl) (a_ild rfl)) ?_
        refine Eq.trans (Eq.trans (r_go (act := oS (fSt 91 (gC (.int 0)))) rfl rfl) (a_C)) ?_
        refine Eq.trans (Eq.trans (r_go (act := oCV 94 3 (zcv g 12) (X_X12_emits g)) rfl rfl) (a_cV rfl (zck (zO_72 g) rfl))) (zbV_cg (fun M9 => ?_))
        refine Eq.trans (Eq.trans (r_go (act := oS (fSt 95 (gC (.int 0)))) rfl rfl) (a_C)) ?_
        exact Eq.trans (r_go (act := oIret) rfl rfl) (a_iret)
set_option maxRecDepth 20000 in
theorem e_X12_settles_0 (g : zg) (a1 : Int32) (M : zM) : zX (t_X12_settles g) 0 [some (.ref 72), some (.int a1)] [] M = (bif cGt0 (M.1 72 30) then (bif zb ((M.1 72 30) - 1) 40 then (bif cEq (M.1 88 (zx ((M.1 72 30) - 1))) a1 then (zbV (X_X12_emits g [.ref 72, .int a1, .int 0] ((zu M.1 72 30 ((M.1 72 30) - 1)), M.2)) (fun M1 => (bif cEq a1 9 then zX (t_X12_settles g) 0 [some (.ref 72), some (.int a1)] [] ((zu M1.1 72 28 ((M1.1 72 28) - 1)), M1.2) else zX (t_X12_settles g) 0 [some (.ref 72), some (.int a1)] [] M1))) else some (none, M)) else none) else some (none, M)) := by
  refine Eq.trans (zX_rgN (tl_X12_settles g) (hc_X12_settles g) 34 _ _ _ _) ?_
  refine Eq.trans (Eq.trans (Eq.trans (r_0 (act := oF [] (oS (fAld 1 0))) rfl) (a_F rfl)) (a_ald rfl)) ?_
  refine Eq.trans (Eq.trans (r_go (act := oS (fGi g 4 12 30)) rfl rfl) (a_gi (zO_72 g))) ?_
  refine Eq.trans (Eq.trans (r_go (act := oS (fIf 7 57 cGt0)) rfl rfl) (a_if)) (bcg ?_ ?_)
  · refine Eq.trans (Eq.trans (r_go (act := oS (fAld 8 0)) rfl rfl) (a_ald rfl)) ?_
    refine Eq.trans (Eq.trans (r_go (act := oS (fGr g 11 12 29)) rfl rfl) (a_gr (zO_72 g) (zR_72_29 g))) ?_
    refine Eq.trans (Eq.trans (r_go (act := oS (fAld 12 0)) rfl rfl) (a_ald rfl)) ?_
    refine Eq.trans (Eq.trans (r_go (act := oS (fGi g 15 12 30)) rfl rfl) (a_gi (zO_72 g))) ?_
    refine Eq.trans (Eq.trans (r_go (act := oS (fSt 16 (gC (.int 1)))) rfl rfl) (a_C)) ?_
    refine Eq.trans (Eq.trans (r_go (act := oS (fSt 17 (g2 (fun x y => x - y)))) rfl rfl) (a_sub)) ?_
    refine Eq.trans (Eq.trans (r_go (act := oS (fIa g 18)) rfl rfl) (a_ia (zA_88 g) zS_88)) (bcg ?_ rfl)
    refine Eq.trans (Eq.trans (r_go (act := oS (fIld 19 1)) rfl rfl) (a_ild rfl)) ?_
    refine Eq.trans (Eq.trans (r_go (act := oS (fCm 22 57 cEq)) rfl rfl) (a_cm)) (bcg ?_ ?_)
    · refine Eq.trans (Eq.trans (r_go (act := oS (fAld 23 0)) rfl rfl) (a_ald rfl)) ?_
      refine Eq.trans (Eq.trans (r_go (act := oS (fAld 24 0)) rfl rfl) (a_ald rfl)) ?_
      refine Eq.trans (Eq.trans (r_go (act := oS (fGi g 27 12 30)) rfl rfl) (a_gi (zO_72 g))) ?_
      refine Eq.trans (Eq.trans (r_go (act := oS (fSt 28 (gC (.int 1)))) rfl rfl) (a_C)) ?_
      refine Eq.trans (Eq.trans (r_go (act := oS (fSt 29 (g2 (fun x y => x - y)))) rfl rfl) (a_sub)) ?_
      refine Eq.trans (Eq.trans (r_go (act := oS (fPi g 32 12 30)) rfl rfl) (a_pi (zO_72 g))) ?_
      refine Eq.trans (Eq.trans (r_go (act := oS (fAld 33 0)) rfl rfl) (a_ald rfl)) ?_
      refine Eq.trans (Eq.trans (r_go (act := oS (fIld 34 1)) rfl rfl) (a_ild rfl)) ?_
      refine Eq.trans (Eq.trans (r_go (act := oS (fSt 35 (gC (.int 0)))) rfl rfl) (a_C)) ?_
      refine Eq.trans (Eq.trans (r_go (act := oCV 38 3 (zcv g 12) (X_X12_emits g)) rfl rfl) (a_cV rfl (zck (zO_72 g) rfl))) (zbV_cg (fun M1 => ?_))
      refine Eq.trans (Eq.trans (r_go (act := oS (fIld 39 1)) rfl rfl) (a_ild rfl)) ?_
      refine Eq.trans (Eq.trans (r_go (act := oS (fSt 41 (gC (.int 9)))) rfl rfl) (a_C)) ?_
      refine Eq.trans (Eq.trans (r_go (act := oS (fCm 44 0 cEq)) rfl rfl) (a_cm)) (bcg ?_ ?_)
      · refine Eq.trans (Eq.trans (r_go (act := oS (fAld 45 0)) rfl rfl) (a_ald rfl)) ?_
        refine Eq.trans (Eq.trans (r_go (act := oS (fAld 46 0)) rfl rfl) (a_ald rfl)) ?_
        refine Eq.trans (Eq.trans (r_go (act := oS (fGi g 49 12 28)) rfl rfl) (a_gi (zO_72 g))) ?_
        refine Eq.trans (Eq.trans (r_go (act := oS (fSt 50 (gC (.int 1)))) rfl rfl) (a_C)) ?_
        refine Eq.trans (Eq.trans (r_go (act := oS (fSt 51 (g2 (fun x y => x - y)))) rfl rfl) (a_sub)) ?_
        refine Eq.trans (Eq.trans (r_go (act := oS (fPi g 54 12 28)) rfl rfl) (a_pi (zO_72 g))) ?_
        refine Eq.trans (Eq.trans (r_go (act := oS (fGo 0)) rfl rfl) (a_goto)) ?_
        exact r_cut rfl rfl
      · exact r_cut rfl rfl
    · exact Eq.trans (r_go (act := oVret) rfl rfl) (a_vret)
  · exact Eq.trans (r_go (act := oVret) rfl rfl) (a_vret)
theorem x_X12_settles_0 (g : zg) (a1 : Int32) (M : zM) : X_X12_settles g [.ref 72, .int a1] M = (bif cGt0 (M.1 72 30) then (bif zb ((M.1 72 30) - 1) 40 then (bif cEq (M.1 88 (zx ((M.1 72 30) - 1))) a1 then (zbV (X_X12_emits g [.ref 72, .int a1, .int 0] ((zu M.1 72 30 ((M.1 72 30) - 1)), M.2)) (fun M1 => (bif cEq a1 9 then zX (t_X12_settles g) 0 [some (.ref 72), some (.int a1)] [] ((zu M1.1 72 28 ((M1.1 72 28) - 1)), M1.2) else zX (t_X12_settles g) 0 [some (.ref 72), some (.int a1)] [] M1))) else some (none, M)) else none) else some (none, M)) := e_X12_settles_0 g a1 M
set_option maxRecDepth 20000 in
theorem e_X12_readAny_0 (g : zg) (M : zM) : zX (t_X12_readAny g) 0 [some (.ref 72), none, none, none] [] M = zX (t_X12_readAny g) 9 [some (.ref 72), some (.int 0), some (.int 1), none] [] ((zu M.1 72 30 0), M.2) := by
  refine Eq.trans (zX_rgN (tl_X12_readAny g) (hc_X12_readAny g) 9 _ _ _ _) ?_
  refine Eq.trans (Eq.trans (r_0 (act := oS (fSt 1 (gC (.int 0)))) rfl) (a_C)) ?_
  refine Eq.trans (Eq.trans (r_go (act := oS (fIst 2 1)) rfl rfl) (a_ist rfl rfl)) ?_
  refine Eq.trans (Eq.trans (r_go (act := oS (fAld 3 0)) rfl rfl) (a_ald rfl)) ?_
  refine Eq.trans (Eq.trans (r_go (act := oS (fSt 4 (gC (.int 0)))) rfl rfl) (a_C)) ?_
  refine Eq.trans (Eq.trans (r_go (act := oS (fPi g 7 12 30)) rfl rfl) (a_pi (zO_72 g))) ?_
  refine Eq.trans (Eq.trans (r_go (act := oS (fSt 8 (gC (.int 1)))) rfl rfl) (a_C)) ?_
  refine Eq.trans (Eq.trans (r_go (act := oS (fIst 9 2)) rfl rfl) (a_ist rfl rfl)) ?_
  exact r_cut rfl rfl
theorem x_X12_readAny_0 (g : zg) (M : zM) : X_X12_readAny g [.ref 72] M = zX (t_X12_readAny g) 9 [some (.ref 72), some (.int 0), some (.int 1), none] [] ((zu M.1 72 30 0), M.2) := e_X12_readAny_0 g M
set_option maxRecDepth 20000 in
theorem e_X12_readAny_9 (g : zg) (a1 : Int32) (a2 : Int32) (M : zM) : zX (t_X12_readAny g) 9 [some (.ref 72), some (.int a1), some (.int a2), none] [] M = (bif cEq0 a2 then (zbI (X_X12_isWord g [.ref 72, .int 5] M) (fun x1 M1 => (bif cEq0 x1 then (zbI (X_X12_isWord g [.ref 72, .int 4] M1) (fun x2 M2 => (bif cEq0 x2 then (zbV (X_X12_settles g [.ref 72, .int 10] M2) (fun M3 => (zbV (X_X12_settles g [.ref 72, .int 11] M3) (fun M4 => (bif cEq0 a1 then some (some (.int 0), M4) else (zbI (X_X12_isSign g [.ref 72, .int 41] M4) (fun x5 M5 => (bif cEq0 x5 then (zbI (X_X12_errs g [.ref 72, .int 1] M5) (fun x6 M6 => some (some (.int x6), M6))) else (zbV (X_X12_settles g [.ref 72, .int 9] ((zu (zu M5.1 72 30 ((M5.1 72 30) - 1)) 72 28 ((M5.1 72 28) - 1)), M5.2)) (fun M7 => (zbV (X_X12_reads g [.ref 72] M7) (fun M8 => zX (t_X12_readAny g) 9 [some (.ref 72), some (.int (a1 - 1)), some (.int a2), none] [] M8)))))))))))) else (zbV (X_X12_settles g [.ref 72, .int 10] M2) (fun M9 => (zbV (X_X12_settles g [.ref 72, .int 11] M9) (fun M10 => (zbV (X_X12_waits g [.ref 72, .int 11] M10) (fun M11 => (zbV (X_X12_reads g [.ref 72] M11) (fun M12 => zX (t_X12_readAny g) 9 [some (.ref 72), some (.int a1), some (.int 1), none] [] M12))))))))))) else (zbV (X_X12_settles g [.ref 72, .int 10] M1) (fun M13 => (zbV (X_X12_waits g [.ref 72, .int 10] M13) (fun M14 => (zbV (X_X12_reads g [.ref 72] M14) (fun M15 => zX (t_X12_readAny g) 9 [some (.ref 72), some (.int a1), some (.int 1), none] [] M15))))))))) else (zbI (X_X12_isWord g [.ref 72, .int 6] M) (fun x16 M16 => (bif cEq0 x16 then (zbI (X_X12_isSign g [.ref 72, .int 40] M16) (fun x17 M17 => (bif cEq0 x17 then (zbI (X_X12_readCompared g [.ref 72] M17) (fun x18 M18 => (bif cEq x18 (-1) then some (some (.int (-1)), M18) else (zbV (X_X12_settles g [.ref 72, .int 9] M18) (fun M19 => zX (t_X12_readAny g) 9 [some (.ref 72), some (.int a1), some (.int 0), none] [] M19))))) else zX (t_X12_readAny g) 33 [some (.ref 72), some (.int a1), some (.int a2), some (.int x16)] [] M17))) else zX (t_X12_readAny g) 33 [some (.ref 72), some (.int a1), some (.int a2), some (.int x16)] [] M16)))) := by
  refine Eq.trans (zX_rgN (tl_X12_readAny g) (hc_X12_readAny g) 46 _ _ _ _) ?_
  refine Eq.trans (Eq.trans (Eq.trans (r_0 (act := oF [3] (oS (fIld 10 2))) rfl) (a_F rfl)) (a_ild rfl)) ?_
  refine Eq.trans (Eq.trans (r_go (act := oS (fIf 109 13 cEq0)) rfl rfl) (a_if)) (bcg ?_ ?_)
  · refine Eq.trans (Eq.trans (r_go (act := oS (fAld 110 0)) rfl rfl) (a_ald rfl)) ?_
    refine Eq.trans (Eq.trans (r_go (act := oS (fSt 111 (gC (.int 5)))) rfl rfl) (a_C)) ?_
    refine Eq.trans (Eq.trans (r_go (act := oCI 114 2 (zcv g 12) (X_X12_isWord g)) rfl rfl) (a_cI rfl (zck (zO_72 g) rfl))) (zbI_cg (fun x1 M1 => ?_))
    refine Eq.trans (Eq.trans (r_go (act := oS (fIf 138 117 cEq0)) rfl rfl) (a_if)) (bcg ?_ ?_)
    · refine Eq.trans (Eq.trans (r_go (act := oS (fAld 139 0)) rfl rfl) (a_ald rfl)) ?_
      refine Eq.trans (Eq.trans (r_go (act := oS (fSt 140 (gC (.int 4)))) rfl rfl) (a_C)) ?_
      refine Eq.trans (Eq.trans (r_go (act := oCI 143 2 (zcv g 12) (X_X12_isWord g)) rfl rfl) (a_cI rfl (zck (zO_72 g) rfl))) (zbI_cg (fun x2 M2 => ?_))
      refine Eq.trans (Eq.trans (r_go (act := oS (fIf 173 146 cEq0)) rfl rfl) (a_if)) (bcg ?_ ?_)
      · refine Eq.trans (Eq.trans (r_go (act := oS (fAld 174 0)) rfl rfl) (a_ald rfl)) ?_
        refine Eq.trans (Eq.trans (r_go (act := oS (fSt 176 (gC (.int 10)))) rfl rfl) (a_C)) ?_
        refine Eq.trans (Eq.trans (r_go (act := oCV 179 2 (zcv g 12) (X_X12_settles g)) rfl rfl) (a_cV rfl (zck (zO_72 g) rfl))) (zbV_cg (fun M3 => ?_))
        refine Eq.trans (Eq.trans (r_go (act := oS (fAld 180 0)) rfl rfl) (a_ald rfl)) ?_
        refine Eq.trans (Eq.trans (r_go (act := oS (fSt 182 (gC (.int 11)))) rfl rfl) (a_C)) ?_
        refine Eq.trans (Eq.trans (r_go (act := oCV 185 2 (zcv g 12) (X_X12_settles g)) rfl rfl) (a_cV rfl (zck (zO_72 g) rfl))) (zbV_cg (fun M4 => ?_))
        refine Eq.trans (Eq.trans (r_go (act := oS (fIld 186 1)) rfl rfl) (a_ild rfl)) ?_
        refine Eq.trans (Eq.trans (r_go (act := oS (fIf 189 191 cEq0)) rfl rfl) (a_if)) (bcg ?_ ?_)
        · refine Eq.trans (Eq.trans (r_go (act := oS (fSt 190 (gC (.int 0)))) rfl rfl) (a_C)) ?_
          exact Eq.trans (r_go (act := oIret) rfl rfl) (a_iret)
        · refine Eq.trans (Eq.trans (r_go (act := oS (fAld 192 0)) rfl rfl) (a_ald rfl)) ?_
          refine Eq.trans (Eq.trans (r_go (act := oS (fSt 194 (gC (.int 41)))) rfl rfl) (a_C)) ?_
          refine Eq.trans (Eq.trans (r_go (act := oCI 197 2 (zcv g 12) (X_X12_isSign g)) rfl rfl) (a_cI rfl (zck (zO_72 g) rfl))) (zbI_cg (fun x5 M5 => ?_))
          refine Eq.trans (Eq.trans (r_go (act := oS (fIf 200 206 cEq0)) rfl rfl) (a_if)) (bcg ?_ ?_)
          · refine Eq.trans (Eq.trans (r_go (act := oS (fAld 201 0)) rfl rfl) (a_ald rfl)) ?_
            refine Eq.trans (Eq.trans (r_go (act := oS (fSt 202 (gC (.int 1)))) rfl rfl) (a_C)) ?_
            refine Eq.trans (Eq.trans (r_go (act := oCI 205 2 (zcv g 12) (X_X12_errs g)) rfl rfl) (a_cI rfl (zck (zO_72 g) rfl))) (zbI_cg (fun x6 M6 => ?_))
            exact Eq.trans (r_go (act := oIret) rfl rfl) (a_iret)
          · refine Eq.trans (Eq.trans (r_go (act := oS (fAld 207 0)) rfl rfl) (a_ald rfl)) ?_
            refine Eq.trans (Eq.trans (r_go (act := oS (fAld 208 0)) rfl rfl) (a_ald rfl)) ?_
            refine Eq.trans (Eq.trans (r_go (act := oS (fGi g 211 12 30)) rfl rfl) (a_gi (zO_72 g))) ?_
            refine Eq.trans (Eq.trans (r_go (act := oS (fSt 212 (gC (.int 1)))) rfl rfl) (a_C)) ?_
            refine Eq.trans (Eq.trans (r_go (act := oS (fSt 213 (g2 (fun x y => x - y)))) rfl rfl) (a_sub)) ?_
            refine Eq.trans (Eq.trans (r_go (act := oS (fPi g 216 12 30)) rfl rfl) (a_pi (zO_72 g))) ?_
            refine Eq.trans (Eq.trans (r_go (act := oS (fIld 217 1)) rfl rfl) (a_ild rfl)) ?_
            refine Eq.trans (Eq.trans (r_go (act := oS (fSt 218 (gC (.int 1)))) rfl rfl) (a_C)) ?_
            refine Eq.trans (Eq.trans (r_go (act := oS (fSt 219 (g2 (fun x y => x - y)))) rfl rfl) (a_sub)) ?_
            refine Eq.trans (Eq.trans (r_go (act := oS (fIst 220 1)) rfl rfl) (a_ist rfl rfl)) ?_
            refine Eq.trans (Eq.trans (r_go (act := oS (fAld 221 0)) rfl rfl) (a_ald rfl)) ?_
            refine Eq.trans (Eq.trans (r_go (act := oS (fAld 222 0)) rfl rfl) (a_ald rfl)) ?_
            refine Eq.trans (Eq.trans (r_go (act := oS (fGi g 225 12 28)) rfl rfl) (a_giV (zO_72 g) rfl)) ?_
            refine Eq.trans (Eq.trans (r_go (act := oS (fSt 226 (gC (.int 1)))) rfl rfl) (a_C)) ?_
            refine Eq.trans (Eq.trans (r_go (act := oS (fSt 227 (g2 (fun x y => x - y)))) rfl rfl) (a_sub)) ?_
            refine Eq.trans (Eq.trans (r_go (act := oS (fPi g 230 12 28)) rfl rfl) (a_pi (zO_72 g))) ?_
            refine Eq.trans (Eq.trans (r_go (act := oS (fAld 231 0)) rfl rfl) (a_ald rfl)) ?_
            refine Eq.trans (Eq.trans (r_go (act := oS (fSt 233 (gC (.int 9)))) rfl rfl) (a_C)) ?_
            refine Eq.trans (Eq.trans (r_go (act := oCV 236 2 (zcv g 12) (X_X12_settles g)) rfl rfl) (a_cV rfl (zck (zO_72 g) rfl))) (zbV_cg (fun M7 => ?_))
            refine Eq.trans (Eq.trans (r_go (act := oS (fAld 237 0)) rfl rfl) (a_ald rfl)) ?_
            refine Eq.trans (Eq.trans (r_go (act := oCV 240 1 (zcv g 12) (X_X12_reads g)) rfl rfl) (a_cV rfl (zck (zO_72 g) rfl))) (zbV_cg (fun M8 => ?_))
            refine Eq.trans (Eq.trans (r_go (act := oS (fGo 9)) rfl rfl) (a_goto)) ?_
            exact r_cut rfl rfl
      · refine Eq.trans (Eq.trans (r_go (act := oS (fAld 147 0)) rfl rfl) (a_ald rfl)) ?_
        refine Eq.trans (Eq.trans (r_go (act := oS (fSt 149 (gC (.int 10)))) rfl rfl) (a_C)) ?_
        refine Eq.trans (Eq.trans (r_go (act := oCV 152 2 (zcv g 12) (X_X12_settles g)) rfl rfl) (a_cV rfl (zck (zO_72 g) rfl))) (zbV_cg (fun M9 => ?_))
        refine Eq.trans (Eq.trans (r_go (act := oS (fAld 153 0)) rfl rfl) (a_ald rfl)) ?_
        refine Eq.trans (Eq.trans (r_go (act := oS (fSt 155 (gC (.int 11)))) rfl rfl) (a_C)) ?_
        refine Eq.trans (Eq.trans (r_go (act := oCV 158 2 (zcv g 12) (X_X12_settles g)) rfl rfl) (a_cV rfl (zck (zO_72 g) rfl))) (zbV_cg (fun M10 => ?_))
        refine Eq.trans (Eq.trans (r_go (act := oS (fAld 159 0)) rfl rfl) (a_ald rfl)) ?_
        refine Eq.trans (Eq.trans (r_go (act := oS (fSt 161 (gC (.int 11)))) rfl rfl) (a_C)) ?_
        refine Eq.trans (Eq.trans (r_go (act := oCV 164 2 (zcv g 12) (X_X12_waits g)) rfl rfl) (a_cV rfl (zck (zO_72 g) rfl))) (zbV_cg (fun M11 => ?_))
        refine Eq.trans (Eq.trans (r_go (act := oS (fAld 165 0)) rfl rfl) (a_ald rfl)) ?_
        refine Eq.trans (Eq.trans (r_go (act := oCV 168 1 (zcv g 12) (X_X12_reads g)) rfl rfl) (a_cV rfl (zck (zO_72 g) rfl))) (zbV_cg (fun M12 => ?_))
        refine Eq.trans (Eq.trans (r_go (act := oS (fSt 169 (gC (.int 1)))) rfl rfl) (a_C)) ?_
        refine Eq.trans (Eq.trans (r_go (act := oS (fIst 170 2)) rfl rfl) (a_ist rfl rfl)) ?_
        refine Eq.trans (Eq.trans (r_go (act := oS (fGo 9)) rfl rfl) (a_goto)) ?_
        exact r_cut rfl rfl
    · refine Eq.trans (Eq.trans (r_go (act := oS (fAld 118 0)) rfl rfl) (a_ald rfl)) ?_
      refine Eq.trans (Eq.trans (r_go (act := oS (fSt 120 (gC (.int 10)))) rfl rfl) (a_C)) ?_
      refine Eq.trans (Eq.trans (r_go (act := oCV 123 2 (zcv g 12) (X_X12_settles g)) rfl rfl) (a_cV rfl (zck (zO_72 g) rfl))) (zbV_cg (fun M13 => ?_))
      refine Eq.trans (Eq.trans (r_go (act := oS (fAld 124 0)) rfl rfl) (a_ald rfl)) ?_
      refine Eq.trans (Eq.trans (r_go (act := oS (fSt 126 (gC (.int 10)))) rfl rfl) (a_C)) ?_
      refine Eq.trans (Eq.trans (r_go (act := oCV 129 2 (zcv g 12) (X_X12_waits g)) rfl rfl) (a_cV rfl (zck (zO_72 g) rfl))) (zbV_cg (fun M14 => ?_))
      refine Eq.trans (Eq.trans (r_go (act := oS (fAld 130 0)) rfl rfl) (a_ald rfl)) ?_
      refine Eq.trans (Eq.trans (r_go (act := oCV 133 1 (zcv g 12) (X_X12_reads g)) rfl rfl) (a_cV rfl (zck (zO_72 g) rfl))) (zbV_cg (fun M15 => ?_))
      refine Eq.trans (Eq.trans (r_go (act := oS (fSt 134 (gC (.int 1)))) rfl rfl) (a_C)) ?_
      refine Eq.trans (Eq.trans (r_go (act := oS (fIst 135 2)) rfl rfl) (a_ist rfl rfl)) ?_
      refine Eq.trans (Eq.trans (r_go (act := oS (fGo 9)) rfl rfl) (a_goto)) ?_
      exact r_cut rfl rfl
  · refine Eq.trans (Eq.trans (r_go (act := oS (fAld 14 0)) rfl rfl) (a_ald rfl)) ?_
    refine Eq.trans (Eq.trans (r_go (act := oS (fSt 16 (gC (.int 6)))) rfl rfl) (a_C)) ?_
    refine Eq.trans (Eq.trans (r_go (act := oCI 19 2 (zcv g 12) (X_X12_isWord g)) rfl rfl) (a_cI rfl (zck (zO_72 g) rfl))) (zbI_cg (fun x16 M16 => ?_))
    refine Eq.trans (Eq.trans (r_go (act := oS (fIst 20 3)) rfl rfl) (a_ist rfl rfl)) ?_
    refine Eq.trans (Eq.trans (r_go (act := oS (fIld 21 3)) rfl rfl) (a_ild rfl)) ?_
    refine Eq.trans (Eq.trans (r_go (act := oS (fIf 24 33 cEq0)) rfl rfl) (a_if)) (bcg ?_ ?_)
    · refine Eq.trans (Eq.trans (r_go (act := oS (fAld 25 0)) rfl rfl) (a_ald rfl)) ?_
      refine Eq.trans (Eq.trans (r_go (act := oS (fSt 27 (gC (.int 40)))) rfl rfl) (a_C)) ?_
      refine Eq.trans (Eq.trans (r_go (act := oCI 30 2 (zcv g 12) (X_X12_isSign g)) rfl rfl) (a_cI rfl (zck (zO_72 g) rfl))) (zbI_cg (fun x17 M17 => ?_))
      refine Eq.trans (Eq.trans (r_go (act := oS (fIf 88 33 cEq0)) rfl rfl) (a_if)) (bcg ?_ ?_)
      · refine Eq.trans (Eq.trans (r_go (act := oS (fAld 89 0)) rfl rfl) (a_ald rfl)) ?_
        refine Eq.trans (Eq.trans (r_go (act := oCI 92 1 (zcv g 12) (X_X12_readCompared g)) rfl rfl) (a_cI rfl (zck (zO_72 g) rfl))) (zbI_cg (fun x18 M18 => ?_))
        refine Eq.trans (Eq.trans (r_go (act := oS (fSt 93 (gC (.int (-1))))) rfl rfl) (a_C)) ?_
        refine Eq.trans (Eq.trans (r_go (act := oS (fCm 96 98 cEq)) rfl rfl) (a_cm)) (bcg ?_ ?_)
        · refine Eq.trans (Eq.trans (r_go (act := oS (fSt 97 (gC (.int (-1))))) rfl rfl) (a_C)) ?_
          exact Eq.trans (r_go (act := oIret) rfl rfl) (a_iret)
        · refine Eq.trans (Eq.trans (r_go (act := oS (fAld 99 0)) rfl rfl) (a_ald rfl)) ?_
          refine Eq.trans (Eq.trans (r_go (act := oS (fSt 101 (gC (.int 9)))) rfl rfl) (a_C)) ?_
          refine Eq.trans (Eq.trans (r_go (act := oCV 104 2 (zcv g 12) (X_X12_settles g)) rfl rfl) (a_cV rfl (zck (zO_72 g) rfl))) (zbV_cg (fun M19 => ?_))
          refine Eq.trans (Eq.trans (r_go (act := oS (fSt 105 (gC (.int 0)))) rfl rfl) (a_C)) ?_
          refine Eq.trans (Eq.trans (r_go (act := oS (fIst 106 2)) rfl rfl) (a_ist rfl rfl)) ?_
          refine Eq.trans (Eq.trans (r_go (act := oS (fGo 9)) rfl rfl) (a_goto)) ?_
          exact r_cut rfl rfl
      · exact r_cut rfl rfl
    · exact r_cut rfl rfl
set_option maxRecDepth 20000 in
theorem e_X12_readAny_33 (g : zg) (a1 : Int32) (a2 : Int32) (a3 : Int32) (M : zM) : zX (t_X12_readAny g) 33 [some (.ref 72), some (.int a1), some (.int a2), some (.int a3)] [] M = (bif cEq (M.1 72 28) 8 then (zbI (X_X12_errs g [.ref 72, .int 3] M) (fun x1 M1 => some (some (.int x1), M1))) else (bif cEq0 a3 then (bif cEq0 a3 then (zbV (X_X12_waits g [.ref 72, .int 12] ((zu M.1 72 28 ((M.1 72 28) + 1)), M.2)) (fun M2 => (zbV (X_X12_reads g [.ref 72] M2) (fun M3 => zX (t_X12_readAny g) 9 [some (.ref 72), some (.int (a1 + 1)), some (.int a2), none] [] M3)))) else (zbV (X_X12_waits g [.ref 72, .int 9] ((zu M.1 72 28 ((M.1 72 28) + 1)), M.2)) (fun M4 => (zbV (X_X12_reads g [.ref 72] M4) (fun M5 => zX (t_X12_readAny g) 9 [some (.ref 72), some (.int (a1 + 1)), some (.int a2), none] [] M5))))) else (bif cEq0 a3 then (zbV (X_X12_waits g [.ref 72, .int 12] ((zu M.1 72 28 ((M.1 72 28) + 1)), M.2)) (fun M6 => (zbV (X_X12_reads g [.ref 72] M6) (fun M7 => zX (t_X12_readAny g) 9 [some (.ref 72), some (.int a1), some (.int a2), none] [] M7)))) else (zbV (X_X12_waits g [.ref 72, .int 9] ((zu M.1 72 28 ((M.1 72 28) + 1)), M.2)) (fun M8 => (zbV (X_X12_reads g [.ref 72] M8) (fun M9 => zX (t_X12_readAny g) 9 [some (.ref 72), some (.int a1), some (.int a2), none] [] M9))))))) := by
  refine Eq.trans (zX_rgN (tl_X12_readAny g) (hc_X12_readAny g) 27 _ _ _ _) ?_
  refine Eq.trans (Eq.trans (Eq.trans (r_0 (act := oF [] (oS (fAld 34 0))) rfl) (a_F rfl)) (a_ald rfl)) ?_
  refine Eq.trans (Eq.trans (r_go (act := oS (fGi g 37 12 28)) rfl rfl) (a_gi (zO_72 g))) ?_
  refine Eq.trans (Eq.trans (r_go (act := oS (fSt 39 (gC (.int 8)))) rfl rfl) (a_C)) ?_
  refine Eq.trans (Eq.trans (r_go (act := oS (fCm 42 48 cEq)) rfl rfl) (a_cm)) (bcg ?_ ?_)
  · refine Eq.trans (Eq.trans (r_go (act := oS (fAld 43 0)) rfl rfl) (a_ald rfl)) ?_
    refine Eq.trans (Eq.trans (r_go (act := oS (fSt 44 (gC (.int 3)))) rfl rfl) (a_C)) ?_
    refine Eq.trans (Eq.trans (r_go (act := oCI 47 2 (zcv g 12) (X_X12_errs g)) rfl rfl) (a_cI rfl (zck (zO_72 g) rfl))) (zbI_cg (fun x1 M1 => ?_))
    exact Eq.trans (r_go (act := oIret) rfl rfl) (a_iret)
  · refine Eq.trans (Eq.trans (r_go (act := oS (fAld 49 0)) rfl rfl) (a_ald rfl)) ?_
    refine Eq.trans (Eq.trans (r_go (act := oS (fAld 50 0)) rfl rfl) (a_ald rfl)) ?_
    refine Eq.trans (Eq.trans (r_go (act := oS (fGi g 53 12 28)) rfl rfl) (a_gi (zO_72 g))) ?_
    refine Eq.trans (Eq.trans (r_go (act := oS (fSt 54 (gC (.int 1)))) rfl rfl) (a_C)) ?_
    refine Eq.trans (Eq.trans (r_go (act := oS (fSt 55 (g2 (fun x y => x + y)))) rfl rfl) (a_add)) ?_
    refine Eq.trans (Eq.trans (r_go (act := oS (fPi g 58 12 28)) rfl rfl) (a_pi (zO_72 g))) ?_
    refine Eq.trans (Eq.trans (r_go (act := oS (fIld 59 3)) rfl rfl) (a_ild rfl)) ?_
    refine Eq.trans (Eq.trans (r_go (act := oS (fIf 62 66 cEq0)) rfl rfl) (a_if)) (bcg ?_ ?_)
    · refine Eq.trans (Eq.trans (r_go (act := oS (fIld 63 1)) rfl rfl) (a_ild rfl)) ?_
      refine Eq.trans (Eq.trans (r_go (act := oS (fSt 64 (gC (.int 1)))) rfl rfl) (a_C)) ?_
      refine Eq.trans (Eq.trans (r_go (act := oS (fSt 65 (g2 (fun x y => x + y)))) rfl rfl) (a_add)) ?_
      refine Eq.trans (Eq.trans (r_go (act := oS (fIst 66 1)) rfl rfl) (a_ist rfl rfl)) ?_
      refine Eq.trans (Eq.trans (r_go (act := oS (fAld 67 0)) rfl rfl) (a_ald rfl)) ?_
      refine Eq.trans (Eq.trans (r_go (act := oS (fIld 68 3)) rfl rfl) (a_ild rfl)) ?_
      refine Eq.trans (Eq.trans (r_go (act := oS (fIf 76 71 cEq0)) rfl rfl) (a_if)) (bcg ?_ ?_)
      · refine Eq.trans (Eq.trans (r_go (act := oS (fSt 78 (gC (.int 12)))) rfl rfl) (a_C)) ?_
        refine Eq.trans (Eq.trans (r_go (act := oCV 81 2 (zcv g 12) (X_X12_waits g)) rfl rfl) (a_cV rfl (zck (zO_72 g) rfl))) (zbV_cg (fun M2 => ?_))
        refine Eq.trans (Eq.trans (r_go (act := oS (fAld 82 0)) rfl rfl) (a_ald rfl)) ?_
        refine Eq.trans (Eq.trans (r_go (act := oCV 85 1 (zcv g 12) (X_X12_reads g)) rfl rfl) (a_cV rfl (zck (zO_72 g) rfl))) (zbV_cg (fun M3 => ?_))
        refine Eq.trans (Eq.trans (r_go (act := oS (fGo 9)) rfl rfl) (a_goto)) ?_
        exact r_cut rfl rfl
      · refine Eq.trans (Eq.trans (r_go (act := oS (fSt 73 (gC (.int 9)))) rfl rfl) (a_C)) ?_
        refine Eq.trans (Eq.trans (r_go (act := oS (fGo 78)) rfl rfl) (a_goto)) ?_
        refine Eq.trans (Eq.trans (r_go (act := oCV 81 2 (zcv g 12) (X_X12_waits g)) rfl rfl) (a_cV rfl (zck (zO_72 g) rfl))) (zbV_cg (fun M4 => ?_))
        refine Eq.trans (Eq.trans (r_go (act := oS (fAld 82 0)) rfl rfl) (a_ald rfl)) ?_
        refine Eq.trans (Eq.trans (r_go (act := oCV 85 1 (zcv g 12) (X_X12_reads g)) rfl rfl) (a_cV rfl (zck (zO_72 g) rfl))) (zbV_cg (fun M5 => ?_))
        refine Eq.trans (Eq.trans (r_go (act := oS (fGo 9)) rfl rfl) (a_goto)) ?_
        exact r_cut rfl rfl
    · refine Eq.trans (Eq.trans (r_go (act := oS (fAld 67 0)) rfl rfl) (a_ald rfl)) ?_
      refine Eq.trans (Eq.trans (r_go (act := oS (fIld 68 3)) rfl rfl) (a_ild rfl)) ?_
      refine Eq.trans (Eq.trans (r_go (act := oS (fIf 76 71 cEq0)) rfl rfl) (a_if)) (bcg ?_ ?_)
      · refine Eq.trans (Eq.trans (r_go (act := oS (fSt 78 (gC (.int 12)))) rfl rfl) (a_C)) ?_
        refine Eq.trans (Eq.trans (r_go (act := oCV 81 2 (zcv g 12) (X_X12_waits g)) rfl rfl) (a_cV rfl (zck (zO_72 g) rfl))) (zbV_cg (fun M6 => ?_))
        refine Eq.trans (Eq.trans (r_go (act := oS (fAld 82 0)) rfl rfl) (a_ald rfl)) ?_
        refine Eq.trans (Eq.trans (r_go (act := oCV 85 1 (zcv g 12) (X_X12_reads g)) rfl rfl) (a_cV rfl (zck (zO_72 g) rfl))) (zbV_cg (fun M7 => ?_))
        refine Eq.trans (Eq.trans (r_go (act := oS (fGo 9)) rfl rfl) (a_goto)) ?_
        exact r_cut rfl rfl
      · refine Eq.trans (Eq.trans (r_go (act := oS (fSt 73 (gC (.int 9)))) rfl rfl) (a_C)) ?_
        refine Eq.trans (Eq.trans (r_go (act := oS (fGo 78)) rfl rfl) (a_goto)) ?_
        refine Eq.trans (Eq.trans (r_go (act := oCV 81 2 (zcv g 12) (X_X12_waits g)) rfl rfl) (a_cV rfl (zck (zO_72 g) rfl))) (zbV_cg (fun M8 => ?_))
        refine Eq.trans (Eq.trans (r_go (act := oS (fAld 82 0)) rfl rfl) (a_ald rfl)) ?_
        refine Eq.trans (Eq.trans (r_go (act := oCV 85 1 (zcv g 12) (X_X12_reads g)) rfl rfl) (a_cV rfl (zck (zO_72 g) rfl))) (zbV_cg (fun M9 => ?_))
        refine Eq.trans (Eq.trans (r_go (act := oS (fGo 9)) rfl rfl) (a_goto)) ?_
        exact r_cut rfl rfl
set_option maxRecDepth 20000 in
theorem e_X12_readLaw_0 (g : zg) (M : zM) : zX (t_X12_readLaw g) 0 [some (.ref 72), none, none] [] M = zX (t_X12_readLaw g) 2 [some (.ref 72), some (.int 0), none] [] M := by
  refine Eq.trans (zX_rgN (tl_X12_readLaw g) (hc_X12_readLaw g) 4 _ _ _ _) ?_
  refine Eq.trans (Eq.trans (r_0 (act := oS (fSt 1 (gC (.int 0)))) rfl) (a_C)) ?_
  refine Eq.trans (Eq.trans (r_go (act := oS (fIst 2 1)) rfl rfl) (a_ist rfl rfl)) ?_
  exact r_cut rfl rfl
theorem x_X12_readLaw_0 (g : zg) (M : zM) : X_X12_readLaw g [.ref 72] M = zX (t_X12_readLaw g) 2 [some (.ref 72), some (.int 0), none] [] M := e_X12_readLaw_0 g M
set_option maxRecDepth 20000 in
theorem e_X12_readLaw_2 (g : zg) (a1 : Int32) (M : zM) : zX (t_X12_readLaw g) 2 [some (.ref 72), some (.int a1), none] [] M = (zbI (X_X12_isLineWord g [.ref 72] M) (fun x1 M1 => (bif cEq0 x1 then (bif cEq0 (M1.1 72 16) then some (some (.int a1), M1) else (zbI (X_X12_errs g [.ref 72, .int 1] M1) (fun x2 M2 => some (some (.int x2), M2)))) else (bif cEq a1 16 then (zbI (X_X12_errs g [.ref 72, .int 3] M1) (fun x3 M3 => some (some (.int x3), M3))) else (bif zb (32 + a1) 48 then (zbV (X_X12_reads g [.ref 72] ((zu M1.1 82 (zx (32 + a1)) (M1.1 72 17)), M1.2)) (fun M4 => (bif zb (32 + a1) 48 then (zbI (X_X12_readSum g [.ref 72] ((zu M4.1 83 (zx (32 + a1)) (M4.1 72 27)), M4.2)) (fun x5 M5 => (bif cEq x5 (-1) then some (some (.int (-1)), M5) else (bif zb (32 + a1) 48 then (zbI (X_X12_isWord g [.ref 72, .int 3] ((zu M5.1 84 (zx (32 + a1)) (M5.1 72 27)), M5.2)) (fun x6 M6 => (bif cEq0 x6 then (bif zb (32 + a1) 48 then (zbI (X_X12_isSign g [.ref 72, .int 59] ((zu M6.1 85 (zx (32 + a1)) (M6.1 72 27)), M6.2)) (fun x7 M7 => (bif cEq0 x7 then (zbI (X_X12_errs g [.ref 72, .int 1] M7) (fun x8 M8 => some (some (.int x8), M8))) else (zbV (X_X12_reads g [.ref 72] M7) (fun M9 => zX (t_X12_readLaw g) 2 [some (.ref 72), some (.int (a1 + 1)), none] [] M9))))) else none) else (zbV (X_X12_reads g [.ref 72] M6) (fun M10 => (zbI (X_X12_readAny g [.ref 72] M10) (fun x11 M11 => (bif cEq x11 (-1) then some (some (.int (-1)), M11) else (bif zb (32 + a1) 48 then (zbI (X_X12_isSign g [.ref 72, .int 59] ((zu M11.1 85 (zx (32 + a1)) (M11.1 72 27)), M11.2)) (fun x12 M12 => (bif cEq0 x12 then (zbI (X_X12_errs g [.ref 72, .int 1] M12) (fun x13 M13 => some (some (.int x13), M13))) else (zbV (X_X12_reads g [.ref 72] M12) (fun M14 => zX (t_X12_readLaw g) 2 [some (.ref 72), some (.int (a1 + 1)), none] [] M14))))) else none))))))))) else none)))) else none))) else none))))) := by
  refine Eq.trans (zX_rgN (tl_X12_readLaw g) (hc_X12_readLaw g) 63 _ _ _ _) ?_
  refine Eq.trans (Eq.trans (Eq.trans (r_0 (act := oF [2] (oS (fAld 3 0))) rfl) (a_F rfl)) (a_ald rfl)) ?_
  refine Eq.trans (Eq.trans (r_go (act := oCI 6 1 (zcv g 12) (X_X12_isLineWord g)) rfl rfl) (a_cI rfl (zck (zO_72 g) rfl))) (zbI_cg (fun x1 M1 => ?_))
  refine Eq.trans (Eq.trans (r_go (act := oS (fIf 128 9 cEq0)) rfl rfl) (a_if)) (bcg ?_ ?_)
  · refine Eq.trans (Eq.trans (r_go (act := oS (fAld 129 0)) rfl rfl) (a_ald rfl)) ?_
    refine Eq.trans (Eq.trans (r_go (act := oS (fGi g 132 12 16)) rfl rfl) (a_gi (zO_72 g))) ?_
    refine Eq.trans (Eq.trans (r_go (act := oS (fIf 135 139 cEq0)) rfl rfl) (a_if)) (bcg ?_ ?_)
    · refine Eq.trans (Eq.trans (r_go (act := oS (fIld 136 1)) rfl rfl) (a_ild rfl)) ?_
      refine Eq.trans (Eq.trans (r_go (act := oS (fGo 144)) rfl rfl) (a_goto)) ?_
      exact Eq.trans (r_go (act := oIret) rfl rfl) (a_iret)
    · refine Eq.trans (Eq.trans (r_go (act := oS (fAld 140 0)) rfl rfl) (a_ald rfl)) ?_
      refine Eq.trans (Eq.trans (r_go (act := oS (fSt 141 (gC (.int 1)))) rfl rfl) (a_C)) ?_
      refine Eq.trans (Eq.trans (r_go (act := oCI 144 2 (zcv g 12) (X_X12_errs g)) rfl rfl) (a_cI rfl (zck (zO_72 g) rfl))) (zbI_cg (fun x2 M2 => ?_))
      exact Eq.trans (r_go (act := oIret) rfl rfl) (a_iret)
  · refine Eq.trans (Eq.trans (r_go (act := oS (fIld 10 1)) rfl rfl) (a_ild rfl)) ?_
    refine Eq.trans (Eq.trans (r_go (act := oS (fSt 12 (gC (.int 16)))) rfl rfl) (a_C)) ?_
    refine Eq.trans (Eq.trans (r_go (act := oS (fCm 15 21 cEq)) rfl rfl) (a_cm)) (bcg ?_ ?_)
    · refine Eq.trans (Eq.trans (r_go (act := oS (fAld 16 0)) rfl rfl) (a_ald rfl)) ?_
      refine Eq.trans (Eq.trans (r_go (act := oS (fSt 17 (gC (.int 3)))) rfl rfl) (a_C)) ?_
      refine Eq.trans (Eq.trans (r_go (act := oCI 20 2 (zcv g 12) (X_X12_errs g)) rfl rfl) (a_cI rfl (zck (zO_72 g) rfl))) (zbI_cg (fun x3 M3 => ?_))
      exact Eq.trans (r_go (act := oIret) rfl rfl) (a_iret)
    · refine Eq.trans (Eq.trans (r_go (act := oS (fSt 23 (gC (.int 32)))) rfl rfl) (a_C)) ?_
      refine Eq.trans (Eq.trans (r_go (act := oS (fIld 24 1)) rfl rfl) (a_ild rfl)) ?_
      refine Eq.trans (Eq.trans (r_go (act := oS (fSt 25 (g2 (fun x y => x + y)))) rfl rfl) (a_add)) ?_
      refine Eq.trans (Eq.trans (r_go (act := oS (fIst 26 2)) rfl rfl) (a_ist rfl rfl)) ?_
      refine Eq.trans (Eq.trans (r_go (act := oS (fAld 27 0)) rfl rfl) (a_ald rfl)) ?_
      refine Eq.trans (Eq.trans (r_go (act := oS (fGr g 30 12 20)) rfl rfl) (a_gr (zO_72 g) (zR_72_20 g))) ?_
      refine Eq.trans (Eq.trans (r_go (act := oS (fIld 31 2)) rfl rfl) (a_ild rfl)) ?_
      refine Eq.trans (Eq.trans (r_go (act := oS (fAld 32 0)) rfl rfl) (a_ald rfl)) ?_
      refine Eq.trans (Eq.trans (r_go (act := oS (fGi g 35 12 17)) rfl rfl) (a_gi (zO_72 g))) ?_
      refine Eq.trans (Eq.trans (r_go (act := oS (fIs g 36)) rfl rfl) (a_is (zA_82 g) zS_82)) (bcg ?_ rfl)
      refine Eq.trans (Eq.trans (r_go (act := oS (fAld 37 0)) rfl rfl) (a_ald rfl)) ?_
      refine Eq.trans (Eq.trans (r_go (act := oCV 40 1 (zcv g 12) (X_X12_reads g)) rfl rfl) (a_cV rfl (zck (zO_72 g) rfl))) (zbV_cg (fun M4 => ?_))
      refine Eq.trans (Eq.trans (r_go (act := oS (fAld 41 0)) rfl rfl) (a_ald rfl)) ?_
      refine Eq.trans (Eq.trans (r_go (act := oS (fGr g 44 12 21)) rfl rfl) (a_gr (zO_72 g) (zR_72_21 g))) ?_
      refine Eq.trans (Eq.trans (r_go (act := oS (fIld 45 2)) rfl rfl) (a_ild rfl)) ?_
      refine Eq.trans (Eq.trans (r_go (act := oS (fAld 46 0)) rfl rfl) (a_ald rfl)) ?_
      refine Eq.trans (Eq.trans (r_go (act := oS (fGi g 49 12 27)) rfl rfl) (a_gi (zO_72 g))) ?_
      refine Eq.trans (Eq.trans (r_go (act := oS (fIs g 50)) rfl rfl) (a_is (zA_83 g) zS_83)) (bcg ?_ rfl)
      refine Eq.trans (Eq.trans (r_go (act := oS (fAld 51 0)) rfl rfl) (a_ald rfl)) ?_
      refine Eq.trans (Eq.trans (r_go (act := oCI 54 1 (zcv g 12) (X_X12_readSum g)) rfl rfl) (a_cI rfl (zck (zO_72 g) rfl))) (zbI_cg (fun x5 M5 => ?_))
      refine Eq.trans (Eq.trans (r_go (act := oS (fSt 55 (gC (.int (-1))))) rfl rfl) (a_C)) ?_
      refine Eq.trans (Eq.trans (r_go (act := oS (fCm 58 60 cEq)) rfl rfl) (a_cm)) (bcg ?_ ?_)
      · refine Eq.trans (Eq.trans (r_go (act := oS (fSt 59 (gC (.int (-1))))) rfl rfl) (a_C)) ?_
        exact Eq.trans (r_go (act := oIret) rfl rfl) (a_iret)
      · refine Eq.trans (Eq.trans (r_go (act := oS (fAld 61 0)) rfl rfl) (a_ald rfl)) ?_
        refine Eq.trans (Eq.trans (r_go (act := oS (fGr g 64 12 22)) rfl rfl) (a_gr (zO_72 g) (zR_72_22 g))) ?_
        refine Eq.trans (Eq.trans (r_go (act := oS (fIld 65 2)) rfl rfl) (a_ild rfl)) ?_
        refine Eq.trans (Eq.trans (r_go (act := oS (fAld 66 0)) rfl rfl) (a_ald rfl)) ?_
        refine Eq.trans (Eq.trans (r_go (act := oS (fGi g 69 12 27)) rfl rfl) (a_gi (zO_72 g))) ?_
        refine Eq.trans (Eq.trans (r_go (act := oS (fIs g 70)) rfl rfl) (a_is (zA_84 g) zS_84)) (bcg ?_ rfl)
        refine Eq.trans (Eq.trans (r_go (act := oS (fAld 71 0)) rfl rfl) (a_ald rfl)) ?_
        refine Eq.trans (Eq.trans (r_go (act := oS (fSt 72 (gC (.int 3)))) rfl rfl) (a_C)) ?_
        refine Eq.trans (Eq.trans (r_go (act := oCI 75 2 (zcv g 12) (X_X12_isWord g)) rfl rfl) (a_cI rfl (zck (zO_72 g) rfl))) (zbI_cg (fun x6 M6 => ?_))
        refine Eq.trans (Eq.trans (r_go (act := oS (fIf 92 78 cEq0)) rfl rfl) (a_if)) (bcg ?_ ?_)
        · refine Eq.trans (Eq.trans (r_go (act := oS (fAld 93 0)) rfl rfl) (a_ald rfl)) ?_
          refine Eq.trans (Eq.trans (r_go (act := oS (fGr g 96 12 23)) rfl rfl) (a_gr (zO_72 g) (zR_72_23 g))) ?_
          refine Eq.trans (Eq.trans (r_go (act := oS (fIld 97 2)) rfl rfl) (a_ild rfl)) ?_
          refine Eq.trans (Eq.trans (r_go (act := oS (fAld 98 0)) rfl rfl) (a_ald rfl)) ?_
          refine Eq.trans (Eq.trans (r_go (act := oS (fGi g 101 12 27)) rfl rfl) (a_gi (zO_72 g))) ?_
          refine Eq.trans (Eq.trans (r_go (act := oS (fIs g 102)) rfl rfl) (a_is (zA_85 g) zS_85)) (bcg ?_ rfl)
          refine Eq.trans (Eq.trans (r_go (act := oS (fAld 103 0)) rfl rfl) (a_ald rfl)) ?_
          refine Eq.trans (Eq.trans (r_go (act := oS (fSt 105 (gC (.int 59)))) rfl rfl) (a_C)) ?_
          refine Eq.trans (Eq.trans (r_go (act := oCI 108 2 (zcv g 12) (X_X12_isSign g)) rfl rfl) (a_cI rfl (zck (zO_72 g) rfl))) (zbI_cg (fun x7 M7 => ?_))
          refine Eq.trans (Eq.trans (r_go (act := oS (fIf 111 117 cEq0)) rfl rfl) (a_if)) (bcg ?_ ?_)
          · refine Eq.trans (Eq.trans (r_go (act := oS (fAld 112 0)) rfl rfl) (a_ald rfl)) ?_
            refine Eq.trans (Eq.trans (r_go (act := oS (fSt 113 (gC (.int 1)))) rfl rfl) (a_C)) ?_
            refine Eq.trans (Eq.trans (r_go (act := oCI 116 2 (zcv g 12) (X_X12_errs g)) rfl rfl) (a_cI rfl (zck (zO_72 g) rfl))) (zbI_cg (fun x8 M8 => ?_))
            exact Eq.trans (r_go (act := oIret) rfl rfl) (a_iret)
          · refine Eq.trans (Eq.trans (r_go (act := oS (fAld 118 0)) rfl rfl) (a_ald rfl)) ?_
            refine Eq.trans (Eq.trans (r_go (act := oCV 121 1 (zcv g 12) (X_X12_reads g)) rfl rfl) (a_cV rfl (zck (zO_72 g) rfl))) (zbV_cg (fun M9 => ?_))
            refine Eq.trans (Eq.trans (r_go (act := oS (fIld 122 1)) rfl rfl) (a_ild rfl)) ?_
            refine Eq.trans (Eq.trans (r_go (act := oS (fSt 123 (gC (.int 1)))) rfl rfl) (a_C)) ?_
            refine Eq.trans (Eq.trans (r_go (act := oS (fSt 124 (g2 (fun x y => x + y)))) rfl rfl) (a_add)) ?_
            refine Eq.trans (Eq.trans (r_go (act := oS (fIst 125 1)) rfl rfl) (a_ist rfl rfl)) ?_
            refine Eq.trans (Eq.trans (r_go (act := oS (fGo 2)) rfl rfl) (a_goto)) ?_
            exact r_cut rfl rfl
        · refine Eq.trans (Eq.trans (r_go (act := oS (fAld 79 0)) rfl rfl) (a_ald rfl)) ?_
          refine Eq.trans (Eq.trans (r_go (act := oCV 82 1 (zcv g 12) (X_X12_reads g)) rfl rfl) (a_cV rfl (zck (zO_72 g) rfl))) (zbV_cg (fun M10 => ?_))
          refine Eq.trans (Eq.trans (r_go (act := oS (fAld 83 0)) rfl rfl) (a_ald rfl)) ?_
          refine Eq.trans (Eq.trans (r_go (act := oCI 86 1 (zcv g 12) (X_X12_readAny g)) rfl rfl) (a_cI rfl (zck (zO_72 g) rfl))) (zbI_cg (fun x11 M11 => ?_))
          refine Eq.trans (Eq.trans (r_go (act := oS (fSt 87 (gC (.int (-1))))) rfl rfl) (a_C)) ?_
          refine Eq.trans (Eq.trans (r_go (act := oS (fCm 90 92 cEq)) rfl rfl) (a_cm)) (bcg ?_ ?_)
          · refine Eq.trans (Eq.trans (r_go (act := oS (fSt 91 (gC (.int (-1))))) rfl rfl) (a_C)) ?_
            exact Eq.trans (r_go (act := oIret) rfl rfl) (a_iret)
          · refine Eq.trans (Eq.trans (r_go (act := oS (fAld 93 0)) rfl rfl) (a_ald rfl)) ?_
            refine Eq.trans (Eq.trans (r_go (act := oS (fGr g 96 12 23)) rfl rfl) (a_gr (zO_72 g) (zR_72_23 g))) ?_
            refine Eq.trans (Eq.trans (r_go (act := oS (fIld 97 2)) rfl rfl) (a_ild rfl)) ?_
            refine Eq.trans (Eq.trans (r_go (act := oS (fAld 98 0)) rfl rfl) (a_ald rfl)) ?_
            refine Eq.trans (Eq.trans (r_go (act := oS (fGi g 101 12 27)) rfl rfl) (a_gi (zO_72 g))) ?_
            refine Eq.trans (Eq.trans (r_go (act := oS (fIs g 102)) rfl rfl) (a_is (zA_85 g) zS_85)) (bcg ?_ rfl)
            refine Eq.trans (Eq.trans (r_go (act := oS (fAld 103 0)) rfl rfl) (a_ald rfl)) ?_
            refine Eq.trans (Eq.trans (r_go (act := oS (fSt 105 (gC (.int 59)))) rfl rfl) (a_C)) ?_
            refine Eq.trans (Eq.trans (r_go (act := oCI 108 2 (zcv g 12) (X_X12_isSign g)) rfl rfl) (a_cI rfl (zck (zO_72 g) rfl))) (zbI_cg (fun x12 M12 => ?_))
            refine Eq.trans (Eq.trans (r_go (act := oS (fIf 111 117 cEq0)) rfl rfl) (a_if)) (bcg ?_ ?_)
            · refine Eq.trans (Eq.trans (r_go (act := oS (fAld 112 0)) rfl rfl) (a_ald rfl)) ?_
              refine Eq.trans (Eq.trans (r_go (act := oS (fSt 113 (gC (.int 1)))) rfl rfl) (a_C)) ?_
              refine Eq.trans (Eq.trans (r_go (act := oCI 116 2 (zcv g 12) (X_X12_errs g)) rfl rfl) (a_cI rfl (zck (zO_72 g) rfl))) (zbI_cg (fun x13 M13 => ?_))
              exact Eq.trans (r_go (act := oIret) rfl rfl) (a_iret)
            · refine Eq.trans (Eq.trans (r_go (act := oS (fAld 118 0)) rfl rfl) (a_ald rfl)) ?_
              refine Eq.trans (Eq.trans (r_go (act := oCV 121 1 (zcv g 12) (X_X12_reads g)) rfl rfl) (a_cV rfl (zck (zO_72 g) rfl))) (zbV_cg (fun M14 => ?_))
              refine Eq.trans (Eq.trans (r_go (act := oS (fIld 122 1)) rfl rfl) (a_ild rfl)) ?_
              refine Eq.trans (Eq.trans (r_go (act := oS (fSt 123 (gC (.int 1)))) rfl rfl) (a_C)) ?_
              refine Eq.trans (Eq.trans (r_go (act := oS (fSt 124 (g2 (fun x y => x + y)))) rfl rfl) (a_add)) ?_
              refine Eq.trans (Eq.trans (r_go (act := oS (fIst 125 1)) rfl rfl) (a_ist rfl rfl)) ?_
              refine Eq.trans (Eq.trans (r_go (act := oS (fGo 2)) rfl rfl) (a_goto)) ?_
              exact r_cut rfl rfl
set_option maxRecDepth 20000 in
theorem e_X12_readsText_0 (g : zg) (a1 : Int32) (M : zM) : zX (t_X12_readsText g) 0 [some (.ref 72), some (.int a1)] [] M = (zbV (X_X12_reads g [.ref 72] ((zu M.1 72 26 0), M.2)) (fun M1 => (bif cEq a1 1 then (zbI (X_X12_readRounds g [.ref 72] M1) (fun x2 M2 => some (some (.int x2), M2))) else (bif cEq a1 2 then (zbI (X_X12_readAgenda g [.ref 72] M1) (fun x3 M3 => some (some (.int x3), M3))) else (zbI (X_X12_readLaw g [.ref 72] M1) (fun x4 M4 => some (some (.int x4), M4))))))) := by
  refine Eq.trans (zX_rgN (tl_X12_readsText g) (hc_X12_readsText g) 16 _ _ _ _) ?_
  refine Eq.trans (Eq.trans (r_0 (act := oS (fAld 1 0)) rfl) (a_ald rfl)) ?_
  refine Eq.trans (Eq.trans (r_go (act := oS (fSt 2 (gC (.int 0)))) rfl rfl) (a_C)) ?_
  refine Eq.trans (Eq.trans (r_go (act := oS (fPi g 5 12 26)) rfl rfl) (a_pi (zO_72 g))) ?_
  refine Eq.trans (Eq.trans (r_go (act := oS (fAld 6 0)) rfl rfl) (a_ald rfl)) ?_
  refine Eq.trans (Eq.trans (r_go (act := oCV 9 1 (zcv g 12) (X_X12_reads g)) rfl rfl) (a_cV rfl (zck (zO_72 g) rfl))) (zbV_cg (fun M1 => ?_))
  refine Eq.trans (Eq.trans (r_go (act := oS (fIld 10 1)) rfl rfl) (a_ild rfl)) ?_
  refine Eq.trans (Eq.trans (r_go (act := oS (fSt 11 (gC (.int 1)))) rfl rfl) (a_C)) ?_
  refine Eq.trans (Eq.trans (r_go (act := oS (fCm 14 19 cEq)) rfl rfl) (a_cm)) (bcg ?_ ?_)
  · refine Eq.trans (Eq.trans (r_go (act := oS (fAld 15 0)) rfl rfl) (a_ald rfl)) ?_
    refine Eq.trans (Eq.trans (r_go (act := oCI 18 1 (zcv g 12) (X_X12_readRounds g)) rfl rfl) (a_cI rfl (zck (zO_72 g) rfl))) (zbI_cg (fun x2 M2 => ?_))
    exact Eq.trans (r_go (act := oIret) rfl rfl) (a_iret)
  · refine Eq.trans (Eq.trans (r_go (act := oS (fIld 20 1)) rfl rfl) (a_ild rfl)) ?_
    refine Eq.trans (Eq.trans (r_go (act := oS (fSt 21 (gC (.int 2)))) rfl rfl) (a_C)) ?_
    refine Eq.trans (Eq.trans (r_go (act := oS (fCm 24 31 cEq)) rfl rfl) (a_cm)) (bcg ?_ ?_)
    · refine Eq.trans (Eq.trans (r_go (act := oS (fAld 25 0)) rfl rfl) (a_ald rfl)) ?_
      refine Eq.trans (Eq.trans (r_go (act := oCI 28 1 (zcv g 12) (X_X12_readAgenda g)) rfl rfl) (a_cI rfl (zck (zO_72 g) rfl))) (zbI_cg (fun x3 M3 => ?_))
      refine Eq.trans (Eq.trans (r_go (act := oS (fGo 35)) rfl rfl) (a_goto)) ?_
      exact Eq.trans (r_go (act := oIret) rfl rfl) (a_iret)
    · refine Eq.trans (Eq.trans (r_go (act := oS (fAld 32 0)) rfl rfl) (a_ald rfl)) ?_
      refine Eq.trans (Eq.trans (r_go (act := oCI 35 1 (zcv g 12) (X_X12_readLaw g)) rfl rfl) (a_cI rfl (zck (zO_72 g) rfl))) (zbI_cg (fun x4 M4 => ?_))
      exact Eq.trans (r_go (act := oIret) rfl rfl) (a_iret)
theorem x_X12_readsText_0 (g : zg) (a1 : Int32) (M : zM) : X_X12_readsText g [.ref 72, .int a1] M = (zbV (X_X12_reads g [.ref 72] ((zu M.1 72 26 0), M.2)) (fun M1 => (bif cEq a1 1 then (zbI (X_X12_readRounds g [.ref 72] M1) (fun x2 M2 => some (some (.int x2), M2))) else (bif cEq a1 2 then (zbI (X_X12_readAgenda g [.ref 72] M1) (fun x3 M3 => some (some (.int x3), M3))) else (zbI (X_X12_readLaw g [.ref 72] M1) (fun x4 M4 => some (some (.int x4), M4))))))) := e_X12_readsText_0 g a1 M
set_option maxRecDepth 20000 in
theorem e_X12_takesLaw_0 (g : zg) (a1 : Int32) (M : zM) : zX (t_X12_takesLaw g) 0 [some (.ref 72), some (.int a1), none] [] M = zX (t_X12_takesLaw g) 2 [some (.ref 72), some (.int a1), some (.int 0)] [] M := by
  refine Eq.trans (zX_rgN (tl_X12_takesLaw g) (hc_X12_takesLaw g) 4 _ _ _ _) ?_
  refine Eq.trans (Eq.trans (r_0 (act := oS (fSt 1 (gC (.int 0)))) rfl) (a_C)) ?_
  refine Eq.trans (Eq.trans (r_go (act := oS (fIst 2 2)) rfl rfl) (a_ist rfl rfl)) ?_
  exact r_cut rfl rfl
theorem x_X12_takesLaw_0 (g : zg) (a1 : Int32) (M : zM) : X_X12_takesLaw g [.ref 72, .int a1] M = zX (t_X12_takesLaw g) 2 [some (.ref 72), some (.int a1), some (.int 0)] [] M := e_X12_takesLaw_0 g a1 M
set_option maxRecDepth 20000 in
theorem e_X12_takesLaw_2 (g : zg) (a1 : Int32) (a2 : Int32) (M : zM) : zX (t_X12_takesLaw g) 2 [some (.ref 72), some (.int a1), some (.int a2)] [] M = (bif cLt a2 a1 then (bif zb (32 + a2) 48 then (bif zb ((16 * (M.1 72 26)) + a2) 48 then (bif zb (32 + a2) 48 then (bif zb ((16 * (M.1 72 26)) + a2) 48 then (bif zb (32 + a2) 48 then (bif zb ((16 * (M.1 72 26)) + a2) 48 then (bif zb (32 + a2) 48 then (bif zb ((16 * (M.1 72 26)) + a2) 48 then zX (t_X12_takesLaw g) 2 [some (.ref 72), some (.int a1), some (.int (a2 + 1))] [] ((zu (zu (zu (zu M.1 82 (zx ((16 * (M.1 72 26)) + a2)) (M.1 82 (zx (32 + a2)))) 83 (zx ((16 * (M.1 72 26)) + a2)) (M.1 83 (zx (32 + a2)))) 84 (zx ((16 * (M.1 72 26)) + a2)) (M.1 84 (zx (32 + a2)))) 85 (zx ((16 * (M.1 72 26)) + a2)) (M.1 85 (zx (32 + a2)))), M.2) else none) else none) else none) else none) else none) else none) else none) else none) else zX (t_X12_takesLaw g) 107 [some (.ref 72), some (.int a1), some (.int 0)] [] M) := by
  refine Eq.trans (zX_rgN (tl_X12_takesLaw g) (hc_X12_takesLaw g) 67 _ _ _ _) ?_
  refine Eq.trans (Eq.trans (Eq.trans (r_0 (act := oF [] (oS (fIld 3 2))) rfl) (a_F rfl)) (a_ild rfl)) ?_
  refine Eq.trans (Eq.trans (r_go (act := oS (fIld 4 1)) rfl rfl) (a_ild rfl)) ?_
  refine Eq.trans (Eq.trans (r_go (act := oS (fCm 7 105 cLt)) rfl rfl) (a_cm)) (bcg ?_ ?_)
  · refine Eq.trans (Eq.trans (r_go (act := oS (fAld 8 0)) rfl rfl) (a_ald rfl)) ?_
    refine Eq.trans (Eq.trans (r_go (act := oS (fGr g 11 12 20)) rfl rfl) (a_gr (zO_72 g) (zR_72_20 g))) ?_
    refine Eq.trans (Eq.trans (r_go (act := oS (fSt 13 (gC (.int 16)))) rfl rfl) (a_C)) ?_
    refine Eq.trans (Eq.trans (r_go (act := oS (fAld 14 0)) rfl rfl) (a_ald rfl)) ?_
    refine Eq.trans (Eq.trans (r_go (act := oS (fGi g 17 12 26)) rfl rfl) (a_gi (zO_72 g))) ?_
    refine Eq.trans (Eq.trans (r_go (act := oS (fSt 18 (g2 (fun x y => x * y)))) rfl rfl) (a_mul)) ?_
    refine Eq.trans (Eq.trans (r_go (act := oS (fIld 19 2)) rfl rfl) (a_ild rfl)) ?_
    refine Eq.trans (Eq.trans (r_go (act := oS (fSt 20 (g2 (fun x y => x + y)))) rfl rfl) (a_add)) ?_
    refine Eq.trans (Eq.trans (r_go (act := oS (fAld 21 0)) rfl rfl) (a_ald rfl)) ?_
    refine Eq.trans (Eq.trans (r_go (act := oS (fGr g 24 12 20)) rfl rfl) (a_gr (zO_72 g) (zR_72_20 g))) ?_
    refine Eq.trans (Eq.trans (r_go (act := oS (fSt 26 (gC (.int 32)))) rfl rfl) (a_C)) ?_
    refine Eq.trans (Eq.trans (r_go (act := oS (fIld 27 2)) rfl rfl) (a_ild rfl)) ?_
    refine Eq.trans (Eq.trans (r_go (act := oS (fSt 28 (g2 (fun x y => x + y)))) rfl rfl) (a_add)) ?_
    refine Eq.trans (Eq.trans (r_go (act := oS (fIa g 29)) rfl rfl) (a_ia (zA_82 g) zS_82)) (bcg ?_ rfl)
    refine Eq.trans (Eq.trans (r_go (act := oS (fIs g 30)) rfl rfl) (a_is (zA_82 g) zS_82)) (bcg ?_ rfl)
    refine Eq.trans (Eq.trans (r_go (act := oS (fAld 31 0)) rfl rfl) (a_ald rfl)) ?_
    refine Eq.trans (Eq.trans (r_go (act := oS (fGr g 34 12 21)) rfl rfl) (a_gr (zO_72 g) (zR_72_21 g))) ?_
    refine Eq.trans (Eq.trans (r_go (act := oS (fSt 36 (gC (.int 16)))) rfl rfl) (a_C)) ?_
    refine Eq.trans (Eq.trans (r_go (act := oS (fAld 37 0)) rfl rfl) (a_ald rfl)) ?_
    refine Eq.trans (Eq.trans (r_go (act := oS (fGi g 40 12 26)) rfl rfl) (a_giV (zO_72 g) rfl)) ?_
    refine Eq.trans (Eq.trans (r_go (act := oS (fSt 41 (g2 (fun x y => x * y)))) rfl rfl) (a_mul)) ?_
    refine Eq.trans (Eq.trans (r_go (act := oS (fIld 42 2)) rfl rfl) (a_ild rfl)) ?_
    refine Eq.trans (Eq.trans (r_go (act := oS (fSt 43 (g2 (fun x y => x + y)))) rfl rfl) (a_add)) ?_
    refine Eq.trans (Eq.trans (r_go (act := oS (fAld 44 0)) rfl rfl) (a_ald rfl)) ?_
    refine Eq.trans (Eq.trans (r_go (act := oS (fGr g 47 12 21)) rfl rfl) (a_gr (zO_72 g) (zR_72_21 g))) ?_
    refine Eq.trans (Eq.trans (r_go (act := oS (fSt 49 (gC (.int 32)))) rfl rfl) (a_C)) ?_
    refine Eq.trans (Eq.trans (r_go (act := oS (fIld 50 2)) rfl rfl) (a_ild rfl)) ?_
    refine Eq.trans (Eq.trans (r_go (act := oS (fSt 51 (g2 (fun x y => x + y)))) rfl rfl) (a_add)) ?_
    refine Eq.trans (Eq.trans (r_go (act := oS (fIa g 52)) rfl rfl) (a_iaV (zA_83 g) zS_83 rfl)) (bcg ?_ rfl)
    refine Eq.trans (Eq.trans (r_go (act := oS (fIs g 53)) rfl rfl) (a_is (zA_83 g) zS_83)) (bcg ?_ rfl)
    refine Eq.trans (Eq.trans (r_go (act := oS (fAld 54 0)) rfl rfl) (a_ald rfl)) ?_
    refine Eq.trans (Eq.trans (r_go (act := oS (fGr g 57 12 22)) rfl rfl) (a_gr (zO_72 g) (zR_72_22 g))) ?_
    refine Eq.trans (Eq.trans (r_go (act := oS (fSt 59 (gC (.int 16)))) rfl rfl) (a_C)) ?_
    refine Eq.trans (Eq.trans (r_go (act := oS (fAld 60 0)) rfl rfl) (a_ald rfl)) ?_
    refine Eq.trans (Eq.trans (r_go (act := oS (fGi g 63 12 26)) rfl rfl) (a_giV (zO_72 g) rfl)) ?_
    refine Eq.trans (Eq.trans (r_go (act := oS (fSt 64 (g2 (fun x y => x * y)))) rfl rfl) (a_mul)) ?_
    refine Eq.trans (Eq.trans (r_go (act := oS (fIld 65 2)) rfl rfl) (a_ild rfl)) ?_
    refine Eq.trans (Eq.trans (r_go (act := oS (fSt 66 (g2 (fun x y => x + y)))) rfl rfl) (a_add)) ?_
    refine Eq.trans (Eq.trans (r_go (act := oS (fAld 67 0)) rfl rfl) (a_ald rfl)) ?_
    refine Eq.trans (Eq.trans (r_go (act := oS (fGr g 70 12 22)) rfl rfl) (a_gr (zO_72 g) (zR_72_22 g))) ?_
    refine Eq.trans (Eq.trans (r_go (act := oS (fSt 72 (gC (.int 32)))) rfl rfl) (a_C)) ?_
    refine Eq.trans (Eq.trans (r_go (act := oS (fIld 73 2)) rfl rfl) (a_ild rfl)) ?_
    refine Eq.trans (Eq.trans (r_go (act := oS (fSt 74 (g2 (fun x y => x + y)))) rfl rfl) (a_add)) ?_
    refine Eq.trans (Eq.trans (r_go (act := oS (fIa g 75)) rfl rfl) (a_iaV (zA_84 g) zS_84 rfl)) (bcg ?_ rfl)
    refine Eq.trans (Eq.trans (r_go (act := oS (fIs g 76)) rfl rfl) (a_is (zA_84 g) zS_84)) (bcg ?_ rfl)
    refine Eq.trans (Eq.trans (r_go (act := oS (fAld 77 0)) rfl rfl) (a_ald rfl)) ?_
    refine Eq.trans (Eq.trans (r_go (act := oS (fGr g 80 12 23)) rfl rfl) (a_gr (zO_72 g) (zR_72_23 g))) ?_
    refine Eq.trans (Eq.trans (r_go (act := oS (fSt 82 (gC (.int 16)))) rfl rfl) (a_C)) ?_
    refine Eq.trans (Eq.trans (r_go (act := oS (fAld 83 0)) rfl rfl) (a_ald rfl)) ?_
    refine Eq.trans (Eq.trans (r_go (act := oS (fGi g 86 12 26)) rfl rfl) (a_giV (zO_72 g) rfl)) ?_
    refine Eq.trans (Eq.trans (r_go (act := oS (fSt 87 (g2 (fun x y => x * y)))) rfl rfl) (a_mul)) ?_
    refine Eq.trans (Eq.trans (r_go (act := oS (fIld 88 2)) rfl rfl) (a_ild rfl)) ?_
    refine Eq.trans (Eq.trans (r_go (act := oS (fSt 89 (g2 (fun x y => x + y)))) rfl rfl) (a_add)) ?_
    refine Eq.trans (Eq.trans (r_go (act := oS (fAld 90 0)) rfl rfl) (a_ald rfl)) ?_
    refine Eq.trans (Eq.trans (r_go (act := oS (fGr g 93 12 23)) rfl rfl) (a_gr (zO_72 g) (zR_72_23 g))) ?_
    refine Eq.trans (Eq.trans (r_go (act := oS (fSt 95 (gC (.int 32)))) rfl rfl) (a_C)) ?_
    refine Eq.trans (Eq.trans (r_go (act := oS (fIld 96 2)) rfl rfl) (a_ild rfl)) ?_
    refine Eq.trans (Eq.trans (r_go (act := oS (fSt 97 (g2 (fun x y => x + y)))) rfl rfl) (a_add)) ?_
    refine Eq.trans (Eq.trans (r_go (act := oS (fIa g 98)) rfl rfl) (a_iaV (zA_85 g) zS_85 rfl)) (bcg ?_ rfl)
    refine Eq.trans (Eq.trans (r_go (act := oS (fIs g 99)) rfl rfl) (a_is (zA_85 g) zS_85)) (bcg ?_ rfl)
    refine Eq.trans (Eq.trans (r_go (act := oS (fInc 102 2 1)) rfl rfl) (a_inc rfl rfl rfl)) ?_
    refine Eq.trans (Eq.trans (r_go (act := oS (fGo 2)) rfl rfl) (a_goto)) ?_
    exact r_cut rfl rfl
  · refine Eq.trans (Eq.trans (r_go (act := oS (fSt 106 (gC (.int 0)))) rfl rfl) (a_C)) ?_
    refine Eq.trans (Eq.trans (r_go (act := oS (fIst 107 2)) rfl rfl) (a_ist rfl rfl)) ?_
    exact r_cut rfl rfl
set_option maxRecDepth 20000 in
theorem e_X12_takesLaw_107 (g : zg) (a1 : Int32) (a2 : Int32) (M : zM) : zX (t_X12_takesLaw g) 107 [some (.ref 72), some (.int a1), some (.int a2)] [] M = (bif cLt a2 (M.1 72 27) then (bif zb (800 + a2) 1200 then (bif zb ((400 * (M.1 72 26)) + a2) 1200 then (bif zb (800 + a2) 1200 then (bif zb ((400 * (M.1 72 26)) + a2) 1200 then zX (t_X12_takesLaw g) 107 [some (.ref 72), some (.int a1), some (.int (a2 + 1))] [] ((zu (zu M.1 86 (zx ((400 * (M.1 72 26)) + a2)) (M.1 86 (zx (800 + a2)))) 87 (zx ((400 * (M.1 72 26)) + a2)) (M.1 87 (zx (800 + a2)))), M.2) else none) else none) else none) else none) else (bif zb (M.1 72 26) 2 then some (none, ((zu M.1 81 (zx (M.1 72 26)) a1), M.2)) else none)) := by
  refine Eq.trans (zX_rgN (tl_X12_takesLaw g) (hc_X12_takesLaw g) 38 _ _ _ _) ?_
  refine Eq.trans (Eq.trans (Eq.trans (r_0 (act := oF [] (oS (fIld 108 2))) rfl) (a_F rfl)) (a_ild rfl)) ?_
  refine Eq.trans (Eq.trans (r_go (act := oS (fAld 109 0)) rfl rfl) (a_ald rfl)) ?_
  refine Eq.trans (Eq.trans (r_go (act := oS (fGi g 112 12 27)) rfl rfl) (a_gi (zO_72 g))) ?_
  refine Eq.trans (Eq.trans (r_go (act := oS (fCm 115 171 cLt)) rfl rfl) (a_cm)) (bcg ?_ ?_)
  · refine Eq.trans (Eq.trans (r_go (act := oS (fAld 116 0)) rfl rfl) (a_ald rfl)) ?_
    refine Eq.trans (Eq.trans (r_go (act := oS (fGr g 119 12 24)) rfl rfl) (a_gr (zO_72 g) (zR_72_24 g))) ?_
    refine Eq.trans (Eq.trans (r_go (act := oS (fSt 122 (gC (.int 400)))) rfl rfl) (a_C)) ?_
    refine Eq.trans (Eq.trans (r_go (act := oS (fAld 123 0)) rfl rfl) (a_ald rfl)) ?_
    refine Eq.trans (Eq.trans (r_go (act := oS (fGi g 126 12 26)) rfl rfl) (a_gi (zO_72 g))) ?_
    refine Eq.trans (Eq.trans (r_go (act := oS (fSt 127 (g2 (fun x y => x * y)))) rfl rfl) (a_mul)) ?_
    refine Eq.trans (Eq.trans (r_go (act := oS (fIld 128 2)) rfl rfl) (a_ild rfl)) ?_
    refine Eq.trans (Eq.trans (r_go (act := oS (fSt 129 (g2 (fun x y => x + y)))) rfl rfl) (a_add)) ?_
    refine Eq.trans (Eq.trans (r_go (act := oS (fAld 130 0)) rfl rfl) (a_ald rfl)) ?_
    refine Eq.trans (Eq.trans (r_go (act := oS (fGr g 133 12 24)) rfl rfl) (a_gr (zO_72 g) (zR_72_24 g))) ?_
    refine Eq.trans (Eq.trans (r_go (act := oS (fSt 136 (gC (.int 800)))) rfl rfl) (a_C)) ?_
    refine Eq.trans (Eq.trans (r_go (act := oS (fIld 137 2)) rfl rfl) (a_ild rfl)) ?_
    refine Eq.trans (Eq.trans (r_go (act := oS (fSt 138 (g2 (fun x y => x + y)))) rfl rfl) (a_add)) ?_
    refine Eq.trans (Eq.trans (r_go (act := oS (fIa g 139)) rfl rfl) (a_ia (zA_86 g) zS_86)) (bcg ?_ rfl)
    refine Eq.trans (Eq.trans (r_go (act := oS (fIs g 140)) rfl rfl) (a_is (zA_86 g) zS_86)) (bcg ?_ rfl)
    refine Eq.trans (Eq.trans (r_go (act := oS (fAld 141 0)) rfl rfl) (a_ald rfl)) ?_
    refine Eq.trans (Eq.trans (r_go (act := oS (fGr g 144 12 25)) rfl rfl) (a_gr (zO_72 g) (zR_72_25 g))) ?_
    refine Eq.trans (Eq.trans (r_go (act := oS (fSt 147 (gC (.int 400)))) rfl rfl) (a_C)) ?_
    refine Eq.trans (Eq.trans (r_go (act := oS (fAld 148 0)) rfl rfl) (a_ald rfl)) ?_
    refine Eq.trans (Eq.trans (r_go (act := oS (fGi g 151 12 26)) rfl rfl) (a_giV (zO_72 g) rfl)) ?_
    refine Eq.trans (Eq.trans (r_go (act := oS (fSt 152 (g2 (fun x y => x * y)))) rfl rfl) (a_mul)) ?_
    refine Eq.trans (Eq.trans (r_go (act := oS (fIld 153 2)) rfl rfl) (a_ild rfl)) ?_
    refine Eq.trans (Eq.trans (r_go (act := oS (fSt 154 (g2 (fun x y => x + y)))) rfl rfl) (a_add)) ?_
    refine Eq.trans (Eq.trans (r_go (act := oS (fAld 155 0)) rfl rfl) (a_ald rfl)) ?_
    refine Eq.trans (Eq.trans (r_go (act := oS (fGr g 158 12 25)) rfl rfl) (a_gr (zO_72 g) (zR_72_25 g))) ?_
    refine Eq.trans (Eq.trans (r_go (act := oS (fSt 161 (gC (.int 800)))) rfl rfl) (a_C)) ?_
    refine Eq.trans (Eq.trans (r_go (act := oS (fIld 162 2)) rfl rfl) (a_ild rfl)) ?_
    refine Eq.trans (Eq.trans (r_go (act := oS (fSt 163 (g2 (fun x y => x + y)))) rfl rfl) (a_add)) ?_
    refine Eq.trans (Eq.trans (r_go (act := oS (fIa g 164)) rfl rfl) (a_iaV (zA_87 g) zS_87 rfl)) (bcg ?_ rfl)
    refine Eq.trans (Eq.trans (r_go (act := oS (fIs g 165)) rfl rfl) (a_is (zA_87 g) zS_87)) (bcg ?_ rfl)
    refine Eq.trans (Eq.trans (r_go (act := oS (fInc 168 2 1)) rfl rfl) (a_inc rfl rfl rfl)) ?_
    refine Eq.trans (Eq.trans (r_go (act := oS (fGo 107)) rfl rfl) (a_goto)) ?_
    exact r_cut rfl rfl
  · refine Eq.trans (Eq.trans (r_go (act := oS (fAld 172 0)) rfl rfl) (a_ald rfl)) ?_
    refine Eq.trans (Eq.trans (r_go (act := oS (fGr g 175 12 19)) rfl rfl) (a_gr (zO_72 g) (zR_72_19 g))) ?_
    refine Eq.trans (Eq.trans (r_go (act := oS (fAld 176 0)) rfl rfl) (a_ald rfl)) ?_
    refine Eq.trans (Eq.trans (r_go (act := oS (fGi g 179 12 26)) rfl rfl) (a_gi (zO_72 g))) ?_
    refine Eq.trans (Eq.trans (r_go (act := oS (fIld 180 1)) rfl rfl) (a_ild rfl)) ?_
    refine Eq.trans (Eq.trans (r_go (act := oS (fIs g 181)) rfl rfl) (a_is (zA_81 g) zS_81)) (bcg ?_ rfl)
    exact Eq.trans (r_go (act := oVret) rfl rfl) (a_vret)
set_option maxRecDepth 20000 in
theorem e_X12_takesOther_0 (g : zg) (a1 : Int32) (a2 : Int32) (M : zM) : zX (t_X12_takesOther g) 0 [some (.ref 72), some (.int a1), some (.int a2), none] [] M = (bif cEq a1 1 then zX (t_X12_takesOther g) 7 [some (.ref 72), none, some (.int a2), some (.int 0)] [] M else zX (t_X12_takesOther g) 45 [some (.ref 72), none, some (.int a2), some (.int 0)] [] M) := by
  refine Eq.trans (zX_rgN (tl_X12_takesOther g) (hc_X12_takesOther g) 7 _ _ _ _) ?_
  refine Eq.trans (Eq.trans (r_0 (act := oS (fIld 1 1)) rfl) (a_ild rfl)) ?_
  refine Eq.trans (Eq.trans (r_go (act := oS (fSt 2 (gC (.int 1)))) rfl rfl) (a_C)) ?_
  refine Eq.trans (Eq.trans (r_go (act := oS (fCm 5 43 cEq)) rfl rfl) (a_cm)) (bcg ?_ ?_)
  · refine Eq.trans (Eq.trans (r_go (act := oS (fSt 6 (gC (.int 0)))) rfl rfl) (a_C)) ?_
    refine Eq.trans (Eq.trans (r_go (act := oS (fIst 7 3)) rfl rfl) (a_ist rfl rfl)) ?_
    exact r_cut rfl rfl
  · refine Eq.trans (Eq.trans (r_go (act := oS (fSt 44 (gC (.int 0)))) rfl rfl) (a_C)) ?_
    refine Eq.trans (Eq.trans (r_go (act := oS (fIst 45 3)) rfl rfl) (a_ist rfl rfl)) ?_
    exact r_cut rfl rfl
theorem x_X12_takesOther_0 (g : zg) (a1 : Int32) (a2 : Int32) (M : zM) : X_X12_takesOther g [.ref 72, .int a1, .int a2] M = (bif cEq a1 1 then zX (t_X12_takesOther g) 7 [some (.ref 72), none, some (.int a2), some (.int 0)] [] M else zX (t_X12_takesOther g) 45 [some (.ref 72), none, some (.int a2), some (.int 0)] [] M) := e_X12_takesOther_0 g a1 a2 M
set_option maxRecDepth 20000 in
theorem e_X12_takesOther_7 (g : zg) (a2 : Int32) (a3 : Int32) (M : zM) : zX (t_X12_takesOther g) 7 [some (.ref 72), none, some (.int a2), some (.int a3)] [] M = (bif cLt a3 (2 * a2) then (bif zb (24 + a3) 48 then (bif zb a3 48 then zX (t_X12_takesOther g) 7 [some (.ref 72), none, some (.int a2), some (.int (a3 + 1))] [] ((zu M.1 89 (zx a3) (M.1 89 (zx (24 + a3)))), M.2) else none) else none) else some (none, ((zu (zu M.1 72 35 a2) 72 3 0), M.2))) := by
  refine Eq.trans (zX_rgN (tl_X12_takesOther g) (hc_X12_takesOther g) 19 _ _ _ _) ?_
  refine Eq.trans (Eq.trans (Eq.trans (r_0 (act := oF [1] (oS (fIld 8 3))) rfl) (a_F rfl)) (a_ild rfl)) ?_
  refine Eq.trans (Eq.trans (r_go (act := oS (fSt 9 (gC (.int 2)))) rfl rfl) (a_C)) ?_
  refine Eq.trans (Eq.trans (r_go (act := oS (fIld 10 2)) rfl rfl) (a_ild rfl)) ?_
  refine Eq.trans (Eq.trans (r_go (act := oS (fSt 11 (g2 (fun x y => x * y)))) rfl rfl) (a_mul)) ?_
  refine Eq.trans (Eq.trans (r_go (act := oS (fCm 14 35 cLt)) rfl rfl) (a_cm)) (bcg ?_ ?_)
  · refine Eq.trans (Eq.trans (r_go (act := oS (fAld 15 0)) rfl rfl) (a_ald rfl)) ?_
    refine Eq.trans (Eq.trans (r_go (act := oS (fGr g 18 12 36)) rfl rfl) (a_gr (zO_72 g) (zR_72_36 g))) ?_
    refine Eq.trans (Eq.trans (r_go (act := oS (fIld 19 3)) rfl rfl) (a_ild rfl)) ?_
    refine Eq.trans (Eq.trans (r_go (act := oS (fAld 20 0)) rfl rfl) (a_ald rfl)) ?_
    refine Eq.trans (Eq.trans (r_go (act := oS (fGr g 23 12 36)) rfl rfl) (a_gr (zO_72 g) (zR_72_36 g))) ?_
    refine Eq.trans (Eq.trans (r_go (act := oS (fSt 25 (gC (.int 24)))) rfl rfl) (a_C)) ?_
    refine Eq.trans (Eq.trans (r_go (act := oS (fIld 26 3)) rfl rfl) (a_ild rfl)) ?_
    refine Eq.trans (Eq.trans (r_go (act := oS (fSt 27 (g2 (fun x y => x + y)))) rfl rfl) (a_add)) ?_
    refine Eq.trans (Eq.trans (r_go (act := oS (fIa g 28)) rfl rfl) (a_ia (zA_89 g) zS_89)) (bcg ?_ rfl)
    refine Eq.trans (Eq.trans (r_go (act := oS (fIs g 29)) rfl rfl) (a_is (zA_89 g) zS_89)) (bcg ?_ rfl)
    refine Eq.trans (Eq.trans (r_go (act := oS (fInc 32 3 1)) rfl rfl) (a_inc rfl rfl rfl)) ?_
    refine Eq.trans (Eq.trans (r_go (act := oS (fGo 7)) rfl rfl) (a_goto)) ?_
    exact r_cut rfl rfl
  · refine Eq.trans (Eq.trans (r_go (act := oS (fAld 36 0)) rfl rfl) (a_ald rfl)) ?_
    refine Eq.trans (Eq.trans (r_go (act := oS (fIld 37 2)) rfl rfl) (a_ild rfl)) ?_
    refine Eq.trans (Eq.trans (r_go (act := oS (fPi g 40 12 35)) rfl rfl) (a_pi (zO_72 g))) ?_
    refine Eq.trans (Eq.trans (r_go (act := oS (fGo 78)) rfl rfl) (a_goto)) ?_
    refine Eq.trans (Eq.trans (r_go (act := oS (fAld 79 0)) rfl rfl) (a_ald rfl)) ?_
    refine Eq.trans (Eq.trans (r_go (act := oS (fSt 80 (gC (.int 0)))) rfl rfl) (a_C)) ?_
    refine Eq.trans (Eq.trans (r_go (act := oS (fPi g 83 12 3)) rfl rfl) (a_pi (zO_72 g))) ?_
    exact Eq.trans (r_go (act := oVret) rfl rfl) (a_vret)
set_option maxRecDepth 20000 in
theorem e_X12_takesOther_45 (g : zg) (a2 : Int32) (a3 : Int32) (M : zM) : zX (t_X12_takesOther g) 45 [some (.ref 72), none, some (.int a2), some (.int a3)] [] M = (bif cLt a3 (4 * a2) then (bif zb (64 + a3) 128 then (bif zb a3 128 then zX (t_X12_takesOther g) 45 [some (.ref 72), none, some (.int a2), some (.int (a3 + 1))] [] ((zu M.1 90 (zx a3) (M.1 90 (zx (64 + a3)))), M.2) else none) else none) else some (none, ((zu (zu M.1 72 37 a2) 72 3 0), M.2))) := by
  refine Eq.trans (zX_rgN (tl_X12_takesOther g) (hc_X12_takesOther g) 19 _ _ _ _) ?_
  refine Eq.trans (Eq.trans (Eq.trans (r_0 (act := oF [1] (oS (fIld 46 3))) rfl) (a_F rfl)) (a_ild rfl)) ?_
  refine Eq.trans (Eq.trans (r_go (act := oS (fSt 47 (gC (.int 4)))) rfl rfl) (a_C)) ?_
  refine Eq.trans (Eq.trans (r_go (act := oS (fIld 48 2)) rfl rfl) (a_ild rfl)) ?_
  refine Eq.trans (Eq.trans (r_go (act := oS (fSt 49 (g2 (fun x y => x * y)))) rfl rfl) (a_mul)) ?_
  refine Eq.trans (Eq.trans (r_go (act := oS (fCm 52 73 cLt)) rfl rfl) (a_cm)) (bcg ?_ ?_)
  · refine Eq.trans (Eq.trans (r_go (act := oS (fAld 53 0)) rfl rfl) (a_ald rfl)) ?_
    refine Eq.trans (Eq.trans (r_go (act := oS (fGr g 56 12 38)) rfl rfl) (a_gr (zO_72 g) (zR_72_38 g))) ?_
    refine Eq.trans (Eq.trans (r_go (act := oS (fIld 57 3)) rfl rfl) (a_ild rfl)) ?_
    refine Eq.trans (Eq.trans (r_go (act := oS (fAld 58 0)) rfl rfl) (a_ald rfl)) ?_
    refine Eq.trans (Eq.trans (r_go (act := oS (fGr g 61 12 38)) rfl rfl) (a_gr (zO_72 g) (zR_72_38 g))) ?_
    refine Eq.trans (Eq.trans (r_go (act := oS (fSt 63 (gC (.int 64)))) rfl rfl) (a_C)) ?_
    refine Eq.trans (Eq.trans (r_go (act := oS (fIld 64 3)) rfl rfl) (a_ild rfl)) ?_
    refine Eq.trans (Eq.trans (r_go (act := oS (fSt 65 (g2 (fun x y => x + y)))) rfl rfl) (a_add)) ?_
    refine Eq.trans (Eq.trans (r_go (act := oS (fIa g 66)) rfl rfl) (a_ia (zA_90 g) zS_90)) (bcg ?_ rfl)
    refine Eq.trans (Eq.trans (r_go (act := oS (fIs g 67)) rfl rfl) (a_is (zA_90 g) zS_90)) (bcg ?_ rfl)
    refine Eq.trans (Eq.trans (r_go (act := oS (fInc 70 3 1)) rfl rfl) (a_inc rfl rfl rfl)) ?_
    refine Eq.trans (Eq.trans (r_go (act := oS (fGo 45)) rfl rfl) (a_goto)) ?_
    exact r_cut rfl rfl
  · refine Eq.trans (Eq.trans (r_go (act := oS (fAld 74 0)) rfl rfl) (a_ald rfl)) ?_
    refine Eq.trans (Eq.trans (r_go (act := oS (fIld 75 2)) rfl rfl) (a_ild rfl)) ?_
    refine Eq.trans (Eq.trans (r_go (act := oS (fPi g 78 12 37)) rfl rfl) (a_pi (zO_72 g))) ?_
    refine Eq.trans (Eq.trans (r_go (act := oS (fAld 79 0)) rfl rfl) (a_ald rfl)) ?_
    refine Eq.trans (Eq.trans (r_go (act := oS (fSt 80 (gC (.int 0)))) rfl rfl) (a_C)) ?_
    refine Eq.trans (Eq.trans (r_go (act := oS (fPi g 83 12 3)) rfl rfl) (a_pi (zO_72 g))) ?_
    exact Eq.trans (r_go (act := oVret) rfl rfl) (a_vret)
set_option maxRecDepth 20000 in
theorem e_X12_text_0 (g : zg) (a1 : Int32) (M : zM) : zX (t_X12_text g) 0 [some (.ref 72), some (.int a1), none] [] M = (zbI (X_X12_isIn g [.ref 72, .int a1, .int 0, .int 2] ((zu (zu (zu (zu (zu (zu M.1 72 0 0) 72 33 0) 72 34 (-1)) 72 14 0) 72 27 0) 72 28 0), M.2)) (fun x1 M1 => (bif cEq0 x1 then some (some (.int (-1)), ((zu M1.1 72 13 0), M1.2)) else (zbI (X_X12_readsText g [.ref 72, .int a1] M1) (fun x2 M2 => (bif cEq x2 (-1) then (bif cEq x2 (-1) then some (some (.int (-1)), ((zu (zu (zu M2.1 72 33 (M2.1 72 31)) 72 34 (M2.1 72 32)) 72 13 0), M2.2)) else (bif cEq0 a1 then (zbV (X_X12_takesLaw g [.ref 72, .int x2] ((zu (zu (zu M2.1 72 33 (M2.1 72 31)) 72 34 (M2.1 72 32)) 72 13 0), M2.2)) (fun M3 => some (some (.int x2), M3))) else (zbV (X_X12_takesOther g [.ref 72, .int a1, .int x2] ((zu (zu (zu M2.1 72 33 (M2.1 72 31)) 72 34 (M2.1 72 32)) 72 13 0), M2.2)) (fun M4 => some (some (.int x2), M4))))) else (bif cEq x2 (-1) then some (some (.int (-1)), ((zu M2.1 72 13 0), M2.2)) else (bif cEq0 a1 then (zbV (X_X12_takesLaw g [.ref 72, .int x2] ((zu M2.1 72 13 0), M2.2)) (fun M5 => some (some (.int x2), M5))) else (zbV (X_X12_takesOther g [.ref 72, .int a1, .int x2] ((zu M2.1 72 13 0), M2.2)) (fun M6 => some (some (.int x2), M6))))))))))) := by
  refine Eq.trans (zX_rgN (tl_X12_text g) (hc_X12_text g) 56 _ _ _ _) ?_
  refine Eq.trans (Eq.trans (r_0 (act := oS (fAld 1 0)) rfl) (a_ald rfl)) ?_
  refine Eq.trans (Eq.trans (r_go (act := oS (fSt 2 (gC (.int 0)))) rfl rfl) (a_C)) ?_
  refine Eq.trans (Eq.trans (r_go (act := oS (fPi g 5 12 0)) rfl rfl) (a_pi (zO_72 g))) ?_
  refine Eq.trans (Eq.trans (r_go (act := oS (fAld 6 0)) rfl rfl) (a_ald rfl)) ?_
  refine Eq.trans (Eq.trans (r_go (act := oS (fSt 7 (gC (.int 0)))) rfl rfl) (a_C)) ?_
  refine Eq.trans (Eq.trans (r_go (act := oS (fPi g 10 12 33)) rfl rfl) (a_pi (zO_72 g))) ?_
  refine Eq.trans (Eq.trans (r_go (act := oS (fAld 11 0)) rfl rfl) (a_ald rfl)) ?_
  refine Eq.trans (Eq.trans (r_go (act := oS (fSt 12 (gC (.int (-1))))) rfl rfl) (a_C)) ?_
  refine Eq.trans (Eq.trans (r_go (act := oS (fPi g 15 12 34)) rfl rfl) (a_pi (zO_72 g))) ?_
  refine Eq.trans (Eq.trans (r_go (act := oS (fAld 16 0)) rfl rfl) (a_ald rfl)) ?_
  refine Eq.trans (Eq.trans (r_go (act := oS (fSt 17 (gC (.int 0)))) rfl rfl) (a_C)) ?_
  refine Eq.trans (Eq.trans (r_go (act := oS (fPi g 20 12 14)) rfl rfl) (a_pi (zO_72 g))) ?_
  refine Eq.trans (Eq.trans (r_go (act := oS (fAld 21 0)) rfl rfl) (a_ald rfl)) ?_
  refine Eq.trans (Eq.trans (r_go (act := oS (fSt 22 (gC (.int 0)))) rfl rfl) (a_C)) ?_
  refine Eq.trans (Eq.trans (r_go (act := oS (fPi g 25 12 27)) rfl rfl) (a_pi (zO_72 g))) ?_
  refine Eq.trans (Eq.trans (r_go (act := oS (fAld 26 0)) rfl rfl) (a_ald rfl)) ?_
  refine Eq.trans (Eq.trans (r_go (act := oS (fSt 27 (gC (.int 0)))) rfl rfl) (a_C)) ?_
  refine Eq.trans (Eq.trans (r_go (act := oS (fPi g 30 12 28)) rfl rfl) (a_pi (zO_72 g))) ?_
  refine Eq.trans (Eq.trans (r_go (act := oS (fSt 31 (gC (.int (-1))))) rfl rfl) (a_C)) ?_
  refine Eq.trans (Eq.trans (r_go (act := oS (fIst 32 2)) rfl rfl) (a_ist rfl rfl)) ?_
  refine Eq.trans (Eq.trans (r_go (act := oS (fAld 33 0)) rfl rfl) (a_ald rfl)) ?_
  refine Eq.trans (Eq.trans (r_go (act := oS (fIld 34 1)) rfl rfl) (a_ild rfl)) ?_
  refine Eq.trans (Eq.trans (r_go (act := oS (fSt 35 (gC (.int 0)))) rfl rfl) (a_C)) ?_
  refine Eq.trans (Eq.trans (r_go (act := oS (fSt 36 (gC (.int 2)))) rfl rfl) (a_C)) ?_
  refine Eq.trans (Eq.trans (r_go (act := oCI 39 4 (zcv g 12) (X_X12_isIn g)) rfl rfl) (a_cI rfl (zck (zO_72 g) rfl))) (zbI_cg (fun x1 M1 => ?_))
  refine Eq.trans (Eq.trans (r_go (act := oS (fIf 69 42 cEq0)) rfl rfl) (a_if)) (bcg ?_ ?_)
  · refine Eq.trans (Eq.trans (r_go (act := oS (fAld 70 0)) rfl rfl) (a_ald rfl)) ?_
    refine Eq.trans (Eq.trans (r_go (act := oS (fSt 71 (gC (.int 0)))) rfl rfl) (a_C)) ?_
    refine Eq.trans (Eq.trans (r_go (act := oS (fPi g 74 12 13)) rfl rfl) (a_pi (zO_72 g))) ?_
    refine Eq.trans (Eq.trans (r_go (act := oS (fIld 75 2)) rfl rfl) (a_ild rfl)) ?_
    refine Eq.trans (Eq.trans (r_go (act := oS (fSt 76 (gC (.int (-1))))) rfl rfl) (a_C)) ?_
    refine Eq.trans (Eq.trans (r_go (act := oS (fCm 79 81 cEq)) rfl rfl) (a_cmT (by decide +kernel))) ?_
    refine Eq.trans (Eq.trans (r_go (act := oS (fSt 80 (gC (.int (-1))))) rfl rfl) (a_C)) ?_
    exact Eq.trans (r_go (act := oIret) rfl rfl) (a_iret)
  · refine Eq.trans (Eq.trans (r_go (act := oS (fAld 43 0)) rfl rfl) (a_ald rfl)) ?_
    refine Eq.trans (Eq.trans (r_go (act := oS (fIld 44 1)) rfl rfl) (a_ild rfl)) ?_
    refine Eq.trans (Eq.trans (r_go (act := oCI 47 2 (zcv g 12) (X_X12_readsText g)) rfl rfl) (a_cI rfl (zck (zO_72 g) rfl))) (zbI_cg (fun x2 M2 => ?_))
    refine Eq.trans (Eq.trans (r_go (act := oS (fIst 48 2)) rfl rfl) (a_ist rfl rfl)) ?_
    refine Eq.trans (Eq.trans (r_go (act := oS (fIld 49 2)) rfl rfl) (a_ild rfl)) ?_
    refine Eq.trans (Eq.trans (r_go (act := oS (fSt 50 (gC (.int (-1))))) rfl rfl) (a_C)) ?_
    refine Eq.trans (Eq.trans (r_go (act := oS (fCm 53 69 cEq)) rfl rfl) (a_cm)) (bcg ?_ ?_)
    · refine Eq.trans (Eq.trans (r_go (act := oS (fAld 54 0)) rfl rfl) (a_ald rfl)) ?_
      refine Eq.trans (Eq.trans (r_go (act := oS (fAld 55 0)) rfl rfl) (a_ald rfl)) ?_
      refine Eq.trans (Eq.trans (r_go (act := oS (fGi g 58 12 31)) rfl rfl) (a_gi (zO_72 g))) ?_
      refine Eq.trans (Eq.trans (r_go (act := oS (fPi g 61 12 33)) rfl rfl) (a_pi (zO_72 g))) ?_
      refine Eq.trans (Eq.trans (r_go (act := oS (fAld 62 0)) rfl rfl) (a_ald rfl)) ?_
      refine Eq.trans (Eq.trans (r_go (act := oS (fAld 63 0)) rfl rfl) (a_ald rfl)) ?_
      refine Eq.trans (Eq.trans (r_go (act := oS (fGi g 66 12 32)) rfl rfl) (a_giV (zO_72 g) rfl)) ?_
      refine Eq.trans (Eq.trans (r_go (act := oS (fPi g 69 12 34)) rfl rfl) (a_pi (zO_72 g))) ?_
      refine Eq.trans (Eq.trans (r_go (act := oS (fAld 70 0)) rfl rfl) (a_ald rfl)) ?_
      refine Eq.trans (Eq.trans (r_go (act := oS (fSt 71 (gC (.int 0)))) rfl rfl) (a_C)) ?_
      refine Eq.trans (Eq.trans (r_go (act := oS (fPi g 74 12 13)) rfl rfl) (a_pi (zO_72 g))) ?_
      refine Eq.trans (Eq.trans (r_go (act := oS (fIld 75 2)) rfl rfl) (a_ild rfl)) ?_
      refine Eq.trans (Eq.trans (r_go (act := oS (fSt 76 (gC (.int (-1))))) rfl rfl) (a_C)) ?_
      refine Eq.trans (Eq.trans (r_go (act := oS (fCm 79 81 cEq)) rfl rfl) (a_cm)) (bcg ?_ ?_)
      · refine Eq.trans (Eq.trans (r_go (act := oS (fSt 80 (gC (.int (-1))))) rfl rfl) (a_C)) ?_
        exact Eq.trans (r_go (act := oIret) rfl rfl) (a_iret)
      · refine Eq.trans (Eq.trans (r_go (act := oS (fIld 82 1)) rfl rfl) (a_ild rfl)) ?_
        refine Eq.trans (Eq.trans (r_go (act := oS (fIf 85 93 cEq0)) rfl rfl) (a_if)) (bcg ?_ ?_)
        · refine Eq.trans (Eq.trans (r_go (act := oS (fAld 86 0)) rfl rfl) (a_ald rfl)) ?_
          refine Eq.trans (Eq.trans (r_go (act := oS (fIld 87 2)) rfl rfl) (a_ild rfl)) ?_
          refine Eq.trans (Eq.trans (r_go (act := oCV 90 2 (zcv g 12) (X_X12_takesLaw g)) rfl rfl) (a_cV rfl (zck (zO_72 g) rfl))) (zbV_cg (fun M3 => ?_))
          refine Eq.trans (Eq.trans (r_go (act := oS (fGo 99)) rfl rfl) (a_goto)) ?_
          refine Eq.trans (Eq.trans (r_go (act := oS (fIld 100 2)) rfl rfl) (a_ild rfl)) ?_
          exact Eq.trans (r_go (act := oIret) rfl rfl) (a_iret)
        · refine Eq.trans (Eq.trans (r_go (act := oS (fAld 94 0)) rfl rfl) (a_ald rfl)) ?_
          refine Eq.trans (Eq.trans (r_go (act := oS (fIld 95 1)) rfl rfl) (a_ild rfl)) ?_
          refine Eq.trans (Eq.trans (r_go (act := oS (fIld 96 2)) rfl rfl) (a_ild rfl)) ?_
          refine Eq.trans (Eq.trans (r_go (act := oCV 99 3 (zcv g 12) (X_X12_takesOther g)) rfl rfl) (a_cV rfl (zck (zO_72 g) rfl))) (zbV_cg (fun M4 => ?_))
          refine Eq.trans (Eq.trans (r_go (act := oS (fIld 100 2)) rfl rfl) (a_ild rfl)) ?_
          exact Eq.trans (r_go (act := oIret) rfl rfl) (a_iret)
    · refine Eq.trans (Eq.trans (r_go (act := oS (fAld 70 0)) rfl rfl) (a_ald rfl)) ?_
      refine Eq.trans (Eq.trans (r_go (act := oS (fSt 71 (gC (.int 0)))) rfl rfl) (a_C)) ?_
      refine Eq.trans (Eq.trans (r_go (act := oS (fPi g 74 12 13)) rfl rfl) (a_pi (zO_72 g))) ?_
      refine Eq.trans (Eq.trans (r_go (act := oS (fIld 75 2)) rfl rfl) (a_ild rfl)) ?_
      refine Eq.trans (Eq.trans (r_go (act := oS (fSt 76 (gC (.int (-1))))) rfl rfl) (a_C)) ?_
      refine Eq.trans (Eq.trans (r_go (act := oS (fCm 79 81 cEq)) rfl rfl) (a_cm)) (bcg ?_ ?_)
      · refine Eq.trans (Eq.trans (r_go (act := oS (fSt 80 (gC (.int (-1))))) rfl rfl) (a_C)) ?_
        exact Eq.trans (r_go (act := oIret) rfl rfl) (a_iret)
      · refine Eq.trans (Eq.trans (r_go (act := oS (fIld 82 1)) rfl rfl) (a_ild rfl)) ?_
        refine Eq.trans (Eq.trans (r_go (act := oS (fIf 85 93 cEq0)) rfl rfl) (a_if)) (bcg ?_ ?_)
        · refine Eq.trans (Eq.trans (r_go (act := oS (fAld 86 0)) rfl rfl) (a_ald rfl)) ?_
          refine Eq.trans (Eq.trans (r_go (act := oS (fIld 87 2)) rfl rfl) (a_ild rfl)) ?_
          refine Eq.trans (Eq.trans (r_go (act := oCV 90 2 (zcv g 12) (X_X12_takesLaw g)) rfl rfl) (a_cV rfl (zck (zO_72 g) rfl))) (zbV_cg (fun M5 => ?_))
          refine Eq.trans (Eq.trans (r_go (act := oS (fGo 99)) rfl rfl) (a_goto)) ?_
          refine Eq.trans (Eq.trans (r_go (act := oS (fIld 100 2)) rfl rfl) (a_ild rfl)) ?_
          exact Eq.trans (r_go (act := oIret) rfl rfl) (a_iret)
        · refine Eq.trans (Eq.trans (r_go (act := oS (fAld 94 0)) rfl rfl) (a_ald rfl)) ?_
          refine Eq.trans (Eq.trans (r_go (act := oS (fIld 95 1)) rfl rfl) (a_ild rfl)) ?_
          refine Eq.trans (Eq.trans (r_go (act := oS (fIld 96 2)) rfl rfl) (a_ild rfl)) ?_
          refine Eq.trans (Eq.trans (r_go (act := oCV 99 3 (zcv g 12) (X_X12_takesOther g)) rfl rfl) (a_cV rfl (zck (zO_72 g) rfl))) (zbV_cg (fun M6 => ?_))
          refine Eq.trans (Eq.trans (r_go (act := oS (fIld 100 2)) rfl rfl) (a_ild rfl)) ?_
          exact Eq.trans (r_go (act := oIret) rfl rfl) (a_iret)
theorem x_X12_text_0 (g : zg) (a1 : Int32) (M : zM) : X_X12_text g [.ref 72, .int a1] M = (zbI (X_X12_isIn g [.ref 72, .int a1, .int 0, .int 2] ((zu (zu (zu (zu (zu (zu M.1 72 0 0) 72 33 0) 72 34 (-1)) 72 14 0) 72 27 0) 72 28 0), M.2)) (fun x1 M1 => (bif cEq0 x1 then some (some (.int (-1)), ((zu M1.1 72 13 0), M1.2)) else (zbI (X_X12_readsText g [.ref 72, .int a1] M1) (fun x2 M2 => (bif cEq x2 (-1) then (bif cEq x2 (-1) then some (some (.int (-1)), ((zu (zu (zu M2.1 72 33 (M2.1 72 31)) 72 34 (M2.1 72 32)) 72 13 0), M2.2)) else (bif cEq0 a1 then (zbV (X_X12_takesLaw g [.ref 72, .int x2] ((zu (zu (zu M2.1 72 33 (M2.1 72 31)) 72 34 (M2.1 72 32)) 72 13 0), M2.2)) (fun M3 => some (some (.int x2), M3))) else (zbV (X_X12_takesOther g [.ref 72, .int a1, .int x2] ((zu (zu (zu M2.1 72 33 (M2.1 72 31)) 72 34 (M2.1 72 32)) 72 13 0), M2.2)) (fun M4 => some (some (.int x2), M4))))) else (bif cEq x2 (-1) then some (some (.int (-1)), ((zu M2.1 72 13 0), M2.2)) else (bif cEq0 a1 then (zbV (X_X12_takesLaw g [.ref 72, .int x2] ((zu M2.1 72 13 0), M2.2)) (fun M5 => some (some (.int x2), M5))) else (zbV (X_X12_takesOther g [.ref 72, .int a1, .int x2] ((zu M2.1 72 13 0), M2.2)) (fun M6 => some (some (.int x2), M6))))))))))) := e_X12_text_0 g a1 M
set_option maxRecDepth 20000 in
theorem e_X12_fault_0 (g : zg) (a1 : Int32) (M : zM) : zX (t_X12_fault g) 0 [some (.ref 72), some (.int a1)] [] M = (bif cEq0 a1 then some (some (.int (M.1 72 33)), ((zu M.1 72 0 0), M.2)) else (bif cEq a1 1 then some (some (.int (M.1 72 34)), ((zu M.1 72 0 0), M.2)) else some (some (.int (-1)), ((zu M.1 72 0 0), M.2)))) := by
  refine Eq.trans (zX_rgN (tl_X12_fault g) (hc_X12_fault g) 13 _ _ _ _) ?_
  refine Eq.trans (Eq.trans (r_0 (act := oS (fAld 1 0)) rfl) (a_ald rfl)) ?_
  refine Eq.trans (Eq.trans (r_go (act := oS (fSt 2 (gC (.int 0)))) rfl rfl) (a_C)) ?_
  refine Eq.trans (Eq.trans (r_go (act := oS (fPi g 5 12 0)) rfl rfl) (a_pi (zO_72 g))) ?_
  refine Eq.trans (Eq.trans (r_go (act := oS (fIld 6 1)) rfl rfl) (a_ild rfl)) ?_
  refine Eq.trans (Eq.trans (r_go (act := oS (fIf 9 16 cEq0)) rfl rfl) (a_if)) (bcg ?_ ?_)
  · refine Eq.trans (Eq.trans (r_go (act := oS (fAld 10 0)) rfl rfl) (a_ald rfl)) ?_
    refine Eq.trans (Eq.trans (r_go (act := oS (fGi g 13 12 33)) rfl rfl) (a_giV (zO_72 g) rfl)) ?_
    refine Eq.trans (Eq.trans (r_go (act := oS (fGo 29)) rfl rfl) (a_goto)) ?_
    exact Eq.trans (r_go (act := oIret) rfl rfl) (a_iret)
  · refine Eq.trans (Eq.trans (r_go (act := oS (fIld 17 1)) rfl rfl) (a_ild rfl)) ?_
    refine Eq.trans (Eq.trans (r_go (act := oS (fSt 18 (gC (.int 1)))) rfl rfl) (a_C)) ?_
    refine Eq.trans (Eq.trans (r_go (act := oS (fCm 21 28 cEq)) rfl rfl) (a_cm)) (bcg ?_ ?_)
    · refine Eq.trans (Eq.trans (r_go (act := oS (fAld 22 0)) rfl rfl) (a_ald rfl)) ?_
      refine Eq.trans (Eq.trans (r_go (act := oS (fGi g 25 12 34)) rfl rfl) (a_giV (zO_72 g) rfl)) ?_
      refine Eq.trans (Eq.trans (r_go (act := oS (fGo 29)) rfl rfl) (a_goto)) ?_
      exact Eq.trans (r_go (act := oIret) rfl rfl) (a_iret)
    · refine Eq.trans (Eq.trans (r_go (act := oS (fSt 29 (gC (.int (-1))))) rfl rfl) (a_C)) ?_
      exact Eq.trans (r_go (act := oIret) rfl rfl) (a_iret)
theorem x_X12_fault_0 (g : zg) (a1 : Int32) (M : zM) : X_X12_fault g [.ref 72, .int a1] M = (bif cEq0 a1 then some (some (.int (M.1 72 33)), ((zu M.1 72 0 0), M.2)) else (bif cEq a1 1 then some (some (.int (M.1 72 34)), ((zu M.1 72 0 0), M.2)) else some (some (.int (-1)), ((zu M.1 72 0 0), M.2)))) := e_X12_fault_0 g a1 M
set_option maxRecDepth 20000 in
theorem e_X12_isHere_0 (g : zg) (a1 : Int32) (M : zM) : zX (t_X12_isHere g) 0 [some (.ref 72), some (.int a1)] [] M = (bif zb (38 + a1) 148 then (bif cEq0 (M.1 73 (zx (38 + a1))) then some (some (.int 1), M) else some (some (.int 0), M)) else none) := by
  refine Eq.trans (zX_rgN (tl_X12_isHere g) (hc_X12_isHere g) 11 _ _ _ _) ?_
  refine Eq.trans (Eq.trans (r_0 (act := oS (fAld 1 0)) rfl) (a_ald rfl)) ?_
  refine Eq.trans (Eq.trans (r_go (act := oS (fGr g 4 12 1)) rfl rfl) (a_gr (zO_72 g) (zR_72_1 g))) ?_
  refine Eq.trans (Eq.trans (r_go (act := oS (fSt 6 (gC (.int 38)))) rfl rfl) (a_C)) ?_
  refine Eq.trans (Eq.trans (r_go (act := oS (fIld 7 1)) rfl rfl) (a_ild rfl)) ?_
  refine Eq.trans (Eq.trans (r_go (act := oS (fSt 8 (g2 (fun x y => x + y)))) rfl rfl) (a_add)) ?_
  refine Eq.trans (Eq.trans (r_go (act := oS (fIa g 9)) rfl rfl) (a_ia (zA_73 g) zS_73)) (bcg ?_ rfl)
  refine Eq.trans (Eq.trans (r_go (act := oS (fIf 12 16 cEq0)) rfl rfl) (a_if)) (bcg ?_ ?_)
  · refine Eq.trans (Eq.trans (r_go (act := oS (fSt 13 (gC (.int 1)))) rfl rfl) (a_C)) ?_
    refine Eq.trans (Eq.trans (r_go (act := oS (fGo 17)) rfl rfl) (a_goto)) ?_
    exact Eq.trans (Eq.trans (r_go (act := oZret) rfl rfl) a_zret) (bcT (by decide +kernel))
  · refine Eq.trans (Eq.trans (r_go (act := oS (fSt 17 (gC (.int 0)))) rfl rfl) (a_C)) ?_
    exact Eq.trans (Eq.trans (r_go (act := oZret) rfl rfl) a_zret) (bcT (by decide +kernel))
theorem x_X12_isHere_0 (g : zg) (a1 : Int32) (M : zM) : X_X12_isHere g [.ref 72, .int a1] M = (bif zb (38 + a1) 148 then (bif cEq0 (M.1 73 (zx (38 + a1))) then some (some (.int 1), M) else some (some (.int 0), M)) else none) := e_X12_isHere_0 g a1 M
set_option maxRecDepth 20000 in
theorem e_X12_canAct_0 (g : zg) (a1 : Int32) (a2 : Int32) (M : zM) : zX (t_X12_canAct g) 0 [some (.ref 72), some (.int a1), some (.int a2)] [] M = (bif cEq0 a1 then (zbI (X_X12_isHere g [.ref 72, .int a2] M) (fun x1 M1 => (bif cEq (x1 &&& 1) x1 then some (some (.int x1), M1) else none))) else (bif cEq a1 3 then (bif zb (18 + a2) 148 then (bif cGt0 (M.1 73 (zx (18 + a2))) then some (some (.int 1), M) else some (some (.int 0), M)) else none) else (bif cEq a1 4 then (zbI (X_X12_isHere g [.ref 72, .int a2] M) (fun x2 M2 => (bif cEq0 x2 then some (some (.int 1), M2) else some (some (.int 0), M2)))) else some (some (.int 1), M)))) := by
  refine Eq.trans (zX_rgN (tl_X12_canAct g) (hc_X12_canAct g) 16 _ _ _ _) ?_
  refine Eq.trans (Eq.trans (r_0 (act := oS (fIld 1 1)) rfl) (a_ild rfl)) ?_
  refine Eq.trans (Eq.trans (r_go (act := oS (fIf 4 10 cEq0)) rfl rfl) (a_if)) (bcg ?_ ?_)
  · refine Eq.trans (Eq.trans (r_go (act := oS (fAld 5 0)) rfl rfl) (a_ald rfl)) ?_
    refine Eq.trans (Eq.trans (r_go (act := oS (fIld 6 2)) rfl rfl) (a_ild rfl)) ?_
    refine Eq.trans (Eq.trans (r_go (act := oCI 9 2 (zcv g 12) (X_X12_isHere g)) rfl rfl) (a_cI rfl (zck (zO_72 g) rfl))) (zbI_cg (fun x1 M1 => ?_))
    exact Eq.trans (r_go (act := oZret) rfl rfl) (a_zret)
  · refine Eq.trans (Eq.trans (r_go (act := oS (fIld 11 1)) rfl rfl) (a_ild rfl)) ?_
    refine Eq.trans (Eq.trans (r_go (act := oS (fSt 12 (gC (.int 3)))) rfl rfl) (a_C)) ?_
    refine Eq.trans (Eq.trans (r_go (act := oS (fCm 15 33 cEq)) rfl rfl) (a_cm)) (bcg ?_ ?_)
    · refine Eq.trans (Eq.trans (r_go (act := oS (fAld 16 0)) rfl rfl) (a_ald rfl)) ?_
      refine Eq.trans (Eq.trans (r_go (act := oS (fGr g 19 12 1)) rfl rfl) (a_gr (zO_72 g) (zR_72_1 g))) ?_
      refine Eq.trans (Eq.trans (r_go (act := oS (fSt 21 (gC (.int 18)))) rfl rfl) (a_C)) ?_
      refine Eq.trans (Eq.trans (r_go (act := oS (fIld 22 2)) rfl rfl) (a_ild rfl)) ?_
      refine Eq.trans (Eq.trans (r_go (act := oS (fSt 23 (g2 (fun x y => x + y)))) rfl rfl) (a_add)) ?_
      refine Eq.trans (Eq.trans (r_go (act := oS (fIa g 24)) rfl rfl) (a_ia (zA_73 g) zS_73)) (bcg ?_ rfl)
      refine Eq.trans (Eq.trans (r_go (act := oS (fIf 27 31 cGt0)) rfl rfl) (a_if)) (bcg ?_ ?_)
      · refine Eq.trans (Eq.trans (r_go (act := oS (fSt 28 (gC (.int 1)))) rfl rfl) (a_C)) ?_
        refine Eq.trans (Eq.trans (r_go (act := oS (fGo 32)) rfl rfl) (a_goto)) ?_
        exact Eq.trans (Eq.trans (r_go (act := oZret) rfl rfl) a_zret) (bcT (by decide +kernel))
      · refine Eq.trans (Eq.trans (r_go (act := oS (fSt 32 (gC (.int 0)))) rfl rfl) (a_C)) ?_
        exact Eq.trans (Eq.trans (r_go (act := oZret) rfl rfl) a_zret) (bcT (by decide +kernel))
    · refine Eq.trans (Eq.trans (r_go (act := oS (fIld 34 1)) rfl rfl) (a_ild rfl)) ?_
      refine Eq.trans (Eq.trans (r_go (act := oS (fSt 35 (gC (.int 4)))) rfl rfl) (a_C)) ?_
      refine Eq.trans (Eq.trans (r_go (act := oS (fCm 38 46 cEq)) rfl rfl) (a_cm)) (bcg ?_ ?_)
      · refine Eq.trans (Eq.trans (r_go (act := oS (fAld 39 0)) rfl rfl) (a_ald rfl)) ?_
        refine Eq.trans (Eq.trans (r_go (act := oS (fIld 40 2)) rfl rfl) (a_ild rfl)) ?_
        refine Eq.trans (Eq.trans (r_go (act := oCI 43 2 (zcv g 12) (X_X12_isHere g)) rfl rfl) (a_cI rfl (zck (zO_72 g) rfl))) (zbI_cg (fun x2 M2 => ?_))
        refine Eq.trans (Eq.trans (r_go (act := oS (fIf 46 50 cEq0)) rfl rfl) (a_if)) (bcg ?_ ?_)
        · refine Eq.trans (Eq.trans (r_go (act := oS (fSt 47 (gC (.int 1)))) rfl rfl) (a_C)) ?_
          refine Eq.trans (Eq.trans (r_go (act := oS (fGo 51)) rfl rfl) (a_goto)) ?_
          exact Eq.trans (Eq.trans (r_go (act := oZret) rfl rfl) a_zret) (bcT (by decide +kernel))
        · refine Eq.trans (Eq.trans (r_go (act := oS (fSt 51 (gC (.int 0)))) rfl rfl) (a_C)) ?_
          exact Eq.trans (Eq.trans (r_go (act := oZret) rfl rfl) a_zret) (bcT (by decide +kernel))
      · refine Eq.trans (Eq.trans (r_go (act := oS (fSt 47 (gC (.int 1)))) rfl rfl) (a_C)) ?_
        refine Eq.trans (Eq.trans (r_go (act := oS (fGo 51)) rfl rfl) (a_goto)) ?_
        exact Eq.trans (Eq.trans (r_go (act := oZret) rfl rfl) a_zret) (bcT (by decide +kernel))
theorem x_X12_canAct_0 (g : zg) (a1 : Int32) (a2 : Int32) (M : zM) : X_X12_canAct g [.ref 72, .int a1, .int a2] M = (bif cEq0 a1 then (zbI (X_X12_isHere g [.ref 72, .int a2] M) (fun x1 M1 => (bif cEq (x1 &&& 1) x1 then some (some (.int x1), M1) else none))) else (bif cEq a1 3 then (bif zb (18 + a2) 148 then (bif cGt0 (M.1 73 (zx (18 + a2))) then some (some (.int 1), M) else some (some (.int 0), M)) else none) else (bif cEq a1 4 then (zbI (X_X12_isHere g [.ref 72, .int a2] M) (fun x2 M2 => (bif cEq0 x2 then some (some (.int 1), M2) else some (some (.int 0), M2)))) else some (some (.int 1), M)))) := e_X12_canAct_0 g a1 a2 M
