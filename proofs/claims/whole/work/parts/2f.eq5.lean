set_option maxRecDepth 20000 in
theorem e_X12_keepsAhead_0 (g : zg) (M : zM) : zX (t_X12_keepsAhead g) 0 [some (.ref 72), none] [] M = (bif cEq (M.1 72 3) 6 then zX (t_X12_keepsAhead g) 21 [some (.ref 72), some (.int 0)] [] ((zu M.1 72 3 ((M.1 72 3) - 1)), M.2) else zX (t_X12_keepsAhead g) 57 [some (.ref 72), some (.int 0)] [] M) := by
  refine Eq.trans (zX_rgN (tl_X12_keepsAhead g) (hc_X12_keepsAhead g) 14 _ _ _ _) ?_
  refine Eq.trans (Eq.trans (r_0 (act := oS (fAld 1 0)) rfl) (a_ald rfl)) ?_
  refine Eq.trans (Eq.trans (r_go (act := oS (fGi g 4 12 3)) rfl rfl) (a_gi (zO_72 g))) ?_
  refine Eq.trans (Eq.trans (r_go (act := oS (fSt 6 (gC (.int 6)))) rfl rfl) (a_C)) ?_
  refine Eq.trans (Eq.trans (r_go (act := oS (fCm 9 55 cEq)) rfl rfl) (a_cm)) (bcg ?_ ?_)
  · refine Eq.trans (Eq.trans (r_go (act := oS (fAld 10 0)) rfl rfl) (a_ald rfl)) ?_
    refine Eq.trans (Eq.trans (r_go (act := oS (fAld 11 0)) rfl rfl) (a_ald rfl)) ?_
    refine Eq.trans (Eq.trans (r_go (act := oS (fGi g 14 12 3)) rfl rfl) (a_gi (zO_72 g))) ?_
    refine Eq.trans (Eq.trans (r_go (act := oS (fSt 15 (gC (.int 1)))) rfl rfl) (a_C)) ?_
    refine Eq.trans (Eq.trans (r_go (act := oS (fSt 16 (g2 (fun x y => x - y)))) rfl rfl) (a_sub)) ?_
    refine Eq.trans (Eq.trans (r_go (act := oS (fPi g 19 12 3)) rfl rfl) (a_pi (zO_72 g))) ?_
    refine Eq.trans (Eq.trans (r_go (act := oS (fSt 20 (gC (.int 0)))) rfl rfl) (a_C)) ?_
    refine Eq.trans (Eq.trans (r_go (act := oS (fIst 21 1)) rfl rfl) (a_ist rfl rfl)) ?_
    exact r_cut rfl rfl
  · refine Eq.trans (Eq.trans (r_go (act := oS (fSt 56 (gC (.int 0)))) rfl rfl) (a_C)) ?_
    refine Eq.trans (Eq.trans (r_go (act := oS (fIst 57 1)) rfl rfl) (a_ist rfl rfl)) ?_
    exact r_cut rfl rfl
theorem x_X12_keepsAhead_0 (g : zg) (M : zM) : X_X12_keepsAhead g [.ref 72] M = (bif cEq (M.1 72 3) 6 then zX (t_X12_keepsAhead g) 21 [some (.ref 72), some (.int 0)] [] ((zu M.1 72 3 ((M.1 72 3) - 1)), M.2) else zX (t_X12_keepsAhead g) 57 [some (.ref 72), some (.int 0)] [] M) := e_X12_keepsAhead_0 g M
set_option maxRecDepth 20000 in
theorem e_X12_keepsAhead_21 (g : zg) (a1 : Int32) (M : zM) : zX (t_X12_keepsAhead g) 21 [some (.ref 72), some (.int a1)] [] M = (bif cLt a1 (148 * (M.1 72 3)) then (bif zb (a1 + 148) 888 then (bif zb a1 888 then zX (t_X12_keepsAhead g) 21 [some (.ref 72), some (.int (a1 + 1))] [] ((zu M.1 74 (zx a1) (M.1 74 (zx (a1 + 148)))), M.2) else none) else none) else zX (t_X12_keepsAhead g) 57 [some (.ref 72), some (.int 0)] [] M) := by
  refine Eq.trans (zX_rgN (tl_X12_keepsAhead g) (hc_X12_keepsAhead g) 20 _ _ _ _) ?_
  refine Eq.trans (Eq.trans (Eq.trans (r_0 (act := oF [] (oS (fIld 22 1))) rfl) (a_F rfl)) (a_ild rfl)) ?_
  refine Eq.trans (Eq.trans (r_go (act := oS (fSt 25 (gC (.int 148)))) rfl rfl) (a_C)) ?_
  refine Eq.trans (Eq.trans (r_go (act := oS (fAld 26 0)) rfl rfl) (a_ald rfl)) ?_
  refine Eq.trans (Eq.trans (r_go (act := oS (fGi g 29 12 3)) rfl rfl) (a_gi (zO_72 g))) ?_
  refine Eq.trans (Eq.trans (r_go (act := oS (fSt 30 (g2 (fun x y => x * y)))) rfl rfl) (a_mul)) ?_
  refine Eq.trans (Eq.trans (r_go (act := oS (fCm 33 55 cLt)) rfl rfl) (a_cm)) (bcg ?_ ?_)
  · refine Eq.trans (Eq.trans (r_go (act := oS (fAld 34 0)) rfl rfl) (a_ald rfl)) ?_
    refine Eq.trans (Eq.trans (r_go (act := oS (fGr g 37 12 2)) rfl rfl) (a_gr (zO_72 g) (zR_72_2 g))) ?_
    refine Eq.trans (Eq.trans (r_go (act := oS (fIld 38 1)) rfl rfl) (a_ild rfl)) ?_
    refine Eq.trans (Eq.trans (r_go (act := oS (fAld 39 0)) rfl rfl) (a_ald rfl)) ?_
    refine Eq.trans (Eq.trans (r_go (act := oS (fGr g 42 12 2)) rfl rfl) (a_gr (zO_72 g) (zR_72_2 g))) ?_
    refine Eq.trans (Eq.trans (r_go (act := oS (fIld 43 1)) rfl rfl) (a_ild rfl)) ?_
    refine Eq.trans (Eq.trans (r_go (act := oS (fSt 46 (gC (.int 148)))) rfl rfl) (a_C)) ?_
    refine Eq.trans (Eq.trans (r_go (act := oS (fSt 47 (g2 (fun x y => x + y)))) rfl rfl) (a_add)) ?_
    refine Eq.trans (Eq.trans (r_go (act := oS (fIa g 48)) rfl rfl) (a_ia (zA_74 g) zS_74)) (bcg ?_ rfl)
    refine Eq.trans (Eq.trans (r_go (act := oS (fIs g 49)) rfl rfl) (a_is (zA_74 g) zS_74)) (bcg ?_ rfl)
    refine Eq.trans (Eq.trans (r_go (act := oS (fInc 52 1 1)) rfl rfl) (a_inc rfl rfl rfl)) ?_
    refine Eq.trans (Eq.trans (r_go (act := oS (fGo 21)) rfl rfl) (a_goto)) ?_
    exact r_cut rfl rfl
  · refine Eq.trans (Eq.trans (r_go (act := oS (fSt 56 (gC (.int 0)))) rfl rfl) (a_C)) ?_
    refine Eq.trans (Eq.trans (r_go (act := oS (fIst 57 1)) rfl rfl) (a_ist rfl rfl)) ?_
    exact r_cut rfl rfl
set_option maxRecDepth 20000 in
theorem e_X12_keepsAhead_57 (g : zg) (a1 : Int32) (M : zM) : zX (t_X12_keepsAhead g) 57 [some (.ref 72), some (.int a1)] [] M = (bif cLt a1 148 then (bif zb a1 148 then (bif zb ((148 * (M.1 72 3)) + a1) 888 then zX (t_X12_keepsAhead g) 57 [some (.ref 72), some (.int (a1 + 1))] [] ((zu M.1 74 (zx ((148 * (M.1 72 3)) + a1)) (M.1 73 (zx a1))), M.2) else none) else none) else some (none, ((zu M.1 72 3 ((M.1 72 3) + 1)), M.2))) := by
  refine Eq.trans (zX_rgN (tl_X12_keepsAhead g) (hc_X12_keepsAhead g) 20 _ _ _ _) ?_
  refine Eq.trans (Eq.trans (Eq.trans (r_0 (act := oF [] (oS (fIld 58 1))) rfl) (a_F rfl)) (a_ild rfl)) ?_
  refine Eq.trans (Eq.trans (r_go (act := oS (fSt 61 (gC (.int 148)))) rfl rfl) (a_C)) ?_
  refine Eq.trans (Eq.trans (r_go (act := oS (fCm 64 91 cLt)) rfl rfl) (a_cm)) (bcg ?_ ?_)
  · refine Eq.trans (Eq.trans (r_go (act := oS (fAld 65 0)) rfl rfl) (a_ald rfl)) ?_
    refine Eq.trans (Eq.trans (r_go (act := oS (fGr g 68 12 2)) rfl rfl) (a_gr (zO_72 g) (zR_72_2 g))) ?_
    refine Eq.trans (Eq.trans (r_go (act := oS (fSt 71 (gC (.int 148)))) rfl rfl) (a_C)) ?_
    refine Eq.trans (Eq.trans (r_go (act := oS (fAld 72 0)) rfl rfl) (a_ald rfl)) ?_
    refine Eq.trans (Eq.trans (r_go (act := oS (fGi g 75 12 3)) rfl rfl) (a_gi (zO_72 g))) ?_
    refine Eq.trans (Eq.trans (r_go (act := oS (fSt 76 (g2 (fun x y => x * y)))) rfl rfl) (a_mul)) ?_
    refine Eq.trans (Eq.trans (r_go (act := oS (fIld 77 1)) rfl rfl) (a_ild rfl)) ?_
    refine Eq.trans (Eq.trans (r_go (act := oS (fSt 78 (g2 (fun x y => x + y)))) rfl rfl) (a_add)) ?_
    refine Eq.trans (Eq.trans (r_go (act := oS (fAld 79 0)) rfl rfl) (a_ald rfl)) ?_
    refine Eq.trans (Eq.trans (r_go (act := oS (fGr g 82 12 1)) rfl rfl) (a_gr (zO_72 g) (zR_72_1 g))) ?_
    refine Eq.trans (Eq.trans (r_go (act := oS (fIld 83 1)) rfl rfl) (a_ild rfl)) ?_
    refine Eq.trans (Eq.trans (r_go (act := oS (fIa g 84)) rfl rfl) (a_ia (zA_73 g) zS_73)) (bcg ?_ rfl)
    refine Eq.trans (Eq.trans (r_go (act := oS (fIs g 85)) rfl rfl) (a_is (zA_74 g) zS_74)) (bcg ?_ rfl)
    refine Eq.trans (Eq.trans (r_go (act := oS (fInc 88 1 1)) rfl rfl) (a_inc rfl rfl rfl)) ?_
    refine Eq.trans (Eq.trans (r_go (act := oS (fGo 57)) rfl rfl) (a_goto)) ?_
    exact r_cut rfl rfl
  · refine Eq.trans (Eq.trans (r_go (act := oS (fAld 92 0)) rfl rfl) (a_ald rfl)) ?_
    refine Eq.trans (Eq.trans (r_go (act := oS (fAld 93 0)) rfl rfl) (a_ald rfl)) ?_
    refine Eq.trans (Eq.trans (r_go (act := oS (fGi g 96 12 3)) rfl rfl) (a_gi (zO_72 g))) ?_
    refine Eq.trans (Eq.trans (r_go (act := oS (fSt 97 (gC (.int 1)))) rfl rfl) (a_C)) ?_
    refine Eq.trans (Eq.trans (r_go (act := oS (fSt 98 (g2 (fun x y => x + y)))) rfl rfl) (a_add)) ?_
    refine Eq.trans (Eq.trans (r_go (act := oS (fPi g 101 12 3)) rfl rfl) (a_pi (zO_72 g))) ?_
    exact Eq.trans (r_go (act := oVret) rfl rfl) (a_vret)
set_option maxRecDepth 20000 in
theorem e_X12_notes_0 (g : zg) (a1 : Int32) (a2 : Int32) (a3 : Int32) (M : zM) : zX (t_X12_notes g) 0 [some (.ref 72), some (.int a1), some (.int a2), some (.int a3), none] [] M = (bif cEq0 (M.1 72 5) then (bif cEq (M.1 73 2) 150 then some (none, M) else (bif zb (4 * (M.1 73 2)) 600 then (bif zb ((4 * (M.1 73 2)) + 1) 600 then (bif zb ((4 * (M.1 73 2)) + 2) 600 then (bif zb ((4 * (M.1 73 2)) + 3) 600 then some (none, ((zu (zu (zu (zu (zu M.1 78 (zx (4 * (M.1 73 2))) (M.1 73 0)) 78 (zx ((4 * (M.1 73 2)) + 1)) a1) 78 (zx ((4 * (M.1 73 2)) + 2)) a2) 78 (zx ((4 * (M.1 73 2)) + 3)) a3) 73 2 ((M.1 73 2) + 1)), M.2)) else none) else none) else none) else none)) else some (none, M)) := by
  refine Eq.trans (zX_rgN (tl_X12_notes g) (hc_X12_notes g) 57 _ _ _ _) ?_
  refine Eq.trans (Eq.trans (r_0 (act := oS (fAld 1 0)) rfl) (a_ald rfl)) ?_
  refine Eq.trans (Eq.trans (r_go (act := oS (fGi g 4 12 5)) rfl rfl) (a_gi (zO_72 g))) ?_
  refine Eq.trans (Eq.trans (r_go (act := oS (fIf 7 19 cEq0)) rfl rfl) (a_if)) (bcg ?_ ?_)
  · refine Eq.trans (Eq.trans (r_go (act := oS (fAld 8 0)) rfl rfl) (a_ald rfl)) ?_
    refine Eq.trans (Eq.trans (r_go (act := oS (fGr g 11 12 1)) rfl rfl) (a_gr (zO_72 g) (zR_72_1 g))) ?_
    refine Eq.trans (Eq.trans (r_go (act := oS (fSt 12 (gC (.int 2)))) rfl rfl) (a_C)) ?_
    refine Eq.trans (Eq.trans (r_go (act := oS (fIa g 13)) rfl rfl) (a_iaK (j := 2) (zA_73 g) zS_73 (by decide +kernel) (by decide +kernel))) ?_
    refine Eq.trans (Eq.trans (r_go (act := oS (fSt 16 (gC (.int 150)))) rfl rfl) (a_C)) ?_
    refine Eq.trans (Eq.trans (r_go (act := oS (fCm 19 20 cEq)) rfl rfl) (a_cm)) (bcg ?_ ?_)
    · exact Eq.trans (r_go (act := oVret) rfl rfl) (a_vret)
    · refine Eq.trans (Eq.trans (r_go (act := oS (fSt 21 (gC (.int 4)))) rfl rfl) (a_C)) ?_
      refine Eq.trans (Eq.trans (r_go (act := oS (fAld 22 0)) rfl rfl) (a_ald rfl)) ?_
      refine Eq.trans (Eq.trans (r_go (act := oS (fGr g 25 12 1)) rfl rfl) (a_gr (zO_72 g) (zR_72_1 g))) ?_
      refine Eq.trans (Eq.trans (r_go (act := oS (fSt 26 (gC (.int 2)))) rfl rfl) (a_C)) ?_
      refine Eq.trans (Eq.trans (r_go (act := oS (fIa g 27)) rfl rfl) (a_iaK (j := 2) (zA_73 g) zS_73 (by decide +kernel) (by decide +kernel))) ?_
      refine Eq.trans (Eq.trans (r_go (act := oS (fSt 28 (g2 (fun x y => x * y)))) rfl rfl) (a_mul)) ?_
      refine Eq.trans (Eq.trans (r_go (act := oS (fIst 30 4)) rfl rfl) (a_ist rfl rfl)) ?_
      refine Eq.trans (Eq.trans (r_go (act := oS (fAld 31 0)) rfl rfl) (a_ald rfl)) ?_
      refine Eq.trans (Eq.trans (r_go (act := oS (fGr g 34 12 11)) rfl rfl) (a_gr (zO_72 g) (zR_72_11 g))) ?_
      refine Eq.trans (Eq.trans (r_go (act := oS (fIld 36 4)) rfl rfl) (a_ild rfl)) ?_
      refine Eq.trans (Eq.trans (r_go (act := oS (fAld 37 0)) rfl rfl) (a_ald rfl)) ?_
      refine Eq.trans (Eq.trans (r_go (act := oS (fGr g 40 12 1)) rfl rfl) (a_gr (zO_72 g) (zR_72_1 g))) ?_
      refine Eq.trans (Eq.trans (r_go (act := oS (fSt 41 (gC (.int 0)))) rfl rfl) (a_C)) ?_
      refine Eq.trans (Eq.trans (r_go (act := oS (fIa g 42)) rfl rfl) (a_iaK (j := 0) (zA_73 g) zS_73 (by decide +kernel) (by decide +kernel))) ?_
      refine Eq.trans (Eq.trans (r_go (act := oS (fIs g 43)) rfl rfl) (a_is (zA_78 g) zS_78)) (bcg ?_ rfl)
      refine Eq.trans (Eq.trans (r_go (act := oS (fAld 44 0)) rfl rfl) (a_ald rfl)) ?_
      refine Eq.trans (Eq.trans (r_go (act := oS (fGr g 47 12 11)) rfl rfl) (a_gr (zO_72 g) (zR_72_11 g))) ?_
      refine Eq.trans (Eq.trans (r_go (act := oS (fIld 49 4)) rfl rfl) (a_ild rfl)) ?_
      refine Eq.trans (Eq.trans (r_go (act := oS (fSt 50 (gC (.int 1)))) rfl rfl) (a_C)) ?_
      refine Eq.trans (Eq.trans (r_go (act := oS (fSt 51 (g2 (fun x y => x + y)))) rfl rfl) (a_add)) ?_
      refine Eq.trans (Eq.trans (r_go (act := oS (fIld 52 1)) rfl rfl) (a_ild rfl)) ?_
      refine Eq.trans (Eq.trans (r_go (act := oS (fIs g 53)) rfl rfl) (a_is (zA_78 g) zS_78)) (bcg ?_ rfl)
      refine Eq.trans (Eq.trans (r_go (act := oS (fAld 54 0)) rfl rfl) (a_ald rfl)) ?_
      refine Eq.trans (Eq.trans (r_go (act := oS (fGr g 57 12 11)) rfl rfl) (a_gr (zO_72 g) (zR_72_11 g))) ?_
      refine Eq.trans (Eq.trans (r_go (act := oS (fIld 59 4)) rfl rfl) (a_ild rfl)) ?_
      refine Eq.trans (Eq.trans (r_go (act := oS (fSt 60 (gC (.int 2)))) rfl rfl) (a_C)) ?_
      refine Eq.trans (Eq.trans (r_go (act := oS (fSt 61 (g2 (fun x y => x + y)))) rfl rfl) (a_add)) ?_
      refine Eq.trans (Eq.trans (r_go (act := oS (fIld 62 2)) rfl rfl) (a_ild rfl)) ?_
      refine Eq.trans (Eq.trans (r_go (act := oS (fIs g 63)) rfl rfl) (a_is (zA_78 g) zS_78)) (bcg ?_ rfl)
      refine Eq.trans (Eq.trans (r_go (act := oS (fAld 64 0)) rfl rfl) (a_ald rfl)) ?_
      refine Eq.trans (Eq.trans (r_go (act := oS (fGr g 67 12 11)) rfl rfl) (a_gr (zO_72 g) (zR_72_11 g))) ?_
      refine Eq.trans (Eq.trans (r_go (act := oS (fIld 69 4)) rfl rfl) (a_ild rfl)) ?_
      refine Eq.trans (Eq.trans (r_go (act := oS (fSt 70 (gC (.int 3)))) rfl rfl) (a_C)) ?_
      refine Eq.trans (Eq.trans (r_go (act := oS (fSt 71 (g2 (fun x y => x + y)))) rfl rfl) (a_add)) ?_
      refine Eq.trans (Eq.trans (r_go (act := oS (fIld 72 3)) rfl rfl) (a_ild rfl)) ?_
      refine Eq.trans (Eq.trans (r_go (act := oS (fIs g 73)) rfl rfl) (a_is (zA_78 g) zS_78)) (bcg ?_ rfl)
      refine Eq.trans (Eq.trans (r_go (act := oS (fAld 74 0)) rfl rfl) (a_ald rfl)) ?_
      refine Eq.trans (Eq.trans (r_go (act := oS (fGr g 77 12 1)) rfl rfl) (a_gr (zO_72 g) (zR_72_1 g))) ?_
      refine Eq.trans (Eq.trans (r_go (act := oS (fSt 78 (gC (.int 2)))) rfl rfl) (a_C)) ?_
      refine Eq.trans (Eq.trans (r_go (act := oS (fAld 79 0)) rfl rfl) (a_ald rfl)) ?_
      refine Eq.trans (Eq.trans (r_go (act := oS (fGr g 82 12 1)) rfl rfl) (a_gr (zO_72 g) (zR_72_1 g))) ?_
      refine Eq.trans (Eq.trans (r_go (act := oS (fSt 83 (gC (.int 2)))) rfl rfl) (a_C)) ?_
      refine Eq.trans (Eq.trans (r_go (act := oS (fIa g 84)) rfl rfl) (a_iaKV (j := 2) (zA_73 g) zS_73 (by decide +kernel) (by decide +kernel) rfl)) ?_
      refine Eq.trans (Eq.trans (r_go (act := oS (fSt 85 (gC (.int 1)))) rfl rfl) (a_C)) ?_
      refine Eq.trans (Eq.trans (r_go (act := oS (fSt 86 (g2 (fun x y => x + y)))) rfl rfl) (a_add)) ?_
      refine Eq.trans (Eq.trans (r_go (act := oS (fIs g 87)) rfl rfl) (a_isK (j := 2) (zA_73 g) zS_73 (by decide +kernel) (by decide +kernel))) ?_
      exact Eq.trans (r_go (act := oVret) rfl rfl) (a_vret)
  · exact Eq.trans (r_go (act := oVret) rfl rfl) (a_vret)
theorem x_X12_notes_0 (g : zg) (a1 : Int32) (a2 : Int32) (a3 : Int32) (M : zM) : X_X12_notes g [.ref 72, .int a1, .int a2, .int a3] M = (bif cEq0 (M.1 72 5) then (bif cEq (M.1 73 2) 150 then some (none, M) else (bif zb (4 * (M.1 73 2)) 600 then (bif zb ((4 * (M.1 73 2)) + 1) 600 then (bif zb ((4 * (M.1 73 2)) + 2) 600 then (bif zb ((4 * (M.1 73 2)) + 3) 600 then some (none, ((zu (zu (zu (zu (zu M.1 78 (zx (4 * (M.1 73 2))) (M.1 73 0)) 78 (zx ((4 * (M.1 73 2)) + 1)) a1) 78 (zx ((4 * (M.1 73 2)) + 2)) a2) 78 (zx ((4 * (M.1 73 2)) + 3)) a3) 73 2 ((M.1 73 2) + 1)), M.2)) else none) else none) else none) else none)) else some (none, M)) := e_X12_notes_0 g a1 a2 a3 M
set_option maxRecDepth 20000 in
theorem e_X12_acts_0 (g : zg) (a1 : Int32) (a2 : Int32) (a3 : Int32) (M : zM) : zX (t_X12_acts g) 0 [some (.ref 72), some (.int a1), some (.int a2), some (.int a3)] [] M = (bif cEq0 a1 then (bif cEq a1 1 then (bif zb (8 + a2) 148 then zX (t_X12_acts g) 44 [some (.ref 72), some (.int a1), some (.int a2), some (.int a3)] [] ((zu (zu (zu M.1 73 4 (a2 + 1)) 73 (zx (8 + a2)) a3) 73 6 (((zu (zu M.1 73 4 (a2 + 1)) 73 (zx (8 + a2)) a3) 73 6) - a3)), M.2) else none) else zX (t_X12_acts g) 44 [some (.ref 72), some (.int a1), some (.int a2), some (.int a3)] [] ((zu M.1 73 4 (a2 + 1)), M.2)) else (bif cEq a1 1 then (bif zb (8 + a2) 148 then zX (t_X12_acts g) 44 [some (.ref 72), some (.int a1), some (.int a2), some (.int a3)] [] ((zu (zu M.1 73 (zx (8 + a2)) a3) 73 6 (((zu M.1 73 (zx (8 + a2)) a3) 73 6) - a3)), M.2) else none) else zX (t_X12_acts g) 44 [some (.ref 72), some (.int a1), some (.int a2), some (.int a3)] [] M)) := by
  refine Eq.trans (zX_rgN (tl_X12_acts g) (hc_X12_acts g) 31 _ _ _ _) ?_
  refine Eq.trans (Eq.trans (r_0 (act := oS (fIld 1 1)) rfl) (a_ild rfl)) ?_
  refine Eq.trans (Eq.trans (r_go (act := oS (fIf 4 13 cEq0)) rfl rfl) (a_if)) (bcg ?_ ?_)
  · refine Eq.trans (Eq.trans (r_go (act := oS (fAld 5 0)) rfl rfl) (a_ald rfl)) ?_
    refine Eq.trans (Eq.trans (r_go (act := oS (fGr g 8 12 1)) rfl rfl) (a_gr (zO_72 g) (zR_72_1 g))) ?_
    refine Eq.trans (Eq.trans (r_go (act := oS (fSt 9 (gC (.int 4)))) rfl rfl) (a_C)) ?_
    refine Eq.trans (Eq.trans (r_go (act := oS (fIld 10 2)) rfl rfl) (a_ild rfl)) ?_
    refine Eq.trans (Eq.trans (r_go (act := oS (fSt 11 (gC (.int 1)))) rfl rfl) (a_C)) ?_
    refine Eq.trans (Eq.trans (r_go (act := oS (fSt 12 (g2 (fun x y => x + y)))) rfl rfl) (a_add)) ?_
    refine Eq.trans (Eq.trans (r_go (act := oS (fIs g 13)) rfl rfl) (a_isK (j := 4) (zA_73 g) zS_73 (by decide +kernel) (by decide +kernel))) ?_
    refine Eq.trans (Eq.trans (r_go (act := oS (fIld 14 1)) rfl rfl) (a_ild rfl)) ?_
    refine Eq.trans (Eq.trans (r_go (act := oS (fSt 15 (gC (.int 1)))) rfl rfl) (a_C)) ?_
    refine Eq.trans (Eq.trans (r_go (act := oS (fCm 18 44 cEq)) rfl rfl) (a_cm)) (bcg ?_ ?_)
    · refine Eq.trans (Eq.trans (r_go (act := oS (fAld 19 0)) rfl rfl) (a_ald rfl)) ?_
      refine Eq.trans (Eq.trans (r_go (act := oS (fGr g 22 12 1)) rfl rfl) (a_gr (zO_72 g) (zR_72_1 g))) ?_
      refine Eq.trans (Eq.trans (r_go (act := oS (fSt 24 (gC (.int 8)))) rfl rfl) (a_C)) ?_
      refine Eq.trans (Eq.trans (r_go (act := oS (fIld 25 2)) rfl rfl) (a_ild rfl)) ?_
      refine Eq.trans (Eq.trans (r_go (act := oS (fSt 26 (g2 (fun x y => x + y)))) rfl rfl) (a_add)) ?_
      refine Eq.trans (Eq.trans (r_go (act := oS (fIld 27 3)) rfl rfl) (a_ild rfl)) ?_
      refine Eq.trans (Eq.trans (r_go (act := oS (fIs g 28)) rfl rfl) (a_is (zA_73 g) zS_73)) (bcg ?_ rfl)
      refine Eq.trans (Eq.trans (r_go (act := oS (fAld 29 0)) rfl rfl) (a_ald rfl)) ?_
      refine Eq.trans (Eq.trans (r_go (act := oS (fGr g 32 12 1)) rfl rfl) (a_gr (zO_72 g) (zR_72_1 g))) ?_
      refine Eq.trans (Eq.trans (r_go (act := oS (fSt 34 (gC (.int 6)))) rfl rfl) (a_C)) ?_
      refine Eq.trans (Eq.trans (r_go (act := oS (fAld 35 0)) rfl rfl) (a_ald rfl)) ?_
      refine Eq.trans (Eq.trans (r_go (act := oS (fGr g 38 12 1)) rfl rfl) (a_gr (zO_72 g) (zR_72_1 g))) ?_
      refine Eq.trans (Eq.trans (r_go (act := oS (fSt 40 (gC (.int 6)))) rfl rfl) (a_C)) ?_
      refine Eq.trans (Eq.trans (r_go (act := oS (fIa g 41)) rfl rfl) (a_iaK (j := 6) (zA_73 g) zS_73 (by decide +kernel) (by decide +kernel))) ?_
      refine Eq.trans (Eq.trans (r_go (act := oS (fIld 42 3)) rfl rfl) (a_ild rfl)) ?_
      refine Eq.trans (Eq.trans (r_go (act := oS (fSt 43 (g2 (fun x y => x - y)))) rfl rfl) (a_sub)) ?_
      refine Eq.trans (Eq.trans (r_go (act := oS (fIs g 44)) rfl rfl) (a_isK (j := 6) (zA_73 g) zS_73 (by decide +kernel) (by decide +kernel))) ?_
      exact r_cut rfl rfl
    · exact r_cut rfl rfl
  · refine Eq.trans (Eq.trans (r_go (act := oS (fIld 14 1)) rfl rfl) (a_ild rfl)) ?_
    refine Eq.trans (Eq.trans (r_go (act := oS (fSt 15 (gC (.int 1)))) rfl rfl) (a_C)) ?_
    refine Eq.trans (Eq.trans (r_go (act := oS (fCm 18 44 cEq)) rfl rfl) (a_cm)) (bcg ?_ ?_)
    · refine Eq.trans (Eq.trans (r_go (act := oS (fAld 19 0)) rfl rfl) (a_ald rfl)) ?_
      refine Eq.trans (Eq.trans (r_go (act := oS (fGr g 22 12 1)) rfl rfl) (a_gr (zO_72 g) (zR_72_1 g))) ?_
      refine Eq.trans (Eq.trans (r_go (act := oS (fSt 24 (gC (.int 8)))) rfl rfl) (a_C)) ?_
      refine Eq.trans (Eq.trans (r_go (act := oS (fIld 25 2)) rfl rfl) (a_ild rfl)) ?_
      refine Eq.trans (Eq.trans (r_go (act := oS (fSt 26 (g2 (fun x y => x + y)))) rfl rfl) (a_add)) ?_
      refine Eq.trans (Eq.trans (r_go (act := oS (fIld 27 3)) rfl rfl) (a_ild rfl)) ?_
      refine Eq.trans (Eq.trans (r_go (act := oS (fIs g 28)) rfl rfl) (a_is (zA_73 g) zS_73)) (bcg ?_ rfl)
      refine Eq.trans (Eq.trans (r_go (act := oS (fAld 29 0)) rfl rfl) (a_ald rfl)) ?_
      refine Eq.trans (Eq.trans (r_go (act := oS (fGr g 32 12 1)) rfl rfl) (a_gr (zO_72 g) (zR_72_1 g))) ?_
      refine Eq.trans (Eq.trans (r_go (act := oS (fSt 34 (gC (.int 6)))) rfl rfl) (a_C)) ?_
      refine Eq.trans (Eq.trans (r_go (act := oS (fAld 35 0)) rfl rfl) (a_ald rfl)) ?_
      refine Eq.trans (Eq.trans (r_go (act := oS (fGr g 38 12 1)) rfl rfl) (a_gr (zO_72 g) (zR_72_1 g))) ?_
      refine Eq.trans (Eq.trans (r_go (act := oS (fSt 40 (gC (.int 6)))) rfl rfl) (a_C)) ?_
      refine Eq.trans (Eq.trans (r_go (act := oS (fIa g 41)) rfl rfl) (a_iaK (j := 6) (zA_73 g) zS_73 (by decide +kernel) (by decide +kernel))) ?_
      refine Eq.trans (Eq.trans (r_go (act := oS (fIld 42 3)) rfl rfl) (a_ild rfl)) ?_
      refine Eq.trans (Eq.trans (r_go (act := oS (fSt 43 (g2 (fun x y => x - y)))) rfl rfl) (a_sub)) ?_
      refine Eq.trans (Eq.trans (r_go (act := oS (fIs g 44)) rfl rfl) (a_isK (j := 6) (zA_73 g) zS_73 (by decide +kernel) (by decide +kernel))) ?_
      exact r_cut rfl rfl
    · exact r_cut rfl rfl
theorem x_X12_acts_0 (g : zg) (a1 : Int32) (a2 : Int32) (a3 : Int32) (M : zM) : X_X12_acts g [.ref 72, .int a1, .int a2, .int a3] M = (bif cEq0 a1 then (bif cEq a1 1 then (bif zb (8 + a2) 148 then zX (t_X12_acts g) 44 [some (.ref 72), some (.int a1), some (.int a2), some (.int a3)] [] ((zu (zu (zu M.1 73 4 (a2 + 1)) 73 (zx (8 + a2)) a3) 73 6 (((zu (zu M.1 73 4 (a2 + 1)) 73 (zx (8 + a2)) a3) 73 6) - a3)), M.2) else none) else zX (t_X12_acts g) 44 [some (.ref 72), some (.int a1), some (.int a2), some (.int a3)] [] ((zu M.1 73 4 (a2 + 1)), M.2)) else (bif cEq a1 1 then (bif zb (8 + a2) 148 then zX (t_X12_acts g) 44 [some (.ref 72), some (.int a1), some (.int a2), some (.int a3)] [] ((zu (zu M.1 73 (zx (8 + a2)) a3) 73 6 (((zu M.1 73 (zx (8 + a2)) a3) 73 6) - a3)), M.2) else none) else zX (t_X12_acts g) 44 [some (.ref 72), some (.int a1), some (.int a2), some (.int a3)] [] M)) := e_X12_acts_0 g a1 a2 a3 M
set_option maxRecDepth 20000 in
theorem e_X12_acts_44 (g : zg) (a1 : Int32) (a2 : Int32) (a3 : Int32) (M : zM) : zX (t_X12_acts g) 44 [some (.ref 72), some (.int a1), some (.int a2), some (.int a3)] [] M = (bif cEq a1 2 then (bif zb (18 + a2) 148 then (bif cEq a1 3 then (bif zb (18 + a2) 148 then zX (t_X12_acts g) 76 [some (.ref 72), some (.int a1), some (.int a2), some (.int a3)] [] ((zu (zu M.1 73 (zx (18 + a2)) (a3 + 1)) 73 (zx (18 + a2)) 0), M.2) else none) else zX (t_X12_acts g) 76 [some (.ref 72), some (.int a1), some (.int a2), some (.int a3)] [] ((zu M.1 73 (zx (18 + a2)) (a3 + 1)), M.2)) else none) else (bif cEq a1 3 then (bif zb (18 + a2) 148 then zX (t_X12_acts g) 76 [some (.ref 72), some (.int a1), some (.int a2), some (.int a3)] [] ((zu M.1 73 (zx (18 + a2)) 0), M.2) else none) else zX (t_X12_acts g) 76 [some (.ref 72), some (.int a1), some (.int a2), some (.int a3)] [] M)) := by
  refine Eq.trans (zX_rgN (tl_X12_acts g) (hc_X12_acts g) 24 _ _ _ _) ?_
  refine Eq.trans (Eq.trans (Eq.trans (r_0 (act := oF [] (oS (fIld 45 1))) rfl) (a_F rfl)) (a_ild rfl)) ?_
  refine Eq.trans (Eq.trans (r_go (act := oS (fSt 46 (gC (.int 2)))) rfl rfl) (a_C)) ?_
  refine Eq.trans (Eq.trans (r_go (act := oS (fCm 49 61 cEq)) rfl rfl) (a_cm)) (bcg ?_ ?_)
  · refine Eq.trans (Eq.trans (r_go (act := oS (fAld 50 0)) rfl rfl) (a_ald rfl)) ?_
    refine Eq.trans (Eq.trans (r_go (act := oS (fGr g 53 12 1)) rfl rfl) (a_gr (zO_72 g) (zR_72_1 g))) ?_
    refine Eq.trans (Eq.trans (r_go (act := oS (fSt 55 (gC (.int 18)))) rfl rfl) (a_C)) ?_
    refine Eq.trans (Eq.trans (r_go (act := oS (fIld 56 2)) rfl rfl) (a_ild rfl)) ?_
    refine Eq.trans (Eq.trans (r_go (act := oS (fSt 57 (g2 (fun x y => x + y)))) rfl rfl) (a_add)) ?_
    refine Eq.trans (Eq.trans (r_go (act := oS (fIld 58 3)) rfl rfl) (a_ild rfl)) ?_
    refine Eq.trans (Eq.trans (r_go (act := oS (fSt 59 (gC (.int 1)))) rfl rfl) (a_C)) ?_
    refine Eq.trans (Eq.trans (r_go (act := oS (fSt 60 (g2 (fun x y => x + y)))) rfl rfl) (a_add)) ?_
    refine Eq.trans (Eq.trans (r_go (act := oS (fIs g 61)) rfl rfl) (a_is (zA_73 g) zS_73)) (bcg ?_ rfl)
    refine Eq.trans (Eq.trans (r_go (act := oS (fIld 62 1)) rfl rfl) (a_ild rfl)) ?_
    refine Eq.trans (Eq.trans (r_go (act := oS (fSt 63 (gC (.int 3)))) rfl rfl) (a_C)) ?_
    refine Eq.trans (Eq.trans (r_go (act := oS (fCm 66 76 cEq)) rfl rfl) (a_cm)) (bcg ?_ ?_)
    · refine Eq.trans (Eq.trans (r_go (act := oS (fAld 67 0)) rfl rfl) (a_ald rfl)) ?_
      refine Eq.trans (Eq.trans (r_go (act := oS (fGr g 70 12 1)) rfl rfl) (a_gr (zO_72 g) (zR_72_1 g))) ?_
      refine Eq.trans (Eq.trans (r_go (act := oS (fSt 72 (gC (.int 18)))) rfl rfl) (a_C)) ?_
      refine Eq.trans (Eq.trans (r_go (act := oS (fIld 73 2)) rfl rfl) (a_ild rfl)) ?_
      refine Eq.trans (Eq.trans (r_go (act := oS (fSt 74 (g2 (fun x y => x + y)))) rfl rfl) (a_add)) ?_
      refine Eq.trans (Eq.trans (r_go (act := oS (fSt 75 (gC (.int 0)))) rfl rfl) (a_C)) ?_
      refine Eq.trans (Eq.trans (r_go (act := oS (fIs g 76)) rfl rfl) (a_is (zA_73 g) zS_73)) (bcg ?_ rfl)
      exact r_cut rfl rfl
    · exact r_cut rfl rfl
  · refine Eq.trans (Eq.trans (r_go (act := oS (fIld 62 1)) rfl rfl) (a_ild rfl)) ?_
    refine Eq.trans (Eq.trans (r_go (act := oS (fSt 63 (gC (.int 3)))) rfl rfl) (a_C)) ?_
    refine Eq.trans (Eq.trans (r_go (act := oS (fCm 66 76 cEq)) rfl rfl) (a_cm)) (bcg ?_ ?_)
    · refine Eq.trans (Eq.trans (r_go (act := oS (fAld 67 0)) rfl rfl) (a_ald rfl)) ?_
      refine Eq.trans (Eq.trans (r_go (act := oS (fGr g 70 12 1)) rfl rfl) (a_gr (zO_72 g) (zR_72_1 g))) ?_
      refine Eq.trans (Eq.trans (r_go (act := oS (fSt 72 (gC (.int 18)))) rfl rfl) (a_C)) ?_
      refine Eq.trans (Eq.trans (r_go (act := oS (fIld 73 2)) rfl rfl) (a_ild rfl)) ?_
      refine Eq.trans (Eq.trans (r_go (act := oS (fSt 74 (g2 (fun x y => x + y)))) rfl rfl) (a_add)) ?_
      refine Eq.trans (Eq.trans (r_go (act := oS (fSt 75 (gC (.int 0)))) rfl rfl) (a_C)) ?_
      refine Eq.trans (Eq.trans (r_go (act := oS (fIs g 76)) rfl rfl) (a_is (zA_73 g) zS_73)) (bcg ?_ rfl)
      exact r_cut rfl rfl
    · exact r_cut rfl rfl
set_option maxRecDepth 20000 in
theorem e_X12_acts_76 (g : zg) (a1 : Int32) (a2 : Int32) (a3 : Int32) (M : zM) : zX (t_X12_acts g) 76 [some (.ref 72), some (.int a1), some (.int a2), some (.int a3)] [] M = (bif cEq a1 4 then (bif zb (38 + a2) 148 then (bif zb (28 + a2) 148 then (bif cEq a1 1 then (zbV (X_X12_notes g [.ref 72, .int (4 + a1), .int a2, .int a3] ((zu (zu M.1 73 (zx (38 + a2)) 0) 73 (zx (28 + a2)) 0), M.2)) (fun M1 => some (none, M1))) else (bif cEq a1 2 then (zbV (X_X12_notes g [.ref 72, .int (4 + a1), .int a2, .int a3] ((zu (zu M.1 73 (zx (38 + a2)) 0) 73 (zx (28 + a2)) 0), M.2)) (fun M2 => some (none, M2))) else (zbV (X_X12_notes g [.ref 72, .int (4 + a1), .int a2, .int 0] ((zu (zu M.1 73 (zx (38 + a2)) 0) 73 (zx (28 + a2)) 0), M.2)) (fun M3 => some (none, M3))))) else none) else none) else (bif cEq a1 1 then (zbV (X_X12_notes g [.ref 72, .int (4 + a1), .int a2, .int a3] M) (fun M4 => some (none, M4))) else (bif cEq a1 2 then (zbV (X_X12_notes g [.ref 72, .int (4 + a1), .int a2, .int a3] M) (fun M5 => some (none, M5))) else (zbV (X_X12_notes g [.ref 72, .int (4 + a1), .int a2, .int 0] M) (fun M6 => some (none, M6)))))) := by
  refine Eq.trans (zX_rgN (tl_X12_acts g) (hc_X12_acts g) 33 _ _ _ _) ?_
  refine Eq.trans (Eq.trans (Eq.trans (r_0 (act := oF [] (oS (fIld 77 1))) rfl) (a_F rfl)) (a_ild rfl)) ?_
  refine Eq.trans (Eq.trans (r_go (act := oS (fSt 78 (gC (.int 4)))) rfl rfl) (a_C)) ?_
  refine Eq.trans (Eq.trans (r_go (act := oS (fCm 81 101 cEq)) rfl rfl) (a_cm)) (bcg ?_ ?_)
  · refine Eq.trans (Eq.trans (r_go (act := oS (fAld 82 0)) rfl rfl) (a_ald rfl)) ?_
    refine Eq.trans (Eq.trans (r_go (act := oS (fGr g 85 12 1)) rfl rfl) (a_gr (zO_72 g) (zR_72_1 g))) ?_
    refine Eq.trans (Eq.trans (r_go (act := oS (fSt 87 (gC (.int 38)))) rfl rfl) (a_C)) ?_
    refine Eq.trans (Eq.trans (r_go (act := oS (fIld 88 2)) rfl rfl) (a_ild rfl)) ?_
    refine Eq.trans (Eq.trans (r_go (act := oS (fSt 89 (g2 (fun x y => x + y)))) rfl rfl) (a_add)) ?_
    refine Eq.trans (Eq.trans (r_go (act := oS (fSt 90 (gC (.int 0)))) rfl rfl) (a_C)) ?_
    refine Eq.trans (Eq.trans (r_go (act := oS (fIs g 91)) rfl rfl) (a_is (zA_73 g) zS_73)) (bcg ?_ rfl)
    refine Eq.trans (Eq.trans (r_go (act := oS (fAld 92 0)) rfl rfl) (a_ald rfl)) ?_
    refine Eq.trans (Eq.trans (r_go (act := oS (fGr g 95 12 1)) rfl rfl) (a_gr (zO_72 g) (zR_72_1 g))) ?_
    refine Eq.trans (Eq.trans (r_go (act := oS (fSt 97 (gC (.int 28)))) rfl rfl) (a_C)) ?_
    refine Eq.trans (Eq.trans (r_go (act := oS (fIld 98 2)) rfl rfl) (a_ild rfl)) ?_
    refine Eq.trans (Eq.trans (r_go (act := oS (fSt 99 (g2 (fun x y => x + y)))) rfl rfl) (a_add)) ?_
    refine Eq.trans (Eq.trans (r_go (act := oS (fSt 100 (gC (.int 0)))) rfl rfl) (a_C)) ?_
    refine Eq.trans (Eq.trans (r_go (act := oS (fIs g 101)) rfl rfl) (a_is (zA_73 g) zS_73)) (bcg ?_ rfl)
    refine Eq.trans (Eq.trans (r_go (act := oS (fAld 102 0)) rfl rfl) (a_ald rfl)) ?_
    refine Eq.trans (Eq.trans (r_go (act := oS (fSt 103 (gC (.int 4)))) rfl rfl) (a_C)) ?_
    refine Eq.trans (Eq.trans (r_go (act := oS (fIld 104 1)) rfl rfl) (a_ild rfl)) ?_
    refine Eq.trans (Eq.trans (r_go (act := oS (fSt 105 (g2 (fun x y => x + y)))) rfl rfl) (a_add)) ?_
    refine Eq.trans (Eq.trans (r_go (act := oS (fIld 106 2)) rfl rfl) (a_ild rfl)) ?_
    refine Eq.trans (Eq.trans (r_go (act := oS (fIld 107 1)) rfl rfl) (a_ild rfl)) ?_
    refine Eq.trans (Eq.trans (r_go (act := oS (fSt 108 (gC (.int 1)))) rfl rfl) (a_C)) ?_
    refine Eq.trans (Eq.trans (r_go (act := oS (fCm 116 111 cEq)) rfl rfl) (a_cm)) (bcg ?_ ?_)
    · refine Eq.trans (Eq.trans (r_go (act := oS (fIld 117 3)) rfl rfl) (a_ild rfl)) ?_
      refine Eq.trans (Eq.trans (r_go (act := oS (fGo 121)) rfl rfl) (a_goto)) ?_
      refine Eq.trans (Eq.trans (r_go (act := oCV 124 4 (zcv g 12) (X_X12_notes g)) rfl rfl) (a_cV rfl (zck (zO_72 g) rfl))) (zbV_cg (fun M1 => ?_))
      exact Eq.trans (r_go (act := oVret) rfl rfl) (a_vret)
    · refine Eq.trans (Eq.trans (r_go (act := oS (fIld 112 1)) rfl rfl) (a_ild rfl)) ?_
      refine Eq.trans (Eq.trans (r_go (act := oS (fSt 113 (gC (.int 2)))) rfl rfl) (a_C)) ?_
      refine Eq.trans (Eq.trans (r_go (act := oS (fCm 116 120 cEq)) rfl rfl) (a_cm)) (bcg ?_ ?_)
      · refine Eq.trans (Eq.trans (r_go (act := oS (fIld 117 3)) rfl rfl) (a_ild rfl)) ?_
        refine Eq.trans (Eq.trans (r_go (act := oS (fGo 121)) rfl rfl) (a_goto)) ?_
        refine Eq.trans (Eq.trans (r_go (act := oCV 124 4 (zcv g 12) (X_X12_notes g)) rfl rfl) (a_cV rfl (zck (zO_72 g) rfl))) (zbV_cg (fun M2 => ?_))
        exact Eq.trans (r_go (act := oVret) rfl rfl) (a_vret)
      · refine Eq.trans (Eq.trans (r_go (act := oS (fSt 121 (gC (.int 0)))) rfl rfl) (a_C)) ?_
        refine Eq.trans (Eq.trans (r_go (act := oCV 124 4 (zcv g 12) (X_X12_notes g)) rfl rfl) (a_cV rfl (zck (zO_72 g) rfl))) (zbV_cg (fun M3 => ?_))
        exact Eq.trans (r_go (act := oVret) rfl rfl) (a_vret)
  · refine Eq.trans (Eq.trans (r_go (act := oS (fAld 102 0)) rfl rfl) (a_ald rfl)) ?_
    refine Eq.trans (Eq.trans (r_go (act := oS (fSt 103 (gC (.int 4)))) rfl rfl) (a_C)) ?_
    refine Eq.trans (Eq.trans (r_go (act := oS (fIld 104 1)) rfl rfl) (a_ild rfl)) ?_
    refine Eq.trans (Eq.trans (r_go (act := oS (fSt 105 (g2 (fun x y => x + y)))) rfl rfl) (a_add)) ?_
    refine Eq.trans (Eq.trans (r_go (act := oS (fIld 106 2)) rfl rfl) (a_ild rfl)) ?_
    refine Eq.trans (Eq.trans (r_go (act := oS (fIld 107 1)) rfl rfl) (a_ild rfl)) ?_
    refine Eq.trans (Eq.trans (r_go (act := oS (fSt 108 (gC (.int 1)))) rfl rfl) (a_C)) ?_
    refine Eq.trans (Eq.trans (r_go (act := oS (fCm 116 111 cEq)) rfl rfl) (a_cm)) (bcg ?_ ?_)
    · refine Eq.trans (Eq.trans (r_go (act := oS (fIld 117 3)) rfl rfl) (a_ild rfl)) ?_
      refine Eq.trans (Eq.trans (r_go (act := oS (fGo 121)) rfl rfl) (a_goto)) ?_
      refine Eq.trans (Eq.trans (r_go (act := oCV 124 4 (zcv g 12) (X_X12_notes g)) rfl rfl) (a_cV rfl (zck (zO_72 g) rfl))) (zbV_cg (fun M4 => ?_))
      exact Eq.trans (r_go (act := oVret) rfl rfl) (a_vret)
    · refine Eq.trans (Eq.trans (r_go (act := oS (fIld 112 1)) rfl rfl) (a_ild rfl)) ?_
      refine Eq.trans (Eq.trans (r_go (act := oS (fSt 113 (gC (.int 2)))) rfl rfl) (a_C)) ?_
      refine Eq.trans (Eq.trans (r_go (act := oS (fCm 116 120 cEq)) rfl rfl) (a_cm)) (bcg ?_ ?_)
      · refine Eq.trans (Eq.trans (r_go (act := oS (fIld 117 3)) rfl rfl) (a_ild rfl)) ?_
        refine Eq.trans (Eq.trans (r_go (act := oS (fGo 121)) rfl rfl) (a_goto)) ?_
        refine Eq.trans (Eq.trans (r_go (act := oCV 124 4 (zcv g 12) (X_X12_notes g)) rfl rfl) (a_cV rfl (zck (zO_72 g) rfl))) (zbV_cg (fun M5 => ?_))
        exact Eq.trans (r_go (act := oVret) rfl rfl) (a_vret)
      · refine Eq.trans (Eq.trans (r_go (act := oS (fSt 121 (gC (.int 0)))) rfl rfl) (a_C)) ?_
        refine Eq.trans (Eq.trans (r_go (act := oCV 124 4 (zcv g 12) (X_X12_notes g)) rfl rfl) (a_cV rfl (zck (zO_72 g) rfl))) (zbV_cg (fun M6 => ?_))
        exact Eq.trans (r_go (act := oVret) rfl rfl) (a_vret)
set_option maxRecDepth 20000 in
theorem e_X12_act_0 (g : zg) (a1 : Int32) (a2 : Int32) (a3 : Int32) (M : zM) : zX (t_X12_act g) 0 [some (.ref 72), some (.int a1), some (.int a2), some (.int a3)] [] M = (zbI (X_X12_isIn g [.ref 72, .int a1, .int 0, .int 4] ((zu M.1 72 0 0), M.2)) (fun x1 M1 => (bif cEq0 x1 then some (some (.int 0), M1) else (zbI (X_X12_isTeller g [.ref 72, .int a2] M1) (fun x2 M2 => (bif cEq0 x2 then some (some (.int 0), M2) else (zbI (X_X12_canAct g [.ref 72, .int a1, .int a2] M2) (fun x3 M3 => (bif cEq0 x3 then some (some (.int 0), M3) else (bif cEq a1 1 then (zbI (X_X12_isIn g [.ref 72, .int a3, .int 0, .int 99] M3) (fun x4 M4 => (bif cEq0 x4 then some (some (.int 0), M4) else zX (t_X12_act g) 50 [some (.ref 72), some (.int a1), some (.int a2), some (.int a3)] [] M4))) else zX (t_X12_act g) 50 [some (.ref 72), some (.int a1), some (.int a2), some (.int a3)] [] M3)))))))))) := by
  refine Eq.trans (zX_rgN (tl_X12_act g) (hc_X12_act g) 30 _ _ _ _) ?_
  refine Eq.trans (Eq.trans (r_0 (act := oS (fAld 1 0)) rfl) (a_ald rfl)) ?_
  refine Eq.trans (Eq.trans (r_go (act := oS (fSt 2 (gC (.int 0)))) rfl rfl) (a_C)) ?_
  refine Eq.trans (Eq.trans (r_go (act := oS (fPi g 5 12 0)) rfl rfl) (a_pi (zO_72 g))) ?_
  refine Eq.trans (Eq.trans (r_go (act := oS (fAld 6 0)) rfl rfl) (a_ald rfl)) ?_
  refine Eq.trans (Eq.trans (r_go (act := oS (fIld 7 1)) rfl rfl) (a_ild rfl)) ?_
  refine Eq.trans (Eq.trans (r_go (act := oS (fSt 8 (gC (.int 0)))) rfl rfl) (a_C)) ?_
  refine Eq.trans (Eq.trans (r_go (act := oS (fSt 9 (gC (.int 4)))) rfl rfl) (a_C)) ?_
  refine Eq.trans (Eq.trans (r_go (act := oCI 12 4 (zcv g 12) (X_X12_isIn g)) rfl rfl) (a_cI rfl (zck (zO_72 g) rfl))) (zbI_cg (fun x1 M1 => ?_))
  refine Eq.trans (Eq.trans (r_go (act := oS (fIf 32 15 cEq0)) rfl rfl) (a_if)) (bcg ?_ ?_)
  · refine Eq.trans (Eq.trans (r_go (act := oS (fSt 33 (gC (.int 0)))) rfl rfl) (a_C)) ?_
    exact Eq.trans (Eq.trans (r_go (act := oZret) rfl rfl) a_zret) (bcT (by decide +kernel))
  · refine Eq.trans (Eq.trans (r_go (act := oS (fAld 16 0)) rfl rfl) (a_ald rfl)) ?_
    refine Eq.trans (Eq.trans (r_go (act := oS (fIld 17 2)) rfl rfl) (a_ild rfl)) ?_
    refine Eq.trans (Eq.trans (r_go (act := oCI 20 2 (zcv g 12) (X_X12_isTeller g)) rfl rfl) (a_cI rfl (zck (zO_72 g) rfl))) (zbI_cg (fun x2 M2 => ?_))
    refine Eq.trans (Eq.trans (r_go (act := oS (fIf 32 23 cEq0)) rfl rfl) (a_if)) (bcg ?_ ?_)
    · refine Eq.trans (Eq.trans (r_go (act := oS (fSt 33 (gC (.int 0)))) rfl rfl) (a_C)) ?_
      exact Eq.trans (Eq.trans (r_go (act := oZret) rfl rfl) a_zret) (bcT (by decide +kernel))
    · refine Eq.trans (Eq.trans (r_go (act := oS (fAld 24 0)) rfl rfl) (a_ald rfl)) ?_
      refine Eq.trans (Eq.trans (r_go (act := oS (fIld 25 1)) rfl rfl) (a_ild rfl)) ?_
      refine Eq.trans (Eq.trans (r_go (act := oS (fIld 26 2)) rfl rfl) (a_ild rfl)) ?_
      refine Eq.trans (Eq.trans (r_go (act := oCI 29 3 (zcv g 12) (X_X12_canAct g)) rfl rfl) (a_cI rfl (zck (zO_72 g) rfl))) (zbI_cg (fun x3 M3 => ?_))
      refine Eq.trans (Eq.trans (r_go (act := oS (fIf 32 34 cEq0)) rfl rfl) (a_if)) (bcg ?_ ?_)
      · refine Eq.trans (Eq.trans (r_go (act := oS (fSt 33 (gC (.int 0)))) rfl rfl) (a_C)) ?_
        exact Eq.trans (Eq.trans (r_go (act := oZret) rfl rfl) a_zret) (bcT (by decide +kernel))
      · refine Eq.trans (Eq.trans (r_go (act := oS (fIld 35 1)) rfl rfl) (a_ild rfl)) ?_
        refine Eq.trans (Eq.trans (r_go (act := oS (fSt 36 (gC (.int 1)))) rfl rfl) (a_C)) ?_
        refine Eq.trans (Eq.trans (r_go (act := oS (fCm 39 50 cEq)) rfl rfl) (a_cm)) (bcg ?_ ?_)
        · refine Eq.trans (Eq.trans (r_go (act := oS (fAld 40 0)) rfl rfl) (a_ald rfl)) ?_
          refine Eq.trans (Eq.trans (r_go (act := oS (fIld 41 3)) rfl rfl) (a_ild rfl)) ?_
          refine Eq.trans (Eq.trans (r_go (act := oS (fSt 42 (gC (.int 0)))) rfl rfl) (a_C)) ?_
          refine Eq.trans (Eq.trans (r_go (act := oS (fSt 44 (gC (.int 99)))) rfl rfl) (a_C)) ?_
          refine Eq.trans (Eq.trans (r_go (act := oCI 47 4 (zcv g 12) (X_X12_isIn g)) rfl rfl) (a_cI rfl (zck (zO_72 g) rfl))) (zbI_cg (fun x4 M4 => ?_))
          refine Eq.trans (Eq.trans (r_go (act := oS (fIf 65 50 cEq0)) rfl rfl) (a_if)) (bcg ?_ ?_)
          · refine Eq.trans (Eq.trans (r_go (act := oS (fSt 66 (gC (.int 0)))) rfl rfl) (a_C)) ?_
            exact Eq.trans (Eq.trans (r_go (act := oZret) rfl rfl) a_zret) (bcT (by decide +kernel))
          · exact r_cut rfl rfl
        · exact r_cut rfl rfl
theorem x_X12_act_0 (g : zg) (a1 : Int32) (a2 : Int32) (a3 : Int32) (M : zM) : X_X12_act g [.ref 72, .int a1, .int a2, .int a3] M = (zbI (X_X12_isIn g [.ref 72, .int a1, .int 0, .int 4] ((zu M.1 72 0 0), M.2)) (fun x1 M1 => (bif cEq0 x1 then some (some (.int 0), M1) else (zbI (X_X12_isTeller g [.ref 72, .int a2] M1) (fun x2 M2 => (bif cEq0 x2 then some (some (.int 0), M2) else (zbI (X_X12_canAct g [.ref 72, .int a1, .int a2] M2) (fun x3 M3 => (bif cEq0 x3 then some (some (.int 0), M3) else (bif cEq a1 1 then (zbI (X_X12_isIn g [.ref 72, .int a3, .int 0, .int 99] M3) (fun x4 M4 => (bif cEq0 x4 then some (some (.int 0), M4) else zX (t_X12_act g) 50 [some (.ref 72), some (.int a1), some (.int a2), some (.int a3)] [] M4))) else zX (t_X12_act g) 50 [some (.ref 72), some (.int a1), some (.int a2), some (.int a3)] [] M3)))))))))) := e_X12_act_0 g a1 a2 a3 M
set_option maxRecDepth 20000 in
theorem e_X12_act_50 (g : zg) (a1 : Int32) (a2 : Int32) (a3 : Int32) (M : zM) : zX (t_X12_act g) 50 [some (.ref 72), some (.int a1), some (.int a2), some (.int a3)] [] M = (bif cEq a1 2 then (zbI (X_X12_isIn g [.ref 72, .int a3, .int 0, .int 4] M) (fun x1 M1 => (bif cEq0 x1 then some (some (.int 0), M1) else (zbV (X_X12_keepsAhead g [.ref 72] M1) (fun M2 => (zbV (X_X12_acts g [.ref 72, .int a1, .int a2, .int a3] M2) (fun M3 => some (some (.int 1), M3)))))))) else (zbV (X_X12_keepsAhead g [.ref 72] M) (fun M4 => (zbV (X_X12_acts g [.ref 72, .int a1, .int a2, .int a3] M4) (fun M5 => some (some (.int 1), M5)))))) := by
  refine Eq.trans (zX_rgN (tl_X12_act g) (hc_X12_act g) 19 _ _ _ _) ?_
  refine Eq.trans (Eq.trans (Eq.trans (r_0 (act := oF [] (oS (fIld 51 1))) rfl) (a_F rfl)) (a_ild rfl)) ?_
  refine Eq.trans (Eq.trans (r_go (act := oS (fSt 52 (gC (.int 2)))) rfl rfl) (a_C)) ?_
  refine Eq.trans (Eq.trans (r_go (act := oS (fCm 55 67 cEq)) rfl rfl) (a_cm)) (bcg ?_ ?_)
  · refine Eq.trans (Eq.trans (r_go (act := oS (fAld 56 0)) rfl rfl) (a_ald rfl)) ?_
    refine Eq.trans (Eq.trans (r_go (act := oS (fIld 57 3)) rfl rfl) (a_ild rfl)) ?_
    refine Eq.trans (Eq.trans (r_go (act := oS (fSt 58 (gC (.int 0)))) rfl rfl) (a_C)) ?_
    refine Eq.trans (Eq.trans (r_go (act := oS (fSt 59 (gC (.int 4)))) rfl rfl) (a_C)) ?_
    refine Eq.trans (Eq.trans (r_go (act := oCI 62 4 (zcv g 12) (X_X12_isIn g)) rfl rfl) (a_cI rfl (zck (zO_72 g) rfl))) (zbI_cg (fun x1 M1 => ?_))
    refine Eq.trans (Eq.trans (r_go (act := oS (fIf 65 67 cEq0)) rfl rfl) (a_if)) (bcg ?_ ?_)
    · refine Eq.trans (Eq.trans (r_go (act := oS (fSt 66 (gC (.int 0)))) rfl rfl) (a_C)) ?_
      exact Eq.trans (Eq.trans (r_go (act := oZret) rfl rfl) a_zret) (bcT (by decide +kernel))
    · refine Eq.trans (Eq.trans (r_go (act := oS (fAld 68 0)) rfl rfl) (a_ald rfl)) ?_
      refine Eq.trans (Eq.trans (r_go (act := oCV 71 1 (zcv g 12) (X_X12_keepsAhead g)) rfl rfl) (a_cV rfl (zck (zO_72 g) rfl))) (zbV_cg (fun M2 => ?_))
      refine Eq.trans (Eq.trans (r_go (act := oS (fAld 72 0)) rfl rfl) (a_ald rfl)) ?_
      refine Eq.trans (Eq.trans (r_go (act := oS (fIld 73 1)) rfl rfl) (a_ild rfl)) ?_
      refine Eq.trans (Eq.trans (r_go (act := oS (fIld 74 2)) rfl rfl) (a_ild rfl)) ?_
      refine Eq.trans (Eq.trans (r_go (act := oS (fIld 75 3)) rfl rfl) (a_ild rfl)) ?_
      refine Eq.trans (Eq.trans (r_go (act := oCV 78 4 (zcv g 12) (X_X12_acts g)) rfl rfl) (a_cV rfl (zck (zO_72 g) rfl))) (zbV_cg (fun M3 => ?_))
      refine Eq.trans (Eq.trans (r_go (act := oS (fSt 79 (gC (.int 1)))) rfl rfl) (a_C)) ?_
      exact Eq.trans (Eq.trans (r_go (act := oZret) rfl rfl) a_zret) (bcT (by decide +kernel))
  · refine Eq.trans (Eq.trans (r_go (act := oS (fAld 68 0)) rfl rfl) (a_ald rfl)) ?_
    refine Eq.trans (Eq.trans (r_go (act := oCV 71 1 (zcv g 12) (X_X12_keepsAhead g)) rfl rfl) (a_cV rfl (zck (zO_72 g) rfl))) (zbV_cg (fun M4 => ?_))
    refine Eq.trans (Eq.trans (r_go (act := oS (fAld 72 0)) rfl rfl) (a_ald rfl)) ?_
    refine Eq.trans (Eq.trans (r_go (act := oS (fIld 73 1)) rfl rfl) (a_ild rfl)) ?_
    refine Eq.trans (Eq.trans (r_go (act := oS (fIld 74 2)) rfl rfl) (a_ild rfl)) ?_
    refine Eq.trans (Eq.trans (r_go (act := oS (fIld 75 3)) rfl rfl) (a_ild rfl)) ?_
    refine Eq.trans (Eq.trans (r_go (act := oCV 78 4 (zcv g 12) (X_X12_acts g)) rfl rfl) (a_cV rfl (zck (zO_72 g) rfl))) (zbV_cg (fun M5 => ?_))
    refine Eq.trans (Eq.trans (r_go (act := oS (fSt 79 (gC (.int 1)))) rfl rfl) (a_C)) ?_
    exact Eq.trans (Eq.trans (r_go (act := oZret) rfl rfl) a_zret) (bcT (by decide +kernel))
set_option maxRecDepth 20000 in
theorem e_X12_taps_0 (g : zg) (M : zM) : zX (t_X12_taps g) 0 [some (.ref 72), none] [] M = zX (t_X12_taps g) 2 [some (.ref 72), some (.int 0)] [] M := by
  refine Eq.trans (zX_rgN (tl_X12_taps g) (hc_X12_taps g) 4 _ _ _ _) ?_
  refine Eq.trans (Eq.trans (r_0 (act := oS (fSt 1 (gC (.int 0)))) rfl) (a_C)) ?_
  refine Eq.trans (Eq.trans (r_go (act := oS (fIst 2 1)) rfl rfl) (a_ist rfl rfl)) ?_
  exact r_cut rfl rfl
theorem x_X12_taps_0 (g : zg) (M : zM) : X_X12_taps g [.ref 72] M = zX (t_X12_taps g) 2 [some (.ref 72), some (.int 0)] [] M := e_X12_taps_0 g M
set_option maxRecDepth 20000 in
theorem e_X12_taps_2 (g : zg) (a1 : Int32) (M : zM) : zX (t_X12_taps g) 2 [some (.ref 72), some (.int a1)] [] M = (bif cLt a1 (M.1 72 6) then (zbI (X_X12_isHere g [.ref 72, .int a1] M) (fun x1 M1 => (bif cEq0 x1 then zX (t_X12_taps g) 2 [some (.ref 72), some (.int (a1 + 1))] [] M1 else (bif zb (18 + a1) 148 then (bif cEq0 (M1.1 73 (zx (18 + a1))) then zX (t_X12_taps g) 2 [some (.ref 72), some (.int (a1 + 1))] [] ((zu M1.1 73 6 ((M1.1 73 6) + 1)), M1.2) else zX (t_X12_taps g) 2 [some (.ref 72), some (.int (a1 + 1))] [] ((zu M1.1 73 6 ((M1.1 73 6) + (-1))), M1.2)) else none)))) else some (none, M)) := by
  refine Eq.trans (zX_rgN (tl_X12_taps g) (hc_X12_taps g) 30 _ _ _ _) ?_
  refine Eq.trans (Eq.trans (Eq.trans (r_0 (act := oF [] (oS (fIld 3 1))) rfl) (a_F rfl)) (a_ild rfl)) ?_
  refine Eq.trans (Eq.trans (r_go (act := oS (fAld 4 0)) rfl rfl) (a_ald rfl)) ?_
  refine Eq.trans (Eq.trans (r_go (act := oS (fGi g 7 12 6)) rfl rfl) (a_gi (zO_72 g))) ?_
  refine Eq.trans (Eq.trans (r_go (act := oS (fCm 10 56 cLt)) rfl rfl) (a_cm)) (bcg ?_ ?_)
  · refine Eq.trans (Eq.trans (r_go (act := oS (fAld 11 0)) rfl rfl) (a_ald rfl)) ?_
    refine Eq.trans (Eq.trans (r_go (act := oS (fIld 12 1)) rfl rfl) (a_ild rfl)) ?_
    refine Eq.trans (Eq.trans (r_go (act := oCI 15 2 (zcv g 12) (X_X12_isHere g)) rfl rfl) (a_cI rfl (zck (zO_72 g) rfl))) (zbI_cg (fun x1 M1 => ?_))
    refine Eq.trans (Eq.trans (r_go (act := oS (fIf 50 18 cEq0)) rfl rfl) (a_if)) (bcg ?_ ?_)
    · refine Eq.trans (Eq.trans (r_go (act := oS (fInc 53 1 1)) rfl rfl) (a_inc rfl rfl rfl)) ?_
      refine Eq.trans (Eq.trans (r_go (act := oS (fGo 2)) rfl rfl) (a_goto)) ?_
      exact r_cut rfl rfl
    · refine Eq.trans (Eq.trans (r_go (act := oS (fAld 19 0)) rfl rfl) (a_ald rfl)) ?_
      refine Eq.trans (Eq.trans (r_go (act := oS (fGr g 22 12 1)) rfl rfl) (a_gr (zO_72 g) (zR_72_1 g))) ?_
      refine Eq.trans (Eq.trans (r_go (act := oS (fSt 24 (gC (.int 6)))) rfl rfl) (a_C)) ?_
      refine Eq.trans (Eq.trans (r_go (act := oS (fAld 25 0)) rfl rfl) (a_ald rfl)) ?_
      refine Eq.trans (Eq.trans (r_go (act := oS (fGr g 28 12 1)) rfl rfl) (a_gr (zO_72 g) (zR_72_1 g))) ?_
      refine Eq.trans (Eq.trans (r_go (act := oS (fSt 30 (gC (.int 6)))) rfl rfl) (a_C)) ?_
      refine Eq.trans (Eq.trans (r_go (act := oS (fIa g 31)) rfl rfl) (a_iaK (j := 6) (zA_73 g) zS_73 (by decide +kernel) (by decide +kernel))) ?_
      refine Eq.trans (Eq.trans (r_go (act := oS (fAld 32 0)) rfl rfl) (a_ald rfl)) ?_
      refine Eq.trans (Eq.trans (r_go (act := oS (fGr g 35 12 1)) rfl rfl) (a_gr (zO_72 g) (zR_72_1 g))) ?_
      refine Eq.trans (Eq.trans (r_go (act := oS (fSt 37 (gC (.int 18)))) rfl rfl) (a_C)) ?_
      refine Eq.trans (Eq.trans (r_go (act := oS (fIld 38 1)) rfl rfl) (a_ild rfl)) ?_
      refine Eq.trans (Eq.trans (r_go (act := oS (fSt 39 (g2 (fun x y => x + y)))) rfl rfl) (a_add)) ?_
      refine Eq.trans (Eq.trans (r_go (act := oS (fIa g 40)) rfl rfl) (a_ia (zA_73 g) zS_73)) (bcg ?_ rfl)
      refine Eq.trans (Eq.trans (r_go (act := oS (fIf 43 47 cEq0)) rfl rfl) (a_if)) (bcg ?_ ?_)
      · refine Eq.trans (Eq.trans (r_go (act := oS (fSt 44 (gC (.int 1)))) rfl rfl) (a_C)) ?_
        refine Eq.trans (Eq.trans (r_go (act := oS (fGo 48)) rfl rfl) (a_goto)) ?_
        refine Eq.trans (Eq.trans (r_go (act := oS (fSt 49 (g2 (fun x y => x + y)))) rfl rfl) (a_add)) ?_
        refine Eq.trans (Eq.trans (r_go (act := oS (fIs g 50)) rfl rfl) (a_isK (j := 6) (zA_73 g) zS_73 (by decide +kernel) (by decide +kernel))) ?_
        refine Eq.trans (Eq.trans (r_go (act := oS (fInc 53 1 1)) rfl rfl) (a_inc rfl rfl rfl)) ?_
        refine Eq.trans (Eq.trans (r_go (act := oS (fGo 2)) rfl rfl) (a_goto)) ?_
        exact r_cut rfl rfl
      · refine Eq.trans (Eq.trans (r_go (act := oS (fSt 48 (gC (.int (-1))))) rfl rfl) (a_C)) ?_
        refine Eq.trans (Eq.trans (r_go (act := oS (fSt 49 (g2 (fun x y => x + y)))) rfl rfl) (a_add)) ?_
        refine Eq.trans (Eq.trans (r_go (act := oS (fIs g 50)) rfl rfl) (a_isK (j := 6) (zA_73 g) zS_73 (by decide +kernel) (by decide +kernel))) ?_
        refine Eq.trans (Eq.trans (r_go (act := oS (fInc 53 1 1)) rfl rfl) (a_inc rfl rfl rfl)) ?_
        refine Eq.trans (Eq.trans (r_go (act := oS (fGo 2)) rfl rfl) (a_goto)) ?_
        exact r_cut rfl rfl
  · exact Eq.trans (r_go (act := oVret) rfl rfl) (a_vret)
set_option maxRecDepth 20000 in
theorem e_X12_does_0 (g : zg) (a1 : Int32) (M : zM) : zX (t_X12_does g) 0 [some (.ref 72), some (.int a1)] [] M = (bif zb (a1 + 1) 128 then (bif cEq (M.1 90 (zx (a1 + 1))) 5 then (zbV (X_X12_taps g [.ref 72] M) (fun M1 => some (none, M1))) else (bif zb (a1 + 1) 128 then (bif zb (a1 + 2) 128 then (zbI (X_X12_canAct g [.ref 72, .int (M.1 90 (zx (a1 + 1))), .int (M.1 90 (zx (a1 + 2)))] M) (fun x2 M2 => (bif cEq0 x2 then some (none, M2) else (bif zb (a1 + 1) 128 then (bif zb (a1 + 2) 128 then (bif zb (a1 + 3) 128 then (zbV (X_X12_acts g [.ref 72, .int (M2.1 90 (zx (a1 + 1))), .int (M2.1 90 (zx (a1 + 2))), .int (M2.1 90 (zx (a1 + 3)))] M2) (fun M3 => some (none, M3))) else none) else none) else none)))) else none) else none)) else none) := by
  refine Eq.trans (zX_rgN (tl_X12_does g) (hc_X12_does g) 45 _ _ _ _) ?_
  refine Eq.trans (Eq.trans (r_0 (act := oS (fAld 1 0)) rfl) (a_ald rfl)) ?_
  refine Eq.trans (Eq.trans (r_go (act := oS (fGr g 4 12 38)) rfl rfl) (a_gr (zO_72 g) (zR_72_38 g))) ?_
  refine Eq.trans (Eq.trans (r_go (act := oS (fIld 5 1)) rfl rfl) (a_ild rfl)) ?_
  refine Eq.trans (Eq.trans (r_go (act := oS (fSt 6 (gC (.int 1)))) rfl rfl) (a_C)) ?_
  refine Eq.trans (Eq.trans (r_go (act := oS (fSt 7 (g2 (fun x y => x + y)))) rfl rfl) (a_add)) ?_
  refine Eq.trans (Eq.trans (r_go (act := oS (fIa g 8)) rfl rfl) (a_ia (zA_90 g) zS_90)) (bcg ?_ rfl)
  refine Eq.trans (Eq.trans (r_go (act := oS (fSt 9 (gC (.int 5)))) rfl rfl) (a_C)) ?_
  refine Eq.trans (Eq.trans (r_go (act := oS (fCm 12 19 cEq)) rfl rfl) (a_cm)) (bcg ?_ ?_)
  · refine Eq.trans (Eq.trans (r_go (act := oS (fAld 13 0)) rfl rfl) (a_ald rfl)) ?_
    refine Eq.trans (Eq.trans (r_go (act := oCV 16 1 (zcv g 12) (X_X12_taps g)) rfl rfl) (a_cV rfl (zck (zO_72 g) rfl))) (zbV_cg (fun M1 => ?_))
    refine Eq.trans (Eq.trans (r_go (act := oS (fGo 70)) rfl rfl) (a_goto)) ?_
    exact Eq.trans (r_go (act := oVret) rfl rfl) (a_vret)
  · refine Eq.trans (Eq.trans (r_go (act := oS (fAld 20 0)) rfl rfl) (a_ald rfl)) ?_
    refine Eq.trans (Eq.trans (r_go (act := oS (fAld 21 0)) rfl rfl) (a_ald rfl)) ?_
    refine Eq.trans (Eq.trans (r_go (act := oS (fGr g 24 12 38)) rfl rfl) (a_gr (zO_72 g) (zR_72_38 g))) ?_
    refine Eq.trans (Eq.trans (r_go (act := oS (fIld 25 1)) rfl rfl) (a_ild rfl)) ?_
    refine Eq.trans (Eq.trans (r_go (act := oS (fSt 26 (gC (.int 1)))) rfl rfl) (a_C)) ?_
    refine Eq.trans (Eq.trans (r_go (act := oS (fSt 27 (g2 (fun x y => x + y)))) rfl rfl) (a_add)) ?_
    refine Eq.trans (Eq.trans (r_go (act := oS (fIa g 28)) rfl rfl) (a_ia (zA_90 g) zS_90)) (bcg ?_ rfl)
    refine Eq.trans (Eq.trans (r_go (act := oS (fAld 29 0)) rfl rfl) (a_ald rfl)) ?_
    refine Eq.trans (Eq.trans (r_go (act := oS (fGr g 32 12 38)) rfl rfl) (a_gr (zO_72 g) (zR_72_38 g))) ?_
    refine Eq.trans (Eq.trans (r_go (act := oS (fIld 33 1)) rfl rfl) (a_ild rfl)) ?_
    refine Eq.trans (Eq.trans (r_go (act := oS (fSt 34 (gC (.int 2)))) rfl rfl) (a_C)) ?_
    refine Eq.trans (Eq.trans (r_go (act := oS (fSt 35 (g2 (fun x y => x + y)))) rfl rfl) (a_add)) ?_
    refine Eq.trans (Eq.trans (r_go (act := oS (fIa g 36)) rfl rfl) (a_ia (zA_90 g) zS_90)) (bcg ?_ rfl)
    refine Eq.trans (Eq.trans (r_go (act := oCI 39 3 (zcv g 12) (X_X12_canAct g)) rfl rfl) (a_cI rfl (zck (zO_72 g) rfl))) (zbI_cg (fun x2 M2 => ?_))
    refine Eq.trans (Eq.trans (r_go (act := oS (fIf 70 42 cEq0)) rfl rfl) (a_if)) (bcg ?_ ?_)
    · exact Eq.trans (r_go (act := oVret) rfl rfl) (a_vret)
    · refine Eq.trans (Eq.trans (r_go (act := oS (fAld 43 0)) rfl rfl) (a_ald rfl)) ?_
      refine Eq.trans (Eq.trans (r_go (act := oS (fAld 44 0)) rfl rfl) (a_ald rfl)) ?_
      refine Eq.trans (Eq.trans (r_go (act := oS (fGr g 47 12 38)) rfl rfl) (a_gr (zO_72 g) (zR_72_38 g))) ?_
      refine Eq.trans (Eq.trans (r_go (act := oS (fIld 48 1)) rfl rfl) (a_ild rfl)) ?_
      refine Eq.trans (Eq.trans (r_go (act := oS (fSt 49 (gC (.int 1)))) rfl rfl) (a_C)) ?_
      refine Eq.trans (Eq.trans (r_go (act := oS (fSt 50 (g2 (fun x y => x + y)))) rfl rfl) (a_add)) ?_
      refine Eq.trans (Eq.trans (r_go (act := oS (fIa g 51)) rfl rfl) (a_ia (zA_90 g) zS_90)) (bcg ?_ rfl)
      refine Eq.trans (Eq.trans (r_go (act := oS (fAld 52 0)) rfl rfl) (a_ald rfl)) ?_
      refine Eq.trans (Eq.trans (r_go (act := oS (fGr g 55 12 38)) rfl rfl) (a_gr (zO_72 g) (zR_72_38 g))) ?_
      refine Eq.trans (Eq.trans (r_go (act := oS (fIld 56 1)) rfl rfl) (a_ild rfl)) ?_
      refine Eq.trans (Eq.trans (r_go (act := oS (fSt 57 (gC (.int 2)))) rfl rfl) (a_C)) ?_
      refine Eq.trans (Eq.trans (r_go (act := oS (fSt 58 (g2 (fun x y => x + y)))) rfl rfl) (a_add)) ?_
      refine Eq.trans (Eq.trans (r_go (act := oS (fIa g 59)) rfl rfl) (a_ia (zA_90 g) zS_90)) (bcg ?_ rfl)
      refine Eq.trans (Eq.trans (r_go (act := oS (fAld 60 0)) rfl rfl) (a_ald rfl)) ?_
      refine Eq.trans (Eq.trans (r_go (act := oS (fGr g 63 12 38)) rfl rfl) (a_gr (zO_72 g) (zR_72_38 g))) ?_
      refine Eq.trans (Eq.trans (r_go (act := oS (fIld 64 1)) rfl rfl) (a_ild rfl)) ?_
      refine Eq.trans (Eq.trans (r_go (act := oS (fSt 65 (gC (.int 3)))) rfl rfl) (a_C)) ?_
      refine Eq.trans (Eq.trans (r_go (act := oS (fSt 66 (g2 (fun x y => x + y)))) rfl rfl) (a_add)) ?_
      refine Eq.trans (Eq.trans (r_go (act := oS (fIa g 67)) rfl rfl) (a_ia (zA_90 g) zS_90)) (bcg ?_ rfl)
      refine Eq.trans (Eq.trans (r_go (act := oCV 70 4 (zcv g 12) (X_X12_acts g)) rfl rfl) (a_cV rfl (zck (zO_72 g) rfl))) (zbV_cg (fun M3 => ?_))
      exact Eq.trans (r_go (act := oVret) rfl rfl) (a_vret)
theorem x_X12_does_0 (g : zg) (a1 : Int32) (M : zM) : X_X12_does g [.ref 72, .int a1] M = (bif zb (a1 + 1) 128 then (bif cEq (M.1 90 (zx (a1 + 1))) 5 then (zbV (X_X12_taps g [.ref 72] M) (fun M1 => some (none, M1))) else (bif zb (a1 + 1) 128 then (bif zb (a1 + 2) 128 then (zbI (X_X12_canAct g [.ref 72, .int (M.1 90 (zx (a1 + 1))), .int (M.1 90 (zx (a1 + 2)))] M) (fun x2 M2 => (bif cEq0 x2 then some (none, M2) else (bif zb (a1 + 1) 128 then (bif zb (a1 + 2) 128 then (bif zb (a1 + 3) 128 then (zbV (X_X12_acts g [.ref 72, .int (M2.1 90 (zx (a1 + 1))), .int (M2.1 90 (zx (a1 + 2))), .int (M2.1 90 (zx (a1 + 3)))] M2) (fun M3 => some (none, M3))) else none) else none) else none)))) else none) else none)) else none) := e_X12_does_0 g a1 M
set_option maxRecDepth 20000 in
theorem e_X12_glass_0 (g : zg) (M : zM) : zX (t_X12_glass g) 0 [some (.ref 72)] [] M = some (some (.int ((M.1 73 3) + 50)), M) := by
  refine Eq.trans (zX_rgN (tl_X12_glass g) (hc_X12_glass g) 8 _ _ _ _) ?_
  refine Eq.trans (Eq.trans (r_0 (act := oS (fAld 1 0)) rfl) (a_ald rfl)) ?_
  refine Eq.trans (Eq.trans (r_go (act := oS (fGr g 4 12 1)) rfl rfl) (a_gr (zO_72 g) (zR_72_1 g))) ?_
  refine Eq.trans (Eq.trans (r_go (act := oS (fSt 5 (gC (.int 3)))) rfl rfl) (a_C)) ?_
  refine Eq.trans (Eq.trans (r_go (act := oS (fIa g 6)) rfl rfl) (a_iaK (j := 3) (zA_73 g) zS_73 (by decide +kernel) (by decide +kernel))) ?_
  refine Eq.trans (Eq.trans (r_go (act := oS (fSt 8 (gC (.int 50)))) rfl rfl) (a_C)) ?_
  refine Eq.trans (Eq.trans (r_go (act := oS (fSt 9 (g2 (fun x y => x + y)))) rfl rfl) (a_add)) ?_
  exact Eq.trans (r_go (act := oIret) rfl rfl) (a_iret)
theorem x_X12_glass_0 (g : zg) (M : zM) : X_X12_glass g [.ref 72] M = some (some (.int ((M.1 73 3) + 50)), M) := e_X12_glass_0 g M
set_option maxRecDepth 20000 in
theorem e_X12_kindOf_0 (g : zg) (a1 : Int32) (M : zM) : zX (t_X12_kindOf g) 0 [some (.ref 72), some (.int a1)] [] M = some (some (.int (a1 / 20)), M) := by
  refine Eq.trans (zX_rgN (tl_X12_kindOf g) (hc_X12_kindOf g) 5 _ _ _ _) ?_
  refine Eq.trans (Eq.trans (r_0 (act := oS (fIld 1 1)) rfl) (a_ild rfl)) ?_
  refine Eq.trans (Eq.trans (r_go (act := oS (fSt 3 (gC (.int 20)))) rfl rfl) (a_C)) ?_
  refine Eq.trans (Eq.trans (r_go (act := oS (fDiv 4)) rfl rfl) (a_div)) (Eq.trans (bcT (by decide)) ?_)
  exact Eq.trans (r_go (act := oIret) rfl rfl) (a_iret)
theorem x_X12_kindOf_0 (g : zg) (a1 : Int32) (M : zM) : X_X12_kindOf g [.ref 72, .int a1] M = some (some (.int (a1 / 20)), M) := e_X12_kindOf_0 g a1 M
set_option maxRecDepth 20000 in
theorem e_X12_minister_0 (g : zg) (M : zM) : zX (t_X12_minister g) 0 [some (.ref 72)] [] M = some (some (.int ((M.1 73 4) - 1)), M) := by
  refine Eq.trans (zX_rgN (tl_X12_minister g) (hc_X12_minister g) 8 _ _ _ _) ?_
  refine Eq.trans (Eq.trans (r_0 (act := oS (fAld 1 0)) rfl) (a_ald rfl)) ?_
  refine Eq.trans (Eq.trans (r_go (act := oS (fGr g 4 12 1)) rfl rfl) (a_gr (zO_72 g) (zR_72_1 g))) ?_
  refine Eq.trans (Eq.trans (r_go (act := oS (fSt 5 (gC (.int 4)))) rfl rfl) (a_C)) ?_
  refine Eq.trans (Eq.trans (r_go (act := oS (fIa g 6)) rfl rfl) (a_iaK (j := 4) (zA_73 g) zS_73 (by decide +kernel) (by decide +kernel))) ?_
  refine Eq.trans (Eq.trans (r_go (act := oS (fSt 7 (gC (.int 1)))) rfl rfl) (a_C)) ?_
  refine Eq.trans (Eq.trans (r_go (act := oS (fSt 8 (g2 (fun x y => x - y)))) rfl rfl) (a_sub)) ?_
  exact Eq.trans (r_go (act := oIret) rfl rfl) (a_iret)
theorem x_X12_minister_0 (g : zg) (M : zM) : X_X12_minister g [.ref 72] M = some (some (.int ((M.1 73 4) - 1)), M) := e_X12_minister_0 g M
set_option maxRecDepth 20000 in
theorem e_X12_asks_0 (g : zg) (a1 : Int32) (a2 : Int32) (M : zM) : zX (t_X12_asks g) 0 [some (.ref 72), some (.int a1), some (.int a2)] [] M = (bif zb a1 10 then (bif zb a1 10 then (bif zb (8 + a1) 148 then (zbI (X_X12_glass g [.ref 72] ((zu (zu (zu M.1 91 0 (M.1 76 (zx a1))) 91 1 (M.1 77 (zx a1))) 91 2 (M.1 73 (zx (8 + a1)))), M.2)) (fun x1 M1 => (zbI (X_X12_glass g [.ref 72] ((zu M1.1 91 3 x1), M1.2)) (fun x2 M2 => (zbI (X_X12_kindOf g [.ref 72, .int x2] M2) (fun x3 M3 => (bif zb (28 + a1) 148 then (zbI (X_X12_minister g [.ref 72] ((zu (zu (zu M3.1 91 4 x3) 91 5 (M3.1 73 (zx (28 + a1)))) 91 6 (M3.1 73 0)), M3.2)) (fun x4 M4 => (bif cEq x4 a1 then some (none, ((zu (zu M4.1 91 7 1) 91 8 a2), M4.2)) else some (none, ((zu (zu M4.1 91 7 0) 91 8 a2), M4.2))))) else none))))))) else none) else none) else none) := by
  refine Eq.trans (zX_rgN (tl_X12_asks g) (hc_X12_asks g) 75 _ _ _ _) ?_
  refine Eq.trans (Eq.trans (r_0 (act := oS (fAld 1 0)) rfl) (a_ald rfl)) ?_
  refine Eq.trans (Eq.trans (r_go (act := oS (fGr g 4 12 39)) rfl rfl) (a_gr (zO_72 g) (zR_72_39 g))) ?_
  refine Eq.trans (Eq.trans (r_go (act := oS (fSt 5 (gC (.int 0)))) rfl rfl) (a_C)) ?_
  refine Eq.trans (Eq.trans (r_go (act := oS (fAld 6 0)) rfl rfl) (a_ald rfl)) ?_
  refine Eq.trans (Eq.trans (r_go (act := oS (fGr g 9 12 9)) rfl rfl) (a_gr (zO_72 g) (zR_72_9 g))) ?_
  refine Eq.trans (Eq.trans (r_go (act := oS (fIld 10 1)) rfl rfl) (a_ild rfl)) ?_
  refine Eq.trans (Eq.trans (r_go (act := oS (fIa g 11)) rfl rfl) (a_ia (zA_76 g) zS_76)) (bcg ?_ rfl)
  refine Eq.trans (Eq.trans (r_go (act := oS (fIs g 12)) rfl rfl) (a_isK (j := 0) (zA_91 g) zS_91 (by decide +kernel) (by decide +kernel))) ?_
  refine Eq.trans (Eq.trans (r_go (act := oS (fAld 13 0)) rfl rfl) (a_ald rfl)) ?_
  refine Eq.trans (Eq.trans (r_go (act := oS (fGr g 16 12 39)) rfl rfl) (a_gr (zO_72 g) (zR_72_39 g))) ?_
  refine Eq.trans (Eq.trans (r_go (act := oS (fSt 17 (gC (.int 1)))) rfl rfl) (a_C)) ?_
  refine Eq.trans (Eq.trans (r_go (act := oS (fAld 18 0)) rfl rfl) (a_ald rfl)) ?_
  refine Eq.trans (Eq.trans (r_go (act := oS (fGr g 21 12 10)) rfl rfl) (a_gr (zO_72 g) (zR_72_10 g))) ?_
  refine Eq.trans (Eq.trans (r_go (act := oS (fIld 22 1)) rfl rfl) (a_ild rfl)) ?_
  refine Eq.trans (Eq.trans (r_go (act := oS (fIa g 23)) rfl rfl) (a_iaV (zA_77 g) zS_77 rfl)) (bcg ?_ rfl)
  refine Eq.trans (Eq.trans (r_go (act := oS (fIs g 24)) rfl rfl) (a_isK (j := 1) (zA_91 g) zS_91 (by decide +kernel) (by decide +kernel))) ?_
  refine Eq.trans (Eq.trans (r_go (act := oS (fAld 25 0)) rfl rfl) (a_ald rfl)) ?_
  refine Eq.trans (Eq.trans (r_go (act := oS (fGr g 28 12 39)) rfl rfl) (a_gr (zO_72 g) (zR_72_39 g))) ?_
  refine Eq.trans (Eq.trans (r_go (act := oS (fSt 29 (gC (.int 2)))) rfl rfl) (a_C)) ?_
  refine Eq.trans (Eq.trans (r_go (act := oS (fAld 30 0)) rfl rfl) (a_ald rfl)) ?_
  refine Eq.trans (Eq.trans (r_go (act := oS (fGr g 33 12 1)) rfl rfl) (a_gr (zO_72 g) (zR_72_1 g))) ?_
  refine Eq.trans (Eq.trans (r_go (act := oS (fSt 35 (gC (.int 8)))) rfl rfl) (a_C)) ?_
  refine Eq.trans (Eq.trans (r_go (act := oS (fIld 36 1)) rfl rfl) (a_ild rfl)) ?_
  refine Eq.trans (Eq.trans (r_go (act := oS (fSt 37 (g2 (fun x y => x + y)))) rfl rfl) (a_add)) ?_
  refine Eq.trans (Eq.trans (r_go (act := oS (fIa g 38)) rfl rfl) (a_iaV (zA_73 g) zS_73 rfl)) (bcg ?_ rfl)
  refine Eq.trans (Eq.trans (r_go (act := oS (fIs g 39)) rfl rfl) (a_isK (j := 2) (zA_91 g) zS_91 (by decide +kernel) (by decide +kernel))) ?_
  refine Eq.trans (Eq.trans (r_go (act := oS (fAld 40 0)) rfl rfl) (a_ald rfl)) ?_
  refine Eq.trans (Eq.trans (r_go (act := oS (fGr g 43 12 39)) rfl rfl) (a_gr (zO_72 g) (zR_72_39 g))) ?_
  refine Eq.trans (Eq.trans (r_go (act := oS (fSt 44 (gC (.int 3)))) rfl rfl) (a_C)) ?_
  refine Eq.trans (Eq.trans (r_go (act := oS (fAld 45 0)) rfl rfl) (a_ald rfl)) ?_
  refine Eq.trans (Eq.trans (r_go (act := oCI 48 1 (zcv g 12) (X_X12_glass g)) rfl rfl) (a_cI rfl (zck (zO_72 g) rfl))) (zbI_cg (fun x1 M1 => ?_))
  refine Eq.trans (Eq.trans (r_go (act := oS (fIs g 49)) rfl rfl) (a_isK (j := 3) (zA_91 g) zS_91 (by decide +kernel) (by decide +kernel))) ?_
  refine Eq.trans (Eq.trans (r_go (act := oS (fAld 50 0)) rfl rfl) (a_ald rfl)) ?_
  refine Eq.trans (Eq.trans (r_go (act := oS (fGr g 53 12 39)) rfl rfl) (a_gr (zO_72 g) (zR_72_39 g))) ?_
  refine Eq.trans (Eq.trans (r_go (act := oS (fSt 54 (gC (.int 4)))) rfl rfl) (a_C)) ?_
  refine Eq.trans (Eq.trans (r_go (act := oS (fAld 55 0)) rfl rfl) (a_ald rfl)) ?_
  refine Eq.trans (Eq.trans (r_go (act := oS (fAld 56 0)) rfl rfl) (a_ald rfl)) ?_
  refine Eq.trans (Eq.trans (r_go (act := oCI 59 1 (zcv g 12) (X_X12_glass g)) rfl rfl) (a_cI rfl (zck (zO_72 g) rfl))) (zbI_cg (fun x2 M2 => ?_))
  refine Eq.trans (Eq.trans (r_go (act := oCI 62 2 (zcv g 12) (X_X12_kindOf g)) rfl rfl) (a_cI rfl (zck (zO_72 g) rfl))) (zbI_cg (fun x3 M3 => ?_))
  refine Eq.trans (Eq.trans (r_go (act := oS (fIs g 63)) rfl rfl) (a_isK (j := 4) (zA_91 g) zS_91 (by decide +kernel) (by decide +kernel))) ?_
  refine Eq.trans (Eq.trans (r_go (act := oS (fAld 64 0)) rfl rfl) (a_ald rfl)) ?_
  refine Eq.trans (Eq.trans (r_go (act := oS (fGr g 67 12 39)) rfl rfl) (a_gr (zO_72 g) (zR_72_39 g))) ?_
  refine Eq.trans (Eq.trans (r_go (act := oS (fSt 68 (gC (.int 5)))) rfl rfl) (a_C)) ?_
  refine Eq.trans (Eq.trans (r_go (act := oS (fAld 69 0)) rfl rfl) (a_ald rfl)) ?_
  refine Eq.trans (Eq.trans (r_go (act := oS (fGr g 72 12 1)) rfl rfl) (a_gr (zO_72 g) (zR_72_1 g))) ?_
  refine Eq.trans (Eq.trans (r_go (act := oS (fSt 74 (gC (.int 28)))) rfl rfl) (a_C)) ?_
  refine Eq.trans (Eq.trans (r_go (act := oS (fIld 75 1)) rfl rfl) (a_ild rfl)) ?_
  refine Eq.trans (Eq.trans (r_go (act := oS (fSt 76 (g2 (fun x y => x + y)))) rfl rfl) (a_add)) ?_
  refine Eq.trans (Eq.trans (r_go (act := oS (fIa g 77)) rfl rfl) (a_iaV (zA_73 g) zS_73 rfl)) (bcg ?_ rfl)
  refine Eq.trans (Eq.trans (r_go (act := oS (fIs g 78)) rfl rfl) (a_isK (j := 5) (zA_91 g) zS_91 (by decide +kernel) (by decide +kernel))) ?_
  refine Eq.trans (Eq.trans (r_go (act := oS (fAld 79 0)) rfl rfl) (a_ald rfl)) ?_
  refine Eq.trans (Eq.trans (r_go (act := oS (fGr g 82 12 39)) rfl rfl) (a_gr (zO_72 g) (zR_72_39 g))) ?_
  refine Eq.trans (Eq.trans (r_go (act := oS (fSt 84 (gC (.int 6)))) rfl rfl) (a_C)) ?_
  refine Eq.trans (Eq.trans (r_go (act := oS (fAld 85 0)) rfl rfl) (a_ald rfl)) ?_
  refine Eq.trans (Eq.trans (r_go (act := oS (fGr g 88 12 1)) rfl rfl) (a_gr (zO_72 g) (zR_72_1 g))) ?_
  refine Eq.trans (Eq.trans (r_go (act := oS (fSt 89 (gC (.int 0)))) rfl rfl) (a_C)) ?_
  refine Eq.trans (Eq.trans (r_go (act := oS (fIa g 90)) rfl rfl) (a_iaKV (j := 0) (zA_73 g) zS_73 (by decide +kernel) (by decide +kernel) rfl)) ?_
  refine Eq.trans (Eq.trans (r_go (act := oS (fIs g 91)) rfl rfl) (a_isK (j := 6) (zA_91 g) zS_91 (by decide +kernel) (by decide +kernel))) ?_
  refine Eq.trans (Eq.trans (r_go (act := oS (fAld 92 0)) rfl rfl) (a_ald rfl)) ?_
  refine Eq.trans (Eq.trans (r_go (act := oS (fGr g 95 12 39)) rfl rfl) (a_gr (zO_72 g) (zR_72_39 g))) ?_
  refine Eq.trans (Eq.trans (r_go (act := oS (fSt 97 (gC (.int 7)))) rfl rfl) (a_C)) ?_
  refine Eq.trans (Eq.trans (r_go (act := oS (fAld 98 0)) rfl rfl) (a_ald rfl)) ?_
  refine Eq.trans (Eq.trans (r_go (act := oCI 101 1 (zcv g 12) (X_X12_minister g)) rfl rfl) (a_cI rfl (zck (zO_72 g) rfl))) (zbI_cg (fun x4 M4 => ?_))
  refine Eq.trans (Eq.trans (r_go (act := oS (fIld 102 1)) rfl rfl) (a_ild rfl)) ?_
  refine Eq.trans (Eq.trans (r_go (act := oS (fCm 105 109 cEq)) rfl rfl) (a_cm)) (bcg ?_ ?_)
  · refine Eq.trans (Eq.trans (r_go (act := oS (fSt 106 (gC (.int 1)))) rfl rfl) (a_C)) ?_
    refine Eq.trans (Eq.trans (r_go (act := oS (fGo 110)) rfl rfl) (a_goto)) ?_
    refine Eq.trans (Eq.trans (r_go (act := oS (fIs g 111)) rfl rfl) (a_isK (j := 7) (zA_91 g) zS_91 (by decide +kernel) (by decide +kernel))) ?_
    refine Eq.trans (Eq.trans (r_go (act := oS (fAld 112 0)) rfl rfl) (a_ald rfl)) ?_
    refine Eq.trans (Eq.trans (r_go (act := oS (fGr g 115 12 39)) rfl rfl) (a_gr (zO_72 g) (zR_72_39 g))) ?_
    refine Eq.trans (Eq.trans (r_go (act := oS (fSt 117 (gC (.int 8)))) rfl rfl) (a_C)) ?_
    refine Eq.trans (Eq.trans (r_go (act := oS (fIld 118 2)) rfl rfl) (a_ild rfl)) ?_
    refine Eq.trans (Eq.trans (r_go (act := oS (fIs g 119)) rfl rfl) (a_isK (j := 8) (zA_91 g) zS_91 (by decide +kernel) (by decide +kernel))) ?_
    exact Eq.trans (r_go (act := oVret) rfl rfl) (a_vret)
  · refine Eq.trans (Eq.trans (r_go (act := oS (fSt 110 (gC (.int 0)))) rfl rfl) (a_C)) ?_
    refine Eq.trans (Eq.trans (r_go (act := oS (fIs g 111)) rfl rfl) (a_isK (j := 7) (zA_91 g) zS_91 (by decide +kernel) (by decide +kernel))) ?_
    refine Eq.trans (Eq.trans (r_go (act := oS (fAld 112 0)) rfl rfl) (a_ald rfl)) ?_
    refine Eq.trans (Eq.trans (r_go (act := oS (fGr g 115 12 39)) rfl rfl) (a_gr (zO_72 g) (zR_72_39 g))) ?_
    refine Eq.trans (Eq.trans (r_go (act := oS (fSt 117 (gC (.int 8)))) rfl rfl) (a_C)) ?_
    refine Eq.trans (Eq.trans (r_go (act := oS (fIld 118 2)) rfl rfl) (a_ild rfl)) ?_
    refine Eq.trans (Eq.trans (r_go (act := oS (fIs g 119)) rfl rfl) (a_isK (j := 8) (zA_91 g) zS_91 (by decide +kernel) (by decide +kernel))) ?_
    exact Eq.trans (r_go (act := oVret) rfl rfl) (a_vret)
theorem x_X12_asks_0 (g : zg) (a1 : Int32) (a2 : Int32) (M : zM) : X_X12_asks g [.ref 72, .int a1, .int a2] M = (bif zb a1 10 then (bif zb a1 10 then (bif zb (8 + a1) 148 then (zbI (X_X12_glass g [.ref 72] ((zu (zu (zu M.1 91 0 (M.1 76 (zx a1))) 91 1 (M.1 77 (zx a1))) 91 2 (M.1 73 (zx (8 + a1)))), M.2)) (fun x1 M1 => (zbI (X_X12_glass g [.ref 72] ((zu M1.1 91 3 x1), M1.2)) (fun x2 M2 => (zbI (X_X12_kindOf g [.ref 72, .int x2] M2) (fun x3 M3 => (bif zb (28 + a1) 148 then (zbI (X_X12_minister g [.ref 72] ((zu (zu (zu M3.1 91 4 x3) 91 5 (M3.1 73 (zx (28 + a1)))) 91 6 (M3.1 73 0)), M3.2)) (fun x4 M4 => (bif cEq x4 a1 then some (none, ((zu (zu M4.1 91 7 1) 91 8 a2), M4.2)) else some (none, ((zu (zu M4.1 91 7 0) 91 8 a2), M4.2))))) else none))))))) else none) else none) else none) := e_X12_asks_0 g a1 a2 M
set_option maxRecDepth 20000 in
theorem e_X12_twoOf_0 (g : zg) (a1 : Int32) (a2 : Int32) (a3 : Int32) (M : zM) : zX (t_X12_twoOf g) 0 [some (.ref 72), some (.int a1), some (.int a2), some (.int a3)] [] M = (bif cEq a1 2 then some (some (.int (a2 + a3)), M) else (bif cEq a1 3 then some (some (.int (a2 - a3)), M) else (bif cEq a1 4 then some (some (.int (a2 * a3)), M) else (bif cEq a1 5 then (bif !decide (a3 = 0) then some (some (.int (a2 / a3)), M) else none) else (bif cEq a1 6 then (bif cLt a2 a3 then some (some (.int 1), M) else some (some (.int 0), M)) else (bif cEq a1 7 then (bif cEq a2 a3 then some (some (.int 1), M) else some (some (.int 0), M)) else (bif cEq a1 8 then (bif cGt a2 a3 then some (some (.int 1), M) else some (some (.int 0), M)) else (bif cEq a1 10 then some (some (.int (a2 * a3)), M) else (bif cGt0 (a2 + a3) then some (some (.int 1), M) else some (some (.int 0), M)))))))))) := by
  refine Eq.trans (zX_rgN (tl_X12_twoOf g) (hc_X12_twoOf g) 32 _ _ _ _) ?_
  refine Eq.trans (Eq.trans (r_0 (act := oS (fIld 1 1)) rfl) (a_ild rfl)) ?_
  refine Eq.trans (Eq.trans (r_go (act := oS (fSt 2 (gC (.int 2)))) rfl rfl) (a_C)) ?_
  refine Eq.trans (Eq.trans (r_go (act := oS (fCm 5 9 cEq)) rfl rfl) (a_cm)) (bcg ?_ ?_)
  · refine Eq.trans (Eq.trans (r_go (act := oS (fIld 6 2)) rfl rfl) (a_ild rfl)) ?_
    refine Eq.trans (Eq.trans (r_go (act := oS (fIld 7 3)) rfl rfl) (a_ild rfl)) ?_
    refine Eq.trans (Eq.trans (r_go (act := oS (fSt 8 (g2 (fun x y => x + y)))) rfl rfl) (a_add)) ?_
    exact Eq.trans (r_go (act := oIret) rfl rfl) (a_iret)
  · refine Eq.trans (Eq.trans (r_go (act := oS (fIld 10 1)) rfl rfl) (a_ild rfl)) ?_
    refine Eq.trans (Eq.trans (r_go (act := oS (fSt 11 (gC (.int 3)))) rfl rfl) (a_C)) ?_
    refine Eq.trans (Eq.trans (r_go (act := oS (fCm 14 18 cEq)) rfl rfl) (a_cm)) (bcg ?_ ?_)
    · refine Eq.trans (Eq.trans (r_go (act := oS (fIld 15 2)) rfl rfl) (a_ild rfl)) ?_
      refine Eq.trans (Eq.trans (r_go (act := oS (fIld 16 3)) rfl rfl) (a_ild rfl)) ?_
      refine Eq.trans (Eq.trans (r_go (act := oS (fSt 17 (g2 (fun x y => x - y)))) rfl rfl) (a_sub)) ?_
      exact Eq.trans (r_go (act := oIret) rfl rfl) (a_iret)
    · refine Eq.trans (Eq.trans (r_go (act := oS (fIld 19 1)) rfl rfl) (a_ild rfl)) ?_
      refine Eq.trans (Eq.trans (r_go (act := oS (fSt 20 (gC (.int 4)))) rfl rfl) (a_C)) ?_
      refine Eq.trans (Eq.trans (r_go (act := oS (fCm 23 27 cEq)) rfl rfl) (a_cm)) (bcg ?_ ?_)
      · refine Eq.trans (Eq.trans (r_go (act := oS (fIld 24 2)) rfl rfl) (a_ild rfl)) ?_
        refine Eq.trans (Eq.trans (r_go (act := oS (fIld 25 3)) rfl rfl) (a_ild rfl)) ?_
        refine Eq.trans (Eq.trans (r_go (act := oS (fSt 26 (g2 (fun x y => x * y)))) rfl rfl) (a_mul)) ?_
        exact Eq.trans (r_go (act := oIret) rfl rfl) (a_iret)
      · refine Eq.trans (Eq.trans (r_go (act := oS (fIld 28 1)) rfl rfl) (a_ild rfl)) ?_
        refine Eq.trans (Eq.trans (r_go (act := oS (fSt 29 (gC (.int 5)))) rfl rfl) (a_C)) ?_
        refine Eq.trans (Eq.trans (r_go (act := oS (fCm 32 36 cEq)) rfl rfl) (a_cm)) (bcg ?_ ?_)
        · refine Eq.trans (Eq.trans (r_go (act := oS (fIld 33 2)) rfl rfl) (a_ild rfl)) ?_
          refine Eq.trans (Eq.trans (r_go (act := oS (fIld 34 3)) rfl rfl) (a_ild rfl)) ?_
          refine Eq.trans (Eq.trans (r_go (act := oS (fDiv 35)) rfl rfl) (a_div)) (bcg ?_ rfl)
          exact Eq.trans (r_go (act := oIret) rfl rfl) (a_iret)
        · refine Eq.trans (Eq.trans (r_go (act := oS (fIld 37 1)) rfl rfl) (a_ild rfl)) ?_
          refine Eq.trans (Eq.trans (r_go (act := oS (fSt 39 (gC (.int 6)))) rfl rfl) (a_C)) ?_
          refine Eq.trans (Eq.trans (r_go (act := oS (fCm 42 53 cEq)) rfl rfl) (a_cm)) (bcg ?_ ?_)
          · refine Eq.trans (Eq.trans (r_go (act := oS (fIld 43 2)) rfl rfl) (a_ild rfl)) ?_
            refine Eq.trans (Eq.trans (r_go (act := oS (fIld 44 3)) rfl rfl) (a_ild rfl)) ?_
            refine Eq.trans (Eq.trans (r_go (act := oS (fCm 47 51 cLt)) rfl rfl) (a_cm)) (bcg ?_ ?_)
            · refine Eq.trans (Eq.trans (r_go (act := oS (fSt 48 (gC (.int 1)))) rfl rfl) (a_C)) ?_
              refine Eq.trans (Eq.trans (r_go (act := oS (fGo 52)) rfl rfl) (a_goto)) ?_
              exact Eq.trans (r_go (act := oIret) rfl rfl) (a_iret)
            · refine Eq.trans (Eq.trans (r_go (act := oS (fSt 52 (gC (.int 0)))) rfl rfl) (a_C)) ?_
              exact Eq.trans (r_go (act := oIret) rfl rfl) (a_iret)
          · refine Eq.trans (Eq.trans (r_go (act := oS (fIld 54 1)) rfl rfl) (a_ild rfl)) ?_
            refine Eq.trans (Eq.trans (r_go (act := oS (fSt 56 (gC (.int 7)))) rfl rfl) (a_C)) ?_
            refine Eq.trans (Eq.trans (r_go (act := oS (fCm 59 70 cEq)) rfl rfl) (a_cm)) (bcg ?_ ?_)
            · refine Eq.trans (Eq.trans (r_go (act := oS (fIld 60 2)) rfl rfl) (a_ild rfl)) ?_
              refine Eq.trans (Eq.trans (r_go (act := oS (fIld 61 3)) rfl rfl) (a_ild rfl)) ?_
              refine Eq.trans (Eq.trans (r_go (act := oS (fCm 64 68 cEq)) rfl rfl) (a_cm)) (bcg ?_ ?_)
              · refine Eq.trans (Eq.trans (r_go (act := oS (fSt 65 (gC (.int 1)))) rfl rfl) (a_C)) ?_
                refine Eq.trans (Eq.trans (r_go (act := oS (fGo 69)) rfl rfl) (a_goto)) ?_
                exact Eq.trans (r_go (act := oIret) rfl rfl) (a_iret)
              · refine Eq.trans (Eq.trans (r_go (act := oS (fSt 69 (gC (.int 0)))) rfl rfl) (a_C)) ?_
                exact Eq.trans (r_go (act := oIret) rfl rfl) (a_iret)
            · refine Eq.trans (Eq.trans (r_go (act := oS (fIld 71 1)) rfl rfl) (a_ild rfl)) ?_
              refine Eq.trans (Eq.trans (r_go (act := oS (fSt 73 (gC (.int 8)))) rfl rfl) (a_C)) ?_
              refine Eq.trans (Eq.trans (r_go (act := oS (fCm 76 87 cEq)) rfl rfl) (a_cm)) (bcg ?_ ?_)
              · refine Eq.trans (Eq.trans (r_go (act := oS (fIld 77 2)) rfl rfl) (a_ild rfl)) ?_
                refine Eq.trans (Eq.trans (r_go (act := oS (fIld 78 3)) rfl rfl) (a_ild rfl)) ?_
                refine Eq.trans (Eq.trans (r_go (act := oS (fCm 81 85 cGt)) rfl rfl) (a_cm)) (bcg ?_ ?_)
                · refine Eq.trans (Eq.trans (r_go (act := oS (fSt 82 (gC (.int 1)))) rfl rfl) (a_C)) ?_
                  refine Eq.trans (Eq.trans (r_go (act := oS (fGo 86)) rfl rfl) (a_goto)) ?_
                  exact Eq.trans (r_go (act := oIret) rfl rfl) (a_iret)
                · refine Eq.trans (Eq.trans (r_go (act := oS (fSt 86 (gC (.int 0)))) rfl rfl) (a_C)) ?_
                  exact Eq.trans (r_go (act := oIret) rfl rfl) (a_iret)
              · refine Eq.trans (Eq.trans (r_go (act := oS (fIld 88 1)) rfl rfl) (a_ild rfl)) ?_
                refine Eq.trans (Eq.trans (r_go (act := oS (fSt 90 (gC (.int 10)))) rfl rfl) (a_C)) ?_
                refine Eq.trans (Eq.trans (r_go (act := oS (fCm 93 99 cEq)) rfl rfl) (a_cm)) (bcg ?_ ?_)
                · refine Eq.trans (Eq.trans (r_go (act := oS (fIld 94 2)) rfl rfl) (a_ild rfl)) ?_
                  refine Eq.trans (Eq.trans (r_go (act := oS (fIld 95 3)) rfl rfl) (a_ild rfl)) ?_
                  refine Eq.trans (Eq.trans (r_go (act := oS (fSt 96 (g2 (fun x y => x * y)))) rfl rfl) (a_mul)) ?_
                  refine Eq.trans (Eq.trans (r_go (act := oS (fGo 110)) rfl rfl) (a_goto)) ?_
                  exact Eq.trans (r_go (act := oIret) rfl rfl) (a_iret)
                · refine Eq.trans (Eq.trans (r_go (act := oS (fIld 100 2)) rfl rfl) (a_ild rfl)) ?_
                  refine Eq.trans (Eq.trans (r_go (act := oS (fIld 101 3)) rfl rfl) (a_ild rfl)) ?_
                  refine Eq.trans (Eq.trans (r_go (act := oS (fSt 102 (g2 (fun x y => x + y)))) rfl rfl) (a_add)) ?_
                  refine Eq.trans (Eq.trans (r_go (act := oS (fIf 105 109 cGt0)) rfl rfl) (a_if)) (bcg ?_ ?_)
                  · refine Eq.trans (Eq.trans (r_go (act := oS (fSt 106 (gC (.int 1)))) rfl rfl) (a_C)) ?_
                    refine Eq.trans (Eq.trans (r_go (act := oS (fGo 110)) rfl rfl) (a_goto)) ?_
                    exact Eq.trans (r_go (act := oIret) rfl rfl) (a_iret)
                  · refine Eq.trans (Eq.trans (r_go (act := oS (fSt 110 (gC (.int 0)))) rfl rfl) (a_C)) ?_
                    exact Eq.trans (r_go (act := oIret) rfl rfl) (a_iret)
theorem x_X12_twoOf_0 (g : zg) (a1 : Int32) (a2 : Int32) (a3 : Int32) (M : zM) : X_X12_twoOf g [.ref 72, .int a1, .int a2, .int a3] M = (bif cEq a1 2 then some (some (.int (a2 + a3)), M) else (bif cEq a1 3 then some (some (.int (a2 - a3)), M) else (bif cEq a1 4 then some (some (.int (a2 * a3)), M) else (bif cEq a1 5 then (bif !decide (a3 = 0) then some (some (.int (a2 / a3)), M) else none) else (bif cEq a1 6 then (bif cLt a2 a3 then some (some (.int 1), M) else some (some (.int 0), M)) else (bif cEq a1 7 then (bif cEq a2 a3 then some (some (.int 1), M) else some (some (.int 0), M)) else (bif cEq a1 8 then (bif cGt a2 a3 then some (some (.int 1), M) else some (some (.int 0), M)) else (bif cEq a1 10 then some (some (.int (a2 * a3)), M) else (bif cGt0 (a2 + a3) then some (some (.int 1), M) else some (some (.int 0), M)))))))))) := e_X12_twoOf_0 g a1 a2 a3 M
set_option maxRecDepth 20000 in
theorem e_X12_runs_0 (g : zg) (a1 : Int32) (a2 : Int32) (a3 : Int32) (M : zM) : zX (t_X12_runs g) 0 [some (.ref 72), some (.int a1), some (.int a2), some (.int a3), none, none] [] M = zX (t_X12_runs g) 12 [some (.ref 72), some (.int a1), none, some (.int a3), some (.int 0), some (.int ((400 * a1) + a2))] [] M := by
  refine Eq.trans (zX_rgN (tl_X12_runs g) (hc_X12_runs g) 10 _ _ _ _) ?_
  refine Eq.trans (Eq.trans (r_0 (act := oS (fSt 1 (gC (.int 0)))) rfl) (a_C)) ?_
  refine Eq.trans (Eq.trans (r_go (act := oS (fIst 3 4)) rfl rfl) (a_ist rfl rfl)) ?_
  refine Eq.trans (Eq.trans (r_go (act := oS (fSt 6 (gC (.int 400)))) rfl rfl) (a_C)) ?_
  refine Eq.trans (Eq.trans (r_go (act := oS (fIld 7 1)) rfl rfl) (a_ild rfl)) ?_
  refine Eq.trans (Eq.trans (r_go (act := oS (fSt 8 (g2 (fun x y => x * y)))) rfl rfl) (a_mul)) ?_
  refine Eq.trans (Eq.trans (r_go (act := oS (fIld 9 2)) rfl rfl) (a_ild rfl)) ?_
  refine Eq.trans (Eq.trans (r_go (act := oS (fSt 10 (g2 (fun x y => x + y)))) rfl rfl) (a_add)) ?_
  refine Eq.trans (Eq.trans (r_go (act := oS (fIst 12 5)) rfl rfl) (a_ist rfl rfl)) ?_
  exact r_cut rfl rfl
theorem x_X12_runs_0 (g : zg) (a1 : Int32) (a2 : Int32) (a3 : Int32) (M : zM) : X_X12_runs g [.ref 72, .int a1, .int a2, .int a3] M = zX (t_X12_runs g) 12 [some (.ref 72), some (.int a1), none, some (.int a3), some (.int 0), some (.int ((400 * a1) + a2))] [] M := e_X12_runs_0 g a1 a2 a3 M
set_option maxRecDepth 20000 in
theorem e_X12_runs_12 (g : zg) (a1 : Int32) (a3 : Int32) (a4 : Int32) (a5 : Int32) (M : zM) : zX (t_X12_runs g) 12 [some (.ref 72), some (.int a1), none, some (.int a3), some (.int a4), some (.int a5)] [] M = (bif cLt a5 ((400 * a1) + a3) then (bif zb a5 1200 then (bif cEq0 (M.1 86 (zx a5)) then zX (t_X12_runs g) 45 [some (.ref 72), some (.int a1), none, some (.int a3), some (.int a4), some (.int a5)] [] M else (bif zb a5 1200 then (bif cEq (M.1 86 (zx a5)) 1 then zX (t_X12_runs g) 45 [some (.ref 72), some (.int a1), none, some (.int a3), some (.int a4), some (.int a5)] [] M else (bif zb a5 1200 then (bif cEq (M.1 86 (zx a5)) 9 then (bif zb (a4 - 1) 420 then (bif zb (a4 - 1) 420 then zX (t_X12_runs g) 12 [some (.ref 72), some (.int a1), none, some (.int a3), some (.int a4), some (.int (a5 + 1))] [] ((zu M.1 92 (zx (a4 - 1)) (1 - (M.1 92 (zx (a4 - 1))))), M.2) else none) else none) else (bif zb a5 1200 then (bif zb ((a4 - 1) - 1) 420 then (bif zb (a4 - 1) 420 then (zbI (X_X12_twoOf g [.ref 72, .int (M.1 86 (zx a5)), .int (M.1 92 (zx ((a4 - 1) - 1))), .int (M.1 92 (zx (a4 - 1)))] M) (fun x1 M1 => (bif zb ((a4 - 1) - 1) 420 then zX (t_X12_runs g) 12 [some (.ref 72), some (.int a1), none, some (.int a3), some (.int (a4 - 1)), some (.int (a5 + 1))] [] ((zu M1.1 92 (zx ((a4 - 1) - 1)) x1), M1.2) else none))) else none) else none) else none)) else none)) else none)) else none) else some (some (.int (M.1 92 0)), M)) := by
  refine Eq.trans (zX_rgN (tl_X12_runs g) (hc_X12_runs g) 54 _ _ _ _) ?_
  refine Eq.trans (Eq.trans (Eq.trans (r_0 (act := oF [2] (oS (fIld 14 5))) rfl) (a_F rfl)) (a_ild rfl)) ?_
  refine Eq.trans (Eq.trans (r_go (act := oS (fSt 17 (gC (.int 400)))) rfl rfl) (a_C)) ?_
  refine Eq.trans (Eq.trans (r_go (act := oS (fIld 18 1)) rfl rfl) (a_ild rfl)) ?_
  refine Eq.trans (Eq.trans (r_go (act := oS (fSt 19 (g2 (fun x y => x * y)))) rfl rfl) (a_mul)) ?_
  refine Eq.trans (Eq.trans (r_go (act := oS (fIld 20 3)) rfl rfl) (a_ild rfl)) ?_
  refine Eq.trans (Eq.trans (r_go (act := oS (fSt 21 (g2 (fun x y => x + y)))) rfl rfl) (a_add)) ?_
  refine Eq.trans (Eq.trans (r_go (act := oS (fCm 24 176 cLt)) rfl rfl) (a_cm)) (bcg ?_ ?_)
  · refine Eq.trans (Eq.trans (r_go (act := oS (fAld 25 0)) rfl rfl) (a_ald rfl)) ?_
    refine Eq.trans (Eq.trans (r_go (act := oS (fGr g 28 12 24)) rfl rfl) (a_gr (zO_72 g) (zR_72_24 g))) ?_
    refine Eq.trans (Eq.trans (r_go (act := oS (fIld 30 5)) rfl rfl) (a_ild rfl)) ?_
    refine Eq.trans (Eq.trans (r_go (act := oS (fIa g 31)) rfl rfl) (a_ia (zA_86 g) zS_86)) (bcg ?_ rfl)
    refine Eq.trans (Eq.trans (r_go (act := oS (fIf 45 34 cEq0)) rfl rfl) (a_if)) (bcg ?_ ?_)
    · exact r_cut rfl rfl
    · refine Eq.trans (Eq.trans (r_go (act := oS (fAld 35 0)) rfl rfl) (a_ald rfl)) ?_
      refine Eq.trans (Eq.trans (r_go (act := oS (fGr g 38 12 24)) rfl rfl) (a_gr (zO_72 g) (zR_72_24 g))) ?_
      refine Eq.trans (Eq.trans (r_go (act := oS (fIld 40 5)) rfl rfl) (a_ild rfl)) ?_
      refine Eq.trans (Eq.trans (r_go (act := oS (fIa g 41)) rfl rfl) (a_ia (zA_86 g) zS_86)) (bcg ?_ rfl)
      refine Eq.trans (Eq.trans (r_go (act := oS (fSt 42 (gC (.int 1)))) rfl rfl) (a_C)) ?_
      refine Eq.trans (Eq.trans (r_go (act := oS (fCm 45 93 cEq)) rfl rfl) (a_cm)) (bcg ?_ ?_)
      · exact r_cut rfl rfl
      · refine Eq.trans (Eq.trans (r_go (act := oS (fAld 94 0)) rfl rfl) (a_ald rfl)) ?_
        refine Eq.trans (Eq.trans (r_go (act := oS (fGr g 97 12 24)) rfl rfl) (a_gr (zO_72 g) (zR_72_24 g))) ?_
        refine Eq.trans (Eq.trans (r_go (act := oS (fIld 99 5)) rfl rfl) (a_ild rfl)) ?_
        refine Eq.trans (Eq.trans (r_go (act := oS (fIa g 100)) rfl rfl) (a_ia (zA_86 g) zS_86)) (bcg ?_ rfl)
        refine Eq.trans (Eq.trans (r_go (act := oS (fSt 102 (gC (.int 9)))) rfl rfl) (a_C)) ?_
        refine Eq.trans (Eq.trans (r_go (act := oS (fCm 105 128 cEq)) rfl rfl) (a_cm)) (bcg ?_ ?_)
        · refine Eq.trans (Eq.trans (r_go (act := oS (fAld 106 0)) rfl rfl) (a_ald rfl)) ?_
          refine Eq.trans (Eq.trans (r_go (act := oS (fGr g 109 12 40)) rfl rfl) (a_gr (zO_72 g) (zR_72_40 g))) ?_
          refine Eq.trans (Eq.trans (r_go (act := oS (fIld 111 4)) rfl rfl) (a_ild rfl)) ?_
          refine Eq.trans (Eq.trans (r_go (act := oS (fSt 112 (gC (.int 1)))) rfl rfl) (a_C)) ?_
          refine Eq.trans (Eq.trans (r_go (act := oS (fSt 113 (g2 (fun x y => x - y)))) rfl rfl) (a_sub)) ?_
          refine Eq.trans (Eq.trans (r_go (act := oS (fSt 114 (gC (.int 1)))) rfl rfl) (a_C)) ?_
          refine Eq.trans (Eq.trans (r_go (act := oS (fAld 115 0)) rfl rfl) (a_ald rfl)) ?_
          refine Eq.trans (Eq.trans (r_go (act := oS (fGr g 118 12 40)) rfl rfl) (a_gr (zO_72 g) (zR_72_40 g))) ?_
          refine Eq.trans (Eq.trans (r_go (act := oS (fIld 120 4)) rfl rfl) (a_ild rfl)) ?_
          refine Eq.trans (Eq.trans (r_go (act := oS (fSt 121 (gC (.int 1)))) rfl rfl) (a_C)) ?_
          refine Eq.trans (Eq.trans (r_go (act := oS (fSt 122 (g2 (fun x y => x - y)))) rfl rfl) (a_sub)) ?_
          refine Eq.trans (Eq.trans (r_go (act := oS (fIa g 123)) rfl rfl) (a_ia (zA_92 g) zS_92)) (bcg ?_ rfl)
          refine Eq.trans (Eq.trans (r_go (act := oS (fSt 124 (g2 (fun x y => x - y)))) rfl rfl) (a_sub)) ?_
          refine Eq.trans (Eq.trans (r_go (act := oS (fIs g 125)) rfl rfl) (a_is (zA_92 g) zS_92)) (bcg ?_ rfl)
          refine Eq.trans (Eq.trans (r_go (act := oS (fGo 170)) rfl rfl) (a_goto)) ?_
          refine Eq.trans (Eq.trans (r_go (act := oS (fInc 173 5 1)) rfl rfl) (a_inc rfl rfl rfl)) ?_
          refine Eq.trans (Eq.trans (r_go (act := oS (fGo 12)) rfl rfl) (a_goto)) ?_
          exact r_cut rfl rfl
        · refine Eq.trans (Eq.trans (r_go (act := oS (fIld 130 4)) rfl rfl) (a_ild rfl)) ?_
          refine Eq.trans (Eq.trans (r_go (act := oS (fSt 131 (gC (.int 1)))) rfl rfl) (a_C)) ?_
          refine Eq.trans (Eq.trans (r_go (act := oS (fSt 132 (g2 (fun x y => x - y)))) rfl rfl) (a_sub)) ?_
          refine Eq.trans (Eq.trans (r_go (act := oS (fIst 134 4)) rfl rfl) (a_ist rfl rfl)) ?_
          refine Eq.trans (Eq.trans (r_go (act := oS (fAld 135 0)) rfl rfl) (a_ald rfl)) ?_
          refine Eq.trans (Eq.trans (r_go (act := oS (fGr g 138 12 40)) rfl rfl) (a_gr (zO_72 g) (zR_72_40 g))) ?_
          refine Eq.trans (Eq.trans (r_go (act := oS (fIld 140 4)) rfl rfl) (a_ild rfl)) ?_
          refine Eq.trans (Eq.trans (r_go (act := oS (fSt 141 (gC (.int 1)))) rfl rfl) (a_C)) ?_
          refine Eq.trans (Eq.trans (r_go (act := oS (fSt 142 (g2 (fun x y => x - y)))) rfl rfl) (a_sub)) ?_
          refine Eq.trans (Eq.trans (r_go (act := oS (fAld 143 0)) rfl rfl) (a_ald rfl)) ?_
          refine Eq.trans (Eq.trans (r_go (act := oS (fAld 144 0)) rfl rfl) (a_ald rfl)) ?_
          refine Eq.trans (Eq.trans (r_go (act := oS (fGr g 147 12 24)) rfl rfl) (a_gr (zO_72 g) (zR_72_24 g))) ?_
          refine Eq.trans (Eq.trans (r_go (act := oS (fIld 149 5)) rfl rfl) (a_ild rfl)) ?_
          refine Eq.trans (Eq.trans (r_go (act := oS (fIa g 150)) rfl rfl) (a_ia (zA_86 g) zS_86)) (bcg ?_ rfl)
          refine Eq.trans (Eq.trans (r_go (act := oS (fAld 151 0)) rfl rfl) (a_ald rfl)) ?_
          refine Eq.trans (Eq.trans (r_go (act := oS (fGr g 154 12 40)) rfl rfl) (a_gr (zO_72 g) (zR_72_40 g))) ?_
          refine Eq.trans (Eq.trans (r_go (act := oS (fIld 156 4)) rfl rfl) (a_ild rfl)) ?_
          refine Eq.trans (Eq.trans (r_go (act := oS (fSt 157 (gC (.int 1)))) rfl rfl) (a_C)) ?_
          refine Eq.trans (Eq.trans (r_go (act := oS (fSt 158 (g2 (fun x y => x - y)))) rfl rfl) (a_sub)) ?_
          refine Eq.trans (Eq.trans (r_go (act := oS (fIa g 159)) rfl rfl) (a_ia (zA_92 g) zS_92)) (bcg ?_ rfl)
          refine Eq.trans (Eq.trans (r_go (act := oS (fAld 160 0)) rfl rfl) (a_ald rfl)) ?_
          refine Eq.trans (Eq.trans (r_go (act := oS (fGr g 163 12 40)) rfl rfl) (a_gr (zO_72 g) (zR_72_40 g))) ?_
          refine Eq.trans (Eq.trans (r_go (act := oS (fIld 165 4)) rfl rfl) (a_ild rfl)) ?_
          refine Eq.trans (Eq.trans (r_go (act := oS (fIa g 166)) rfl rfl) (a_ia (zA_92 g) zS_92)) (bcg ?_ rfl)
          refine Eq.trans (Eq.trans (r_go (act := oCI 169 4 (zcv g 12) (X_X12_twoOf g)) rfl rfl) (a_cI rfl (zck (zO_72 g) rfl))) (zbI_cg (fun x1 M1 => ?_))
          refine Eq.trans (Eq.trans (r_go (act := oS (fIs g 170)) rfl rfl) (a_is (zA_92 g) zS_92)) (bcg ?_ rfl)
          refine Eq.trans (Eq.trans (r_go (act := oS (fInc 173 5 1)) rfl rfl) (a_inc rfl rfl rfl)) ?_
          refine Eq.trans (Eq.trans (r_go (act := oS (fGo 12)) rfl rfl) (a_goto)) ?_
          exact r_cut rfl rfl
  · refine Eq.trans (Eq.trans (r_go (act := oS (fAld 177 0)) rfl rfl) (a_ald rfl)) ?_
    refine Eq.trans (Eq.trans (r_go (act := oS (fGr g 180 12 40)) rfl rfl) (a_gr (zO_72 g) (zR_72_40 g))) ?_
    refine Eq.trans (Eq.trans (r_go (act := oS (fSt 181 (gC (.int 0)))) rfl rfl) (a_C)) ?_
    refine Eq.trans (Eq.trans (r_go (act := oS (fIa g 182)) rfl rfl) (a_iaK (j := 0) (zA_92 g) zS_92 (by decide +kernel) (by decide +kernel))) ?_
    exact Eq.trans (r_go (act := oIret) rfl rfl) (a_iret)
set_option maxRecDepth 20000 in
theorem e_X12_runs_45 (g : zg) (a1 : Int32) (a3 : Int32) (a4 : Int32) (a5 : Int32) (M : zM) : zX (t_X12_runs g) 45 [some (.ref 72), some (.int a1), none, some (.int a3), some (.int a4), some (.int a5)] [] M = (bif zb a5 1200 then (bif cEq0 (M.1 86 (zx a5)) then (bif zb a5 1200 then (bif zb a4 420 then zX (t_X12_runs g) 12 [some (.ref 72), some (.int a1), none, some (.int a3), some (.int (a4 + 1)), some (.int (a5 + 1))] [] ((zu M.1 92 (zx a4) (M.1 87 (zx a5))), M.2) else none) else none) else (bif zb a5 1200 then (bif zb (M.1 87 (zx a5)) 9 then (bif zb a4 420 then zX (t_X12_runs g) 12 [some (.ref 72), some (.int a1), none, some (.int a3), some (.int (a4 + 1)), some (.int (a5 + 1))] [] ((zu M.1 92 (zx a4) (M.1 91 (zx (M.1 87 (zx a5))))), M.2) else none) else none) else none)) else none) := by
  refine Eq.trans (zX_rgN (tl_X12_runs g) (hc_X12_runs g) 25 _ _ _ _) ?_
  refine Eq.trans (Eq.trans (Eq.trans (r_0 (act := oF [2] (oS (fAld 46 0))) rfl) (a_F rfl)) (a_ald rfl)) ?_
  refine Eq.trans (Eq.trans (r_go (act := oS (fGr g 49 12 40)) rfl rfl) (a_gr (zO_72 g) (zR_72_40 g))) ?_
  refine Eq.trans (Eq.trans (r_go (act := oS (fIld 51 4)) rfl rfl) (a_ild rfl)) ?_
  refine Eq.trans (Eq.trans (r_go (act := oS (fAld 52 0)) rfl rfl) (a_ald rfl)) ?_
  refine Eq.trans (Eq.trans (r_go (act := oS (fGr g 55 12 24)) rfl rfl) (a_gr (zO_72 g) (zR_72_24 g))) ?_
  refine Eq.trans (Eq.trans (r_go (act := oS (fIld 57 5)) rfl rfl) (a_ild rfl)) ?_
  refine Eq.trans (Eq.trans (r_go (act := oS (fIa g 58)) rfl rfl) (a_ia (zA_86 g) zS_86)) (bcg ?_ rfl)
  refine Eq.trans (Eq.trans (r_go (act := oS (fIf 61 71 cEq0)) rfl rfl) (a_if)) (bcg ?_ ?_)
  · refine Eq.trans (Eq.trans (r_go (act := oS (fAld 62 0)) rfl rfl) (a_ald rfl)) ?_
    refine Eq.trans (Eq.trans (r_go (act := oS (fGr g 65 12 25)) rfl rfl) (a_gr (zO_72 g) (zR_72_25 g))) ?_
    refine Eq.trans (Eq.trans (r_go (act := oS (fIld 67 5)) rfl rfl) (a_ild rfl)) ?_
    refine Eq.trans (Eq.trans (r_go (act := oS (fIa g 68)) rfl rfl) (a_ia (zA_87 g) zS_87)) (bcg ?_ rfl)
    refine Eq.trans (Eq.trans (r_go (act := oS (fGo 83)) rfl rfl) (a_goto)) ?_
    refine Eq.trans (Eq.trans (r_go (act := oS (fIs g 84)) rfl rfl) (a_is (zA_92 g) zS_92)) (bcg ?_ rfl)
    refine Eq.trans (Eq.trans (r_go (act := oS (fIld 86 4)) rfl rfl) (a_ild rfl)) ?_
    refine Eq.trans (Eq.trans (r_go (act := oS (fSt 87 (gC (.int 1)))) rfl rfl) (a_C)) ?_
    refine Eq.trans (Eq.trans (r_go (act := oS (fSt 88 (g2 (fun x y => x + y)))) rfl rfl) (a_add)) ?_
    refine Eq.trans (Eq.trans (r_go (act := oS (fIst 90 4)) rfl rfl) (a_ist rfl rfl)) ?_
    refine Eq.trans (Eq.trans (r_go (act := oS (fGo 170)) rfl rfl) (a_goto)) ?_
    refine Eq.trans (Eq.trans (r_go (act := oS (fInc 173 5 1)) rfl rfl) (a_inc rfl rfl rfl)) ?_
    refine Eq.trans (Eq.trans (r_go (act := oS (fGo 12)) rfl rfl) (a_goto)) ?_
    exact r_cut rfl rfl
  · refine Eq.trans (Eq.trans (r_go (act := oS (fAld 72 0)) rfl rfl) (a_ald rfl)) ?_
    refine Eq.trans (Eq.trans (r_go (act := oS (fGr g 75 12 39)) rfl rfl) (a_gr (zO_72 g) (zR_72_39 g))) ?_
    refine Eq.trans (Eq.trans (r_go (act := oS (fAld 76 0)) rfl rfl) (a_ald rfl)) ?_
    refine Eq.trans (Eq.trans (r_go (act := oS (fGr g 79 12 25)) rfl rfl) (a_gr (zO_72 g) (zR_72_25 g))) ?_
    refine Eq.trans (Eq.trans (r_go (act := oS (fIld 81 5)) rfl rfl) (a_ild rfl)) ?_
    refine Eq.trans (Eq.trans (r_go (act := oS (fIa g 82)) rfl rfl) (a_ia (zA_87 g) zS_87)) (bcg ?_ rfl)
    refine Eq.trans (Eq.trans (r_go (act := oS (fIa g 83)) rfl rfl) (a_ia (zA_91 g) zS_91)) (bcg ?_ rfl)
    refine Eq.trans (Eq.trans (r_go (act := oS (fIs g 84)) rfl rfl) (a_is (zA_92 g) zS_92)) (bcg ?_ rfl)
    refine Eq.trans (Eq.trans (r_go (act := oS (fIld 86 4)) rfl rfl) (a_ild rfl)) ?_
    refine Eq.trans (Eq.trans (r_go (act := oS (fSt 87 (gC (.int 1)))) rfl rfl) (a_C)) ?_
    refine Eq.trans (Eq.trans (r_go (act := oS (fSt 88 (g2 (fun x y => x + y)))) rfl rfl) (a_add)) ?_
    refine Eq.trans (Eq.trans (r_go (act := oS (fIst 90 4)) rfl rfl) (a_ist rfl rfl)) ?_
    refine Eq.trans (Eq.trans (r_go (act := oS (fGo 170)) rfl rfl) (a_goto)) ?_
    refine Eq.trans (Eq.trans (r_go (act := oS (fInc 173 5 1)) rfl rfl) (a_inc rfl rfl rfl)) ?_
    refine Eq.trans (Eq.trans (r_go (act := oS (fGo 12)) rfl rfl) (a_goto)) ?_
    exact r_cut rfl rfl
set_option maxRecDepth 20000 in
theorem e_X12_lineOf_0 (g : zg) (a1 : Int32) (M : zM) : zX (t_X12_lineOf g) 0 [some (.ref 72), some (.int a1), none] [] M = zX (t_X12_lineOf g) 2 [some (.ref 72), some (.int a1), some (.int 0)] [] M := by
  refine Eq.trans (zX_rgN (tl_X12_lineOf g) (hc_X12_lineOf g) 4 _ _ _ _) ?_
  refine Eq.trans (Eq.trans (r_0 (act := oS (fSt 1 (gC (.int 0)))) rfl) (a_C)) ?_
  refine Eq.trans (Eq.trans (r_go (act := oS (fIst 2 2)) rfl rfl) (a_ist rfl rfl)) ?_
  exact r_cut rfl rfl
theorem x_X12_lineOf_0 (g : zg) (a1 : Int32) (M : zM) : X_X12_lineOf g [.ref 72, .int a1] M = zX (t_X12_lineOf g) 2 [some (.ref 72), some (.int a1), some (.int 0)] [] M := e_X12_lineOf_0 g a1 M
set_option maxRecDepth 20000 in
theorem e_X12_lineOf_2 (g : zg) (a1 : Int32) (a2 : Int32) (M : zM) : zX (t_X12_lineOf g) 2 [some (.ref 72), some (.int a1), some (.int a2)] [] M = (bif cLt a2 (M.1 81 0) then (bif zb a2 48 then (bif cEq (M.1 82 (zx a2)) a1 then (bif zb a2 48 then (bif zb a2 48 then (bif cEq (M.1 84 (zx a2)) (M.1 85 (zx a2)) then some (some (.int a2), M) else (bif zb a2 48 then (bif zb a2 48 then (zbI (X_X12_runs g [.ref 72, .int 0, .int (M.1 84 (zx a2)), .int (M.1 85 (zx a2))] M) (fun x1 M1 => (bif cEq0 x1 then zX (t_X12_lineOf g) 2 [some (.ref 72), some (.int a1), some (.int (a2 + 1))] [] M1 else some (some (.int a2), M1)))) else none) else none)) else none) else none) else zX (t_X12_lineOf g) 2 [some (.ref 72), some (.int a1), some (.int (a2 + 1))] [] M) else none) else some (some (.int (-1)), M)) := by
  refine Eq.trans (zX_rgN (tl_X12_lineOf g) (hc_X12_lineOf g) 37 _ _ _ _) ?_
  refine Eq.trans (Eq.trans (Eq.trans (r_0 (act := oF [] (oS (fIld 3 2))) rfl) (a_F rfl)) (a_ild rfl)) ?_
  refine Eq.trans (Eq.trans (r_go (act := oS (fAld 4 0)) rfl rfl) (a_ald rfl)) ?_
  refine Eq.trans (Eq.trans (r_go (act := oS (fGr g 7 12 19)) rfl rfl) (a_gr (zO_72 g) (zR_72_19 g))) ?_
  refine Eq.trans (Eq.trans (r_go (act := oS (fSt 8 (gC (.int 0)))) rfl rfl) (a_C)) ?_
  refine Eq.trans (Eq.trans (r_go (act := oS (fIa g 9)) rfl rfl) (a_iaK (j := 0) (zA_81 g) zS_81 (by decide +kernel) (by decide +kernel))) ?_
  refine Eq.trans (Eq.trans (r_go (act := oS (fCm 12 65 cLt)) rfl rfl) (a_cm)) (bcg ?_ ?_)
  · refine Eq.trans (Eq.trans (r_go (act := oS (fAld 13 0)) rfl rfl) (a_ald rfl)) ?_
    refine Eq.trans (Eq.trans (r_go (act := oS (fGr g 16 12 20)) rfl rfl) (a_gr (zO_72 g) (zR_72_20 g))) ?_
    refine Eq.trans (Eq.trans (r_go (act := oS (fIld 17 2)) rfl rfl) (a_ild rfl)) ?_
    refine Eq.trans (Eq.trans (r_go (act := oS (fIa g 18)) rfl rfl) (a_ia (zA_82 g) zS_82)) (bcg ?_ rfl)
    refine Eq.trans (Eq.trans (r_go (act := oS (fIld 19 1)) rfl rfl) (a_ild rfl)) ?_
    refine Eq.trans (Eq.trans (r_go (act := oS (fCm 22 59 cEq)) rfl rfl) (a_cm)) (bcg ?_ ?_)
    · refine Eq.trans (Eq.trans (r_go (act := oS (fAld 23 0)) rfl rfl) (a_ald rfl)) ?_
      refine Eq.trans (Eq.trans (r_go (act := oS (fGr g 26 12 22)) rfl rfl) (a_gr (zO_72 g) (zR_72_22 g))) ?_
      refine Eq.trans (Eq.trans (r_go (act := oS (fIld 27 2)) rfl rfl) (a_ild rfl)) ?_
      refine Eq.trans (Eq.trans (r_go (act := oS (fIa g 28)) rfl rfl) (a_ia (zA_84 g) zS_84)) (bcg ?_ rfl)
      refine Eq.trans (Eq.trans (r_go (act := oS (fAld 29 0)) rfl rfl) (a_ald rfl)) ?_
      refine Eq.trans (Eq.trans (r_go (act := oS (fGr g 32 12 23)) rfl rfl) (a_gr (zO_72 g) (zR_72_23 g))) ?_
      refine Eq.trans (Eq.trans (r_go (act := oS (fIld 33 2)) rfl rfl) (a_ild rfl)) ?_
      refine Eq.trans (Eq.trans (r_go (act := oS (fIa g 34)) rfl rfl) (a_ia (zA_85 g) zS_85)) (bcg ?_ rfl)
      refine Eq.trans (Eq.trans (r_go (act := oS (fCm 57 37 cEq)) rfl rfl) (a_cm)) (bcg ?_ ?_)
      · refine Eq.trans (Eq.trans (r_go (act := oS (fIld 58 2)) rfl rfl) (a_ild rfl)) ?_
        exact Eq.trans (r_go (act := oIret) rfl rfl) (a_iret)
      · refine Eq.trans (Eq.trans (r_go (act := oS (fAld 38 0)) rfl rfl) (a_ald rfl)) ?_
        refine Eq.trans (Eq.trans (r_go (act := oS (fSt 39 (gC (.int 0)))) rfl rfl) (a_C)) ?_
        refine Eq.trans (Eq.trans (r_go (act := oS (fAld 40 0)) rfl rfl) (a_ald rfl)) ?_
        refine Eq.trans (Eq.trans (r_go (act := oS (fGr g 43 12 22)) rfl rfl) (a_gr (zO_72 g) (zR_72_22 g))) ?_
        refine Eq.trans (Eq.trans (r_go (act := oS (fIld 44 2)) rfl rfl) (a_ild rfl)) ?_
        refine Eq.trans (Eq.trans (r_go (act := oS (fIa g 45)) rfl rfl) (a_ia (zA_84 g) zS_84)) (bcg ?_ rfl)
        refine Eq.trans (Eq.trans (r_go (act := oS (fAld 46 0)) rfl rfl) (a_ald rfl)) ?_
        refine Eq.trans (Eq.trans (r_go (act := oS (fGr g 49 12 23)) rfl rfl) (a_gr (zO_72 g) (zR_72_23 g))) ?_
        refine Eq.trans (Eq.trans (r_go (act := oS (fIld 50 2)) rfl rfl) (a_ild rfl)) ?_
        refine Eq.trans (Eq.trans (r_go (act := oS (fIa g 51)) rfl rfl) (a_ia (zA_85 g) zS_85)) (bcg ?_ rfl)
        refine Eq.trans (Eq.trans (r_go (act := oCI 54 4 (zcv g 12) (X_X12_runs g)) rfl rfl) (a_cI rfl (zck (zO_72 g) rfl))) (zbI_cg (fun x1 M1 => ?_))
        refine Eq.trans (Eq.trans (r_go (act := oS (fIf 59 57 cEq0)) rfl rfl) (a_if)) (bcg ?_ ?_)
        · refine Eq.trans (Eq.trans (r_go (act := oS (fInc 62 2 1)) rfl rfl) (a_inc rfl rfl rfl)) ?_
          refine Eq.trans (Eq.trans (r_go (act := oS (fGo 2)) rfl rfl) (a_goto)) ?_
          exact r_cut rfl rfl
        · refine Eq.trans (Eq.trans (r_go (act := oS (fIld 58 2)) rfl rfl) (a_ild rfl)) ?_
          exact Eq.trans (r_go (act := oIret) rfl rfl) (a_iret)
    · refine Eq.trans (Eq.trans (r_go (act := oS (fInc 62 2 1)) rfl rfl) (a_inc rfl rfl rfl)) ?_
      refine Eq.trans (Eq.trans (r_go (act := oS (fGo 2)) rfl rfl) (a_goto)) ?_
      exact r_cut rfl rfl
  · refine Eq.trans (Eq.trans (r_go (act := oS (fSt 66 (gC (.int (-1))))) rfl rfl) (a_C)) ?_
    exact Eq.trans (r_go (act := oIret) rfl rfl) (a_iret)
set_option maxRecDepth 20000 in
theorem e_X12_held_0 (g : zg) (a1 : Int32) (a2 : Int32) (a3 : Int32) (M : zM) : zX (t_X12_held g) 0 [some (.ref 72), some (.int a1), some (.int a2), some (.int a3)] [] M = (bif cLt a1 a2 then some (some (.int a2), M) else (bif cGt a1 a3 then some (some (.int a3), M) else some (some (.int a1), M))) := by
  refine Eq.trans (zX_rgN (tl_X12_held g) (hc_X12_held g) 10 _ _ _ _) ?_
  refine Eq.trans (Eq.trans (r_0 (act := oS (fIld 1 1)) rfl) (a_ild rfl)) ?_
  refine Eq.trans (Eq.trans (r_go (act := oS (fIld 2 2)) rfl rfl) (a_ild rfl)) ?_
  refine Eq.trans (Eq.trans (r_go (act := oS (fCm 5 9 cLt)) rfl rfl) (a_cm)) (bcg ?_ ?_)
  · refine Eq.trans (Eq.trans (r_go (act := oS (fIld 6 2)) rfl rfl) (a_ild rfl)) ?_
    refine Eq.trans (Eq.trans (r_go (act := oS (fGo 19)) rfl rfl) (a_goto)) ?_
    exact Eq.trans (r_go (act := oIret) rfl rfl) (a_iret)
  · refine Eq.trans (Eq.trans (r_go (act := oS (fIld 10 1)) rfl rfl) (a_ild rfl)) ?_
    refine Eq.trans (Eq.trans (r_go (act := oS (fIld 11 3)) rfl rfl) (a_ild rfl)) ?_
    refine Eq.trans (Eq.trans (r_go (act := oS (fCm 14 18 cGt)) rfl rfl) (a_cm)) (bcg ?_ ?_)
    · refine Eq.trans (Eq.trans (r_go (act := oS (fIld 15 3)) rfl rfl) (a_ild rfl)) ?_
      refine Eq.trans (Eq.trans (r_go (act := oS (fGo 19)) rfl rfl) (a_goto)) ?_
      exact Eq.trans (r_go (act := oIret) rfl rfl) (a_iret)
    · refine Eq.trans (Eq.trans (r_go (act := oS (fIld 19 1)) rfl rfl) (a_ild rfl)) ?_
      exact Eq.trans (r_go (act := oIret) rfl rfl) (a_iret)
theorem x_X12_held_0 (g : zg) (a1 : Int32) (a2 : Int32) (a3 : Int32) (M : zM) : X_X12_held g [.ref 72, .int a1, .int a2, .int a3] M = (bif cLt a1 a2 then some (some (.int a2), M) else (bif cGt a1 a3 then some (some (.int a3), M) else some (some (.int a1), M))) := e_X12_held_0 g a1 a2 a3 M
set_option maxRecDepth 20000 in
theorem e_X12_lawTells_0 (g : zg) (a1 : Int32) (a2 : Int32) (a3 : Int32) (M : zM) : zX (t_X12_lawTells g) 0 [some (.ref 72), some (.int a1), some (.int a2), some (.int a3), none] [] M = (zbI (X_X12_lineOf g [.ref 72, .int a1] M) (fun x1 M1 => (bif cEq x1 (-1) then (zbI (X_X12_held g [.ref 72, .int a2, .int 0, .int a3] M1) (fun x2 M2 => some (some (.int x2), M2))) else (bif zb x1 48 then (bif zb x1 48 then (zbI (X_X12_runs g [.ref 72, .int 0, .int (M1.1 83 (zx x1)), .int (M1.1 84 (zx x1))] M1) (fun x3 M3 => (zbI (X_X12_held g [.ref 72, .int x3, .int 0, .int a3] M3) (fun x4 M4 => some (some (.int x4), M4))))) else none) else none)))) := by
  refine Eq.trans (zX_rgN (tl_X12_lawTells g) (hc_X12_lawTells g) 24 _ _ _ _) ?_
  refine Eq.trans (Eq.trans (r_0 (act := oS (fAld 1 0)) rfl) (a_ald rfl)) ?_
  refine Eq.trans (Eq.trans (r_go (act := oS (fIld 2 1)) rfl rfl) (a_ild rfl)) ?_
  refine Eq.trans (Eq.trans (r_go (act := oCI 5 2 (zcv g 12) (X_X12_lineOf g)) rfl rfl) (a_cI rfl (zck (zO_72 g) rfl))) (zbI_cg (fun x1 M1 => ?_))
  refine Eq.trans (Eq.trans (r_go (act := oS (fIst 7 4)) rfl rfl) (a_ist rfl rfl)) ?_
  refine Eq.trans (Eq.trans (r_go (act := oS (fAld 8 0)) rfl rfl) (a_ald rfl)) ?_
  refine Eq.trans (Eq.trans (r_go (act := oS (fIld 10 4)) rfl rfl) (a_ild rfl)) ?_
  refine Eq.trans (Eq.trans (r_go (act := oS (fSt 11 (gC (.int (-1))))) rfl rfl) (a_C)) ?_
  refine Eq.trans (Eq.trans (r_go (act := oS (fCm 14 18 cEq)) rfl rfl) (a_cm)) (bcg ?_ ?_)
  · refine Eq.trans (Eq.trans (r_go (act := oS (fIld 15 2)) rfl rfl) (a_ild rfl)) ?_
    refine Eq.trans (Eq.trans (r_go (act := oS (fGo 37)) rfl rfl) (a_goto)) ?_
    refine Eq.trans (Eq.trans (r_go (act := oS (fSt 38 (gC (.int 0)))) rfl rfl) (a_C)) ?_
    refine Eq.trans (Eq.trans (r_go (act := oS (fIld 39 3)) rfl rfl) (a_ild rfl)) ?_
    refine Eq.trans (Eq.trans (r_go (act := oCI 42 4 (zcv g 12) (X_X12_held g)) rfl rfl) (a_cI rfl (zck (zO_72 g) rfl))) (zbI_cg (fun x2 M2 => ?_))
    exact Eq.trans (r_go (act := oIret) rfl rfl) (a_iret)
  · refine Eq.trans (Eq.trans (r_go (act := oS (fAld 19 0)) rfl rfl) (a_ald rfl)) ?_
    refine Eq.trans (Eq.trans (r_go (act := oS (fSt 20 (gC (.int 0)))) rfl rfl) (a_C)) ?_
    refine Eq.trans (Eq.trans (r_go (act := oS (fAld 21 0)) rfl rfl) (a_ald rfl)) ?_
    refine Eq.trans (Eq.trans (r_go (act := oS (fGr g 24 12 21)) rfl rfl) (a_gr (zO_72 g) (zR_72_21 g))) ?_
    refine Eq.trans (Eq.trans (r_go (act := oS (fIld 26 4)) rfl rfl) (a_ild rfl)) ?_
    refine Eq.trans (Eq.trans (r_go (act := oS (fIa g 27)) rfl rfl) (a_ia (zA_83 g) zS_83)) (bcg ?_ rfl)
    refine Eq.trans (Eq.trans (r_go (act := oS (fAld 28 0)) rfl rfl) (a_ald rfl)) ?_
    refine Eq.trans (Eq.trans (r_go (act := oS (fGr g 31 12 22)) rfl rfl) (a_gr (zO_72 g) (zR_72_22 g))) ?_
    refine Eq.trans (Eq.trans (r_go (act := oS (fIld 33 4)) rfl rfl) (a_ild rfl)) ?_
    refine Eq.trans (Eq.trans (r_go (act := oS (fIa g 34)) rfl rfl) (a_ia (zA_84 g) zS_84)) (bcg ?_ rfl)
    refine Eq.trans (Eq.trans (r_go (act := oCI 37 4 (zcv g 12) (X_X12_runs g)) rfl rfl) (a_cI rfl (zck (zO_72 g) rfl))) (zbI_cg (fun x3 M3 => ?_))
    refine Eq.trans (Eq.trans (r_go (act := oS (fSt 38 (gC (.int 0)))) rfl rfl) (a_C)) ?_
    refine Eq.trans (Eq.trans (r_go (act := oS (fIld 39 3)) rfl rfl) (a_ild rfl)) ?_
    refine Eq.trans (Eq.trans (r_go (act := oCI 42 4 (zcv g 12) (X_X12_held g)) rfl rfl) (a_cI rfl (zck (zO_72 g) rfl))) (zbI_cg (fun x4 M4 => ?_))
    exact Eq.trans (r_go (act := oIret) rfl rfl) (a_iret)
theorem x_X12_lawTells_0 (g : zg) (a1 : Int32) (a2 : Int32) (a3 : Int32) (M : zM) : X_X12_lawTells g [.ref 72, .int a1, .int a2, .int a3] M = (zbI (X_X12_lineOf g [.ref 72, .int a1] M) (fun x1 M1 => (bif cEq x1 (-1) then (zbI (X_X12_held g [.ref 72, .int a2, .int 0, .int a3] M1) (fun x2 M2 => some (some (.int x2), M2))) else (bif zb x1 48 then (bif zb x1 48 then (zbI (X_X12_runs g [.ref 72, .int 0, .int (M1.1 83 (zx x1)), .int (M1.1 84 (zx x1))] M1) (fun x3 M3 => (zbI (X_X12_held g [.ref 72, .int x3, .int 0, .int a3] M3) (fun x4 M4 => some (some (.int x4), M4))))) else none) else none)))) := e_X12_lawTells_0 g a1 a2 a3 M
set_option maxRecDepth 20000 in
theorem e_X12_tellOf_0 (g : zg) (a1 : Int32) (M : zM) : zX (t_X12_tellOf g) 0 [some (.ref 72), some (.int a1)] [] M = (zbV (X_X12_asks g [.ref 72, .int a1, .int 0] M) (fun M1 => (zbI (X_X12_lawTells g [.ref 72, .int 0, .int (M1.1 91 4), .int 4] M1) (fun x2 M2 => some (some (.int x2), M2))))) := by
  refine Eq.trans (zX_rgN (tl_X12_tellOf g) (hc_X12_tellOf g) 14 _ _ _ _) ?_
  refine Eq.trans (Eq.trans (r_0 (act := oS (fAld 1 0)) rfl) (a_ald rfl)) ?_
  refine Eq.trans (Eq.trans (r_go (act := oS (fIld 2 1)) rfl rfl) (a_ild rfl)) ?_
  refine Eq.trans (Eq.trans (r_go (act := oS (fSt 3 (gC (.int 0)))) rfl rfl) (a_C)) ?_
  refine Eq.trans (Eq.trans (r_go (act := oCV 6 3 (zcv g 12) (X_X12_asks g)) rfl rfl) (a_cV rfl (zck (zO_72 g) rfl))) (zbV_cg (fun M1 => ?_))
  refine Eq.trans (Eq.trans (r_go (act := oS (fAld 7 0)) rfl rfl) (a_ald rfl)) ?_
  refine Eq.trans (Eq.trans (r_go (act := oS (fSt 8 (gC (.int 0)))) rfl rfl) (a_C)) ?_
  refine Eq.trans (Eq.trans (r_go (act := oS (fAld 9 0)) rfl rfl) (a_ald rfl)) ?_
  refine Eq.trans (Eq.trans (r_go (act := oS (fGr g 12 12 39)) rfl rfl) (a_gr (zO_72 g) (zR_72_39 g))) ?_
  refine Eq.trans (Eq.trans (r_go (act := oS (fSt 13 (gC (.int 4)))) rfl rfl) (a_C)) ?_
  refine Eq.trans (Eq.trans (r_go (act := oS (fIa g 14)) rfl rfl) (a_iaK (j := 4) (zA_91 g) zS_91 (by decide +kernel) (by decide +kernel))) ?_
  refine Eq.trans (Eq.trans (r_go (act := oS (fSt 15 (gC (.int 4)))) rfl rfl) (a_C)) ?_
  refine Eq.trans (Eq.trans (r_go (act := oCI 18 4 (zcv g 12) (X_X12_lawTells g)) rfl rfl) (a_cI rfl (zck (zO_72 g) rfl))) (zbI_cg (fun x2 M2 => ?_))
  exact Eq.trans (r_go (act := oIret) rfl rfl) (a_iret)
theorem x_X12_tellOf_0 (g : zg) (a1 : Int32) (M : zM) : X_X12_tellOf g [.ref 72, .int a1] M = (zbV (X_X12_asks g [.ref 72, .int a1, .int 0] M) (fun M1 => (zbI (X_X12_lawTells g [.ref 72, .int 0, .int (M1.1 91 4), .int 4] M1) (fun x2 M2 => some (some (.int x2), M2))))) := e_X12_tellOf_0 g a1 M
set_option maxRecDepth 20000 in
theorem e_X12_errOf_0 (g : zg) (a1 : Int32) (M : zM) : zX (t_X12_errOf g) 0 [some (.ref 72), some (.int a1)] [] M = (zbV (X_X12_asks g [.ref 72, .int a1, .int 0] M) (fun M1 => (bif zb a1 10 then (zbI (X_X12_lawTells g [.ref 72, .int 1, .int (100 * (M1.1 77 (zx a1))), .int 1000] M1) (fun x2 M2 => some (some (.int x2), M2))) else none))) := by
  refine Eq.trans (zX_rgN (tl_X12_errOf g) (hc_X12_errOf g) 16 _ _ _ _) ?_
  refine Eq.trans (Eq.trans (r_0 (act := oS (fAld 1 0)) rfl) (a_ald rfl)) ?_
  refine Eq.trans (Eq.trans (r_go (act := oS (fIld 2 1)) rfl rfl) (a_ild rfl)) ?_
  refine Eq.trans (Eq.trans (r_go (act := oS (fSt 3 (gC (.int 0)))) rfl rfl) (a_C)) ?_
  refine Eq.trans (Eq.trans (r_go (act := oCV 6 3 (zcv g 12) (X_X12_asks g)) rfl rfl) (a_cV rfl (zck (zO_72 g) rfl))) (zbV_cg (fun M1 => ?_))
  refine Eq.trans (Eq.trans (r_go (act := oS (fAld 7 0)) rfl rfl) (a_ald rfl)) ?_
  refine Eq.trans (Eq.trans (r_go (act := oS (fSt 8 (gC (.int 1)))) rfl rfl) (a_C)) ?_
  refine Eq.trans (Eq.trans (r_go (act := oS (fSt 10 (gC (.int 100)))) rfl rfl) (a_C)) ?_
  refine Eq.trans (Eq.trans (r_go (act := oS (fAld 11 0)) rfl rfl) (a_ald rfl)) ?_
  refine Eq.trans (Eq.trans (r_go (act := oS (fGr g 14 12 10)) rfl rfl) (a_gr (zO_72 g) (zR_72_10 g))) ?_
  refine Eq.trans (Eq.trans (r_go (act := oS (fIld 15 1)) rfl rfl) (a_ild rfl)) ?_
  refine Eq.trans (Eq.trans (r_go (act := oS (fIa g 16)) rfl rfl) (a_ia (zA_77 g) zS_77)) (bcg ?_ rfl)
  refine Eq.trans (Eq.trans (r_go (act := oS (fSt 17 (g2 (fun x y => x * y)))) rfl rfl) (a_mul)) ?_
  refine Eq.trans (Eq.trans (r_go (act := oS (fSt 20 (gC (.int 1000)))) rfl rfl) (a_C)) ?_
  refine Eq.trans (Eq.trans (r_go (act := oCI 23 4 (zcv g 12) (X_X12_lawTells g)) rfl rfl) (a_cI rfl (zck (zO_72 g) rfl))) (zbI_cg (fun x2 M2 => ?_))
  exact Eq.trans (r_go (act := oIret) rfl rfl) (a_iret)
theorem x_X12_errOf_0 (g : zg) (a1 : Int32) (M : zM) : X_X12_errOf g [.ref 72, .int a1] M = (zbV (X_X12_asks g [.ref 72, .int a1, .int 0] M) (fun M1 => (bif zb a1 10 then (zbI (X_X12_lawTells g [.ref 72, .int 1, .int (100 * (M1.1 77 (zx a1))), .int 1000] M1) (fun x2 M2 => some (some (.int x2), M2))) else none))) := e_X12_errOf_0 g a1 M
set_option maxRecDepth 20000 in
theorem e_X12_draw_0 (g : zg) (a1 : Int32) (M : zM) : zX (t_X12_draw g) 0 [some (.ref 72), some (.int a1)] [] M = (bif !decide (a1 = 0) then some (some (.int ((zushr ((1664525 * (M.1 73 1)) + 1013904223) 8) - (zushr ((1664525 * (M.1 73 1)) + 1013904223) 8) / a1 * a1)), ((zu M.1 73 1 ((1664525 * (M.1 73 1)) + 1013904223)), M.2)) else none) := by
  refine Eq.trans (zX_rgN (tl_X12_draw g) (hc_X12_draw g) 22 _ _ _ _) ?_
  refine Eq.trans (Eq.trans (r_0 (act := oS (fAld 1 0)) rfl) (a_ald rfl)) ?_
  refine Eq.trans (Eq.trans (r_go (act := oS (fGr g 4 12 1)) rfl rfl) (a_gr (zO_72 g) (zR_72_1 g))) ?_
  refine Eq.trans (Eq.trans (r_go (act := oS (fSt 5 (gC (.int 1)))) rfl rfl) (a_C)) ?_
  refine Eq.trans (Eq.trans (r_go (act := oS (fSt 7 (gC (.int 1664525)))) rfl rfl) (a_C)) ?_
  refine Eq.trans (Eq.trans (r_go (act := oS (fAld 8 0)) rfl rfl) (a_ald rfl)) ?_
  refine Eq.trans (Eq.trans (r_go (act := oS (fGr g 11 12 1)) rfl rfl) (a_gr (zO_72 g) (zR_72_1 g))) ?_
  refine Eq.trans (Eq.trans (r_go (act := oS (fSt 12 (gC (.int 1)))) rfl rfl) (a_C)) ?_
  refine Eq.trans (Eq.trans (r_go (act := oS (fIa g 13)) rfl rfl) (a_iaK (j := 1) (zA_73 g) zS_73 (by decide +kernel) (by decide +kernel))) ?_
  refine Eq.trans (Eq.trans (r_go (act := oS (fSt 14 (g2 (fun x y => x * y)))) rfl rfl) (a_mul)) ?_
  refine Eq.trans (Eq.trans (r_go (act := oS (fSt 16 (gC (.int 1013904223)))) rfl rfl) (a_C)) ?_
  refine Eq.trans (Eq.trans (r_go (act := oS (fSt 17 (g2 (fun x y => x + y)))) rfl rfl) (a_add)) ?_
  refine Eq.trans (Eq.trans (r_go (act := oS (fIs g 18)) rfl rfl) (a_isK (j := 1) (zA_73 g) zS_73 (by decide +kernel) (by decide +kernel))) ?_
  refine Eq.trans (Eq.trans (r_go (act := oS (fAld 19 0)) rfl rfl) (a_ald rfl)) ?_
  refine Eq.trans (Eq.trans (r_go (act := oS (fGr g 22 12 1)) rfl rfl) (a_gr (zO_72 g) (zR_72_1 g))) ?_
  refine Eq.trans (Eq.trans (r_go (act := oS (fSt 23 (gC (.int 1)))) rfl rfl) (a_C)) ?_
  refine Eq.trans (Eq.trans (r_go (act := oS (fIa g 24)) rfl rfl) (a_iaKV (j := 1) (zA_73 g) zS_73 (by decide +kernel) (by decide +kernel) rfl)) ?_
  refine Eq.trans (Eq.trans (r_go (act := oS (fSt 26 (gC (.int 8)))) rfl rfl) (a_C)) ?_
  refine Eq.trans (Eq.trans (r_go (act := oS (fSt 27 (g2 zushr))) rfl rfl) (a_ush)) ?_
  refine Eq.trans (Eq.trans (r_go (act := oS (fIld 28 1)) rfl rfl) (a_ild rfl)) ?_
  refine Eq.trans (Eq.trans (r_go (act := oS (fRem 29)) rfl rfl) (a_rem)) (bcg ?_ rfl)
  exact Eq.trans (r_go (act := oIret) rfl rfl) (a_iret)
theorem x_X12_draw_0 (g : zg) (a1 : Int32) (M : zM) : X_X12_draw g [.ref 72, .int a1] M = (bif !decide (a1 = 0) then some (some (.int ((zushr ((1664525 * (M.1 73 1)) + 1013904223) 8) - (zushr ((1664525 * (M.1 73 1)) + 1013904223) 8) / a1 * a1)), ((zu M.1 73 1 ((1664525 * (M.1 73 1)) + 1013904223)), M.2)) else none) := e_X12_draw_0 g a1 M
set_option maxRecDepth 20000 in
theorem e_X12_saysOf_0 (g : zg) (a1 : Int32) (M : zM) : zX (t_X12_saysOf g) 0 [some (.ref 72), some (.int a1), none, none] [] M = (bif zb (18 + a1) 148 then (bif cGt0 (M.1 73 (zx (18 + a1))) then (bif zb (18 + a1) 148 then some (some (.int ((M.1 73 (zx (18 + a1))) - 1)), M) else none) else (zbI (X_X12_tellOf g [.ref 72, .int a1] M) (fun x1 M1 => (zbI (X_X12_errOf g [.ref 72, .int a1] M1) (fun x2 M2 => (bif cEq0 (M2.1 72 5) then (bif cEq0 x2 then some (some (.int x1), M2) else (zbI (X_X12_draw g [.ref 72, .int 1000] M2) (fun x3 M3 => (bif cLt x3 x2 then (zbI (X_X12_draw g [.ref 72, .int 2] M3) (fun x4 M4 => (bif cEq0 x4 then (zbI (X_X12_held g [.ref 72, .int (x1 - 1), .int 0, .int 4] M4) (fun x5 M5 => some (some (.int x5), M5))) else (zbI (X_X12_held g [.ref 72, .int (x1 + 1), .int 0, .int 4] M4) (fun x6 M6 => some (some (.int x6), M6)))))) else some (some (.int x1), M3))))) else some (some (.int x1), M2))))))) else none) := by
  refine Eq.trans (zX_rgN (tl_X12_saysOf g) (hc_X12_saysOf g) 39 _ _ _ _) ?_
  refine Eq.trans (Eq.trans (r_0 (act := oS (fAld 1 0)) rfl) (a_ald rfl)) ?_
  refine Eq.trans (Eq.trans (r_go (act := oS (fGr g 4 12 1)) rfl rfl) (a_gr (zO_72 g) (zR_72_1 g))) ?_
  refine Eq.trans (Eq.trans (r_go (act := oS (fSt 6 (gC (.int 18)))) rfl rfl) (a_C)) ?_
  refine Eq.trans (Eq.trans (r_go (act := oS (fIld 7 1)) rfl rfl) (a_ild rfl)) ?_
  refine Eq.trans (Eq.trans (r_go (act := oS (fSt 8 (g2 (fun x y => x + y)))) rfl rfl) (a_add)) ?_
  refine Eq.trans (Eq.trans (r_go (act := oS (fIa g 9)) rfl rfl) (a_ia (zA_73 g) zS_73)) (bcg ?_ rfl)
  refine Eq.trans (Eq.trans (r_go (act := oS (fIf 12 24 cGt0)) rfl rfl) (a_if)) (bcg ?_ ?_)
  · refine Eq.trans (Eq.trans (r_go (act := oS (fAld 13 0)) rfl rfl) (a_ald rfl)) ?_
    refine Eq.trans (Eq.trans (r_go (act := oS (fGr g 16 12 1)) rfl rfl) (a_gr (zO_72 g) (zR_72_1 g))) ?_
    refine Eq.trans (Eq.trans (r_go (act := oS (fSt 18 (gC (.int 18)))) rfl rfl) (a_C)) ?_
    refine Eq.trans (Eq.trans (r_go (act := oS (fIld 19 1)) rfl rfl) (a_ild rfl)) ?_
    refine Eq.trans (Eq.trans (r_go (act := oS (fSt 20 (g2 (fun x y => x + y)))) rfl rfl) (a_add)) ?_
    refine Eq.trans (Eq.trans (r_go (act := oS (fIa g 21)) rfl rfl) (a_ia (zA_73 g) zS_73)) (bcg ?_ rfl)
    refine Eq.trans (Eq.trans (r_go (act := oS (fSt 22 (gC (.int 1)))) rfl rfl) (a_C)) ?_
    refine Eq.trans (Eq.trans (r_go (act := oS (fSt 23 (g2 (fun x y => x - y)))) rfl rfl) (a_sub)) ?_
    exact Eq.trans (r_go (act := oIret) rfl rfl) (a_iret)
  · refine Eq.trans (Eq.trans (r_go (act := oS (fAld 25 0)) rfl rfl) (a_ald rfl)) ?_
    refine Eq.trans (Eq.trans (r_go (act := oS (fIld 26 1)) rfl rfl) (a_ild rfl)) ?_
    refine Eq.trans (Eq.trans (r_go (act := oCI 29 2 (zcv g 12) (X_X12_tellOf g)) rfl rfl) (a_cI rfl (zck (zO_72 g) rfl))) (zbI_cg (fun x1 M1 => ?_))
    refine Eq.trans (Eq.trans (r_go (act := oS (fIst 30 2)) rfl rfl) (a_ist rfl rfl)) ?_
    refine Eq.trans (Eq.trans (r_go (act := oS (fAld 31 0)) rfl rfl) (a_ald rfl)) ?_
    refine Eq.trans (Eq.trans (r_go (act := oS (fIld 32 1)) rfl rfl) (a_ild rfl)) ?_
    refine Eq.trans (Eq.trans (r_go (act := oCI 35 2 (zcv g 12) (X_X12_errOf g)) rfl rfl) (a_cI rfl (zck (zO_72 g) rfl))) (zbI_cg (fun x2 M2 => ?_))
    refine Eq.trans (Eq.trans (r_go (act := oS (fIst 36 3)) rfl rfl) (a_ist rfl rfl)) ?_
    refine Eq.trans (Eq.trans (r_go (act := oS (fAld 37 0)) rfl rfl) (a_ald rfl)) ?_
    refine Eq.trans (Eq.trans (r_go (act := oS (fGi g 40 12 5)) rfl rfl) (a_gi (zO_72 g))) ?_
    refine Eq.trans (Eq.trans (r_go (act := oS (fIf 43 58 cEq0)) rfl rfl) (a_if)) (bcg ?_ ?_)
    · refine Eq.trans (Eq.trans (r_go (act := oS (fIld 44 3)) rfl rfl) (a_ild rfl)) ?_
      refine Eq.trans (Eq.trans (r_go (act := oS (fIf 58 47 cEq0)) rfl rfl) (a_if)) (bcg ?_ ?_)
      · refine Eq.trans (Eq.trans (r_go (act := oS (fIld 59 2)) rfl rfl) (a_ild rfl)) ?_
        exact Eq.trans (r_go (act := oIret) rfl rfl) (a_iret)
      · refine Eq.trans (Eq.trans (r_go (act := oS (fAld 48 0)) rfl rfl) (a_ald rfl)) ?_
        refine Eq.trans (Eq.trans (r_go (act := oS (fSt 51 (gC (.int 1000)))) rfl rfl) (a_C)) ?_
        refine Eq.trans (Eq.trans (r_go (act := oCI 54 2 (zcv g 12) (X_X12_draw g)) rfl rfl) (a_cI rfl (zck (zO_72 g) rfl))) (zbI_cg (fun x3 M3 => ?_))
        refine Eq.trans (Eq.trans (r_go (act := oS (fIld 55 3)) rfl rfl) (a_ild rfl)) ?_
        refine Eq.trans (Eq.trans (r_go (act := oS (fCm 60 58 cLt)) rfl rfl) (a_cm)) (bcg ?_ ?_)
        · refine Eq.trans (Eq.trans (r_go (act := oS (fAld 61 0)) rfl rfl) (a_ald rfl)) ?_
          refine Eq.trans (Eq.trans (r_go (act := oS (fAld 62 0)) rfl rfl) (a_ald rfl)) ?_
          refine Eq.trans (Eq.trans (r_go (act := oS (fSt 63 (gC (.int 2)))) rfl rfl) (a_C)) ?_
          refine Eq.trans (Eq.trans (r_go (act := oCI 66 2 (zcv g 12) (X_X12_draw g)) rfl rfl) (a_cI rfl (zck (zO_72 g) rfl))) (zbI_cg (fun x4 M4 => ?_))
          refine Eq.trans (Eq.trans (r_go (act := oS (fIf 69 75 cEq0)) rfl rfl) (a_if)) (bcg ?_ ?_)
          · refine Eq.trans (Eq.trans (r_go (act := oS (fIld 70 2)) rfl rfl) (a_ild rfl)) ?_
            refine Eq.trans (Eq.trans (r_go (act := oS (fSt 71 (gC (.int 1)))) rfl rfl) (a_C)) ?_
            refine Eq.trans (Eq.trans (r_go (act := oS (fSt 72 (g2 (fun x y => x - y)))) rfl rfl) (a_sub)) ?_
            refine Eq.trans (Eq.trans (r_go (act := oS (fGo 78)) rfl rfl) (a_goto)) ?_
            refine Eq.trans (Eq.trans (r_go (act := oS (fSt 79 (gC (.int 0)))) rfl rfl) (a_C)) ?_
            refine Eq.trans (Eq.trans (r_go (act := oS (fSt 80 (gC (.int 4)))) rfl rfl) (a_C)) ?_
            refine Eq.trans (Eq.trans (r_go (act := oCI 83 4 (zcv g 12) (X_X12_held g)) rfl rfl) (a_cI rfl (zck (zO_72 g) rfl))) (zbI_cg (fun x5 M5 => ?_))
            exact Eq.trans (r_go (act := oIret) rfl rfl) (a_iret)
          · refine Eq.trans (Eq.trans (r_go (act := oS (fIld 76 2)) rfl rfl) (a_ild rfl)) ?_
            refine Eq.trans (Eq.trans (r_go (act := oS (fSt 77 (gC (.int 1)))) rfl rfl) (a_C)) ?_
            refine Eq.trans (Eq.trans (r_go (act := oS (fSt 78 (g2 (fun x y => x + y)))) rfl rfl) (a_add)) ?_
            refine Eq.trans (Eq.trans (r_go (act := oS (fSt 79 (gC (.int 0)))) rfl rfl) (a_C)) ?_
            refine Eq.trans (Eq.trans (r_go (act := oS (fSt 80 (gC (.int 4)))) rfl rfl) (a_C)) ?_
            refine Eq.trans (Eq.trans (r_go (act := oCI 83 4 (zcv g 12) (X_X12_held g)) rfl rfl) (a_cI rfl (zck (zO_72 g) rfl))) (zbI_cg (fun x6 M6 => ?_))
            exact Eq.trans (r_go (act := oIret) rfl rfl) (a_iret)
        · refine Eq.trans (Eq.trans (r_go (act := oS (fIld 59 2)) rfl rfl) (a_ild rfl)) ?_
          exact Eq.trans (r_go (act := oIret) rfl rfl) (a_iret)
    · refine Eq.trans (Eq.trans (r_go (act := oS (fIld 59 2)) rfl rfl) (a_ild rfl)) ?_
      exact Eq.trans (r_go (act := oIret) rfl rfl) (a_iret)
theorem x_X12_saysOf_0 (g : zg) (a1 : Int32) (M : zM) : X_X12_saysOf g [.ref 72, .int a1] M = (bif zb (18 + a1) 148 then (bif cGt0 (M.1 73 (zx (18 + a1))) then (bif zb (18 + a1) 148 then some (some (.int ((M.1 73 (zx (18 + a1))) - 1)), M) else none) else (zbI (X_X12_tellOf g [.ref 72, .int a1] M) (fun x1 M1 => (zbI (X_X12_errOf g [.ref 72, .int a1] M1) (fun x2 M2 => (bif cEq0 (M2.1 72 5) then (bif cEq0 x2 then some (some (.int x1), M2) else (zbI (X_X12_draw g [.ref 72, .int 1000] M2) (fun x3 M3 => (bif cLt x3 x2 then (zbI (X_X12_draw g [.ref 72, .int 2] M3) (fun x4 M4 => (bif cEq0 x4 then (zbI (X_X12_held g [.ref 72, .int (x1 - 1), .int 0, .int 4] M4) (fun x5 M5 => some (some (.int x5), M5))) else (zbI (X_X12_held g [.ref 72, .int (x1 + 1), .int 0, .int 4] M4) (fun x6 M6 => some (some (.int x6), M6)))))) else some (some (.int x1), M3))))) else some (some (.int x1), M2))))))) else none) := e_X12_saysOf_0 g a1 M
set_option maxRecDepth 20000 in
theorem e_X12_rounded_0 (g : zg) (a1 : Int32) (M : zM) : zX (t_X12_rounded g) 0 [some (.ref 72), some (.int a1), none, none, none] [] M = zX (t_X12_rounded g) 4 [some (.ref 72), some (.int a1), some (.int 0), some (.int 0), none] [] M := by
  refine Eq.trans (zX_rgN (tl_X12_rounded g) (hc_X12_rounded g) 6 _ _ _ _) ?_
  refine Eq.trans (Eq.trans (r_0 (act := oS (fSt 1 (gC (.int 0)))) rfl) (a_C)) ?_
  refine Eq.trans (Eq.trans (r_go (act := oS (fIst 2 2)) rfl rfl) (a_ist rfl rfl)) ?_
  refine Eq.trans (Eq.trans (r_go (act := oS (fSt 3 (gC (.int 0)))) rfl rfl) (a_C)) ?_
  refine Eq.trans (Eq.trans (r_go (act := oS (fIst 4 3)) rfl rfl) (a_ist rfl rfl)) ?_
  exact r_cut rfl rfl
theorem x_X12_rounded_0 (g : zg) (a1 : Int32) (M : zM) : X_X12_rounded g [.ref 72, .int a1] M = zX (t_X12_rounded g) 4 [some (.ref 72), some (.int a1), some (.int 0), some (.int 0), none] [] M := e_X12_rounded_0 g a1 M
set_option maxRecDepth 20000 in
theorem e_X12_rounded_4 (g : zg) (a1 : Int32) (a2 : Int32) (a3 : Int32) (M : zM) : zX (t_X12_rounded g) 4 [some (.ref 72), some (.int a1), some (.int a2), some (.int a3), none] [] M = (bif cLt a3 (M.1 72 35) then (bif zb (2 * a3) 48 then zX (t_X12_rounded g) 4 [some (.ref 72), some (.int a1), some (.int (a2 + (M.1 89 (zx (2 * a3))))), some (.int (a3 + 1)), none] [] M else none) else (bif cEq0 a2 then some (some (.int 0), M) else (bif !decide (a2 = 0) then zX (t_X12_rounded g) 42 [some (.ref 72), none, none, some (.int (a1 - a1 / a2 * a2)), some (.int 0)] [] M else none))) := by
  refine Eq.trans (zX_rgN (tl_X12_rounded g) (hc_X12_rounded g) 17 _ _ _ _) ?_
  refine Eq.trans (Eq.trans (Eq.trans (r_0 (act := oF [4] (oS (fIld 5 3))) rfl) (a_F rfl)) (a_ild rfl)) ?_
  refine Eq.trans (Eq.trans (r_go (act := oS (fAld 6 0)) rfl rfl) (a_ald rfl)) ?_
  refine Eq.trans (Eq.trans (r_go (act := oS (fGi g 9 12 35)) rfl rfl) (a_gi (zO_72 g))) ?_
  refine Eq.trans (Eq.trans (r_go (act := oS (fCm 12 29 cLt)) rfl rfl) (a_cm)) (bcg ?_ ?_)
  · refine Eq.trans (Eq.trans (r_go (act := oS (fIld 13 2)) rfl rfl) (a_ild rfl)) ?_
    refine Eq.trans (Eq.trans (r_go (act := oS (fAld 14 0)) rfl rfl) (a_ald rfl)) ?_
    refine Eq.trans (Eq.trans (r_go (act := oS (fGr g 17 12 36)) rfl rfl) (a_gr (zO_72 g) (zR_72_36 g))) ?_
    refine Eq.trans (Eq.trans (r_go (act := oS (fSt 18 (gC (.int 2)))) rfl rfl) (a_C)) ?_
    refine Eq.trans (Eq.trans (r_go (act := oS (fIld 19 3)) rfl rfl) (a_ild rfl)) ?_
    refine Eq.trans (Eq.trans (r_go (act := oS (fSt 20 (g2 (fun x y => x * y)))) rfl rfl) (a_mul)) ?_
    refine Eq.trans (Eq.trans (r_go (act := oS (fIa g 21)) rfl rfl) (a_ia (zA_89 g) zS_89)) (bcg ?_ rfl)
    refine Eq.trans (Eq.trans (r_go (act := oS (fSt 22 (g2 (fun x y => x + y)))) rfl rfl) (a_add)) ?_
    refine Eq.trans (Eq.trans (r_go (act := oS (fIst 23 2)) rfl rfl) (a_ist rfl rfl)) ?_
    refine Eq.trans (Eq.trans (r_go (act := oS (fInc 26 3 1)) rfl rfl) (a_inc rfl rfl rfl)) ?_
    refine Eq.trans (Eq.trans (r_go (act := oS (fGo 4)) rfl rfl) (a_goto)) ?_
    exact r_cut rfl rfl
  · refine Eq.trans (Eq.trans (r_go (act := oS (fIld 30 2)) rfl rfl) (a_ild rfl)) ?_
    refine Eq.trans (Eq.trans (r_go (act := oS (fIf 33 35 cEq0)) rfl rfl) (a_if)) (bcg ?_ ?_)
    · refine Eq.trans (Eq.trans (r_go (act := oS (fSt 34 (gC (.int 0)))) rfl rfl) (a_C)) ?_
      exact Eq.trans (r_go (act := oIret) rfl rfl) (a_iret)
    · refine Eq.trans (Eq.trans (r_go (act := oS (fIld 36 1)) rfl rfl) (a_ild rfl)) ?_
      refine Eq.trans (Eq.trans (r_go (act := oS (fIld 37 2)) rfl rfl) (a_ild rfl)) ?_
      refine Eq.trans (Eq.trans (r_go (act := oS (fRem 38)) rfl rfl) (a_rem)) (bcg ?_ rfl)
      refine Eq.trans (Eq.trans (r_go (act := oS (fIst 39 3)) rfl rfl) (a_ist rfl rfl)) ?_
      refine Eq.trans (Eq.trans (r_go (act := oS (fSt 40 (gC (.int 0)))) rfl rfl) (a_C)) ?_
      refine Eq.trans (Eq.trans (r_go (act := oS (fIst 42 4)) rfl rfl) (a_ist rfl rfl)) ?_
      exact r_cut rfl rfl
set_option maxRecDepth 20000 in
theorem e_X12_rounded_42 (g : zg) (a3 : Int32) (a4 : Int32) (M : zM) : zX (t_X12_rounded g) 42 [some (.ref 72), none, none, some (.int a3), some (.int a4)] [] M = (bif zb (2 * a4) 48 then (bif cLt a3 (M.1 89 (zx (2 * a4))) then (bif zb ((2 * a4) + 1) 48 then some (some (.int (M.1 89 (zx ((2 * a4) + 1)))), M) else none) else (bif zb (2 * a4) 48 then zX (t_X12_rounded g) 42 [some (.ref 72), none, none, some (.int (a3 - (M.1 89 (zx (2 * a4))))), some (.int (a4 + 1))] [] M else none)) else none) := by
  refine Eq.trans (zX_rgN (tl_X12_rounded g) (hc_X12_rounded g) 24 _ _ _ _) ?_
  refine Eq.trans (Eq.trans (Eq.trans (r_0 (act := oF [1, 2] (oS (fIld 43 3))) rfl) (a_F rfl)) (a_ild rfl)) ?_
  refine Eq.trans (Eq.trans (r_go (act := oS (fAld 44 0)) rfl rfl) (a_ald rfl)) ?_
  refine Eq.trans (Eq.trans (r_go (act := oS (fGr g 47 12 36)) rfl rfl) (a_gr (zO_72 g) (zR_72_36 g))) ?_
  refine Eq.trans (Eq.trans (r_go (act := oS (fSt 48 (gC (.int 2)))) rfl rfl) (a_C)) ?_
  refine Eq.trans (Eq.trans (r_go (act := oS (fIld 50 4)) rfl rfl) (a_ild rfl)) ?_
  refine Eq.trans (Eq.trans (r_go (act := oS (fSt 51 (g2 (fun x y => x * y)))) rfl rfl) (a_mul)) ?_
  refine Eq.trans (Eq.trans (r_go (act := oS (fIa g 52)) rfl rfl) (a_ia (zA_89 g) zS_89)) (bcg ?_ rfl)
  refine Eq.trans (Eq.trans (r_go (act := oS (fCm 76 55 cLt)) rfl rfl) (a_cm)) (bcg ?_ ?_)
  · refine Eq.trans (Eq.trans (r_go (act := oS (fAld 77 0)) rfl rfl) (a_ald rfl)) ?_
    refine Eq.trans (Eq.trans (r_go (act := oS (fGr g 80 12 36)) rfl rfl) (a_gr (zO_72 g) (zR_72_36 g))) ?_
    refine Eq.trans (Eq.trans (r_go (act := oS (fSt 81 (gC (.int 2)))) rfl rfl) (a_C)) ?_
    refine Eq.trans (Eq.trans (r_go (act := oS (fIld 83 4)) rfl rfl) (a_ild rfl)) ?_
    refine Eq.trans (Eq.trans (r_go (act := oS (fSt 84 (g2 (fun x y => x * y)))) rfl rfl) (a_mul)) ?_
    refine Eq.trans (Eq.trans (r_go (act := oS (fSt 85 (gC (.int 1)))) rfl rfl) (a_C)) ?_
    refine Eq.trans (Eq.trans (r_go (act := oS (fSt 86 (g2 (fun x y => x + y)))) rfl rfl) (a_add)) ?_
    refine Eq.trans (Eq.trans (r_go (act := oS (fIa g 87)) rfl rfl) (a_ia (zA_89 g) zS_89)) (bcg ?_ rfl)
    exact Eq.trans (r_go (act := oIret) rfl rfl) (a_iret)
  · refine Eq.trans (Eq.trans (r_go (act := oS (fIld 56 3)) rfl rfl) (a_ild rfl)) ?_
    refine Eq.trans (Eq.trans (r_go (act := oS (fAld 57 0)) rfl rfl) (a_ald rfl)) ?_
    refine Eq.trans (Eq.trans (r_go (act := oS (fGr g 60 12 36)) rfl rfl) (a_gr (zO_72 g) (zR_72_36 g))) ?_
    refine Eq.trans (Eq.trans (r_go (act := oS (fSt 61 (gC (.int 2)))) rfl rfl) (a_C)) ?_
    refine Eq.trans (Eq.trans (r_go (act := oS (fIld 63 4)) rfl rfl) (a_ild rfl)) ?_
    refine Eq.trans (Eq.trans (r_go (act := oS (fSt 64 (g2 (fun x y => x * y)))) rfl rfl) (a_mul)) ?_
    refine Eq.trans (Eq.trans (r_go (act := oS (fIa g 65)) rfl rfl) (a_ia (zA_89 g) zS_89)) (bcg ?_ rfl)
    refine Eq.trans (Eq.trans (r_go (act := oS (fSt 66 (g2 (fun x y => x - y)))) rfl rfl) (a_sub)) ?_
    refine Eq.trans (Eq.trans (r_go (act := oS (fIst 67 3)) rfl rfl) (a_ist rfl rfl)) ?_
    refine Eq.trans (Eq.trans (r_go (act := oS (fIld 69 4)) rfl rfl) (a_ild rfl)) ?_
    refine Eq.trans (Eq.trans (r_go (act := oS (fSt 70 (gC (.int 1)))) rfl rfl) (a_C)) ?_
    refine Eq.trans (Eq.trans (r_go (act := oS (fSt 71 (g2 (fun x y => x + y)))) rfl rfl) (a_add)) ?_
    refine Eq.trans (Eq.trans (r_go (act := oS (fIst 73 4)) rfl rfl) (a_ist rfl rfl)) ?_
    refine Eq.trans (Eq.trans (r_go (act := oS (fGo 42)) rfl rfl) (a_goto)) ?_
    exact r_cut rfl rfl
set_option maxRecDepth 20000 in
theorem e_X12_comes_0 (g : zg) (M : zM) : zX (t_X12_comes g) 0 [some (.ref 72), none] [] M = (zbI (X_X12_rounded g [.ref 72, .int (M.1 73 0)] M) (fun x1 M1 => (bif cEq0 (M1.1 72 5) then (bif cGt0 (M1.1 72 7) then (zbI (X_X12_draw g [.ref 72, .int 1000] M1) (fun x2 M2 => (bif cLt x2 (M2.1 72 7) then (zbI (X_X12_draw g [.ref 72, .int 21] M2) (fun x3 M3 => (zbI (X_X12_glass g [.ref 72] M3) (fun x4 M4 => (zbI (X_X12_held g [.ref 72, .int (x4 + ((x1 + x3) - 10)), .int 0, .int 99] M4) (fun x5 M5 => (zbV (X_X12_glassBe g [.ref 72, .int x5] M5) (fun M6 => (zbI (X_X12_glass g [.ref 72] M6) (fun x7 M7 => (zbI (X_X12_kindOf g [.ref 72, .int x7] M7) (fun x8 M8 => (zbI (X_X12_glass g [.ref 72] M8) (fun x9 M9 => (zbV (X_X12_notes g [.ref 72, .int 0, .int x8, .int x9] M9) (fun M10 => some (none, M10))))))))))))))))) else (zbI (X_X12_glass g [.ref 72] M2) (fun x11 M11 => (zbI (X_X12_held g [.ref 72, .int (x11 + x1), .int 0, .int 99] M11) (fun x12 M12 => (zbV (X_X12_glassBe g [.ref 72, .int x12] M12) (fun M13 => (zbI (X_X12_glass g [.ref 72] M13) (fun x14 M14 => (zbI (X_X12_kindOf g [.ref 72, .int x14] M14) (fun x15 M15 => (zbI (X_X12_glass g [.ref 72] M15) (fun x16 M16 => (zbV (X_X12_notes g [.ref 72, .int 0, .int x15, .int x16] M16) (fun M17 => some (none, M17)))))))))))))))))) else (zbI (X_X12_glass g [.ref 72] M1) (fun x18 M18 => (zbI (X_X12_held g [.ref 72, .int (x18 + x1), .int 0, .int 99] M18) (fun x19 M19 => (zbV (X_X12_glassBe g [.ref 72, .int x19] M19) (fun M20 => (zbI (X_X12_glass g [.ref 72] M20) (fun x21 M21 => (zbI (X_X12_kindOf g [.ref 72, .int x21] M21) (fun x22 M22 => (zbI (X_X12_glass g [.ref 72] M22) (fun x23 M23 => (zbV (X_X12_notes g [.ref 72, .int 0, .int x22, .int x23] M23) (fun M24 => some (none, M24)))))))))))))))) else (zbI (X_X12_glass g [.ref 72] M1) (fun x25 M25 => (zbI (X_X12_held g [.ref 72, .int (x25 + x1), .int 0, .int 99] M25) (fun x26 M26 => (zbV (X_X12_glassBe g [.ref 72, .int x26] M26) (fun M27 => (zbI (X_X12_glass g [.ref 72] M27) (fun x28 M28 => (zbI (X_X12_kindOf g [.ref 72, .int x28] M28) (fun x29 M29 => (zbI (X_X12_glass g [.ref 72] M29) (fun x30 M30 => (zbV (X_X12_notes g [.ref 72, .int 0, .int x29, .int x30] M30) (fun M31 => some (none, M31)))))))))))))))))) := by
  refine Eq.trans (zX_rgN (tl_X12_comes g) (hc_X12_comes g) 48 _ _ _ _) ?_
  refine Eq.trans (Eq.trans (r_0 (act := oS (fAld 1 0)) rfl) (a_ald rfl)) ?_
  refine Eq.trans (Eq.trans (r_go (act := oS (fAld 2 0)) rfl rfl) (a_ald rfl)) ?_
  refine Eq.trans (Eq.trans (r_go (act := oS (fGr g 5 12 1)) rfl rfl) (a_gr (zO_72 g) (zR_72_1 g))) ?_
  refine Eq.trans (Eq.trans (r_go (act := oS (fSt 6 (gC (.int 0)))) rfl rfl) (a_C)) ?_
  refine Eq.trans (Eq.trans (r_go (act := oS (fIa g 7)) rfl rfl) (a_iaK (j := 0) (zA_73 g) zS_73 (by decide +kernel) (by decide +kernel))) ?_
  refine Eq.trans (Eq.trans (r_go (act := oCI 10 2 (zcv g 12) (X_X12_rounded g)) rfl rfl) (a_cI rfl (zck (zO_72 g) rfl))) (zbI_cg (fun x1 M1 => ?_))
  refine Eq.trans (Eq.trans (r_go (act := oS (fIst 11 1)) rfl rfl) (a_ist rfl rfl)) ?_
  refine Eq.trans (Eq.trans (r_go (act := oS (fAld 12 0)) rfl rfl) (a_ald rfl)) ?_
  refine Eq.trans (Eq.trans (r_go (act := oS (fGi g 15 12 5)) rfl rfl) (a_gi (zO_72 g))) ?_
  refine Eq.trans (Eq.trans (r_go (act := oS (fIf 18 51 cEq0)) rfl rfl) (a_if)) (bcg ?_ ?_)
  · refine Eq.trans (Eq.trans (r_go (act := oS (fAld 19 0)) rfl rfl) (a_ald rfl)) ?_
    refine Eq.trans (Eq.trans (r_go (act := oS (fGi g 22 12 7)) rfl rfl) (a_gi (zO_72 g))) ?_
    refine Eq.trans (Eq.trans (r_go (act := oS (fIf 25 51 cGt0)) rfl rfl) (a_if)) (bcg ?_ ?_)
    · refine Eq.trans (Eq.trans (r_go (act := oS (fAld 26 0)) rfl rfl) (a_ald rfl)) ?_
      refine Eq.trans (Eq.trans (r_go (act := oS (fSt 29 (gC (.int 1000)))) rfl rfl) (a_C)) ?_
      refine Eq.trans (Eq.trans (r_go (act := oCI 32 2 (zcv g 12) (X_X12_draw g)) rfl rfl) (a_cI rfl (zck (zO_72 g) rfl))) (zbI_cg (fun x2 M2 => ?_))
      refine Eq.trans (Eq.trans (r_go (act := oS (fAld 33 0)) rfl rfl) (a_ald rfl)) ?_
      refine Eq.trans (Eq.trans (r_go (act := oS (fGi g 36 12 7)) rfl rfl) (a_gi (zO_72 g))) ?_
      refine Eq.trans (Eq.trans (r_go (act := oS (fCm 39 51 cLt)) rfl rfl) (a_cm)) (bcg ?_ ?_)
      · refine Eq.trans (Eq.trans (r_go (act := oS (fIld 40 1)) rfl rfl) (a_ild rfl)) ?_
        refine Eq.trans (Eq.trans (r_go (act := oS (fAld 41 0)) rfl rfl) (a_ald rfl)) ?_
        refine Eq.trans (Eq.trans (r_go (act := oS (fSt 43 (gC (.int 21)))) rfl rfl) (a_C)) ?_
        refine Eq.trans (Eq.trans (r_go (act := oCI 46 2 (zcv g 12) (X_X12_draw g)) rfl rfl) (a_cI rfl (zck (zO_72 g) rfl))) (zbI_cg (fun x3 M3 => ?_))
        refine Eq.trans (Eq.trans (r_go (act := oS (fSt 47 (g2 (fun x y => x + y)))) rfl rfl) (a_add)) ?_
        refine Eq.trans (Eq.trans (r_go (act := oS (fSt 49 (gC (.int 10)))) rfl rfl) (a_C)) ?_
        refine Eq.trans (Eq.trans (r_go (act := oS (fSt 50 (g2 (fun x y => x - y)))) rfl rfl) (a_sub)) ?_
        refine Eq.trans (Eq.trans (r_go (act := oS (fIst 51 1)) rfl rfl) (a_ist rfl rfl)) ?_
        refine Eq.trans (Eq.trans (r_go (act := oS (fAld 52 0)) rfl rfl) (a_ald rfl)) ?_
        refine Eq.trans (Eq.trans (r_go (act := oS (fAld 53 0)) rfl rfl) (a_ald rfl)) ?_
        refine Eq.trans (Eq.trans (r_go (act := oS (fAld 54 0)) rfl rfl) (a_ald rfl)) ?_
        refine Eq.trans (Eq.trans (r_go (act := oCI 57 1 (zcv g 12) (X_X12_glass g)) rfl rfl) (a_cI rfl (zck (zO_72 g) rfl))) (zbI_cg (fun x4 M4 => ?_))
        refine Eq.trans (Eq.trans (r_go (act := oS (fIld 58 1)) rfl rfl) (a_ild rfl)) ?_
        refine Eq.trans (Eq.trans (r_go (act := oS (fSt 59 (g2 (fun x y => x + y)))) rfl rfl) (a_add)) ?_
        refine Eq.trans (Eq.trans (r_go (act := oS (fSt 60 (gC (.int 0)))) rfl rfl) (a_C)) ?_
        refine Eq.trans (Eq.trans (r_go (act := oS (fSt 62 (gC (.int 99)))) rfl rfl) (a_C)) ?_
        refine Eq.trans (Eq.trans (r_go (act := oCI 65 4 (zcv g 12) (X_X12_held g)) rfl rfl) (a_cI rfl (zck (zO_72 g) rfl))) (zbI_cg (fun x5 M5 => ?_))
        refine Eq.trans (Eq.trans (r_go (act := oCV 68 2 (zcv g 12) (X_X12_glassBe g)) rfl rfl) (a_cV rfl (zck (zO_72 g) rfl))) (zbV_cg (fun M6 => ?_))
        refine Eq.trans (Eq.trans (r_go (act := oS (fAld 69 0)) rfl rfl) (a_ald rfl)) ?_
        refine Eq.trans (Eq.trans (r_go (act := oS (fSt 70 (gC (.int 0)))) rfl rfl) (a_C)) ?_
        refine Eq.trans (Eq.trans (r_go (act := oS (fAld 71 0)) rfl rfl) (a_ald rfl)) ?_
        refine Eq.trans (Eq.trans (r_go (act := oS (fAld 72 0)) rfl rfl) (a_ald rfl)) ?_
        refine Eq.trans (Eq.trans (r_go (act := oCI 75 1 (zcv g 12) (X_X12_glass g)) rfl rfl) (a_cI rfl (zck (zO_72 g) rfl))) (zbI_cg (fun x7 M7 => ?_))
        refine Eq.trans (Eq.trans (r_go (act := oCI 78 2 (zcv g 12) (X_X12_kindOf g)) rfl rfl) (a_cI rfl (zck (zO_72 g) rfl))) (zbI_cg (fun x8 M8 => ?_))
        refine Eq.trans (Eq.trans (r_go (act := oS (fAld 79 0)) rfl rfl) (a_ald rfl)) ?_
        refine Eq.trans (Eq.trans (r_go (act := oCI 82 1 (zcv g 12) (X_X12_glass g)) rfl rfl) (a_cI rfl (zck (zO_72 g) rfl))) (zbI_cg (fun x9 M9 => ?_))
        refine Eq.trans (Eq.trans (r_go (act := oCV 85 4 (zcv g 12) (X_X12_notes g)) rfl rfl) (a_cV rfl (zck (zO_72 g) rfl))) (zbV_cg (fun M10 => ?_))
        exact Eq.trans (r_go (act := oVret) rfl rfl) (a_vret)
      · refine Eq.trans (Eq.trans (r_go (act := oS (fAld 52 0)) rfl rfl) (a_ald rfl)) ?_
        refine Eq.trans (Eq.trans (r_go (act := oS (fAld 53 0)) rfl rfl) (a_ald rfl)) ?_
        refine Eq.trans (Eq.trans (r_go (act := oS (fAld 54 0)) rfl rfl) (a_ald rfl)) ?_
        refine Eq.trans (Eq.trans (r_go (act := oCI 57 1 (zcv g 12) (X_X12_glass g)) rfl rfl) (a_cI rfl (zck (zO_72 g) rfl))) (zbI_cg (fun x11 M11 => ?_))
        refine Eq.trans (Eq.trans (r_go (act := oS (fIld 58 1)) rfl rfl) (a_ild rfl)) ?_
        refine Eq.trans (Eq.trans (r_go (act := oS (fSt 59 (g2 (fun x y => x + y)))) rfl rfl) (a_add)) ?_
        refine Eq.trans (Eq.trans (r_go (act := oS (fSt 60 (gC (.int 0)))) rfl rfl) (a_C)) ?_
        refine Eq.trans (Eq.trans (r_go (act := oS (fSt 62 (gC (.int 99)))) rfl rfl) (a_C)) ?_
        refine Eq.trans (Eq.trans (r_go (act := oCI 65 4 (zcv g 12) (X_X12_held g)) rfl rfl) (a_cI rfl (zck (zO_72 g) rfl))) (zbI_cg (fun x12 M12 => ?_))
        refine Eq.trans (Eq.trans (r_go (act := oCV 68 2 (zcv g 12) (X_X12_glassBe g)) rfl rfl) (a_cV rfl (zck (zO_72 g) rfl))) (zbV_cg (fun M13 => ?_))
        refine Eq.trans (Eq.trans (r_go (act := oS (fAld 69 0)) rfl rfl) (a_ald rfl)) ?_
        refine Eq.trans (Eq.trans (r_go (act := oS (fSt 70 (gC (.int 0)))) rfl rfl) (a_C)) ?_
        refine Eq.trans (Eq.trans (r_go (act := oS (fAld 71 0)) rfl rfl) (a_ald rfl)) ?_
        refine Eq.trans (Eq.trans (r_go (act := oS (fAld 72 0)) rfl rfl) (a_ald rfl)) ?_
        refine Eq.trans (Eq.trans (r_go (act := oCI 75 1 (zcv g 12) (X_X12_glass g)) rfl rfl) (a_cI rfl (zck (zO_72 g) rfl))) (zbI_cg (fun x14 M14 => ?_))
        refine Eq.trans (Eq.trans (r_go (act := oCI 78 2 (zcv g 12) (X_X12_kindOf g)) rfl rfl) (a_cI rfl (zck (zO_72 g) rfl))) (zbI_cg (fun x15 M15 => ?_))
        refine Eq.trans (Eq.trans (r_go (act := oS (fAld 79 0)) rfl rfl) (a_ald rfl)) ?_
        refine Eq.trans (Eq.trans (r_go (act := oCI 82 1 (zcv g 12) (X_X12_glass g)) rfl rfl) (a_cI rfl (zck (zO_72 g) rfl))) (zbI_cg (fun x16 M16 => ?_))
        refine Eq.trans (Eq.trans (r_go (act := oCV 85 4 (zcv g 12) (X_X12_notes g)) rfl rfl) (a_cV rfl (zck (zO_72 g) rfl))) (zbV_cg (fun M17 => ?_))
        exact Eq.trans (r_go (act := oVret) rfl rfl) (a_vret)
    · refine Eq.trans (Eq.trans (r_go (act := oS (fAld 52 0)) rfl rfl) (a_ald rfl)) ?_
      refine Eq.trans (Eq.trans (r_go (act := oS (fAld 53 0)) rfl rfl) (a_ald rfl)) ?_
      refine Eq.trans (Eq.trans (r_go (act := oS (fAld 54 0)) rfl rfl) (a_ald rfl)) ?_
      refine Eq.trans (Eq.trans (r_go (act := oCI 57 1 (zcv g 12) (X_X12_glass g)) rfl rfl) (a_cI rfl (zck (zO_72 g) rfl))) (zbI_cg (fun x18 M18 => ?_))
      refine Eq.trans (Eq.trans (r_go (act := oS (fIld 58 1)) rfl rfl) (a_ild rfl)) ?_
      refine Eq.trans (Eq.trans (r_go (act := oS (fSt 59 (g2 (fun x y => x + y)))) rfl rfl) (a_add)) ?_
      refine Eq.trans (Eq.trans (r_go (act := oS (fSt 60 (gC (.int 0)))) rfl rfl) (a_C)) ?_
      refine Eq.trans (Eq.trans (r_go (act := oS (fSt 62 (gC (.int 99)))) rfl rfl) (a_C)) ?_
      refine Eq.trans (Eq.trans (r_go (act := oCI 65 4 (zcv g 12) (X_X12_held g)) rfl rfl) (a_cI rfl (zck (zO_72 g) rfl))) (zbI_cg (fun x19 M19 => ?_))
      refine Eq.trans (Eq.trans (r_go (act := oCV 68 2 (zcv g 12) (X_X12_glassBe g)) rfl rfl) (a_cV rfl (zck (zO_72 g) rfl))) (zbV_cg (fun M20 => ?_))
      refine Eq.trans (Eq.trans (r_go (act := oS (fAld 69 0)) rfl rfl) (a_ald rfl)) ?_
      refine Eq.trans (Eq.trans (r_go (act := oS (fSt 70 (gC (.int 0)))) rfl rfl) (a_C)) ?_
      refine Eq.trans (Eq.trans (r_go (act := oS (fAld 71 0)) rfl rfl) (a_ald rfl)) ?_
      refine Eq.trans (Eq.trans (r_go (act := oS (fAld 72 0)) rfl rfl) (a_ald rfl)) ?_
      refine Eq.trans (Eq.trans (r_go (act := oCI 75 1 (zcv g 12) (X_X12_glass g)) rfl rfl) (a_cI rfl (zck (zO_72 g) rfl))) (zbI_cg (fun x21 M21 => ?_))
      refine Eq.trans (Eq.trans (r_go (act := oCI 78 2 (zcv g 12) (X_X12_kindOf g)) rfl rfl) (a_cI rfl (zck (zO_72 g) rfl))) (zbI_cg (fun x22 M22 => ?_))
      refine Eq.trans (Eq.trans (r_go (act := oS (fAld 79 0)) rfl rfl) (a_ald rfl)) ?_
      refine Eq.trans (Eq.trans (r_go (act := oCI 82 1 (zcv g 12) (X_X12_glass g)) rfl rfl) (a_cI rfl (zck (zO_72 g) rfl))) (zbI_cg (fun x23 M23 => ?_))
      refine Eq.trans (Eq.trans (r_go (act := oCV 85 4 (zcv g 12) (X_X12_notes g)) rfl rfl) (a_cV rfl (zck (zO_72 g) rfl))) (zbV_cg (fun M24 => ?_))
      exact Eq.trans (r_go (act := oVret) rfl rfl) (a_vret)
  · refine Eq.trans (Eq.trans (r_go (act := oS (fAld 52 0)) rfl rfl) (a_ald rfl)) ?_
    refine Eq.trans (Eq.trans (r_go (act := oS (fAld 53 0)) rfl rfl) (a_ald rfl)) ?_
    refine Eq.trans (Eq.trans (r_go (act := oS (fAld 54 0)) rfl rfl) (a_ald rfl)) ?_
    refine Eq.trans (Eq.trans (r_go (act := oCI 57 1 (zcv g 12) (X_X12_glass g)) rfl rfl) (a_cI rfl (zck (zO_72 g) rfl))) (zbI_cg (fun x25 M25 => ?_))
    refine Eq.trans (Eq.trans (r_go (act := oS (fIld 58 1)) rfl rfl) (a_ild rfl)) ?_
    refine Eq.trans (Eq.trans (r_go (act := oS (fSt 59 (g2 (fun x y => x + y)))) rfl rfl) (a_add)) ?_
    refine Eq.trans (Eq.trans (r_go (act := oS (fSt 60 (gC (.int 0)))) rfl rfl) (a_C)) ?_
    refine Eq.trans (Eq.trans (r_go (act := oS (fSt 62 (gC (.int 99)))) rfl rfl) (a_C)) ?_
    refine Eq.trans (Eq.trans (r_go (act := oCI 65 4 (zcv g 12) (X_X12_held g)) rfl rfl) (a_cI rfl (zck (zO_72 g) rfl))) (zbI_cg (fun x26 M26 => ?_))
    refine Eq.trans (Eq.trans (r_go (act := oCV 68 2 (zcv g 12) (X_X12_glassBe g)) rfl rfl) (a_cV rfl (zck (zO_72 g) rfl))) (zbV_cg (fun M27 => ?_))
    refine Eq.trans (Eq.trans (r_go (act := oS (fAld 69 0)) rfl rfl) (a_ald rfl)) ?_
    refine Eq.trans (Eq.trans (r_go (act := oS (fSt 70 (gC (.int 0)))) rfl rfl) (a_C)) ?_
    refine Eq.trans (Eq.trans (r_go (act := oS (fAld 71 0)) rfl rfl) (a_ald rfl)) ?_
    refine Eq.trans (Eq.trans (r_go (act := oS (fAld 72 0)) rfl rfl) (a_ald rfl)) ?_
    refine Eq.trans (Eq.trans (r_go (act := oCI 75 1 (zcv g 12) (X_X12_glass g)) rfl rfl) (a_cI rfl (zck (zO_72 g) rfl))) (zbI_cg (fun x28 M28 => ?_))
    refine Eq.trans (Eq.trans (r_go (act := oCI 78 2 (zcv g 12) (X_X12_kindOf g)) rfl rfl) (a_cI rfl (zck (zO_72 g) rfl))) (zbI_cg (fun x29 M29 => ?_))
    refine Eq.trans (Eq.trans (r_go (act := oS (fAld 79 0)) rfl rfl) (a_ald rfl)) ?_
    refine Eq.trans (Eq.trans (r_go (act := oCI 82 1 (zcv g 12) (X_X12_glass g)) rfl rfl) (a_cI rfl (zck (zO_72 g) rfl))) (zbI_cg (fun x30 M30 => ?_))
    refine Eq.trans (Eq.trans (r_go (act := oCV 85 4 (zcv g 12) (X_X12_notes g)) rfl rfl) (a_cV rfl (zck (zO_72 g) rfl))) (zbV_cg (fun M31 => ?_))
    exact Eq.trans (r_go (act := oVret) rfl rfl) (a_vret)
theorem x_X12_comes_0 (g : zg) (M : zM) : X_X12_comes g [.ref 72] M = (zbI (X_X12_rounded g [.ref 72, .int (M.1 73 0)] M) (fun x1 M1 => (bif cEq0 (M1.1 72 5) then (bif cGt0 (M1.1 72 7) then (zbI (X_X12_draw g [.ref 72, .int 1000] M1) (fun x2 M2 => (bif cLt x2 (M2.1 72 7) then (zbI (X_X12_draw g [.ref 72, .int 21] M2) (fun x3 M3 => (zbI (X_X12_glass g [.ref 72] M3) (fun x4 M4 => (zbI (X_X12_held g [.ref 72, .int (x4 + ((x1 + x3) - 10)), .int 0, .int 99] M4) (fun x5 M5 => (zbV (X_X12_glassBe g [.ref 72, .int x5] M5) (fun M6 => (zbI (X_X12_glass g [.ref 72] M6) (fun x7 M7 => (zbI (X_X12_kindOf g [.ref 72, .int x7] M7) (fun x8 M8 => (zbI (X_X12_glass g [.ref 72] M8) (fun x9 M9 => (zbV (X_X12_notes g [.ref 72, .int 0, .int x8, .int x9] M9) (fun M10 => some (none, M10))))))))))))))))) else (zbI (X_X12_glass g [.ref 72] M2) (fun x11 M11 => (zbI (X_X12_held g [.ref 72, .int (x11 + x1), .int 0, .int 99] M11) (fun x12 M12 => (zbV (X_X12_glassBe g [.ref 72, .int x12] M12) (fun M13 => (zbI (X_X12_glass g [.ref 72] M13) (fun x14 M14 => (zbI (X_X12_kindOf g [.ref 72, .int x14] M14) (fun x15 M15 => (zbI (X_X12_glass g [.ref 72] M15) (fun x16 M16 => (zbV (X_X12_notes g [.ref 72, .int 0, .int x15, .int x16] M16) (fun M17 => some (none, M17)))))))))))))))))) else (zbI (X_X12_glass g [.ref 72] M1) (fun x18 M18 => (zbI (X_X12_held g [.ref 72, .int (x18 + x1), .int 0, .int 99] M18) (fun x19 M19 => (zbV (X_X12_glassBe g [.ref 72, .int x19] M19) (fun M20 => (zbI (X_X12_glass g [.ref 72] M20) (fun x21 M21 => (zbI (X_X12_kindOf g [.ref 72, .int x21] M21) (fun x22 M22 => (zbI (X_X12_glass g [.ref 72] M22) (fun x23 M23 => (zbV (X_X12_notes g [.ref 72, .int 0, .int x22, .int x23] M23) (fun M24 => some (none, M24)))))))))))))))) else (zbI (X_X12_glass g [.ref 72] M1) (fun x25 M25 => (zbI (X_X12_held g [.ref 72, .int (x25 + x1), .int 0, .int 99] M25) (fun x26 M26 => (zbV (X_X12_glassBe g [.ref 72, .int x26] M26) (fun M27 => (zbI (X_X12_glass g [.ref 72] M27) (fun x28 M28 => (zbI (X_X12_kindOf g [.ref 72, .int x28] M28) (fun x29 M29 => (zbI (X_X12_glass g [.ref 72] M29) (fun x30 M30 => (zbV (X_X12_notes g [.ref 72, .int 0, .int x29, .int x30] M30) (fun M31 => some (none, M31)))))))))))))))))) := e_X12_comes_0 g M
set_option maxRecDepth 20000 in
theorem e_X12_records_0 (g : zg) (M : zM) : zX (t_X12_records g) 0 [some (.ref 72), none, none, none] [] M = zX (t_X12_records g) 6 [some (.ref 72), some (.int 0), some (.int 1), some (.int 0)] [] M := by
  refine Eq.trans (zX_rgN (tl_X12_records g) (hc_X12_records g) 8 _ _ _ _) ?_
  refine Eq.trans (Eq.trans (r_0 (act := oS (fSt 1 (gC (.int 0)))) rfl) (a_C)) ?_
  refine Eq.trans (Eq.trans (r_go (act := oS (fIst 2 1)) rfl rfl) (a_ist rfl rfl)) ?_
  refine Eq.trans (Eq.trans (r_go (act := oS (fSt 3 (gC (.int 1)))) rfl rfl) (a_C)) ?_
  refine Eq.trans (Eq.trans (r_go (act := oS (fIst 4 2)) rfl rfl) (a_ist rfl rfl)) ?_
  refine Eq.trans (Eq.trans (r_go (act := oS (fSt 5 (gC (.int 0)))) rfl rfl) (a_C)) ?_
  refine Eq.trans (Eq.trans (r_go (act := oS (fIst 6 3)) rfl rfl) (a_ist rfl rfl)) ?_
  exact r_cut rfl rfl
theorem x_X12_records_0 (g : zg) (M : zM) : X_X12_records g [.ref 72] M = zX (t_X12_records g) 6 [some (.ref 72), some (.int 0), some (.int 1), some (.int 0)] [] M := e_X12_records_0 g M
set_option maxRecDepth 20000 in
theorem e_X12_records_6 (g : zg) (a1 : Int32) (a2 : Int32) (a3 : Int32) (M : zM) : zX (t_X12_records g) 6 [some (.ref 72), some (.int a1), some (.int a2), some (.int a3)] [] M = (bif cLt a3 (M.1 72 6) then (bif zb (48 + a3) 148 then zX (t_X12_records g) 6 [some (.ref 72), some (.int (a1 + ((M.1 73 (zx (48 + a3))) * a2))), some (.int (a2 * 6)), some (.int (a3 + 1))] [] M else none) else (bif cEq0 a1 then some (none, M) else (bif cEq (M.1 73 7) 90 then zX (t_X12_records g) 67 [some (.ref 72), some (.int a1), none, some (.int 0)] [] ((zu M.1 73 7 89), M.2) else zX (t_X12_records g) 101 [some (.ref 72), some (.int a1), none, none] [] M))) := by
  refine Eq.trans (zX_rgN (tl_X12_records g) (hc_X12_records g) 23 _ _ _ _) ?_
  refine Eq.trans (Eq.trans (Eq.trans (r_0 (act := oF [] (oS (fIld 7 3))) rfl) (a_F rfl)) (a_ild rfl)) ?_
  refine Eq.trans (Eq.trans (r_go (act := oS (fAld 8 0)) rfl rfl) (a_ald rfl)) ?_
  refine Eq.trans (Eq.trans (r_go (act := oS (fGi g 11 12 6)) rfl rfl) (a_gi (zO_72 g))) ?_
  refine Eq.trans (Eq.trans (r_go (act := oS (fCm 14 39 cLt)) rfl rfl) (a_cm)) (bcg ?_ ?_)
  · refine Eq.trans (Eq.trans (r_go (act := oS (fIld 15 1)) rfl rfl) (a_ild rfl)) ?_
    refine Eq.trans (Eq.trans (r_go (act := oS (fAld 16 0)) rfl rfl) (a_ald rfl)) ?_
    refine Eq.trans (Eq.trans (r_go (act := oS (fGr g 19 12 1)) rfl rfl) (a_gr (zO_72 g) (zR_72_1 g))) ?_
    refine Eq.trans (Eq.trans (r_go (act := oS (fSt 21 (gC (.int 48)))) rfl rfl) (a_C)) ?_
    refine Eq.trans (Eq.trans (r_go (act := oS (fIld 22 3)) rfl rfl) (a_ild rfl)) ?_
    refine Eq.trans (Eq.trans (r_go (act := oS (fSt 23 (g2 (fun x y => x + y)))) rfl rfl) (a_add)) ?_
    refine Eq.trans (Eq.trans (r_go (act := oS (fIa g 24)) rfl rfl) (a_ia (zA_73 g) zS_73)) (bcg ?_ rfl)
    refine Eq.trans (Eq.trans (r_go (act := oS (fIld 25 2)) rfl rfl) (a_ild rfl)) ?_
    refine Eq.trans (Eq.trans (r_go (act := oS (fSt 26 (g2 (fun x y => x * y)))) rfl rfl) (a_mul)) ?_
    refine Eq.trans (Eq.trans (r_go (act := oS (fSt 27 (g2 (fun x y => x + y)))) rfl rfl) (a_add)) ?_
    refine Eq.trans (Eq.trans (r_go (act := oS (fIst 28 1)) rfl rfl) (a_ist rfl rfl)) ?_
    refine Eq.trans (Eq.trans (r_go (act := oS (fIld 29 2)) rfl rfl) (a_ild rfl)) ?_
    refine Eq.trans (Eq.trans (r_go (act := oS (fSt 31 (gC (.int 6)))) rfl rfl) (a_C)) ?_
    refine Eq.trans (Eq.trans (r_go (act := oS (fSt 32 (g2 (fun x y => x * y)))) rfl rfl) (a_mul)) ?_
    refine Eq.trans (Eq.trans (r_go (act := oS (fIst 33 2)) rfl rfl) (a_ist rfl rfl)) ?_
    refine Eq.trans (Eq.trans (r_go (act := oS (fInc 36 3 1)) rfl rfl) (a_inc rfl rfl rfl)) ?_
    refine Eq.trans (Eq.trans (r_go (act := oS (fGo 6)) rfl rfl) (a_goto)) ?_
    exact r_cut rfl rfl
  · refine Eq.trans (Eq.trans (r_go (act := oS (fIld 40 1)) rfl rfl) (a_ild rfl)) ?_
    refine Eq.trans (Eq.trans (r_go (act := oS (fIf 43 44 cEq0)) rfl rfl) (a_if)) (bcg ?_ ?_)
    · exact Eq.trans (r_go (act := oVret) rfl rfl) (a_vret)
    · refine Eq.trans (Eq.trans (r_go (act := oS (fAld 45 0)) rfl rfl) (a_ald rfl)) ?_
      refine Eq.trans (Eq.trans (r_go (act := oS (fGr g 48 12 1)) rfl rfl) (a_gr (zO_72 g) (zR_72_1 g))) ?_
      refine Eq.trans (Eq.trans (r_go (act := oS (fSt 50 (gC (.int 7)))) rfl rfl) (a_C)) ?_
      refine Eq.trans (Eq.trans (r_go (act := oS (fIa g 51)) rfl rfl) (a_iaK (j := 7) (zA_73 g) zS_73 (by decide +kernel) (by decide +kernel))) ?_
      refine Eq.trans (Eq.trans (r_go (act := oS (fSt 53 (gC (.int 90)))) rfl rfl) (a_C)) ?_
      refine Eq.trans (Eq.trans (r_go (act := oS (fCm 56 101 cEq)) rfl rfl) (a_cm)) (bcg ?_ ?_)
      · refine Eq.trans (Eq.trans (r_go (act := oS (fAld 57 0)) rfl rfl) (a_ald rfl)) ?_
        refine Eq.trans (Eq.trans (r_go (act := oS (fGr g 60 12 1)) rfl rfl) (a_gr (zO_72 g) (zR_72_1 g))) ?_
        refine Eq.trans (Eq.trans (r_go (act := oS (fSt 62 (gC (.int 7)))) rfl rfl) (a_C)) ?_
        refine Eq.trans (Eq.trans (r_go (act := oS (fSt 64 (gC (.int 89)))) rfl rfl) (a_C)) ?_
        refine Eq.trans (Eq.trans (r_go (act := oS (fIs g 65)) rfl rfl) (a_isK (j := 7) (zA_73 g) zS_73 (by decide +kernel) (by decide +kernel))) ?_
        refine Eq.trans (Eq.trans (r_go (act := oS (fSt 66 (gC (.int 0)))) rfl rfl) (a_C)) ?_
        refine Eq.trans (Eq.trans (r_go (act := oS (fIst 67 3)) rfl rfl) (a_ist rfl rfl)) ?_
        exact r_cut rfl rfl
      · exact r_cut rfl rfl
set_option maxRecDepth 20000 in
theorem e_X12_records_67 (g : zg) (a1 : Int32) (a3 : Int32) (M : zM) : zX (t_X12_records g) 67 [some (.ref 72), some (.int a1), none, some (.int a3)] [] M = (bif cLt (a3 + 1) 90 then (bif zb ((58 + a3) + 1) 148 then (bif zb (58 + a3) 148 then zX (t_X12_records g) 67 [some (.ref 72), some (.int a1), none, some (.int (a3 + 1))] [] ((zu M.1 73 (zx (58 + a3)) (M.1 73 (zx ((58 + a3) + 1)))), M.2) else none) else none) else zX (t_X12_records g) 101 [some (.ref 72), some (.int a1), none, none] [] M) := by
  refine Eq.trans (zX_rgN (tl_X12_records g) (hc_X12_records g) 23 _ _ _ _) ?_
  refine Eq.trans (Eq.trans (Eq.trans (r_0 (act := oF [2] (oS (fIld 68 3))) rfl) (a_F rfl)) (a_ild rfl)) ?_
  refine Eq.trans (Eq.trans (r_go (act := oS (fSt 69 (gC (.int 1)))) rfl rfl) (a_C)) ?_
  refine Eq.trans (Eq.trans (r_go (act := oS (fSt 70 (g2 (fun x y => x + y)))) rfl rfl) (a_add)) ?_
  refine Eq.trans (Eq.trans (r_go (act := oS (fSt 72 (gC (.int 90)))) rfl rfl) (a_C)) ?_
  refine Eq.trans (Eq.trans (r_go (act := oS (fCm 75 101 cLt)) rfl rfl) (a_cm)) (bcg ?_ ?_)
  · refine Eq.trans (Eq.trans (r_go (act := oS (fAld 76 0)) rfl rfl) (a_ald rfl)) ?_
    refine Eq.trans (Eq.trans (r_go (act := oS (fGr g 79 12 1)) rfl rfl) (a_gr (zO_72 g) (zR_72_1 g))) ?_
    refine Eq.trans (Eq.trans (r_go (act := oS (fSt 81 (gC (.int 58)))) rfl rfl) (a_C)) ?_
    refine Eq.trans (Eq.trans (r_go (act := oS (fIld 82 3)) rfl rfl) (a_ild rfl)) ?_
    refine Eq.trans (Eq.trans (r_go (act := oS (fSt 83 (g2 (fun x y => x + y)))) rfl rfl) (a_add)) ?_
    refine Eq.trans (Eq.trans (r_go (act := oS (fAld 84 0)) rfl rfl) (a_ald rfl)) ?_
    refine Eq.trans (Eq.trans (r_go (act := oS (fGr g 87 12 1)) rfl rfl) (a_gr (zO_72 g) (zR_72_1 g))) ?_
    refine Eq.trans (Eq.trans (r_go (act := oS (fSt 89 (gC (.int 58)))) rfl rfl) (a_C)) ?_
    refine Eq.trans (Eq.trans (r_go (act := oS (fIld 90 3)) rfl rfl) (a_ild rfl)) ?_
    refine Eq.trans (Eq.trans (r_go (act := oS (fSt 91 (g2 (fun x y => x + y)))) rfl rfl) (a_add)) ?_
    refine Eq.trans (Eq.trans (r_go (act := oS (fSt 92 (gC (.int 1)))) rfl rfl) (a_C)) ?_
    refine Eq.trans (Eq.trans (r_go (act := oS (fSt 93 (g2 (fun x y => x + y)))) rfl rfl) (a_add)) ?_
    refine Eq.trans (Eq.trans (r_go (act := oS (fIa g 94)) rfl rfl) (a_ia (zA_73 g) zS_73)) (bcg ?_ rfl)
    refine Eq.trans (Eq.trans (r_go (act := oS (fIs g 95)) rfl rfl) (a_is (zA_73 g) zS_73)) (bcg ?_ rfl)
    refine Eq.trans (Eq.trans (r_go (act := oS (fInc 98 3 1)) rfl rfl) (a_inc rfl rfl rfl)) ?_
    refine Eq.trans (Eq.trans (r_go (act := oS (fGo 67)) rfl rfl) (a_goto)) ?_
    exact r_cut rfl rfl
  · exact r_cut rfl rfl
set_option maxRecDepth 20000 in
theorem e_X12_records_101 (g : zg) (a1 : Int32) (M : zM) : zX (t_X12_records g) 101 [some (.ref 72), some (.int a1), none, none] [] M = (zbI (X_X12_glass g [.ref 72] M) (fun x1 M1 => (zbI (X_X12_kindOf g [.ref 72, .int x1] M1) (fun x2 M2 => (bif zb (58 + (M.1 73 7)) 148 then some (none, ((zu (zu M2.1 73 (zx (58 + (M.1 73 7))) ((5 * a1) + x2)) 73 7 (((zu M2.1 73 (zx (58 + (M.1 73 7))) ((5 * a1) + x2)) 73 7) + 1)), M2.2)) else none))))) := by
  refine Eq.trans (zX_rgN (tl_X12_records g) (hc_X12_records g) 29 _ _ _ _) ?_
  refine Eq.trans (Eq.trans (Eq.trans (r_0 (act := oF [2, 3] (oS (fAld 102 0))) rfl) (a_F rfl)) (a_ald rfl)) ?_
  refine Eq.trans (Eq.trans (r_go (act := oS (fGr g 105 12 1)) rfl rfl) (a_gr (zO_72 g) (zR_72_1 g))) ?_
  refine Eq.trans (Eq.trans (r_go (act := oS (fSt 107 (gC (.int 58)))) rfl rfl) (a_C)) ?_
  refine Eq.trans (Eq.trans (r_go (act := oS (fAld 108 0)) rfl rfl) (a_ald rfl)) ?_
  refine Eq.trans (Eq.trans (r_go (act := oS (fGr g 111 12 1)) rfl rfl) (a_gr (zO_72 g) (zR_72_1 g))) ?_
  refine Eq.trans (Eq.trans (r_go (act := oS (fSt 113 (gC (.int 7)))) rfl rfl) (a_C)) ?_
  refine Eq.trans (Eq.trans (r_go (act := oS (fIa g 114)) rfl rfl) (a_iaK (j := 7) (zA_73 g) zS_73 (by decide +kernel) (by decide +kernel))) ?_
  refine Eq.trans (Eq.trans (r_go (act := oS (fSt 115 (g2 (fun x y => x + y)))) rfl rfl) (a_add)) ?_
  refine Eq.trans (Eq.trans (r_go (act := oS (fSt 116 (gC (.int 5)))) rfl rfl) (a_C)) ?_
  refine Eq.trans (Eq.trans (r_go (act := oS (fIld 117 1)) rfl rfl) (a_ild rfl)) ?_
  refine Eq.trans (Eq.trans (r_go (act := oS (fSt 118 (g2 (fun x y => x * y)))) rfl rfl) (a_mul)) ?_
  refine Eq.trans (Eq.trans (r_go (act := oS (fAld 119 0)) rfl rfl) (a_ald rfl)) ?_
  refine Eq.trans (Eq.trans (r_go (act := oS (fAld 120 0)) rfl rfl) (a_ald rfl)) ?_
  refine Eq.trans (Eq.trans (r_go (act := oCI 123 1 (zcv g 12) (X_X12_glass g)) rfl rfl) (a_cI rfl (zck (zO_72 g) rfl))) (zbI_cg (fun x1 M1 => ?_))
  refine Eq.trans (Eq.trans (r_go (act := oCI 126 2 (zcv g 12) (X_X12_kindOf g)) rfl rfl) (a_cI rfl (zck (zO_72 g) rfl))) (zbI_cg (fun x2 M2 => ?_))
  refine Eq.trans (Eq.trans (r_go (act := oS (fSt 127 (g2 (fun x y => x + y)))) rfl rfl) (a_add)) ?_
  refine Eq.trans (Eq.trans (r_go (act := oS (fIs g 128)) rfl rfl) (a_is (zA_73 g) zS_73)) (bcg ?_ rfl)
  refine Eq.trans (Eq.trans (r_go (act := oS (fAld 129 0)) rfl rfl) (a_ald rfl)) ?_
  refine Eq.trans (Eq.trans (r_go (act := oS (fGr g 132 12 1)) rfl rfl) (a_gr (zO_72 g) (zR_72_1 g))) ?_
  refine Eq.trans (Eq.trans (r_go (act := oS (fSt 134 (gC (.int 7)))) rfl rfl) (a_C)) ?_
  refine Eq.trans (Eq.trans (r_go (act := oS (fAld 135 0)) rfl rfl) (a_ald rfl)) ?_
  refine Eq.trans (Eq.trans (r_go (act := oS (fGr g 138 12 1)) rfl rfl) (a_gr (zO_72 g) (zR_72_1 g))) ?_
  refine Eq.trans (Eq.trans (r_go (act := oS (fSt 140 (gC (.int 7)))) rfl rfl) (a_C)) ?_
  refine Eq.trans (Eq.trans (r_go (act := oS (fIa g 141)) rfl rfl) (a_iaK (j := 7) (zA_73 g) zS_73 (by decide +kernel) (by decide +kernel))) ?_
  refine Eq.trans (Eq.trans (r_go (act := oS (fSt 142 (gC (.int 1)))) rfl rfl) (a_C)) ?_
  refine Eq.trans (Eq.trans (r_go (act := oS (fSt 143 (g2 (fun x y => x + y)))) rfl rfl) (a_add)) ?_
  refine Eq.trans (Eq.trans (r_go (act := oS (fIs g 144)) rfl rfl) (a_isK (j := 7) (zA_73 g) zS_73 (by decide +kernel) (by decide +kernel))) ?_
  exact Eq.trans (r_go (act := oVret) rfl rfl) (a_vret)
set_option maxRecDepth 20000 in
theorem e_X12_saidBy_0 (g : zg) (a1 : Int32) (M : zM) : zX (t_X12_saidBy g) 0 [some (.ref 72), some (.int a1)] [] M = (bif zb (48 + a1) 148 then some (some (.int ((M.1 73 (zx (48 + a1))) - 1)), M) else none) := by
  refine Eq.trans (zX_rgN (tl_X12_saidBy g) (hc_X12_saidBy g) 10 _ _ _ _) ?_
  refine Eq.trans (Eq.trans (r_0 (act := oS (fAld 1 0)) rfl) (a_ald rfl)) ?_
  refine Eq.trans (Eq.trans (r_go (act := oS (fGr g 4 12 1)) rfl rfl) (a_gr (zO_72 g) (zR_72_1 g))) ?_
  refine Eq.trans (Eq.trans (r_go (act := oS (fSt 6 (gC (.int 48)))) rfl rfl) (a_C)) ?_
  refine Eq.trans (Eq.trans (r_go (act := oS (fIld 7 1)) rfl rfl) (a_ild rfl)) ?_
  refine Eq.trans (Eq.trans (r_go (act := oS (fSt 8 (g2 (fun x y => x + y)))) rfl rfl) (a_add)) ?_
  refine Eq.trans (Eq.trans (r_go (act := oS (fIa g 9)) rfl rfl) (a_ia (zA_73 g) zS_73)) (bcg ?_ rfl)
  refine Eq.trans (Eq.trans (r_go (act := oS (fSt 10 (gC (.int 1)))) rfl rfl) (a_C)) ?_
  refine Eq.trans (Eq.trans (r_go (act := oS (fSt 11 (g2 (fun x y => x - y)))) rfl rfl) (a_sub)) ?_
  exact Eq.trans (r_go (act := oIret) rfl rfl) (a_iret)
theorem x_X12_saidBy_0 (g : zg) (a1 : Int32) (M : zM) : X_X12_saidBy g [.ref 72, .int a1] M = (bif zb (48 + a1) 148 then some (some (.int ((M.1 73 (zx (48 + a1))) - 1)), M) else none) := e_X12_saidBy_0 g a1 M
set_option maxRecDepth 20000 in
theorem e_X12_far_0 (g : zg) (a1 : Int32) (a2 : Int32) (M : zM) : zX (t_X12_far g) 0 [some (.ref 72), some (.int a1), some (.int a2)] [] M = (bif cGt a1 a2 then some (some (.int (a1 - a2)), M) else some (some (.int (a2 - a1)), M)) := by
  refine Eq.trans (zX_rgN (tl_X12_far g) (hc_X12_far g) 9 _ _ _ _) ?_
  refine Eq.trans (Eq.trans (r_0 (act := oS (fIld 1 1)) rfl) (a_ild rfl)) ?_
  refine Eq.trans (Eq.trans (r_go (act := oS (fIld 2 2)) rfl rfl) (a_ild rfl)) ?_
  refine Eq.trans (Eq.trans (r_go (act := oS (fCm 5 11 cGt)) rfl rfl) (a_cm)) (bcg ?_ ?_)
  · refine Eq.trans (Eq.trans (r_go (act := oS (fIld 6 1)) rfl rfl) (a_ild rfl)) ?_
    refine Eq.trans (Eq.trans (r_go (act := oS (fIld 7 2)) rfl rfl) (a_ild rfl)) ?_
    refine Eq.trans (Eq.trans (r_go (act := oS (fSt 8 (g2 (fun x y => x - y)))) rfl rfl) (a_sub)) ?_
    refine Eq.trans (Eq.trans (r_go (act := oS (fGo 14)) rfl rfl) (a_goto)) ?_
    exact Eq.trans (r_go (act := oIret) rfl rfl) (a_iret)
  · refine Eq.trans (Eq.trans (r_go (act := oS (fIld 12 2)) rfl rfl) (a_ild rfl)) ?_
    refine Eq.trans (Eq.trans (r_go (act := oS (fIld 13 1)) rfl rfl) (a_ild rfl)) ?_
    refine Eq.trans (Eq.trans (r_go (act := oS (fSt 14 (g2 (fun x y => x - y)))) rfl rfl) (a_sub)) ?_
    exact Eq.trans (r_go (act := oIret) rfl rfl) (a_iret)
theorem x_X12_far_0 (g : zg) (a1 : Int32) (a2 : Int32) (M : zM) : X_X12_far g [.ref 72, .int a1, .int a2] M = (bif cGt a1 a2 then some (some (.int (a1 - a2)), M) else some (some (.int (a2 - a1)), M)) := e_X12_far_0 g a1 a2 M
set_option maxRecDepth 20000 in
theorem e_X12_blameFor_0 (g : zg) (a1 : Int32) (a2 : Int32) (M : zM) : zX (t_X12_blameFor g) 0 [some (.ref 72), some (.int a1), some (.int a2)] [] M = (zbI (X_X12_glass g [.ref 72] M) (fun x1 M1 => (zbI (X_X12_kindOf g [.ref 72, .int x1] M1) (fun x2 M2 => (zbI (X_X12_far g [.ref 72, .int a2, .int x2] M2) (fun x3 M3 => (zbV (X_X12_asks g [.ref 72, .int a1, .int x3] M3) (fun M4 => (zbI (X_X12_lawTells g [.ref 72, .int 2, .int (3 * (M4.1 91 8)), .int 99] M4) (fun x5 M5 => some (some (.int x5), M5))))))))))) := by
  refine Eq.trans (zX_rgN (tl_X12_blameFor g) (hc_X12_blameFor g) 22 _ _ _ _) ?_
  refine Eq.trans (Eq.trans (r_0 (act := oS (fAld 1 0)) rfl) (a_ald rfl)) ?_
  refine Eq.trans (Eq.trans (r_go (act := oS (fIld 2 1)) rfl rfl) (a_ild rfl)) ?_
  refine Eq.trans (Eq.trans (r_go (act := oS (fAld 3 0)) rfl rfl) (a_ald rfl)) ?_
  refine Eq.trans (Eq.trans (r_go (act := oS (fIld 4 2)) rfl rfl) (a_ild rfl)) ?_
  refine Eq.trans (Eq.trans (r_go (act := oS (fAld 5 0)) rfl rfl) (a_ald rfl)) ?_
  refine Eq.trans (Eq.trans (r_go (act := oS (fAld 6 0)) rfl rfl) (a_ald rfl)) ?_
  refine Eq.trans (Eq.trans (r_go (act := oCI 9 1 (zcv g 12) (X_X12_glass g)) rfl rfl) (a_cI rfl (zck (zO_72 g) rfl))) (zbI_cg (fun x1 M1 => ?_))
  refine Eq.trans (Eq.trans (r_go (act := oCI 12 2 (zcv g 12) (X_X12_kindOf g)) rfl rfl) (a_cI rfl (zck (zO_72 g) rfl))) (zbI_cg (fun x2 M2 => ?_))
  refine Eq.trans (Eq.trans (r_go (act := oCI 15 3 (zcv g 12) (X_X12_far g)) rfl rfl) (a_cI rfl (zck (zO_72 g) rfl))) (zbI_cg (fun x3 M3 => ?_))
  refine Eq.trans (Eq.trans (r_go (act := oCV 18 3 (zcv g 12) (X_X12_asks g)) rfl rfl) (a_cV rfl (zck (zO_72 g) rfl))) (zbV_cg (fun M4 => ?_))
  refine Eq.trans (Eq.trans (r_go (act := oS (fAld 19 0)) rfl rfl) (a_ald rfl)) ?_
  refine Eq.trans (Eq.trans (r_go (act := oS (fSt 20 (gC (.int 2)))) rfl rfl) (a_C)) ?_
  refine Eq.trans (Eq.trans (r_go (act := oS (fSt 21 (gC (.int 3)))) rfl rfl) (a_C)) ?_
  refine Eq.trans (Eq.trans (r_go (act := oS (fAld 22 0)) rfl rfl) (a_ald rfl)) ?_
  refine Eq.trans (Eq.trans (r_go (act := oS (fGr g 25 12 39)) rfl rfl) (a_gr (zO_72 g) (zR_72_39 g))) ?_
  refine Eq.trans (Eq.trans (r_go (act := oS (fSt 27 (gC (.int 8)))) rfl rfl) (a_C)) ?_
  refine Eq.trans (Eq.trans (r_go (act := oS (fIa g 28)) rfl rfl) (a_iaK (j := 8) (zA_91 g) zS_91 (by decide +kernel) (by decide +kernel))) ?_
  refine Eq.trans (Eq.trans (r_go (act := oS (fSt 29 (g2 (fun x y => x * y)))) rfl rfl) (a_mul)) ?_
  refine Eq.trans (Eq.trans (r_go (act := oS (fSt 31 (gC (.int 99)))) rfl rfl) (a_C)) ?_
  refine Eq.trans (Eq.trans (r_go (act := oCI 34 4 (zcv g 12) (X_X12_lawTells g)) rfl rfl) (a_cI rfl (zck (zO_72 g) rfl))) (zbI_cg (fun x5 M5 => ?_))
  exact Eq.trans (r_go (act := oIret) rfl rfl) (a_iret)
theorem x_X12_blameFor_0 (g : zg) (a1 : Int32) (a2 : Int32) (M : zM) : X_X12_blameFor g [.ref 72, .int a1, .int a2] M = (zbI (X_X12_glass g [.ref 72] M) (fun x1 M1 => (zbI (X_X12_kindOf g [.ref 72, .int x1] M1) (fun x2 M2 => (zbI (X_X12_far g [.ref 72, .int a2, .int x2] M2) (fun x3 M3 => (zbV (X_X12_asks g [.ref 72, .int a1, .int x3] M3) (fun M4 => (zbI (X_X12_lawTells g [.ref 72, .int 2, .int (3 * (M4.1 91 8)), .int 99] M4) (fun x5 M5 => some (some (.int x5), M5))))))))))) := e_X12_blameFor_0 g a1 a2 M
set_option maxRecDepth 20000 in
theorem e_X12_judges_0 (g : zg) (M : zM) : zX (t_X12_judges g) 0 [some (.ref 72), none, none, none, none, none] [] M = zX (t_X12_judges g) 6 [some (.ref 72), some (.int (-1)), some (.int 0), some (.int 0), none, none] [] M := by
  refine Eq.trans (zX_rgN (tl_X12_judges g) (hc_X12_judges g) 8 _ _ _ _) ?_
  refine Eq.trans (Eq.trans (r_0 (act := oS (fSt 1 (gC (.int (-1))))) rfl) (a_C)) ?_
  refine Eq.trans (Eq.trans (r_go (act := oS (fIst 2 1)) rfl rfl) (a_ist rfl rfl)) ?_
  refine Eq.trans (Eq.trans (r_go (act := oS (fSt 3 (gC (.int 0)))) rfl rfl) (a_C)) ?_
  refine Eq.trans (Eq.trans (r_go (act := oS (fIst 4 2)) rfl rfl) (a_ist rfl rfl)) ?_
  refine Eq.trans (Eq.trans (r_go (act := oS (fSt 5 (gC (.int 0)))) rfl rfl) (a_C)) ?_
  refine Eq.trans (Eq.trans (r_go (act := oS (fIst 6 3)) rfl rfl) (a_ist rfl rfl)) ?_
  exact r_cut rfl rfl
theorem x_X12_judges_0 (g : zg) (M : zM) : X_X12_judges g [.ref 72] M = zX (t_X12_judges g) 6 [some (.ref 72), some (.int (-1)), some (.int 0), some (.int 0), none, none] [] M := e_X12_judges_0 g M
set_option maxRecDepth 20000 in
theorem e_X12_judges_6 (g : zg) (a1 : Int32) (a2 : Int32) (a3 : Int32) (M : zM) : zX (t_X12_judges g) 6 [some (.ref 72), some (.int a1), some (.int a2), some (.int a3), none, none] [] M = (bif cLt a3 (M.1 72 6) then (zbI (X_X12_isHere g [.ref 72, .int a3] M) (fun x1 M1 => (bif cEq0 x1 then zX (t_X12_judges g) 6 [some (.ref 72), some (.int a1), some (.int a2), some (.int (a3 + 1)), none, none] [] M1 else (zbI (X_X12_saidBy g [.ref 72, .int a3] M1) (fun x2 M2 => (zbI (X_X12_glass g [.ref 72] M2) (fun x3 M3 => (zbI (X_X12_kindOf g [.ref 72, .int x3] M3) (fun x4 M4 => (bif cEq x2 x4 then zX (t_X12_judges g) 68 [some (.ref 72), some (.int a1), some (.int a2), some (.int a3), some (.int 1), none] [.int 1] M4 else (zbI (X_X12_saidBy g [.ref 72, .int a3] M4) (fun x5 M5 => (zbI (X_X12_blameFor g [.ref 72, .int a3, .int x5] M5) (fun x6 M6 => zX (t_X12_judges g) 68 [some (.ref 72), some (.int a1), some (.int a2), some (.int a3), some (.int 0), none] [.int (-x6)] M6)))))))))))))) else (bif cEq a1 (-1) then some (none, M) else (zbV (X_X12_notes g [.ref 72, .int 1, .int a1, .int a2] M) (fun M7 => some (none, M7))))) := by
  refine Eq.trans (zX_rgN (tl_X12_judges g) (hc_X12_judges g) 29 _ _ _ _) ?_
  refine Eq.trans (Eq.trans (Eq.trans (r_0 (act := oF [4, 5] (oS (fIld 7 3))) rfl) (a_F rfl)) (a_ild rfl)) ?_
  refine Eq.trans (Eq.trans (r_go (act := oS (fAld 8 0)) rfl rfl) (a_ald rfl)) ?_
  refine Eq.trans (Eq.trans (r_go (act := oS (fGi g 11 12 6)) rfl rfl) (a_gi (zO_72 g))) ?_
  refine Eq.trans (Eq.trans (r_go (act := oS (fCm 14 126 cLt)) rfl rfl) (a_cm)) (bcg ?_ ?_)
  · refine Eq.trans (Eq.trans (r_go (act := oS (fAld 15 0)) rfl rfl) (a_ald rfl)) ?_
    refine Eq.trans (Eq.trans (r_go (act := oS (fIld 16 3)) rfl rfl) (a_ild rfl)) ?_
    refine Eq.trans (Eq.trans (r_go (act := oCI 19 2 (zcv g 12) (X_X12_isHere g)) rfl rfl) (a_cI rfl (zck (zO_72 g) rfl))) (zbI_cg (fun x1 M1 => ?_))
    refine Eq.trans (Eq.trans (r_go (act := oS (fIf 22 25 cEq0)) rfl rfl) (a_if)) (bcg ?_ ?_)
    · refine Eq.trans (Eq.trans (r_go (act := oS (fGo 120)) rfl rfl) (a_goto)) ?_
      refine Eq.trans (Eq.trans (r_go (act := oS (fInc 123 3 1)) rfl rfl) (a_inc rfl rfl rfl)) ?_
      refine Eq.trans (Eq.trans (r_go (act := oS (fGo 6)) rfl rfl) (a_goto)) ?_
      exact r_cut rfl rfl
    · refine Eq.trans (Eq.trans (r_go (act := oS (fAld 26 0)) rfl rfl) (a_ald rfl)) ?_
      refine Eq.trans (Eq.trans (r_go (act := oS (fIld 27 3)) rfl rfl) (a_ild rfl)) ?_
      refine Eq.trans (Eq.trans (r_go (act := oCI 30 2 (zcv g 12) (X_X12_saidBy g)) rfl rfl) (a_cI rfl (zck (zO_72 g) rfl))) (zbI_cg (fun x2 M2 => ?_))
      refine Eq.trans (Eq.trans (r_go (act := oS (fAld 31 0)) rfl rfl) (a_ald rfl)) ?_
      refine Eq.trans (Eq.trans (r_go (act := oS (fAld 32 0)) rfl rfl) (a_ald rfl)) ?_
      refine Eq.trans (Eq.trans (r_go (act := oCI 35 1 (zcv g 12) (X_X12_glass g)) rfl rfl) (a_cI rfl (zck (zO_72 g) rfl))) (zbI_cg (fun x3 M3 => ?_))
      refine Eq.trans (Eq.trans (r_go (act := oCI 38 2 (zcv g 12) (X_X12_kindOf g)) rfl rfl) (a_cI rfl (zck (zO_72 g) rfl))) (zbI_cg (fun x4 M4 => ?_))
      refine Eq.trans (Eq.trans (r_go (act := oS (fCm 41 45 cEq)) rfl rfl) (a_cm)) (bcg ?_ ?_)
      · refine Eq.trans (Eq.trans (r_go (act := oS (fSt 42 (gC (.int 1)))) rfl rfl) (a_C)) ?_
        refine Eq.trans (Eq.trans (r_go (act := oS (fGo 46)) rfl rfl) (a_goto)) ?_
        refine Eq.trans (Eq.trans (r_go (act := oS (fIst 48 4)) rfl rfl) (a_ist rfl rfl)) ?_
        refine Eq.trans (Eq.trans (r_go (act := oS (fIld 50 4)) rfl rfl) (a_ild rfl)) ?_
        refine Eq.trans (Eq.trans (r_go (act := oS (fIf 57 53 cEq0)) rfl rfl) (a_ifF (by decide +kernel))) ?_
        refine Eq.trans (Eq.trans (r_go (act := oS (fSt 54 (gC (.int 1)))) rfl rfl) (a_C)) ?_
        refine Eq.trans (Eq.trans (r_go (act := oS (fGo 68)) rfl rfl) (a_goto)) ?_
        exact r_cut rfl rfl
      · refine Eq.trans (Eq.trans (r_go (act := oS (fSt 46 (gC (.int 0)))) rfl rfl) (a_C)) ?_
        refine Eq.trans (Eq.trans (r_go (act := oS (fIst 48 4)) rfl rfl) (a_ist rfl rfl)) ?_
        refine Eq.trans (Eq.trans (r_go (act := oS (fIld 50 4)) rfl rfl) (a_ild rfl)) ?_
        refine Eq.trans (Eq.trans (r_go (act := oS (fIf 57 53 cEq0)) rfl rfl) (a_ifT (by decide +kernel))) ?_
        refine Eq.trans (Eq.trans (r_go (act := oS (fAld 58 0)) rfl rfl) (a_ald rfl)) ?_
        refine Eq.trans (Eq.trans (r_go (act := oS (fIld 59 3)) rfl rfl) (a_ild rfl)) ?_
        refine Eq.trans (Eq.trans (r_go (act := oS (fAld 60 0)) rfl rfl) (a_ald rfl)) ?_
        refine Eq.trans (Eq.trans (r_go (act := oS (fIld 61 3)) rfl rfl) (a_ild rfl)) ?_
        refine Eq.trans (Eq.trans (r_go (act := oCI 64 2 (zcv g 12) (X_X12_saidBy g)) rfl rfl) (a_cI rfl (zck (zO_72 g) rfl))) (zbI_cg (fun x5 M5 => ?_))
        refine Eq.trans (Eq.trans (r_go (act := oCI 67 3 (zcv g 12) (X_X12_blameFor g)) rfl rfl) (a_cI rfl (zck (zO_72 g) rfl))) (zbI_cg (fun x6 M6 => ?_))
        refine Eq.trans (Eq.trans (r_go (act := oS (fSt 68 (g1 (fun x => -x)))) rfl rfl) (a_neg)) ?_
        exact r_cut rfl rfl
  · refine Eq.trans (Eq.trans (r_go (act := oS (fIld 127 1)) rfl rfl) (a_ild rfl)) ?_
    refine Eq.trans (Eq.trans (r_go (act := oS (fSt 128 (gC (.int (-1))))) rfl rfl) (a_C)) ?_
    refine Eq.trans (Eq.trans (r_go (act := oS (fCm 138 131 cEq)) rfl rfl) (a_cm)) (bcg ?_ ?_)
    · exact Eq.trans (r_go (act := oVret) rfl rfl) (a_vret)
    · refine Eq.trans (Eq.trans (r_go (act := oS (fAld 132 0)) rfl rfl) (a_ald rfl)) ?_
      refine Eq.trans (Eq.trans (r_go (act := oS (fSt 133 (gC (.int 1)))) rfl rfl) (a_C)) ?_
      refine Eq.trans (Eq.trans (r_go (act := oS (fIld 134 1)) rfl rfl) (a_ild rfl)) ?_
      refine Eq.trans (Eq.trans (r_go (act := oS (fIld 135 2)) rfl rfl) (a_ild rfl)) ?_
      refine Eq.trans (Eq.trans (r_go (act := oCV 138 4 (zcv g 12) (X_X12_notes g)) rfl rfl) (a_cV rfl (zck (zO_72 g) rfl))) (zbV_cg (fun M7 => ?_))
      exact Eq.trans (r_go (act := oVret) rfl rfl) (a_vret)
set_option maxRecDepth 20000 in
theorem e_X12_judges_68 (g : zg) (a1 : Int32) (a2 : Int32) (a3 : Int32) (a4 : Int32) (s0 : Int32) (M : zM) : zX (t_X12_judges g) 68 [some (.ref 72), some (.int a1), some (.int a2), some (.int a3), some (.int a4), none] [.int s0] M = (bif zb (28 + a3) 148 then (zbI (X_X12_held g [.ref 72, .int ((M.1 73 (zx (28 + a3))) + s0), .int (-999), .int 999] M) (fun x1 M1 => (bif zb (28 + a3) 148 then (bif cEq0 a4 then zX (t_X12_judges g) 6 [some (.ref 72), some (.int a1), some (.int a2), some (.int (a3 + 1)), none, none] [] ((zu M1.1 73 (zx (28 + a3)) x1), M1.2) else (bif cEq a1 (-1) then zX (t_X12_judges g) 6 [some (.ref 72), some (.int a3), some (.int (a2 + 1)), some (.int (a3 + 1)), none, none] [] ((zu M1.1 73 (zx (28 + a3)) x1), M1.2) else zX (t_X12_judges g) 6 [some (.ref 72), some (.int a1), some (.int (a2 + 1)), some (.int (a3 + 1)), none, none] [] ((zu M1.1 73 (zx (28 + a3)) x1), M1.2))) else none))) else none) := by
  refine Eq.trans (zX_rgN (tl_X12_judges g) (hc_X12_judges g) 34 _ _ _ _) ?_
  refine Eq.trans (Eq.trans (Eq.trans (r_0 (act := oF [5] (oS (fIst 70 5))) rfl) (a_F rfl)) (a_ist rfl rfl)) ?_
  refine Eq.trans (Eq.trans (r_go (act := oS (fAld 71 0)) rfl rfl) (a_ald rfl)) ?_
  refine Eq.trans (Eq.trans (r_go (act := oS (fGr g 74 12 1)) rfl rfl) (a_gr (zO_72 g) (zR_72_1 g))) ?_
  refine Eq.trans (Eq.trans (r_go (act := oS (fSt 76 (gC (.int 28)))) rfl rfl) (a_C)) ?_
  refine Eq.trans (Eq.trans (r_go (act := oS (fIld 77 3)) rfl rfl) (a_ild rfl)) ?_
  refine Eq.trans (Eq.trans (r_go (act := oS (fSt 78 (g2 (fun x y => x + y)))) rfl rfl) (a_add)) ?_
  refine Eq.trans (Eq.trans (r_go (act := oS (fAld 79 0)) rfl rfl) (a_ald rfl)) ?_
  refine Eq.trans (Eq.trans (r_go (act := oS (fAld 80 0)) rfl rfl) (a_ald rfl)) ?_
  refine Eq.trans (Eq.trans (r_go (act := oS (fGr g 83 12 1)) rfl rfl) (a_gr (zO_72 g) (zR_72_1 g))) ?_
  refine Eq.trans (Eq.trans (r_go (act := oS (fSt 85 (gC (.int 28)))) rfl rfl) (a_C)) ?_
  refine Eq.trans (Eq.trans (r_go (act := oS (fIld 86 3)) rfl rfl) (a_ild rfl)) ?_
  refine Eq.trans (Eq.trans (r_go (act := oS (fSt 87 (g2 (fun x y => x + y)))) rfl rfl) (a_add)) ?_
  refine Eq.trans (Eq.trans (r_go (act := oS (fIa g 88)) rfl rfl) (a_ia (zA_73 g) zS_73)) (bcg ?_ rfl)
  refine Eq.trans (Eq.trans (r_go (act := oS (fIld 90 5)) rfl rfl) (a_ild rfl)) ?_
  refine Eq.trans (Eq.trans (r_go (act := oS (fSt 91 (g2 (fun x y => x + y)))) rfl rfl) (a_add)) ?_
  refine Eq.trans (Eq.trans (r_go (act := oS (fSt 94 (gC (.int (-999))))) rfl rfl) (a_C)) ?_
  refine Eq.trans (Eq.trans (r_go (act := oS (fSt 97 (gC (.int 999)))) rfl rfl) (a_C)) ?_
  refine Eq.trans (Eq.trans (r_go (act := oCI 100 4 (zcv g 12) (X_X12_held g)) rfl rfl) (a_cI rfl (zck (zO_72 g) rfl))) (zbI_cg (fun x1 M1 => ?_))
  refine Eq.trans (Eq.trans (r_go (act := oS (fIs g 101)) rfl rfl) (a_is (zA_73 g) zS_73)) (bcg ?_ rfl)
  refine Eq.trans (Eq.trans (r_go (act := oS (fIld 103 4)) rfl rfl) (a_ild rfl)) ?_
  refine Eq.trans (Eq.trans (r_go (act := oS (fIf 106 109 cEq0)) rfl rfl) (a_if)) (bcg ?_ ?_)
  · refine Eq.trans (Eq.trans (r_go (act := oS (fGo 120)) rfl rfl) (a_goto)) ?_
    refine Eq.trans (Eq.trans (r_go (act := oS (fInc 123 3 1)) rfl rfl) (a_inc rfl rfl rfl)) ?_
    refine Eq.trans (Eq.trans (r_go (act := oS (fGo 6)) rfl rfl) (a_goto)) ?_
    exact r_cut rfl rfl
  · refine Eq.trans (Eq.trans (r_go (act := oS (fIld 110 2)) rfl rfl) (a_ild rfl)) ?_
    refine Eq.trans (Eq.trans (r_go (act := oS (fSt 111 (gC (.int 1)))) rfl rfl) (a_C)) ?_
    refine Eq.trans (Eq.trans (r_go (act := oS (fSt 112 (g2 (fun x y => x + y)))) rfl rfl) (a_add)) ?_
    refine Eq.trans (Eq.trans (r_go (act := oS (fIst 113 2)) rfl rfl) (a_ist rfl rfl)) ?_
    refine Eq.trans (Eq.trans (r_go (act := oS (fIld 114 1)) rfl rfl) (a_ild rfl)) ?_
    refine Eq.trans (Eq.trans (r_go (act := oS (fSt 115 (gC (.int (-1))))) rfl rfl) (a_C)) ?_
    refine Eq.trans (Eq.trans (r_go (act := oS (fCm 118 120 cEq)) rfl rfl) (a_cm)) (bcg ?_ ?_)
    · refine Eq.trans (Eq.trans (r_go (act := oS (fIld 119 3)) rfl rfl) (a_ild rfl)) ?_
      refine Eq.trans (Eq.trans (r_go (act := oS (fIst 120 1)) rfl rfl) (a_ist rfl rfl)) ?_
      refine Eq.trans (Eq.trans (r_go (act := oS (fInc 123 3 1)) rfl rfl) (a_inc rfl rfl rfl)) ?_
      refine Eq.trans (Eq.trans (r_go (act := oS (fGo 6)) rfl rfl) (a_goto)) ?_
      exact r_cut rfl rfl
    · refine Eq.trans (Eq.trans (r_go (act := oS (fInc 123 3 1)) rfl rfl) (a_inc rfl rfl rfl)) ?_
      refine Eq.trans (Eq.trans (r_go (act := oS (fGo 6)) rfl rfl) (a_goto)) ?_
      exact r_cut rfl rfl
set_option maxRecDepth 20000 in
theorem e_X12_greater_0 (g : zg) (a1 : Int32) (a2 : Int32) (M : zM) : zX (t_X12_greater g) 0 [some (.ref 72), some (.int a1), some (.int a2)] [] M = (bif cGt a1 a2 then some (some (.int a1), M) else some (some (.int a2), M)) := by
  refine Eq.trans (zX_rgN (tl_X12_greater g) (hc_X12_greater g) 7 _ _ _ _) ?_
  refine Eq.trans (Eq.trans (r_0 (act := oS (fIld 1 1)) rfl) (a_ild rfl)) ?_
  refine Eq.trans (Eq.trans (r_go (act := oS (fIld 2 2)) rfl rfl) (a_ild rfl)) ?_
  refine Eq.trans (Eq.trans (r_go (act := oS (fCm 5 9 cGt)) rfl rfl) (a_cm)) (bcg ?_ ?_)
  · refine Eq.trans (Eq.trans (r_go (act := oS (fIld 6 1)) rfl rfl) (a_ild rfl)) ?_
    refine Eq.trans (Eq.trans (r_go (act := oS (fGo 10)) rfl rfl) (a_goto)) ?_
    exact Eq.trans (r_go (act := oIret) rfl rfl) (a_iret)
  · refine Eq.trans (Eq.trans (r_go (act := oS (fIld 10 2)) rfl rfl) (a_ild rfl)) ?_
    exact Eq.trans (r_go (act := oIret) rfl rfl) (a_iret)
theorem x_X12_greater_0 (g : zg) (a1 : Int32) (a2 : Int32) (M : zM) : X_X12_greater g [.ref 72, .int a1, .int a2] M = (bif cGt a1 a2 then some (some (.int a1), M) else some (some (.int a2), M)) := e_X12_greater_0 g a1 a2 M
set_option maxRecDepth 20000 in
theorem e_X12_floods_0 (g : zg) (M : zM) : zX (t_X12_floods g) 0 [some (.ref 72), none] [] M = (zbI (X_X12_minister g [.ref 72] M) (fun x1 M1 => (zbI (X_X12_glass g [.ref 72] M1) (fun x2 M2 => (zbI (X_X12_kindOf g [.ref 72, .int x2] M2) (fun x3 M3 => (bif cEq0 x3 then (bif cEq x1 (-1) then some (none, M3) else (zbI (X_X12_saidBy g [.ref 72, .int x1] M3) (fun x4 M4 => (bif cLt x4 2 then some (none, M4) else (bif zb (28 + x1) 148 then (zbI (X_X12_greater g [.ref 72, .int (-999), .int (((zu M4.1 73 5 ((M4.1 73 5) + 1)) 73 (zx (28 + x1))) - 20)] ((zu M4.1 73 5 ((M4.1 73 5) + 1)), M4.2)) (fun x5 M5 => (bif zb (28 + x1) 148 then (bif zb (28 + x1) 148 then (zbV (X_X12_notes g [.ref 72, .int 2, .int x1, .int ((zu M5.1 73 (zx (28 + x1)) x5) 73 (zx (28 + x1)))] ((zu M5.1 73 (zx (28 + x1)) x5), M5.2)) (fun M6 => some (none, M6))) else none) else none))) else none))))) else some (none, M3)))))))) := by
  refine Eq.trans (zX_rgN (tl_X12_floods g) (hc_X12_floods g) 55 _ _ _ _) ?_
  refine Eq.trans (Eq.trans (r_0 (act := oS (fAld 1 0)) rfl) (a_ald rfl)) ?_
  refine Eq.trans (Eq.trans (r_go (act := oCI 4 1 (zcv g 12) (X_X12_minister g)) rfl rfl) (a_cI rfl (zck (zO_72 g) rfl))) (zbI_cg (fun x1 M1 => ?_))
  refine Eq.trans (Eq.trans (r_go (act := oS (fIst 5 1)) rfl rfl) (a_ist rfl rfl)) ?_
  refine Eq.trans (Eq.trans (r_go (act := oS (fAld 6 0)) rfl rfl) (a_ald rfl)) ?_
  refine Eq.trans (Eq.trans (r_go (act := oS (fAld 7 0)) rfl rfl) (a_ald rfl)) ?_
  refine Eq.trans (Eq.trans (r_go (act := oCI 10 1 (zcv g 12) (X_X12_glass g)) rfl rfl) (a_cI rfl (zck (zO_72 g) rfl))) (zbI_cg (fun x2 M2 => ?_))
  refine Eq.trans (Eq.trans (r_go (act := oCI 13 2 (zcv g 12) (X_X12_kindOf g)) rfl rfl) (a_cI rfl (zck (zO_72 g) rfl))) (zbI_cg (fun x3 M3 => ?_))
  refine Eq.trans (Eq.trans (r_go (act := oS (fIf 16 30 cEq0)) rfl rfl) (a_if)) (bcg ?_ ?_)
  · refine Eq.trans (Eq.trans (r_go (act := oS (fIld 17 1)) rfl rfl) (a_ild rfl)) ?_
    refine Eq.trans (Eq.trans (r_go (act := oS (fSt 18 (gC (.int (-1))))) rfl rfl) (a_C)) ?_
    refine Eq.trans (Eq.trans (r_go (act := oS (fCm 30 21 cEq)) rfl rfl) (a_cm)) (bcg ?_ ?_)
    · exact Eq.trans (r_go (act := oVret) rfl rfl) (a_vret)
    · refine Eq.trans (Eq.trans (r_go (act := oS (fAld 22 0)) rfl rfl) (a_ald rfl)) ?_
      refine Eq.trans (Eq.trans (r_go (act := oS (fIld 23 1)) rfl rfl) (a_ild rfl)) ?_
      refine Eq.trans (Eq.trans (r_go (act := oCI 26 2 (zcv g 12) (X_X12_saidBy g)) rfl rfl) (a_cI rfl (zck (zO_72 g) rfl))) (zbI_cg (fun x4 M4 => ?_))
      refine Eq.trans (Eq.trans (r_go (act := oS (fSt 27 (gC (.int 2)))) rfl rfl) (a_C)) ?_
      refine Eq.trans (Eq.trans (r_go (act := oS (fCm 30 31 cLt)) rfl rfl) (a_cm)) (bcg ?_ ?_)
      · exact Eq.trans (r_go (act := oVret) rfl rfl) (a_vret)
      · refine Eq.trans (Eq.trans (r_go (act := oS (fAld 32 0)) rfl rfl) (a_ald rfl)) ?_
        refine Eq.trans (Eq.trans (r_go (act := oS (fGr g 35 12 1)) rfl rfl) (a_gr (zO_72 g) (zR_72_1 g))) ?_
        refine Eq.trans (Eq.trans (r_go (act := oS (fSt 36 (gC (.int 5)))) rfl rfl) (a_C)) ?_
        refine Eq.trans (Eq.trans (r_go (act := oS (fAld 37 0)) rfl rfl) (a_ald rfl)) ?_
        refine Eq.trans (Eq.trans (r_go (act := oS (fGr g 40 12 1)) rfl rfl) (a_gr (zO_72 g) (zR_72_1 g))) ?_
        refine Eq.trans (Eq.trans (r_go (act := oS (fSt 41 (gC (.int 5)))) rfl rfl) (a_C)) ?_
        refine Eq.trans (Eq.trans (r_go (act := oS (fIa g 42)) rfl rfl) (a_iaK (j := 5) (zA_73 g) zS_73 (by decide +kernel) (by decide +kernel))) ?_
        refine Eq.trans (Eq.trans (r_go (act := oS (fSt 43 (gC (.int 1)))) rfl rfl) (a_C)) ?_
        refine Eq.trans (Eq.trans (r_go (act := oS (fSt 44 (g2 (fun x y => x + y)))) rfl rfl) (a_add)) ?_
        refine Eq.trans (Eq.trans (r_go (act := oS (fIs g 45)) rfl rfl) (a_isK (j := 5) (zA_73 g) zS_73 (by decide +kernel) (by decide +kernel))) ?_
        refine Eq.trans (Eq.trans (r_go (act := oS (fAld 46 0)) rfl rfl) (a_ald rfl)) ?_
        refine Eq.trans (Eq.trans (r_go (act := oS (fGr g 49 12 1)) rfl rfl) (a_gr (zO_72 g) (zR_72_1 g))) ?_
        refine Eq.trans (Eq.trans (r_go (act := oS (fSt 51 (gC (.int 28)))) rfl rfl) (a_C)) ?_
        refine Eq.trans (Eq.trans (r_go (act := oS (fIld 52 1)) rfl rfl) (a_ild rfl)) ?_
        refine Eq.trans (Eq.trans (r_go (act := oS (fSt 53 (g2 (fun x y => x + y)))) rfl rfl) (a_add)) ?_
        refine Eq.trans (Eq.trans (r_go (act := oS (fAld 54 0)) rfl rfl) (a_ald rfl)) ?_
        refine Eq.trans (Eq.trans (r_go (act := oS (fSt 57 (gC (.int (-999))))) rfl rfl) (a_C)) ?_
        refine Eq.trans (Eq.trans (r_go (act := oS (fAld 58 0)) rfl rfl) (a_ald rfl)) ?_
        refine Eq.trans (Eq.trans (r_go (act := oS (fGr g 61 12 1)) rfl rfl) (a_gr (zO_72 g) (zR_72_1 g))) ?_
        refine Eq.trans (Eq.trans (r_go (act := oS (fSt 63 (gC (.int 28)))) rfl rfl) (a_C)) ?_
        refine Eq.trans (Eq.trans (r_go (act := oS (fIld 64 1)) rfl rfl) (a_ild rfl)) ?_
        refine Eq.trans (Eq.trans (r_go (act := oS (fSt 65 (g2 (fun x y => x + y)))) rfl rfl) (a_add)) ?_
        refine Eq.trans (Eq.trans (r_go (act := oS (fIa g 66)) rfl rfl) (a_ia (zA_73 g) zS_73)) (bcg ?_ rfl)
        refine Eq.trans (Eq.trans (r_go (act := oS (fSt 68 (gC (.int 20)))) rfl rfl) (a_C)) ?_
        refine Eq.trans (Eq.trans (r_go (act := oS (fSt 69 (g2 (fun x y => x - y)))) rfl rfl) (a_sub)) ?_
        refine Eq.trans (Eq.trans (r_go (act := oCI 72 3 (zcv g 12) (X_X12_greater g)) rfl rfl) (a_cI rfl (zck (zO_72 g) rfl))) (zbI_cg (fun x5 M5 => ?_))
        refine Eq.trans (Eq.trans (r_go (act := oS (fIs g 73)) rfl rfl) (a_is (zA_73 g) zS_73)) (bcg ?_ rfl)
        refine Eq.trans (Eq.trans (r_go (act := oS (fAld 74 0)) rfl rfl) (a_ald rfl)) ?_
        refine Eq.trans (Eq.trans (r_go (act := oS (fSt 75 (gC (.int 2)))) rfl rfl) (a_C)) ?_
        refine Eq.trans (Eq.trans (r_go (act := oS (fIld 76 1)) rfl rfl) (a_ild rfl)) ?_
        refine Eq.trans (Eq.trans (r_go (act := oS (fAld 77 0)) rfl rfl) (a_ald rfl)) ?_
        refine Eq.trans (Eq.trans (r_go (act := oS (fGr g 80 12 1)) rfl rfl) (a_gr (zO_72 g) (zR_72_1 g))) ?_
        refine Eq.trans (Eq.trans (r_go (act := oS (fSt 82 (gC (.int 28)))) rfl rfl) (a_C)) ?_
        refine Eq.trans (Eq.trans (r_go (act := oS (fIld 83 1)) rfl rfl) (a_ild rfl)) ?_
        refine Eq.trans (Eq.trans (r_go (act := oS (fSt 84 (g2 (fun x y => x + y)))) rfl rfl) (a_add)) ?_
        refine Eq.trans (Eq.trans (r_go (act := oS (fIa g 85)) rfl rfl) (a_ia (zA_73 g) zS_73)) (bcg ?_ rfl)
        refine Eq.trans (Eq.trans (r_go (act := oCV 88 4 (zcv g 12) (X_X12_notes g)) rfl rfl) (a_cV rfl (zck (zO_72 g) rfl))) (zbV_cg (fun M6 => ?_))
        exact Eq.trans (r_go (act := oVret) rfl rfl) (a_vret)
  · exact Eq.trans (r_go (act := oVret) rfl rfl) (a_vret)
theorem x_X12_floods_0 (g : zg) (M : zM) : X_X12_floods g [.ref 72] M = (zbI (X_X12_minister g [.ref 72] M) (fun x1 M1 => (zbI (X_X12_glass g [.ref 72] M1) (fun x2 M2 => (zbI (X_X12_kindOf g [.ref 72, .int x2] M2) (fun x3 M3 => (bif cEq0 x3 then (bif cEq x1 (-1) then some (none, M3) else (zbI (X_X12_saidBy g [.ref 72, .int x1] M3) (fun x4 M4 => (bif cLt x4 2 then some (none, M4) else (bif zb (28 + x1) 148 then (zbI (X_X12_greater g [.ref 72, .int (-999), .int (((zu M4.1 73 5 ((M4.1 73 5) + 1)) 73 (zx (28 + x1))) - 20)] ((zu M4.1 73 5 ((M4.1 73 5) + 1)), M4.2)) (fun x5 M5 => (bif zb (28 + x1) 148 then (bif zb (28 + x1) 148 then (zbV (X_X12_notes g [.ref 72, .int 2, .int x1, .int ((zu M5.1 73 (zx (28 + x1)) x5) 73 (zx (28 + x1)))] ((zu M5.1 73 (zx (28 + x1)) x5), M5.2)) (fun M6 => some (none, M6))) else none) else none))) else none))))) else some (none, M3)))))))) := e_X12_floods_0 g M
set_option maxRecDepth 20000 in
theorem e_X12_falls_0 (g : zg) (M : zM) : zX (t_X12_falls g) 0 [some (.ref 72)] [] M = some (some (.int ((M.1 72 8) - 10)), M) := by
  refine Eq.trans (zX_rgN (tl_X12_falls g) (hc_X12_falls g) 6 _ _ _ _) ?_
  refine Eq.trans (Eq.trans (r_0 (act := oS (fAld 1 0)) rfl) (a_ald rfl)) ?_
  refine Eq.trans (Eq.trans (r_go (act := oS (fGi g 4 12 8)) rfl rfl) (a_gi (zO_72 g))) ?_
  refine Eq.trans (Eq.trans (r_go (act := oS (fSt 6 (gC (.int 10)))) rfl rfl) (a_C)) ?_
  refine Eq.trans (Eq.trans (r_go (act := oS (fSt 7 (g2 (fun x y => x - y)))) rfl rfl) (a_sub)) ?_
  exact Eq.trans (r_go (act := oIret) rfl rfl) (a_iret)
theorem x_X12_falls_0 (g : zg) (M : zM) : X_X12_falls g [.ref 72] M = some (some (.int ((M.1 72 8) - 10)), M) := e_X12_falls_0 g M
set_option maxRecDepth 20000 in
theorem e_X12_bestStanding_0 (g : zg) (M : zM) : zX (t_X12_bestStanding g) 0 [some (.ref 72), none, none] [] M = zX (t_X12_bestStanding g) 4 [some (.ref 72), some (.int (-1)), some (.int 0)] [] M := by
  refine Eq.trans (zX_rgN (tl_X12_bestStanding g) (hc_X12_bestStanding g) 6 _ _ _ _) ?_
  refine Eq.trans (Eq.trans (r_0 (act := oS (fSt 1 (gC (.int (-1))))) rfl) (a_C)) ?_
  refine Eq.trans (Eq.trans (r_go (act := oS (fIst 2 1)) rfl rfl) (a_ist rfl rfl)) ?_
  refine Eq.trans (Eq.trans (r_go (act := oS (fSt 3 (gC (.int 0)))) rfl rfl) (a_C)) ?_
  refine Eq.trans (Eq.trans (r_go (act := oS (fIst 4 2)) rfl rfl) (a_ist rfl rfl)) ?_
  exact r_cut rfl rfl
theorem x_X12_bestStanding_0 (g : zg) (M : zM) : X_X12_bestStanding g [.ref 72] M = zX (t_X12_bestStanding g) 4 [some (.ref 72), some (.int (-1)), some (.int 0)] [] M := e_X12_bestStanding_0 g M
set_option maxRecDepth 20000 in
theorem e_X12_bestStanding_4 (g : zg) (a1 : Int32) (a2 : Int32) (M : zM) : zX (t_X12_bestStanding g) 4 [some (.ref 72), some (.int a1), some (.int a2)] [] M = (bif cLt a2 (M.1 72 6) then (zbI (X_X12_isHere g [.ref 72, .int a2] M) (fun x1 M1 => (bif cEq0 x1 then zX (t_X12_bestStanding g) 4 [some (.ref 72), some (.int a1), some (.int (a2 + 1))] [] M1 else (bif cEq a1 (-1) then zX (t_X12_bestStanding g) 4 [some (.ref 72), some (.int a2), some (.int (a2 + 1))] [] M1 else (bif zb (28 + a2) 148 then (bif zb (28 + a1) 148 then (bif cGt (M1.1 73 (zx (28 + a2))) (M1.1 73 (zx (28 + a1))) then zX (t_X12_bestStanding g) 4 [some (.ref 72), some (.int a2), some (.int (a2 + 1))] [] M1 else zX (t_X12_bestStanding g) 4 [some (.ref 72), some (.int a1), some (.int (a2 + 1))] [] M1) else none) else none))))) else some (some (.int a1), M)) := by
  refine Eq.trans (zX_rgN (tl_X12_bestStanding g) (hc_X12_bestStanding g) 30 _ _ _ _) ?_
  refine Eq.trans (Eq.trans (Eq.trans (r_0 (act := oF [] (oS (fIld 5 2))) rfl) (a_F rfl)) (a_ild rfl)) ?_
  refine Eq.trans (Eq.trans (r_go (act := oS (fAld 6 0)) rfl rfl) (a_ald rfl)) ?_
  refine Eq.trans (Eq.trans (r_go (act := oS (fGi g 9 12 6)) rfl rfl) (a_gi (zO_72 g))) ?_
  refine Eq.trans (Eq.trans (r_go (act := oS (fCm 12 54 cLt)) rfl rfl) (a_cm)) (bcg ?_ ?_)
  · refine Eq.trans (Eq.trans (r_go (act := oS (fAld 13 0)) rfl rfl) (a_ald rfl)) ?_
    refine Eq.trans (Eq.trans (r_go (act := oS (fIld 14 2)) rfl rfl) (a_ild rfl)) ?_
    refine Eq.trans (Eq.trans (r_go (act := oCI 17 2 (zcv g 12) (X_X12_isHere g)) rfl rfl) (a_cI rfl (zck (zO_72 g) rfl))) (zbI_cg (fun x1 M1 => ?_))
    refine Eq.trans (Eq.trans (r_go (act := oS (fIf 48 20 cEq0)) rfl rfl) (a_if)) (bcg ?_ ?_)
    · refine Eq.trans (Eq.trans (r_go (act := oS (fInc 51 2 1)) rfl rfl) (a_inc rfl rfl rfl)) ?_
      refine Eq.trans (Eq.trans (r_go (act := oS (fGo 4)) rfl rfl) (a_goto)) ?_
      exact r_cut rfl rfl
    · refine Eq.trans (Eq.trans (r_go (act := oS (fIld 21 1)) rfl rfl) (a_ild rfl)) ?_
      refine Eq.trans (Eq.trans (r_go (act := oS (fSt 22 (gC (.int (-1))))) rfl rfl) (a_C)) ?_
      refine Eq.trans (Eq.trans (r_go (act := oS (fCm 46 25 cEq)) rfl rfl) (a_cm)) (bcg ?_ ?_)
      · refine Eq.trans (Eq.trans (r_go (act := oS (fIld 47 2)) rfl rfl) (a_ild rfl)) ?_
        refine Eq.trans (Eq.trans (r_go (act := oS (fIst 48 1)) rfl rfl) (a_ist rfl rfl)) ?_
        refine Eq.trans (Eq.trans (r_go (act := oS (fInc 51 2 1)) rfl rfl) (a_inc rfl rfl rfl)) ?_
        refine Eq.trans (Eq.trans (r_go (act := oS (fGo 4)) rfl rfl) (a_goto)) ?_
        exact r_cut rfl rfl
      · refine Eq.trans (Eq.trans (r_go (act := oS (fAld 26 0)) rfl rfl) (a_ald rfl)) ?_
        refine Eq.trans (Eq.trans (r_go (act := oS (fGr g 29 12 1)) rfl rfl) (a_gr (zO_72 g) (zR_72_1 g))) ?_
        refine Eq.trans (Eq.trans (r_go (act := oS (fSt 31 (gC (.int 28)))) rfl rfl) (a_C)) ?_
        refine Eq.trans (Eq.trans (r_go (act := oS (fIld 32 2)) rfl rfl) (a_ild rfl)) ?_
        refine Eq.trans (Eq.trans (r_go (act := oS (fSt 33 (g2 (fun x y => x + y)))) rfl rfl) (a_add)) ?_
        refine Eq.trans (Eq.trans (r_go (act := oS (fIa g 34)) rfl rfl) (a_ia (zA_73 g) zS_73)) (bcg ?_ rfl)
        refine Eq.trans (Eq.trans (r_go (act := oS (fAld 35 0)) rfl rfl) (a_ald rfl)) ?_
        refine Eq.trans (Eq.trans (r_go (act := oS (fGr g 38 12 1)) rfl rfl) (a_gr (zO_72 g) (zR_72_1 g))) ?_
        refine Eq.trans (Eq.trans (r_go (act := oS (fSt 40 (gC (.int 28)))) rfl rfl) (a_C)) ?_
        refine Eq.trans (Eq.trans (r_go (act := oS (fIld 41 1)) rfl rfl) (a_ild rfl)) ?_
        refine Eq.trans (Eq.trans (r_go (act := oS (fSt 42 (g2 (fun x y => x + y)))) rfl rfl) (a_add)) ?_
        refine Eq.trans (Eq.trans (r_go (act := oS (fIa g 43)) rfl rfl) (a_ia (zA_73 g) zS_73)) (bcg ?_ rfl)
        refine Eq.trans (Eq.trans (r_go (act := oS (fCm 46 48 cGt)) rfl rfl) (a_cm)) (bcg ?_ ?_)
        · refine Eq.trans (Eq.trans (r_go (act := oS (fIld 47 2)) rfl rfl) (a_ild rfl)) ?_
          refine Eq.trans (Eq.trans (r_go (act := oS (fIst 48 1)) rfl rfl) (a_ist rfl rfl)) ?_
          refine Eq.trans (Eq.trans (r_go (act := oS (fInc 51 2 1)) rfl rfl) (a_inc rfl rfl rfl)) ?_
          refine Eq.trans (Eq.trans (r_go (act := oS (fGo 4)) rfl rfl) (a_goto)) ?_
          exact r_cut rfl rfl
        · refine Eq.trans (Eq.trans (r_go (act := oS (fInc 51 2 1)) rfl rfl) (a_inc rfl rfl rfl)) ?_
          refine Eq.trans (Eq.trans (r_go (act := oS (fGo 4)) rfl rfl) (a_goto)) ?_
          exact r_cut rfl rfl
  · refine Eq.trans (Eq.trans (r_go (act := oS (fIld 55 1)) rfl rfl) (a_ild rfl)) ?_
    exact Eq.trans (r_go (act := oIret) rfl rfl) (a_iret)
set_option maxRecDepth 20000 in
theorem e_X12_falling_0 (g : zg) (M : zM) : zX (t_X12_falling g) 0 [some (.ref 72), none, none] [] M = (zbI (X_X12_minister g [.ref 72] M) (fun x1 M1 => (bif cEq x1 (-1) then zX (t_X12_falling g) 31 [some (.ref 72), some (.int x1), none] [.int 0] M1 else (bif zb (28 + x1) 148 then (zbI (X_X12_falls g [.ref 72] M1) (fun x2 M2 => (bif cLt (M1.1 73 (zx (28 + x1))) x2 then zX (t_X12_falling g) 31 [some (.ref 72), some (.int x1), none] [.int 1] M2 else zX (t_X12_falling g) 31 [some (.ref 72), some (.int x1), none] [.int 0] M2))) else none)))) := by
  refine Eq.trans (zX_rgN (tl_X12_falling g) (hc_X12_falling g) 19 _ _ _ _) ?_
  refine Eq.trans (Eq.trans (r_0 (act := oS (fAld 1 0)) rfl) (a_ald rfl)) ?_
  refine Eq.trans (Eq.trans (r_go (act := oCI 4 1 (zcv g 12) (X_X12_minister g)) rfl rfl) (a_cI rfl (zck (zO_72 g) rfl))) (zbI_cg (fun x1 M1 => ?_))
  refine Eq.trans (Eq.trans (r_go (act := oS (fIst 5 1)) rfl rfl) (a_ist rfl rfl)) ?_
  refine Eq.trans (Eq.trans (r_go (act := oS (fIld 6 1)) rfl rfl) (a_ild rfl)) ?_
  refine Eq.trans (Eq.trans (r_go (act := oS (fSt 7 (gC (.int (-1))))) rfl rfl) (a_C)) ?_
  refine Eq.trans (Eq.trans (r_go (act := oS (fCm 30 10 cEq)) rfl rfl) (a_cm)) (bcg ?_ ?_)
  · refine Eq.trans (Eq.trans (r_go (act := oS (fSt 31 (gC (.int 0)))) rfl rfl) (a_C)) ?_
    exact r_cut rfl rfl
  · refine Eq.trans (Eq.trans (r_go (act := oS (fAld 11 0)) rfl rfl) (a_ald rfl)) ?_
    refine Eq.trans (Eq.trans (r_go (act := oS (fGr g 14 12 1)) rfl rfl) (a_gr (zO_72 g) (zR_72_1 g))) ?_
    refine Eq.trans (Eq.trans (r_go (act := oS (fSt 16 (gC (.int 28)))) rfl rfl) (a_C)) ?_
    refine Eq.trans (Eq.trans (r_go (act := oS (fIld 17 1)) rfl rfl) (a_ild rfl)) ?_
    refine Eq.trans (Eq.trans (r_go (act := oS (fSt 18 (g2 (fun x y => x + y)))) rfl rfl) (a_add)) ?_
    refine Eq.trans (Eq.trans (r_go (act := oS (fIa g 19)) rfl rfl) (a_ia (zA_73 g) zS_73)) (bcg ?_ rfl)
    refine Eq.trans (Eq.trans (r_go (act := oS (fAld 20 0)) rfl rfl) (a_ald rfl)) ?_
    refine Eq.trans (Eq.trans (r_go (act := oCI 23 1 (zcv g 12) (X_X12_falls g)) rfl rfl) (a_cI rfl (zck (zO_72 g) rfl))) (zbI_cg (fun x2 M2 => ?_))
    refine Eq.trans (Eq.trans (r_go (act := oS (fCm 26 30 cLt)) rfl rfl) (a_cm)) (bcg ?_ ?_)
    · refine Eq.trans (Eq.trans (r_go (act := oS (fSt 27 (gC (.int 1)))) rfl rfl) (a_C)) ?_
      refine Eq.trans (Eq.trans (r_go (act := oS (fGo 31)) rfl rfl) (a_goto)) ?_
      exact r_cut rfl rfl
    · refine Eq.trans (Eq.trans (r_go (act := oS (fSt 31 (gC (.int 0)))) rfl rfl) (a_C)) ?_
      exact r_cut rfl rfl
theorem x_X12_falling_0 (g : zg) (M : zM) : X_X12_falling g [.ref 72] M = (zbI (X_X12_minister g [.ref 72] M) (fun x1 M1 => (bif cEq x1 (-1) then zX (t_X12_falling g) 31 [some (.ref 72), some (.int x1), none] [.int 0] M1 else (bif zb (28 + x1) 148 then (zbI (X_X12_falls g [.ref 72] M1) (fun x2 M2 => (bif cLt (M1.1 73 (zx (28 + x1))) x2 then zX (t_X12_falling g) 31 [some (.ref 72), some (.int x1), none] [.int 1] M2 else zX (t_X12_falling g) 31 [some (.ref 72), some (.int x1), none] [.int 0] M2))) else none)))) := e_X12_falling_0 g M
set_option maxRecDepth 20000 in
theorem e_X12_falling_31 (g : zg) (a1 : Int32) (s0 : Int32) (M : zM) : zX (t_X12_falling g) 31 [some (.ref 72), some (.int a1), none] [.int s0] M = (bif cEq0 s0 then zX (t_X12_falling g) 91 [some (.ref 72), none, some (.int s0)] [] M else (bif zb (38 + a1) 148 then (bif zb (28 + a1) 148 then (zbV (X_X12_notes g [.ref 72, .int 3, .int a1, .int ((zu (zu M.1 73 (zx (38 + a1)) 1) 73 4 0) 73 (zx (28 + a1)))] ((zu (zu M.1 73 (zx (38 + a1)) 1) 73 4 0), M.2)) (fun M1 => (bif cEq (M1.1 72 41) (-1) then zX (t_X12_falling g) 91 [some (.ref 72), none, some (.int s0)] [] ((zu (zu M1.1 72 41 a1) 72 42 (M1.1 73 0)), M1.2) else zX (t_X12_falling g) 91 [some (.ref 72), none, some (.int s0)] [] M1))) else none) else none)) := by
  refine Eq.trans (zX_rgN (tl_X12_falling g) (hc_X12_falling g) 40 _ _ _ _) ?_
  refine Eq.trans (Eq.trans (Eq.trans (r_0 (act := oF [2] (oS (fIst 32 2))) rfl) (a_F rfl)) (a_ist rfl rfl)) ?_
  refine Eq.trans (Eq.trans (r_go (act := oS (fIld 33 2)) rfl rfl) (a_ild rfl)) ?_
  refine Eq.trans (Eq.trans (r_go (act := oS (fIf 91 36 cEq0)) rfl rfl) (a_if)) (bcg ?_ ?_)
  · exact r_cut rfl rfl
  · refine Eq.trans (Eq.trans (r_go (act := oS (fAld 37 0)) rfl rfl) (a_ald rfl)) ?_
    refine Eq.trans (Eq.trans (r_go (act := oS (fGr g 40 12 1)) rfl rfl) (a_gr (zO_72 g) (zR_72_1 g))) ?_
    refine Eq.trans (Eq.trans (r_go (act := oS (fSt 42 (gC (.int 38)))) rfl rfl) (a_C)) ?_
    refine Eq.trans (Eq.trans (r_go (act := oS (fIld 43 1)) rfl rfl) (a_ild rfl)) ?_
    refine Eq.trans (Eq.trans (r_go (act := oS (fSt 44 (g2 (fun x y => x + y)))) rfl rfl) (a_add)) ?_
    refine Eq.trans (Eq.trans (r_go (act := oS (fSt 45 (gC (.int 1)))) rfl rfl) (a_C)) ?_
    refine Eq.trans (Eq.trans (r_go (act := oS (fIs g 46)) rfl rfl) (a_is (zA_73 g) zS_73)) (bcg ?_ rfl)
    refine Eq.trans (Eq.trans (r_go (act := oS (fAld 47 0)) rfl rfl) (a_ald rfl)) ?_
    refine Eq.trans (Eq.trans (r_go (act := oS (fGr g 50 12 1)) rfl rfl) (a_gr (zO_72 g) (zR_72_1 g))) ?_
    refine Eq.trans (Eq.trans (r_go (act := oS (fSt 51 (gC (.int 4)))) rfl rfl) (a_C)) ?_
    refine Eq.trans (Eq.trans (r_go (act := oS (fSt 52 (gC (.int 0)))) rfl rfl) (a_C)) ?_
    refine Eq.trans (Eq.trans (r_go (act := oS (fIs g 53)) rfl rfl) (a_isK (j := 4) (zA_73 g) zS_73 (by decide +kernel) (by decide +kernel))) ?_
    refine Eq.trans (Eq.trans (r_go (act := oS (fAld 54 0)) rfl rfl) (a_ald rfl)) ?_
    refine Eq.trans (Eq.trans (r_go (act := oS (fSt 55 (gC (.int 3)))) rfl rfl) (a_C)) ?_
    refine Eq.trans (Eq.trans (r_go (act := oS (fIld 56 1)) rfl rfl) (a_ild rfl)) ?_
    refine Eq.trans (Eq.trans (r_go (act := oS (fAld 57 0)) rfl rfl) (a_ald rfl)) ?_
    refine Eq.trans (Eq.trans (r_go (act := oS (fGr g 60 12 1)) rfl rfl) (a_gr (zO_72 g) (zR_72_1 g))) ?_
    refine Eq.trans (Eq.trans (r_go (act := oS (fSt 62 (gC (.int 28)))) rfl rfl) (a_C)) ?_
    refine Eq.trans (Eq.trans (r_go (act := oS (fIld 63 1)) rfl rfl) (a_ild rfl)) ?_
    refine Eq.trans (Eq.trans (r_go (act := oS (fSt 64 (g2 (fun x y => x + y)))) rfl rfl) (a_add)) ?_
    refine Eq.trans (Eq.trans (r_go (act := oS (fIa g 65)) rfl rfl) (a_ia (zA_73 g) zS_73)) (bcg ?_ rfl)
    refine Eq.trans (Eq.trans (r_go (act := oCV 68 4 (zcv g 12) (X_X12_notes g)) rfl rfl) (a_cV rfl (zck (zO_72 g) rfl))) (zbV_cg (fun M1 => ?_))
    refine Eq.trans (Eq.trans (r_go (act := oS (fAld 69 0)) rfl rfl) (a_ald rfl)) ?_
    refine Eq.trans (Eq.trans (r_go (act := oS (fGi g 72 12 41)) rfl rfl) (a_gi (zO_72 g))) ?_
    refine Eq.trans (Eq.trans (r_go (act := oS (fSt 73 (gC (.int (-1))))) rfl rfl) (a_C)) ?_
    refine Eq.trans (Eq.trans (r_go (act := oS (fCm 76 91 cEq)) rfl rfl) (a_cm)) (bcg ?_ ?_)
    · refine Eq.trans (Eq.trans (r_go (act := oS (fAld 77 0)) rfl rfl) (a_ald rfl)) ?_
      refine Eq.trans (Eq.trans (r_go (act := oS (fIld 78 1)) rfl rfl) (a_ild rfl)) ?_
      refine Eq.trans (Eq.trans (r_go (act := oS (fPi g 81 12 41)) rfl rfl) (a_pi (zO_72 g))) ?_
      refine Eq.trans (Eq.trans (r_go (act := oS (fAld 82 0)) rfl rfl) (a_ald rfl)) ?_
      refine Eq.trans (Eq.trans (r_go (act := oS (fAld 83 0)) rfl rfl) (a_ald rfl)) ?_
      refine Eq.trans (Eq.trans (r_go (act := oS (fGr g 86 12 1)) rfl rfl) (a_gr (zO_72 g) (zR_72_1 g))) ?_
      refine Eq.trans (Eq.trans (r_go (act := oS (fSt 87 (gC (.int 0)))) rfl rfl) (a_C)) ?_
      refine Eq.trans (Eq.trans (r_go (act := oS (fIa g 88)) rfl rfl) (a_iaKV (j := 0) (zA_73 g) zS_73 (by decide +kernel) (by decide +kernel) rfl)) ?_
      refine Eq.trans (Eq.trans (r_go (act := oS (fPi g 91 12 42)) rfl rfl) (a_pi (zO_72 g))) ?_
      exact r_cut rfl rfl
    · exact r_cut rfl rfl
set_option maxRecDepth 20000 in
theorem e_X12_falling_91 (g : zg) (a2 : Int32) (M : zM) : zX (t_X12_falling g) 91 [some (.ref 72), none, some (.int a2)] [] M = (zbI (X_X12_minister g [.ref 72] M) (fun x1 M1 => (bif cEq x1 (-1) then (zbI (X_X12_bestStanding g [.ref 72] M1) (fun x2 M2 => (bif cEq x2 (-1) then (bif cEq (a2 &&& 1) a2 then some (some (.int a2), M2) else none) else (zbI (X_X12_bestStanding g [.ref 72] M2) (fun x3 M3 => (zbI (X_X12_minister g [.ref 72] ((zu M3.1 73 4 (x3 + 1)), M3.2)) (fun x4 M4 => (zbV (X_X12_notes g [.ref 72, .int 4, .int x4, .int 0] M4) (fun M5 => (bif cEq (a2 &&& 1) a2 then some (some (.int a2), M5) else none)))))))))) else (bif cEq (a2 &&& 1) a2 then some (some (.int a2), M1) else none)))) := by
  refine Eq.trans (zX_rgN (tl_X12_falling g) (hc_X12_falling g) 25 _ _ _ _) ?_
  refine Eq.trans (Eq.trans (Eq.trans (r_0 (act := oF [1] (oS (fAld 92 0))) rfl) (a_F rfl)) (a_ald rfl)) ?_
  refine Eq.trans (Eq.trans (r_go (act := oCI 95 1 (zcv g 12) (X_X12_minister g)) rfl rfl) (a_cI rfl (zck (zO_72 g) rfl))) (zbI_cg (fun x1 M1 => ?_))
  refine Eq.trans (Eq.trans (r_go (act := oS (fSt 96 (gC (.int (-1))))) rfl rfl) (a_C)) ?_
  refine Eq.trans (Eq.trans (r_go (act := oS (fCm 99 129 cEq)) rfl rfl) (a_cm)) (bcg ?_ ?_)
  · refine Eq.trans (Eq.trans (r_go (act := oS (fAld 100 0)) rfl rfl) (a_ald rfl)) ?_
    refine Eq.trans (Eq.trans (r_go (act := oCI 103 1 (zcv g 12) (X_X12_bestStanding g)) rfl rfl) (a_cI rfl (zck (zO_72 g) rfl))) (zbI_cg (fun x2 M2 => ?_))
    refine Eq.trans (Eq.trans (r_go (act := oS (fSt 104 (gC (.int (-1))))) rfl rfl) (a_C)) ?_
    refine Eq.trans (Eq.trans (r_go (act := oS (fCm 129 107 cEq)) rfl rfl) (a_cm)) (bcg ?_ ?_)
    · refine Eq.trans (Eq.trans (r_go (act := oS (fIld 130 2)) rfl rfl) (a_ild rfl)) ?_
      exact Eq.trans (r_go (act := oZret) rfl rfl) (a_zret)
    · refine Eq.trans (Eq.trans (r_go (act := oS (fAld 108 0)) rfl rfl) (a_ald rfl)) ?_
      refine Eq.trans (Eq.trans (r_go (act := oS (fGr g 111 12 1)) rfl rfl) (a_gr (zO_72 g) (zR_72_1 g))) ?_
      refine Eq.trans (Eq.trans (r_go (act := oS (fSt 112 (gC (.int 4)))) rfl rfl) (a_C)) ?_
      refine Eq.trans (Eq.trans (r_go (act := oS (fAld 113 0)) rfl rfl) (a_ald rfl)) ?_
      refine Eq.trans (Eq.trans (r_go (act := oCI 116 1 (zcv g 12) (X_X12_bestStanding g)) rfl rfl) (a_cI rfl (zck (zO_72 g) rfl))) (zbI_cg (fun x3 M3 => ?_))
      refine Eq.trans (Eq.trans (r_go (act := oS (fSt 117 (gC (.int 1)))) rfl rfl) (a_C)) ?_
      refine Eq.trans (Eq.trans (r_go (act := oS (fSt 118 (g2 (fun x y => x + y)))) rfl rfl) (a_add)) ?_
      refine Eq.trans (Eq.trans (r_go (act := oS (fIs g 119)) rfl rfl) (a_isK (j := 4) (zA_73 g) zS_73 (by decide +kernel) (by decide +kernel))) ?_
      refine Eq.trans (Eq.trans (r_go (act := oS (fAld 120 0)) rfl rfl) (a_ald rfl)) ?_
      refine Eq.trans (Eq.trans (r_go (act := oS (fSt 121 (gC (.int 4)))) rfl rfl) (a_C)) ?_
      refine Eq.trans (Eq.trans (r_go (act := oS (fAld 122 0)) rfl rfl) (a_ald rfl)) ?_
      refine Eq.trans (Eq.trans (r_go (act := oCI 125 1 (zcv g 12) (X_X12_minister g)) rfl rfl) (a_cI rfl (zck (zO_72 g) rfl))) (zbI_cg (fun x4 M4 => ?_))
      refine Eq.trans (Eq.trans (r_go (act := oS (fSt 126 (gC (.int 0)))) rfl rfl) (a_C)) ?_
      refine Eq.trans (Eq.trans (r_go (act := oCV 129 4 (zcv g 12) (X_X12_notes g)) rfl rfl) (a_cV rfl (zck (zO_72 g) rfl))) (zbV_cg (fun M5 => ?_))
      refine Eq.trans (Eq.trans (r_go (act := oS (fIld 130 2)) rfl rfl) (a_ild rfl)) ?_
      exact Eq.trans (r_go (act := oZret) rfl rfl) (a_zret)
  · refine Eq.trans (Eq.trans (r_go (act := oS (fIld 130 2)) rfl rfl) (a_ild rfl)) ?_
    exact Eq.trans (r_go (act := oZret) rfl rfl) (a_zret)
set_option maxRecDepth 20000 in
theorem e_X12_goesBy_0 (g : zg) (M : zM) : zX (t_X12_goesBy g) 0 [some (.ref 72), none] [] M = zX (t_X12_goesBy g) 2 [some (.ref 72), some (.int 0)] [] M := by
  refine Eq.trans (zX_rgN (tl_X12_goesBy g) (hc_X12_goesBy g) 4 _ _ _ _) ?_
  refine Eq.trans (Eq.trans (r_0 (act := oS (fSt 1 (gC (.int 0)))) rfl) (a_C)) ?_
  refine Eq.trans (Eq.trans (r_go (act := oS (fIst 2 1)) rfl rfl) (a_ist rfl rfl)) ?_
  exact r_cut rfl rfl
theorem x_X12_goesBy_0 (g : zg) (M : zM) : X_X12_goesBy g [.ref 72] M = zX (t_X12_goesBy g) 2 [some (.ref 72), some (.int 0)] [] M := e_X12_goesBy_0 g M
set_option maxRecDepth 20000 in
theorem e_X12_goesBy_2 (g : zg) (a1 : Int32) (M : zM) : zX (t_X12_goesBy g) 2 [some (.ref 72), some (.int a1)] [] M = (bif cLt a1 (M.1 72 37) then (bif zb (4 * a1) 128 then (bif cEq (M.1 90 (zx (4 * a1))) (M.1 73 0) then (zbV (X_X12_does g [.ref 72, .int (4 * a1)] M) (fun M1 => zX (t_X12_goesBy g) 2 [some (.ref 72), some (.int (a1 + 1))] [] M1)) else zX (t_X12_goesBy g) 2 [some (.ref 72), some (.int (a1 + 1))] [] M) else none) else zX (t_X12_goesBy g) 42 [some (.ref 72), some (.int 0)] [] M) := by
  refine Eq.trans (zX_rgN (tl_X12_goesBy g) (hc_X12_goesBy g) 24 _ _ _ _) ?_
  refine Eq.trans (Eq.trans (Eq.trans (r_0 (act := oF [] (oS (fIld 3 1))) rfl) (a_F rfl)) (a_ild rfl)) ?_
  refine Eq.trans (Eq.trans (r_go (act := oS (fAld 4 0)) rfl rfl) (a_ald rfl)) ?_
  refine Eq.trans (Eq.trans (r_go (act := oS (fGi g 7 12 37)) rfl rfl) (a_gi (zO_72 g))) ?_
  refine Eq.trans (Eq.trans (r_go (act := oS (fCm 10 40 cLt)) rfl rfl) (a_cm)) (bcg ?_ ?_)
  · refine Eq.trans (Eq.trans (r_go (act := oS (fAld 11 0)) rfl rfl) (a_ald rfl)) ?_
    refine Eq.trans (Eq.trans (r_go (act := oS (fGr g 14 12 38)) rfl rfl) (a_gr (zO_72 g) (zR_72_38 g))) ?_
    refine Eq.trans (Eq.trans (r_go (act := oS (fSt 15 (gC (.int 4)))) rfl rfl) (a_C)) ?_
    refine Eq.trans (Eq.trans (r_go (act := oS (fIld 16 1)) rfl rfl) (a_ild rfl)) ?_
    refine Eq.trans (Eq.trans (r_go (act := oS (fSt 17 (g2 (fun x y => x * y)))) rfl rfl) (a_mul)) ?_
    refine Eq.trans (Eq.trans (r_go (act := oS (fIa g 18)) rfl rfl) (a_ia (zA_90 g) zS_90)) (bcg ?_ rfl)
    refine Eq.trans (Eq.trans (r_go (act := oS (fAld 19 0)) rfl rfl) (a_ald rfl)) ?_
    refine Eq.trans (Eq.trans (r_go (act := oS (fGr g 22 12 1)) rfl rfl) (a_gr (zO_72 g) (zR_72_1 g))) ?_
    refine Eq.trans (Eq.trans (r_go (act := oS (fSt 23 (gC (.int 0)))) rfl rfl) (a_C)) ?_
    refine Eq.trans (Eq.trans (r_go (act := oS (fIa g 24)) rfl rfl) (a_iaK (j := 0) (zA_73 g) zS_73 (by decide +kernel) (by decide +kernel))) ?_
    refine Eq.trans (Eq.trans (r_go (act := oS (fCm 27 34 cEq)) rfl rfl) (a_cm)) (bcg ?_ ?_)
    · refine Eq.trans (Eq.trans (r_go (act := oS (fAld 28 0)) rfl rfl) (a_ald rfl)) ?_
      refine Eq.trans (Eq.trans (r_go (act := oS (fSt 29 (gC (.int 4)))) rfl rfl) (a_C)) ?_
      refine Eq.trans (Eq.trans (r_go (act := oS (fIld 30 1)) rfl rfl) (a_ild rfl)) ?_
      refine Eq.trans (Eq.trans (r_go (act := oS (fSt 31 (g2 (fun x y => x * y)))) rfl rfl) (a_mul)) ?_
      refine Eq.trans (Eq.trans (r_go (act := oCV 34 2 (zcv g 12) (X_X12_does g)) rfl rfl) (a_cV rfl (zck (zO_72 g) rfl))) (zbV_cg (fun M1 => ?_))
      refine Eq.trans (Eq.trans (r_go (act := oS (fInc 37 1 1)) rfl rfl) (a_inc rfl rfl rfl)) ?_
      refine Eq.trans (Eq.trans (r_go (act := oS (fGo 2)) rfl rfl) (a_goto)) ?_
      exact r_cut rfl rfl
    · refine Eq.trans (Eq.trans (r_go (act := oS (fInc 37 1 1)) rfl rfl) (a_inc rfl rfl rfl)) ?_
      refine Eq.trans (Eq.trans (r_go (act := oS (fGo 2)) rfl rfl) (a_goto)) ?_
      exact r_cut rfl rfl
  · refine Eq.trans (Eq.trans (r_go (act := oS (fSt 41 (gC (.int 0)))) rfl rfl) (a_C)) ?_
    refine Eq.trans (Eq.trans (r_go (act := oS (fIst 42 1)) rfl rfl) (a_ist rfl rfl)) ?_
    exact r_cut rfl rfl
set_option maxRecDepth 20000 in
theorem e_X12_goesBy_42 (g : zg) (a1 : Int32) (M : zM) : zX (t_X12_goesBy g) 42 [some (.ref 72), some (.int a1)] [] M = (bif cLt a1 (M.1 72 6) then (zbI (X_X12_isHere g [.ref 72, .int a1] M) (fun x1 M1 => (bif cEq0 x1 then (bif zb (48 + a1) 148 then zX (t_X12_goesBy g) 42 [some (.ref 72), some (.int (a1 + 1))] [] ((zu M1.1 73 (zx (48 + a1)) 0), M1.2) else none) else (zbI (X_X12_saysOf g [.ref 72, .int a1] M1) (fun x2 M2 => (bif zb (48 + a1) 148 then zX (t_X12_goesBy g) 42 [some (.ref 72), some (.int (a1 + 1))] [] ((zu M2.1 73 (zx (48 + a1)) (x2 + 1)), M2.2) else none)))))) else (zbV (X_X12_comes g [.ref 72] M) (fun M3 => (zbV (X_X12_records g [.ref 72] M3) (fun M4 => (zbV (X_X12_judges g [.ref 72] M4) (fun M5 => (zbV (X_X12_floods g [.ref 72] M5) (fun M6 => (zbI (X_X12_falling g [.ref 72] M6) (fun x7 M7 => (bif cEq0 x7 then some (some (.int 0), ((zu M7.1 73 0 ((M7.1 73 0) + 1)), M7.2)) else some (some (.int 1), ((zu M7.1 73 0 ((M7.1 73 0) + 1)), M7.2)))))))))))))) := by
  refine Eq.trans (zX_rgN (tl_X12_goesBy g) (hc_X12_goesBy g) 31 _ _ _ _) ?_
  refine Eq.trans (Eq.trans (Eq.trans (r_0 (act := oF [] (oS (fIld 43 1))) rfl) (a_F rfl)) (a_ild rfl)) ?_
  refine Eq.trans (Eq.trans (r_go (act := oS (fAld 44 0)) rfl rfl) (a_ald rfl)) ?_
  refine Eq.trans (Eq.trans (r_go (act := oS (fGi g 47 12 6)) rfl rfl) (a_gi (zO_72 g))) ?_
  refine Eq.trans (Eq.trans (r_go (act := oS (fCm 50 84 cLt)) rfl rfl) (a_cm)) (bcg ?_ ?_)
  · refine Eq.trans (Eq.trans (r_go (act := oS (fAld 51 0)) rfl rfl) (a_ald rfl)) ?_
    refine Eq.trans (Eq.trans (r_go (act := oS (fGr g 54 12 1)) rfl rfl) (a_gr (zO_72 g) (zR_72_1 g))) ?_
    refine Eq.trans (Eq.trans (r_go (act := oS (fSt 56 (gC (.int 48)))) rfl rfl) (a_C)) ?_
    refine Eq.trans (Eq.trans (r_go (act := oS (fIld 57 1)) rfl rfl) (a_ild rfl)) ?_
    refine Eq.trans (Eq.trans (r_go (act := oS (fSt 58 (g2 (fun x y => x + y)))) rfl rfl) (a_add)) ?_
    refine Eq.trans (Eq.trans (r_go (act := oS (fAld 59 0)) rfl rfl) (a_ald rfl)) ?_
    refine Eq.trans (Eq.trans (r_go (act := oS (fIld 60 1)) rfl rfl) (a_ild rfl)) ?_
    refine Eq.trans (Eq.trans (r_go (act := oCI 63 2 (zcv g 12) (X_X12_isHere g)) rfl rfl) (a_cI rfl (zck (zO_72 g) rfl))) (zbI_cg (fun x1 M1 => ?_))
    refine Eq.trans (Eq.trans (r_go (act := oS (fIf 76 66 cEq0)) rfl rfl) (a_if)) (bcg ?_ ?_)
    · refine Eq.trans (Eq.trans (r_go (act := oS (fSt 77 (gC (.int 0)))) rfl rfl) (a_C)) ?_
      refine Eq.trans (Eq.trans (r_go (act := oS (fIs g 78)) rfl rfl) (a_is (zA_73 g) zS_73)) (bcg ?_ rfl)
      refine Eq.trans (Eq.trans (r_go (act := oS (fInc 81 1 1)) rfl rfl) (a_inc rfl rfl rfl)) ?_
      refine Eq.trans (Eq.trans (r_go (act := oS (fGo 42)) rfl rfl) (a_goto)) ?_
      exact r_cut rfl rfl
    · refine Eq.trans (Eq.trans (r_go (act := oS (fAld 67 0)) rfl rfl) (a_ald rfl)) ?_
      refine Eq.trans (Eq.trans (r_go (act := oS (fIld 68 1)) rfl rfl) (a_ild rfl)) ?_
      refine Eq.trans (Eq.trans (r_go (act := oCI 71 2 (zcv g 12) (X_X12_saysOf g)) rfl rfl) (a_cI rfl (zck (zO_72 g) rfl))) (zbI_cg (fun x2 M2 => ?_))
      refine Eq.trans (Eq.trans (r_go (act := oS (fSt 72 (gC (.int 1)))) rfl rfl) (a_C)) ?_
      refine Eq.trans (Eq.trans (r_go (act := oS (fSt 73 (g2 (fun x y => x + y)))) rfl rfl) (a_add)) ?_
      refine Eq.trans (Eq.trans (r_go (act := oS (fGo 77)) rfl rfl) (a_goto)) ?_
      refine Eq.trans (Eq.trans (r_go (act := oS (fIs g 78)) rfl rfl) (a_is (zA_73 g) zS_73)) (bcg ?_ rfl)
      refine Eq.trans (Eq.trans (r_go (act := oS (fInc 81 1 1)) rfl rfl) (a_inc rfl rfl rfl)) ?_
      refine Eq.trans (Eq.trans (r_go (act := oS (fGo 42)) rfl rfl) (a_goto)) ?_
      exact r_cut rfl rfl
  · refine Eq.trans (Eq.trans (r_go (act := oS (fAld 85 0)) rfl rfl) (a_ald rfl)) ?_
    refine Eq.trans (Eq.trans (r_go (act := oCV 88 1 (zcv g 12) (X_X12_comes g)) rfl rfl) (a_cV rfl (zck (zO_72 g) rfl))) (zbV_cg (fun M3 => ?_))
    refine Eq.trans (Eq.trans (r_go (act := oS (fAld 89 0)) rfl rfl) (a_ald rfl)) ?_
    refine Eq.trans (Eq.trans (r_go (act := oCV 92 1 (zcv g 12) (X_X12_records g)) rfl rfl) (a_cV rfl (zck (zO_72 g) rfl))) (zbV_cg (fun M4 => ?_))
    refine Eq.trans (Eq.trans (r_go (act := oS (fAld 93 0)) rfl rfl) (a_ald rfl)) ?_
    refine Eq.trans (Eq.trans (r_go (act := oCV 96 1 (zcv g 12) (X_X12_judges g)) rfl rfl) (a_cV rfl (zck (zO_72 g) rfl))) (zbV_cg (fun M5 => ?_))
    refine Eq.trans (Eq.trans (r_go (act := oS (fAld 97 0)) rfl rfl) (a_ald rfl)) ?_
    refine Eq.trans (Eq.trans (r_go (act := oCV 100 1 (zcv g 12) (X_X12_floods g)) rfl rfl) (a_cV rfl (zck (zO_72 g) rfl))) (zbV_cg (fun M6 => ?_))
    refine Eq.trans (Eq.trans (r_go (act := oS (fAld 101 0)) rfl rfl) (a_ald rfl)) ?_
    refine Eq.trans (Eq.trans (r_go (act := oCI 104 1 (zcv g 12) (X_X12_falling g)) rfl rfl) (a_cI rfl (zck (zO_72 g) rfl))) (zbI_cg (fun x7 M7 => ?_))
    refine Eq.trans (Eq.trans (r_go (act := oS (fIst 105 1)) rfl rfl) (a_ist rfl rfl)) ?_
    refine Eq.trans (Eq.trans (r_go (act := oS (fAld 106 0)) rfl rfl) (a_ald rfl)) ?_
    refine Eq.trans (Eq.trans (r_go (act := oS (fGr g 109 12 1)) rfl rfl) (a_gr (zO_72 g) (zR_72_1 g))) ?_
    refine Eq.trans (Eq.trans (r_go (act := oS (fSt 110 (gC (.int 0)))) rfl rfl) (a_C)) ?_
    refine Eq.trans (Eq.trans (r_go (act := oS (fAld 111 0)) rfl rfl) (a_ald rfl)) ?_
    refine Eq.trans (Eq.trans (r_go (act := oS (fGr g 114 12 1)) rfl rfl) (a_gr (zO_72 g) (zR_72_1 g))) ?_
    refine Eq.trans (Eq.trans (r_go (act := oS (fSt 115 (gC (.int 0)))) rfl rfl) (a_C)) ?_
    refine Eq.trans (Eq.trans (r_go (act := oS (fIa g 116)) rfl rfl) (a_iaK (j := 0) (zA_73 g) zS_73 (by decide +kernel) (by decide +kernel))) ?_
    refine Eq.trans (Eq.trans (r_go (act := oS (fSt 117 (gC (.int 1)))) rfl rfl) (a_C)) ?_
    refine Eq.trans (Eq.trans (r_go (act := oS (fSt 118 (g2 (fun x y => x + y)))) rfl rfl) (a_add)) ?_
    refine Eq.trans (Eq.trans (r_go (act := oS (fIs g 119)) rfl rfl) (a_isK (j := 0) (zA_73 g) zS_73 (by decide +kernel) (by decide +kernel))) ?_
    refine Eq.trans (Eq.trans (r_go (act := oS (fIld 120 1)) rfl rfl) (a_ild rfl)) ?_
    refine Eq.trans (Eq.trans (r_go (act := oS (fIf 127 123 cEq0)) rfl rfl) (a_if)) (bcg ?_ ?_)
    · refine Eq.trans (Eq.trans (r_go (act := oS (fSt 128 (gC (.int 0)))) rfl rfl) (a_C)) ?_
      exact Eq.trans (r_go (act := oIret) rfl rfl) (a_iret)
    · refine Eq.trans (Eq.trans (r_go (act := oS (fSt 124 (gC (.int 1)))) rfl rfl) (a_C)) ?_
      refine Eq.trans (Eq.trans (r_go (act := oS (fGo 128)) rfl rfl) (a_goto)) ?_
      exact Eq.trans (r_go (act := oIret) rfl rfl) (a_iret)
set_option maxRecDepth 20000 in
theorem e_X12_days_0 (g : zg) (a1 : Int32) (M : zM) : zX (t_X12_days g) 0 [some (.ref 72), some (.int a1), none, none] [] M = (zbI (X_X12_isIn g [.ref 72, .int a1, .int 1, .int 60] ((zu M.1 72 0 0), M.2)) (fun x1 M1 => (bif cEq0 x1 then some (some (.int (-1)), M1) else (bif cGt ((M1.1 73 0) + a1) 9999 then some (some (.int (-1)), M1) else zX (t_X12_days g) 36 [some (.ref 72), some (.int a1), some (.int 0), some (.int 0)] [] M1)))) := by
  refine Eq.trans (zX_rgN (tl_X12_days g) (hc_X12_days g) 23 _ _ _ _) ?_
  refine Eq.trans (Eq.trans (r_0 (act := oS (fAld 1 0)) rfl) (a_ald rfl)) ?_
  refine Eq.trans (Eq.trans (r_go (act := oS (fSt 2 (gC (.int 0)))) rfl rfl) (a_C)) ?_
  refine Eq.trans (Eq.trans (r_go (act := oS (fPi g 5 12 0)) rfl rfl) (a_pi (zO_72 g))) ?_
  refine Eq.trans (Eq.trans (r_go (act := oS (fAld 6 0)) rfl rfl) (a_ald rfl)) ?_
  refine Eq.trans (Eq.trans (r_go (act := oS (fIld 7 1)) rfl rfl) (a_ild rfl)) ?_
  refine Eq.trans (Eq.trans (r_go (act := oS (fSt 8 (gC (.int 1)))) rfl rfl) (a_C)) ?_
  refine Eq.trans (Eq.trans (r_go (act := oS (fSt 10 (gC (.int 60)))) rfl rfl) (a_C)) ?_
  refine Eq.trans (Eq.trans (r_go (act := oCI 13 4 (zcv g 12) (X_X12_isIn g)) rfl rfl) (a_cI rfl (zck (zO_72 g) rfl))) (zbI_cg (fun x1 M1 => ?_))
  refine Eq.trans (Eq.trans (r_go (act := oS (fIf 30 16 cEq0)) rfl rfl) (a_if)) (bcg ?_ ?_)
  · refine Eq.trans (Eq.trans (r_go (act := oS (fSt 31 (gC (.int (-1))))) rfl rfl) (a_C)) ?_
    exact Eq.trans (r_go (act := oIret) rfl rfl) (a_iret)
  · refine Eq.trans (Eq.trans (r_go (act := oS (fAld 17 0)) rfl rfl) (a_ald rfl)) ?_
    refine Eq.trans (Eq.trans (r_go (act := oS (fGr g 20 12 1)) rfl rfl) (a_gr (zO_72 g) (zR_72_1 g))) ?_
    refine Eq.trans (Eq.trans (r_go (act := oS (fSt 21 (gC (.int 0)))) rfl rfl) (a_C)) ?_
    refine Eq.trans (Eq.trans (r_go (act := oS (fIa g 22)) rfl rfl) (a_iaK (j := 0) (zA_73 g) zS_73 (by decide +kernel) (by decide +kernel))) ?_
    refine Eq.trans (Eq.trans (r_go (act := oS (fIld 23 1)) rfl rfl) (a_ild rfl)) ?_
    refine Eq.trans (Eq.trans (r_go (act := oS (fSt 24 (g2 (fun x y => x + y)))) rfl rfl) (a_add)) ?_
    refine Eq.trans (Eq.trans (r_go (act := oS (fSt 27 (gC (.int 9999)))) rfl rfl) (a_C)) ?_
    refine Eq.trans (Eq.trans (r_go (act := oS (fCm 30 32 cGt)) rfl rfl) (a_cm)) (bcg ?_ ?_)
    · refine Eq.trans (Eq.trans (r_go (act := oS (fSt 31 (gC (.int (-1))))) rfl rfl) (a_C)) ?_
      exact Eq.trans (r_go (act := oIret) rfl rfl) (a_iret)
    · refine Eq.trans (Eq.trans (r_go (act := oS (fSt 33 (gC (.int 0)))) rfl rfl) (a_C)) ?_
      refine Eq.trans (Eq.trans (r_go (act := oS (fIst 34 2)) rfl rfl) (a_ist rfl rfl)) ?_
      refine Eq.trans (Eq.trans (r_go (act := oS (fSt 35 (gC (.int 0)))) rfl rfl) (a_C)) ?_
      refine Eq.trans (Eq.trans (r_go (act := oS (fIst 36 3)) rfl rfl) (a_ist rfl rfl)) ?_
      exact r_cut rfl rfl
theorem x_X12_days_0 (g : zg) (a1 : Int32) (M : zM) : X_X12_days g [.ref 72, .int a1] M = (zbI (X_X12_isIn g [.ref 72, .int a1, .int 1, .int 60] ((zu M.1 72 0 0), M.2)) (fun x1 M1 => (bif cEq0 x1 then some (some (.int (-1)), M1) else (bif cGt ((M1.1 73 0) + a1) 9999 then some (some (.int (-1)), M1) else zX (t_X12_days g) 36 [some (.ref 72), some (.int a1), some (.int 0), some (.int 0)] [] M1)))) := e_X12_days_0 g a1 M
set_option maxRecDepth 20000 in
theorem e_X12_days_36 (g : zg) (a1 : Int32) (a2 : Int32) (a3 : Int32) (M : zM) : zX (t_X12_days g) 36 [some (.ref 72), some (.int a1), some (.int a2), some (.int a3)] [] M = (bif cLt a3 a1 then (zbV (X_X12_keepsAhead g [.ref 72] M) (fun M1 => (zbI (X_X12_goesBy g [.ref 72] M1) (fun x2 M2 => zX (t_X12_days g) 36 [some (.ref 72), some (.int a1), some (.int (a2 + x2)), some (.int (a3 + 1))] [] M2)))) else some (some (.int a2), M)) := by
  refine Eq.trans (zX_rgN (tl_X12_days g) (hc_X12_days g) 14 _ _ _ _) ?_
  refine Eq.trans (Eq.trans (Eq.trans (r_0 (act := oF [] (oS (fIld 37 3))) rfl) (a_F rfl)) (a_ild rfl)) ?_
  refine Eq.trans (Eq.trans (r_go (act := oS (fIld 38 1)) rfl rfl) (a_ild rfl)) ?_
  refine Eq.trans (Eq.trans (r_go (act := oS (fCm 41 58 cLt)) rfl rfl) (a_cm)) (bcg ?_ ?_)
  · refine Eq.trans (Eq.trans (r_go (act := oS (fAld 42 0)) rfl rfl) (a_ald rfl)) ?_
    refine Eq.trans (Eq.trans (r_go (act := oCV 45 1 (zcv g 12) (X_X12_keepsAhead g)) rfl rfl) (a_cV rfl (zck (zO_72 g) rfl))) (zbV_cg (fun M1 => ?_))
    refine Eq.trans (Eq.trans (r_go (act := oS (fIld 46 2)) rfl rfl) (a_ild rfl)) ?_
    refine Eq.trans (Eq.trans (r_go (act := oS (fAld 47 0)) rfl rfl) (a_ald rfl)) ?_
    refine Eq.trans (Eq.trans (r_go (act := oCI 50 1 (zcv g 12) (X_X12_goesBy g)) rfl rfl) (a_cI rfl (zck (zO_72 g) rfl))) (zbI_cg (fun x2 M2 => ?_))
    refine Eq.trans (Eq.trans (r_go (act := oS (fSt 51 (g2 (fun x y => x + y)))) rfl rfl) (a_add)) ?_
    refine Eq.trans (Eq.trans (r_go (act := oS (fIst 52 2)) rfl rfl) (a_ist rfl rfl)) ?_
    refine Eq.trans (Eq.trans (r_go (act := oS (fInc 55 3 1)) rfl rfl) (a_inc rfl rfl rfl)) ?_
    refine Eq.trans (Eq.trans (r_go (act := oS (fGo 36)) rfl rfl) (a_goto)) ?_
    exact r_cut rfl rfl
  · refine Eq.trans (Eq.trans (r_go (act := oS (fIld 59 2)) rfl rfl) (a_ild rfl)) ?_
    exact Eq.trans (r_go (act := oIret) rfl rfl) (a_iret)
set_option maxRecDepth 20000 in
theorem e_X12_of_0 (g : zg) (a1 : Int32) (a2 : Int32) (M : zM) : zX (t_X12_of g) 0 [some (.ref 72), some (.int a1), some (.int a2)] [] M = (zbI (X_X12_isTeller g [.ref 72, .int a1] ((zu M.1 72 0 0), M.2)) (fun x1 M1 => (bif cEq0 x1 then some (some (.int (-10000)), M1) else (zbI (X_X12_isIn g [.ref 72, .int a2, .int 0, .int 9] M1) (fun x2 M2 => (bif cEq0 x2 then some (some (.int (-10000)), M2) else (bif cEq0 a2 then (bif zb a1 10 then some (some (.int (M2.1 76 (zx a1))), M2) else none) else (bif cEq a2 1 then (bif zb a1 10 then some (some (.int (M2.1 77 (zx a1))), M2) else none) else (bif cEq a2 2 then (bif zb (8 + a1) 148 then some (some (.int (M2.1 73 (zx (8 + a1)))), M2) else none) else (bif cEq a2 3 then (bif zb (18 + a1) 148 then some (some (.int ((M2.1 73 (zx (18 + a1))) - 1)), M2) else none) else (bif cEq a2 4 then (bif zb (28 + a1) 148 then some (some (.int (M2.1 73 (zx (28 + a1)))), M2) else none) else (bif cEq a2 5 then (bif zb (38 + a1) 148 then some (some (.int (M2.1 73 (zx (38 + a1)))), M2) else none) else (bif cEq a2 6 then (zbI (X_X12_saidBy g [.ref 72, .int a1] M2) (fun x3 M3 => some (some (.int x3), M3))) else (bif cEq a2 7 then (zbI (X_X12_tellOf g [.ref 72, .int a1] M2) (fun x4 M4 => some (some (.int x4), M4))) else (bif cEq a2 8 then (zbI (X_X12_errOf g [.ref 72, .int a1] M2) (fun x5 M5 => some (some (.int x5), M5))) else (zbI (X_X12_saidBy g [.ref 72, .int a1] M2) (fun x6 M6 => (bif cEq x6 (-1) then some (some (.int 0), M6) else (zbI (X_X12_saidBy g [.ref 72, .int a1] M6) (fun x7 M7 => (zbI (X_X12_blameFor g [.ref 72, .int a1, .int x7] M7) (fun x8 M8 => some (some (.int x8), M8))))))))))))))))))))))) := by
  refine Eq.trans (zX_rgN (tl_X12_of g) (hc_X12_of g) 52 _ _ _ _) ?_
  refine Eq.trans (Eq.trans (r_0 (act := oS (fAld 1 0)) rfl) (a_ald rfl)) ?_
  refine Eq.trans (Eq.trans (r_go (act := oS (fSt 2 (gC (.int 0)))) rfl rfl) (a_C)) ?_
  refine Eq.trans (Eq.trans (r_go (act := oS (fPi g 5 12 0)) rfl rfl) (a_pi (zO_72 g))) ?_
  refine Eq.trans (Eq.trans (r_go (act := oS (fAld 6 0)) rfl rfl) (a_ald rfl)) ?_
  refine Eq.trans (Eq.trans (r_go (act := oS (fIld 7 1)) rfl rfl) (a_ild rfl)) ?_
  refine Eq.trans (Eq.trans (r_go (act := oCI 10 2 (zcv g 12) (X_X12_isTeller g)) rfl rfl) (a_cI rfl (zck (zO_72 g) rfl))) (zbI_cg (fun x1 M1 => ?_))
  refine Eq.trans (Eq.trans (r_go (act := oS (fIf 24 13 cEq0)) rfl rfl) (a_if)) (bcg ?_ ?_)
  · refine Eq.trans (Eq.trans (r_go (act := oS (fSt 27 (gC (.int (-10000))))) rfl rfl) (a_C)) ?_
    exact Eq.trans (r_go (act := oIret) rfl rfl) (a_iret)
  · refine Eq.trans (Eq.trans (r_go (act := oS (fAld 14 0)) rfl rfl) (a_ald rfl)) ?_
    refine Eq.trans (Eq.trans (r_go (act := oS (fIld 15 2)) rfl rfl) (a_ild rfl)) ?_
    refine Eq.trans (Eq.trans (r_go (act := oS (fSt 16 (gC (.int 0)))) rfl rfl) (a_C)) ?_
    refine Eq.trans (Eq.trans (r_go (act := oS (fSt 18 (gC (.int 9)))) rfl rfl) (a_C)) ?_
    refine Eq.trans (Eq.trans (r_go (act := oCI 21 4 (zcv g 12) (X_X12_isIn g)) rfl rfl) (a_cI rfl (zck (zO_72 g) rfl))) (zbI_cg (fun x2 M2 => ?_))
    refine Eq.trans (Eq.trans (r_go (act := oS (fIf 24 28 cEq0)) rfl rfl) (a_if)) (bcg ?_ ?_)
    · refine Eq.trans (Eq.trans (r_go (act := oS (fSt 27 (gC (.int (-10000))))) rfl rfl) (a_C)) ?_
      exact Eq.trans (r_go (act := oIret) rfl rfl) (a_iret)
    · refine Eq.trans (Eq.trans (r_go (act := oS (fIld 29 2)) rfl rfl) (a_ild rfl)) ?_
      refine Eq.trans (Eq.trans (r_go (act := oS (fIf 32 39 cEq0)) rfl rfl) (a_if)) (bcg ?_ ?_)
      · refine Eq.trans (Eq.trans (r_go (act := oS (fAld 33 0)) rfl rfl) (a_ald rfl)) ?_
        refine Eq.trans (Eq.trans (r_go (act := oS (fGr g 36 12 9)) rfl rfl) (a_gr (zO_72 g) (zR_72_9 g))) ?_
        refine Eq.trans (Eq.trans (r_go (act := oS (fIld 37 1)) rfl rfl) (a_ild rfl)) ?_
        refine Eq.trans (Eq.trans (r_go (act := oS (fIa g 38)) rfl rfl) (a_ia (zA_76 g) zS_76)) (bcg ?_ rfl)
        exact Eq.trans (r_go (act := oIret) rfl rfl) (a_iret)
      · refine Eq.trans (Eq.trans (r_go (act := oS (fIld 40 2)) rfl rfl) (a_ild rfl)) ?_
        refine Eq.trans (Eq.trans (r_go (act := oS (fSt 41 (gC (.int 1)))) rfl rfl) (a_C)) ?_
        refine Eq.trans (Eq.trans (r_go (act := oS (fCm 44 51 cEq)) rfl rfl) (a_cm)) (bcg ?_ ?_)
        · refine Eq.trans (Eq.trans (r_go (act := oS (fAld 45 0)) rfl rfl) (a_ald rfl)) ?_
          refine Eq.trans (Eq.trans (r_go (act := oS (fGr g 48 12 10)) rfl rfl) (a_gr (zO_72 g) (zR_72_10 g))) ?_
          refine Eq.trans (Eq.trans (r_go (act := oS (fIld 49 1)) rfl rfl) (a_ild rfl)) ?_
          refine Eq.trans (Eq.trans (r_go (act := oS (fIa g 50)) rfl rfl) (a_ia (zA_77 g) zS_77)) (bcg ?_ rfl)
          exact Eq.trans (r_go (act := oIret) rfl rfl) (a_iret)
        · refine Eq.trans (Eq.trans (r_go (act := oS (fIld 52 2)) rfl rfl) (a_ild rfl)) ?_
          refine Eq.trans (Eq.trans (r_go (act := oS (fSt 53 (gC (.int 2)))) rfl rfl) (a_C)) ?_
          refine Eq.trans (Eq.trans (r_go (act := oS (fCm 56 66 cEq)) rfl rfl) (a_cm)) (bcg ?_ ?_)
          · refine Eq.trans (Eq.trans (r_go (act := oS (fAld 57 0)) rfl rfl) (a_ald rfl)) ?_
            refine Eq.trans (Eq.trans (r_go (act := oS (fGr g 60 12 1)) rfl rfl) (a_gr (zO_72 g) (zR_72_1 g))) ?_
            refine Eq.trans (Eq.trans (r_go (act := oS (fSt 62 (gC (.int 8)))) rfl rfl) (a_C)) ?_
            refine Eq.trans (Eq.trans (r_go (act := oS (fIld 63 1)) rfl rfl) (a_ild rfl)) ?_
            refine Eq.trans (Eq.trans (r_go (act := oS (fSt 64 (g2 (fun x y => x + y)))) rfl rfl) (a_add)) ?_
            refine Eq.trans (Eq.trans (r_go (act := oS (fIa g 65)) rfl rfl) (a_ia (zA_73 g) zS_73)) (bcg ?_ rfl)
            exact Eq.trans (r_go (act := oIret) rfl rfl) (a_iret)
          · refine Eq.trans (Eq.trans (r_go (act := oS (fIld 67 2)) rfl rfl) (a_ild rfl)) ?_
            refine Eq.trans (Eq.trans (r_go (act := oS (fSt 68 (gC (.int 3)))) rfl rfl) (a_C)) ?_
            refine Eq.trans (Eq.trans (r_go (act := oS (fCm 71 83 cEq)) rfl rfl) (a_cm)) (bcg ?_ ?_)
            · refine Eq.trans (Eq.trans (r_go (act := oS (fAld 72 0)) rfl rfl) (a_ald rfl)) ?_
              refine Eq.trans (Eq.trans (r_go (act := oS (fGr g 75 12 1)) rfl rfl) (a_gr (zO_72 g) (zR_72_1 g))) ?_
              refine Eq.trans (Eq.trans (r_go (act := oS (fSt 77 (gC (.int 18)))) rfl rfl) (a_C)) ?_
              refine Eq.trans (Eq.trans (r_go (act := oS (fIld 78 1)) rfl rfl) (a_ild rfl)) ?_
              refine Eq.trans (Eq.trans (r_go (act := oS (fSt 79 (g2 (fun x y => x + y)))) rfl rfl) (a_add)) ?_
              refine Eq.trans (Eq.trans (r_go (act := oS (fIa g 80)) rfl rfl) (a_ia (zA_73 g) zS_73)) (bcg ?_ rfl)
              refine Eq.trans (Eq.trans (r_go (act := oS (fSt 81 (gC (.int 1)))) rfl rfl) (a_C)) ?_
              refine Eq.trans (Eq.trans (r_go (act := oS (fSt 82 (g2 (fun x y => x - y)))) rfl rfl) (a_sub)) ?_
              exact Eq.trans (r_go (act := oIret) rfl rfl) (a_iret)
            · refine Eq.trans (Eq.trans (r_go (act := oS (fIld 84 2)) rfl rfl) (a_ild rfl)) ?_
              refine Eq.trans (Eq.trans (r_go (act := oS (fSt 85 (gC (.int 4)))) rfl rfl) (a_C)) ?_
              refine Eq.trans (Eq.trans (r_go (act := oS (fCm 88 98 cEq)) rfl rfl) (a_cm)) (bcg ?_ ?_)
              · refine Eq.trans (Eq.trans (r_go (act := oS (fAld 89 0)) rfl rfl) (a_ald rfl)) ?_
                refine Eq.trans (Eq.trans (r_go (act := oS (fGr g 92 12 1)) rfl rfl) (a_gr (zO_72 g) (zR_72_1 g))) ?_
                refine Eq.trans (Eq.trans (r_go (act := oS (fSt 94 (gC (.int 28)))) rfl rfl) (a_C)) ?_
                refine Eq.trans (Eq.trans (r_go (act := oS (fIld 95 1)) rfl rfl) (a_ild rfl)) ?_
                refine Eq.trans (Eq.trans (r_go (act := oS (fSt 96 (g2 (fun x y => x + y)))) rfl rfl) (a_add)) ?_
                refine Eq.trans (Eq.trans (r_go (act := oS (fIa g 97)) rfl rfl) (a_ia (zA_73 g) zS_73)) (bcg ?_ rfl)
                exact Eq.trans (r_go (act := oIret) rfl rfl) (a_iret)
              · refine Eq.trans (Eq.trans (r_go (act := oS (fIld 99 2)) rfl rfl) (a_ild rfl)) ?_
                refine Eq.trans (Eq.trans (r_go (act := oS (fSt 100 (gC (.int 5)))) rfl rfl) (a_C)) ?_
                refine Eq.trans (Eq.trans (r_go (act := oS (fCm 103 113 cEq)) rfl rfl) (a_cm)) (bcg ?_ ?_)
                · refine Eq.trans (Eq.trans (r_go (act := oS (fAld 104 0)) rfl rfl) (a_ald rfl)) ?_
                  refine Eq.trans (Eq.trans (r_go (act := oS (fGr g 107 12 1)) rfl rfl) (a_gr (zO_72 g) (zR_72_1 g))) ?_
                  refine Eq.trans (Eq.trans (r_go (act := oS (fSt 109 (gC (.int 38)))) rfl rfl) (a_C)) ?_
                  refine Eq.trans (Eq.trans (r_go (act := oS (fIld 110 1)) rfl rfl) (a_ild rfl)) ?_
                  refine Eq.trans (Eq.trans (r_go (act := oS (fSt 111 (g2 (fun x y => x + y)))) rfl rfl) (a_add)) ?_
                  refine Eq.trans (Eq.trans (r_go (act := oS (fIa g 112)) rfl rfl) (a_ia (zA_73 g) zS_73)) (bcg ?_ rfl)
                  exact Eq.trans (r_go (act := oIret) rfl rfl) (a_iret)
                · refine Eq.trans (Eq.trans (r_go (act := oS (fIld 114 2)) rfl rfl) (a_ild rfl)) ?_
                  refine Eq.trans (Eq.trans (r_go (act := oS (fSt 116 (gC (.int 6)))) rfl rfl) (a_C)) ?_
                  refine Eq.trans (Eq.trans (r_go (act := oS (fCm 119 125 cEq)) rfl rfl) (a_cm)) (bcg ?_ ?_)
                  · refine Eq.trans (Eq.trans (r_go (act := oS (fAld 120 0)) rfl rfl) (a_ald rfl)) ?_
                    refine Eq.trans (Eq.trans (r_go (act := oS (fIld 121 1)) rfl rfl) (a_ild rfl)) ?_
                    refine Eq.trans (Eq.trans (r_go (act := oCI 124 2 (zcv g 12) (X_X12_saidBy g)) rfl rfl) (a_cI rfl (zck (zO_72 g) rfl))) (zbI_cg (fun x3 M3 => ?_))
                    exact Eq.trans (r_go (act := oIret) rfl rfl) (a_iret)
                  · refine Eq.trans (Eq.trans (r_go (act := oS (fIld 126 2)) rfl rfl) (a_ild rfl)) ?_
                    refine Eq.trans (Eq.trans (r_go (act := oS (fSt 128 (gC (.int 7)))) rfl rfl) (a_C)) ?_
                    refine Eq.trans (Eq.trans (r_go (act := oS (fCm 131 137 cEq)) rfl rfl) (a_cm)) (bcg ?_ ?_)
                    · refine Eq.trans (Eq.trans (r_go (act := oS (fAld 132 0)) rfl rfl) (a_ald rfl)) ?_
                      refine Eq.trans (Eq.trans (r_go (act := oS (fIld 133 1)) rfl rfl) (a_ild rfl)) ?_
                      refine Eq.trans (Eq.trans (r_go (act := oCI 136 2 (zcv g 12) (X_X12_tellOf g)) rfl rfl) (a_cI rfl (zck (zO_72 g) rfl))) (zbI_cg (fun x4 M4 => ?_))
                      exact Eq.trans (r_go (act := oIret) rfl rfl) (a_iret)
                    · refine Eq.trans (Eq.trans (r_go (act := oS (fIld 138 2)) rfl rfl) (a_ild rfl)) ?_
                      refine Eq.trans (Eq.trans (r_go (act := oS (fSt 140 (gC (.int 8)))) rfl rfl) (a_C)) ?_
                      refine Eq.trans (Eq.trans (r_go (act := oS (fCm 143 151 cEq)) rfl rfl) (a_cm)) (bcg ?_ ?_)
                      · refine Eq.trans (Eq.trans (r_go (act := oS (fAld 144 0)) rfl rfl) (a_ald rfl)) ?_
                        refine Eq.trans (Eq.trans (r_go (act := oS (fIld 145 1)) rfl rfl) (a_ild rfl)) ?_
                        refine Eq.trans (Eq.trans (r_go (act := oCI 148 2 (zcv g 12) (X_X12_errOf g)) rfl rfl) (a_cI rfl (zck (zO_72 g) rfl))) (zbI_cg (fun x5 M5 => ?_))
                        refine Eq.trans (Eq.trans (r_go (act := oS (fGo 174)) rfl rfl) (a_goto)) ?_
                        exact Eq.trans (r_go (act := oIret) rfl rfl) (a_iret)
                      · refine Eq.trans (Eq.trans (r_go (act := oS (fAld 152 0)) rfl rfl) (a_ald rfl)) ?_
                        refine Eq.trans (Eq.trans (r_go (act := oS (fIld 153 1)) rfl rfl) (a_ild rfl)) ?_
                        refine Eq.trans (Eq.trans (r_go (act := oCI 156 2 (zcv g 12) (X_X12_saidBy g)) rfl rfl) (a_cI rfl (zck (zO_72 g) rfl))) (zbI_cg (fun x6 M6 => ?_))
                        refine Eq.trans (Eq.trans (r_go (act := oS (fSt 157 (gC (.int (-1))))) rfl rfl) (a_C)) ?_
                        refine Eq.trans (Eq.trans (r_go (act := oS (fCm 160 164 cEq)) rfl rfl) (a_cm)) (bcg ?_ ?_)
                        · refine Eq.trans (Eq.trans (r_go (act := oS (fSt 161 (gC (.int 0)))) rfl rfl) (a_C)) ?_
                          refine Eq.trans (Eq.trans (r_go (act := oS (fGo 174)) rfl rfl) (a_goto)) ?_
                          exact Eq.trans (r_go (act := oIret) rfl rfl) (a_iret)
                        · refine Eq.trans (Eq.trans (r_go (act := oS (fAld 165 0)) rfl rfl) (a_ald rfl)) ?_
                          refine Eq.trans (Eq.trans (r_go (act := oS (fIld 166 1)) rfl rfl) (a_ild rfl)) ?_
                          refine Eq.trans (Eq.trans (r_go (act := oS (fAld 167 0)) rfl rfl) (a_ald rfl)) ?_
                          refine Eq.trans (Eq.trans (r_go (act := oS (fIld 168 1)) rfl rfl) (a_ild rfl)) ?_
                          refine Eq.trans (Eq.trans (r_go (act := oCI 171 2 (zcv g 12) (X_X12_saidBy g)) rfl rfl) (a_cI rfl (zck (zO_72 g) rfl))) (zbI_cg (fun x7 M7 => ?_))
                          refine Eq.trans (Eq.trans (r_go (act := oCI 174 3 (zcv g 12) (X_X12_blameFor g)) rfl rfl) (a_cI rfl (zck (zO_72 g) rfl))) (zbI_cg (fun x8 M8 => ?_))
                          exact Eq.trans (r_go (act := oIret) rfl rfl) (a_iret)
theorem x_X12_of_0 (g : zg) (a1 : Int32) (a2 : Int32) (M : zM) : X_X12_of g [.ref 72, .int a1, .int a2] M = (zbI (X_X12_isTeller g [.ref 72, .int a1] ((zu M.1 72 0 0), M.2)) (fun x1 M1 => (bif cEq0 x1 then some (some (.int (-10000)), M1) else (zbI (X_X12_isIn g [.ref 72, .int a2, .int 0, .int 9] M1) (fun x2 M2 => (bif cEq0 x2 then some (some (.int (-10000)), M2) else (bif cEq0 a2 then (bif zb a1 10 then some (some (.int (M2.1 76 (zx a1))), M2) else none) else (bif cEq a2 1 then (bif zb a1 10 then some (some (.int (M2.1 77 (zx a1))), M2) else none) else (bif cEq a2 2 then (bif zb (8 + a1) 148 then some (some (.int (M2.1 73 (zx (8 + a1)))), M2) else none) else (bif cEq a2 3 then (bif zb (18 + a1) 148 then some (some (.int ((M2.1 73 (zx (18 + a1))) - 1)), M2) else none) else (bif cEq a2 4 then (bif zb (28 + a1) 148 then some (some (.int (M2.1 73 (zx (28 + a1)))), M2) else none) else (bif cEq a2 5 then (bif zb (38 + a1) 148 then some (some (.int (M2.1 73 (zx (38 + a1)))), M2) else none) else (bif cEq a2 6 then (zbI (X_X12_saidBy g [.ref 72, .int a1] M2) (fun x3 M3 => some (some (.int x3), M3))) else (bif cEq a2 7 then (zbI (X_X12_tellOf g [.ref 72, .int a1] M2) (fun x4 M4 => some (some (.int x4), M4))) else (bif cEq a2 8 then (zbI (X_X12_errOf g [.ref 72, .int a1] M2) (fun x5 M5 => some (some (.int x5), M5))) else (zbI (X_X12_saidBy g [.ref 72, .int a1] M2) (fun x6 M6 => (bif cEq x6 (-1) then some (some (.int 0), M6) else (zbI (X_X12_saidBy g [.ref 72, .int a1] M6) (fun x7 M7 => (zbI (X_X12_blameFor g [.ref 72, .int a1, .int x7] M7) (fun x8 M8 => some (some (.int x8), M8))))))))))))))))))))))) := e_X12_of_0 g a1 a2 M
set_option maxRecDepth 20000 in
theorem e_X12_moves_0 (g : zg) (a1 : Int32) (M : zM) : zX (t_X12_moves g) 0 [some (.ref 72), some (.int a1)] [] M = (zbI (X_X12_isIn g [.ref 72, .int a1, .int 0, .int 9999] ((zu M.1 72 0 0), M.2)) (fun x1 M1 => (bif cEq0 x1 then some (some (.int (-100)), M1) else (zbI (X_X12_rounded g [.ref 72, .int a1] M1) (fun x2 M2 => some (some (.int x2), M2)))))) := by
  refine Eq.trans (zX_rgN (tl_X12_moves g) (hc_X12_moves g) 15 _ _ _ _) ?_
  refine Eq.trans (Eq.trans (r_0 (act := oS (fAld 1 0)) rfl) (a_ald rfl)) ?_
  refine Eq.trans (Eq.trans (r_go (act := oS (fSt 2 (gC (.int 0)))) rfl rfl) (a_C)) ?_
  refine Eq.trans (Eq.trans (r_go (act := oS (fPi g 5 12 0)) rfl rfl) (a_pi (zO_72 g))) ?_
  refine Eq.trans (Eq.trans (r_go (act := oS (fAld 6 0)) rfl rfl) (a_ald rfl)) ?_
  refine Eq.trans (Eq.trans (r_go (act := oS (fIld 7 1)) rfl rfl) (a_ild rfl)) ?_
  refine Eq.trans (Eq.trans (r_go (act := oS (fSt 8 (gC (.int 0)))) rfl rfl) (a_C)) ?_
  refine Eq.trans (Eq.trans (r_go (act := oS (fSt 11 (gC (.int 9999)))) rfl rfl) (a_C)) ?_
  refine Eq.trans (Eq.trans (r_go (act := oCI 14 4 (zcv g 12) (X_X12_isIn g)) rfl rfl) (a_cI rfl (zck (zO_72 g) rfl))) (zbI_cg (fun x1 M1 => ?_))
  refine Eq.trans (Eq.trans (r_go (act := oS (fIf 25 17 cEq0)) rfl rfl) (a_if)) (bcg ?_ ?_)
  · refine Eq.trans (Eq.trans (r_go (act := oS (fSt 27 (gC (.int (-100))))) rfl rfl) (a_C)) ?_
    exact Eq.trans (r_go (act := oIret) rfl rfl) (a_iret)
  · refine Eq.trans (Eq.trans (r_go (act := oS (fAld 18 0)) rfl rfl) (a_ald rfl)) ?_
    refine Eq.trans (Eq.trans (r_go (act := oS (fIld 19 1)) rfl rfl) (a_ild rfl)) ?_
    refine Eq.trans (Eq.trans (r_go (act := oCI 22 2 (zcv g 12) (X_X12_rounded g)) rfl rfl) (a_cI rfl (zck (zO_72 g) rfl))) (zbI_cg (fun x2 M2 => ?_))
    refine Eq.trans (Eq.trans (r_go (act := oS (fGo 27)) rfl rfl) (a_goto)) ?_
    exact Eq.trans (r_go (act := oIret) rfl rfl) (a_iret)
theorem x_X12_moves_0 (g : zg) (a1 : Int32) (M : zM) : X_X12_moves g [.ref 72, .int a1] M = (zbI (X_X12_isIn g [.ref 72, .int a1, .int 0, .int 9999] ((zu M.1 72 0 0), M.2)) (fun x1 M1 => (bif cEq0 x1 then some (some (.int (-100)), M1) else (zbI (X_X12_rounded g [.ref 72, .int a1] M1) (fun x2 M2 => some (some (.int x2), M2)))))) := e_X12_moves_0 g a1 M
set_option maxRecDepth 20000 in
theorem e_X12_book_0 (g : zg) (a1 : Int32) (a2 : Int32) (M : zM) : zX (t_X12_book g) 0 [some (.ref 72), some (.int a1), some (.int a2)] [] M = (zbI (X_X12_isIn g [.ref 72, .int a1, .int 0, .int ((M.1 73 2) - 1)] ((zu M.1 72 0 0), M.2)) (fun x1 M1 => (bif cEq0 x1 then some (some (.int (-10000)), M1) else (zbI (X_X12_isIn g [.ref 72, .int a2, .int 0, .int 3] M1) (fun x2 M2 => (bif cEq0 x2 then some (some (.int (-10000)), M2) else (bif zb ((4 * a1) + a2) 600 then some (some (.int (M2.1 78 (zx ((4 * a1) + a2)))), M2) else none))))))) := by
  refine Eq.trans (zX_rgN (tl_X12_book g) (hc_X12_book g) 31 _ _ _ _) ?_
  refine Eq.trans (Eq.trans (r_0 (act := oS (fAld 1 0)) rfl) (a_ald rfl)) ?_
  refine Eq.trans (Eq.trans (r_go (act := oS (fSt 2 (gC (.int 0)))) rfl rfl) (a_C)) ?_
  refine Eq.trans (Eq.trans (r_go (act := oS (fPi g 5 12 0)) rfl rfl) (a_pi (zO_72 g))) ?_
  refine Eq.trans (Eq.trans (r_go (act := oS (fAld 6 0)) rfl rfl) (a_ald rfl)) ?_
  refine Eq.trans (Eq.trans (r_go (act := oS (fIld 7 1)) rfl rfl) (a_ild rfl)) ?_
  refine Eq.trans (Eq.trans (r_go (act := oS (fSt 8 (gC (.int 0)))) rfl rfl) (a_C)) ?_
  refine Eq.trans (Eq.trans (r_go (act := oS (fAld 9 0)) rfl rfl) (a_ald rfl)) ?_
  refine Eq.trans (Eq.trans (r_go (act := oS (fGr g 12 12 1)) rfl rfl) (a_gr (zO_72 g) (zR_72_1 g))) ?_
  refine Eq.trans (Eq.trans (r_go (act := oS (fSt 13 (gC (.int 2)))) rfl rfl) (a_C)) ?_
  refine Eq.trans (Eq.trans (r_go (act := oS (fIa g 14)) rfl rfl) (a_iaKV (j := 2) (zA_73 g) zS_73 (by decide +kernel) (by decide +kernel) rfl)) ?_
  refine Eq.trans (Eq.trans (r_go (act := oS (fSt 15 (gC (.int 1)))) rfl rfl) (a_C)) ?_
  refine Eq.trans (Eq.trans (r_go (act := oS (fSt 16 (g2 (fun x y => x - y)))) rfl rfl) (a_sub)) ?_
  refine Eq.trans (Eq.trans (r_go (act := oCI 19 4 (zcv g 12) (X_X12_isIn g)) rfl rfl) (a_cI rfl (zck (zO_72 g) rfl))) (zbI_cg (fun x1 M1 => ?_))
  refine Eq.trans (Eq.trans (r_go (act := oS (fIf 45 22 cEq0)) rfl rfl) (a_if)) (bcg ?_ ?_)
  · refine Eq.trans (Eq.trans (r_go (act := oS (fSt 48 (gC (.int (-10000))))) rfl rfl) (a_C)) ?_
    exact Eq.trans (r_go (act := oIret) rfl rfl) (a_iret)
  · refine Eq.trans (Eq.trans (r_go (act := oS (fAld 23 0)) rfl rfl) (a_ald rfl)) ?_
    refine Eq.trans (Eq.trans (r_go (act := oS (fIld 24 2)) rfl rfl) (a_ild rfl)) ?_
    refine Eq.trans (Eq.trans (r_go (act := oS (fSt 25 (gC (.int 0)))) rfl rfl) (a_C)) ?_
    refine Eq.trans (Eq.trans (r_go (act := oS (fSt 26 (gC (.int 3)))) rfl rfl) (a_C)) ?_
    refine Eq.trans (Eq.trans (r_go (act := oCI 29 4 (zcv g 12) (X_X12_isIn g)) rfl rfl) (a_cI rfl (zck (zO_72 g) rfl))) (zbI_cg (fun x2 M2 => ?_))
    refine Eq.trans (Eq.trans (r_go (act := oS (fIf 45 32 cEq0)) rfl rfl) (a_if)) (bcg ?_ ?_)
    · refine Eq.trans (Eq.trans (r_go (act := oS (fSt 48 (gC (.int (-10000))))) rfl rfl) (a_C)) ?_
      exact Eq.trans (r_go (act := oIret) rfl rfl) (a_iret)
    · refine Eq.trans (Eq.trans (r_go (act := oS (fAld 33 0)) rfl rfl) (a_ald rfl)) ?_
      refine Eq.trans (Eq.trans (r_go (act := oS (fGr g 36 12 11)) rfl rfl) (a_gr (zO_72 g) (zR_72_11 g))) ?_
      refine Eq.trans (Eq.trans (r_go (act := oS (fSt 37 (gC (.int 4)))) rfl rfl) (a_C)) ?_
      refine Eq.trans (Eq.trans (r_go (act := oS (fIld 38 1)) rfl rfl) (a_ild rfl)) ?_
      refine Eq.trans (Eq.trans (r_go (act := oS (fSt 39 (g2 (fun x y => x * y)))) rfl rfl) (a_mul)) ?_
      refine Eq.trans (Eq.trans (r_go (act := oS (fIld 40 2)) rfl rfl) (a_ild rfl)) ?_
      refine Eq.trans (Eq.trans (r_go (act := oS (fSt 41 (g2 (fun x y => x + y)))) rfl rfl) (a_add)) ?_
      refine Eq.trans (Eq.trans (r_go (act := oS (fIa g 42)) rfl rfl) (a_ia (zA_78 g) zS_78)) (bcg ?_ rfl)
      refine Eq.trans (Eq.trans (r_go (act := oS (fGo 48)) rfl rfl) (a_goto)) ?_
      exact Eq.trans (r_go (act := oIret) rfl rfl) (a_iret)
theorem x_X12_book_0 (g : zg) (a1 : Int32) (a2 : Int32) (M : zM) : X_X12_book g [.ref 72, .int a1, .int a2] M = (zbI (X_X12_isIn g [.ref 72, .int a1, .int 0, .int ((M.1 73 2) - 1)] ((zu M.1 72 0 0), M.2)) (fun x1 M1 => (bif cEq0 x1 then some (some (.int (-10000)), M1) else (zbI (X_X12_isIn g [.ref 72, .int a2, .int 0, .int 3] M1) (fun x2 M2 => (bif cEq0 x2 then some (some (.int (-10000)), M2) else (bif zb ((4 * a1) + a2) 600 then some (some (.int (M2.1 78 (zx ((4 * a1) + a2)))), M2) else none))))))) := e_X12_book_0 g a1 a2 M
set_option maxRecDepth 20000 in
theorem e_X12_thinks_0 (g : zg) (M : zM) : zX (t_X12_thinks g) 0 [some (.ref 72), none] [] M = zX (t_X12_thinks g) 2 [some (.ref 72), some (.int 0)] [] M := by
  refine Eq.trans (zX_rgN (tl_X12_thinks g) (hc_X12_thinks g) 4 _ _ _ _) ?_
  refine Eq.trans (Eq.trans (r_0 (act := oS (fSt 1 (gC (.int 0)))) rfl) (a_C)) ?_
  refine Eq.trans (Eq.trans (r_go (act := oS (fIst 2 1)) rfl rfl) (a_ist rfl rfl)) ?_
  exact r_cut rfl rfl
theorem x_X12_thinks_0 (g : zg) (M : zM) : X_X12_thinks g [.ref 72] M = zX (t_X12_thinks g) 2 [some (.ref 72), some (.int 0)] [] M := e_X12_thinks_0 g M
set_option maxRecDepth 20000 in
theorem e_X12_thinks_2 (g : zg) (a1 : Int32) (M : zM) : zX (t_X12_thinks g) 2 [some (.ref 72), some (.int a1)] [] M = (bif cLt a1 148 then (bif zb a1 148 then (bif zb a1 148 then zX (t_X12_thinks g) 2 [some (.ref 72), some (.int (a1 + 1))] [] ((zu M.1 75 (zx a1) (M.1 73 (zx a1))), M.2) else none) else none) else some (none, ((zu (zu (zu M.1 72 5 1) 72 41 (-1)) 72 42 (-1)), M.2))) := by
  refine Eq.trans (zX_rgN (tl_X12_thinks g) (hc_X12_thinks g) 15 _ _ _ _) ?_
  refine Eq.trans (Eq.trans (Eq.trans (r_0 (act := oF [] (oS (fIld 3 1))) rfl) (a_F rfl)) (a_ild rfl)) ?_
  refine Eq.trans (Eq.trans (r_go (act := oS (fSt 6 (gC (.int 148)))) rfl rfl) (a_C)) ?_
  refine Eq.trans (Eq.trans (r_go (act := oS (fCm 9 27 cLt)) rfl rfl) (a_cm)) (bcg ?_ ?_)
  · refine Eq.trans (Eq.trans (r_go (act := oS (fAld 10 0)) rfl rfl) (a_ald rfl)) ?_
    refine Eq.trans (Eq.trans (r_go (act := oS (fGr g 13 12 4)) rfl rfl) (a_gr (zO_72 g) (zR_72_4 g))) ?_
    refine Eq.trans (Eq.trans (r_go (act := oS (fIld 14 1)) rfl rfl) (a_ild rfl)) ?_
    refine Eq.trans (Eq.trans (r_go (act := oS (fAld 15 0)) rfl rfl) (a_ald rfl)) ?_
    refine Eq.trans (Eq.trans (r_go (act := oS (fGr g 18 12 1)) rfl rfl) (a_gr (zO_72 g) (zR_72_1 g))) ?_
    refine Eq.trans (Eq.trans (r_go (act := oS (fIld 19 1)) rfl rfl) (a_ild rfl)) ?_
    refine Eq.trans (Eq.trans (r_go (act := oS (fIa g 20)) rfl rfl) (a_ia (zA_73 g) zS_73)) (bcg ?_ rfl)
    refine Eq.trans (Eq.trans (r_go (act := oS (fIs g 21)) rfl rfl) (a_is (zA_75 g) zS_75)) (bcg ?_ rfl)
    refine Eq.trans (Eq.trans (r_go (act := oS (fInc 24 1 1)) rfl rfl) (a_inc rfl rfl rfl)) ?_
    refine Eq.trans (Eq.trans (r_go (act := oS (fGo 2)) rfl rfl) (a_goto)) ?_
    exact r_cut rfl rfl
  · refine Eq.trans (Eq.trans (r_go (act := oS (fAld 28 0)) rfl rfl) (a_ald rfl)) ?_
    refine Eq.trans (Eq.trans (r_go (act := oS (fSt 29 (gC (.int 1)))) rfl rfl) (a_C)) ?_
    refine Eq.trans (Eq.trans (r_go (act := oS (fPz g 32 12 5)) rfl rfl) (a_pzK (zO_72 g) (by decide +kernel))) ?_
    refine Eq.trans (Eq.trans (r_go (act := oS (fAld 33 0)) rfl rfl) (a_ald rfl)) ?_
    refine Eq.trans (Eq.trans (r_go (act := oS (fSt 34 (gC (.int (-1))))) rfl rfl) (a_C)) ?_
    refine Eq.trans (Eq.trans (r_go (act := oS (fPi g 37 12 41)) rfl rfl) (a_pi (zO_72 g))) ?_
    refine Eq.trans (Eq.trans (r_go (act := oS (fAld 38 0)) rfl rfl) (a_ald rfl)) ?_
    refine Eq.trans (Eq.trans (r_go (act := oS (fSt 39 (gC (.int (-1))))) rfl rfl) (a_C)) ?_
    refine Eq.trans (Eq.trans (r_go (act := oS (fPi g 42 12 42)) rfl rfl) (a_pi (zO_72 g))) ?_
    exact Eq.trans (r_go (act := oVret) rfl rfl) (a_vret)
set_option maxRecDepth 20000 in
theorem e_X12_endsThought_0 (g : zg) (M : zM) : zX (t_X12_endsThought g) 0 [some (.ref 72), none] [] M = zX (t_X12_endsThought g) 2 [some (.ref 72), some (.int 0)] [] M := by
  refine Eq.trans (zX_rgN (tl_X12_endsThought g) (hc_X12_endsThought g) 4 _ _ _ _) ?_
  refine Eq.trans (Eq.trans (r_0 (act := oS (fSt 1 (gC (.int 0)))) rfl) (a_C)) ?_
  refine Eq.trans (Eq.trans (r_go (act := oS (fIst 2 1)) rfl rfl) (a_ist rfl rfl)) ?_
  exact r_cut rfl rfl
theorem x_X12_endsThought_0 (g : zg) (M : zM) : X_X12_endsThought g [.ref 72] M = zX (t_X12_endsThought g) 2 [some (.ref 72), some (.int 0)] [] M := e_X12_endsThought_0 g M
set_option maxRecDepth 20000 in
theorem e_X12_endsThought_2 (g : zg) (a1 : Int32) (M : zM) : zX (t_X12_endsThought g) 2 [some (.ref 72), some (.int a1)] [] M = (bif cLt a1 148 then (bif zb a1 148 then (bif zb a1 148 then zX (t_X12_endsThought g) 2 [some (.ref 72), some (.int (a1 + 1))] [] ((zu M.1 73 (zx a1) (M.1 75 (zx a1))), M.2) else none) else none) else some (none, ((zu M.1 72 5 0), M.2))) := by
  refine Eq.trans (zX_rgN (tl_X12_endsThought g) (hc_X12_endsThought g) 15 _ _ _ _) ?_
  refine Eq.trans (Eq.trans (Eq.trans (r_0 (act := oF [] (oS (fIld 3 1))) rfl) (a_F rfl)) (a_ild rfl)) ?_
  refine Eq.trans (Eq.trans (r_go (act := oS (fSt 6 (gC (.int 148)))) rfl rfl) (a_C)) ?_
  refine Eq.trans (Eq.trans (r_go (act := oS (fCm 9 27 cLt)) rfl rfl) (a_cm)) (bcg ?_ ?_)
  · refine Eq.trans (Eq.trans (r_go (act := oS (fAld 10 0)) rfl rfl) (a_ald rfl)) ?_
    refine Eq.trans (Eq.trans (r_go (act := oS (fGr g 13 12 1)) rfl rfl) (a_gr (zO_72 g) (zR_72_1 g))) ?_
    refine Eq.trans (Eq.trans (r_go (act := oS (fIld 14 1)) rfl rfl) (a_ild rfl)) ?_
    refine Eq.trans (Eq.trans (r_go (act := oS (fAld 15 0)) rfl rfl) (a_ald rfl)) ?_
    refine Eq.trans (Eq.trans (r_go (act := oS (fGr g 18 12 4)) rfl rfl) (a_gr (zO_72 g) (zR_72_4 g))) ?_
    refine Eq.trans (Eq.trans (r_go (act := oS (fIld 19 1)) rfl rfl) (a_ild rfl)) ?_
    refine Eq.trans (Eq.trans (r_go (act := oS (fIa g 20)) rfl rfl) (a_ia (zA_75 g) zS_75)) (bcg ?_ rfl)
    refine Eq.trans (Eq.trans (r_go (act := oS (fIs g 21)) rfl rfl) (a_is (zA_73 g) zS_73)) (bcg ?_ rfl)
    refine Eq.trans (Eq.trans (r_go (act := oS (fInc 24 1 1)) rfl rfl) (a_inc rfl rfl rfl)) ?_
    refine Eq.trans (Eq.trans (r_go (act := oS (fGo 2)) rfl rfl) (a_goto)) ?_
    exact r_cut rfl rfl
  · refine Eq.trans (Eq.trans (r_go (act := oS (fAld 28 0)) rfl rfl) (a_ald rfl)) ?_
    refine Eq.trans (Eq.trans (r_go (act := oS (fSt 29 (gC (.int 0)))) rfl rfl) (a_C)) ?_
    refine Eq.trans (Eq.trans (r_go (act := oS (fPz g 32 12 5)) rfl rfl) (a_pzK (zO_72 g) (by decide +kernel))) ?_
    exact Eq.trans (r_go (act := oVret) rfl rfl) (a_vret)
set_option maxRecDepth 20000 in
theorem e_X12_goes_0 (g : zg) (a1 : Int32) (a2 : Int32) (M : zM) : zX (t_X12_goes g) 0 [some (.ref 72), some (.int a1), some (.int a2), none] [] M = (zbI (X_X12_isIn g [.ref 72, .int a1, .int 1, .int 99] ((zu M.1 72 0 0), M.2)) (fun x1 M1 => (bif cEq0 x1 then some (some (.int (-100000)), M1) else (zbI (X_X12_isIn g [.ref 72, .int a2, .int 0, .int 5] M1) (fun x2 M2 => (bif cEq0 x2 then some (some (.int (-100000)), M2) else (zbV (X_X12_thinks g [.ref 72] M2) (fun M3 => zX (t_X12_goes g) 36 [some (.ref 72), some (.int a1), some (.int a2), some (.int 0)] [] M3)))))))) := by
  refine Eq.trans (zX_rgN (tl_X12_goes g) (hc_X12_goes g) 21 _ _ _ _) ?_
  refine Eq.trans (Eq.trans (r_0 (act := oS (fAld 1 0)) rfl) (a_ald rfl)) ?_
  refine Eq.trans (Eq.trans (r_go (act := oS (fSt 2 (gC (.int 0)))) rfl rfl) (a_C)) ?_
  refine Eq.trans (Eq.trans (r_go (act := oS (fPi g 5 12 0)) rfl rfl) (a_pi (zO_72 g))) ?_
  refine Eq.trans (Eq.trans (r_go (act := oS (fAld 6 0)) rfl rfl) (a_ald rfl)) ?_
  refine Eq.trans (Eq.trans (r_go (act := oS (fIld 7 1)) rfl rfl) (a_ild rfl)) ?_
  refine Eq.trans (Eq.trans (r_go (act := oS (fSt 8 (gC (.int 1)))) rfl rfl) (a_C)) ?_
  refine Eq.trans (Eq.trans (r_go (act := oS (fSt 10 (gC (.int 99)))) rfl rfl) (a_C)) ?_
  refine Eq.trans (Eq.trans (r_go (act := oCI 13 4 (zcv g 12) (X_X12_isIn g)) rfl rfl) (a_cI rfl (zck (zO_72 g) rfl))) (zbI_cg (fun x1 M1 => ?_))
  refine Eq.trans (Eq.trans (r_go (act := oS (fIf 26 16 cEq0)) rfl rfl) (a_if)) (bcg ?_ ?_)
  · refine Eq.trans (Eq.trans (r_go (act := oS (fSt 29 (gC (.int (-100000))))) rfl rfl) (a_C)) ?_
    exact Eq.trans (r_go (act := oIret) rfl rfl) (a_iret)
  · refine Eq.trans (Eq.trans (r_go (act := oS (fAld 17 0)) rfl rfl) (a_ald rfl)) ?_
    refine Eq.trans (Eq.trans (r_go (act := oS (fIld 18 2)) rfl rfl) (a_ild rfl)) ?_
    refine Eq.trans (Eq.trans (r_go (act := oS (fSt 19 (gC (.int 0)))) rfl rfl) (a_C)) ?_
    refine Eq.trans (Eq.trans (r_go (act := oS (fSt 20 (gC (.int 5)))) rfl rfl) (a_C)) ?_
    refine Eq.trans (Eq.trans (r_go (act := oCI 23 4 (zcv g 12) (X_X12_isIn g)) rfl rfl) (a_cI rfl (zck (zO_72 g) rfl))) (zbI_cg (fun x2 M2 => ?_))
    refine Eq.trans (Eq.trans (r_go (act := oS (fIf 26 30 cEq0)) rfl rfl) (a_if)) (bcg ?_ ?_)
    · refine Eq.trans (Eq.trans (r_go (act := oS (fSt 29 (gC (.int (-100000))))) rfl rfl) (a_C)) ?_
      exact Eq.trans (r_go (act := oIret) rfl rfl) (a_iret)
    · refine Eq.trans (Eq.trans (r_go (act := oS (fAld 31 0)) rfl rfl) (a_ald rfl)) ?_
      refine Eq.trans (Eq.trans (r_go (act := oCV 34 1 (zcv g 12) (X_X12_thinks g)) rfl rfl) (a_cV rfl (zck (zO_72 g) rfl))) (zbV_cg (fun M3 => ?_))
      refine Eq.trans (Eq.trans (r_go (act := oS (fSt 35 (gC (.int 0)))) rfl rfl) (a_C)) ?_
      refine Eq.trans (Eq.trans (r_go (act := oS (fIst 36 3)) rfl rfl) (a_ist rfl rfl)) ?_
      exact r_cut rfl rfl
theorem x_X12_goes_0 (g : zg) (a1 : Int32) (a2 : Int32) (M : zM) : X_X12_goes g [.ref 72, .int a1, .int a2] M = (zbI (X_X12_isIn g [.ref 72, .int a1, .int 1, .int 99] ((zu M.1 72 0 0), M.2)) (fun x1 M1 => (bif cEq0 x1 then some (some (.int (-100000)), M1) else (zbI (X_X12_isIn g [.ref 72, .int a2, .int 0, .int 5] M1) (fun x2 M2 => (bif cEq0 x2 then some (some (.int (-100000)), M2) else (zbV (X_X12_thinks g [.ref 72] M2) (fun M3 => zX (t_X12_goes g) 36 [some (.ref 72), some (.int a1), some (.int a2), some (.int 0)] [] M3)))))))) := e_X12_goes_0 g a1 a2 M
set_option maxRecDepth 20000 in
theorem e_X12_goes_36 (g : zg) (a1 : Int32) (a2 : Int32) (a3 : Int32) (M : zM) : zX (t_X12_goes g) 36 [some (.ref 72), some (.int a1), some (.int a2), some (.int a3)] [] M = (bif cLt a3 a1 then (zbI (X_X12_goesBy g [.ref 72] M) (fun x1 M1 => zX (t_X12_goes g) 36 [some (.ref 72), some (.int a1), some (.int a2), some (.int (a3 + 1))] [] M1)) else (bif cEq0 a2 then (zbI (X_X12_minister g [.ref 72] M) (fun x2 M2 => (zbV (X_X12_endsThought g [.ref 72] M2) (fun M3 => some (some (.int x2), M3))))) else (bif cEq a2 1 then (zbV (X_X12_endsThought g [.ref 72] M) (fun M4 => some (some (.int (M.1 73 5)), M4))) else (bif cEq a2 2 then (zbI (X_X12_glass g [.ref 72] M) (fun x5 M5 => (zbV (X_X12_endsThought g [.ref 72] M5) (fun M6 => some (some (.int x5), M6))))) else (bif cEq a2 3 then (zbV (X_X12_endsThought g [.ref 72] M) (fun M7 => some (some (.int (M.1 73 6)), M7))) else (bif cEq a2 4 then (zbV (X_X12_endsThought g [.ref 72] M) (fun M8 => some (some (.int (M.1 72 41)), M8))) else (zbV (X_X12_endsThought g [.ref 72] M) (fun M9 => some (some (.int (M.1 72 42)), M9))))))))) := by
  refine Eq.trans (zX_rgN (tl_X12_goes g) (hc_X12_goes g) 26 _ _ _ _) ?_
  refine Eq.trans (Eq.trans (Eq.trans (r_0 (act := oF [] (oS (fIld 37 3))) rfl) (a_F rfl)) (a_ild rfl)) ?_
  refine Eq.trans (Eq.trans (r_go (act := oS (fIld 38 1)) rfl rfl) (a_ild rfl)) ?_
  refine Eq.trans (Eq.trans (r_go (act := oS (fCm 41 52 cLt)) rfl rfl) (a_cm)) (bcg ?_ ?_)
  · refine Eq.trans (Eq.trans (r_go (act := oS (fAld 42 0)) rfl rfl) (a_ald rfl)) ?_
    refine Eq.trans (Eq.trans (r_go (act := oCI 45 1 (zcv g 12) (X_X12_goesBy g)) rfl rfl) (a_cI rfl (zck (zO_72 g) rfl))) (zbI_cg (fun x1 M1 => ?_))
    refine Eq.trans (Eq.trans (r_go (act := oS (fSt 46 gPop)) rfl rfl) (a_popI)) ?_
    refine Eq.trans (Eq.trans (r_go (act := oS (fInc 49 3 1)) rfl rfl) (a_inc rfl rfl rfl)) ?_
    refine Eq.trans (Eq.trans (r_go (act := oS (fGo 36)) rfl rfl) (a_goto)) ?_
    exact r_cut rfl rfl
  · refine Eq.trans (Eq.trans (r_go (act := oS (fIld 53 2)) rfl rfl) (a_ild rfl)) ?_
    refine Eq.trans (Eq.trans (r_go (act := oS (fIf 56 63 cEq0)) rfl rfl) (a_if)) (bcg ?_ ?_)
    · refine Eq.trans (Eq.trans (r_go (act := oS (fAld 57 0)) rfl rfl) (a_ald rfl)) ?_
      refine Eq.trans (Eq.trans (r_go (act := oCI 60 1 (zcv g 12) (X_X12_minister g)) rfl rfl) (a_cI rfl (zck (zO_72 g) rfl))) (zbI_cg (fun x2 M2 => ?_))
      refine Eq.trans (Eq.trans (r_go (act := oS (fGo 120)) rfl rfl) (a_goto)) ?_
      refine Eq.trans (Eq.trans (r_go (act := oS (fIst 121 3)) rfl rfl) (a_ist rfl rfl)) ?_
      refine Eq.trans (Eq.trans (r_go (act := oS (fAld 122 0)) rfl rfl) (a_ald rfl)) ?_
      refine Eq.trans (Eq.trans (r_go (act := oCV 125 1 (zcv g 12) (X_X12_endsThought g)) rfl rfl) (a_cV rfl (zck (zO_72 g) rfl))) (zbV_cg (fun M3 => ?_))
      refine Eq.trans (Eq.trans (r_go (act := oS (fIld 126 3)) rfl rfl) (a_ild rfl)) ?_
      exact Eq.trans (r_go (act := oIret) rfl rfl) (a_iret)
    · refine Eq.trans (Eq.trans (r_go (act := oS (fIld 64 2)) rfl rfl) (a_ild rfl)) ?_
      refine Eq.trans (Eq.trans (r_go (act := oS (fSt 65 (gC (.int 1)))) rfl rfl) (a_C)) ?_
      refine Eq.trans (Eq.trans (r_go (act := oS (fCm 68 77 cEq)) rfl rfl) (a_cm)) (bcg ?_ ?_)
      · refine Eq.trans (Eq.trans (r_go (act := oS (fAld 69 0)) rfl rfl) (a_ald rfl)) ?_
        refine Eq.trans (Eq.trans (r_go (act := oS (fGr g 72 12 1)) rfl rfl) (a_gr (zO_72 g) (zR_72_1 g))) ?_
        refine Eq.trans (Eq.trans (r_go (act := oS (fSt 73 (gC (.int 5)))) rfl rfl) (a_C)) ?_
        refine Eq.trans (Eq.trans (r_go (act := oS (fIa g 74)) rfl rfl) (a_iaK (j := 5) (zA_73 g) zS_73 (by decide +kernel) (by decide +kernel))) ?_
        refine Eq.trans (Eq.trans (r_go (act := oS (fGo 120)) rfl rfl) (a_goto)) ?_
        refine Eq.trans (Eq.trans (r_go (act := oS (fIst 121 3)) rfl rfl) (a_ist rfl rfl)) ?_
        refine Eq.trans (Eq.trans (r_go (act := oS (fAld 122 0)) rfl rfl) (a_ald rfl)) ?_
        refine Eq.trans (Eq.trans (r_go (act := oCV 125 1 (zcv g 12) (X_X12_endsThought g)) rfl rfl) (a_cV rfl (zck (zO_72 g) rfl))) (zbV_cg (fun M4 => ?_))
        refine Eq.trans (Eq.trans (r_go (act := oS (fIld 126 3)) rfl rfl) (a_ild rfl)) ?_
        exact Eq.trans (r_go (act := oIret) rfl rfl) (a_iret)
      · refine Eq.trans (Eq.trans (r_go (act := oS (fIld 78 2)) rfl rfl) (a_ild rfl)) ?_
        refine Eq.trans (Eq.trans (r_go (act := oS (fSt 79 (gC (.int 2)))) rfl rfl) (a_C)) ?_
        refine Eq.trans (Eq.trans (r_go (act := oS (fCm 82 89 cEq)) rfl rfl) (a_cm)) (bcg ?_ ?_)
        · refine Eq.trans (Eq.trans (r_go (act := oS (fAld 83 0)) rfl rfl) (a_ald rfl)) ?_
          refine Eq.trans (Eq.trans (r_go (act := oCI 86 1 (zcv g 12) (X_X12_glass g)) rfl rfl) (a_cI rfl (zck (zO_72 g) rfl))) (zbI_cg (fun x5 M5 => ?_))
          refine Eq.trans (Eq.trans (r_go (act := oS (fGo 120)) rfl rfl) (a_goto)) ?_
          refine Eq.trans (Eq.trans (r_go (act := oS (fIst 121 3)) rfl rfl) (a_ist rfl rfl)) ?_
          refine Eq.trans (Eq.trans (r_go (act := oS (fAld 122 0)) rfl rfl) (a_ald rfl)) ?_
          refine Eq.trans (Eq.trans (r_go (act := oCV 125 1 (zcv g 12) (X_X12_endsThought g)) rfl rfl) (a_cV rfl (zck (zO_72 g) rfl))) (zbV_cg (fun M6 => ?_))
          refine Eq.trans (Eq.trans (r_go (act := oS (fIld 126 3)) rfl rfl) (a_ild rfl)) ?_
          exact Eq.trans (r_go (act := oIret) rfl rfl) (a_iret)
        · refine Eq.trans (Eq.trans (r_go (act := oS (fIld 90 2)) rfl rfl) (a_ild rfl)) ?_
          refine Eq.trans (Eq.trans (r_go (act := oS (fSt 91 (gC (.int 3)))) rfl rfl) (a_C)) ?_
          refine Eq.trans (Eq.trans (r_go (act := oS (fCm 94 104 cEq)) rfl rfl) (a_cm)) (bcg ?_ ?_)
          · refine Eq.trans (Eq.trans (r_go (act := oS (fAld 95 0)) rfl rfl) (a_ald rfl)) ?_
            refine Eq.trans (Eq.trans (r_go (act := oS (fGr g 98 12 1)) rfl rfl) (a_gr (zO_72 g) (zR_72_1 g))) ?_
            refine Eq.trans (Eq.trans (r_go (act := oS (fSt 100 (gC (.int 6)))) rfl rfl) (a_C)) ?_
            refine Eq.trans (Eq.trans (r_go (act := oS (fIa g 101)) rfl rfl) (a_iaK (j := 6) (zA_73 g) zS_73 (by decide +kernel) (by decide +kernel))) ?_
            refine Eq.trans (Eq.trans (r_go (act := oS (fGo 120)) rfl rfl) (a_goto)) ?_
            refine Eq.trans (Eq.trans (r_go (act := oS (fIst 121 3)) rfl rfl) (a_ist rfl rfl)) ?_
            refine Eq.trans (Eq.trans (r_go (act := oS (fAld 122 0)) rfl rfl) (a_ald rfl)) ?_
            refine Eq.trans (Eq.trans (r_go (act := oCV 125 1 (zcv g 12) (X_X12_endsThought g)) rfl rfl) (a_cV rfl (zck (zO_72 g) rfl))) (zbV_cg (fun M7 => ?_))
            refine Eq.trans (Eq.trans (r_go (act := oS (fIld 126 3)) rfl rfl) (a_ild rfl)) ?_
            exact Eq.trans (r_go (act := oIret) rfl rfl) (a_iret)
          · refine Eq.trans (Eq.trans (r_go (act := oS (fIld 105 2)) rfl rfl) (a_ild rfl)) ?_
            refine Eq.trans (Eq.trans (r_go (act := oS (fSt 106 (gC (.int 4)))) rfl rfl) (a_C)) ?_
            refine Eq.trans (Eq.trans (r_go (act := oS (fCm 109 116 cEq)) rfl rfl) (a_cm)) (bcg ?_ ?_)
            · refine Eq.trans (Eq.trans (r_go (act := oS (fAld 110 0)) rfl rfl) (a_ald rfl)) ?_
              refine Eq.trans (Eq.trans (r_go (act := oS (fGi g 113 12 41)) rfl rfl) (a_gi (zO_72 g))) ?_
              refine Eq.trans (Eq.trans (r_go (act := oS (fGo 120)) rfl rfl) (a_goto)) ?_
              refine Eq.trans (Eq.trans (r_go (act := oS (fIst 121 3)) rfl rfl) (a_ist rfl rfl)) ?_
              refine Eq.trans (Eq.trans (r_go (act := oS (fAld 122 0)) rfl rfl) (a_ald rfl)) ?_
              refine Eq.trans (Eq.trans (r_go (act := oCV 125 1 (zcv g 12) (X_X12_endsThought g)) rfl rfl) (a_cV rfl (zck (zO_72 g) rfl))) (zbV_cg (fun M8 => ?_))
              refine Eq.trans (Eq.trans (r_go (act := oS (fIld 126 3)) rfl rfl) (a_ild rfl)) ?_
              exact Eq.trans (r_go (act := oIret) rfl rfl) (a_iret)
            · refine Eq.trans (Eq.trans (r_go (act := oS (fAld 117 0)) rfl rfl) (a_ald rfl)) ?_
              refine Eq.trans (Eq.trans (r_go (act := oS (fGi g 120 12 42)) rfl rfl) (a_gi (zO_72 g))) ?_
              refine Eq.trans (Eq.trans (r_go (act := oS (fIst 121 3)) rfl rfl) (a_ist rfl rfl)) ?_
              refine Eq.trans (Eq.trans (r_go (act := oS (fAld 122 0)) rfl rfl) (a_ald rfl)) ?_
              refine Eq.trans (Eq.trans (r_go (act := oCV 125 1 (zcv g 12) (X_X12_endsThought g)) rfl rfl) (a_cV rfl (zck (zO_72 g) rfl))) (zbV_cg (fun M9 => ?_))
              refine Eq.trans (Eq.trans (r_go (act := oS (fIld 126 3)) rfl rfl) (a_ild rfl)) ?_
              exact Eq.trans (r_go (act := oIret) rfl rfl) (a_iret)
