set_option maxRecDepth 20000 in
theorem e_X4_reckon_103 (g : zg) (a2 : Int32) (a3 : Int32) (a4 : Int32) (a5 : Int32) (M : zM) : zX (t_X4_reckon g) 103 [some (.ref 9), none, some (.int a2), some (.int a3), some (.int a4), some (.int a5), none] [] M = (bif cEq (-a5) 143 then (bif cGt0 a3 then (bif zb (a3 - 1) 32 then (bif zb (a3 - 1) 32 then zX (t_X4_reckon g) 5 [some (.ref 9), none, some (.int a2), some (.int a3), some (.int (a4 + 1)), none, none] [] ((zu M.1 15 (zx (a3 - 1)) (1 - (M.1 15 (zx (a3 - 1))))), M.2) else none) else none) else zX (t_X4_reckon g) 137 [some (.ref 9), none, some (.int a2), some (.int a3), some (.int a4), some (.int a5), none] [] M) else zX (t_X4_reckon g) 137 [some (.ref 9), none, some (.int a2), some (.int a3), some (.int a4), some (.int a5), none] [] M) := by
  refine Eq.trans (zX_rgN (tl_X4_reckon g) (hc_X4_reckon g) 25 _ _ _ _) ?_
  refine Eq.trans (Eq.trans (Eq.trans (r_0 (act := oF [1, 6] (oS (fIld 105 5))) rfl) (a_F rfl)) (a_ild rfl)) ?_
  refine Eq.trans (Eq.trans (r_go (act := oS (fSt 106 (g1 (fun x => -x)))) rfl rfl) (a_neg)) ?_
  refine Eq.trans (Eq.trans (r_go (act := oS (fSt 109 (gC (.int 143)))) rfl rfl) (a_C)) ?_
  refine Eq.trans (Eq.trans (r_go (act := oS (fCm 112 137 cEq)) rfl rfl) (a_cm)) (bcg ?_ ?_)
  · refine Eq.trans (Eq.trans (r_go (act := oS (fIld 113 3)) rfl rfl) (a_ild rfl)) ?_
    refine Eq.trans (Eq.trans (r_go (act := oS (fIf 116 137 cGt0)) rfl rfl) (a_if)) (bcg ?_ ?_)
    · refine Eq.trans (Eq.trans (r_go (act := oS (fAld 117 0)) rfl rfl) (a_ald rfl)) ?_
      refine Eq.trans (Eq.trans (r_go (act := oS (fGr g 120 4 5)) rfl rfl) (a_gr (zO_9 g) (zR_9_5 g))) ?_
      refine Eq.trans (Eq.trans (r_go (act := oS (fIld 121 3)) rfl rfl) (a_ild rfl)) ?_
      refine Eq.trans (Eq.trans (r_go (act := oS (fSt 122 (gC (.int 1)))) rfl rfl) (a_C)) ?_
      refine Eq.trans (Eq.trans (r_go (act := oS (fSt 123 (g2 (fun x y => x - y)))) rfl rfl) (a_sub)) ?_
      refine Eq.trans (Eq.trans (r_go (act := oS (fSt 124 (gC (.int 1)))) rfl rfl) (a_C)) ?_
      refine Eq.trans (Eq.trans (r_go (act := oS (fAld 125 0)) rfl rfl) (a_ald rfl)) ?_
      refine Eq.trans (Eq.trans (r_go (act := oS (fGr g 128 4 5)) rfl rfl) (a_gr (zO_9 g) (zR_9_5 g))) ?_
      refine Eq.trans (Eq.trans (r_go (act := oS (fIld 129 3)) rfl rfl) (a_ild rfl)) ?_
      refine Eq.trans (Eq.trans (r_go (act := oS (fSt 130 (gC (.int 1)))) rfl rfl) (a_C)) ?_
      refine Eq.trans (Eq.trans (r_go (act := oS (fSt 131 (g2 (fun x y => x - y)))) rfl rfl) (a_sub)) ?_
      refine Eq.trans (Eq.trans (r_go (act := oS (fIa g 132)) rfl rfl) (a_ia (zA_15 g) zS_15)) (bcg ?_ rfl)
      refine Eq.trans (Eq.trans (r_go (act := oS (fSt 133 (g2 (fun x y => x - y)))) rfl rfl) (a_sub)) ?_
      refine Eq.trans (Eq.trans (r_go (act := oS (fIs g 134)) rfl rfl) (a_is (zA_15 g) zS_15)) (bcg ?_ rfl)
      refine Eq.trans (Eq.trans (r_go (act := oS (fGo 173)) rfl rfl) (a_goto)) ?_
      refine Eq.trans (Eq.trans (r_go (act := oS (fInc 176 4 1)) rfl rfl) (a_inc rfl rfl rfl)) ?_
      refine Eq.trans (Eq.trans (r_go (act := oS (fGo 5)) rfl rfl) (a_goto)) ?_
      exact r_cut rfl rfl
    · exact r_cut rfl rfl
  · exact r_cut rfl rfl
set_option maxRecDepth 20000 in
theorem e_X4_reckon_137 (g : zg) (a2 : Int32) (a3 : Int32) (a4 : Int32) (a5 : Int32) (M : zM) : zX (t_X4_reckon g) 137 [some (.ref 9), none, some (.int a2), some (.int a3), some (.int a4), some (.int a5), none] [] M = (bif cGt a3 1 then (bif zb ((a3 + (-1)) - 1) 32 then (bif zb (a3 + (-1)) 32 then (zbI (X_X4_join g [.int (-a5), .int (M.1 15 (zx ((a3 + (-1)) - 1))), .int (M.1 15 (zx (a3 + (-1))))] M) (fun x1 M1 => (bif zb ((a3 + (-1)) - 1) 32 then zX (t_X4_reckon g) 5 [some (.ref 9), none, some (.int a2), some (.int (a3 + (-1))), some (.int (a4 + 1)), none, none] [] ((zu M1.1 15 (zx ((a3 + (-1)) - 1)) x1), M1.2) else none))) else none) else none) else zX (t_X4_reckon g) 5 [some (.ref 9), none, some (.int a2), some (.int a3), some (.int (a4 + 1)), none, none] [] M) := by
  refine Eq.trans (zX_rgN (tl_X4_reckon g) (hc_X4_reckon g) 27 _ _ _ _) ?_
  refine Eq.trans (Eq.trans (Eq.trans (r_0 (act := oF [1, 6] (oS (fIld 138 3))) rfl) (a_F rfl)) (a_ild rfl)) ?_
  refine Eq.trans (Eq.trans (r_go (act := oS (fSt 139 (gC (.int 1)))) rfl rfl) (a_C)) ?_
  refine Eq.trans (Eq.trans (r_go (act := oS (fCm 142 173 cGt)) rfl rfl) (a_cm)) (bcg ?_ ?_)
  · refine Eq.trans (Eq.trans (r_go (act := oS (fInc 145 3 (-1))) rfl rfl) (a_inc rfl rfl rfl)) ?_
    refine Eq.trans (Eq.trans (r_go (act := oS (fAld 146 0)) rfl rfl) (a_ald rfl)) ?_
    refine Eq.trans (Eq.trans (r_go (act := oS (fGr g 149 4 5)) rfl rfl) (a_gr (zO_9 g) (zR_9_5 g))) ?_
    refine Eq.trans (Eq.trans (r_go (act := oS (fIld 150 3)) rfl rfl) (a_ild rfl)) ?_
    refine Eq.trans (Eq.trans (r_go (act := oS (fSt 151 (gC (.int 1)))) rfl rfl) (a_C)) ?_
    refine Eq.trans (Eq.trans (r_go (act := oS (fSt 152 (g2 (fun x y => x - y)))) rfl rfl) (a_sub)) ?_
    refine Eq.trans (Eq.trans (r_go (act := oS (fIld 154 5)) rfl rfl) (a_ild rfl)) ?_
    refine Eq.trans (Eq.trans (r_go (act := oS (fSt 155 (g1 (fun x => -x)))) rfl rfl) (a_neg)) ?_
    refine Eq.trans (Eq.trans (r_go (act := oS (fAld 156 0)) rfl rfl) (a_ald rfl)) ?_
    refine Eq.trans (Eq.trans (r_go (act := oS (fGr g 159 4 5)) rfl rfl) (a_gr (zO_9 g) (zR_9_5 g))) ?_
    refine Eq.trans (Eq.trans (r_go (act := oS (fIld 160 3)) rfl rfl) (a_ild rfl)) ?_
    refine Eq.trans (Eq.trans (r_go (act := oS (fSt 161 (gC (.int 1)))) rfl rfl) (a_C)) ?_
    refine Eq.trans (Eq.trans (r_go (act := oS (fSt 162 (g2 (fun x y => x - y)))) rfl rfl) (a_sub)) ?_
    refine Eq.trans (Eq.trans (r_go (act := oS (fIa g 163)) rfl rfl) (a_ia (zA_15 g) zS_15)) (bcg ?_ rfl)
    refine Eq.trans (Eq.trans (r_go (act := oS (fAld 164 0)) rfl rfl) (a_ald rfl)) ?_
    refine Eq.trans (Eq.trans (r_go (act := oS (fGr g 167 4 5)) rfl rfl) (a_gr (zO_9 g) (zR_9_5 g))) ?_
    refine Eq.trans (Eq.trans (r_go (act := oS (fIld 168 3)) rfl rfl) (a_ild rfl)) ?_
    refine Eq.trans (Eq.trans (r_go (act := oS (fIa g 169)) rfl rfl) (a_ia (zA_15 g) zS_15)) (bcg ?_ rfl)
    refine Eq.trans (Eq.trans (r_go (act := oCI 172 3 zcs (X_X4_join g)) rfl rfl) (a_cI rfl rfl)) (zbI_cg (fun x1 M1 => ?_))
    refine Eq.trans (Eq.trans (r_go (act := oS (fIs g 173)) rfl rfl) (a_is (zA_15 g) zS_15)) (bcg ?_ rfl)
    refine Eq.trans (Eq.trans (r_go (act := oS (fInc 176 4 1)) rfl rfl) (a_inc rfl rfl rfl)) ?_
    refine Eq.trans (Eq.trans (r_go (act := oS (fGo 5)) rfl rfl) (a_goto)) ?_
    exact r_cut rfl rfl
  · refine Eq.trans (Eq.trans (r_go (act := oS (fInc 176 4 1)) rfl rfl) (a_inc rfl rfl rfl)) ?_
    refine Eq.trans (Eq.trans (r_go (act := oS (fGo 5)) rfl rfl) (a_goto)) ?_
    exact r_cut rfl rfl
set_option maxRecDepth 20000 in
theorem e_X4_answer_0 (g : zg) (a1 : Int32) (a2 : Int32) (a3 : Int32) (M : zM) : zX (t_X4_answer g) 0 [some (.ref 9), some (.int a1), some (.int a2), some (.int a3), none] [] M = zX (t_X4_answer g) 11 [some (.ref 9), some (.int a1), none, some (.int a3), some (.int 0)] [] ((zu M.1 16 8 a2), M.2) := by
  refine Eq.trans (zX_rgN (tl_X4_answer g) (hc_X4_answer g) 9 _ _ _ _) ?_
  refine Eq.trans (Eq.trans (r_0 (act := oS (fAld 1 0)) rfl) (a_ald rfl)) ?_
  refine Eq.trans (Eq.trans (r_go (act := oS (fGr g 4 4 6)) rfl rfl) (a_gr (zO_9 g) (zR_9_6 g))) ?_
  refine Eq.trans (Eq.trans (r_go (act := oS (fSt 6 (gC (.int 8)))) rfl rfl) (a_C)) ?_
  refine Eq.trans (Eq.trans (r_go (act := oS (fIld 7 2)) rfl rfl) (a_ild rfl)) ?_
  refine Eq.trans (Eq.trans (r_go (act := oS (fIs g 8)) rfl rfl) (a_isK (j := 8) (zA_16 g) zS_16 (by decide +kernel) (by decide +kernel))) ?_
  refine Eq.trans (Eq.trans (r_go (act := oS (fSt 9 (gC (.int 0)))) rfl rfl) (a_C)) ?_
  refine Eq.trans (Eq.trans (r_go (act := oS (fIst 11 4)) rfl rfl) (a_ist rfl rfl)) ?_
  exact r_cut rfl rfl
theorem x_X4_answer_0 (g : zg) (a1 : Int32) (a2 : Int32) (a3 : Int32) (M : zM) : X_X4_answer g [.ref 9, .int a1, .int a2, .int a3] M = zX (t_X4_answer g) 11 [some (.ref 9), some (.int a1), none, some (.int a3), some (.int 0)] [] ((zu M.1 16 8 a2), M.2) := e_X4_answer_0 g a1 a2 a3 M
set_option maxRecDepth 20000 in
theorem e_X4_answer_11 (g : zg) (a1 : Int32) (a3 : Int32) (a4 : Int32) (M : zM) : zX (t_X4_answer g) 11 [some (.ref 9), some (.int a1), none, some (.int a3), some (.int a4)] [] M = (bif cLt a4 (M.1 9 8) then (bif cLt a4 16 then (bif zb a4 16 then (bif cEq (M.1 10 (zx a4)) a1 then (bif zb a4 16 then (bif zb a4 16 then (bif cEq (M.1 12 (zx a4)) (M.1 13 (zx a4)) then (bif zb a4 16 then (bif zb a4 16 then (zbI (X_X4_reckon g [.ref 9, .int (M.1 11 (zx a4)), .int (M.1 12 (zx a4))] M) (fun x1 M1 => some (some (.int x1), M1))) else none) else none) else (bif zb a4 16 then (bif zb a4 16 then (zbI (X_X4_reckon g [.ref 9, .int (M.1 12 (zx a4)), .int (M.1 13 (zx a4))] M) (fun x2 M2 => (bif cEq0 x2 then zX (t_X4_answer g) 11 [some (.ref 9), some (.int a1), none, some (.int a3), some (.int (a4 + 1))] [] M2 else (bif zb a4 16 then (bif zb a4 16 then (zbI (X_X4_reckon g [.ref 9, .int (M2.1 11 (zx a4)), .int (M2.1 12 (zx a4))] M2) (fun x3 M3 => some (some (.int x3), M3))) else none) else none)))) else none) else none)) else none) else none) else zX (t_X4_answer g) 11 [some (.ref 9), some (.int a1), none, some (.int a3), some (.int (a4 + 1))] [] M) else none) else some (some (.int a3), M)) else some (some (.int a3), M)) := by
  refine Eq.trans (zX_rgN (tl_X4_answer g) (hc_X4_answer g) 45 _ _ _ _) ?_
  refine Eq.trans (Eq.trans (Eq.trans (r_0 (act := oF [2] (oS (fIld 13 4))) rfl) (a_F rfl)) (a_ild rfl)) ?_
  refine Eq.trans (Eq.trans (r_go (act := oS (fAld 14 0)) rfl rfl) (a_ald rfl)) ?_
  refine Eq.trans (Eq.trans (r_go (act := oS (fGi g 17 4 8)) rfl rfl) (a_gi (zO_9 g))) ?_
  refine Eq.trans (Eq.trans (r_go (act := oS (fCm 20 101 cLt)) rfl rfl) (a_cm)) (bcg ?_ ?_)
  · refine Eq.trans (Eq.trans (r_go (act := oS (fIld 22 4)) rfl rfl) (a_ild rfl)) ?_
    refine Eq.trans (Eq.trans (r_go (act := oS (fSt 24 (gC (.int 16)))) rfl rfl) (a_C)) ?_
    refine Eq.trans (Eq.trans (r_go (act := oS (fCm 27 101 cLt)) rfl rfl) (a_cm)) (bcg ?_ ?_)
    · refine Eq.trans (Eq.trans (r_go (act := oS (fAld 28 0)) rfl rfl) (a_ald rfl)) ?_
      refine Eq.trans (Eq.trans (r_go (act := oS (fGr g 31 4 0)) rfl rfl) (a_gr (zO_9 g) (zR_9_0 g))) ?_
      refine Eq.trans (Eq.trans (r_go (act := oS (fIld 33 4)) rfl rfl) (a_ild rfl)) ?_
      refine Eq.trans (Eq.trans (r_go (act := oS (fIa g 34)) rfl rfl) (a_ia (zA_10 g) zS_10)) (bcg ?_ rfl)
      refine Eq.trans (Eq.trans (r_go (act := oS (fIld 35 1)) rfl rfl) (a_ild rfl)) ?_
      refine Eq.trans (Eq.trans (r_go (act := oS (fCm 38 95 cEq)) rfl rfl) (a_cm)) (bcg ?_ ?_)
      · refine Eq.trans (Eq.trans (r_go (act := oS (fAld 39 0)) rfl rfl) (a_ald rfl)) ?_
        refine Eq.trans (Eq.trans (r_go (act := oS (fGr g 42 4 2)) rfl rfl) (a_gr (zO_9 g) (zR_9_2 g))) ?_
        refine Eq.trans (Eq.trans (r_go (act := oS (fIld 44 4)) rfl rfl) (a_ild rfl)) ?_
        refine Eq.trans (Eq.trans (r_go (act := oS (fIa g 45)) rfl rfl) (a_ia (zA_12 g) zS_12)) (bcg ?_ rfl)
        refine Eq.trans (Eq.trans (r_go (act := oS (fAld 46 0)) rfl rfl) (a_ald rfl)) ?_
        refine Eq.trans (Eq.trans (r_go (act := oS (fGr g 49 4 3)) rfl rfl) (a_gr (zO_9 g) (zR_9_3 g))) ?_
        refine Eq.trans (Eq.trans (r_go (act := oS (fIld 51 4)) rfl rfl) (a_ild rfl)) ?_
        refine Eq.trans (Eq.trans (r_go (act := oS (fIa g 52)) rfl rfl) (a_ia (zA_13 g) zS_13)) (bcg ?_ rfl)
        refine Eq.trans (Eq.trans (r_go (act := oS (fCm 76 55 cEq)) rfl rfl) (a_cm)) (bcg ?_ ?_)
        · refine Eq.trans (Eq.trans (r_go (act := oS (fAld 77 0)) rfl rfl) (a_ald rfl)) ?_
          refine Eq.trans (Eq.trans (r_go (act := oS (fAld 78 0)) rfl rfl) (a_ald rfl)) ?_
          refine Eq.trans (Eq.trans (r_go (act := oS (fGr g 81 4 1)) rfl rfl) (a_gr (zO_9 g) (zR_9_1 g))) ?_
          refine Eq.trans (Eq.trans (r_go (act := oS (fIld 83 4)) rfl rfl) (a_ild rfl)) ?_
          refine Eq.trans (Eq.trans (r_go (act := oS (fIa g 84)) rfl rfl) (a_ia (zA_11 g) zS_11)) (bcg ?_ rfl)
          refine Eq.trans (Eq.trans (r_go (act := oS (fAld 85 0)) rfl rfl) (a_ald rfl)) ?_
          refine Eq.trans (Eq.trans (r_go (act := oS (fGr g 88 4 2)) rfl rfl) (a_gr (zO_9 g) (zR_9_2 g))) ?_
          refine Eq.trans (Eq.trans (r_go (act := oS (fIld 90 4)) rfl rfl) (a_ild rfl)) ?_
          refine Eq.trans (Eq.trans (r_go (act := oS (fIa g 91)) rfl rfl) (a_ia (zA_12 g) zS_12)) (bcg ?_ rfl)
          refine Eq.trans (Eq.trans (r_go (act := oCI 94 3 (zcv g 4) (X_X4_reckon g)) rfl rfl) (a_cI rfl (zck (zO_9 g) rfl))) (zbI_cg (fun x1 M1 => ?_))
          exact Eq.trans (r_go (act := oIret) rfl rfl) (a_iret)
        · refine Eq.trans (Eq.trans (r_go (act := oS (fAld 56 0)) rfl rfl) (a_ald rfl)) ?_
          refine Eq.trans (Eq.trans (r_go (act := oS (fAld 57 0)) rfl rfl) (a_ald rfl)) ?_
          refine Eq.trans (Eq.trans (r_go (act := oS (fGr g 60 4 2)) rfl rfl) (a_gr (zO_9 g) (zR_9_2 g))) ?_
          refine Eq.trans (Eq.trans (r_go (act := oS (fIld 62 4)) rfl rfl) (a_ild rfl)) ?_
          refine Eq.trans (Eq.trans (r_go (act := oS (fIa g 63)) rfl rfl) (a_ia (zA_12 g) zS_12)) (bcg ?_ rfl)
          refine Eq.trans (Eq.trans (r_go (act := oS (fAld 64 0)) rfl rfl) (a_ald rfl)) ?_
          refine Eq.trans (Eq.trans (r_go (act := oS (fGr g 67 4 3)) rfl rfl) (a_gr (zO_9 g) (zR_9_3 g))) ?_
          refine Eq.trans (Eq.trans (r_go (act := oS (fIld 69 4)) rfl rfl) (a_ild rfl)) ?_
          refine Eq.trans (Eq.trans (r_go (act := oS (fIa g 70)) rfl rfl) (a_ia (zA_13 g) zS_13)) (bcg ?_ rfl)
          refine Eq.trans (Eq.trans (r_go (act := oCI 73 3 (zcv g 4) (X_X4_reckon g)) rfl rfl) (a_cI rfl (zck (zO_9 g) rfl))) (zbI_cg (fun x2 M2 => ?_))
          refine Eq.trans (Eq.trans (r_go (act := oS (fIf 95 76 cEq0)) rfl rfl) (a_if)) (bcg ?_ ?_)
          · refine Eq.trans (Eq.trans (r_go (act := oS (fInc 98 4 1)) rfl rfl) (a_inc rfl rfl rfl)) ?_
            refine Eq.trans (Eq.trans (r_go (act := oS (fGo 11)) rfl rfl) (a_goto)) ?_
            exact r_cut rfl rfl
          · refine Eq.trans (Eq.trans (r_go (act := oS (fAld 77 0)) rfl rfl) (a_ald rfl)) ?_
            refine Eq.trans (Eq.trans (r_go (act := oS (fAld 78 0)) rfl rfl) (a_ald rfl)) ?_
            refine Eq.trans (Eq.trans (r_go (act := oS (fGr g 81 4 1)) rfl rfl) (a_gr (zO_9 g) (zR_9_1 g))) ?_
            refine Eq.trans (Eq.trans (r_go (act := oS (fIld 83 4)) rfl rfl) (a_ild rfl)) ?_
            refine Eq.trans (Eq.trans (r_go (act := oS (fIa g 84)) rfl rfl) (a_ia (zA_11 g) zS_11)) (bcg ?_ rfl)
            refine Eq.trans (Eq.trans (r_go (act := oS (fAld 85 0)) rfl rfl) (a_ald rfl)) ?_
            refine Eq.trans (Eq.trans (r_go (act := oS (fGr g 88 4 2)) rfl rfl) (a_gr (zO_9 g) (zR_9_2 g))) ?_
            refine Eq.trans (Eq.trans (r_go (act := oS (fIld 90 4)) rfl rfl) (a_ild rfl)) ?_
            refine Eq.trans (Eq.trans (r_go (act := oS (fIa g 91)) rfl rfl) (a_ia (zA_12 g) zS_12)) (bcg ?_ rfl)
            refine Eq.trans (Eq.trans (r_go (act := oCI 94 3 (zcv g 4) (X_X4_reckon g)) rfl rfl) (a_cI rfl (zck (zO_9 g) rfl))) (zbI_cg (fun x3 M3 => ?_))
            exact Eq.trans (r_go (act := oIret) rfl rfl) (a_iret)
      · refine Eq.trans (Eq.trans (r_go (act := oS (fInc 98 4 1)) rfl rfl) (a_inc rfl rfl rfl)) ?_
        refine Eq.trans (Eq.trans (r_go (act := oS (fGo 11)) rfl rfl) (a_goto)) ?_
        exact r_cut rfl rfl
    · refine Eq.trans (Eq.trans (r_go (act := oS (fIld 102 3)) rfl rfl) (a_ild rfl)) ?_
      exact Eq.trans (r_go (act := oIret) rfl rfl) (a_iret)
  · refine Eq.trans (Eq.trans (r_go (act := oS (fIld 102 3)) rfl rfl) (a_ild rfl)) ?_
    exact Eq.trans (r_go (act := oIret) rfl rfl) (a_iret)
set_option maxRecDepth 20000 in
theorem e_J9_max_7cf53_0 (g : zg) (a0 : Int32) (a1 : Int32) (M : zM) : zX (t_J9_max_7cf53 g) 0 [some (.int a0), some (.int a1)] [] M = (bif cLt a0 a1 then some (some (.int a1), M) else some (some (.int a0), M)) := by
  refine Eq.trans (zX_rgN (tl_J9_max_7cf53 g) (hc_J9_max_7cf53 g) 7 _ _ _ _) ?_
  refine Eq.trans (Eq.trans (r_0 (act := oS (fIld 1 0)) rfl) (a_ild rfl)) ?_
  refine Eq.trans (Eq.trans (r_go (act := oS (fIld 2 1)) rfl rfl) (a_ild rfl)) ?_
  refine Eq.trans (Eq.trans (r_go (act := oS (fCm 9 5 cLt)) rfl rfl) (a_cm)) (bcg ?_ ?_)
  · refine Eq.trans (Eq.trans (r_go (act := oS (fIld 10 1)) rfl rfl) (a_ild rfl)) ?_
    exact Eq.trans (r_go (act := oIret) rfl rfl) (a_iret)
  · refine Eq.trans (Eq.trans (r_go (act := oS (fIld 6 0)) rfl rfl) (a_ild rfl)) ?_
    refine Eq.trans (Eq.trans (r_go (act := oS (fGo 10)) rfl rfl) (a_goto)) ?_
    exact Eq.trans (r_go (act := oIret) rfl rfl) (a_iret)
theorem x_J9_max_7cf53_0 (g : zg) (a0 : Int32) (a1 : Int32) (M : zM) : X_J9_max_7cf53 g [.int a0, .int a1] M = (bif cLt a0 a1 then some (some (.int a1), M) else some (some (.int a0), M)) := e_J9_max_7cf53_0 g a0 a1 M
set_option maxRecDepth 20000 in
theorem e_X11_hold_0 (g : zg) (a0 : Int32) (a1 : Int32) (a2 : Int32) (M : zM) : zX (t_X11_hold g) 0 [some (.int a0), some (.int a1), some (.int a2)] [] M = (zbI (X_J9_min_7cf53 g [.int a2, .int a0] M) (fun x1 M1 => (zbI (X_J9_max_7cf53 g [.int a1, .int x1] M1) (fun x2 M2 => some (some (.int x2), M2))))) := by
  refine Eq.trans (zX_rgN (tl_X11_hold g) (hc_X11_hold g) 7 _ _ _ _) ?_
  refine Eq.trans (Eq.trans (r_0 (act := oS (fIld 1 1)) rfl) (a_ild rfl)) ?_
  refine Eq.trans (Eq.trans (r_go (act := oS (fIld 2 2)) rfl rfl) (a_ild rfl)) ?_
  refine Eq.trans (Eq.trans (r_go (act := oS (fIld 3 0)) rfl rfl) (a_ild rfl)) ?_
  refine Eq.trans (Eq.trans (r_go (act := oCI 6 2 zcs (X_J9_min_7cf53 g)) rfl rfl) (a_cI rfl rfl)) (zbI_cg (fun x1 M1 => ?_))
  refine Eq.trans (Eq.trans (r_go (act := oCI 9 2 zcs (X_J9_max_7cf53 g)) rfl rfl) (a_cI rfl rfl)) (zbI_cg (fun x2 M2 => ?_))
  exact Eq.trans (r_go (act := oIret) rfl rfl) (a_iret)
theorem x_X11_hold_0 (g : zg) (a0 : Int32) (a1 : Int32) (a2 : Int32) (M : zM) : X_X11_hold g [.int a0, .int a1, .int a2] M = (zbI (X_J9_min_7cf53 g [.int a2, .int a0] M) (fun x1 M1 => (zbI (X_J9_max_7cf53 g [.int a1, .int x1] M1) (fun x2 M2 => some (some (.int x2), M2))))) := e_X11_hold_0 g a0 a1 a2 M
set_option maxRecDepth 20000 in
theorem e_X10_tellBy_0 (g : zg) (a2 : Int32) (M : zM) : zX (t_X10_tellBy g) 0 [some (.ref 6), some (.ref 7), some (.int a2)] [] M = (zbV (X_X4_learn g [.ref 9, .ref 7, .int a2] M) (fun M1 => (zbI (X_X3_kind g [.ref 7] M1) (fun x2 M2 => (zbI (X_X4_answer g [.ref 9, .int 137, .int 0, .int x2] M2) (fun x3 M3 => (zbI (X_X11_hold g [.int x3, .int 0, .int 4] M3) (fun x4 M4 => some (some (.int x4), M4))))))))) := by
  refine Eq.trans (zX_rgN (tl_X10_tellBy g) (hc_X10_tellBy g) 17 _ _ _ _) ?_
  refine Eq.trans (Eq.trans (r_0 (act := oS (fAld 1 0)) rfl) (a_ald rfl)) ?_
  refine Eq.trans (Eq.trans (r_go (act := oS (fGr g 4 10 1)) rfl rfl) (a_gr (zO_6 g) (zR_6_1 g))) ?_
  refine Eq.trans (Eq.trans (r_go (act := oS (fAld 5 1)) rfl rfl) (a_ald rfl)) ?_
  refine Eq.trans (Eq.trans (r_go (act := oS (fIld 6 2)) rfl rfl) (a_ild rfl)) ?_
  refine Eq.trans (Eq.trans (r_go (act := oCV 9 3 (zcv g 4) (X_X4_learn g)) rfl rfl) (a_cV rfl (zck (zO_9 g) rfl))) (zbV_cg (fun M1 => ?_))
  refine Eq.trans (Eq.trans (r_go (act := oS (fAld 10 0)) rfl rfl) (a_ald rfl)) ?_
  refine Eq.trans (Eq.trans (r_go (act := oS (fGr g 13 10 1)) rfl rfl) (a_gr (zO_6 g) (zR_6_1 g))) ?_
  refine Eq.trans (Eq.trans (r_go (act := oS (fSt 16 (gC (.int 137)))) rfl rfl) (a_C)) ?_
  refine Eq.trans (Eq.trans (r_go (act := oS (fSt 17 (gC (.int 0)))) rfl rfl) (a_C)) ?_
  refine Eq.trans (Eq.trans (r_go (act := oS (fAld 18 1)) rfl rfl) (a_ald rfl)) ?_
  refine Eq.trans (Eq.trans (r_go (act := oCI 21 1 (zcv g 3) (X_X3_kind g)) rfl rfl) (a_cI rfl (zck (zO_7 g) rfl))) (zbI_cg (fun x2 M2 => ?_))
  refine Eq.trans (Eq.trans (r_go (act := oCI 24 4 (zcv g 4) (X_X4_answer g)) rfl rfl) (a_cI rfl (zck (zO_9 g) rfl))) (zbI_cg (fun x3 M3 => ?_))
  refine Eq.trans (Eq.trans (r_go (act := oS (fSt 25 (gC (.int 0)))) rfl rfl) (a_C)) ?_
  refine Eq.trans (Eq.trans (r_go (act := oS (fSt 26 (gC (.int 4)))) rfl rfl) (a_C)) ?_
  refine Eq.trans (Eq.trans (r_go (act := oCI 29 3 zcs (X_X11_hold g)) rfl rfl) (a_cI rfl rfl)) (zbI_cg (fun x4 M4 => ?_))
  exact Eq.trans (r_go (act := oIret) rfl rfl) (a_iret)
theorem x_X10_tellBy_0 (g : zg) (a2 : Int32) (M : zM) : X_X10_tellBy g [.ref 6, .ref 7, .int a2] M = (zbV (X_X4_learn g [.ref 9, .ref 7, .int a2] M) (fun M1 => (zbI (X_X3_kind g [.ref 7] M1) (fun x2 M2 => (zbI (X_X4_answer g [.ref 9, .int 137, .int 0, .int x2] M2) (fun x3 M3 => (zbI (X_X11_hold g [.int x3, .int 0, .int 4] M3) (fun x4 M4 => some (some (.int x4), M4))))))))) := e_X10_tellBy_0 g a2 M
set_option maxRecDepth 20000 in
theorem e_X10_tellBy_0_1 (g : zg) (a2 : Int32) (M : zM) : zX (t_X10_tellBy g) 0 [some (.ref 6), some (.ref 40), some (.int a2)] [] M = (zbV (X_X4_learn g [.ref 9, .ref 40, .int a2] M) (fun M1 => (zbI (X_X3_kind g [.ref 40] M1) (fun x2 M2 => (zbI (X_X4_answer g [.ref 9, .int 137, .int 0, .int x2] M2) (fun x3 M3 => (zbI (X_X11_hold g [.int x3, .int 0, .int 4] M3) (fun x4 M4 => some (some (.int x4), M4))))))))) := by
  refine Eq.trans (zX_rgN (tl_X10_tellBy g) (hc_X10_tellBy g) 17 _ _ _ _) ?_
  refine Eq.trans (Eq.trans (r_0 (act := oS (fAld 1 0)) rfl) (a_ald rfl)) ?_
  refine Eq.trans (Eq.trans (r_go (act := oS (fGr g 4 10 1)) rfl rfl) (a_gr (zO_6 g) (zR_6_1 g))) ?_
  refine Eq.trans (Eq.trans (r_go (act := oS (fAld 5 1)) rfl rfl) (a_ald rfl)) ?_
  refine Eq.trans (Eq.trans (r_go (act := oS (fIld 6 2)) rfl rfl) (a_ild rfl)) ?_
  refine Eq.trans (Eq.trans (r_go (act := oCV 9 3 (zcv g 4) (X_X4_learn g)) rfl rfl) (a_cV rfl (zck (zO_9 g) rfl))) (zbV_cg (fun M1 => ?_))
  refine Eq.trans (Eq.trans (r_go (act := oS (fAld 10 0)) rfl rfl) (a_ald rfl)) ?_
  refine Eq.trans (Eq.trans (r_go (act := oS (fGr g 13 10 1)) rfl rfl) (a_gr (zO_6 g) (zR_6_1 g))) ?_
  refine Eq.trans (Eq.trans (r_go (act := oS (fSt 16 (gC (.int 137)))) rfl rfl) (a_C)) ?_
  refine Eq.trans (Eq.trans (r_go (act := oS (fSt 17 (gC (.int 0)))) rfl rfl) (a_C)) ?_
  refine Eq.trans (Eq.trans (r_go (act := oS (fAld 18 1)) rfl rfl) (a_ald rfl)) ?_
  refine Eq.trans (Eq.trans (r_go (act := oCI 21 1 (zcv g 3) (X_X3_kind g)) rfl rfl) (a_cI rfl (zck (zO_40 g) rfl))) (zbI_cg (fun x2 M2 => ?_))
  refine Eq.trans (Eq.trans (r_go (act := oCI 24 4 (zcv g 4) (X_X4_answer g)) rfl rfl) (a_cI rfl (zck (zO_9 g) rfl))) (zbI_cg (fun x3 M3 => ?_))
  refine Eq.trans (Eq.trans (r_go (act := oS (fSt 25 (gC (.int 0)))) rfl rfl) (a_C)) ?_
  refine Eq.trans (Eq.trans (r_go (act := oS (fSt 26 (gC (.int 4)))) rfl rfl) (a_C)) ?_
  refine Eq.trans (Eq.trans (r_go (act := oCI 29 3 zcs (X_X11_hold g)) rfl rfl) (a_cI rfl rfl)) (zbI_cg (fun x4 M4 => ?_))
  exact Eq.trans (r_go (act := oIret) rfl rfl) (a_iret)
theorem x_X10_tellBy_0_1 (g : zg) (a2 : Int32) (M : zM) : X_X10_tellBy g [.ref 6, .ref 40, .int a2] M = (zbV (X_X4_learn g [.ref 9, .ref 40, .int a2] M) (fun M1 => (zbI (X_X3_kind g [.ref 40] M1) (fun x2 M2 => (zbI (X_X4_answer g [.ref 9, .int 137, .int 0, .int x2] M2) (fun x3 M3 => (zbI (X_X11_hold g [.int x3, .int 0, .int 4] M3) (fun x4 M4 => some (some (.int x4), M4))))))))) := e_X10_tellBy_0_1 g a2 M
set_option maxRecDepth 20000 in
theorem e_X10_errBy_0 (g : zg) (a2 : Int32) (M : zM) : zX (t_X10_errBy g) 0 [some (.ref 6), some (.ref 7), some (.int a2)] [] M = (zbV (X_X4_learn g [.ref 9, .ref 7, .int a2] M) (fun M1 => (zbI (X_X3_get g [.ref 7, .int a2, .int 1] M1) (fun x2 M2 => (zbI (X_X4_answer g [.ref 9, .int 138, .int 0, .int (100 * x2)] M2) (fun x3 M3 => (zbI (X_X11_hold g [.int x3, .int 0, .int 1000] M3) (fun x4 M4 => some (some (.int x4), M4))))))))) := by
  refine Eq.trans (zX_rgN (tl_X10_errBy g) (hc_X10_errBy g) 21 _ _ _ _) ?_
  refine Eq.trans (Eq.trans (r_0 (act := oS (fAld 1 0)) rfl) (a_ald rfl)) ?_
  refine Eq.trans (Eq.trans (r_go (act := oS (fGr g 4 10 1)) rfl rfl) (a_gr (zO_6 g) (zR_6_1 g))) ?_
  refine Eq.trans (Eq.trans (r_go (act := oS (fAld 5 1)) rfl rfl) (a_ald rfl)) ?_
  refine Eq.trans (Eq.trans (r_go (act := oS (fIld 6 2)) rfl rfl) (a_ild rfl)) ?_
  refine Eq.trans (Eq.trans (r_go (act := oCV 9 3 (zcv g 4) (X_X4_learn g)) rfl rfl) (a_cV rfl (zck (zO_9 g) rfl))) (zbV_cg (fun M1 => ?_))
  refine Eq.trans (Eq.trans (r_go (act := oS (fAld 10 0)) rfl rfl) (a_ald rfl)) ?_
  refine Eq.trans (Eq.trans (r_go (act := oS (fGr g 13 10 1)) rfl rfl) (a_gr (zO_6 g) (zR_6_1 g))) ?_
  refine Eq.trans (Eq.trans (r_go (act := oS (fSt 16 (gC (.int 138)))) rfl rfl) (a_C)) ?_
  refine Eq.trans (Eq.trans (r_go (act := oS (fSt 17 (gC (.int 0)))) rfl rfl) (a_C)) ?_
  refine Eq.trans (Eq.trans (r_go (act := oS (fSt 19 (gC (.int 100)))) rfl rfl) (a_C)) ?_
  refine Eq.trans (Eq.trans (r_go (act := oS (fAld 20 1)) rfl rfl) (a_ald rfl)) ?_
  refine Eq.trans (Eq.trans (r_go (act := oS (fIld 21 2)) rfl rfl) (a_ild rfl)) ?_
  refine Eq.trans (Eq.trans (r_go (act := oS (fSt 22 (gC (.int 1)))) rfl rfl) (a_C)) ?_
  refine Eq.trans (Eq.trans (r_go (act := oCI 25 3 (zcv g 3) (X_X3_get g)) rfl rfl) (a_cI rfl (zck (zO_7 g) rfl))) (zbI_cg (fun x2 M2 => ?_))
  refine Eq.trans (Eq.trans (r_go (act := oS (fSt 26 (g2 (fun x y => x * y)))) rfl rfl) (a_mul)) ?_
  refine Eq.trans (Eq.trans (r_go (act := oCI 29 4 (zcv g 4) (X_X4_answer g)) rfl rfl) (a_cI rfl (zck (zO_9 g) rfl))) (zbI_cg (fun x3 M3 => ?_))
  refine Eq.trans (Eq.trans (r_go (act := oS (fSt 30 (gC (.int 0)))) rfl rfl) (a_C)) ?_
  refine Eq.trans (Eq.trans (r_go (act := oS (fSt 33 (gC (.int 1000)))) rfl rfl) (a_C)) ?_
  refine Eq.trans (Eq.trans (r_go (act := oCI 36 3 zcs (X_X11_hold g)) rfl rfl) (a_cI rfl rfl)) (zbI_cg (fun x4 M4 => ?_))
  exact Eq.trans (r_go (act := oIret) rfl rfl) (a_iret)
theorem x_X10_errBy_0 (g : zg) (a2 : Int32) (M : zM) : X_X10_errBy g [.ref 6, .ref 7, .int a2] M = (zbV (X_X4_learn g [.ref 9, .ref 7, .int a2] M) (fun M1 => (zbI (X_X3_get g [.ref 7, .int a2, .int 1] M1) (fun x2 M2 => (zbI (X_X4_answer g [.ref 9, .int 138, .int 0, .int (100 * x2)] M2) (fun x3 M3 => (zbI (X_X11_hold g [.int x3, .int 0, .int 1000] M3) (fun x4 M4 => some (some (.int x4), M4))))))))) := e_X10_errBy_0 g a2 M
set_option maxRecDepth 20000 in
theorem e_X10_errBy_0_1 (g : zg) (a2 : Int32) (M : zM) : zX (t_X10_errBy g) 0 [some (.ref 6), some (.ref 40), some (.int a2)] [] M = (zbV (X_X4_learn g [.ref 9, .ref 40, .int a2] M) (fun M1 => (zbI (X_X3_get g [.ref 40, .int a2, .int 1] M1) (fun x2 M2 => (zbI (X_X4_answer g [.ref 9, .int 138, .int 0, .int (100 * x2)] M2) (fun x3 M3 => (zbI (X_X11_hold g [.int x3, .int 0, .int 1000] M3) (fun x4 M4 => some (some (.int x4), M4))))))))) := by
  refine Eq.trans (zX_rgN (tl_X10_errBy g) (hc_X10_errBy g) 21 _ _ _ _) ?_
  refine Eq.trans (Eq.trans (r_0 (act := oS (fAld 1 0)) rfl) (a_ald rfl)) ?_
  refine Eq.trans (Eq.trans (r_go (act := oS (fGr g 4 10 1)) rfl rfl) (a_gr (zO_6 g) (zR_6_1 g))) ?_
  refine Eq.trans (Eq.trans (r_go (act := oS (fAld 5 1)) rfl rfl) (a_ald rfl)) ?_
  refine Eq.trans (Eq.trans (r_go (act := oS (fIld 6 2)) rfl rfl) (a_ild rfl)) ?_
  refine Eq.trans (Eq.trans (r_go (act := oCV 9 3 (zcv g 4) (X_X4_learn g)) rfl rfl) (a_cV rfl (zck (zO_9 g) rfl))) (zbV_cg (fun M1 => ?_))
  refine Eq.trans (Eq.trans (r_go (act := oS (fAld 10 0)) rfl rfl) (a_ald rfl)) ?_
  refine Eq.trans (Eq.trans (r_go (act := oS (fGr g 13 10 1)) rfl rfl) (a_gr (zO_6 g) (zR_6_1 g))) ?_
  refine Eq.trans (Eq.trans (r_go (act := oS (fSt 16 (gC (.int 138)))) rfl rfl) (a_C)) ?_
  refine Eq.trans (Eq.trans (r_go (act := oS (fSt 17 (gC (.int 0)))) rfl rfl) (a_C)) ?_
  refine Eq.trans (Eq.trans (r_go (act := oS (fSt 19 (gC (.int 100)))) rfl rfl) (a_C)) ?_
  refine Eq.trans (Eq.trans (r_go (act := oS (fAld 20 1)) rfl rfl) (a_ald rfl)) ?_
  refine Eq.trans (Eq.trans (r_go (act := oS (fIld 21 2)) rfl rfl) (a_ild rfl)) ?_
  refine Eq.trans (Eq.trans (r_go (act := oS (fSt 22 (gC (.int 1)))) rfl rfl) (a_C)) ?_
  refine Eq.trans (Eq.trans (r_go (act := oCI 25 3 (zcv g 3) (X_X3_get g)) rfl rfl) (a_cI rfl (zck (zO_40 g) rfl))) (zbI_cg (fun x2 M2 => ?_))
  refine Eq.trans (Eq.trans (r_go (act := oS (fSt 26 (g2 (fun x y => x * y)))) rfl rfl) (a_mul)) ?_
  refine Eq.trans (Eq.trans (r_go (act := oCI 29 4 (zcv g 4) (X_X4_answer g)) rfl rfl) (a_cI rfl (zck (zO_9 g) rfl))) (zbI_cg (fun x3 M3 => ?_))
  refine Eq.trans (Eq.trans (r_go (act := oS (fSt 30 (gC (.int 0)))) rfl rfl) (a_C)) ?_
  refine Eq.trans (Eq.trans (r_go (act := oS (fSt 33 (gC (.int 1000)))) rfl rfl) (a_C)) ?_
  refine Eq.trans (Eq.trans (r_go (act := oCI 36 3 zcs (X_X11_hold g)) rfl rfl) (a_cI rfl rfl)) (zbI_cg (fun x4 M4 => ?_))
  exact Eq.trans (r_go (act := oIret) rfl rfl) (a_iret)
theorem x_X10_errBy_0_1 (g : zg) (a2 : Int32) (M : zM) : X_X10_errBy g [.ref 6, .ref 40, .int a2] M = (zbV (X_X4_learn g [.ref 9, .ref 40, .int a2] M) (fun M1 => (zbI (X_X3_get g [.ref 40, .int a2, .int 1] M1) (fun x2 M2 => (zbI (X_X4_answer g [.ref 9, .int 138, .int 0, .int (100 * x2)] M2) (fun x3 M3 => (zbI (X_X11_hold g [.int x3, .int 0, .int 1000] M3) (fun x4 M4 => some (some (.int x4), M4))))))))) := e_X10_errBy_0_1 g a2 M
set_option maxRecDepth 20000 in
theorem e_X3_draw_0 (g : zg) (a1 : Int32) (M : zM) : zX (t_X3_draw g) 0 [some (.ref 7), some (.int a1)] [] M = (bif cGt0 a1 then (bif !decide (a1 = 0) then some (some (.int ((zushr ((1664525 * (M.1 7 3)) + 1013904223) 8) - (zushr ((1664525 * (M.1 7 3)) + 1013904223) 8) / a1 * a1)), ((zu M.1 7 3 ((1664525 * (M.1 7 3)) + 1013904223)), M.2)) else none) else some (some (.int 0), ((zu M.1 7 3 ((1664525 * (M.1 7 3)) + 1013904223)), M.2))) := by
  refine Eq.trans (zX_rgN (tl_X3_draw g) (hc_X3_draw g) 19 _ _ _ _) ?_
  refine Eq.trans (Eq.trans (r_0 (act := oS (fAld 1 0)) rfl) (a_ald rfl)) ?_
  refine Eq.trans (Eq.trans (r_go (act := oS (fSt 3 (gC (.int 1664525)))) rfl rfl) (a_C)) ?_
  refine Eq.trans (Eq.trans (r_go (act := oS (fAld 4 0)) rfl rfl) (a_ald rfl)) ?_
  refine Eq.trans (Eq.trans (r_go (act := oS (fGi g 7 3 3)) rfl rfl) (a_gi (zO_7 g))) ?_
  refine Eq.trans (Eq.trans (r_go (act := oS (fSt 8 (g2 (fun x y => x * y)))) rfl rfl) (a_mul)) ?_
  refine Eq.trans (Eq.trans (r_go (act := oS (fSt 10 (gC (.int 1013904223)))) rfl rfl) (a_C)) ?_
  refine Eq.trans (Eq.trans (r_go (act := oS (fSt 11 (g2 (fun x y => x + y)))) rfl rfl) (a_add)) ?_
  refine Eq.trans (Eq.trans (r_go (act := oS (fPi g 14 3 3)) rfl rfl) (a_pi (zO_7 g))) ?_
  refine Eq.trans (Eq.trans (r_go (act := oS (fIld 15 1)) rfl rfl) (a_ild rfl)) ?_
  refine Eq.trans (Eq.trans (r_go (act := oS (fIf 18 30 cGt0)) rfl rfl) (a_if)) (bcg ?_ ?_)
  · refine Eq.trans (Eq.trans (r_go (act := oS (fAld 19 0)) rfl rfl) (a_ald rfl)) ?_
    refine Eq.trans (Eq.trans (r_go (act := oS (fGi g 22 3 3)) rfl rfl) (a_giV (zO_7 g) rfl)) ?_
    refine Eq.trans (Eq.trans (r_go (act := oS (fSt 24 (gC (.int 8)))) rfl rfl) (a_C)) ?_
    refine Eq.trans (Eq.trans (r_go (act := oS (fSt 25 (g2 zushr))) rfl rfl) (a_ush)) ?_
    refine Eq.trans (Eq.trans (r_go (act := oS (fIld 26 1)) rfl rfl) (a_ild rfl)) ?_
    refine Eq.trans (Eq.trans (r_go (act := oS (fRem 27)) rfl rfl) (a_rem)) (bcg ?_ rfl)
    refine Eq.trans (Eq.trans (r_go (act := oS (fGo 31)) rfl rfl) (a_goto)) ?_
    exact Eq.trans (r_go (act := oIret) rfl rfl) (a_iret)
  · refine Eq.trans (Eq.trans (r_go (act := oS (fSt 31 (gC (.int 0)))) rfl rfl) (a_C)) ?_
    exact Eq.trans (r_go (act := oIret) rfl rfl) (a_iret)
theorem x_X3_draw_0 (g : zg) (a1 : Int32) (M : zM) : X_X3_draw g [.ref 7, .int a1] M = (bif cGt0 a1 then (bif !decide (a1 = 0) then some (some (.int ((zushr ((1664525 * (M.1 7 3)) + 1013904223) 8) - (zushr ((1664525 * (M.1 7 3)) + 1013904223) 8) / a1 * a1)), ((zu M.1 7 3 ((1664525 * (M.1 7 3)) + 1013904223)), M.2)) else none) else some (some (.int 0), ((zu M.1 7 3 ((1664525 * (M.1 7 3)) + 1013904223)), M.2))) := e_X3_draw_0 g a1 M
set_option maxRecDepth 20000 in
theorem e_X3_draw_0_1 (g : zg) (a1 : Int32) (M : zM) : zX (t_X3_draw g) 0 [some (.ref 40), some (.int a1)] [] M = (bif cGt0 a1 then (bif !decide (a1 = 0) then some (some (.int ((zushr ((1664525 * (M.1 40 3)) + 1013904223) 8) - (zushr ((1664525 * (M.1 40 3)) + 1013904223) 8) / a1 * a1)), ((zu M.1 40 3 ((1664525 * (M.1 40 3)) + 1013904223)), M.2)) else none) else some (some (.int 0), ((zu M.1 40 3 ((1664525 * (M.1 40 3)) + 1013904223)), M.2))) := by
  refine Eq.trans (zX_rgN (tl_X3_draw g) (hc_X3_draw g) 19 _ _ _ _) ?_
  refine Eq.trans (Eq.trans (r_0 (act := oS (fAld 1 0)) rfl) (a_ald rfl)) ?_
  refine Eq.trans (Eq.trans (r_go (act := oS (fSt 3 (gC (.int 1664525)))) rfl rfl) (a_C)) ?_
  refine Eq.trans (Eq.trans (r_go (act := oS (fAld 4 0)) rfl rfl) (a_ald rfl)) ?_
  refine Eq.trans (Eq.trans (r_go (act := oS (fGi g 7 3 3)) rfl rfl) (a_gi (zO_40 g))) ?_
  refine Eq.trans (Eq.trans (r_go (act := oS (fSt 8 (g2 (fun x y => x * y)))) rfl rfl) (a_mul)) ?_
  refine Eq.trans (Eq.trans (r_go (act := oS (fSt 10 (gC (.int 1013904223)))) rfl rfl) (a_C)) ?_
  refine Eq.trans (Eq.trans (r_go (act := oS (fSt 11 (g2 (fun x y => x + y)))) rfl rfl) (a_add)) ?_
  refine Eq.trans (Eq.trans (r_go (act := oS (fPi g 14 3 3)) rfl rfl) (a_pi (zO_40 g))) ?_
  refine Eq.trans (Eq.trans (r_go (act := oS (fIld 15 1)) rfl rfl) (a_ild rfl)) ?_
  refine Eq.trans (Eq.trans (r_go (act := oS (fIf 18 30 cGt0)) rfl rfl) (a_if)) (bcg ?_ ?_)
  · refine Eq.trans (Eq.trans (r_go (act := oS (fAld 19 0)) rfl rfl) (a_ald rfl)) ?_
    refine Eq.trans (Eq.trans (r_go (act := oS (fGi g 22 3 3)) rfl rfl) (a_giV (zO_40 g) rfl)) ?_
    refine Eq.trans (Eq.trans (r_go (act := oS (fSt 24 (gC (.int 8)))) rfl rfl) (a_C)) ?_
    refine Eq.trans (Eq.trans (r_go (act := oS (fSt 25 (g2 zushr))) rfl rfl) (a_ush)) ?_
    refine Eq.trans (Eq.trans (r_go (act := oS (fIld 26 1)) rfl rfl) (a_ild rfl)) ?_
    refine Eq.trans (Eq.trans (r_go (act := oS (fRem 27)) rfl rfl) (a_rem)) (bcg ?_ rfl)
    refine Eq.trans (Eq.trans (r_go (act := oS (fGo 31)) rfl rfl) (a_goto)) ?_
    exact Eq.trans (r_go (act := oIret) rfl rfl) (a_iret)
  · refine Eq.trans (Eq.trans (r_go (act := oS (fSt 31 (gC (.int 0)))) rfl rfl) (a_C)) ?_
    exact Eq.trans (r_go (act := oIret) rfl rfl) (a_iret)
theorem x_X3_draw_0_1 (g : zg) (a1 : Int32) (M : zM) : X_X3_draw g [.ref 40, .int a1] M = (bif cGt0 a1 then (bif !decide (a1 = 0) then some (some (.int ((zushr ((1664525 * (M.1 40 3)) + 1013904223) 8) - (zushr ((1664525 * (M.1 40 3)) + 1013904223) 8) / a1 * a1)), ((zu M.1 40 3 ((1664525 * (M.1 40 3)) + 1013904223)), M.2)) else none) else some (some (.int 0), ((zu M.1 40 3 ((1664525 * (M.1 40 3)) + 1013904223)), M.2))) := e_X3_draw_0_1 g a1 M
set_option maxRecDepth 20000 in
theorem e_X10_freeWord_0 (g : zg) (a2 : Int32) (M : zM) : zX (t_X10_freeWord g) 0 [some (.ref 6), some (.ref 7), some (.int a2), none, none] [] M = (zbI (X_X10_tellBy g [.ref 6, .ref 7, .int a2] M) (fun x1 M1 => (bif cEq0 (M1.1 7 0) then zX (t_X10_freeWord g) 24 [none, some (.ref 7), none, some (.int x1), none] [.int 0] M1 else (zbI (X_X10_errBy g [.ref 6, .ref 7, .int a2] M1) (fun x2 M2 => zX (t_X10_freeWord g) 24 [none, some (.ref 7), none, some (.int x1), none] [.int x2] M2))))) := by
  refine Eq.trans (zX_rgN (tl_X10_freeWord g) (hc_X10_freeWord g) 15 _ _ _ _) ?_
  refine Eq.trans (Eq.trans (r_0 (act := oS (fAld 1 0)) rfl) (a_ald rfl)) ?_
  refine Eq.trans (Eq.trans (r_go (act := oS (fAld 2 1)) rfl rfl) (a_ald rfl)) ?_
  refine Eq.trans (Eq.trans (r_go (act := oS (fIld 3 2)) rfl rfl) (a_ild rfl)) ?_
  refine Eq.trans (Eq.trans (r_go (act := oCI 6 3 (zcv g 10) (X_X10_tellBy g)) rfl rfl) (a_cI rfl (zck (zO_6 g) rfl))) (zbI_cg (fun x1 M1 => ?_))
  refine Eq.trans (Eq.trans (r_go (act := oS (fIst 7 3)) rfl rfl) (a_ist rfl rfl)) ?_
  refine Eq.trans (Eq.trans (r_go (act := oS (fAld 8 1)) rfl rfl) (a_ald rfl)) ?_
  refine Eq.trans (Eq.trans (r_go (act := oS (fGi g 11 3 0)) rfl rfl) (a_gi (zO_7 g))) ?_
  refine Eq.trans (Eq.trans (r_go (act := oS (fIf 23 14 cEq0)) rfl rfl) (a_if)) (bcg ?_ ?_)
  · refine Eq.trans (Eq.trans (r_go (act := oS (fSt 24 (gC (.int 0)))) rfl rfl) (a_C)) ?_
    exact r_cut rfl rfl
  · refine Eq.trans (Eq.trans (r_go (act := oS (fAld 15 0)) rfl rfl) (a_ald rfl)) ?_
    refine Eq.trans (Eq.trans (r_go (act := oS (fAld 16 1)) rfl rfl) (a_ald rfl)) ?_
    refine Eq.trans (Eq.trans (r_go (act := oS (fIld 17 2)) rfl rfl) (a_ild rfl)) ?_
    refine Eq.trans (Eq.trans (r_go (act := oCI 20 3 (zcv g 10) (X_X10_errBy g)) rfl rfl) (a_cI rfl (zck (zO_6 g) rfl))) (zbI_cg (fun x2 M2 => ?_))
    refine Eq.trans (Eq.trans (r_go (act := oS (fGo 24)) rfl rfl) (a_goto)) ?_
    exact r_cut rfl rfl
theorem x_X10_freeWord_0 (g : zg) (a2 : Int32) (M : zM) : X_X10_freeWord g [.ref 6, .ref 7, .int a2] M = (zbI (X_X10_tellBy g [.ref 6, .ref 7, .int a2] M) (fun x1 M1 => (bif cEq0 (M1.1 7 0) then zX (t_X10_freeWord g) 24 [none, some (.ref 7), none, some (.int x1), none] [.int 0] M1 else (zbI (X_X10_errBy g [.ref 6, .ref 7, .int a2] M1) (fun x2 M2 => zX (t_X10_freeWord g) 24 [none, some (.ref 7), none, some (.int x1), none] [.int x2] M2))))) := e_X10_freeWord_0 g a2 M
set_option maxRecDepth 20000 in
theorem e_X10_freeWord_0_1 (g : zg) (a2 : Int32) (M : zM) : zX (t_X10_freeWord g) 0 [some (.ref 6), some (.ref 40), some (.int a2), none, none] [] M = (zbI (X_X10_tellBy g [.ref 6, .ref 40, .int a2] M) (fun x1 M1 => (bif cEq0 (M1.1 40 0) then zX (t_X10_freeWord g) 24 [none, some (.ref 40), none, some (.int x1), none] [.int 0] M1 else (zbI (X_X10_errBy g [.ref 6, .ref 40, .int a2] M1) (fun x2 M2 => zX (t_X10_freeWord g) 24 [none, some (.ref 40), none, some (.int x1), none] [.int x2] M2))))) := by
  refine Eq.trans (zX_rgN (tl_X10_freeWord g) (hc_X10_freeWord g) 15 _ _ _ _) ?_
  refine Eq.trans (Eq.trans (r_0 (act := oS (fAld 1 0)) rfl) (a_ald rfl)) ?_
  refine Eq.trans (Eq.trans (r_go (act := oS (fAld 2 1)) rfl rfl) (a_ald rfl)) ?_
  refine Eq.trans (Eq.trans (r_go (act := oS (fIld 3 2)) rfl rfl) (a_ild rfl)) ?_
  refine Eq.trans (Eq.trans (r_go (act := oCI 6 3 (zcv g 10) (X_X10_tellBy g)) rfl rfl) (a_cI rfl (zck (zO_6 g) rfl))) (zbI_cg (fun x1 M1 => ?_))
  refine Eq.trans (Eq.trans (r_go (act := oS (fIst 7 3)) rfl rfl) (a_ist rfl rfl)) ?_
  refine Eq.trans (Eq.trans (r_go (act := oS (fAld 8 1)) rfl rfl) (a_ald rfl)) ?_
  refine Eq.trans (Eq.trans (r_go (act := oS (fGi g 11 3 0)) rfl rfl) (a_gi (zO_40 g))) ?_
  refine Eq.trans (Eq.trans (r_go (act := oS (fIf 23 14 cEq0)) rfl rfl) (a_if)) (bcg ?_ ?_)
  · refine Eq.trans (Eq.trans (r_go (act := oS (fSt 24 (gC (.int 0)))) rfl rfl) (a_C)) ?_
    exact r_cut rfl rfl
  · refine Eq.trans (Eq.trans (r_go (act := oS (fAld 15 0)) rfl rfl) (a_ald rfl)) ?_
    refine Eq.trans (Eq.trans (r_go (act := oS (fAld 16 1)) rfl rfl) (a_ald rfl)) ?_
    refine Eq.trans (Eq.trans (r_go (act := oS (fIld 17 2)) rfl rfl) (a_ild rfl)) ?_
    refine Eq.trans (Eq.trans (r_go (act := oCI 20 3 (zcv g 10) (X_X10_errBy g)) rfl rfl) (a_cI rfl (zck (zO_6 g) rfl))) (zbI_cg (fun x2 M2 => ?_))
    refine Eq.trans (Eq.trans (r_go (act := oS (fGo 24)) rfl rfl) (a_goto)) ?_
    exact r_cut rfl rfl
theorem x_X10_freeWord_0_1 (g : zg) (a2 : Int32) (M : zM) : X_X10_freeWord g [.ref 6, .ref 40, .int a2] M = (zbI (X_X10_tellBy g [.ref 6, .ref 40, .int a2] M) (fun x1 M1 => (bif cEq0 (M1.1 40 0) then zX (t_X10_freeWord g) 24 [none, some (.ref 40), none, some (.int x1), none] [.int 0] M1 else (zbI (X_X10_errBy g [.ref 6, .ref 40, .int a2] M1) (fun x2 M2 => zX (t_X10_freeWord g) 24 [none, some (.ref 40), none, some (.int x1), none] [.int x2] M2))))) := e_X10_freeWord_0_1 g a2 M
set_option maxRecDepth 20000 in
theorem e_X10_freeWord_24 (g : zg) (a3 : Int32) (s0 : Int32) (M : zM) : zX (t_X10_freeWord g) 24 [none, some (.ref 7), none, some (.int a3), none] [.int s0] M = (bif cGt0 s0 then (zbI (X_X3_draw g [.ref 7, .int 1000] M) (fun x1 M1 => (bif cLt x1 s0 then (zbI (X_X3_draw g [.ref 7, .int 2] M1) (fun x2 M2 => (bif cEq0 x2 then (zbI (X_X11_hold g [.int (a3 + (-1)), .int 0, .int 4] M2) (fun x3 M3 => some (some (.int x3), M3))) else (zbI (X_X11_hold g [.int (a3 + 1), .int 0, .int 4] M2) (fun x4 M4 => some (some (.int x4), M4)))))) else (zbI (X_X11_hold g [.int a3, .int 0, .int 4] M1) (fun x5 M5 => some (some (.int x5), M5)))))) else (zbI (X_X11_hold g [.int a3, .int 0, .int 4] M) (fun x6 M6 => some (some (.int x6), M6)))) := by
  refine Eq.trans (zX_rgN (tl_X10_freeWord g) (hc_X10_freeWord g) 23 _ _ _ _) ?_
  refine Eq.trans (Eq.trans (Eq.trans (r_0 (act := oF [0, 2, 4] (oS (fIst 26 4))) rfl) (a_F rfl)) (a_ist rfl rfl)) ?_
  refine Eq.trans (Eq.trans (r_go (act := oS (fIld 28 4)) rfl rfl) (a_ild rfl)) ?_
  refine Eq.trans (Eq.trans (r_go (act := oS (fIf 31 59 cGt0)) rfl rfl) (a_if)) (bcg ?_ ?_)
  · refine Eq.trans (Eq.trans (r_go (act := oS (fAld 32 1)) rfl rfl) (a_ald rfl)) ?_
    refine Eq.trans (Eq.trans (r_go (act := oS (fSt 35 (gC (.int 1000)))) rfl rfl) (a_C)) ?_
    refine Eq.trans (Eq.trans (r_go (act := oCI 38 2 (zcv g 3) (X_X3_draw g)) rfl rfl) (a_cI rfl (zck (zO_7 g) rfl))) (zbI_cg (fun x1 M1 => ?_))
    refine Eq.trans (Eq.trans (r_go (act := oS (fIld 40 4)) rfl rfl) (a_ild rfl)) ?_
    refine Eq.trans (Eq.trans (r_go (act := oS (fCm 43 59 cLt)) rfl rfl) (a_cm)) (bcg ?_ ?_)
    · refine Eq.trans (Eq.trans (r_go (act := oS (fIld 44 3)) rfl rfl) (a_ild rfl)) ?_
      refine Eq.trans (Eq.trans (r_go (act := oS (fAld 45 1)) rfl rfl) (a_ald rfl)) ?_
      refine Eq.trans (Eq.trans (r_go (act := oS (fSt 46 (gC (.int 2)))) rfl rfl) (a_C)) ?_
      refine Eq.trans (Eq.trans (r_go (act := oCI 49 2 (zcv g 3) (X_X3_draw g)) rfl rfl) (a_cI rfl (zck (zO_7 g) rfl))) (zbI_cg (fun x2 M2 => ?_))
      refine Eq.trans (Eq.trans (r_go (act := oS (fIf 52 56 cEq0)) rfl rfl) (a_if)) (bcg ?_ ?_)
      · refine Eq.trans (Eq.trans (r_go (act := oS (fSt 53 (gC (.int (-1))))) rfl rfl) (a_C)) ?_
        refine Eq.trans (Eq.trans (r_go (act := oS (fGo 57)) rfl rfl) (a_goto)) ?_
        refine Eq.trans (Eq.trans (r_go (act := oS (fSt 58 (g2 (fun x y => x + y)))) rfl rfl) (a_add)) ?_
        refine Eq.trans (Eq.trans (r_go (act := oS (fIst 59 3)) rfl rfl) (a_ist rfl rfl)) ?_
        refine Eq.trans (Eq.trans (r_go (act := oS (fIld 60 3)) rfl rfl) (a_ild rfl)) ?_
        refine Eq.trans (Eq.trans (r_go (act := oS (fSt 61 (gC (.int 0)))) rfl rfl) (a_C)) ?_
        refine Eq.trans (Eq.trans (r_go (act := oS (fSt 62 (gC (.int 4)))) rfl rfl) (a_C)) ?_
        refine Eq.trans (Eq.trans (r_go (act := oCI 65 3 zcs (X_X11_hold g)) rfl rfl) (a_cI rfl rfl)) (zbI_cg (fun x3 M3 => ?_))
        exact Eq.trans (r_go (act := oIret) rfl rfl) (a_iret)
      · refine Eq.trans (Eq.trans (r_go (act := oS (fSt 57 (gC (.int 1)))) rfl rfl) (a_C)) ?_
        refine Eq.trans (Eq.trans (r_go (act := oS (fSt 58 (g2 (fun x y => x + y)))) rfl rfl) (a_add)) ?_
        refine Eq.trans (Eq.trans (r_go (act := oS (fIst 59 3)) rfl rfl) (a_ist rfl rfl)) ?_
        refine Eq.trans (Eq.trans (r_go (act := oS (fIld 60 3)) rfl rfl) (a_ild rfl)) ?_
        refine Eq.trans (Eq.trans (r_go (act := oS (fSt 61 (gC (.int 0)))) rfl rfl) (a_C)) ?_
        refine Eq.trans (Eq.trans (r_go (act := oS (fSt 62 (gC (.int 4)))) rfl rfl) (a_C)) ?_
        refine Eq.trans (Eq.trans (r_go (act := oCI 65 3 zcs (X_X11_hold g)) rfl rfl) (a_cI rfl rfl)) (zbI_cg (fun x4 M4 => ?_))
        exact Eq.trans (r_go (act := oIret) rfl rfl) (a_iret)
    · refine Eq.trans (Eq.trans (r_go (act := oS (fIld 60 3)) rfl rfl) (a_ild rfl)) ?_
      refine Eq.trans (Eq.trans (r_go (act := oS (fSt 61 (gC (.int 0)))) rfl rfl) (a_C)) ?_
      refine Eq.trans (Eq.trans (r_go (act := oS (fSt 62 (gC (.int 4)))) rfl rfl) (a_C)) ?_
      refine Eq.trans (Eq.trans (r_go (act := oCI 65 3 zcs (X_X11_hold g)) rfl rfl) (a_cI rfl rfl)) (zbI_cg (fun x5 M5 => ?_))
      exact Eq.trans (r_go (act := oIret) rfl rfl) (a_iret)
  · refine Eq.trans (Eq.trans (r_go (act := oS (fIld 60 3)) rfl rfl) (a_ild rfl)) ?_
    refine Eq.trans (Eq.trans (r_go (act := oS (fSt 61 (gC (.int 0)))) rfl rfl) (a_C)) ?_
    refine Eq.trans (Eq.trans (r_go (act := oS (fSt 62 (gC (.int 4)))) rfl rfl) (a_C)) ?_
    refine Eq.trans (Eq.trans (r_go (act := oCI 65 3 zcs (X_X11_hold g)) rfl rfl) (a_cI rfl rfl)) (zbI_cg (fun x6 M6 => ?_))
    exact Eq.trans (r_go (act := oIret) rfl rfl) (a_iret)
set_option maxRecDepth 20000 in
theorem e_X10_freeWord_24_1 (g : zg) (a3 : Int32) (s0 : Int32) (M : zM) : zX (t_X10_freeWord g) 24 [none, some (.ref 40), none, some (.int a3), none] [.int s0] M = (bif cGt0 s0 then (zbI (X_X3_draw g [.ref 40, .int 1000] M) (fun x1 M1 => (bif cLt x1 s0 then (zbI (X_X3_draw g [.ref 40, .int 2] M1) (fun x2 M2 => (bif cEq0 x2 then (zbI (X_X11_hold g [.int (a3 + (-1)), .int 0, .int 4] M2) (fun x3 M3 => some (some (.int x3), M3))) else (zbI (X_X11_hold g [.int (a3 + 1), .int 0, .int 4] M2) (fun x4 M4 => some (some (.int x4), M4)))))) else (zbI (X_X11_hold g [.int a3, .int 0, .int 4] M1) (fun x5 M5 => some (some (.int x5), M5)))))) else (zbI (X_X11_hold g [.int a3, .int 0, .int 4] M) (fun x6 M6 => some (some (.int x6), M6)))) := by
  refine Eq.trans (zX_rgN (tl_X10_freeWord g) (hc_X10_freeWord g) 23 _ _ _ _) ?_
  refine Eq.trans (Eq.trans (Eq.trans (r_0 (act := oF [0, 2, 4] (oS (fIst 26 4))) rfl) (a_F rfl)) (a_ist rfl rfl)) ?_
  refine Eq.trans (Eq.trans (r_go (act := oS (fIld 28 4)) rfl rfl) (a_ild rfl)) ?_
  refine Eq.trans (Eq.trans (r_go (act := oS (fIf 31 59 cGt0)) rfl rfl) (a_if)) (bcg ?_ ?_)
  · refine Eq.trans (Eq.trans (r_go (act := oS (fAld 32 1)) rfl rfl) (a_ald rfl)) ?_
    refine Eq.trans (Eq.trans (r_go (act := oS (fSt 35 (gC (.int 1000)))) rfl rfl) (a_C)) ?_
    refine Eq.trans (Eq.trans (r_go (act := oCI 38 2 (zcv g 3) (X_X3_draw g)) rfl rfl) (a_cI rfl (zck (zO_40 g) rfl))) (zbI_cg (fun x1 M1 => ?_))
    refine Eq.trans (Eq.trans (r_go (act := oS (fIld 40 4)) rfl rfl) (a_ild rfl)) ?_
    refine Eq.trans (Eq.trans (r_go (act := oS (fCm 43 59 cLt)) rfl rfl) (a_cm)) (bcg ?_ ?_)
    · refine Eq.trans (Eq.trans (r_go (act := oS (fIld 44 3)) rfl rfl) (a_ild rfl)) ?_
      refine Eq.trans (Eq.trans (r_go (act := oS (fAld 45 1)) rfl rfl) (a_ald rfl)) ?_
      refine Eq.trans (Eq.trans (r_go (act := oS (fSt 46 (gC (.int 2)))) rfl rfl) (a_C)) ?_
      refine Eq.trans (Eq.trans (r_go (act := oCI 49 2 (zcv g 3) (X_X3_draw g)) rfl rfl) (a_cI rfl (zck (zO_40 g) rfl))) (zbI_cg (fun x2 M2 => ?_))
      refine Eq.trans (Eq.trans (r_go (act := oS (fIf 52 56 cEq0)) rfl rfl) (a_if)) (bcg ?_ ?_)
      · refine Eq.trans (Eq.trans (r_go (act := oS (fSt 53 (gC (.int (-1))))) rfl rfl) (a_C)) ?_
        refine Eq.trans (Eq.trans (r_go (act := oS (fGo 57)) rfl rfl) (a_goto)) ?_
        refine Eq.trans (Eq.trans (r_go (act := oS (fSt 58 (g2 (fun x y => x + y)))) rfl rfl) (a_add)) ?_
        refine Eq.trans (Eq.trans (r_go (act := oS (fIst 59 3)) rfl rfl) (a_ist rfl rfl)) ?_
        refine Eq.trans (Eq.trans (r_go (act := oS (fIld 60 3)) rfl rfl) (a_ild rfl)) ?_
        refine Eq.trans (Eq.trans (r_go (act := oS (fSt 61 (gC (.int 0)))) rfl rfl) (a_C)) ?_
        refine Eq.trans (Eq.trans (r_go (act := oS (fSt 62 (gC (.int 4)))) rfl rfl) (a_C)) ?_
        refine Eq.trans (Eq.trans (r_go (act := oCI 65 3 zcs (X_X11_hold g)) rfl rfl) (a_cI rfl rfl)) (zbI_cg (fun x3 M3 => ?_))
        exact Eq.trans (r_go (act := oIret) rfl rfl) (a_iret)
      · refine Eq.trans (Eq.trans (r_go (act := oS (fSt 57 (gC (.int 1)))) rfl rfl) (a_C)) ?_
        refine Eq.trans (Eq.trans (r_go (act := oS (fSt 58 (g2 (fun x y => x + y)))) rfl rfl) (a_add)) ?_
        refine Eq.trans (Eq.trans (r_go (act := oS (fIst 59 3)) rfl rfl) (a_ist rfl rfl)) ?_
        refine Eq.trans (Eq.trans (r_go (act := oS (fIld 60 3)) rfl rfl) (a_ild rfl)) ?_
        refine Eq.trans (Eq.trans (r_go (act := oS (fSt 61 (gC (.int 0)))) rfl rfl) (a_C)) ?_
        refine Eq.trans (Eq.trans (r_go (act := oS (fSt 62 (gC (.int 4)))) rfl rfl) (a_C)) ?_
        refine Eq.trans (Eq.trans (r_go (act := oCI 65 3 zcs (X_X11_hold g)) rfl rfl) (a_cI rfl rfl)) (zbI_cg (fun x4 M4 => ?_))
        exact Eq.trans (r_go (act := oIret) rfl rfl) (a_iret)
    · refine Eq.trans (Eq.trans (r_go (act := oS (fIld 60 3)) rfl rfl) (a_ild rfl)) ?_
      refine Eq.trans (Eq.trans (r_go (act := oS (fSt 61 (gC (.int 0)))) rfl rfl) (a_C)) ?_
      refine Eq.trans (Eq.trans (r_go (act := oS (fSt 62 (gC (.int 4)))) rfl rfl) (a_C)) ?_
      refine Eq.trans (Eq.trans (r_go (act := oCI 65 3 zcs (X_X11_hold g)) rfl rfl) (a_cI rfl rfl)) (zbI_cg (fun x5 M5 => ?_))
      exact Eq.trans (r_go (act := oIret) rfl rfl) (a_iret)
  · refine Eq.trans (Eq.trans (r_go (act := oS (fIld 60 3)) rfl rfl) (a_ild rfl)) ?_
    refine Eq.trans (Eq.trans (r_go (act := oS (fSt 61 (gC (.int 0)))) rfl rfl) (a_C)) ?_
    refine Eq.trans (Eq.trans (r_go (act := oS (fSt 62 (gC (.int 4)))) rfl rfl) (a_C)) ?_
    refine Eq.trans (Eq.trans (r_go (act := oCI 65 3 zcs (X_X11_hold g)) rfl rfl) (a_cI rfl rfl)) (zbI_cg (fun x6 M6 => ?_))
    exact Eq.trans (r_go (act := oIret) rfl rfl) (a_iret)
set_option maxRecDepth 20000 in
theorem e_X10_tellAll_0 (g : zg) (M : zM) : zX (t_X10_tellAll g) 0 [some (.ref 6), some (.ref 7), none, none, none] [] M = zX (t_X10_tellAll g) 4 [some (.ref 6), some (.ref 7), some (.int 0), some (.int 0), none] [] M := by
  refine Eq.trans (zX_rgN (tl_X10_tellAll g) (hc_X10_tellAll g) 6 _ _ _ _) ?_
  refine Eq.trans (Eq.trans (r_0 (act := oS (fSt 1 (gC (.int 0)))) rfl) (a_C)) ?_
  refine Eq.trans (Eq.trans (r_go (act := oS (fIst 2 2)) rfl rfl) (a_ist rfl rfl)) ?_
  refine Eq.trans (Eq.trans (r_go (act := oS (fSt 3 (gC (.int 0)))) rfl rfl) (a_C)) ?_
  refine Eq.trans (Eq.trans (r_go (act := oS (fIst 4 3)) rfl rfl) (a_ist rfl rfl)) ?_
  exact r_cut rfl rfl
theorem x_X10_tellAll_0 (g : zg) (M : zM) : X_X10_tellAll g [.ref 6, .ref 7] M = zX (t_X10_tellAll g) 4 [some (.ref 6), some (.ref 7), some (.int 0), some (.int 0), none] [] M := e_X10_tellAll_0 g M
set_option maxRecDepth 20000 in
theorem e_X10_tellAll_0_1 (g : zg) (M : zM) : zX (t_X10_tellAll g) 0 [some (.ref 6), some (.ref 40), none, none, none] [] M = zX (t_X10_tellAll g) 4 [some (.ref 6), some (.ref 40), some (.int 0), some (.int 0), none] [] M := by
  refine Eq.trans (zX_rgN (tl_X10_tellAll g) (hc_X10_tellAll g) 6 _ _ _ _) ?_
  refine Eq.trans (Eq.trans (r_0 (act := oS (fSt 1 (gC (.int 0)))) rfl) (a_C)) ?_
  refine Eq.trans (Eq.trans (r_go (act := oS (fIst 2 2)) rfl rfl) (a_ist rfl rfl)) ?_
  refine Eq.trans (Eq.trans (r_go (act := oS (fSt 3 (gC (.int 0)))) rfl rfl) (a_C)) ?_
  refine Eq.trans (Eq.trans (r_go (act := oS (fIst 4 3)) rfl rfl) (a_ist rfl rfl)) ?_
  exact r_cut rfl rfl
theorem x_X10_tellAll_0_1 (g : zg) (M : zM) : X_X10_tellAll g [.ref 6, .ref 40] M = zX (t_X10_tellAll g) 4 [some (.ref 6), some (.ref 40), some (.int 0), some (.int 0), none] [] M := e_X10_tellAll_0_1 g M
set_option maxRecDepth 20000 in
theorem e_X10_tellAll_4 (g : zg) (a2 : Int32) (a3 : Int32) (M : zM) : zX (t_X10_tellAll g) 4 [some (.ref 6), some (.ref 7), some (.int a2), some (.int a3), none] [] M = (bif cLt a3 (M.1 7 2) then (zbI (X_X3_serving g [.ref 7, .int a3] M) (fun x1 M1 => (bif cEq0 x1 then (zbV (X_X3_put g [.ref 7, .int a3, .int 6, .int (-1)] M1) (fun M2 => zX (t_X10_tellAll g) 4 [some (.ref 6), some (.ref 7), some (.int a2), some (.int (a3 + 1)), none] [] M2)) else (zbI (X_X3_get g [.ref 7, .int a3, .int 3] M1) (fun x3 M3 => (bif cEq x3 (-1) then (zbI (X_X10_freeWord g [.ref 6, .ref 7, .int a3] M3) (fun x4 M4 => (zbV (X_X3_put g [.ref 7, .int a3, .int 6, .int x4] M4) (fun M5 => zX (t_X10_tellAll g) 4 [some (.ref 6), some (.ref 7), some (.int 1), some (.int (a3 + 1)), none] [] M5)))) else (zbV (X_X3_put g [.ref 7, .int a3, .int 6, .int x3] M3) (fun M6 => zX (t_X10_tellAll g) 4 [some (.ref 6), some (.ref 7), some (.int 1), some (.int (a3 + 1)), none] [] M6)))))))) else (bif cEq (a2 &&& 1) a2 then some (some (.int a2), M) else none)) := by
  refine Eq.trans (zX_rgN (tl_X10_tellAll g) (hc_X10_tellAll g) 32 _ _ _ _) ?_
  refine Eq.trans (Eq.trans (Eq.trans (r_0 (act := oF [4] (oS (fIld 5 3))) rfl) (a_F rfl)) (a_ild rfl)) ?_
  refine Eq.trans (Eq.trans (r_go (act := oS (fAld 6 1)) rfl rfl) (a_ald rfl)) ?_
  refine Eq.trans (Eq.trans (r_go (act := oS (fGi g 9 3 2)) rfl rfl) (a_gi (zO_7 g))) ?_
  refine Eq.trans (Eq.trans (r_go (act := oS (fCm 12 71 cLt)) rfl rfl) (a_cm)) (bcg ?_ ?_)
  · refine Eq.trans (Eq.trans (r_go (act := oS (fAld 13 1)) rfl rfl) (a_ald rfl)) ?_
    refine Eq.trans (Eq.trans (r_go (act := oS (fIld 14 3)) rfl rfl) (a_ild rfl)) ?_
    refine Eq.trans (Eq.trans (r_go (act := oCI 17 2 (zcv g 3) (X_X3_serving g)) rfl rfl) (a_cI rfl (zck (zO_7 g) rfl))) (zbI_cg (fun x1 M1 => ?_))
    refine Eq.trans (Eq.trans (r_go (act := oS (fIf 57 20 cEq0)) rfl rfl) (a_if)) (bcg ?_ ?_)
    · refine Eq.trans (Eq.trans (r_go (act := oS (fAld 58 1)) rfl rfl) (a_ald rfl)) ?_
      refine Eq.trans (Eq.trans (r_go (act := oS (fIld 59 3)) rfl rfl) (a_ild rfl)) ?_
      refine Eq.trans (Eq.trans (r_go (act := oS (fSt 61 (gC (.int 6)))) rfl rfl) (a_C)) ?_
      refine Eq.trans (Eq.trans (r_go (act := oS (fSt 62 (gC (.int (-1))))) rfl rfl) (a_C)) ?_
      refine Eq.trans (Eq.trans (r_go (act := oCV 65 4 (zcv g 3) (X_X3_put g)) rfl rfl) (a_cV rfl (zck (zO_7 g) rfl))) (zbV_cg (fun M2 => ?_))
      refine Eq.trans (Eq.trans (r_go (act := oS (fInc 68 3 1)) rfl rfl) (a_inc rfl rfl rfl)) ?_
      refine Eq.trans (Eq.trans (r_go (act := oS (fGo 4)) rfl rfl) (a_goto)) ?_
      exact r_cut rfl rfl
    · refine Eq.trans (Eq.trans (r_go (act := oS (fAld 21 1)) rfl rfl) (a_ald rfl)) ?_
      refine Eq.trans (Eq.trans (r_go (act := oS (fIld 22 3)) rfl rfl) (a_ild rfl)) ?_
      refine Eq.trans (Eq.trans (r_go (act := oS (fSt 23 (gC (.int 3)))) rfl rfl) (a_C)) ?_
      refine Eq.trans (Eq.trans (r_go (act := oCI 26 3 (zcv g 3) (X_X3_get g)) rfl rfl) (a_cI rfl (zck (zO_7 g) rfl))) (zbI_cg (fun x3 M3 => ?_))
      refine Eq.trans (Eq.trans (r_go (act := oS (fIst 28 4)) rfl rfl) (a_ist rfl rfl)) ?_
      refine Eq.trans (Eq.trans (r_go (act := oS (fAld 29 1)) rfl rfl) (a_ald rfl)) ?_
      refine Eq.trans (Eq.trans (r_go (act := oS (fIld 30 3)) rfl rfl) (a_ild rfl)) ?_
      refine Eq.trans (Eq.trans (r_go (act := oS (fSt 32 (gC (.int 6)))) rfl rfl) (a_C)) ?_
      refine Eq.trans (Eq.trans (r_go (act := oS (fIld 34 4)) rfl rfl) (a_ild rfl)) ?_
      refine Eq.trans (Eq.trans (r_go (act := oS (fSt 35 (gC (.int (-1))))) rfl rfl) (a_C)) ?_
      refine Eq.trans (Eq.trans (r_go (act := oS (fCm 38 47 cEq)) rfl rfl) (a_cm)) (bcg ?_ ?_)
      · refine Eq.trans (Eq.trans (r_go (act := oS (fAld 39 0)) rfl rfl) (a_ald rfl)) ?_
        refine Eq.trans (Eq.trans (r_go (act := oS (fAld 40 1)) rfl rfl) (a_ald rfl)) ?_
        refine Eq.trans (Eq.trans (r_go (act := oS (fIld 41 3)) rfl rfl) (a_ild rfl)) ?_
        refine Eq.trans (Eq.trans (r_go (act := oCI 44 3 (zcv g 10) (X_X10_freeWord g)) rfl rfl) (a_cI rfl (zck (zO_6 g) rfl))) (zbI_cg (fun x4 M4 => ?_))
        refine Eq.trans (Eq.trans (r_go (act := oS (fGo 49)) rfl rfl) (a_goto)) ?_
        refine Eq.trans (Eq.trans (r_go (act := oCV 52 4 (zcv g 3) (X_X3_put g)) rfl rfl) (a_cV rfl (zck (zO_7 g) rfl))) (zbV_cg (fun M5 => ?_))
        refine Eq.trans (Eq.trans (r_go (act := oS (fSt 53 (gC (.int 1)))) rfl rfl) (a_C)) ?_
        refine Eq.trans (Eq.trans (r_go (act := oS (fIst 54 2)) rfl rfl) (a_ist rfl rfl)) ?_
        refine Eq.trans (Eq.trans (r_go (act := oS (fGo 65)) rfl rfl) (a_goto)) ?_
        refine Eq.trans (Eq.trans (r_go (act := oS (fInc 68 3 1)) rfl rfl) (a_inc rfl rfl rfl)) ?_
        refine Eq.trans (Eq.trans (r_go (act := oS (fGo 4)) rfl rfl) (a_goto)) ?_
        exact r_cut rfl rfl
      · refine Eq.trans (Eq.trans (r_go (act := oS (fIld 49 4)) rfl rfl) (a_ild rfl)) ?_
        refine Eq.trans (Eq.trans (r_go (act := oCV 52 4 (zcv g 3) (X_X3_put g)) rfl rfl) (a_cV rfl (zck (zO_7 g) rfl))) (zbV_cg (fun M6 => ?_))
        refine Eq.trans (Eq.trans (r_go (act := oS (fSt 53 (gC (.int 1)))) rfl rfl) (a_C)) ?_
        refine Eq.trans (Eq.trans (r_go (act := oS (fIst 54 2)) rfl rfl) (a_ist rfl rfl)) ?_
        refine Eq.trans (Eq.trans (r_go (act := oS (fGo 65)) rfl rfl) (a_goto)) ?_
        refine Eq.trans (Eq.trans (r_go (act := oS (fInc 68 3 1)) rfl rfl) (a_inc rfl rfl rfl)) ?_
        refine Eq.trans (Eq.trans (r_go (act := oS (fGo 4)) rfl rfl) (a_goto)) ?_
        exact r_cut rfl rfl
  · refine Eq.trans (Eq.trans (r_go (act := oS (fIld 72 2)) rfl rfl) (a_ild rfl)) ?_
    exact Eq.trans (r_go (act := oZret) rfl rfl) (a_zret)
set_option maxRecDepth 20000 in
theorem e_X10_tellAll_4_1 (g : zg) (a2 : Int32) (a3 : Int32) (M : zM) : zX (t_X10_tellAll g) 4 [some (.ref 6), some (.ref 40), some (.int a2), some (.int a3), none] [] M = (bif cLt a3 (M.1 40 2) then (zbI (X_X3_serving g [.ref 40, .int a3] M) (fun x1 M1 => (bif cEq0 x1 then (zbV (X_X3_put g [.ref 40, .int a3, .int 6, .int (-1)] M1) (fun M2 => zX (t_X10_tellAll g) 4 [some (.ref 6), some (.ref 40), some (.int a2), some (.int (a3 + 1)), none] [] M2)) else (zbI (X_X3_get g [.ref 40, .int a3, .int 3] M1) (fun x3 M3 => (bif cEq x3 (-1) then (zbI (X_X10_freeWord g [.ref 6, .ref 40, .int a3] M3) (fun x4 M4 => (zbV (X_X3_put g [.ref 40, .int a3, .int 6, .int x4] M4) (fun M5 => zX (t_X10_tellAll g) 4 [some (.ref 6), some (.ref 40), some (.int 1), some (.int (a3 + 1)), none] [] M5)))) else (zbV (X_X3_put g [.ref 40, .int a3, .int 6, .int x3] M3) (fun M6 => zX (t_X10_tellAll g) 4 [some (.ref 6), some (.ref 40), some (.int 1), some (.int (a3 + 1)), none] [] M6)))))))) else (bif cEq (a2 &&& 1) a2 then some (some (.int a2), M) else none)) := by
  refine Eq.trans (zX_rgN (tl_X10_tellAll g) (hc_X10_tellAll g) 32 _ _ _ _) ?_
  refine Eq.trans (Eq.trans (Eq.trans (r_0 (act := oF [4] (oS (fIld 5 3))) rfl) (a_F rfl)) (a_ild rfl)) ?_
  refine Eq.trans (Eq.trans (r_go (act := oS (fAld 6 1)) rfl rfl) (a_ald rfl)) ?_
  refine Eq.trans (Eq.trans (r_go (act := oS (fGi g 9 3 2)) rfl rfl) (a_gi (zO_40 g))) ?_
  refine Eq.trans (Eq.trans (r_go (act := oS (fCm 12 71 cLt)) rfl rfl) (a_cm)) (bcg ?_ ?_)
  · refine Eq.trans (Eq.trans (r_go (act := oS (fAld 13 1)) rfl rfl) (a_ald rfl)) ?_
    refine Eq.trans (Eq.trans (r_go (act := oS (fIld 14 3)) rfl rfl) (a_ild rfl)) ?_
    refine Eq.trans (Eq.trans (r_go (act := oCI 17 2 (zcv g 3) (X_X3_serving g)) rfl rfl) (a_cI rfl (zck (zO_40 g) rfl))) (zbI_cg (fun x1 M1 => ?_))
    refine Eq.trans (Eq.trans (r_go (act := oS (fIf 57 20 cEq0)) rfl rfl) (a_if)) (bcg ?_ ?_)
    · refine Eq.trans (Eq.trans (r_go (act := oS (fAld 58 1)) rfl rfl) (a_ald rfl)) ?_
      refine Eq.trans (Eq.trans (r_go (act := oS (fIld 59 3)) rfl rfl) (a_ild rfl)) ?_
      refine Eq.trans (Eq.trans (r_go (act := oS (fSt 61 (gC (.int 6)))) rfl rfl) (a_C)) ?_
      refine Eq.trans (Eq.trans (r_go (act := oS (fSt 62 (gC (.int (-1))))) rfl rfl) (a_C)) ?_
      refine Eq.trans (Eq.trans (r_go (act := oCV 65 4 (zcv g 3) (X_X3_put g)) rfl rfl) (a_cV rfl (zck (zO_40 g) rfl))) (zbV_cg (fun M2 => ?_))
      refine Eq.trans (Eq.trans (r_go (act := oS (fInc 68 3 1)) rfl rfl) (a_inc rfl rfl rfl)) ?_
      refine Eq.trans (Eq.trans (r_go (act := oS (fGo 4)) rfl rfl) (a_goto)) ?_
      exact r_cut rfl rfl
    · refine Eq.trans (Eq.trans (r_go (act := oS (fAld 21 1)) rfl rfl) (a_ald rfl)) ?_
      refine Eq.trans (Eq.trans (r_go (act := oS (fIld 22 3)) rfl rfl) (a_ild rfl)) ?_
      refine Eq.trans (Eq.trans (r_go (act := oS (fSt 23 (gC (.int 3)))) rfl rfl) (a_C)) ?_
      refine Eq.trans (Eq.trans (r_go (act := oCI 26 3 (zcv g 3) (X_X3_get g)) rfl rfl) (a_cI rfl (zck (zO_40 g) rfl))) (zbI_cg (fun x3 M3 => ?_))
      refine Eq.trans (Eq.trans (r_go (act := oS (fIst 28 4)) rfl rfl) (a_ist rfl rfl)) ?_
      refine Eq.trans (Eq.trans (r_go (act := oS (fAld 29 1)) rfl rfl) (a_ald rfl)) ?_
      refine Eq.trans (Eq.trans (r_go (act := oS (fIld 30 3)) rfl rfl) (a_ild rfl)) ?_
      refine Eq.trans (Eq.trans (r_go (act := oS (fSt 32 (gC (.int 6)))) rfl rfl) (a_C)) ?_
      refine Eq.trans (Eq.trans (r_go (act := oS (fIld 34 4)) rfl rfl) (a_ild rfl)) ?_
      refine Eq.trans (Eq.trans (r_go (act := oS (fSt 35 (gC (.int (-1))))) rfl rfl) (a_C)) ?_
      refine Eq.trans (Eq.trans (r_go (act := oS (fCm 38 47 cEq)) rfl rfl) (a_cm)) (bcg ?_ ?_)
      · refine Eq.trans (Eq.trans (r_go (act := oS (fAld 39 0)) rfl rfl) (a_ald rfl)) ?_
        refine Eq.trans (Eq.trans (r_go (act := oS (fAld 40 1)) rfl rfl) (a_ald rfl)) ?_
        refine Eq.trans (Eq.trans (r_go (act := oS (fIld 41 3)) rfl rfl) (a_ild rfl)) ?_
        refine Eq.trans (Eq.trans (r_go (act := oCI 44 3 (zcv g 10) (X_X10_freeWord g)) rfl rfl) (a_cI rfl (zck (zO_6 g) rfl))) (zbI_cg (fun x4 M4 => ?_))
        refine Eq.trans (Eq.trans (r_go (act := oS (fGo 49)) rfl rfl) (a_goto)) ?_
        refine Eq.trans (Eq.trans (r_go (act := oCV 52 4 (zcv g 3) (X_X3_put g)) rfl rfl) (a_cV rfl (zck (zO_40 g) rfl))) (zbV_cg (fun M5 => ?_))
        refine Eq.trans (Eq.trans (r_go (act := oS (fSt 53 (gC (.int 1)))) rfl rfl) (a_C)) ?_
        refine Eq.trans (Eq.trans (r_go (act := oS (fIst 54 2)) rfl rfl) (a_ist rfl rfl)) ?_
        refine Eq.trans (Eq.trans (r_go (act := oS (fGo 65)) rfl rfl) (a_goto)) ?_
        refine Eq.trans (Eq.trans (r_go (act := oS (fInc 68 3 1)) rfl rfl) (a_inc rfl rfl rfl)) ?_
        refine Eq.trans (Eq.trans (r_go (act := oS (fGo 4)) rfl rfl) (a_goto)) ?_
        exact r_cut rfl rfl
      · refine Eq.trans (Eq.trans (r_go (act := oS (fIld 49 4)) rfl rfl) (a_ild rfl)) ?_
        refine Eq.trans (Eq.trans (r_go (act := oCV 52 4 (zcv g 3) (X_X3_put g)) rfl rfl) (a_cV rfl (zck (zO_40 g) rfl))) (zbV_cg (fun M6 => ?_))
        refine Eq.trans (Eq.trans (r_go (act := oS (fSt 53 (gC (.int 1)))) rfl rfl) (a_C)) ?_
        refine Eq.trans (Eq.trans (r_go (act := oS (fIst 54 2)) rfl rfl) (a_ist rfl rfl)) ?_
        refine Eq.trans (Eq.trans (r_go (act := oS (fGo 65)) rfl rfl) (a_goto)) ?_
        refine Eq.trans (Eq.trans (r_go (act := oS (fInc 68 3 1)) rfl rfl) (a_inc rfl rfl rfl)) ?_
        refine Eq.trans (Eq.trans (r_go (act := oS (fGo 4)) rfl rfl) (a_goto)) ?_
        exact r_cut rfl rfl
  · refine Eq.trans (Eq.trans (r_go (act := oS (fIld 72 2)) rfl rfl) (a_ild rfl)) ?_
    exact Eq.trans (r_go (act := oZret) rfl rfl) (a_zret)
set_option maxRecDepth 20000 in
theorem e_X7_moveOn_0 (g : zg) (a1 : Int32) (M : zM) : zX (t_X7_moveOn g) 0 [some (.ref 17), some (.int a1), none, none] [] M = (bif cGt0 (M.1 17 2) then (bif !decide (M.1 17 2 = 0) then zX (t_X7_moveOn g) 18 [some (.ref 17), none, some (.int (a1 - a1 / (M.1 17 2) * (M.1 17 2))), some (.int 0)] [] M else none) else some (some (.int 0), M)) := by
  refine Eq.trans (zX_rgN (tl_X7_moveOn g) (hc_X7_moveOn g) 12 _ _ _ _) ?_
  refine Eq.trans (Eq.trans (r_0 (act := oS (fAld 1 0)) rfl) (a_ald rfl)) ?_
  refine Eq.trans (Eq.trans (r_go (act := oS (fGi g 4 7 2)) rfl rfl) (a_gi (zO_17 g))) ?_
  refine Eq.trans (Eq.trans (r_go (act := oS (fIf 9 7 cGt0)) rfl rfl) (a_if)) (bcg ?_ ?_)
  · refine Eq.trans (Eq.trans (r_go (act := oS (fIld 10 1)) rfl rfl) (a_ild rfl)) ?_
    refine Eq.trans (Eq.trans (r_go (act := oS (fAld 11 0)) rfl rfl) (a_ald rfl)) ?_
    refine Eq.trans (Eq.trans (r_go (act := oS (fGi g 14 7 2)) rfl rfl) (a_gi (zO_17 g))) ?_
    refine Eq.trans (Eq.trans (r_go (act := oS (fRem 15)) rfl rfl) (a_rem)) (bcg ?_ rfl)
    refine Eq.trans (Eq.trans (r_go (act := oS (fIst 16 2)) rfl rfl) (a_ist rfl rfl)) ?_
    refine Eq.trans (Eq.trans (r_go (act := oS (fSt 17 (gC (.int 0)))) rfl rfl) (a_C)) ?_
    refine Eq.trans (Eq.trans (r_go (act := oS (fIst 18 3)) rfl rfl) (a_ist rfl rfl)) ?_
    exact r_cut rfl rfl
  · refine Eq.trans (Eq.trans (r_go (act := oS (fSt 8 (gC (.int 0)))) rfl rfl) (a_C)) ?_
    exact Eq.trans (r_go (act := oIret) rfl rfl) (a_iret)
theorem x_X7_moveOn_0 (g : zg) (a1 : Int32) (M : zM) : X_X7_moveOn g [.ref 17, .int a1] M = (bif cGt0 (M.1 17 2) then (bif !decide (M.1 17 2 = 0) then zX (t_X7_moveOn g) 18 [some (.ref 17), none, some (.int (a1 - a1 / (M.1 17 2) * (M.1 17 2))), some (.int 0)] [] M else none) else some (some (.int 0), M)) := e_X7_moveOn_0 g a1 M
set_option maxRecDepth 20000 in
theorem e_X7_moveOn_18 (g : zg) (a2 : Int32) (a3 : Int32) (M : zM) : zX (t_X7_moveOn g) 18 [some (.ref 17), none, some (.int a2), some (.int a3)] [] M = (bif cLt a3 (M.1 17 3) then (bif zb a3 12 then (bif cLt a2 (M.1 18 (zx a3)) then (bif zb a3 12 then some (some (.int (M.1 19 (zx a3))), M) else none) else (bif zb a3 12 then zX (t_X7_moveOn g) 18 [some (.ref 17), none, some (.int (a2 - (M.1 18 (zx a3)))), some (.int (a3 + 1))] [] M else none)) else none) else some (some (.int 0), M)) := by
  refine Eq.trans (zX_rgN (tl_X7_moveOn g) (hc_X7_moveOn g) 21 _ _ _ _) ?_
  refine Eq.trans (Eq.trans (Eq.trans (r_0 (act := oF [1] (oS (fIld 19 3))) rfl) (a_F rfl)) (a_ild rfl)) ?_
  refine Eq.trans (Eq.trans (r_go (act := oS (fAld 20 0)) rfl rfl) (a_ald rfl)) ?_
  refine Eq.trans (Eq.trans (r_go (act := oS (fGi g 23 7 3)) rfl rfl) (a_gi (zO_17 g))) ?_
  refine Eq.trans (Eq.trans (r_go (act := oS (fCm 26 58 cLt)) rfl rfl) (a_cm)) (bcg ?_ ?_)
  · refine Eq.trans (Eq.trans (r_go (act := oS (fIld 27 2)) rfl rfl) (a_ild rfl)) ?_
    refine Eq.trans (Eq.trans (r_go (act := oS (fAld 28 0)) rfl rfl) (a_ald rfl)) ?_
    refine Eq.trans (Eq.trans (r_go (act := oS (fGr g 31 7 0)) rfl rfl) (a_gr (zO_17 g) (zR_17_0 g))) ?_
    refine Eq.trans (Eq.trans (r_go (act := oS (fIld 32 3)) rfl rfl) (a_ild rfl)) ?_
    refine Eq.trans (Eq.trans (r_go (act := oS (fIa g 33)) rfl rfl) (a_ia (zA_18 g) zS_18)) (bcg ?_ rfl)
    refine Eq.trans (Eq.trans (r_go (act := oS (fCm 36 43 cLt)) rfl rfl) (a_cm)) (bcg ?_ ?_)
    · refine Eq.trans (Eq.trans (r_go (act := oS (fAld 37 0)) rfl rfl) (a_ald rfl)) ?_
      refine Eq.trans (Eq.trans (r_go (act := oS (fGr g 40 7 1)) rfl rfl) (a_gr (zO_17 g) (zR_17_1 g))) ?_
      refine Eq.trans (Eq.trans (r_go (act := oS (fIld 41 3)) rfl rfl) (a_ild rfl)) ?_
      refine Eq.trans (Eq.trans (r_go (act := oS (fIa g 42)) rfl rfl) (a_ia (zA_19 g) zS_19)) (bcg ?_ rfl)
      exact Eq.trans (r_go (act := oIret) rfl rfl) (a_iret)
    · refine Eq.trans (Eq.trans (r_go (act := oS (fIld 44 2)) rfl rfl) (a_ild rfl)) ?_
      refine Eq.trans (Eq.trans (r_go (act := oS (fAld 45 0)) rfl rfl) (a_ald rfl)) ?_
      refine Eq.trans (Eq.trans (r_go (act := oS (fGr g 48 7 0)) rfl rfl) (a_gr (zO_17 g) (zR_17_0 g))) ?_
      refine Eq.trans (Eq.trans (r_go (act := oS (fIld 49 3)) rfl rfl) (a_ild rfl)) ?_
      refine Eq.trans (Eq.trans (r_go (act := oS (fIa g 50)) rfl rfl) (a_ia (zA_18 g) zS_18)) (bcg ?_ rfl)
      refine Eq.trans (Eq.trans (r_go (act := oS (fSt 51 (g2 (fun x y => x - y)))) rfl rfl) (a_sub)) ?_
      refine Eq.trans (Eq.trans (r_go (act := oS (fIst 52 2)) rfl rfl) (a_ist rfl rfl)) ?_
      refine Eq.trans (Eq.trans (r_go (act := oS (fInc 55 3 1)) rfl rfl) (a_inc rfl rfl rfl)) ?_
      refine Eq.trans (Eq.trans (r_go (act := oS (fGo 18)) rfl rfl) (a_goto)) ?_
      exact r_cut rfl rfl
  · refine Eq.trans (Eq.trans (r_go (act := oS (fSt 59 (gC (.int 0)))) rfl rfl) (a_C)) ?_
    exact Eq.trans (r_go (act := oIret) rfl rfl) (a_iret)
set_option maxRecDepth 20000 in
theorem e_X10_moveGlass_0 (g : zg) (M : zM) : zX (t_X10_moveGlass g) 0 [some (.ref 6), some (.ref 7), none] [] M = (zbI (X_X7_moveOn g [.ref 17, .int (M.1 7 10)] M) (fun x1 M1 => (bif cEq0 (M1.1 7 0) then (zbI (X_X11_hold g [.int ((M.1 7 4) + x1), .int 0, .int 99] M1) (fun x2 M2 => some (none, ((zu M2.1 7 4 x2), M2.2)))) else (bif cGt0 (M1.1 7 5) then (zbI (X_X3_draw g [.ref 7, .int 1000] M1) (fun x3 M3 => (bif cLt x3 (M3.1 7 5) then (zbI (X_X3_draw g [.ref 7, .int 21] M3) (fun x4 M4 => (zbI (X_X11_hold g [.int (((M.1 7 4) + x1) + (x4 - 10)), .int 0, .int 99] M4) (fun x5 M5 => some (none, ((zu M5.1 7 4 x5), M5.2)))))) else (zbI (X_X11_hold g [.int ((M.1 7 4) + x1), .int 0, .int 99] M3) (fun x6 M6 => some (none, ((zu M6.1 7 4 x6), M6.2))))))) else (zbI (X_X11_hold g [.int ((M.1 7 4) + x1), .int 0, .int 99] M1) (fun x7 M7 => some (none, ((zu M7.1 7 4 x7), M7.2)))))))) := by
  refine Eq.trans (zX_rgN (tl_X10_moveGlass g) (hc_X10_moveGlass g) 37 _ _ _ _) ?_
  refine Eq.trans (Eq.trans (r_0 (act := oS (fAld 1 1)) rfl) (a_ald rfl)) ?_
  refine Eq.trans (Eq.trans (r_go (act := oS (fGi g 4 3 4)) rfl rfl) (a_gi (zO_7 g))) ?_
  refine Eq.trans (Eq.trans (r_go (act := oS (fAld 5 0)) rfl rfl) (a_ald rfl)) ?_
  refine Eq.trans (Eq.trans (r_go (act := oS (fGr g 8 10 2)) rfl rfl) (a_gr (zO_6 g) (zR_6_2 g))) ?_
  refine Eq.trans (Eq.trans (r_go (act := oS (fAld 9 1)) rfl rfl) (a_ald rfl)) ?_
  refine Eq.trans (Eq.trans (r_go (act := oS (fGi g 12 3 10)) rfl rfl) (a_gi (zO_7 g))) ?_
  refine Eq.trans (Eq.trans (r_go (act := oCI 15 2 (zcv g 7) (X_X7_moveOn g)) rfl rfl) (a_cI rfl (zck (zO_17 g) rfl))) (zbI_cg (fun x1 M1 => ?_))
  refine Eq.trans (Eq.trans (r_go (act := oS (fSt 16 (g2 (fun x y => x + y)))) rfl rfl) (a_add)) ?_
  refine Eq.trans (Eq.trans (r_go (act := oS (fIst 17 2)) rfl rfl) (a_ist rfl rfl)) ?_
  refine Eq.trans (Eq.trans (r_go (act := oS (fAld 18 1)) rfl rfl) (a_ald rfl)) ?_
  refine Eq.trans (Eq.trans (r_go (act := oS (fGi g 21 3 0)) rfl rfl) (a_gi (zO_7 g))) ?_
  refine Eq.trans (Eq.trans (r_go (act := oS (fIf 57 24 cEq0)) rfl rfl) (a_if)) (bcg ?_ ?_)
  · refine Eq.trans (Eq.trans (r_go (act := oS (fAld 58 1)) rfl rfl) (a_ald rfl)) ?_
    refine Eq.trans (Eq.trans (r_go (act := oS (fIld 59 2)) rfl rfl) (a_ild rfl)) ?_
    refine Eq.trans (Eq.trans (r_go (act := oS (fSt 60 (gC (.int 0)))) rfl rfl) (a_C)) ?_
    refine Eq.trans (Eq.trans (r_go (act := oS (fSt 62 (gC (.int 99)))) rfl rfl) (a_C)) ?_
    refine Eq.trans (Eq.trans (r_go (act := oCI 65 3 zcs (X_X11_hold g)) rfl rfl) (a_cI rfl rfl)) (zbI_cg (fun x2 M2 => ?_))
    refine Eq.trans (Eq.trans (r_go (act := oS (fPi g 68 3 4)) rfl rfl) (a_pi (zO_7 g))) ?_
    exact Eq.trans (r_go (act := oVret) rfl rfl) (a_vret)
  · refine Eq.trans (Eq.trans (r_go (act := oS (fAld 25 1)) rfl rfl) (a_ald rfl)) ?_
    refine Eq.trans (Eq.trans (r_go (act := oS (fGi g 28 3 5)) rfl rfl) (a_gi (zO_7 g))) ?_
    refine Eq.trans (Eq.trans (r_go (act := oS (fIf 31 57 cGt0)) rfl rfl) (a_if)) (bcg ?_ ?_)
    · refine Eq.trans (Eq.trans (r_go (act := oS (fAld 32 1)) rfl rfl) (a_ald rfl)) ?_
      refine Eq.trans (Eq.trans (r_go (act := oS (fSt 35 (gC (.int 1000)))) rfl rfl) (a_C)) ?_
      refine Eq.trans (Eq.trans (r_go (act := oCI 38 2 (zcv g 3) (X_X3_draw g)) rfl rfl) (a_cI rfl (zck (zO_7 g) rfl))) (zbI_cg (fun x3 M3 => ?_))
      refine Eq.trans (Eq.trans (r_go (act := oS (fAld 39 1)) rfl rfl) (a_ald rfl)) ?_
      refine Eq.trans (Eq.trans (r_go (act := oS (fGi g 42 3 5)) rfl rfl) (a_gi (zO_7 g))) ?_
      refine Eq.trans (Eq.trans (r_go (act := oS (fCm 45 57 cLt)) rfl rfl) (a_cm)) (bcg ?_ ?_)
      · refine Eq.trans (Eq.trans (r_go (act := oS (fIld 46 2)) rfl rfl) (a_ild rfl)) ?_
        refine Eq.trans (Eq.trans (r_go (act := oS (fAld 47 1)) rfl rfl) (a_ald rfl)) ?_
        refine Eq.trans (Eq.trans (r_go (act := oS (fSt 49 (gC (.int 21)))) rfl rfl) (a_C)) ?_
        refine Eq.trans (Eq.trans (r_go (act := oCI 52 2 (zcv g 3) (X_X3_draw g)) rfl rfl) (a_cI rfl (zck (zO_7 g) rfl))) (zbI_cg (fun x4 M4 => ?_))
        refine Eq.trans (Eq.trans (r_go (act := oS (fSt 54 (gC (.int 10)))) rfl rfl) (a_C)) ?_
        refine Eq.trans (Eq.trans (r_go (act := oS (fSt 55 (g2 (fun x y => x - y)))) rfl rfl) (a_sub)) ?_
        refine Eq.trans (Eq.trans (r_go (act := oS (fSt 56 (g2 (fun x y => x + y)))) rfl rfl) (a_add)) ?_
        refine Eq.trans (Eq.trans (r_go (act := oS (fIst 57 2)) rfl rfl) (a_ist rfl rfl)) ?_
        refine Eq.trans (Eq.trans (r_go (act := oS (fAld 58 1)) rfl rfl) (a_ald rfl)) ?_
        refine Eq.trans (Eq.trans (r_go (act := oS (fIld 59 2)) rfl rfl) (a_ild rfl)) ?_
        refine Eq.trans (Eq.trans (r_go (act := oS (fSt 60 (gC (.int 0)))) rfl rfl) (a_C)) ?_
        refine Eq.trans (Eq.trans (r_go (act := oS (fSt 62 (gC (.int 99)))) rfl rfl) (a_C)) ?_
        refine Eq.trans (Eq.trans (r_go (act := oCI 65 3 zcs (X_X11_hold g)) rfl rfl) (a_cI rfl rfl)) (zbI_cg (fun x5 M5 => ?_))
        refine Eq.trans (Eq.trans (r_go (act := oS (fPi g 68 3 4)) rfl rfl) (a_pi (zO_7 g))) ?_
        exact Eq.trans (r_go (act := oVret) rfl rfl) (a_vret)
      · refine Eq.trans (Eq.trans (r_go (act := oS (fAld 58 1)) rfl rfl) (a_ald rfl)) ?_
        refine Eq.trans (Eq.trans (r_go (act := oS (fIld 59 2)) rfl rfl) (a_ild rfl)) ?_
        refine Eq.trans (Eq.trans (r_go (act := oS (fSt 60 (gC (.int 0)))) rfl rfl) (a_C)) ?_
        refine Eq.trans (Eq.trans (r_go (act := oS (fSt 62 (gC (.int 99)))) rfl rfl) (a_C)) ?_
        refine Eq.trans (Eq.trans (r_go (act := oCI 65 3 zcs (X_X11_hold g)) rfl rfl) (a_cI rfl rfl)) (zbI_cg (fun x6 M6 => ?_))
        refine Eq.trans (Eq.trans (r_go (act := oS (fPi g 68 3 4)) rfl rfl) (a_pi (zO_7 g))) ?_
        exact Eq.trans (r_go (act := oVret) rfl rfl) (a_vret)
    · refine Eq.trans (Eq.trans (r_go (act := oS (fAld 58 1)) rfl rfl) (a_ald rfl)) ?_
      refine Eq.trans (Eq.trans (r_go (act := oS (fIld 59 2)) rfl rfl) (a_ild rfl)) ?_
      refine Eq.trans (Eq.trans (r_go (act := oS (fSt 60 (gC (.int 0)))) rfl rfl) (a_C)) ?_
      refine Eq.trans (Eq.trans (r_go (act := oS (fSt 62 (gC (.int 99)))) rfl rfl) (a_C)) ?_
      refine Eq.trans (Eq.trans (r_go (act := oCI 65 3 zcs (X_X11_hold g)) rfl rfl) (a_cI rfl rfl)) (zbI_cg (fun x7 M7 => ?_))
      refine Eq.trans (Eq.trans (r_go (act := oS (fPi g 68 3 4)) rfl rfl) (a_pi (zO_7 g))) ?_
      exact Eq.trans (r_go (act := oVret) rfl rfl) (a_vret)
theorem x_X10_moveGlass_0 (g : zg) (M : zM) : X_X10_moveGlass g [.ref 6, .ref 7] M = (zbI (X_X7_moveOn g [.ref 17, .int (M.1 7 10)] M) (fun x1 M1 => (bif cEq0 (M1.1 7 0) then (zbI (X_X11_hold g [.int ((M.1 7 4) + x1), .int 0, .int 99] M1) (fun x2 M2 => some (none, ((zu M2.1 7 4 x2), M2.2)))) else (bif cGt0 (M1.1 7 5) then (zbI (X_X3_draw g [.ref 7, .int 1000] M1) (fun x3 M3 => (bif cLt x3 (M3.1 7 5) then (zbI (X_X3_draw g [.ref 7, .int 21] M3) (fun x4 M4 => (zbI (X_X11_hold g [.int (((M.1 7 4) + x1) + (x4 - 10)), .int 0, .int 99] M4) (fun x5 M5 => some (none, ((zu M5.1 7 4 x5), M5.2)))))) else (zbI (X_X11_hold g [.int ((M.1 7 4) + x1), .int 0, .int 99] M3) (fun x6 M6 => some (none, ((zu M6.1 7 4 x6), M6.2))))))) else (zbI (X_X11_hold g [.int ((M.1 7 4) + x1), .int 0, .int 99] M1) (fun x7 M7 => some (none, ((zu M7.1 7 4 x7), M7.2)))))))) := e_X10_moveGlass_0 g M
set_option maxRecDepth 20000 in
theorem e_X10_moveGlass_0_1 (g : zg) (M : zM) : zX (t_X10_moveGlass g) 0 [some (.ref 6), some (.ref 40), none] [] M = (zbI (X_X7_moveOn g [.ref 17, .int (M.1 40 10)] M) (fun x1 M1 => (bif cEq0 (M1.1 40 0) then (zbI (X_X11_hold g [.int ((M.1 40 4) + x1), .int 0, .int 99] M1) (fun x2 M2 => some (none, ((zu M2.1 40 4 x2), M2.2)))) else (bif cGt0 (M1.1 40 5) then (zbI (X_X3_draw g [.ref 40, .int 1000] M1) (fun x3 M3 => (bif cLt x3 (M3.1 40 5) then (zbI (X_X3_draw g [.ref 40, .int 21] M3) (fun x4 M4 => (zbI (X_X11_hold g [.int (((M.1 40 4) + x1) + (x4 - 10)), .int 0, .int 99] M4) (fun x5 M5 => some (none, ((zu M5.1 40 4 x5), M5.2)))))) else (zbI (X_X11_hold g [.int ((M.1 40 4) + x1), .int 0, .int 99] M3) (fun x6 M6 => some (none, ((zu M6.1 40 4 x6), M6.2))))))) else (zbI (X_X11_hold g [.int ((M.1 40 4) + x1), .int 0, .int 99] M1) (fun x7 M7 => some (none, ((zu M7.1 40 4 x7), M7.2)))))))) := by
  refine Eq.trans (zX_rgN (tl_X10_moveGlass g) (hc_X10_moveGlass g) 37 _ _ _ _) ?_
  refine Eq.trans (Eq.trans (r_0 (act := oS (fAld 1 1)) rfl) (a_ald rfl)) ?_
  refine Eq.trans (Eq.trans (r_go (act := oS (fGi g 4 3 4)) rfl rfl) (a_gi (zO_40 g))) ?_
  refine Eq.trans (Eq.trans (r_go (act := oS (fAld 5 0)) rfl rfl) (a_ald rfl)) ?_
  refine Eq.trans (Eq.trans (r_go (act := oS (fGr g 8 10 2)) rfl rfl) (a_gr (zO_6 g) (zR_6_2 g))) ?_
  refine Eq.trans (Eq.trans (r_go (act := oS (fAld 9 1)) rfl rfl) (a_ald rfl)) ?_
  refine Eq.trans (Eq.trans (r_go (act := oS (fGi g 12 3 10)) rfl rfl) (a_gi (zO_40 g))) ?_
  refine Eq.trans (Eq.trans (r_go (act := oCI 15 2 (zcv g 7) (X_X7_moveOn g)) rfl rfl) (a_cI rfl (zck (zO_17 g) rfl))) (zbI_cg (fun x1 M1 => ?_))
  refine Eq.trans (Eq.trans (r_go (act := oS (fSt 16 (g2 (fun x y => x + y)))) rfl rfl) (a_add)) ?_
  refine Eq.trans (Eq.trans (r_go (act := oS (fIst 17 2)) rfl rfl) (a_ist rfl rfl)) ?_
  refine Eq.trans (Eq.trans (r_go (act := oS (fAld 18 1)) rfl rfl) (a_ald rfl)) ?_
  refine Eq.trans (Eq.trans (r_go (act := oS (fGi g 21 3 0)) rfl rfl) (a_gi (zO_40 g))) ?_
  refine Eq.trans (Eq.trans (r_go (act := oS (fIf 57 24 cEq0)) rfl rfl) (a_if)) (bcg ?_ ?_)
  · refine Eq.trans (Eq.trans (r_go (act := oS (fAld 58 1)) rfl rfl) (a_ald rfl)) ?_
    refine Eq.trans (Eq.trans (r_go (act := oS (fIld 59 2)) rfl rfl) (a_ild rfl)) ?_
    refine Eq.trans (Eq.trans (r_go (act := oS (fSt 60 (gC (.int 0)))) rfl rfl) (a_C)) ?_
    refine Eq.trans (Eq.trans (r_go (act := oS (fSt 62 (gC (.int 99)))) rfl rfl) (a_C)) ?_
    refine Eq.trans (Eq.trans (r_go (act := oCI 65 3 zcs (X_X11_hold g)) rfl rfl) (a_cI rfl rfl)) (zbI_cg (fun x2 M2 => ?_))
    refine Eq.trans (Eq.trans (r_go (act := oS (fPi g 68 3 4)) rfl rfl) (a_pi (zO_40 g))) ?_
    exact Eq.trans (r_go (act := oVret) rfl rfl) (a_vret)
  · refine Eq.trans (Eq.trans (r_go (act := oS (fAld 25 1)) rfl rfl) (a_ald rfl)) ?_
    refine Eq.trans (Eq.trans (r_go (act := oS (fGi g 28 3 5)) rfl rfl) (a_gi (zO_40 g))) ?_
    refine Eq.trans (Eq.trans (r_go (act := oS (fIf 31 57 cGt0)) rfl rfl) (a_if)) (bcg ?_ ?_)
    · refine Eq.trans (Eq.trans (r_go (act := oS (fAld 32 1)) rfl rfl) (a_ald rfl)) ?_
      refine Eq.trans (Eq.trans (r_go (act := oS (fSt 35 (gC (.int 1000)))) rfl rfl) (a_C)) ?_
      refine Eq.trans (Eq.trans (r_go (act := oCI 38 2 (zcv g 3) (X_X3_draw g)) rfl rfl) (a_cI rfl (zck (zO_40 g) rfl))) (zbI_cg (fun x3 M3 => ?_))
      refine Eq.trans (Eq.trans (r_go (act := oS (fAld 39 1)) rfl rfl) (a_ald rfl)) ?_
      refine Eq.trans (Eq.trans (r_go (act := oS (fGi g 42 3 5)) rfl rfl) (a_gi (zO_40 g))) ?_
      refine Eq.trans (Eq.trans (r_go (act := oS (fCm 45 57 cLt)) rfl rfl) (a_cm)) (bcg ?_ ?_)
      · refine Eq.trans (Eq.trans (r_go (act := oS (fIld 46 2)) rfl rfl) (a_ild rfl)) ?_
        refine Eq.trans (Eq.trans (r_go (act := oS (fAld 47 1)) rfl rfl) (a_ald rfl)) ?_
        refine Eq.trans (Eq.trans (r_go (act := oS (fSt 49 (gC (.int 21)))) rfl rfl) (a_C)) ?_
        refine Eq.trans (Eq.trans (r_go (act := oCI 52 2 (zcv g 3) (X_X3_draw g)) rfl rfl) (a_cI rfl (zck (zO_40 g) rfl))) (zbI_cg (fun x4 M4 => ?_))
        refine Eq.trans (Eq.trans (r_go (act := oS (fSt 54 (gC (.int 10)))) rfl rfl) (a_C)) ?_
        refine Eq.trans (Eq.trans (r_go (act := oS (fSt 55 (g2 (fun x y => x - y)))) rfl rfl) (a_sub)) ?_
        refine Eq.trans (Eq.trans (r_go (act := oS (fSt 56 (g2 (fun x y => x + y)))) rfl rfl) (a_add)) ?_
        refine Eq.trans (Eq.trans (r_go (act := oS (fIst 57 2)) rfl rfl) (a_ist rfl rfl)) ?_
        refine Eq.trans (Eq.trans (r_go (act := oS (fAld 58 1)) rfl rfl) (a_ald rfl)) ?_
        refine Eq.trans (Eq.trans (r_go (act := oS (fIld 59 2)) rfl rfl) (a_ild rfl)) ?_
        refine Eq.trans (Eq.trans (r_go (act := oS (fSt 60 (gC (.int 0)))) rfl rfl) (a_C)) ?_
        refine Eq.trans (Eq.trans (r_go (act := oS (fSt 62 (gC (.int 99)))) rfl rfl) (a_C)) ?_
        refine Eq.trans (Eq.trans (r_go (act := oCI 65 3 zcs (X_X11_hold g)) rfl rfl) (a_cI rfl rfl)) (zbI_cg (fun x5 M5 => ?_))
        refine Eq.trans (Eq.trans (r_go (act := oS (fPi g 68 3 4)) rfl rfl) (a_pi (zO_40 g))) ?_
        exact Eq.trans (r_go (act := oVret) rfl rfl) (a_vret)
      · refine Eq.trans (Eq.trans (r_go (act := oS (fAld 58 1)) rfl rfl) (a_ald rfl)) ?_
        refine Eq.trans (Eq.trans (r_go (act := oS (fIld 59 2)) rfl rfl) (a_ild rfl)) ?_
        refine Eq.trans (Eq.trans (r_go (act := oS (fSt 60 (gC (.int 0)))) rfl rfl) (a_C)) ?_
        refine Eq.trans (Eq.trans (r_go (act := oS (fSt 62 (gC (.int 99)))) rfl rfl) (a_C)) ?_
        refine Eq.trans (Eq.trans (r_go (act := oCI 65 3 zcs (X_X11_hold g)) rfl rfl) (a_cI rfl rfl)) (zbI_cg (fun x6 M6 => ?_))
        refine Eq.trans (Eq.trans (r_go (act := oS (fPi g 68 3 4)) rfl rfl) (a_pi (zO_40 g))) ?_
        exact Eq.trans (r_go (act := oVret) rfl rfl) (a_vret)
    · refine Eq.trans (Eq.trans (r_go (act := oS (fAld 58 1)) rfl rfl) (a_ald rfl)) ?_
      refine Eq.trans (Eq.trans (r_go (act := oS (fIld 59 2)) rfl rfl) (a_ild rfl)) ?_
      refine Eq.trans (Eq.trans (r_go (act := oS (fSt 60 (gC (.int 0)))) rfl rfl) (a_C)) ?_
      refine Eq.trans (Eq.trans (r_go (act := oS (fSt 62 (gC (.int 99)))) rfl rfl) (a_C)) ?_
      refine Eq.trans (Eq.trans (r_go (act := oCI 65 3 zcs (X_X11_hold g)) rfl rfl) (a_cI rfl rfl)) (zbI_cg (fun x7 M7 => ?_))
      refine Eq.trans (Eq.trans (r_go (act := oS (fPi g 68 3 4)) rfl rfl) (a_pi (zO_40 g))) ?_
      exact Eq.trans (r_go (act := oVret) rfl rfl) (a_vret)
theorem x_X10_moveGlass_0_1 (g : zg) (M : zM) : X_X10_moveGlass g [.ref 6, .ref 40] M = (zbI (X_X7_moveOn g [.ref 17, .int (M.1 40 10)] M) (fun x1 M1 => (bif cEq0 (M1.1 40 0) then (zbI (X_X11_hold g [.int ((M.1 40 4) + x1), .int 0, .int 99] M1) (fun x2 M2 => some (none, ((zu M2.1 40 4 x2), M2.2)))) else (bif cGt0 (M1.1 40 5) then (zbI (X_X3_draw g [.ref 40, .int 1000] M1) (fun x3 M3 => (bif cLt x3 (M3.1 40 5) then (zbI (X_X3_draw g [.ref 40, .int 21] M3) (fun x4 M4 => (zbI (X_X11_hold g [.int (((M.1 40 4) + x1) + (x4 - 10)), .int 0, .int 99] M4) (fun x5 M5 => some (none, ((zu M5.1 40 4 x5), M5.2)))))) else (zbI (X_X11_hold g [.int ((M.1 40 4) + x1), .int 0, .int 99] M3) (fun x6 M6 => some (none, ((zu M6.1 40 4 x6), M6.2))))))) else (zbI (X_X11_hold g [.int ((M.1 40 4) + x1), .int 0, .int 99] M1) (fun x7 M7 => some (none, ((zu M7.1 40 4 x7), M7.2)))))))) := e_X10_moveGlass_0_1 g M
set_option maxRecDepth 20000 in
theorem e_J9_floorMod_7cf53_0 (g : zg) (a0 : Int32) (a1 : Int32) (M : zM) : zX (t_J9_floorMod_7cf53 g) 0 [some (.int a0), some (.int a1), none] [] M = (bif !decide (a1 = 0) then (bif cLt0 (a0 ^^^ a1) then (bif cEq0 (a0 - a0 / a1 * a1) then some (some (.int (a0 - a0 / a1 * a1)), M) else some (some (.int ((a0 - a0 / a1 * a1) + a1)), M)) else some (some (.int (a0 - a0 / a1 * a1)), M)) else none) := by
  refine Eq.trans (zX_rgN (tl_J9_floorMod_7cf53 g) (hc_J9_floorMod_7cf53 g) 15 _ _ _ _) ?_
  refine Eq.trans (Eq.trans (r_0 (act := oS (fIld 1 0)) rfl) (a_ild rfl)) ?_
  refine Eq.trans (Eq.trans (r_go (act := oS (fIld 2 1)) rfl rfl) (a_ild rfl)) ?_
  refine Eq.trans (Eq.trans (r_go (act := oS (fRem 3)) rfl rfl) (a_rem)) (bcg ?_ rfl)
  refine Eq.trans (Eq.trans (r_go (act := oS (fIst 4 2)) rfl rfl) (a_ist rfl rfl)) ?_
  refine Eq.trans (Eq.trans (r_go (act := oS (fIld 5 0)) rfl rfl) (a_ild rfl)) ?_
  refine Eq.trans (Eq.trans (r_go (act := oS (fIld 6 1)) rfl rfl) (a_ild rfl)) ?_
  refine Eq.trans (Eq.trans (r_go (act := oS (fSt 7 (g2 (fun x y => x ^^^ y)))) rfl rfl) (a_xor)) ?_
  refine Eq.trans (Eq.trans (r_go (act := oS (fIf 10 18 cLt0)) rfl rfl) (a_if)) (bcg ?_ ?_)
  · refine Eq.trans (Eq.trans (r_go (act := oS (fIld 11 2)) rfl rfl) (a_ild rfl)) ?_
    refine Eq.trans (Eq.trans (r_go (act := oS (fIf 18 14 cEq0)) rfl rfl) (a_if)) (bcg ?_ ?_)
    · refine Eq.trans (Eq.trans (r_go (act := oS (fIld 19 2)) rfl rfl) (a_ild rfl)) ?_
      exact Eq.trans (r_go (act := oIret) rfl rfl) (a_iret)
    · refine Eq.trans (Eq.trans (r_go (act := oS (fIld 15 2)) rfl rfl) (a_ild rfl)) ?_
      refine Eq.trans (Eq.trans (r_go (act := oS (fIld 16 1)) rfl rfl) (a_ild rfl)) ?_
      refine Eq.trans (Eq.trans (r_go (act := oS (fSt 17 (g2 (fun x y => x + y)))) rfl rfl) (a_add)) ?_
      exact Eq.trans (r_go (act := oIret) rfl rfl) (a_iret)
  · refine Eq.trans (Eq.trans (r_go (act := oS (fIld 19 2)) rfl rfl) (a_ild rfl)) ?_
    exact Eq.trans (r_go (act := oIret) rfl rfl) (a_iret)
theorem x_J9_floorMod_7cf53_0 (g : zg) (a0 : Int32) (a1 : Int32) (M : zM) : X_J9_floorMod_7cf53 g [.int a0, .int a1] M = (bif !decide (a1 = 0) then (bif cLt0 (a0 ^^^ a1) then (bif cEq0 (a0 - a0 / a1 * a1) then some (some (.int (a0 - a0 / a1 * a1)), M) else some (some (.int ((a0 - a0 / a1 * a1) + a1)), M)) else some (some (.int (a0 - a0 / a1 * a1)), M)) else none) := e_J9_floorMod_7cf53_0 g a0 a1 M
set_option maxRecDepth 20000 in
theorem e_X5_add_0 (g : zg) (M : zM) : zX (t_X5_add g) 0 [some (.ref 27), some (.ref 7), none, none] [] M = (zbI (X_J9_floorMod_7cf53 g [.int (M.1 7 12), .int 96] M) (fun x1 M1 => (zbI (X_X3_kind g [.ref 7] M1) (fun x2 M2 => (bif zb x1 96 then zX (t_X5_add g) 22 [some (.ref 27), some (.ref 7), some (.int x1), some (.int 0)] [] ((zu M2.1 28 (zx x1) x2), M2.2) else none))))) := by
  refine Eq.trans (zX_rgN (tl_X5_add g) (hc_X5_add g) 15 _ _ _ _) ?_
  refine Eq.trans (Eq.trans (r_0 (act := oS (fAld 1 1)) rfl) (a_ald rfl)) ?_
  refine Eq.trans (Eq.trans (r_go (act := oS (fGi g 4 3 12)) rfl rfl) (a_gi (zO_7 g))) ?_
  refine Eq.trans (Eq.trans (r_go (act := oS (fSt 6 (gC (.int 96)))) rfl rfl) (a_C)) ?_
  refine Eq.trans (Eq.trans (r_go (act := oCI 9 2 zcs (X_J9_floorMod_7cf53 g)) rfl rfl) (a_cI rfl rfl)) (zbI_cg (fun x1 M1 => ?_))
  refine Eq.trans (Eq.trans (r_go (act := oS (fIst 10 2)) rfl rfl) (a_ist rfl rfl)) ?_
  refine Eq.trans (Eq.trans (r_go (act := oS (fAld 11 0)) rfl rfl) (a_ald rfl)) ?_
  refine Eq.trans (Eq.trans (r_go (act := oS (fGr g 14 5 0)) rfl rfl) (a_gr (zO_27 g) (zR_27_0 g))) ?_
  refine Eq.trans (Eq.trans (r_go (act := oS (fIld 15 2)) rfl rfl) (a_ild rfl)) ?_
  refine Eq.trans (Eq.trans (r_go (act := oS (fAld 16 1)) rfl rfl) (a_ald rfl)) ?_
  refine Eq.trans (Eq.trans (r_go (act := oCI 19 1 (zcv g 3) (X_X3_kind g)) rfl rfl) (a_cI rfl (zck (zO_7 g) rfl))) (zbI_cg (fun x2 M2 => ?_))
  refine Eq.trans (Eq.trans (r_go (act := oS (fIs g 20)) rfl rfl) (a_is (zA_28 g) zS_28)) (bcg ?_ rfl)
  refine Eq.trans (Eq.trans (r_go (act := oS (fSt 21 (gC (.int 0)))) rfl rfl) (a_C)) ?_
  refine Eq.trans (Eq.trans (r_go (act := oS (fIst 22 3)) rfl rfl) (a_ist rfl rfl)) ?_
  exact r_cut rfl rfl
theorem x_X5_add_0 (g : zg) (M : zM) : X_X5_add g [.ref 27, .ref 7] M = (zbI (X_J9_floorMod_7cf53 g [.int (M.1 7 12), .int 96] M) (fun x1 M1 => (zbI (X_X3_kind g [.ref 7] M1) (fun x2 M2 => (bif zb x1 96 then zX (t_X5_add g) 22 [some (.ref 27), some (.ref 7), some (.int x1), some (.int 0)] [] ((zu M2.1 28 (zx x1) x2), M2.2) else none))))) := e_X5_add_0 g M
set_option maxRecDepth 20000 in
theorem e_X5_add_0_1 (g : zg) (M : zM) : zX (t_X5_add g) 0 [some (.ref 27), some (.ref 40), none, none] [] M = (zbI (X_J9_floorMod_7cf53 g [.int (M.1 40 12), .int 96] M) (fun x1 M1 => (zbI (X_X3_kind g [.ref 40] M1) (fun x2 M2 => (bif zb x1 96 then zX (t_X5_add g) 22 [some (.ref 27), some (.ref 40), some (.int x1), some (.int 0)] [] ((zu M2.1 28 (zx x1) x2), M2.2) else none))))) := by
  refine Eq.trans (zX_rgN (tl_X5_add g) (hc_X5_add g) 15 _ _ _ _) ?_
  refine Eq.trans (Eq.trans (r_0 (act := oS (fAld 1 1)) rfl) (a_ald rfl)) ?_
  refine Eq.trans (Eq.trans (r_go (act := oS (fGi g 4 3 12)) rfl rfl) (a_gi (zO_40 g))) ?_
  refine Eq.trans (Eq.trans (r_go (act := oS (fSt 6 (gC (.int 96)))) rfl rfl) (a_C)) ?_
  refine Eq.trans (Eq.trans (r_go (act := oCI 9 2 zcs (X_J9_floorMod_7cf53 g)) rfl rfl) (a_cI rfl rfl)) (zbI_cg (fun x1 M1 => ?_))
  refine Eq.trans (Eq.trans (r_go (act := oS (fIst 10 2)) rfl rfl) (a_ist rfl rfl)) ?_
  refine Eq.trans (Eq.trans (r_go (act := oS (fAld 11 0)) rfl rfl) (a_ald rfl)) ?_
  refine Eq.trans (Eq.trans (r_go (act := oS (fGr g 14 5 0)) rfl rfl) (a_gr (zO_27 g) (zR_27_0 g))) ?_
  refine Eq.trans (Eq.trans (r_go (act := oS (fIld 15 2)) rfl rfl) (a_ild rfl)) ?_
  refine Eq.trans (Eq.trans (r_go (act := oS (fAld 16 1)) rfl rfl) (a_ald rfl)) ?_
  refine Eq.trans (Eq.trans (r_go (act := oCI 19 1 (zcv g 3) (X_X3_kind g)) rfl rfl) (a_cI rfl (zck (zO_40 g) rfl))) (zbI_cg (fun x2 M2 => ?_))
  refine Eq.trans (Eq.trans (r_go (act := oS (fIs g 20)) rfl rfl) (a_is (zA_28 g) zS_28)) (bcg ?_ rfl)
  refine Eq.trans (Eq.trans (r_go (act := oS (fSt 21 (gC (.int 0)))) rfl rfl) (a_C)) ?_
  refine Eq.trans (Eq.trans (r_go (act := oS (fIst 22 3)) rfl rfl) (a_ist rfl rfl)) ?_
  exact r_cut rfl rfl
theorem x_X5_add_0_1 (g : zg) (M : zM) : X_X5_add g [.ref 27, .ref 40] M = (zbI (X_J9_floorMod_7cf53 g [.int (M.1 40 12), .int 96] M) (fun x1 M1 => (zbI (X_X3_kind g [.ref 40] M1) (fun x2 M2 => (bif zb x1 96 then zX (t_X5_add g) 22 [some (.ref 27), some (.ref 40), some (.int x1), some (.int 0)] [] ((zu M2.1 28 (zx x1) x2), M2.2) else none))))) := e_X5_add_0_1 g M
set_option maxRecDepth 20000 in
theorem e_X5_add_22 (g : zg) (a2 : Int32) (a3 : Int32) (M : zM) : zX (t_X5_add g) 22 [some (.ref 27), some (.ref 7), some (.int a2), some (.int a3)] [] M = (bif cLt a3 10 then (zbI (X_X3_get g [.ref 7, .int a3, .int 6] M) (fun x1 M1 => (bif zb ((a2 * 10) + a3) 960 then zX (t_X5_add g) 22 [some (.ref 27), some (.ref 7), some (.int a2), some (.int (a3 + 1))] [] ((zu M1.1 29 (zx ((a2 * 10) + a3)) x1), M1.2) else none))) else some (none, ((zu M.1 7 12 ((M.1 7 12) + 1)), M.2))) := by
  refine Eq.trans (zX_rgN (tl_X5_add g) (hc_X5_add g) 19 _ _ _ _) ?_
  refine Eq.trans (Eq.trans (Eq.trans (r_0 (act := oF [] (oS (fIld 23 3))) rfl) (a_F rfl)) (a_ild rfl)) ?_
  refine Eq.trans (Eq.trans (r_go (act := oS (fSt 25 (gC (.int 10)))) rfl rfl) (a_C)) ?_
  refine Eq.trans (Eq.trans (r_go (act := oS (fCm 28 52 cLt)) rfl rfl) (a_cm)) (bcg ?_ ?_)
  · refine Eq.trans (Eq.trans (r_go (act := oS (fAld 29 0)) rfl rfl) (a_ald rfl)) ?_
    refine Eq.trans (Eq.trans (r_go (act := oS (fGr g 32 5 1)) rfl rfl) (a_gr (zO_27 g) (zR_27_1 g))) ?_
    refine Eq.trans (Eq.trans (r_go (act := oS (fIld 33 2)) rfl rfl) (a_ild rfl)) ?_
    refine Eq.trans (Eq.trans (r_go (act := oS (fSt 35 (gC (.int 10)))) rfl rfl) (a_C)) ?_
    refine Eq.trans (Eq.trans (r_go (act := oS (fSt 36 (g2 (fun x y => x * y)))) rfl rfl) (a_mul)) ?_
    refine Eq.trans (Eq.trans (r_go (act := oS (fIld 37 3)) rfl rfl) (a_ild rfl)) ?_
    refine Eq.trans (Eq.trans (r_go (act := oS (fSt 38 (g2 (fun x y => x + y)))) rfl rfl) (a_add)) ?_
    refine Eq.trans (Eq.trans (r_go (act := oS (fAld 39 1)) rfl rfl) (a_ald rfl)) ?_
    refine Eq.trans (Eq.trans (r_go (act := oS (fIld 40 3)) rfl rfl) (a_ild rfl)) ?_
    refine Eq.trans (Eq.trans (r_go (act := oS (fSt 42 (gC (.int 6)))) rfl rfl) (a_C)) ?_
    refine Eq.trans (Eq.trans (r_go (act := oCI 45 3 (zcv g 3) (X_X3_get g)) rfl rfl) (a_cI rfl (zck (zO_7 g) rfl))) (zbI_cg (fun x1 M1 => ?_))
    refine Eq.trans (Eq.trans (r_go (act := oS (fIs g 46)) rfl rfl) (a_is (zA_29 g) zS_29)) (bcg ?_ rfl)
    refine Eq.trans (Eq.trans (r_go (act := oS (fInc 49 3 1)) rfl rfl) (a_inc rfl rfl rfl)) ?_
    refine Eq.trans (Eq.trans (r_go (act := oS (fGo 22)) rfl rfl) (a_goto)) ?_
    exact r_cut rfl rfl
  · refine Eq.trans (Eq.trans (r_go (act := oS (fAld 53 1)) rfl rfl) (a_ald rfl)) ?_
    refine Eq.trans (Eq.trans (r_go (act := oS (fSt 54 gDup)) rfl rfl) (a_dupR)) ?_
    refine Eq.trans (Eq.trans (r_go (act := oS (fGi g 57 3 12)) rfl rfl) (a_gi (zO_7 g))) ?_
    refine Eq.trans (Eq.trans (r_go (act := oS (fSt 58 (gC (.int 1)))) rfl rfl) (a_C)) ?_
    refine Eq.trans (Eq.trans (r_go (act := oS (fSt 59 (g2 (fun x y => x + y)))) rfl rfl) (a_add)) ?_
    refine Eq.trans (Eq.trans (r_go (act := oS (fPi g 62 3 12)) rfl rfl) (a_pi (zO_7 g))) ?_
    exact Eq.trans (r_go (act := oVret) rfl rfl) (a_vret)
set_option maxRecDepth 20000 in
theorem e_X5_add_22_1 (g : zg) (a2 : Int32) (a3 : Int32) (M : zM) : zX (t_X5_add g) 22 [some (.ref 27), some (.ref 40), some (.int a2), some (.int a3)] [] M = (bif cLt a3 10 then (zbI (X_X3_get g [.ref 40, .int a3, .int 6] M) (fun x1 M1 => (bif zb ((a2 * 10) + a3) 960 then zX (t_X5_add g) 22 [some (.ref 27), some (.ref 40), some (.int a2), some (.int (a3 + 1))] [] ((zu M1.1 29 (zx ((a2 * 10) + a3)) x1), M1.2) else none))) else some (none, ((zu M.1 40 12 ((M.1 40 12) + 1)), M.2))) := by
  refine Eq.trans (zX_rgN (tl_X5_add g) (hc_X5_add g) 19 _ _ _ _) ?_
  refine Eq.trans (Eq.trans (Eq.trans (r_0 (act := oF [] (oS (fIld 23 3))) rfl) (a_F rfl)) (a_ild rfl)) ?_
  refine Eq.trans (Eq.trans (r_go (act := oS (fSt 25 (gC (.int 10)))) rfl rfl) (a_C)) ?_
  refine Eq.trans (Eq.trans (r_go (act := oS (fCm 28 52 cLt)) rfl rfl) (a_cm)) (bcg ?_ ?_)
  · refine Eq.trans (Eq.trans (r_go (act := oS (fAld 29 0)) rfl rfl) (a_ald rfl)) ?_
    refine Eq.trans (Eq.trans (r_go (act := oS (fGr g 32 5 1)) rfl rfl) (a_gr (zO_27 g) (zR_27_1 g))) ?_
    refine Eq.trans (Eq.trans (r_go (act := oS (fIld 33 2)) rfl rfl) (a_ild rfl)) ?_
    refine Eq.trans (Eq.trans (r_go (act := oS (fSt 35 (gC (.int 10)))) rfl rfl) (a_C)) ?_
    refine Eq.trans (Eq.trans (r_go (act := oS (fSt 36 (g2 (fun x y => x * y)))) rfl rfl) (a_mul)) ?_
    refine Eq.trans (Eq.trans (r_go (act := oS (fIld 37 3)) rfl rfl) (a_ild rfl)) ?_
    refine Eq.trans (Eq.trans (r_go (act := oS (fSt 38 (g2 (fun x y => x + y)))) rfl rfl) (a_add)) ?_
    refine Eq.trans (Eq.trans (r_go (act := oS (fAld 39 1)) rfl rfl) (a_ald rfl)) ?_
    refine Eq.trans (Eq.trans (r_go (act := oS (fIld 40 3)) rfl rfl) (a_ild rfl)) ?_
    refine Eq.trans (Eq.trans (r_go (act := oS (fSt 42 (gC (.int 6)))) rfl rfl) (a_C)) ?_
    refine Eq.trans (Eq.trans (r_go (act := oCI 45 3 (zcv g 3) (X_X3_get g)) rfl rfl) (a_cI rfl (zck (zO_40 g) rfl))) (zbI_cg (fun x1 M1 => ?_))
    refine Eq.trans (Eq.trans (r_go (act := oS (fIs g 46)) rfl rfl) (a_is (zA_29 g) zS_29)) (bcg ?_ rfl)
    refine Eq.trans (Eq.trans (r_go (act := oS (fInc 49 3 1)) rfl rfl) (a_inc rfl rfl rfl)) ?_
    refine Eq.trans (Eq.trans (r_go (act := oS (fGo 22)) rfl rfl) (a_goto)) ?_
    exact r_cut rfl rfl
  · refine Eq.trans (Eq.trans (r_go (act := oS (fAld 53 1)) rfl rfl) (a_ald rfl)) ?_
    refine Eq.trans (Eq.trans (r_go (act := oS (fSt 54 gDup)) rfl rfl) (a_dupR)) ?_
    refine Eq.trans (Eq.trans (r_go (act := oS (fGi g 57 3 12)) rfl rfl) (a_gi (zO_40 g))) ?_
    refine Eq.trans (Eq.trans (r_go (act := oS (fSt 58 (gC (.int 1)))) rfl rfl) (a_C)) ?_
    refine Eq.trans (Eq.trans (r_go (act := oS (fSt 59 (g2 (fun x y => x + y)))) rfl rfl) (a_add)) ?_
    refine Eq.trans (Eq.trans (r_go (act := oS (fPi g 62 3 12)) rfl rfl) (a_pi (zO_40 g))) ?_
    exact Eq.trans (r_go (act := oVret) rfl rfl) (a_vret)
set_option maxRecDepth 20000 in
theorem e_J9_abs_0f7a4_0 (g : zg) (a0 : Int32) (M : zM) : zX (t_J9_abs_0f7a4 g) 0 [some (.int a0)] [] M = (bif cLt0 a0 then some (some (.int (-a0)), M) else some (some (.int a0), M)) := by
  refine Eq.trans (zX_rgN (tl_J9_abs_0f7a4 g) (hc_J9_abs_0f7a4 g) 7 _ _ _ _) ?_
  refine Eq.trans (Eq.trans (r_0 (act := oS (fIld 1 0)) rfl) (a_ild rfl)) ?_
  refine Eq.trans (Eq.trans (r_go (act := oS (fIf 4 9 cLt0)) rfl rfl) (a_if)) (bcg ?_ ?_)
  · refine Eq.trans (Eq.trans (r_go (act := oS (fIld 5 0)) rfl rfl) (a_ild rfl)) ?_
    refine Eq.trans (Eq.trans (r_go (act := oS (fSt 6 (g1 (fun x => -x)))) rfl rfl) (a_neg)) ?_
    refine Eq.trans (Eq.trans (r_go (act := oS (fGo 10)) rfl rfl) (a_goto)) ?_
    exact Eq.trans (r_go (act := oIret) rfl rfl) (a_iret)
  · refine Eq.trans (Eq.trans (r_go (act := oS (fIld 10 0)) rfl rfl) (a_ild rfl)) ?_
    exact Eq.trans (r_go (act := oIret) rfl rfl) (a_iret)
theorem x_J9_abs_0f7a4_0 (g : zg) (a0 : Int32) (M : zM) : X_J9_abs_0f7a4 g [.int a0] M = (bif cLt0 a0 then some (some (.int (-a0)), M) else some (some (.int a0), M)) := e_J9_abs_0f7a4_0 g a0 M
set_option maxRecDepth 20000 in
theorem e_X10_blameBy_0 (g : zg) (a2 : Int32) (a3 : Int32) (M : zM) : zX (t_X10_blameBy g) 0 [some (.ref 6), some (.ref 7), some (.int a2), some (.int a3), none] [] M = (zbI (X_X3_kind g [.ref 7] M) (fun x1 M1 => (zbI (X_J9_abs_0f7a4 g [.int (a3 - x1)] M1) (fun x2 M2 => (zbV (X_X4_learn g [.ref 9, .ref 7, .int a2] M2) (fun M3 => (zbI (X_X4_answer g [.ref 9, .int 139, .int x2, .int (3 * x2)] M3) (fun x4 M4 => (zbI (X_X11_hold g [.int x4, .int 0, .int 99] M4) (fun x5 M5 => some (some (.int x5), M5))))))))))) := by
  refine Eq.trans (zX_rgN (tl_X10_blameBy g) (hc_X10_blameBy g) 24 _ _ _ _) ?_
  refine Eq.trans (Eq.trans (r_0 (act := oS (fIld 1 3)) rfl) (a_ild rfl)) ?_
  refine Eq.trans (Eq.trans (r_go (act := oS (fAld 2 1)) rfl rfl) (a_ald rfl)) ?_
  refine Eq.trans (Eq.trans (r_go (act := oCI 5 1 (zcv g 3) (X_X3_kind g)) rfl rfl) (a_cI rfl (zck (zO_7 g) rfl))) (zbI_cg (fun x1 M1 => ?_))
  refine Eq.trans (Eq.trans (r_go (act := oS (fSt 6 (g2 (fun x y => x - y)))) rfl rfl) (a_sub)) ?_
  refine Eq.trans (Eq.trans (r_go (act := oCI 9 1 zcs (X_J9_abs_0f7a4 g)) rfl rfl) (a_cI rfl rfl)) (zbI_cg (fun x2 M2 => ?_))
  refine Eq.trans (Eq.trans (r_go (act := oS (fIst 11 4)) rfl rfl) (a_ist rfl rfl)) ?_
  refine Eq.trans (Eq.trans (r_go (act := oS (fAld 12 0)) rfl rfl) (a_ald rfl)) ?_
  refine Eq.trans (Eq.trans (r_go (act := oS (fGr g 15 10 1)) rfl rfl) (a_gr (zO_6 g) (zR_6_1 g))) ?_
  refine Eq.trans (Eq.trans (r_go (act := oS (fAld 16 1)) rfl rfl) (a_ald rfl)) ?_
  refine Eq.trans (Eq.trans (r_go (act := oS (fIld 17 2)) rfl rfl) (a_ild rfl)) ?_
  refine Eq.trans (Eq.trans (r_go (act := oCV 20 3 (zcv g 4) (X_X4_learn g)) rfl rfl) (a_cV rfl (zck (zO_9 g) rfl))) (zbV_cg (fun M3 => ?_))
  refine Eq.trans (Eq.trans (r_go (act := oS (fAld 21 0)) rfl rfl) (a_ald rfl)) ?_
  refine Eq.trans (Eq.trans (r_go (act := oS (fGr g 24 10 1)) rfl rfl) (a_gr (zO_6 g) (zR_6_1 g))) ?_
  refine Eq.trans (Eq.trans (r_go (act := oS (fSt 27 (gC (.int 139)))) rfl rfl) (a_C)) ?_
  refine Eq.trans (Eq.trans (r_go (act := oS (fIld 29 4)) rfl rfl) (a_ild rfl)) ?_
  refine Eq.trans (Eq.trans (r_go (act := oS (fSt 30 (gC (.int 3)))) rfl rfl) (a_C)) ?_
  refine Eq.trans (Eq.trans (r_go (act := oS (fIld 32 4)) rfl rfl) (a_ild rfl)) ?_
  refine Eq.trans (Eq.trans (r_go (act := oS (fSt 33 (g2 (fun x y => x * y)))) rfl rfl) (a_mul)) ?_
  refine Eq.trans (Eq.trans (r_go (act := oCI 36 4 (zcv g 4) (X_X4_answer g)) rfl rfl) (a_cI rfl (zck (zO_9 g) rfl))) (zbI_cg (fun x4 M4 => ?_))
  refine Eq.trans (Eq.trans (r_go (act := oS (fSt 37 (gC (.int 0)))) rfl rfl) (a_C)) ?_
  refine Eq.trans (Eq.trans (r_go (act := oS (fSt 39 (gC (.int 99)))) rfl rfl) (a_C)) ?_
  refine Eq.trans (Eq.trans (r_go (act := oCI 42 3 zcs (X_X11_hold g)) rfl rfl) (a_cI rfl rfl)) (zbI_cg (fun x5 M5 => ?_))
  exact Eq.trans (r_go (act := oIret) rfl rfl) (a_iret)
theorem x_X10_blameBy_0 (g : zg) (a2 : Int32) (a3 : Int32) (M : zM) : X_X10_blameBy g [.ref 6, .ref 7, .int a2, .int a3] M = (zbI (X_X3_kind g [.ref 7] M) (fun x1 M1 => (zbI (X_J9_abs_0f7a4 g [.int (a3 - x1)] M1) (fun x2 M2 => (zbV (X_X4_learn g [.ref 9, .ref 7, .int a2] M2) (fun M3 => (zbI (X_X4_answer g [.ref 9, .int 139, .int x2, .int (3 * x2)] M3) (fun x4 M4 => (zbI (X_X11_hold g [.int x4, .int 0, .int 99] M4) (fun x5 M5 => some (some (.int x5), M5))))))))))) := e_X10_blameBy_0 g a2 a3 M
set_option maxRecDepth 20000 in
theorem e_X10_blameBy_0_1 (g : zg) (a2 : Int32) (a3 : Int32) (M : zM) : zX (t_X10_blameBy g) 0 [some (.ref 6), some (.ref 40), some (.int a2), some (.int a3), none] [] M = (zbI (X_X3_kind g [.ref 40] M) (fun x1 M1 => (zbI (X_J9_abs_0f7a4 g [.int (a3 - x1)] M1) (fun x2 M2 => (zbV (X_X4_learn g [.ref 9, .ref 40, .int a2] M2) (fun M3 => (zbI (X_X4_answer g [.ref 9, .int 139, .int x2, .int (3 * x2)] M3) (fun x4 M4 => (zbI (X_X11_hold g [.int x4, .int 0, .int 99] M4) (fun x5 M5 => some (some (.int x5), M5))))))))))) := by
  refine Eq.trans (zX_rgN (tl_X10_blameBy g) (hc_X10_blameBy g) 24 _ _ _ _) ?_
  refine Eq.trans (Eq.trans (r_0 (act := oS (fIld 1 3)) rfl) (a_ild rfl)) ?_
  refine Eq.trans (Eq.trans (r_go (act := oS (fAld 2 1)) rfl rfl) (a_ald rfl)) ?_
  refine Eq.trans (Eq.trans (r_go (act := oCI 5 1 (zcv g 3) (X_X3_kind g)) rfl rfl) (a_cI rfl (zck (zO_40 g) rfl))) (zbI_cg (fun x1 M1 => ?_))
  refine Eq.trans (Eq.trans (r_go (act := oS (fSt 6 (g2 (fun x y => x - y)))) rfl rfl) (a_sub)) ?_
  refine Eq.trans (Eq.trans (r_go (act := oCI 9 1 zcs (X_J9_abs_0f7a4 g)) rfl rfl) (a_cI rfl rfl)) (zbI_cg (fun x2 M2 => ?_))
  refine Eq.trans (Eq.trans (r_go (act := oS (fIst 11 4)) rfl rfl) (a_ist rfl rfl)) ?_
  refine Eq.trans (Eq.trans (r_go (act := oS (fAld 12 0)) rfl rfl) (a_ald rfl)) ?_
  refine Eq.trans (Eq.trans (r_go (act := oS (fGr g 15 10 1)) rfl rfl) (a_gr (zO_6 g) (zR_6_1 g))) ?_
  refine Eq.trans (Eq.trans (r_go (act := oS (fAld 16 1)) rfl rfl) (a_ald rfl)) ?_
  refine Eq.trans (Eq.trans (r_go (act := oS (fIld 17 2)) rfl rfl) (a_ild rfl)) ?_
  refine Eq.trans (Eq.trans (r_go (act := oCV 20 3 (zcv g 4) (X_X4_learn g)) rfl rfl) (a_cV rfl (zck (zO_9 g) rfl))) (zbV_cg (fun M3 => ?_))
  refine Eq.trans (Eq.trans (r_go (act := oS (fAld 21 0)) rfl rfl) (a_ald rfl)) ?_
  refine Eq.trans (Eq.trans (r_go (act := oS (fGr g 24 10 1)) rfl rfl) (a_gr (zO_6 g) (zR_6_1 g))) ?_
  refine Eq.trans (Eq.trans (r_go (act := oS (fSt 27 (gC (.int 139)))) rfl rfl) (a_C)) ?_
  refine Eq.trans (Eq.trans (r_go (act := oS (fIld 29 4)) rfl rfl) (a_ild rfl)) ?_
  refine Eq.trans (Eq.trans (r_go (act := oS (fSt 30 (gC (.int 3)))) rfl rfl) (a_C)) ?_
  refine Eq.trans (Eq.trans (r_go (act := oS (fIld 32 4)) rfl rfl) (a_ild rfl)) ?_
  refine Eq.trans (Eq.trans (r_go (act := oS (fSt 33 (g2 (fun x y => x * y)))) rfl rfl) (a_mul)) ?_
  refine Eq.trans (Eq.trans (r_go (act := oCI 36 4 (zcv g 4) (X_X4_answer g)) rfl rfl) (a_cI rfl (zck (zO_9 g) rfl))) (zbI_cg (fun x4 M4 => ?_))
  refine Eq.trans (Eq.trans (r_go (act := oS (fSt 37 (gC (.int 0)))) rfl rfl) (a_C)) ?_
  refine Eq.trans (Eq.trans (r_go (act := oS (fSt 39 (gC (.int 99)))) rfl rfl) (a_C)) ?_
  refine Eq.trans (Eq.trans (r_go (act := oCI 42 3 zcs (X_X11_hold g)) rfl rfl) (a_cI rfl rfl)) (zbI_cg (fun x5 M5 => ?_))
  exact Eq.trans (r_go (act := oIret) rfl rfl) (a_iret)
theorem x_X10_blameBy_0_1 (g : zg) (a2 : Int32) (a3 : Int32) (M : zM) : X_X10_blameBy g [.ref 6, .ref 40, .int a2, .int a3] M = (zbI (X_X3_kind g [.ref 40] M) (fun x1 M1 => (zbI (X_J9_abs_0f7a4 g [.int (a3 - x1)] M1) (fun x2 M2 => (zbV (X_X4_learn g [.ref 9, .ref 40, .int a2] M2) (fun M3 => (zbI (X_X4_answer g [.ref 9, .int 139, .int x2, .int (3 * x2)] M3) (fun x4 M4 => (zbI (X_X11_hold g [.int x4, .int 0, .int 99] M4) (fun x5 M5 => some (some (.int x5), M5))))))))))) := e_X10_blameBy_0_1 g a2 a3 M
set_option maxRecDepth 20000 in
theorem e_X3_addStand_0 (g : zg) (a1 : Int32) (a2 : Int32) (M : zM) : zX (t_X3_addStand g) 0 [some (.ref 7), some (.int a1), some (.int a2)] [] M = (zbI (X_X3_get g [.ref 7, .int a1, .int 4] M) (fun x1 M1 => (zbI (X_X11_hold g [.int (x1 + a2), .int (-999), .int 999] M1) (fun x2 M2 => (zbV (X_X3_put g [.ref 7, .int a1, .int 4, .int x2] M2) (fun M3 => some (none, M3))))))) := by
  refine Eq.trans (zX_rgN (tl_X3_addStand g) (hc_X3_addStand g) 15 _ _ _ _) ?_
  refine Eq.trans (Eq.trans (r_0 (act := oS (fAld 1 0)) rfl) (a_ald rfl)) ?_
  refine Eq.trans (Eq.trans (r_go (act := oS (fIld 2 1)) rfl rfl) (a_ild rfl)) ?_
  refine Eq.trans (Eq.trans (r_go (act := oS (fSt 3 (gC (.int 4)))) rfl rfl) (a_C)) ?_
  refine Eq.trans (Eq.trans (r_go (act := oS (fAld 4 0)) rfl rfl) (a_ald rfl)) ?_
  refine Eq.trans (Eq.trans (r_go (act := oS (fIld 5 1)) rfl rfl) (a_ild rfl)) ?_
  refine Eq.trans (Eq.trans (r_go (act := oS (fSt 6 (gC (.int 4)))) rfl rfl) (a_C)) ?_
  refine Eq.trans (Eq.trans (r_go (act := oCI 9 3 (zcv g 3) (X_X3_get g)) rfl rfl) (a_cI rfl (zck (zO_7 g) rfl))) (zbI_cg (fun x1 M1 => ?_))
  refine Eq.trans (Eq.trans (r_go (act := oS (fIld 10 2)) rfl rfl) (a_ild rfl)) ?_
  refine Eq.trans (Eq.trans (r_go (act := oS (fSt 11 (g2 (fun x y => x + y)))) rfl rfl) (a_add)) ?_
  refine Eq.trans (Eq.trans (r_go (act := oS (fSt 14 (gC (.int (-999))))) rfl rfl) (a_C)) ?_
  refine Eq.trans (Eq.trans (r_go (act := oS (fSt 17 (gC (.int 999)))) rfl rfl) (a_C)) ?_
  refine Eq.trans (Eq.trans (r_go (act := oCI 20 3 zcs (X_X11_hold g)) rfl rfl) (a_cI rfl rfl)) (zbI_cg (fun x2 M2 => ?_))
  refine Eq.trans (Eq.trans (r_go (act := oCV 23 4 (zcv g 3) (X_X3_put g)) rfl rfl) (a_cV rfl (zck (zO_7 g) rfl))) (zbV_cg (fun M3 => ?_))
  exact Eq.trans (r_go (act := oVret) rfl rfl) (a_vret)
theorem x_X3_addStand_0 (g : zg) (a1 : Int32) (a2 : Int32) (M : zM) : X_X3_addStand g [.ref 7, .int a1, .int a2] M = (zbI (X_X3_get g [.ref 7, .int a1, .int 4] M) (fun x1 M1 => (zbI (X_X11_hold g [.int (x1 + a2), .int (-999), .int 999] M1) (fun x2 M2 => (zbV (X_X3_put g [.ref 7, .int a1, .int 4, .int x2] M2) (fun M3 => some (none, M3))))))) := e_X3_addStand_0 g a1 a2 M
set_option maxRecDepth 20000 in
theorem e_X3_addStand_0_1 (g : zg) (a1 : Int32) (a2 : Int32) (M : zM) : zX (t_X3_addStand g) 0 [some (.ref 40), some (.int a1), some (.int a2)] [] M = (zbI (X_X3_get g [.ref 40, .int a1, .int 4] M) (fun x1 M1 => (zbI (X_X11_hold g [.int (x1 + a2), .int (-999), .int 999] M1) (fun x2 M2 => (zbV (X_X3_put g [.ref 40, .int a1, .int 4, .int x2] M2) (fun M3 => some (none, M3))))))) := by
  refine Eq.trans (zX_rgN (tl_X3_addStand g) (hc_X3_addStand g) 15 _ _ _ _) ?_
  refine Eq.trans (Eq.trans (r_0 (act := oS (fAld 1 0)) rfl) (a_ald rfl)) ?_
  refine Eq.trans (Eq.trans (r_go (act := oS (fIld 2 1)) rfl rfl) (a_ild rfl)) ?_
  refine Eq.trans (Eq.trans (r_go (act := oS (fSt 3 (gC (.int 4)))) rfl rfl) (a_C)) ?_
  refine Eq.trans (Eq.trans (r_go (act := oS (fAld 4 0)) rfl rfl) (a_ald rfl)) ?_
  refine Eq.trans (Eq.trans (r_go (act := oS (fIld 5 1)) rfl rfl) (a_ild rfl)) ?_
  refine Eq.trans (Eq.trans (r_go (act := oS (fSt 6 (gC (.int 4)))) rfl rfl) (a_C)) ?_
  refine Eq.trans (Eq.trans (r_go (act := oCI 9 3 (zcv g 3) (X_X3_get g)) rfl rfl) (a_cI rfl (zck (zO_40 g) rfl))) (zbI_cg (fun x1 M1 => ?_))
  refine Eq.trans (Eq.trans (r_go (act := oS (fIld 10 2)) rfl rfl) (a_ild rfl)) ?_
  refine Eq.trans (Eq.trans (r_go (act := oS (fSt 11 (g2 (fun x y => x + y)))) rfl rfl) (a_add)) ?_
  refine Eq.trans (Eq.trans (r_go (act := oS (fSt 14 (gC (.int (-999))))) rfl rfl) (a_C)) ?_
  refine Eq.trans (Eq.trans (r_go (act := oS (fSt 17 (gC (.int 999)))) rfl rfl) (a_C)) ?_
  refine Eq.trans (Eq.trans (r_go (act := oCI 20 3 zcs (X_X11_hold g)) rfl rfl) (a_cI rfl rfl)) (zbI_cg (fun x2 M2 => ?_))
  refine Eq.trans (Eq.trans (r_go (act := oCV 23 4 (zcv g 3) (X_X3_put g)) rfl rfl) (a_cV rfl (zck (zO_40 g) rfl))) (zbV_cg (fun M3 => ?_))
  exact Eq.trans (r_go (act := oVret) rfl rfl) (a_vret)
theorem x_X3_addStand_0_1 (g : zg) (a1 : Int32) (a2 : Int32) (M : zM) : X_X3_addStand g [.ref 40, .int a1, .int a2] M = (zbI (X_X3_get g [.ref 40, .int a1, .int 4] M) (fun x1 M1 => (zbI (X_X11_hold g [.int (x1 + a2), .int (-999), .int 999] M1) (fun x2 M2 => (zbV (X_X3_put g [.ref 40, .int a1, .int 4, .int x2] M2) (fun M3 => some (none, M3))))))) := e_X3_addStand_0_1 g a1 a2 M
set_option maxRecDepth 20000 in
theorem e_X10_blameAll_0 (g : zg) (M : zM) : zX (t_X10_blameAll g) 0 [some (.ref 6), some (.ref 7), none, none, none, none] [] M = zX (t_X10_blameAll g) 7 [some (.ref 6), some (.ref 7), some (.int (-1)), some (.int 0), some (.int 0), none] [] M := by
  refine Eq.trans (zX_rgN (tl_X10_blameAll g) (hc_X10_blameAll g) 8 _ _ _ _) ?_
  refine Eq.trans (Eq.trans (r_0 (act := oS (fSt 1 (gC (.int (-1))))) rfl) (a_C)) ?_
  refine Eq.trans (Eq.trans (r_go (act := oS (fIst 2 2)) rfl rfl) (a_ist rfl rfl)) ?_
  refine Eq.trans (Eq.trans (r_go (act := oS (fSt 3 (gC (.int 0)))) rfl rfl) (a_C)) ?_
  refine Eq.trans (Eq.trans (r_go (act := oS (fIst 4 3)) rfl rfl) (a_ist rfl rfl)) ?_
  refine Eq.trans (Eq.trans (r_go (act := oS (fSt 5 (gC (.int 0)))) rfl rfl) (a_C)) ?_
  refine Eq.trans (Eq.trans (r_go (act := oS (fIst 7 4)) rfl rfl) (a_ist rfl rfl)) ?_
  exact r_cut rfl rfl
theorem x_X10_blameAll_0 (g : zg) (M : zM) : X_X10_blameAll g [.ref 6, .ref 7] M = zX (t_X10_blameAll g) 7 [some (.ref 6), some (.ref 7), some (.int (-1)), some (.int 0), some (.int 0), none] [] M := e_X10_blameAll_0 g M
set_option maxRecDepth 20000 in
theorem e_X10_blameAll_0_1 (g : zg) (M : zM) : zX (t_X10_blameAll g) 0 [some (.ref 6), some (.ref 40), none, none, none, none] [] M = zX (t_X10_blameAll g) 7 [some (.ref 6), some (.ref 40), some (.int (-1)), some (.int 0), some (.int 0), none] [] M := by
  refine Eq.trans (zX_rgN (tl_X10_blameAll g) (hc_X10_blameAll g) 8 _ _ _ _) ?_
  refine Eq.trans (Eq.trans (r_0 (act := oS (fSt 1 (gC (.int (-1))))) rfl) (a_C)) ?_
  refine Eq.trans (Eq.trans (r_go (act := oS (fIst 2 2)) rfl rfl) (a_ist rfl rfl)) ?_
  refine Eq.trans (Eq.trans (r_go (act := oS (fSt 3 (gC (.int 0)))) rfl rfl) (a_C)) ?_
  refine Eq.trans (Eq.trans (r_go (act := oS (fIst 4 3)) rfl rfl) (a_ist rfl rfl)) ?_
  refine Eq.trans (Eq.trans (r_go (act := oS (fSt 5 (gC (.int 0)))) rfl rfl) (a_C)) ?_
  refine Eq.trans (Eq.trans (r_go (act := oS (fIst 7 4)) rfl rfl) (a_ist rfl rfl)) ?_
  exact r_cut rfl rfl
theorem x_X10_blameAll_0_1 (g : zg) (M : zM) : X_X10_blameAll g [.ref 6, .ref 40] M = zX (t_X10_blameAll g) 7 [some (.ref 6), some (.ref 40), some (.int (-1)), some (.int 0), some (.int 0), none] [] M := e_X10_blameAll_0_1 g M
set_option maxRecDepth 20000 in
theorem e_X10_blameAll_7 (g : zg) (a2 : Int32) (a3 : Int32) (a4 : Int32) (M : zM) : zX (t_X10_blameAll g) 7 [some (.ref 6), some (.ref 7), some (.int a2), some (.int a3), some (.int a4), none] [] M = (bif cLt a4 (M.1 7 2) then (zbI (X_X3_serving g [.ref 7, .int a4] M) (fun x1 M1 => (bif cEq0 x1 then zX (t_X10_blameAll g) 7 [some (.ref 6), some (.ref 7), some (.int a2), some (.int a3), some (.int (a4 + 1)), none] [] M1 else (zbI (X_X3_get g [.ref 7, .int a4, .int 6] M1) (fun x2 M2 => (zbI (X_X3_kind g [.ref 7] M2) (fun x3 M3 => (bif cEq x2 x3 then (zbV (X_X3_addStand g [.ref 7, .int a4, .int 1] M3) (fun M4 => (bif cEq a2 (-1) then zX (t_X10_blameAll g) 7 [some (.ref 6), some (.ref 7), some (.int a4), some (.int (a3 + 1)), some (.int (a4 + 1)), none] [] M4 else zX (t_X10_blameAll g) 7 [some (.ref 6), some (.ref 7), some (.int a2), some (.int (a3 + 1)), some (.int (a4 + 1)), none] [] M4))) else (zbI (X_X10_blameBy g [.ref 6, .ref 7, .int a4, .int x2] M3) (fun x5 M5 => (zbV (X_X3_addStand g [.ref 7, .int a4, .int (-x5)] M5) (fun M6 => zX (t_X10_blameAll g) 7 [some (.ref 6), some (.ref 7), some (.int a2), some (.int a3), some (.int (a4 + 1)), none] [] M6)))))))))))) else (bif cEq a2 (-1) then some (none, M) else (zbV (X_X1_write g [.ref 25, .ref 7, .int 1, .int a2, .int a3] M) (fun M7 => some (none, M7))))) := by
  refine Eq.trans (zX_rgN (tl_X10_blameAll g) (hc_X10_blameAll g) 32 _ _ _ _) ?_
  refine Eq.trans (Eq.trans (Eq.trans (r_0 (act := oF [5] (oS (fIld 9 4))) rfl) (a_F rfl)) (a_ild rfl)) ?_
  refine Eq.trans (Eq.trans (r_go (act := oS (fAld 10 1)) rfl rfl) (a_ald rfl)) ?_
  refine Eq.trans (Eq.trans (r_go (act := oS (fGi g 13 3 2)) rfl rfl) (a_gi (zO_7 g))) ?_
  refine Eq.trans (Eq.trans (r_go (act := oS (fCm 16 94 cLt)) rfl rfl) (a_cm)) (bcg ?_ ?_)
  · refine Eq.trans (Eq.trans (r_go (act := oS (fAld 17 1)) rfl rfl) (a_ald rfl)) ?_
    refine Eq.trans (Eq.trans (r_go (act := oS (fIld 19 4)) rfl rfl) (a_ild rfl)) ?_
    refine Eq.trans (Eq.trans (r_go (act := oCI 22 2 (zcv g 3) (X_X3_serving g)) rfl rfl) (a_cI rfl (zck (zO_7 g) rfl))) (zbI_cg (fun x1 M1 => ?_))
    refine Eq.trans (Eq.trans (r_go (act := oS (fIf 25 28 cEq0)) rfl rfl) (a_if)) (bcg ?_ ?_)
    · refine Eq.trans (Eq.trans (r_go (act := oS (fGo 88)) rfl rfl) (a_goto)) ?_
      refine Eq.trans (Eq.trans (r_go (act := oS (fInc 91 4 1)) rfl rfl) (a_inc rfl rfl rfl)) ?_
      refine Eq.trans (Eq.trans (r_go (act := oS (fGo 7)) rfl rfl) (a_goto)) ?_
      exact r_cut rfl rfl
    · refine Eq.trans (Eq.trans (r_go (act := oS (fAld 29 1)) rfl rfl) (a_ald rfl)) ?_
      refine Eq.trans (Eq.trans (r_go (act := oS (fIld 31 4)) rfl rfl) (a_ild rfl)) ?_
      refine Eq.trans (Eq.trans (r_go (act := oS (fSt 33 (gC (.int 6)))) rfl rfl) (a_C)) ?_
      refine Eq.trans (Eq.trans (r_go (act := oCI 36 3 (zcv g 3) (X_X3_get g)) rfl rfl) (a_cI rfl (zck (zO_7 g) rfl))) (zbI_cg (fun x2 M2 => ?_))
      refine Eq.trans (Eq.trans (r_go (act := oS (fIst 38 5)) rfl rfl) (a_ist rfl rfl)) ?_
      refine Eq.trans (Eq.trans (r_go (act := oS (fIld 40 5)) rfl rfl) (a_ild rfl)) ?_
      refine Eq.trans (Eq.trans (r_go (act := oS (fAld 41 1)) rfl rfl) (a_ald rfl)) ?_
      refine Eq.trans (Eq.trans (r_go (act := oCI 44 1 (zcv g 3) (X_X3_kind g)) rfl rfl) (a_cI rfl (zck (zO_7 g) rfl))) (zbI_cg (fun x3 M3 => ?_))
      refine Eq.trans (Eq.trans (r_go (act := oS (fCm 66 47 cEq)) rfl rfl) (a_cm)) (bcg ?_ ?_)
      · refine Eq.trans (Eq.trans (r_go (act := oS (fAld 67 1)) rfl rfl) (a_ald rfl)) ?_
        refine Eq.trans (Eq.trans (r_go (act := oS (fIld 69 4)) rfl rfl) (a_ild rfl)) ?_
        refine Eq.trans (Eq.trans (r_go (act := oS (fSt 70 (gC (.int 1)))) rfl rfl) (a_C)) ?_
        refine Eq.trans (Eq.trans (r_go (act := oCV 73 3 (zcv g 3) (X_X3_addStand g)) rfl rfl) (a_cV rfl (zck (zO_7 g) rfl))) (zbV_cg (fun M4 => ?_))
        refine Eq.trans (Eq.trans (r_go (act := oS (fIld 74 2)) rfl rfl) (a_ild rfl)) ?_
        refine Eq.trans (Eq.trans (r_go (act := oS (fSt 75 (gC (.int (-1))))) rfl rfl) (a_C)) ?_
        refine Eq.trans (Eq.trans (r_go (act := oS (fCm 78 83 cEq)) rfl rfl) (a_cm)) (bcg ?_ ?_)
        · refine Eq.trans (Eq.trans (r_go (act := oS (fIld 80 4)) rfl rfl) (a_ild rfl)) ?_
          refine Eq.trans (Eq.trans (r_go (act := oS (fGo 84)) rfl rfl) (a_goto)) ?_
          refine Eq.trans (Eq.trans (r_go (act := oS (fIst 85 2)) rfl rfl) (a_ist rfl rfl)) ?_
          refine Eq.trans (Eq.trans (r_go (act := oS (fInc 88 3 1)) rfl rfl) (a_inc rfl rfl rfl)) ?_
          refine Eq.trans (Eq.trans (r_go (act := oS (fInc 91 4 1)) rfl rfl) (a_inc rfl rfl rfl)) ?_
          refine Eq.trans (Eq.trans (r_go (act := oS (fGo 7)) rfl rfl) (a_goto)) ?_
          exact r_cut rfl rfl
        · refine Eq.trans (Eq.trans (r_go (act := oS (fIld 84 2)) rfl rfl) (a_ild rfl)) ?_
          refine Eq.trans (Eq.trans (r_go (act := oS (fIst 85 2)) rfl rfl) (a_ist rfl rfl)) ?_
          refine Eq.trans (Eq.trans (r_go (act := oS (fInc 88 3 1)) rfl rfl) (a_inc rfl rfl rfl)) ?_
          refine Eq.trans (Eq.trans (r_go (act := oS (fInc 91 4 1)) rfl rfl) (a_inc rfl rfl rfl)) ?_
          refine Eq.trans (Eq.trans (r_go (act := oS (fGo 7)) rfl rfl) (a_goto)) ?_
          exact r_cut rfl rfl
      · refine Eq.trans (Eq.trans (r_go (act := oS (fAld 48 1)) rfl rfl) (a_ald rfl)) ?_
        refine Eq.trans (Eq.trans (r_go (act := oS (fIld 50 4)) rfl rfl) (a_ild rfl)) ?_
        refine Eq.trans (Eq.trans (r_go (act := oS (fAld 51 0)) rfl rfl) (a_ald rfl)) ?_
        refine Eq.trans (Eq.trans (r_go (act := oS (fAld 52 1)) rfl rfl) (a_ald rfl)) ?_
        refine Eq.trans (Eq.trans (r_go (act := oS (fIld 54 4)) rfl rfl) (a_ild rfl)) ?_
        refine Eq.trans (Eq.trans (r_go (act := oS (fIld 56 5)) rfl rfl) (a_ild rfl)) ?_
        refine Eq.trans (Eq.trans (r_go (act := oCI 59 4 (zcv g 10) (X_X10_blameBy g)) rfl rfl) (a_cI rfl (zck (zO_6 g) rfl))) (zbI_cg (fun x5 M5 => ?_))
        refine Eq.trans (Eq.trans (r_go (act := oS (fSt 60 (g1 (fun x => -x)))) rfl rfl) (a_neg)) ?_
        refine Eq.trans (Eq.trans (r_go (act := oCV 63 3 (zcv g 3) (X_X3_addStand g)) rfl rfl) (a_cV rfl (zck (zO_7 g) rfl))) (zbV_cg (fun M6 => ?_))
        refine Eq.trans (Eq.trans (r_go (act := oS (fGo 88)) rfl rfl) (a_goto)) ?_
        refine Eq.trans (Eq.trans (r_go (act := oS (fInc 91 4 1)) rfl rfl) (a_inc rfl rfl rfl)) ?_
        refine Eq.trans (Eq.trans (r_go (act := oS (fGo 7)) rfl rfl) (a_goto)) ?_
        exact r_cut rfl rfl
  · refine Eq.trans (Eq.trans (r_go (act := oS (fIld 95 2)) rfl rfl) (a_ild rfl)) ?_
    refine Eq.trans (Eq.trans (r_go (act := oS (fSt 96 (gC (.int (-1))))) rfl rfl) (a_C)) ?_
    refine Eq.trans (Eq.trans (r_go (act := oS (fCm 110 99 cEq)) rfl rfl) (a_cm)) (bcg ?_ ?_)
    · exact Eq.trans (r_go (act := oVret) rfl rfl) (a_vret)
    · refine Eq.trans (Eq.trans (r_go (act := oS (fAld 100 0)) rfl rfl) (a_ald rfl)) ?_
      refine Eq.trans (Eq.trans (r_go (act := oS (fGr g 103 10 4)) rfl rfl) (a_gr (zO_6 g) (zR_6_4 g))) ?_
      refine Eq.trans (Eq.trans (r_go (act := oS (fAld 104 1)) rfl rfl) (a_ald rfl)) ?_
      refine Eq.trans (Eq.trans (r_go (act := oS (fSt 105 (gC (.int 1)))) rfl rfl) (a_C)) ?_
      refine Eq.trans (Eq.trans (r_go (act := oS (fIld 106 2)) rfl rfl) (a_ild rfl)) ?_
      refine Eq.trans (Eq.trans (r_go (act := oS (fIld 107 3)) rfl rfl) (a_ild rfl)) ?_
      refine Eq.trans (Eq.trans (r_go (act := oCV 110 5 (zcv g 1) (X_X1_write g)) rfl rfl) (a_cV rfl (zck (zO_25 g) rfl))) (zbV_cg (fun M7 => ?_))
      exact Eq.trans (r_go (act := oVret) rfl rfl) (a_vret)
set_option maxRecDepth 20000 in
theorem e_X10_blameAll_7_1 (g : zg) (a2 : Int32) (a3 : Int32) (a4 : Int32) (M : zM) : zX (t_X10_blameAll g) 7 [some (.ref 6), some (.ref 40), some (.int a2), some (.int a3), some (.int a4), none] [] M = (bif cLt a4 (M.1 40 2) then (zbI (X_X3_serving g [.ref 40, .int a4] M) (fun x1 M1 => (bif cEq0 x1 then zX (t_X10_blameAll g) 7 [some (.ref 6), some (.ref 40), some (.int a2), some (.int a3), some (.int (a4 + 1)), none] [] M1 else (zbI (X_X3_get g [.ref 40, .int a4, .int 6] M1) (fun x2 M2 => (zbI (X_X3_kind g [.ref 40] M2) (fun x3 M3 => (bif cEq x2 x3 then (zbV (X_X3_addStand g [.ref 40, .int a4, .int 1] M3) (fun M4 => (bif cEq a2 (-1) then zX (t_X10_blameAll g) 7 [some (.ref 6), some (.ref 40), some (.int a4), some (.int (a3 + 1)), some (.int (a4 + 1)), none] [] M4 else zX (t_X10_blameAll g) 7 [some (.ref 6), some (.ref 40), some (.int a2), some (.int (a3 + 1)), some (.int (a4 + 1)), none] [] M4))) else (zbI (X_X10_blameBy g [.ref 6, .ref 40, .int a4, .int x2] M3) (fun x5 M5 => (zbV (X_X3_addStand g [.ref 40, .int a4, .int (-x5)] M5) (fun M6 => zX (t_X10_blameAll g) 7 [some (.ref 6), some (.ref 40), some (.int a2), some (.int a3), some (.int (a4 + 1)), none] [] M6)))))))))))) else (bif cEq a2 (-1) then some (none, M) else (zbV (X_X1_write g [.ref 25, .ref 40, .int 1, .int a2, .int a3] M) (fun M7 => some (none, M7))))) := by
  refine Eq.trans (zX_rgN (tl_X10_blameAll g) (hc_X10_blameAll g) 32 _ _ _ _) ?_
  refine Eq.trans (Eq.trans (Eq.trans (r_0 (act := oF [5] (oS (fIld 9 4))) rfl) (a_F rfl)) (a_ild rfl)) ?_
  refine Eq.trans (Eq.trans (r_go (act := oS (fAld 10 1)) rfl rfl) (a_ald rfl)) ?_
  refine Eq.trans (Eq.trans (r_go (act := oS (fGi g 13 3 2)) rfl rfl) (a_gi (zO_40 g))) ?_
  refine Eq.trans (Eq.trans (r_go (act := oS (fCm 16 94 cLt)) rfl rfl) (a_cm)) (bcg ?_ ?_)
  · refine Eq.trans (Eq.trans (r_go (act := oS (fAld 17 1)) rfl rfl) (a_ald rfl)) ?_
    refine Eq.trans (Eq.trans (r_go (act := oS (fIld 19 4)) rfl rfl) (a_ild rfl)) ?_
    refine Eq.trans (Eq.trans (r_go (act := oCI 22 2 (zcv g 3) (X_X3_serving g)) rfl rfl) (a_cI rfl (zck (zO_40 g) rfl))) (zbI_cg (fun x1 M1 => ?_))
    refine Eq.trans (Eq.trans (r_go (act := oS (fIf 25 28 cEq0)) rfl rfl) (a_if)) (bcg ?_ ?_)
    · refine Eq.trans (Eq.trans (r_go (act := oS (fGo 88)) rfl rfl) (a_goto)) ?_
      refine Eq.trans (Eq.trans (r_go (act := oS (fInc 91 4 1)) rfl rfl) (a_inc rfl rfl rfl)) ?_
      refine Eq.trans (Eq.trans (r_go (act := oS (fGo 7)) rfl rfl) (a_goto)) ?_
      exact r_cut rfl rfl
    · refine Eq.trans (Eq.trans (r_go (act := oS (fAld 29 1)) rfl rfl) (a_ald rfl)) ?_
      refine Eq.trans (Eq.trans (r_go (act := oS (fIld 31 4)) rfl rfl) (a_ild rfl)) ?_
      refine Eq.trans (Eq.trans (r_go (act := oS (fSt 33 (gC (.int 6)))) rfl rfl) (a_C)) ?_
      refine Eq.trans (Eq.trans (r_go (act := oCI 36 3 (zcv g 3) (X_X3_get g)) rfl rfl) (a_cI rfl (zck (zO_40 g) rfl))) (zbI_cg (fun x2 M2 => ?_))
      refine Eq.trans (Eq.trans (r_go (act := oS (fIst 38 5)) rfl rfl) (a_ist rfl rfl)) ?_
      refine Eq.trans (Eq.trans (r_go (act := oS (fIld 40 5)) rfl rfl) (a_ild rfl)) ?_
      refine Eq.trans (Eq.trans (r_go (act := oS (fAld 41 1)) rfl rfl) (a_ald rfl)) ?_
      refine Eq.trans (Eq.trans (r_go (act := oCI 44 1 (zcv g 3) (X_X3_kind g)) rfl rfl) (a_cI rfl (zck (zO_40 g) rfl))) (zbI_cg (fun x3 M3 => ?_))
      refine Eq.trans (Eq.trans (r_go (act := oS (fCm 66 47 cEq)) rfl rfl) (a_cm)) (bcg ?_ ?_)
      · refine Eq.trans (Eq.trans (r_go (act := oS (fAld 67 1)) rfl rfl) (a_ald rfl)) ?_
        refine Eq.trans (Eq.trans (r_go (act := oS (fIld 69 4)) rfl rfl) (a_ild rfl)) ?_
        refine Eq.trans (Eq.trans (r_go (act := oS (fSt 70 (gC (.int 1)))) rfl rfl) (a_C)) ?_
        refine Eq.trans (Eq.trans (r_go (act := oCV 73 3 (zcv g 3) (X_X3_addStand g)) rfl rfl) (a_cV rfl (zck (zO_40 g) rfl))) (zbV_cg (fun M4 => ?_))
        refine Eq.trans (Eq.trans (r_go (act := oS (fIld 74 2)) rfl rfl) (a_ild rfl)) ?_
        refine Eq.trans (Eq.trans (r_go (act := oS (fSt 75 (gC (.int (-1))))) rfl rfl) (a_C)) ?_
        refine Eq.trans (Eq.trans (r_go (act := oS (fCm 78 83 cEq)) rfl rfl) (a_cm)) (bcg ?_ ?_)
        · refine Eq.trans (Eq.trans (r_go (act := oS (fIld 80 4)) rfl rfl) (a_ild rfl)) ?_
          refine Eq.trans (Eq.trans (r_go (act := oS (fGo 84)) rfl rfl) (a_goto)) ?_
          refine Eq.trans (Eq.trans (r_go (act := oS (fIst 85 2)) rfl rfl) (a_ist rfl rfl)) ?_
          refine Eq.trans (Eq.trans (r_go (act := oS (fInc 88 3 1)) rfl rfl) (a_inc rfl rfl rfl)) ?_
          refine Eq.trans (Eq.trans (r_go (act := oS (fInc 91 4 1)) rfl rfl) (a_inc rfl rfl rfl)) ?_
          refine Eq.trans (Eq.trans (r_go (act := oS (fGo 7)) rfl rfl) (a_goto)) ?_
          exact r_cut rfl rfl
        · refine Eq.trans (Eq.trans (r_go (act := oS (fIld 84 2)) rfl rfl) (a_ild rfl)) ?_
          refine Eq.trans (Eq.trans (r_go (act := oS (fIst 85 2)) rfl rfl) (a_ist rfl rfl)) ?_
          refine Eq.trans (Eq.trans (r_go (act := oS (fInc 88 3 1)) rfl rfl) (a_inc rfl rfl rfl)) ?_
          refine Eq.trans (Eq.trans (r_go (act := oS (fInc 91 4 1)) rfl rfl) (a_inc rfl rfl rfl)) ?_
          refine Eq.trans (Eq.trans (r_go (act := oS (fGo 7)) rfl rfl) (a_goto)) ?_
          exact r_cut rfl rfl
      · refine Eq.trans (Eq.trans (r_go (act := oS (fAld 48 1)) rfl rfl) (a_ald rfl)) ?_
        refine Eq.trans (Eq.trans (r_go (act := oS (fIld 50 4)) rfl rfl) (a_ild rfl)) ?_
        refine Eq.trans (Eq.trans (r_go (act := oS (fAld 51 0)) rfl rfl) (a_ald rfl)) ?_
        refine Eq.trans (Eq.trans (r_go (act := oS (fAld 52 1)) rfl rfl) (a_ald rfl)) ?_
        refine Eq.trans (Eq.trans (r_go (act := oS (fIld 54 4)) rfl rfl) (a_ild rfl)) ?_
        refine Eq.trans (Eq.trans (r_go (act := oS (fIld 56 5)) rfl rfl) (a_ild rfl)) ?_
        refine Eq.trans (Eq.trans (r_go (act := oCI 59 4 (zcv g 10) (X_X10_blameBy g)) rfl rfl) (a_cI rfl (zck (zO_6 g) rfl))) (zbI_cg (fun x5 M5 => ?_))
        refine Eq.trans (Eq.trans (r_go (act := oS (fSt 60 (g1 (fun x => -x)))) rfl rfl) (a_neg)) ?_
        refine Eq.trans (Eq.trans (r_go (act := oCV 63 3 (zcv g 3) (X_X3_addStand g)) rfl rfl) (a_cV rfl (zck (zO_40 g) rfl))) (zbV_cg (fun M6 => ?_))
        refine Eq.trans (Eq.trans (r_go (act := oS (fGo 88)) rfl rfl) (a_goto)) ?_
        refine Eq.trans (Eq.trans (r_go (act := oS (fInc 91 4 1)) rfl rfl) (a_inc rfl rfl rfl)) ?_
        refine Eq.trans (Eq.trans (r_go (act := oS (fGo 7)) rfl rfl) (a_goto)) ?_
        exact r_cut rfl rfl
  · refine Eq.trans (Eq.trans (r_go (act := oS (fIld 95 2)) rfl rfl) (a_ild rfl)) ?_
    refine Eq.trans (Eq.trans (r_go (act := oS (fSt 96 (gC (.int (-1))))) rfl rfl) (a_C)) ?_
    refine Eq.trans (Eq.trans (r_go (act := oS (fCm 110 99 cEq)) rfl rfl) (a_cm)) (bcg ?_ ?_)
    · exact Eq.trans (r_go (act := oVret) rfl rfl) (a_vret)
    · refine Eq.trans (Eq.trans (r_go (act := oS (fAld 100 0)) rfl rfl) (a_ald rfl)) ?_
      refine Eq.trans (Eq.trans (r_go (act := oS (fGr g 103 10 4)) rfl rfl) (a_gr (zO_6 g) (zR_6_4 g))) ?_
      refine Eq.trans (Eq.trans (r_go (act := oS (fAld 104 1)) rfl rfl) (a_ald rfl)) ?_
      refine Eq.trans (Eq.trans (r_go (act := oS (fSt 105 (gC (.int 1)))) rfl rfl) (a_C)) ?_
      refine Eq.trans (Eq.trans (r_go (act := oS (fIld 106 2)) rfl rfl) (a_ild rfl)) ?_
      refine Eq.trans (Eq.trans (r_go (act := oS (fIld 107 3)) rfl rfl) (a_ild rfl)) ?_
      refine Eq.trans (Eq.trans (r_go (act := oCV 110 5 (zcv g 1) (X_X1_write g)) rfl rfl) (a_cV rfl (zck (zO_25 g) rfl))) (zbV_cg (fun M7 => ?_))
      exact Eq.trans (r_go (act := oVret) rfl rfl) (a_vret)
set_option maxRecDepth 20000 in
theorem e_X10_floodAny_0 (g : zg) (M : zM) : zX (t_X10_floodAny g) 0 [some (.ref 6), some (.ref 7)] [] M = (zbI (X_X3_kind g [.ref 7] M) (fun x1 M1 => (bif cEq0 x1 then (bif cEq (M1.1 7 7) (-1) then some (none, M1) else (zbI (X_X3_get g [.ref 7, .int (M1.1 7 7), .int 6] M1) (fun x2 M2 => (bif cLt x2 2 then some (none, M2) else (zbV (X_X3_addStand g [.ref 7, .int (M2.1 7 7), .int (-20)] ((zu M2.1 7 8 ((M2.1 7 8) + 1)), M2.2)) (fun M3 => (zbI (X_X3_get g [.ref 7, .int (M3.1 7 7), .int 4] M3) (fun x4 M4 => (zbV (X_X1_write g [.ref 25, .ref 7, .int 2, .int (M3.1 7 7), .int x4] M4) (fun M5 => some (none, M5))))))))))) else some (none, M1)))) := by
  refine Eq.trans (zX_rgN (tl_X10_floodAny g) (hc_X10_floodAny g) 39 _ _ _ _) ?_
  refine Eq.trans (Eq.trans (r_0 (act := oS (fAld 1 1)) rfl) (a_ald rfl)) ?_
  refine Eq.trans (Eq.trans (r_go (act := oCI 4 1 (zcv g 3) (X_X3_kind g)) rfl rfl) (a_cI rfl (zck (zO_7 g) rfl))) (zbI_cg (fun x1 M1 => ?_))
  refine Eq.trans (Eq.trans (r_go (act := oS (fIf 7 71 cEq0)) rfl rfl) (a_if)) (bcg ?_ ?_)
  · refine Eq.trans (Eq.trans (r_go (act := oS (fAld 8 1)) rfl rfl) (a_ald rfl)) ?_
    refine Eq.trans (Eq.trans (r_go (act := oS (fGi g 11 3 7)) rfl rfl) (a_gi (zO_7 g))) ?_
    refine Eq.trans (Eq.trans (r_go (act := oS (fSt 12 (gC (.int (-1))))) rfl rfl) (a_C)) ?_
    refine Eq.trans (Eq.trans (r_go (act := oS (fCm 71 15 cEq)) rfl rfl) (a_cm)) (bcg ?_ ?_)
    · exact Eq.trans (r_go (act := oVret) rfl rfl) (a_vret)
    · refine Eq.trans (Eq.trans (r_go (act := oS (fAld 16 1)) rfl rfl) (a_ald rfl)) ?_
      refine Eq.trans (Eq.trans (r_go (act := oS (fAld 17 1)) rfl rfl) (a_ald rfl)) ?_
      refine Eq.trans (Eq.trans (r_go (act := oS (fGi g 20 3 7)) rfl rfl) (a_gi (zO_7 g))) ?_
      refine Eq.trans (Eq.trans (r_go (act := oS (fSt 22 (gC (.int 6)))) rfl rfl) (a_C)) ?_
      refine Eq.trans (Eq.trans (r_go (act := oCI 25 3 (zcv g 3) (X_X3_get g)) rfl rfl) (a_cI rfl (zck (zO_7 g) rfl))) (zbI_cg (fun x2 M2 => ?_))
      refine Eq.trans (Eq.trans (r_go (act := oS (fSt 26 (gC (.int 2)))) rfl rfl) (a_C)) ?_
      refine Eq.trans (Eq.trans (r_go (act := oS (fCm 71 29 cLt)) rfl rfl) (a_cm)) (bcg ?_ ?_)
      · exact Eq.trans (r_go (act := oVret) rfl rfl) (a_vret)
      · refine Eq.trans (Eq.trans (r_go (act := oS (fAld 30 1)) rfl rfl) (a_ald rfl)) ?_
        refine Eq.trans (Eq.trans (r_go (act := oS (fSt 31 gDup)) rfl rfl) (a_dupR)) ?_
        refine Eq.trans (Eq.trans (r_go (act := oS (fGi g 34 3 8)) rfl rfl) (a_gi (zO_7 g))) ?_
        refine Eq.trans (Eq.trans (r_go (act := oS (fSt 35 (gC (.int 1)))) rfl rfl) (a_C)) ?_
        refine Eq.trans (Eq.trans (r_go (act := oS (fSt 36 (g2 (fun x y => x + y)))) rfl rfl) (a_add)) ?_
        refine Eq.trans (Eq.trans (r_go (act := oS (fPi g 39 3 8)) rfl rfl) (a_pi (zO_7 g))) ?_
        refine Eq.trans (Eq.trans (r_go (act := oS (fAld 40 1)) rfl rfl) (a_ald rfl)) ?_
        refine Eq.trans (Eq.trans (r_go (act := oS (fAld 41 1)) rfl rfl) (a_ald rfl)) ?_
        refine Eq.trans (Eq.trans (r_go (act := oS (fGi g 44 3 7)) rfl rfl) (a_giV (zO_7 g) rfl)) ?_
        refine Eq.trans (Eq.trans (r_go (act := oS (fSt 46 (gC (.int (-20))))) rfl rfl) (a_C)) ?_
        refine Eq.trans (Eq.trans (r_go (act := oCV 49 3 (zcv g 3) (X_X3_addStand g)) rfl rfl) (a_cV rfl (zck (zO_7 g) rfl))) (zbV_cg (fun M3 => ?_))
        refine Eq.trans (Eq.trans (r_go (act := oS (fAld 50 0)) rfl rfl) (a_ald rfl)) ?_
        refine Eq.trans (Eq.trans (r_go (act := oS (fGr g 53 10 4)) rfl rfl) (a_gr (zO_6 g) (zR_6_4 g))) ?_
        refine Eq.trans (Eq.trans (r_go (act := oS (fAld 54 1)) rfl rfl) (a_ald rfl)) ?_
        refine Eq.trans (Eq.trans (r_go (act := oS (fSt 55 (gC (.int 2)))) rfl rfl) (a_C)) ?_
        refine Eq.trans (Eq.trans (r_go (act := oS (fAld 56 1)) rfl rfl) (a_ald rfl)) ?_
        refine Eq.trans (Eq.trans (r_go (act := oS (fGi g 59 3 7)) rfl rfl) (a_gi (zO_7 g))) ?_
        refine Eq.trans (Eq.trans (r_go (act := oS (fAld 60 1)) rfl rfl) (a_ald rfl)) ?_
        refine Eq.trans (Eq.trans (r_go (act := oS (fAld 61 1)) rfl rfl) (a_ald rfl)) ?_
        refine Eq.trans (Eq.trans (r_go (act := oS (fGi g 64 3 7)) rfl rfl) (a_gi (zO_7 g))) ?_
        refine Eq.trans (Eq.trans (r_go (act := oS (fSt 65 (gC (.int 4)))) rfl rfl) (a_C)) ?_
        refine Eq.trans (Eq.trans (r_go (act := oCI 68 3 (zcv g 3) (X_X3_get g)) rfl rfl) (a_cI rfl (zck (zO_7 g) rfl))) (zbI_cg (fun x4 M4 => ?_))
        refine Eq.trans (Eq.trans (r_go (act := oCV 71 5 (zcv g 1) (X_X1_write g)) rfl rfl) (a_cV rfl (zck (zO_25 g) rfl))) (zbV_cg (fun M5 => ?_))
        exact Eq.trans (r_go (act := oVret) rfl rfl) (a_vret)
  · exact Eq.trans (r_go (act := oVret) rfl rfl) (a_vret)
theorem x_X10_floodAny_0 (g : zg) (M : zM) : X_X10_floodAny g [.ref 6, .ref 7] M = (zbI (X_X3_kind g [.ref 7] M) (fun x1 M1 => (bif cEq0 x1 then (bif cEq (M1.1 7 7) (-1) then some (none, M1) else (zbI (X_X3_get g [.ref 7, .int (M1.1 7 7), .int 6] M1) (fun x2 M2 => (bif cLt x2 2 then some (none, M2) else (zbV (X_X3_addStand g [.ref 7, .int (M2.1 7 7), .int (-20)] ((zu M2.1 7 8 ((M2.1 7 8) + 1)), M2.2)) (fun M3 => (zbI (X_X3_get g [.ref 7, .int (M3.1 7 7), .int 4] M3) (fun x4 M4 => (zbV (X_X1_write g [.ref 25, .ref 7, .int 2, .int (M3.1 7 7), .int x4] M4) (fun M5 => some (none, M5))))))))))) else some (none, M1)))) := e_X10_floodAny_0 g M
set_option maxRecDepth 20000 in
theorem e_X10_floodAny_0_1 (g : zg) (M : zM) : zX (t_X10_floodAny g) 0 [some (.ref 6), some (.ref 40)] [] M = (zbI (X_X3_kind g [.ref 40] M) (fun x1 M1 => (bif cEq0 x1 then (bif cEq (M1.1 40 7) (-1) then some (none, M1) else (zbI (X_X3_get g [.ref 40, .int (M1.1 40 7), .int 6] M1) (fun x2 M2 => (bif cLt x2 2 then some (none, M2) else (zbV (X_X3_addStand g [.ref 40, .int (M2.1 40 7), .int (-20)] ((zu M2.1 40 8 ((M2.1 40 8) + 1)), M2.2)) (fun M3 => (zbI (X_X3_get g [.ref 40, .int (M3.1 40 7), .int 4] M3) (fun x4 M4 => (zbV (X_X1_write g [.ref 25, .ref 40, .int 2, .int (M3.1 40 7), .int x4] M4) (fun M5 => some (none, M5))))))))))) else some (none, M1)))) := by
  refine Eq.trans (zX_rgN (tl_X10_floodAny g) (hc_X10_floodAny g) 39 _ _ _ _) ?_
  refine Eq.trans (Eq.trans (r_0 (act := oS (fAld 1 1)) rfl) (a_ald rfl)) ?_
  refine Eq.trans (Eq.trans (r_go (act := oCI 4 1 (zcv g 3) (X_X3_kind g)) rfl rfl) (a_cI rfl (zck (zO_40 g) rfl))) (zbI_cg (fun x1 M1 => ?_))
  refine Eq.trans (Eq.trans (r_go (act := oS (fIf 7 71 cEq0)) rfl rfl) (a_if)) (bcg ?_ ?_)
  · refine Eq.trans (Eq.trans (r_go (act := oS (fAld 8 1)) rfl rfl) (a_ald rfl)) ?_
    refine Eq.trans (Eq.trans (r_go (act := oS (fGi g 11 3 7)) rfl rfl) (a_gi (zO_40 g))) ?_
    refine Eq.trans (Eq.trans (r_go (act := oS (fSt 12 (gC (.int (-1))))) rfl rfl) (a_C)) ?_
    refine Eq.trans (Eq.trans (r_go (act := oS (fCm 71 15 cEq)) rfl rfl) (a_cm)) (bcg ?_ ?_)
    · exact Eq.trans (r_go (act := oVret) rfl rfl) (a_vret)
    · refine Eq.trans (Eq.trans (r_go (act := oS (fAld 16 1)) rfl rfl) (a_ald rfl)) ?_
      refine Eq.trans (Eq.trans (r_go (act := oS (fAld 17 1)) rfl rfl) (a_ald rfl)) ?_
      refine Eq.trans (Eq.trans (r_go (act := oS (fGi g 20 3 7)) rfl rfl) (a_gi (zO_40 g))) ?_
      refine Eq.trans (Eq.trans (r_go (act := oS (fSt 22 (gC (.int 6)))) rfl rfl) (a_C)) ?_
      refine Eq.trans (Eq.trans (r_go (act := oCI 25 3 (zcv g 3) (X_X3_get g)) rfl rfl) (a_cI rfl (zck (zO_40 g) rfl))) (zbI_cg (fun x2 M2 => ?_))
      refine Eq.trans (Eq.trans (r_go (act := oS (fSt 26 (gC (.int 2)))) rfl rfl) (a_C)) ?_
      refine Eq.trans (Eq.trans (r_go (act := oS (fCm 71 29 cLt)) rfl rfl) (a_cm)) (bcg ?_ ?_)
      · exact Eq.trans (r_go (act := oVret) rfl rfl) (a_vret)
      · refine Eq.trans (Eq.trans (r_go (act := oS (fAld 30 1)) rfl rfl) (a_ald rfl)) ?_
        refine Eq.trans (Eq.trans (r_go (act := oS (fSt 31 gDup)) rfl rfl) (a_dupR)) ?_
        refine Eq.trans (Eq.trans (r_go (act := oS (fGi g 34 3 8)) rfl rfl) (a_gi (zO_40 g))) ?_
        refine Eq.trans (Eq.trans (r_go (act := oS (fSt 35 (gC (.int 1)))) rfl rfl) (a_C)) ?_
        refine Eq.trans (Eq.trans (r_go (act := oS (fSt 36 (g2 (fun x y => x + y)))) rfl rfl) (a_add)) ?_
        refine Eq.trans (Eq.trans (r_go (act := oS (fPi g 39 3 8)) rfl rfl) (a_pi (zO_40 g))) ?_
        refine Eq.trans (Eq.trans (r_go (act := oS (fAld 40 1)) rfl rfl) (a_ald rfl)) ?_
        refine Eq.trans (Eq.trans (r_go (act := oS (fAld 41 1)) rfl rfl) (a_ald rfl)) ?_
        refine Eq.trans (Eq.trans (r_go (act := oS (fGi g 44 3 7)) rfl rfl) (a_giV (zO_40 g) rfl)) ?_
        refine Eq.trans (Eq.trans (r_go (act := oS (fSt 46 (gC (.int (-20))))) rfl rfl) (a_C)) ?_
        refine Eq.trans (Eq.trans (r_go (act := oCV 49 3 (zcv g 3) (X_X3_addStand g)) rfl rfl) (a_cV rfl (zck (zO_40 g) rfl))) (zbV_cg (fun M3 => ?_))
        refine Eq.trans (Eq.trans (r_go (act := oS (fAld 50 0)) rfl rfl) (a_ald rfl)) ?_
        refine Eq.trans (Eq.trans (r_go (act := oS (fGr g 53 10 4)) rfl rfl) (a_gr (zO_6 g) (zR_6_4 g))) ?_
        refine Eq.trans (Eq.trans (r_go (act := oS (fAld 54 1)) rfl rfl) (a_ald rfl)) ?_
        refine Eq.trans (Eq.trans (r_go (act := oS (fSt 55 (gC (.int 2)))) rfl rfl) (a_C)) ?_
        refine Eq.trans (Eq.trans (r_go (act := oS (fAld 56 1)) rfl rfl) (a_ald rfl)) ?_
        refine Eq.trans (Eq.trans (r_go (act := oS (fGi g 59 3 7)) rfl rfl) (a_gi (zO_40 g))) ?_
        refine Eq.trans (Eq.trans (r_go (act := oS (fAld 60 1)) rfl rfl) (a_ald rfl)) ?_
        refine Eq.trans (Eq.trans (r_go (act := oS (fAld 61 1)) rfl rfl) (a_ald rfl)) ?_
        refine Eq.trans (Eq.trans (r_go (act := oS (fGi g 64 3 7)) rfl rfl) (a_gi (zO_40 g))) ?_
        refine Eq.trans (Eq.trans (r_go (act := oS (fSt 65 (gC (.int 4)))) rfl rfl) (a_C)) ?_
        refine Eq.trans (Eq.trans (r_go (act := oCI 68 3 (zcv g 3) (X_X3_get g)) rfl rfl) (a_cI rfl (zck (zO_40 g) rfl))) (zbI_cg (fun x4 M4 => ?_))
        refine Eq.trans (Eq.trans (r_go (act := oCV 71 5 (zcv g 1) (X_X1_write g)) rfl rfl) (a_cV rfl (zck (zO_25 g) rfl))) (zbV_cg (fun M5 => ?_))
        exact Eq.trans (r_go (act := oVret) rfl rfl) (a_vret)
  · exact Eq.trans (r_go (act := oVret) rfl rfl) (a_vret)
theorem x_X10_floodAny_0_1 (g : zg) (M : zM) : X_X10_floodAny g [.ref 6, .ref 40] M = (zbI (X_X3_kind g [.ref 40] M) (fun x1 M1 => (bif cEq0 x1 then (bif cEq (M1.1 40 7) (-1) then some (none, M1) else (zbI (X_X3_get g [.ref 40, .int (M1.1 40 7), .int 6] M1) (fun x2 M2 => (bif cLt x2 2 then some (none, M2) else (zbV (X_X3_addStand g [.ref 40, .int (M2.1 40 7), .int (-20)] ((zu M2.1 40 8 ((M2.1 40 8) + 1)), M2.2)) (fun M3 => (zbI (X_X3_get g [.ref 40, .int (M3.1 40 7), .int 4] M3) (fun x4 M4 => (zbV (X_X1_write g [.ref 25, .ref 40, .int 2, .int (M3.1 40 7), .int x4] M4) (fun M5 => some (none, M5))))))))))) else some (none, M1)))) := e_X10_floodAny_0_1 g M
set_option maxRecDepth 20000 in
theorem e_X10_fallAny_0 (g : zg) (M : zM) : zX (t_X10_fallAny g) 0 [some (.ref 6), some (.ref 7), none] [] M = (bif cEq (M.1 7 7) (-1) then some (some (.int (-1)), M) else (zbI (X_X3_get g [.ref 7, .int (M.1 7 7), .int 4] M) (fun x1 M1 => (bif cLt x1 (M1.1 7 6) then (zbV (X_X3_put g [.ref 7, .int (M.1 7 7), .int 5, .int 1] M1) (fun M2 => (zbI (X_X3_get g [.ref 7, .int (M.1 7 7), .int 4] ((zu M2.1 7 7 (-1)), M2.2)) (fun x3 M3 => (zbV (X_X1_write g [.ref 25, .ref 7, .int 3, .int (M.1 7 7), .int x3] M3) (fun M4 => some (some (.int (M.1 7 7)), M4))))))) else some (some (.int (-1)), M1))))) := by
  refine Eq.trans (zX_rgN (tl_X10_fallAny g) (hc_X10_fallAny g) 34 _ _ _ _) ?_
  refine Eq.trans (Eq.trans (r_0 (act := oS (fAld 1 1)) rfl) (a_ald rfl)) ?_
  refine Eq.trans (Eq.trans (r_go (act := oS (fGi g 4 3 7)) rfl rfl) (a_gi (zO_7 g))) ?_
  refine Eq.trans (Eq.trans (r_go (act := oS (fIst 5 2)) rfl rfl) (a_ist rfl rfl)) ?_
  refine Eq.trans (Eq.trans (r_go (act := oS (fIld 6 2)) rfl rfl) (a_ild rfl)) ?_
  refine Eq.trans (Eq.trans (r_go (act := oS (fSt 7 (gC (.int (-1))))) rfl rfl) (a_C)) ?_
  refine Eq.trans (Eq.trans (r_go (act := oS (fCm 23 10 cEq)) rfl rfl) (a_cm)) (bcg ?_ ?_)
  · refine Eq.trans (Eq.trans (r_go (act := oS (fSt 24 (gC (.int (-1))))) rfl rfl) (a_C)) ?_
    exact Eq.trans (r_go (act := oIret) rfl rfl) (a_iret)
  · refine Eq.trans (Eq.trans (r_go (act := oS (fAld 11 1)) rfl rfl) (a_ald rfl)) ?_
    refine Eq.trans (Eq.trans (r_go (act := oS (fIld 12 2)) rfl rfl) (a_ild rfl)) ?_
    refine Eq.trans (Eq.trans (r_go (act := oS (fSt 13 (gC (.int 4)))) rfl rfl) (a_C)) ?_
    refine Eq.trans (Eq.trans (r_go (act := oCI 16 3 (zcv g 3) (X_X3_get g)) rfl rfl) (a_cI rfl (zck (zO_7 g) rfl))) (zbI_cg (fun x1 M1 => ?_))
    refine Eq.trans (Eq.trans (r_go (act := oS (fAld 17 1)) rfl rfl) (a_ald rfl)) ?_
    refine Eq.trans (Eq.trans (r_go (act := oS (fGi g 20 3 6)) rfl rfl) (a_gi (zO_7 g))) ?_
    refine Eq.trans (Eq.trans (r_go (act := oS (fCm 25 23 cLt)) rfl rfl) (a_cm)) (bcg ?_ ?_)
    · refine Eq.trans (Eq.trans (r_go (act := oS (fAld 26 1)) rfl rfl) (a_ald rfl)) ?_
      refine Eq.trans (Eq.trans (r_go (act := oS (fIld 27 2)) rfl rfl) (a_ild rfl)) ?_
      refine Eq.trans (Eq.trans (r_go (act := oS (fSt 28 (gC (.int 5)))) rfl rfl) (a_C)) ?_
      refine Eq.trans (Eq.trans (r_go (act := oS (fSt 29 (gC (.int 1)))) rfl rfl) (a_C)) ?_
      refine Eq.trans (Eq.trans (r_go (act := oCV 32 4 (zcv g 3) (X_X3_put g)) rfl rfl) (a_cV rfl (zck (zO_7 g) rfl))) (zbV_cg (fun M2 => ?_))
      refine Eq.trans (Eq.trans (r_go (act := oS (fAld 33 1)) rfl rfl) (a_ald rfl)) ?_
      refine Eq.trans (Eq.trans (r_go (act := oS (fSt 34 (gC (.int (-1))))) rfl rfl) (a_C)) ?_
      refine Eq.trans (Eq.trans (r_go (act := oS (fPi g 37 3 7)) rfl rfl) (a_pi (zO_7 g))) ?_
      refine Eq.trans (Eq.trans (r_go (act := oS (fAld 38 0)) rfl rfl) (a_ald rfl)) ?_
      refine Eq.trans (Eq.trans (r_go (act := oS (fGr g 41 10 4)) rfl rfl) (a_gr (zO_6 g) (zR_6_4 g))) ?_
      refine Eq.trans (Eq.trans (r_go (act := oS (fAld 42 1)) rfl rfl) (a_ald rfl)) ?_
      refine Eq.trans (Eq.trans (r_go (act := oS (fSt 43 (gC (.int 3)))) rfl rfl) (a_C)) ?_
      refine Eq.trans (Eq.trans (r_go (act := oS (fIld 44 2)) rfl rfl) (a_ild rfl)) ?_
      refine Eq.trans (Eq.trans (r_go (act := oS (fAld 45 1)) rfl rfl) (a_ald rfl)) ?_
      refine Eq.trans (Eq.trans (r_go (act := oS (fIld 46 2)) rfl rfl) (a_ild rfl)) ?_
      refine Eq.trans (Eq.trans (r_go (act := oS (fSt 47 (gC (.int 4)))) rfl rfl) (a_C)) ?_
      refine Eq.trans (Eq.trans (r_go (act := oCI 50 3 (zcv g 3) (X_X3_get g)) rfl rfl) (a_cI rfl (zck (zO_7 g) rfl))) (zbI_cg (fun x3 M3 => ?_))
      refine Eq.trans (Eq.trans (r_go (act := oCV 53 5 (zcv g 1) (X_X1_write g)) rfl rfl) (a_cV rfl (zck (zO_25 g) rfl))) (zbV_cg (fun M4 => ?_))
      refine Eq.trans (Eq.trans (r_go (act := oS (fIld 54 2)) rfl rfl) (a_ild rfl)) ?_
      exact Eq.trans (r_go (act := oIret) rfl rfl) (a_iret)
    · refine Eq.trans (Eq.trans (r_go (act := oS (fSt 24 (gC (.int (-1))))) rfl rfl) (a_C)) ?_
      exact Eq.trans (r_go (act := oIret) rfl rfl) (a_iret)
theorem x_X10_fallAny_0 (g : zg) (M : zM) : X_X10_fallAny g [.ref 6, .ref 7] M = (bif cEq (M.1 7 7) (-1) then some (some (.int (-1)), M) else (zbI (X_X3_get g [.ref 7, .int (M.1 7 7), .int 4] M) (fun x1 M1 => (bif cLt x1 (M1.1 7 6) then (zbV (X_X3_put g [.ref 7, .int (M.1 7 7), .int 5, .int 1] M1) (fun M2 => (zbI (X_X3_get g [.ref 7, .int (M.1 7 7), .int 4] ((zu M2.1 7 7 (-1)), M2.2)) (fun x3 M3 => (zbV (X_X1_write g [.ref 25, .ref 7, .int 3, .int (M.1 7 7), .int x3] M3) (fun M4 => some (some (.int (M.1 7 7)), M4))))))) else some (some (.int (-1)), M1))))) := e_X10_fallAny_0 g M
set_option maxRecDepth 20000 in
theorem e_X10_fallAny_0_1 (g : zg) (M : zM) : zX (t_X10_fallAny g) 0 [some (.ref 6), some (.ref 40), none] [] M = (bif cEq (M.1 40 7) (-1) then some (some (.int (-1)), M) else (zbI (X_X3_get g [.ref 40, .int (M.1 40 7), .int 4] M) (fun x1 M1 => (bif cLt x1 (M1.1 40 6) then (zbV (X_X3_put g [.ref 40, .int (M.1 40 7), .int 5, .int 1] M1) (fun M2 => (zbI (X_X3_get g [.ref 40, .int (M.1 40 7), .int 4] ((zu M2.1 40 7 (-1)), M2.2)) (fun x3 M3 => (zbV (X_X1_write g [.ref 25, .ref 40, .int 3, .int (M.1 40 7), .int x3] M3) (fun M4 => some (some (.int (M.1 40 7)), M4))))))) else some (some (.int (-1)), M1))))) := by
  refine Eq.trans (zX_rgN (tl_X10_fallAny g) (hc_X10_fallAny g) 34 _ _ _ _) ?_
  refine Eq.trans (Eq.trans (r_0 (act := oS (fAld 1 1)) rfl) (a_ald rfl)) ?_
  refine Eq.trans (Eq.trans (r_go (act := oS (fGi g 4 3 7)) rfl rfl) (a_gi (zO_40 g))) ?_
  refine Eq.trans (Eq.trans (r_go (act := oS (fIst 5 2)) rfl rfl) (a_ist rfl rfl)) ?_
  refine Eq.trans (Eq.trans (r_go (act := oS (fIld 6 2)) rfl rfl) (a_ild rfl)) ?_
  refine Eq.trans (Eq.trans (r_go (act := oS (fSt 7 (gC (.int (-1))))) rfl rfl) (a_C)) ?_
  refine Eq.trans (Eq.trans (r_go (act := oS (fCm 23 10 cEq)) rfl rfl) (a_cm)) (bcg ?_ ?_)
  · refine Eq.trans (Eq.trans (r_go (act := oS (fSt 24 (gC (.int (-1))))) rfl rfl) (a_C)) ?_
    exact Eq.trans (r_go (act := oIret) rfl rfl) (a_iret)
  · refine Eq.trans (Eq.trans (r_go (act := oS (fAld 11 1)) rfl rfl) (a_ald rfl)) ?_
    refine Eq.trans (Eq.trans (r_go (act := oS (fIld 12 2)) rfl rfl) (a_ild rfl)) ?_
    refine Eq.trans (Eq.trans (r_go (act := oS (fSt 13 (gC (.int 4)))) rfl rfl) (a_C)) ?_
    refine Eq.trans (Eq.trans (r_go (act := oCI 16 3 (zcv g 3) (X_X3_get g)) rfl rfl) (a_cI rfl (zck (zO_40 g) rfl))) (zbI_cg (fun x1 M1 => ?_))
    refine Eq.trans (Eq.trans (r_go (act := oS (fAld 17 1)) rfl rfl) (a_ald rfl)) ?_
    refine Eq.trans (Eq.trans (r_go (act := oS (fGi g 20 3 6)) rfl rfl) (a_gi (zO_40 g))) ?_
    refine Eq.trans (Eq.trans (r_go (act := oS (fCm 25 23 cLt)) rfl rfl) (a_cm)) (bcg ?_ ?_)
    · refine Eq.trans (Eq.trans (r_go (act := oS (fAld 26 1)) rfl rfl) (a_ald rfl)) ?_
      refine Eq.trans (Eq.trans (r_go (act := oS (fIld 27 2)) rfl rfl) (a_ild rfl)) ?_
      refine Eq.trans (Eq.trans (r_go (act := oS (fSt 28 (gC (.int 5)))) rfl rfl) (a_C)) ?_
      refine Eq.trans (Eq.trans (r_go (act := oS (fSt 29 (gC (.int 1)))) rfl rfl) (a_C)) ?_
      refine Eq.trans (Eq.trans (r_go (act := oCV 32 4 (zcv g 3) (X_X3_put g)) rfl rfl) (a_cV rfl (zck (zO_40 g) rfl))) (zbV_cg (fun M2 => ?_))
      refine Eq.trans (Eq.trans (r_go (act := oS (fAld 33 1)) rfl rfl) (a_ald rfl)) ?_
      refine Eq.trans (Eq.trans (r_go (act := oS (fSt 34 (gC (.int (-1))))) rfl rfl) (a_C)) ?_
      refine Eq.trans (Eq.trans (r_go (act := oS (fPi g 37 3 7)) rfl rfl) (a_pi (zO_40 g))) ?_
      refine Eq.trans (Eq.trans (r_go (act := oS (fAld 38 0)) rfl rfl) (a_ald rfl)) ?_
      refine Eq.trans (Eq.trans (r_go (act := oS (fGr g 41 10 4)) rfl rfl) (a_gr (zO_6 g) (zR_6_4 g))) ?_
      refine Eq.trans (Eq.trans (r_go (act := oS (fAld 42 1)) rfl rfl) (a_ald rfl)) ?_
      refine Eq.trans (Eq.trans (r_go (act := oS (fSt 43 (gC (.int 3)))) rfl rfl) (a_C)) ?_
      refine Eq.trans (Eq.trans (r_go (act := oS (fIld 44 2)) rfl rfl) (a_ild rfl)) ?_
      refine Eq.trans (Eq.trans (r_go (act := oS (fAld 45 1)) rfl rfl) (a_ald rfl)) ?_
      refine Eq.trans (Eq.trans (r_go (act := oS (fIld 46 2)) rfl rfl) (a_ild rfl)) ?_
      refine Eq.trans (Eq.trans (r_go (act := oS (fSt 47 (gC (.int 4)))) rfl rfl) (a_C)) ?_
      refine Eq.trans (Eq.trans (r_go (act := oCI 50 3 (zcv g 3) (X_X3_get g)) rfl rfl) (a_cI rfl (zck (zO_40 g) rfl))) (zbI_cg (fun x3 M3 => ?_))
      refine Eq.trans (Eq.trans (r_go (act := oCV 53 5 (zcv g 1) (X_X1_write g)) rfl rfl) (a_cV rfl (zck (zO_25 g) rfl))) (zbV_cg (fun M4 => ?_))
      refine Eq.trans (Eq.trans (r_go (act := oS (fIld 54 2)) rfl rfl) (a_ild rfl)) ?_
      exact Eq.trans (r_go (act := oIret) rfl rfl) (a_iret)
    · refine Eq.trans (Eq.trans (r_go (act := oS (fSt 24 (gC (.int (-1))))) rfl rfl) (a_C)) ?_
      exact Eq.trans (r_go (act := oIret) rfl rfl) (a_iret)
theorem x_X10_fallAny_0_1 (g : zg) (M : zM) : X_X10_fallAny g [.ref 6, .ref 40] M = (bif cEq (M.1 40 7) (-1) then some (some (.int (-1)), M) else (zbI (X_X3_get g [.ref 40, .int (M.1 40 7), .int 4] M) (fun x1 M1 => (bif cLt x1 (M1.1 40 6) then (zbV (X_X3_put g [.ref 40, .int (M.1 40 7), .int 5, .int 1] M1) (fun M2 => (zbI (X_X3_get g [.ref 40, .int (M.1 40 7), .int 4] ((zu M2.1 40 7 (-1)), M2.2)) (fun x3 M3 => (zbV (X_X1_write g [.ref 25, .ref 40, .int 3, .int (M.1 40 7), .int x3] M3) (fun M4 => some (some (.int (M.1 40 7)), M4))))))) else some (some (.int (-1)), M1))))) := e_X10_fallAny_0_1 g M
set_option maxRecDepth 20000 in
theorem e_X3_bestStanding_0 (g : zg) (M : zM) : zX (t_X3_bestStanding g) 0 [some (.ref 7), none, none] [] M = zX (t_X3_bestStanding g) 4 [some (.ref 7), some (.int (-1)), some (.int 0)] [] M := by
  refine Eq.trans (zX_rgN (tl_X3_bestStanding g) (hc_X3_bestStanding g) 6 _ _ _ _) ?_
  refine Eq.trans (Eq.trans (r_0 (act := oS (fSt 1 (gC (.int (-1))))) rfl) (a_C)) ?_
  refine Eq.trans (Eq.trans (r_go (act := oS (fIst 2 1)) rfl rfl) (a_ist rfl rfl)) ?_
  refine Eq.trans (Eq.trans (r_go (act := oS (fSt 3 (gC (.int 0)))) rfl rfl) (a_C)) ?_
  refine Eq.trans (Eq.trans (r_go (act := oS (fIst 4 2)) rfl rfl) (a_ist rfl rfl)) ?_
  exact r_cut rfl rfl
theorem x_X3_bestStanding_0 (g : zg) (M : zM) : X_X3_bestStanding g [.ref 7] M = zX (t_X3_bestStanding g) 4 [some (.ref 7), some (.int (-1)), some (.int 0)] [] M := e_X3_bestStanding_0 g M
set_option maxRecDepth 20000 in
theorem e_X3_bestStanding_0_1 (g : zg) (M : zM) : zX (t_X3_bestStanding g) 0 [some (.ref 40), none, none] [] M = zX (t_X3_bestStanding g) 4 [some (.ref 40), some (.int (-1)), some (.int 0)] [] M := by
  refine Eq.trans (zX_rgN (tl_X3_bestStanding g) (hc_X3_bestStanding g) 6 _ _ _ _) ?_
  refine Eq.trans (Eq.trans (r_0 (act := oS (fSt 1 (gC (.int (-1))))) rfl) (a_C)) ?_
  refine Eq.trans (Eq.trans (r_go (act := oS (fIst 2 1)) rfl rfl) (a_ist rfl rfl)) ?_
  refine Eq.trans (Eq.trans (r_go (act := oS (fSt 3 (gC (.int 0)))) rfl rfl) (a_C)) ?_
  refine Eq.trans (Eq.trans (r_go (act := oS (fIst 4 2)) rfl rfl) (a_ist rfl rfl)) ?_
  exact r_cut rfl rfl
theorem x_X3_bestStanding_0_1 (g : zg) (M : zM) : X_X3_bestStanding g [.ref 40] M = zX (t_X3_bestStanding g) 4 [some (.ref 40), some (.int (-1)), some (.int 0)] [] M := e_X3_bestStanding_0_1 g M
set_option maxRecDepth 20000 in
theorem e_X3_bestStanding_4 (g : zg) (a1 : Int32) (a2 : Int32) (M : zM) : zX (t_X3_bestStanding g) 4 [some (.ref 7), some (.int a1), some (.int a2)] [] M = (bif cLt a2 (M.1 7 2) then (zbI (X_X3_serving g [.ref 7, .int a2] M) (fun x1 M1 => (bif cEq0 x1 then zX (t_X3_bestStanding g) 4 [some (.ref 7), some (.int a1), some (.int (a2 + 1))] [] M1 else (bif cEq a1 (-1) then zX (t_X3_bestStanding g) 4 [some (.ref 7), some (.int a2), some (.int (a2 + 1))] [] M1 else (zbI (X_X3_get g [.ref 7, .int a2, .int 4] M1) (fun x2 M2 => (zbI (X_X3_get g [.ref 7, .int a1, .int 4] M2) (fun x3 M3 => (bif cGt x2 x3 then zX (t_X3_bestStanding g) 4 [some (.ref 7), some (.int a2), some (.int (a2 + 1))] [] M3 else zX (t_X3_bestStanding g) 4 [some (.ref 7), some (.int a1), some (.int (a2 + 1))] [] M3))))))))) else some (some (.int a1), M)) := by
  refine Eq.trans (zX_rgN (tl_X3_bestStanding g) (hc_X3_bestStanding g) 26 _ _ _ _) ?_
  refine Eq.trans (Eq.trans (Eq.trans (r_0 (act := oF [] (oS (fIld 5 2))) rfl) (a_F rfl)) (a_ild rfl)) ?_
  refine Eq.trans (Eq.trans (r_go (act := oS (fAld 6 0)) rfl rfl) (a_ald rfl)) ?_
  refine Eq.trans (Eq.trans (r_go (act := oS (fGi g 9 3 2)) rfl rfl) (a_gi (zO_7 g))) ?_
  refine Eq.trans (Eq.trans (r_go (act := oS (fCm 12 48 cLt)) rfl rfl) (a_cm)) (bcg ?_ ?_)
  · refine Eq.trans (Eq.trans (r_go (act := oS (fAld 13 0)) rfl rfl) (a_ald rfl)) ?_
    refine Eq.trans (Eq.trans (r_go (act := oS (fIld 14 2)) rfl rfl) (a_ild rfl)) ?_
    refine Eq.trans (Eq.trans (r_go (act := oCI 17 2 (zcv g 3) (X_X3_serving g)) rfl rfl) (a_cI rfl (zck (zO_7 g) rfl))) (zbI_cg (fun x1 M1 => ?_))
    refine Eq.trans (Eq.trans (r_go (act := oS (fIf 42 20 cEq0)) rfl rfl) (a_if)) (bcg ?_ ?_)
    · refine Eq.trans (Eq.trans (r_go (act := oS (fInc 45 2 1)) rfl rfl) (a_inc rfl rfl rfl)) ?_
      refine Eq.trans (Eq.trans (r_go (act := oS (fGo 4)) rfl rfl) (a_goto)) ?_
      exact r_cut rfl rfl
    · refine Eq.trans (Eq.trans (r_go (act := oS (fIld 21 1)) rfl rfl) (a_ild rfl)) ?_
      refine Eq.trans (Eq.trans (r_go (act := oS (fSt 22 (gC (.int (-1))))) rfl rfl) (a_C)) ?_
      refine Eq.trans (Eq.trans (r_go (act := oS (fCm 40 25 cEq)) rfl rfl) (a_cm)) (bcg ?_ ?_)
      · refine Eq.trans (Eq.trans (r_go (act := oS (fIld 41 2)) rfl rfl) (a_ild rfl)) ?_
        refine Eq.trans (Eq.trans (r_go (act := oS (fIst 42 1)) rfl rfl) (a_ist rfl rfl)) ?_
        refine Eq.trans (Eq.trans (r_go (act := oS (fInc 45 2 1)) rfl rfl) (a_inc rfl rfl rfl)) ?_
        refine Eq.trans (Eq.trans (r_go (act := oS (fGo 4)) rfl rfl) (a_goto)) ?_
        exact r_cut rfl rfl
      · refine Eq.trans (Eq.trans (r_go (act := oS (fAld 26 0)) rfl rfl) (a_ald rfl)) ?_
        refine Eq.trans (Eq.trans (r_go (act := oS (fIld 27 2)) rfl rfl) (a_ild rfl)) ?_
        refine Eq.trans (Eq.trans (r_go (act := oS (fSt 28 (gC (.int 4)))) rfl rfl) (a_C)) ?_
        refine Eq.trans (Eq.trans (r_go (act := oCI 31 3 (zcv g 3) (X_X3_get g)) rfl rfl) (a_cI rfl (zck (zO_7 g) rfl))) (zbI_cg (fun x2 M2 => ?_))
        refine Eq.trans (Eq.trans (r_go (act := oS (fAld 32 0)) rfl rfl) (a_ald rfl)) ?_
        refine Eq.trans (Eq.trans (r_go (act := oS (fIld 33 1)) rfl rfl) (a_ild rfl)) ?_
        refine Eq.trans (Eq.trans (r_go (act := oS (fSt 34 (gC (.int 4)))) rfl rfl) (a_C)) ?_
        refine Eq.trans (Eq.trans (r_go (act := oCI 37 3 (zcv g 3) (X_X3_get g)) rfl rfl) (a_cI rfl (zck (zO_7 g) rfl))) (zbI_cg (fun x3 M3 => ?_))
        refine Eq.trans (Eq.trans (r_go (act := oS (fCm 40 42 cGt)) rfl rfl) (a_cm)) (bcg ?_ ?_)
        · refine Eq.trans (Eq.trans (r_go (act := oS (fIld 41 2)) rfl rfl) (a_ild rfl)) ?_
          refine Eq.trans (Eq.trans (r_go (act := oS (fIst 42 1)) rfl rfl) (a_ist rfl rfl)) ?_
          refine Eq.trans (Eq.trans (r_go (act := oS (fInc 45 2 1)) rfl rfl) (a_inc rfl rfl rfl)) ?_
          refine Eq.trans (Eq.trans (r_go (act := oS (fGo 4)) rfl rfl) (a_goto)) ?_
          exact r_cut rfl rfl
        · refine Eq.trans (Eq.trans (r_go (act := oS (fInc 45 2 1)) rfl rfl) (a_inc rfl rfl rfl)) ?_
          refine Eq.trans (Eq.trans (r_go (act := oS (fGo 4)) rfl rfl) (a_goto)) ?_
          exact r_cut rfl rfl
  · refine Eq.trans (Eq.trans (r_go (act := oS (fIld 49 1)) rfl rfl) (a_ild rfl)) ?_
    exact Eq.trans (r_go (act := oIret) rfl rfl) (a_iret)
set_option maxRecDepth 20000 in
theorem e_X3_bestStanding_4_1 (g : zg) (a1 : Int32) (a2 : Int32) (M : zM) : zX (t_X3_bestStanding g) 4 [some (.ref 40), some (.int a1), some (.int a2)] [] M = (bif cLt a2 (M.1 40 2) then (zbI (X_X3_serving g [.ref 40, .int a2] M) (fun x1 M1 => (bif cEq0 x1 then zX (t_X3_bestStanding g) 4 [some (.ref 40), some (.int a1), some (.int (a2 + 1))] [] M1 else (bif cEq a1 (-1) then zX (t_X3_bestStanding g) 4 [some (.ref 40), some (.int a2), some (.int (a2 + 1))] [] M1 else (zbI (X_X3_get g [.ref 40, .int a2, .int 4] M1) (fun x2 M2 => (zbI (X_X3_get g [.ref 40, .int a1, .int 4] M2) (fun x3 M3 => (bif cGt x2 x3 then zX (t_X3_bestStanding g) 4 [some (.ref 40), some (.int a2), some (.int (a2 + 1))] [] M3 else zX (t_X3_bestStanding g) 4 [some (.ref 40), some (.int a1), some (.int (a2 + 1))] [] M3))))))))) else some (some (.int a1), M)) := by
  refine Eq.trans (zX_rgN (tl_X3_bestStanding g) (hc_X3_bestStanding g) 26 _ _ _ _) ?_
  refine Eq.trans (Eq.trans (Eq.trans (r_0 (act := oF [] (oS (fIld 5 2))) rfl) (a_F rfl)) (a_ild rfl)) ?_
  refine Eq.trans (Eq.trans (r_go (act := oS (fAld 6 0)) rfl rfl) (a_ald rfl)) ?_
  refine Eq.trans (Eq.trans (r_go (act := oS (fGi g 9 3 2)) rfl rfl) (a_gi (zO_40 g))) ?_
  refine Eq.trans (Eq.trans (r_go (act := oS (fCm 12 48 cLt)) rfl rfl) (a_cm)) (bcg ?_ ?_)
  · refine Eq.trans (Eq.trans (r_go (act := oS (fAld 13 0)) rfl rfl) (a_ald rfl)) ?_
    refine Eq.trans (Eq.trans (r_go (act := oS (fIld 14 2)) rfl rfl) (a_ild rfl)) ?_
    refine Eq.trans (Eq.trans (r_go (act := oCI 17 2 (zcv g 3) (X_X3_serving g)) rfl rfl) (a_cI rfl (zck (zO_40 g) rfl))) (zbI_cg (fun x1 M1 => ?_))
    refine Eq.trans (Eq.trans (r_go (act := oS (fIf 42 20 cEq0)) rfl rfl) (a_if)) (bcg ?_ ?_)
    · refine Eq.trans (Eq.trans (r_go (act := oS (fInc 45 2 1)) rfl rfl) (a_inc rfl rfl rfl)) ?_
      refine Eq.trans (Eq.trans (r_go (act := oS (fGo 4)) rfl rfl) (a_goto)) ?_
      exact r_cut rfl rfl
    · refine Eq.trans (Eq.trans (r_go (act := oS (fIld 21 1)) rfl rfl) (a_ild rfl)) ?_
      refine Eq.trans (Eq.trans (r_go (act := oS (fSt 22 (gC (.int (-1))))) rfl rfl) (a_C)) ?_
      refine Eq.trans (Eq.trans (r_go (act := oS (fCm 40 25 cEq)) rfl rfl) (a_cm)) (bcg ?_ ?_)
      · refine Eq.trans (Eq.trans (r_go (act := oS (fIld 41 2)) rfl rfl) (a_ild rfl)) ?_
        refine Eq.trans (Eq.trans (r_go (act := oS (fIst 42 1)) rfl rfl) (a_ist rfl rfl)) ?_
        refine Eq.trans (Eq.trans (r_go (act := oS (fInc 45 2 1)) rfl rfl) (a_inc rfl rfl rfl)) ?_
        refine Eq.trans (Eq.trans (r_go (act := oS (fGo 4)) rfl rfl) (a_goto)) ?_
        exact r_cut rfl rfl
      · refine Eq.trans (Eq.trans (r_go (act := oS (fAld 26 0)) rfl rfl) (a_ald rfl)) ?_
        refine Eq.trans (Eq.trans (r_go (act := oS (fIld 27 2)) rfl rfl) (a_ild rfl)) ?_
        refine Eq.trans (Eq.trans (r_go (act := oS (fSt 28 (gC (.int 4)))) rfl rfl) (a_C)) ?_
        refine Eq.trans (Eq.trans (r_go (act := oCI 31 3 (zcv g 3) (X_X3_get g)) rfl rfl) (a_cI rfl (zck (zO_40 g) rfl))) (zbI_cg (fun x2 M2 => ?_))
        refine Eq.trans (Eq.trans (r_go (act := oS (fAld 32 0)) rfl rfl) (a_ald rfl)) ?_
        refine Eq.trans (Eq.trans (r_go (act := oS (fIld 33 1)) rfl rfl) (a_ild rfl)) ?_
        refine Eq.trans (Eq.trans (r_go (act := oS (fSt 34 (gC (.int 4)))) rfl rfl) (a_C)) ?_
        refine Eq.trans (Eq.trans (r_go (act := oCI 37 3 (zcv g 3) (X_X3_get g)) rfl rfl) (a_cI rfl (zck (zO_40 g) rfl))) (zbI_cg (fun x3 M3 => ?_))
        refine Eq.trans (Eq.trans (r_go (act := oS (fCm 40 42 cGt)) rfl rfl) (a_cm)) (bcg ?_ ?_)
        · refine Eq.trans (Eq.trans (r_go (act := oS (fIld 41 2)) rfl rfl) (a_ild rfl)) ?_
          refine Eq.trans (Eq.trans (r_go (act := oS (fIst 42 1)) rfl rfl) (a_ist rfl rfl)) ?_
          refine Eq.trans (Eq.trans (r_go (act := oS (fInc 45 2 1)) rfl rfl) (a_inc rfl rfl rfl)) ?_
          refine Eq.trans (Eq.trans (r_go (act := oS (fGo 4)) rfl rfl) (a_goto)) ?_
          exact r_cut rfl rfl
        · refine Eq.trans (Eq.trans (r_go (act := oS (fInc 45 2 1)) rfl rfl) (a_inc rfl rfl rfl)) ?_
          refine Eq.trans (Eq.trans (r_go (act := oS (fGo 4)) rfl rfl) (a_goto)) ?_
          exact r_cut rfl rfl
  · refine Eq.trans (Eq.trans (r_go (act := oS (fIld 49 1)) rfl rfl) (a_ild rfl)) ?_
    exact Eq.trans (r_go (act := oIret) rfl rfl) (a_iret)
set_option maxRecDepth 20000 in
theorem e_X10_nameAny_0 (g : zg) (M : zM) : zX (t_X10_nameAny g) 0 [some (.ref 6), some (.ref 7)] [] M = (bif cEq (M.1 7 7) (-1) then (zbI (X_X3_bestStanding g [.ref 7] M) (fun x1 M1 => (bif cEq x1 (-1) then some (none, ((zu M1.1 7 7 x1), M1.2)) else (zbV (X_X1_write g [.ref 25, .ref 7, .int 4, .int x1, .int 0] ((zu M1.1 7 7 x1), M1.2)) (fun M2 => some (none, M2)))))) else some (none, M)) := by
  refine Eq.trans (zX_rgN (tl_X10_nameAny g) (hc_X10_nameAny g) 22 _ _ _ _) ?_
  refine Eq.trans (Eq.trans (r_0 (act := oS (fAld 1 1)) rfl) (a_ald rfl)) ?_
  refine Eq.trans (Eq.trans (r_go (act := oS (fGi g 4 3 7)) rfl rfl) (a_gi (zO_7 g))) ?_
  refine Eq.trans (Eq.trans (r_go (act := oS (fSt 5 (gC (.int (-1))))) rfl rfl) (a_C)) ?_
  refine Eq.trans (Eq.trans (r_go (act := oS (fCm 9 8 cEq)) rfl rfl) (a_cm)) (bcg ?_ ?_)
  · refine Eq.trans (Eq.trans (r_go (act := oS (fAld 10 1)) rfl rfl) (a_ald rfl)) ?_
    refine Eq.trans (Eq.trans (r_go (act := oS (fAld 11 1)) rfl rfl) (a_ald rfl)) ?_
    refine Eq.trans (Eq.trans (r_go (act := oCI 14 1 (zcv g 3) (X_X3_bestStanding g)) rfl rfl) (a_cI rfl (zck (zO_7 g) rfl))) (zbI_cg (fun x1 M1 => ?_))
    refine Eq.trans (Eq.trans (r_go (act := oS (fPi g 17 3 7)) rfl rfl) (a_pi (zO_7 g))) ?_
    refine Eq.trans (Eq.trans (r_go (act := oS (fAld 18 1)) rfl rfl) (a_ald rfl)) ?_
    refine Eq.trans (Eq.trans (r_go (act := oS (fGi g 21 3 7)) rfl rfl) (a_giV (zO_7 g) rfl)) ?_
    refine Eq.trans (Eq.trans (r_go (act := oS (fSt 22 (gC (.int (-1))))) rfl rfl) (a_C)) ?_
    refine Eq.trans (Eq.trans (r_go (act := oS (fCm 39 25 cEq)) rfl rfl) (a_cm)) (bcg ?_ ?_)
    · exact Eq.trans (r_go (act := oVret) rfl rfl) (a_vret)
    · refine Eq.trans (Eq.trans (r_go (act := oS (fAld 26 0)) rfl rfl) (a_ald rfl)) ?_
      refine Eq.trans (Eq.trans (r_go (act := oS (fGr g 29 10 4)) rfl rfl) (a_gr (zO_6 g) (zR_6_4 g))) ?_
      refine Eq.trans (Eq.trans (r_go (act := oS (fAld 30 1)) rfl rfl) (a_ald rfl)) ?_
      refine Eq.trans (Eq.trans (r_go (act := oS (fSt 31 (gC (.int 4)))) rfl rfl) (a_C)) ?_
      refine Eq.trans (Eq.trans (r_go (act := oS (fAld 32 1)) rfl rfl) (a_ald rfl)) ?_
      refine Eq.trans (Eq.trans (r_go (act := oS (fGi g 35 3 7)) rfl rfl) (a_giV (zO_7 g) rfl)) ?_
      refine Eq.trans (Eq.trans (r_go (act := oS (fSt 36 (gC (.int 0)))) rfl rfl) (a_C)) ?_
      refine Eq.trans (Eq.trans (r_go (act := oCV 39 5 (zcv g 1) (X_X1_write g)) rfl rfl) (a_cV rfl (zck (zO_25 g) rfl))) (zbV_cg (fun M2 => ?_))
      exact Eq.trans (r_go (act := oVret) rfl rfl) (a_vret)
  · exact Eq.trans (r_go (act := oVret) rfl rfl) (a_vret)
theorem x_X10_nameAny_0 (g : zg) (M : zM) : X_X10_nameAny g [.ref 6, .ref 7] M = (bif cEq (M.1 7 7) (-1) then (zbI (X_X3_bestStanding g [.ref 7] M) (fun x1 M1 => (bif cEq x1 (-1) then some (none, ((zu M1.1 7 7 x1), M1.2)) else (zbV (X_X1_write g [.ref 25, .ref 7, .int 4, .int x1, .int 0] ((zu M1.1 7 7 x1), M1.2)) (fun M2 => some (none, M2)))))) else some (none, M)) := e_X10_nameAny_0 g M
set_option maxRecDepth 20000 in
theorem e_X10_nameAny_0_1 (g : zg) (M : zM) : zX (t_X10_nameAny g) 0 [some (.ref 6), some (.ref 40)] [] M = (bif cEq (M.1 40 7) (-1) then (zbI (X_X3_bestStanding g [.ref 40] M) (fun x1 M1 => (bif cEq x1 (-1) then some (none, ((zu M1.1 40 7 x1), M1.2)) else (zbV (X_X1_write g [.ref 25, .ref 40, .int 4, .int x1, .int 0] ((zu M1.1 40 7 x1), M1.2)) (fun M2 => some (none, M2)))))) else some (none, M)) := by
  refine Eq.trans (zX_rgN (tl_X10_nameAny g) (hc_X10_nameAny g) 22 _ _ _ _) ?_
  refine Eq.trans (Eq.trans (r_0 (act := oS (fAld 1 1)) rfl) (a_ald rfl)) ?_
  refine Eq.trans (Eq.trans (r_go (act := oS (fGi g 4 3 7)) rfl rfl) (a_gi (zO_40 g))) ?_
  refine Eq.trans (Eq.trans (r_go (act := oS (fSt 5 (gC (.int (-1))))) rfl rfl) (a_C)) ?_
  refine Eq.trans (Eq.trans (r_go (act := oS (fCm 9 8 cEq)) rfl rfl) (a_cm)) (bcg ?_ ?_)
  · refine Eq.trans (Eq.trans (r_go (act := oS (fAld 10 1)) rfl rfl) (a_ald rfl)) ?_
    refine Eq.trans (Eq.trans (r_go (act := oS (fAld 11 1)) rfl rfl) (a_ald rfl)) ?_
    refine Eq.trans (Eq.trans (r_go (act := oCI 14 1 (zcv g 3) (X_X3_bestStanding g)) rfl rfl) (a_cI rfl (zck (zO_40 g) rfl))) (zbI_cg (fun x1 M1 => ?_))
    refine Eq.trans (Eq.trans (r_go (act := oS (fPi g 17 3 7)) rfl rfl) (a_pi (zO_40 g))) ?_
    refine Eq.trans (Eq.trans (r_go (act := oS (fAld 18 1)) rfl rfl) (a_ald rfl)) ?_
    refine Eq.trans (Eq.trans (r_go (act := oS (fGi g 21 3 7)) rfl rfl) (a_giV (zO_40 g) rfl)) ?_
    refine Eq.trans (Eq.trans (r_go (act := oS (fSt 22 (gC (.int (-1))))) rfl rfl) (a_C)) ?_
    refine Eq.trans (Eq.trans (r_go (act := oS (fCm 39 25 cEq)) rfl rfl) (a_cm)) (bcg ?_ ?_)
    · exact Eq.trans (r_go (act := oVret) rfl rfl) (a_vret)
    · refine Eq.trans (Eq.trans (r_go (act := oS (fAld 26 0)) rfl rfl) (a_ald rfl)) ?_
      refine Eq.trans (Eq.trans (r_go (act := oS (fGr g 29 10 4)) rfl rfl) (a_gr (zO_6 g) (zR_6_4 g))) ?_
      refine Eq.trans (Eq.trans (r_go (act := oS (fAld 30 1)) rfl rfl) (a_ald rfl)) ?_
      refine Eq.trans (Eq.trans (r_go (act := oS (fSt 31 (gC (.int 4)))) rfl rfl) (a_C)) ?_
      refine Eq.trans (Eq.trans (r_go (act := oS (fAld 32 1)) rfl rfl) (a_ald rfl)) ?_
      refine Eq.trans (Eq.trans (r_go (act := oS (fGi g 35 3 7)) rfl rfl) (a_giV (zO_40 g) rfl)) ?_
      refine Eq.trans (Eq.trans (r_go (act := oS (fSt 36 (gC (.int 0)))) rfl rfl) (a_C)) ?_
      refine Eq.trans (Eq.trans (r_go (act := oCV 39 5 (zcv g 1) (X_X1_write g)) rfl rfl) (a_cV rfl (zck (zO_25 g) rfl))) (zbV_cg (fun M2 => ?_))
      exact Eq.trans (r_go (act := oVret) rfl rfl) (a_vret)
  · exact Eq.trans (r_go (act := oVret) rfl rfl) (a_vret)
theorem x_X10_nameAny_0_1 (g : zg) (M : zM) : X_X10_nameAny g [.ref 6, .ref 40] M = (bif cEq (M.1 40 7) (-1) then (zbI (X_X3_bestStanding g [.ref 40] M) (fun x1 M1 => (bif cEq x1 (-1) then some (none, ((zu M1.1 40 7 x1), M1.2)) else (zbV (X_X1_write g [.ref 25, .ref 40, .int 4, .int x1, .int 0] ((zu M1.1 40 7 x1), M1.2)) (fun M2 => some (none, M2)))))) else some (none, M)) := e_X10_nameAny_0_1 g M
set_option maxRecDepth 20000 in
theorem e_X10_pass_0 (g : zg) (M : zM) : zX (t_X10_pass g) 0 [some (.ref 6), some (.ref 7), none, none] [] M = (zbV (X_X10_followAgenda g [.ref 6, .ref 7] M) (fun M1 => (zbI (X_X10_tellAll g [.ref 6, .ref 7] M1) (fun x2 M2 => (zbV (X_X10_moveGlass g [.ref 6, .ref 7] M2) (fun M3 => (zbI (X_X3_kind g [.ref 7] M3) (fun x4 M4 => (zbV (X_X1_write g [.ref 25, .ref 7, .int 0, .int x4, .int (M4.1 7 4)] M4) (fun M5 => (bif cEq0 x2 then (zbV (X_X10_blameAll g [.ref 6, .ref 7] M5) (fun M6 => (zbV (X_X10_floodAny g [.ref 6, .ref 7] M6) (fun M7 => (zbI (X_X10_fallAny g [.ref 6, .ref 7] M7) (fun x8 M8 => (zbV (X_X10_nameAny g [.ref 6, .ref 7] M8) (fun M9 => some (some (.int x8), ((zu M9.1 7 10 ((M9.1 7 10) + 1)), M9.2)))))))))) else (bif cEq0 (M5.1 7 0) then (zbV (X_X10_blameAll g [.ref 6, .ref 7] M5) (fun M10 => (zbV (X_X10_floodAny g [.ref 6, .ref 7] M10) (fun M11 => (zbI (X_X10_fallAny g [.ref 6, .ref 7] M11) (fun x12 M12 => (zbV (X_X10_nameAny g [.ref 6, .ref 7] M12) (fun M13 => some (some (.int x12), ((zu M13.1 7 10 ((M13.1 7 10) + 1)), M13.2)))))))))) else (zbV (X_X5_add g [.ref 27, .ref 7] M5) (fun M14 => (zbV (X_X10_blameAll g [.ref 6, .ref 7] M14) (fun M15 => (zbV (X_X10_floodAny g [.ref 6, .ref 7] M15) (fun M16 => (zbI (X_X10_fallAny g [.ref 6, .ref 7] M16) (fun x17 M17 => (zbV (X_X10_nameAny g [.ref 6, .ref 7] M17) (fun M18 => some (some (.int x17), ((zu M18.1 7 10 ((M18.1 7 10) + 1)), M18.2)))))))))))))))))))))))) := by
  refine Eq.trans (zX_rgN (tl_X10_pass g) (hc_X10_pass g) 50 _ _ _ _) ?_
  refine Eq.trans (Eq.trans (r_0 (act := oS (fAld 1 0)) rfl) (a_ald rfl)) ?_
  refine Eq.trans (Eq.trans (r_go (act := oS (fAld 2 1)) rfl rfl) (a_ald rfl)) ?_
  refine Eq.trans (Eq.trans (r_go (act := oCV 5 2 (zcv g 10) (X_X10_followAgenda g)) rfl rfl) (a_cV rfl (zck (zO_6 g) rfl))) (zbV_cg (fun M1 => ?_))
  refine Eq.trans (Eq.trans (r_go (act := oS (fAld 6 0)) rfl rfl) (a_ald rfl)) ?_
  refine Eq.trans (Eq.trans (r_go (act := oS (fAld 7 1)) rfl rfl) (a_ald rfl)) ?_
  refine Eq.trans (Eq.trans (r_go (act := oCI 10 2 (zcv g 10) (X_X10_tellAll g)) rfl rfl) (a_cI rfl (zck (zO_6 g) rfl))) (zbI_cg (fun x2 M2 => ?_))
  refine Eq.trans (Eq.trans (r_go (act := oS (fIst 11 2)) rfl rfl) (a_ist rfl rfl)) ?_
  refine Eq.trans (Eq.trans (r_go (act := oS (fAld 12 0)) rfl rfl) (a_ald rfl)) ?_
  refine Eq.trans (Eq.trans (r_go (act := oS (fAld 13 1)) rfl rfl) (a_ald rfl)) ?_
  refine Eq.trans (Eq.trans (r_go (act := oCV 16 2 (zcv g 10) (X_X10_moveGlass g)) rfl rfl) (a_cV rfl (zck (zO_6 g) rfl))) (zbV_cg (fun M3 => ?_))
  refine Eq.trans (Eq.trans (r_go (act := oS (fAld 17 0)) rfl rfl) (a_ald rfl)) ?_
  refine Eq.trans (Eq.trans (r_go (act := oS (fGr g 20 10 4)) rfl rfl) (a_gr (zO_6 g) (zR_6_4 g))) ?_
  refine Eq.trans (Eq.trans (r_go (act := oS (fAld 21 1)) rfl rfl) (a_ald rfl)) ?_
  refine Eq.trans (Eq.trans (r_go (act := oS (fSt 22 (gC (.int 0)))) rfl rfl) (a_C)) ?_
  refine Eq.trans (Eq.trans (r_go (act := oS (fAld 23 1)) rfl rfl) (a_ald rfl)) ?_
  refine Eq.trans (Eq.trans (r_go (act := oCI 26 1 (zcv g 3) (X_X3_kind g)) rfl rfl) (a_cI rfl (zck (zO_7 g) rfl))) (zbI_cg (fun x4 M4 => ?_))
  refine Eq.trans (Eq.trans (r_go (act := oS (fAld 27 1)) rfl rfl) (a_ald rfl)) ?_
  refine Eq.trans (Eq.trans (r_go (act := oS (fGi g 30 3 4)) rfl rfl) (a_gi (zO_7 g))) ?_
  refine Eq.trans (Eq.trans (r_go (act := oCV 33 5 (zcv g 1) (X_X1_write g)) rfl rfl) (a_cV rfl (zck (zO_25 g) rfl))) (zbV_cg (fun M5 => ?_))
  refine Eq.trans (Eq.trans (r_go (act := oS (fIld 34 2)) rfl rfl) (a_ild rfl)) ?_
  refine Eq.trans (Eq.trans (r_go (act := oS (fIf 52 37 cEq0)) rfl rfl) (a_if)) (bcg ?_ ?_)
  · refine Eq.trans (Eq.trans (r_go (act := oS (fAld 53 0)) rfl rfl) (a_ald rfl)) ?_
    refine Eq.trans (Eq.trans (r_go (act := oS (fAld 54 1)) rfl rfl) (a_ald rfl)) ?_
    refine Eq.trans (Eq.trans (r_go (act := oCV 57 2 (zcv g 10) (X_X10_blameAll g)) rfl rfl) (a_cV rfl (zck (zO_6 g) rfl))) (zbV_cg (fun M6 => ?_))
    refine Eq.trans (Eq.trans (r_go (act := oS (fAld 58 0)) rfl rfl) (a_ald rfl)) ?_
    refine Eq.trans (Eq.trans (r_go (act := oS (fAld 59 1)) rfl rfl) (a_ald rfl)) ?_
    refine Eq.trans (Eq.trans (r_go (act := oCV 62 2 (zcv g 10) (X_X10_floodAny g)) rfl rfl) (a_cV rfl (zck (zO_6 g) rfl))) (zbV_cg (fun M7 => ?_))
    refine Eq.trans (Eq.trans (r_go (act := oS (fAld 63 0)) rfl rfl) (a_ald rfl)) ?_
    refine Eq.trans (Eq.trans (r_go (act := oS (fAld 64 1)) rfl rfl) (a_ald rfl)) ?_
    refine Eq.trans (Eq.trans (r_go (act := oCI 67 2 (zcv g 10) (X_X10_fallAny g)) rfl rfl) (a_cI rfl (zck (zO_6 g) rfl))) (zbI_cg (fun x8 M8 => ?_))
    refine Eq.trans (Eq.trans (r_go (act := oS (fIst 68 3)) rfl rfl) (a_ist rfl rfl)) ?_
    refine Eq.trans (Eq.trans (r_go (act := oS (fAld 69 0)) rfl rfl) (a_ald rfl)) ?_
    refine Eq.trans (Eq.trans (r_go (act := oS (fAld 70 1)) rfl rfl) (a_ald rfl)) ?_
    refine Eq.trans (Eq.trans (r_go (act := oCV 73 2 (zcv g 10) (X_X10_nameAny g)) rfl rfl) (a_cV rfl (zck (zO_6 g) rfl))) (zbV_cg (fun M9 => ?_))
    refine Eq.trans (Eq.trans (r_go (act := oS (fAld 74 1)) rfl rfl) (a_ald rfl)) ?_
    refine Eq.trans (Eq.trans (r_go (act := oS (fSt 75 gDup)) rfl rfl) (a_dupR)) ?_
    refine Eq.trans (Eq.trans (r_go (act := oS (fGi g 78 3 10)) rfl rfl) (a_gi (zO_7 g))) ?_
    refine Eq.trans (Eq.trans (r_go (act := oS (fSt 79 (gC (.int 1)))) rfl rfl) (a_C)) ?_
    refine Eq.trans (Eq.trans (r_go (act := oS (fSt 80 (g2 (fun x y => x + y)))) rfl rfl) (a_add)) ?_
    refine Eq.trans (Eq.trans (r_go (act := oS (fPi g 83 3 10)) rfl rfl) (a_pi (zO_7 g))) ?_
    refine Eq.trans (Eq.trans (r_go (act := oS (fIld 84 3)) rfl rfl) (a_ild rfl)) ?_
    exact Eq.trans (r_go (act := oIret) rfl rfl) (a_iret)
  · refine Eq.trans (Eq.trans (r_go (act := oS (fAld 38 1)) rfl rfl) (a_ald rfl)) ?_
    refine Eq.trans (Eq.trans (r_go (act := oS (fGi g 41 3 0)) rfl rfl) (a_gi (zO_7 g))) ?_
    refine Eq.trans (Eq.trans (r_go (act := oS (fIf 52 44 cEq0)) rfl rfl) (a_if)) (bcg ?_ ?_)
    · refine Eq.trans (Eq.trans (r_go (act := oS (fAld 53 0)) rfl rfl) (a_ald rfl)) ?_
      refine Eq.trans (Eq.trans (r_go (act := oS (fAld 54 1)) rfl rfl) (a_ald rfl)) ?_
      refine Eq.trans (Eq.trans (r_go (act := oCV 57 2 (zcv g 10) (X_X10_blameAll g)) rfl rfl) (a_cV rfl (zck (zO_6 g) rfl))) (zbV_cg (fun M10 => ?_))
      refine Eq.trans (Eq.trans (r_go (act := oS (fAld 58 0)) rfl rfl) (a_ald rfl)) ?_
      refine Eq.trans (Eq.trans (r_go (act := oS (fAld 59 1)) rfl rfl) (a_ald rfl)) ?_
      refine Eq.trans (Eq.trans (r_go (act := oCV 62 2 (zcv g 10) (X_X10_floodAny g)) rfl rfl) (a_cV rfl (zck (zO_6 g) rfl))) (zbV_cg (fun M11 => ?_))
      refine Eq.trans (Eq.trans (r_go (act := oS (fAld 63 0)) rfl rfl) (a_ald rfl)) ?_
      refine Eq.trans (Eq.trans (r_go (act := oS (fAld 64 1)) rfl rfl) (a_ald rfl)) ?_
      refine Eq.trans (Eq.trans (r_go (act := oCI 67 2 (zcv g 10) (X_X10_fallAny g)) rfl rfl) (a_cI rfl (zck (zO_6 g) rfl))) (zbI_cg (fun x12 M12 => ?_))
      refine Eq.trans (Eq.trans (r_go (act := oS (fIst 68 3)) rfl rfl) (a_ist rfl rfl)) ?_
      refine Eq.trans (Eq.trans (r_go (act := oS (fAld 69 0)) rfl rfl) (a_ald rfl)) ?_
      refine Eq.trans (Eq.trans (r_go (act := oS (fAld 70 1)) rfl rfl) (a_ald rfl)) ?_
      refine Eq.trans (Eq.trans (r_go (act := oCV 73 2 (zcv g 10) (X_X10_nameAny g)) rfl rfl) (a_cV rfl (zck (zO_6 g) rfl))) (zbV_cg (fun M13 => ?_))
      refine Eq.trans (Eq.trans (r_go (act := oS (fAld 74 1)) rfl rfl) (a_ald rfl)) ?_
      refine Eq.trans (Eq.trans (r_go (act := oS (fSt 75 gDup)) rfl rfl) (a_dupR)) ?_
      refine Eq.trans (Eq.trans (r_go (act := oS (fGi g 78 3 10)) rfl rfl) (a_gi (zO_7 g))) ?_
      refine Eq.trans (Eq.trans (r_go (act := oS (fSt 79 (gC (.int 1)))) rfl rfl) (a_C)) ?_
      refine Eq.trans (Eq.trans (r_go (act := oS (fSt 80 (g2 (fun x y => x + y)))) rfl rfl) (a_add)) ?_
      refine Eq.trans (Eq.trans (r_go (act := oS (fPi g 83 3 10)) rfl rfl) (a_pi (zO_7 g))) ?_
      refine Eq.trans (Eq.trans (r_go (act := oS (fIld 84 3)) rfl rfl) (a_ild rfl)) ?_
      exact Eq.trans (r_go (act := oIret) rfl rfl) (a_iret)
    · refine Eq.trans (Eq.trans (r_go (act := oS (fAld 45 0)) rfl rfl) (a_ald rfl)) ?_
      refine Eq.trans (Eq.trans (r_go (act := oS (fGr g 48 10 5)) rfl rfl) (a_gr (zO_6 g) (zR_6_5 g))) ?_
      refine Eq.trans (Eq.trans (r_go (act := oS (fAld 49 1)) rfl rfl) (a_ald rfl)) ?_
      refine Eq.trans (Eq.trans (r_go (act := oCV 52 2 (zcv g 5) (X_X5_add g)) rfl rfl) (a_cV rfl (zck (zO_27 g) rfl))) (zbV_cg (fun M14 => ?_))
      refine Eq.trans (Eq.trans (r_go (act := oS (fAld 53 0)) rfl rfl) (a_ald rfl)) ?_
      refine Eq.trans (Eq.trans (r_go (act := oS (fAld 54 1)) rfl rfl) (a_ald rfl)) ?_
      refine Eq.trans (Eq.trans (r_go (act := oCV 57 2 (zcv g 10) (X_X10_blameAll g)) rfl rfl) (a_cV rfl (zck (zO_6 g) rfl))) (zbV_cg (fun M15 => ?_))
      refine Eq.trans (Eq.trans (r_go (act := oS (fAld 58 0)) rfl rfl) (a_ald rfl)) ?_
      refine Eq.trans (Eq.trans (r_go (act := oS (fAld 59 1)) rfl rfl) (a_ald rfl)) ?_
      refine Eq.trans (Eq.trans (r_go (act := oCV 62 2 (zcv g 10) (X_X10_floodAny g)) rfl rfl) (a_cV rfl (zck (zO_6 g) rfl))) (zbV_cg (fun M16 => ?_))
      refine Eq.trans (Eq.trans (r_go (act := oS (fAld 63 0)) rfl rfl) (a_ald rfl)) ?_
      refine Eq.trans (Eq.trans (r_go (act := oS (fAld 64 1)) rfl rfl) (a_ald rfl)) ?_
      refine Eq.trans (Eq.trans (r_go (act := oCI 67 2 (zcv g 10) (X_X10_fallAny g)) rfl rfl) (a_cI rfl (zck (zO_6 g) rfl))) (zbI_cg (fun x17 M17 => ?_))
      refine Eq.trans (Eq.trans (r_go (act := oS (fIst 68 3)) rfl rfl) (a_ist rfl rfl)) ?_
      refine Eq.trans (Eq.trans (r_go (act := oS (fAld 69 0)) rfl rfl) (a_ald rfl)) ?_
      refine Eq.trans (Eq.trans (r_go (act := oS (fAld 70 1)) rfl rfl) (a_ald rfl)) ?_
      refine Eq.trans (Eq.trans (r_go (act := oCV 73 2 (zcv g 10) (X_X10_nameAny g)) rfl rfl) (a_cV rfl (zck (zO_6 g) rfl))) (zbV_cg (fun M18 => ?_))
      refine Eq.trans (Eq.trans (r_go (act := oS (fAld 74 1)) rfl rfl) (a_ald rfl)) ?_
      refine Eq.trans (Eq.trans (r_go (act := oS (fSt 75 gDup)) rfl rfl) (a_dupR)) ?_
      refine Eq.trans (Eq.trans (r_go (act := oS (fGi g 78 3 10)) rfl rfl) (a_gi (zO_7 g))) ?_
      refine Eq.trans (Eq.trans (r_go (act := oS (fSt 79 (gC (.int 1)))) rfl rfl) (a_C)) ?_
      refine Eq.trans (Eq.trans (r_go (act := oS (fSt 80 (g2 (fun x y => x + y)))) rfl rfl) (a_add)) ?_
      refine Eq.trans (Eq.trans (r_go (act := oS (fPi g 83 3 10)) rfl rfl) (a_pi (zO_7 g))) ?_
      refine Eq.trans (Eq.trans (r_go (act := oS (fIld 84 3)) rfl rfl) (a_ild rfl)) ?_
      exact Eq.trans (r_go (act := oIret) rfl rfl) (a_iret)
theorem x_X10_pass_0 (g : zg) (M : zM) : X_X10_pass g [.ref 6, .ref 7] M = (zbV (X_X10_followAgenda g [.ref 6, .ref 7] M) (fun M1 => (zbI (X_X10_tellAll g [.ref 6, .ref 7] M1) (fun x2 M2 => (zbV (X_X10_moveGlass g [.ref 6, .ref 7] M2) (fun M3 => (zbI (X_X3_kind g [.ref 7] M3) (fun x4 M4 => (zbV (X_X1_write g [.ref 25, .ref 7, .int 0, .int x4, .int (M4.1 7 4)] M4) (fun M5 => (bif cEq0 x2 then (zbV (X_X10_blameAll g [.ref 6, .ref 7] M5) (fun M6 => (zbV (X_X10_floodAny g [.ref 6, .ref 7] M6) (fun M7 => (zbI (X_X10_fallAny g [.ref 6, .ref 7] M7) (fun x8 M8 => (zbV (X_X10_nameAny g [.ref 6, .ref 7] M8) (fun M9 => some (some (.int x8), ((zu M9.1 7 10 ((M9.1 7 10) + 1)), M9.2)))))))))) else (bif cEq0 (M5.1 7 0) then (zbV (X_X10_blameAll g [.ref 6, .ref 7] M5) (fun M10 => (zbV (X_X10_floodAny g [.ref 6, .ref 7] M10) (fun M11 => (zbI (X_X10_fallAny g [.ref 6, .ref 7] M11) (fun x12 M12 => (zbV (X_X10_nameAny g [.ref 6, .ref 7] M12) (fun M13 => some (some (.int x12), ((zu M13.1 7 10 ((M13.1 7 10) + 1)), M13.2)))))))))) else (zbV (X_X5_add g [.ref 27, .ref 7] M5) (fun M14 => (zbV (X_X10_blameAll g [.ref 6, .ref 7] M14) (fun M15 => (zbV (X_X10_floodAny g [.ref 6, .ref 7] M15) (fun M16 => (zbI (X_X10_fallAny g [.ref 6, .ref 7] M16) (fun x17 M17 => (zbV (X_X10_nameAny g [.ref 6, .ref 7] M17) (fun M18 => some (some (.int x17), ((zu M18.1 7 10 ((M18.1 7 10) + 1)), M18.2)))))))))))))))))))))))) := e_X10_pass_0 g M
set_option maxRecDepth 20000 in
theorem e_X10_pass_0_1 (g : zg) (M : zM) : zX (t_X10_pass g) 0 [some (.ref 6), some (.ref 40), none, none] [] M = (zbV (X_X10_followAgenda g [.ref 6, .ref 40] M) (fun M1 => (zbI (X_X10_tellAll g [.ref 6, .ref 40] M1) (fun x2 M2 => (zbV (X_X10_moveGlass g [.ref 6, .ref 40] M2) (fun M3 => (zbI (X_X3_kind g [.ref 40] M3) (fun x4 M4 => (zbV (X_X1_write g [.ref 25, .ref 40, .int 0, .int x4, .int (M4.1 40 4)] M4) (fun M5 => (bif cEq0 x2 then (zbV (X_X10_blameAll g [.ref 6, .ref 40] M5) (fun M6 => (zbV (X_X10_floodAny g [.ref 6, .ref 40] M6) (fun M7 => (zbI (X_X10_fallAny g [.ref 6, .ref 40] M7) (fun x8 M8 => (zbV (X_X10_nameAny g [.ref 6, .ref 40] M8) (fun M9 => some (some (.int x8), ((zu M9.1 40 10 ((M9.1 40 10) + 1)), M9.2)))))))))) else (bif cEq0 (M5.1 40 0) then (zbV (X_X10_blameAll g [.ref 6, .ref 40] M5) (fun M10 => (zbV (X_X10_floodAny g [.ref 6, .ref 40] M10) (fun M11 => (zbI (X_X10_fallAny g [.ref 6, .ref 40] M11) (fun x12 M12 => (zbV (X_X10_nameAny g [.ref 6, .ref 40] M12) (fun M13 => some (some (.int x12), ((zu M13.1 40 10 ((M13.1 40 10) + 1)), M13.2)))))))))) else (zbV (X_X5_add g [.ref 27, .ref 40] M5) (fun M14 => (zbV (X_X10_blameAll g [.ref 6, .ref 40] M14) (fun M15 => (zbV (X_X10_floodAny g [.ref 6, .ref 40] M15) (fun M16 => (zbI (X_X10_fallAny g [.ref 6, .ref 40] M16) (fun x17 M17 => (zbV (X_X10_nameAny g [.ref 6, .ref 40] M17) (fun M18 => some (some (.int x17), ((zu M18.1 40 10 ((M18.1 40 10) + 1)), M18.2)))))))))))))))))))))))) := by
  refine Eq.trans (zX_rgN (tl_X10_pass g) (hc_X10_pass g) 50 _ _ _ _) ?_
  refine Eq.trans (Eq.trans (r_0 (act := oS (fAld 1 0)) rfl) (a_ald rfl)) ?_
  refine Eq.trans (Eq.trans (r_go (act := oS (fAld 2 1)) rfl rfl) (a_ald rfl)) ?_
  refine Eq.trans (Eq.trans (r_go (act := oCV 5 2 (zcv g 10) (X_X10_followAgenda g)) rfl rfl) (a_cV rfl (zck (zO_6 g) rfl))) (zbV_cg (fun M1 => ?_))
  refine Eq.trans (Eq.trans (r_go (act := oS (fAld 6 0)) rfl rfl) (a_ald rfl)) ?_
  refine Eq.trans (Eq.trans (r_go (act := oS (fAld 7 1)) rfl rfl) (a_ald rfl)) ?_
  refine Eq.trans (Eq.trans (r_go (act := oCI 10 2 (zcv g 10) (X_X10_tellAll g)) rfl rfl) (a_cI rfl (zck (zO_6 g) rfl))) (zbI_cg (fun x2 M2 => ?_))
  refine Eq.trans (Eq.trans (r_go (act := oS (fIst 11 2)) rfl rfl) (a_ist rfl rfl)) ?_
  refine Eq.trans (Eq.trans (r_go (act := oS (fAld 12 0)) rfl rfl) (a_ald rfl)) ?_
  refine Eq.trans (Eq.trans (r_go (act := oS (fAld 13 1)) rfl rfl) (a_ald rfl)) ?_
  refine Eq.trans (Eq.trans (r_go (act := oCV 16 2 (zcv g 10) (X_X10_moveGlass g)) rfl rfl) (a_cV rfl (zck (zO_6 g) rfl))) (zbV_cg (fun M3 => ?_))
  refine Eq.trans (Eq.trans (r_go (act := oS (fAld 17 0)) rfl rfl) (a_ald rfl)) ?_
  refine Eq.trans (Eq.trans (r_go (act := oS (fGr g 20 10 4)) rfl rfl) (a_gr (zO_6 g) (zR_6_4 g))) ?_
  refine Eq.trans (Eq.trans (r_go (act := oS (fAld 21 1)) rfl rfl) (a_ald rfl)) ?_
  refine Eq.trans (Eq.trans (r_go (act := oS (fSt 22 (gC (.int 0)))) rfl rfl) (a_C)) ?_
  refine Eq.trans (Eq.trans (r_go (act := oS (fAld 23 1)) rfl rfl) (a_ald rfl)) ?_
  refine Eq.trans (Eq.trans (r_go (act := oCI 26 1 (zcv g 3) (X_X3_kind g)) rfl rfl) (a_cI rfl (zck (zO_40 g) rfl))) (zbI_cg (fun x4 M4 => ?_))
  refine Eq.trans (Eq.trans (r_go (act := oS (fAld 27 1)) rfl rfl) (a_ald rfl)) ?_
  refine Eq.trans (Eq.trans (r_go (act := oS (fGi g 30 3 4)) rfl rfl) (a_gi (zO_40 g))) ?_
  refine Eq.trans (Eq.trans (r_go (act := oCV 33 5 (zcv g 1) (X_X1_write g)) rfl rfl) (a_cV rfl (zck (zO_25 g) rfl))) (zbV_cg (fun M5 => ?_))
  refine Eq.trans (Eq.trans (r_go (act := oS (fIld 34 2)) rfl rfl) (a_ild rfl)) ?_
  refine Eq.trans (Eq.trans (r_go (act := oS (fIf 52 37 cEq0)) rfl rfl) (a_if)) (bcg ?_ ?_)
  · refine Eq.trans (Eq.trans (r_go (act := oS (fAld 53 0)) rfl rfl) (a_ald rfl)) ?_
    refine Eq.trans (Eq.trans (r_go (act := oS (fAld 54 1)) rfl rfl) (a_ald rfl)) ?_
    refine Eq.trans (Eq.trans (r_go (act := oCV 57 2 (zcv g 10) (X_X10_blameAll g)) rfl rfl) (a_cV rfl (zck (zO_6 g) rfl))) (zbV_cg (fun M6 => ?_))
    refine Eq.trans (Eq.trans (r_go (act := oS (fAld 58 0)) rfl rfl) (a_ald rfl)) ?_
    refine Eq.trans (Eq.trans (r_go (act := oS (fAld 59 1)) rfl rfl) (a_ald rfl)) ?_
    refine Eq.trans (Eq.trans (r_go (act := oCV 62 2 (zcv g 10) (X_X10_floodAny g)) rfl rfl) (a_cV rfl (zck (zO_6 g) rfl))) (zbV_cg (fun M7 => ?_))
    refine Eq.trans (Eq.trans (r_go (act := oS (fAld 63 0)) rfl rfl) (a_ald rfl)) ?_
    refine Eq.trans (Eq.trans (r_go (act := oS (fAld 64 1)) rfl rfl) (a_ald rfl)) ?_
    refine Eq.trans (Eq.trans (r_go (act := oCI 67 2 (zcv g 10) (X_X10_fallAny g)) rfl rfl) (a_cI rfl (zck (zO_6 g) rfl))) (zbI_cg (fun x8 M8 => ?_))
    refine Eq.trans (Eq.trans (r_go (act := oS (fIst 68 3)) rfl rfl) (a_ist rfl rfl)) ?_
    refine Eq.trans (Eq.trans (r_go (act := oS (fAld 69 0)) rfl rfl) (a_ald rfl)) ?_
    refine Eq.trans (Eq.trans (r_go (act := oS (fAld 70 1)) rfl rfl) (a_ald rfl)) ?_
    refine Eq.trans (Eq.trans (r_go (act := oCV 73 2 (zcv g 10) (X_X10_nameAny g)) rfl rfl) (a_cV rfl (zck (zO_6 g) rfl))) (zbV_cg (fun M9 => ?_))
    refine Eq.trans (Eq.trans (r_go (act := oS (fAld 74 1)) rfl rfl) (a_ald rfl)) ?_
    refine Eq.trans (Eq.trans (r_go (act := oS (fSt 75 gDup)) rfl rfl) (a_dupR)) ?_
    refine Eq.trans (Eq.trans (r_go (act := oS (fGi g 78 3 10)) rfl rfl) (a_gi (zO_40 g))) ?_
    refine Eq.trans (Eq.trans (r_go (act := oS (fSt 79 (gC (.int 1)))) rfl rfl) (a_C)) ?_
    refine Eq.trans (Eq.trans (r_go (act := oS (fSt 80 (g2 (fun x y => x + y)))) rfl rfl) (a_add)) ?_
    refine Eq.trans (Eq.trans (r_go (act := oS (fPi g 83 3 10)) rfl rfl) (a_pi (zO_40 g))) ?_
    refine Eq.trans (Eq.trans (r_go (act := oS (fIld 84 3)) rfl rfl) (a_ild rfl)) ?_
    exact Eq.trans (r_go (act := oIret) rfl rfl) (a_iret)
  · refine Eq.trans (Eq.trans (r_go (act := oS (fAld 38 1)) rfl rfl) (a_ald rfl)) ?_
    refine Eq.trans (Eq.trans (r_go (act := oS (fGi g 41 3 0)) rfl rfl) (a_gi (zO_40 g))) ?_
    refine Eq.trans (Eq.trans (r_go (act := oS (fIf 52 44 cEq0)) rfl rfl) (a_if)) (bcg ?_ ?_)
    · refine Eq.trans (Eq.trans (r_go (act := oS (fAld 53 0)) rfl rfl) (a_ald rfl)) ?_
      refine Eq.trans (Eq.trans (r_go (act := oS (fAld 54 1)) rfl rfl) (a_ald rfl)) ?_
      refine Eq.trans (Eq.trans (r_go (act := oCV 57 2 (zcv g 10) (X_X10_blameAll g)) rfl rfl) (a_cV rfl (zck (zO_6 g) rfl))) (zbV_cg (fun M10 => ?_))
      refine Eq.trans (Eq.trans (r_go (act := oS (fAld 58 0)) rfl rfl) (a_ald rfl)) ?_
      refine Eq.trans (Eq.trans (r_go (act := oS (fAld 59 1)) rfl rfl) (a_ald rfl)) ?_
      refine Eq.trans (Eq.trans (r_go (act := oCV 62 2 (zcv g 10) (X_X10_floodAny g)) rfl rfl) (a_cV rfl (zck (zO_6 g) rfl))) (zbV_cg (fun M11 => ?_))
      refine Eq.trans (Eq.trans (r_go (act := oS (fAld 63 0)) rfl rfl) (a_ald rfl)) ?_
      refine Eq.trans (Eq.trans (r_go (act := oS (fAld 64 1)) rfl rfl) (a_ald rfl)) ?_
      refine Eq.trans (Eq.trans (r_go (act := oCI 67 2 (zcv g 10) (X_X10_fallAny g)) rfl rfl) (a_cI rfl (zck (zO_6 g) rfl))) (zbI_cg (fun x12 M12 => ?_))
      refine Eq.trans (Eq.trans (r_go (act := oS (fIst 68 3)) rfl rfl) (a_ist rfl rfl)) ?_
      refine Eq.trans (Eq.trans (r_go (act := oS (fAld 69 0)) rfl rfl) (a_ald rfl)) ?_
      refine Eq.trans (Eq.trans (r_go (act := oS (fAld 70 1)) rfl rfl) (a_ald rfl)) ?_
      refine Eq.trans (Eq.trans (r_go (act := oCV 73 2 (zcv g 10) (X_X10_nameAny g)) rfl rfl) (a_cV rfl (zck (zO_6 g) rfl))) (zbV_cg (fun M13 => ?_))
      refine Eq.trans (Eq.trans (r_go (act := oS (fAld 74 1)) rfl rfl) (a_ald rfl)) ?_
      refine Eq.trans (Eq.trans (r_go (act := oS (fSt 75 gDup)) rfl rfl) (a_dupR)) ?_
      refine Eq.trans (Eq.trans (r_go (act := oS (fGi g 78 3 10)) rfl rfl) (a_gi (zO_40 g))) ?_
      refine Eq.trans (Eq.trans (r_go (act := oS (fSt 79 (gC (.int 1)))) rfl rfl) (a_C)) ?_
      refine Eq.trans (Eq.trans (r_go (act := oS (fSt 80 (g2 (fun x y => x + y)))) rfl rfl) (a_add)) ?_
      refine Eq.trans (Eq.trans (r_go (act := oS (fPi g 83 3 10)) rfl rfl) (a_pi (zO_40 g))) ?_
      refine Eq.trans (Eq.trans (r_go (act := oS (fIld 84 3)) rfl rfl) (a_ild rfl)) ?_
      exact Eq.trans (r_go (act := oIret) rfl rfl) (a_iret)
    · refine Eq.trans (Eq.trans (r_go (act := oS (fAld 45 0)) rfl rfl) (a_ald rfl)) ?_
      refine Eq.trans (Eq.trans (r_go (act := oS (fGr g 48 10 5)) rfl rfl) (a_gr (zO_6 g) (zR_6_5 g))) ?_
      refine Eq.trans (Eq.trans (r_go (act := oS (fAld 49 1)) rfl rfl) (a_ald rfl)) ?_
      refine Eq.trans (Eq.trans (r_go (act := oCV 52 2 (zcv g 5) (X_X5_add g)) rfl rfl) (a_cV rfl (zck (zO_27 g) rfl))) (zbV_cg (fun M14 => ?_))
      refine Eq.trans (Eq.trans (r_go (act := oS (fAld 53 0)) rfl rfl) (a_ald rfl)) ?_
      refine Eq.trans (Eq.trans (r_go (act := oS (fAld 54 1)) rfl rfl) (a_ald rfl)) ?_
      refine Eq.trans (Eq.trans (r_go (act := oCV 57 2 (zcv g 10) (X_X10_blameAll g)) rfl rfl) (a_cV rfl (zck (zO_6 g) rfl))) (zbV_cg (fun M15 => ?_))
      refine Eq.trans (Eq.trans (r_go (act := oS (fAld 58 0)) rfl rfl) (a_ald rfl)) ?_
      refine Eq.trans (Eq.trans (r_go (act := oS (fAld 59 1)) rfl rfl) (a_ald rfl)) ?_
      refine Eq.trans (Eq.trans (r_go (act := oCV 62 2 (zcv g 10) (X_X10_floodAny g)) rfl rfl) (a_cV rfl (zck (zO_6 g) rfl))) (zbV_cg (fun M16 => ?_))
      refine Eq.trans (Eq.trans (r_go (act := oS (fAld 63 0)) rfl rfl) (a_ald rfl)) ?_
      refine Eq.trans (Eq.trans (r_go (act := oS (fAld 64 1)) rfl rfl) (a_ald rfl)) ?_
      refine Eq.trans (Eq.trans (r_go (act := oCI 67 2 (zcv g 10) (X_X10_fallAny g)) rfl rfl) (a_cI rfl (zck (zO_6 g) rfl))) (zbI_cg (fun x17 M17 => ?_))
      refine Eq.trans (Eq.trans (r_go (act := oS (fIst 68 3)) rfl rfl) (a_ist rfl rfl)) ?_
      refine Eq.trans (Eq.trans (r_go (act := oS (fAld 69 0)) rfl rfl) (a_ald rfl)) ?_
      refine Eq.trans (Eq.trans (r_go (act := oS (fAld 70 1)) rfl rfl) (a_ald rfl)) ?_
      refine Eq.trans (Eq.trans (r_go (act := oCV 73 2 (zcv g 10) (X_X10_nameAny g)) rfl rfl) (a_cV rfl (zck (zO_6 g) rfl))) (zbV_cg (fun M18 => ?_))
      refine Eq.trans (Eq.trans (r_go (act := oS (fAld 74 1)) rfl rfl) (a_ald rfl)) ?_
      refine Eq.trans (Eq.trans (r_go (act := oS (fSt 75 gDup)) rfl rfl) (a_dupR)) ?_
      refine Eq.trans (Eq.trans (r_go (act := oS (fGi g 78 3 10)) rfl rfl) (a_gi (zO_40 g))) ?_
      refine Eq.trans (Eq.trans (r_go (act := oS (fSt 79 (gC (.int 1)))) rfl rfl) (a_C)) ?_
      refine Eq.trans (Eq.trans (r_go (act := oS (fSt 80 (g2 (fun x y => x + y)))) rfl rfl) (a_add)) ?_
      refine Eq.trans (Eq.trans (r_go (act := oS (fPi g 83 3 10)) rfl rfl) (a_pi (zO_40 g))) ?_
      refine Eq.trans (Eq.trans (r_go (act := oS (fIld 84 3)) rfl rfl) (a_ild rfl)) ?_
      exact Eq.trans (r_go (act := oIret) rfl rfl) (a_iret)
theorem x_X10_pass_0_1 (g : zg) (M : zM) : X_X10_pass g [.ref 6, .ref 40] M = (zbV (X_X10_followAgenda g [.ref 6, .ref 40] M) (fun M1 => (zbI (X_X10_tellAll g [.ref 6, .ref 40] M1) (fun x2 M2 => (zbV (X_X10_moveGlass g [.ref 6, .ref 40] M2) (fun M3 => (zbI (X_X3_kind g [.ref 40] M3) (fun x4 M4 => (zbV (X_X1_write g [.ref 25, .ref 40, .int 0, .int x4, .int (M4.1 40 4)] M4) (fun M5 => (bif cEq0 x2 then (zbV (X_X10_blameAll g [.ref 6, .ref 40] M5) (fun M6 => (zbV (X_X10_floodAny g [.ref 6, .ref 40] M6) (fun M7 => (zbI (X_X10_fallAny g [.ref 6, .ref 40] M7) (fun x8 M8 => (zbV (X_X10_nameAny g [.ref 6, .ref 40] M8) (fun M9 => some (some (.int x8), ((zu M9.1 40 10 ((M9.1 40 10) + 1)), M9.2)))))))))) else (bif cEq0 (M5.1 40 0) then (zbV (X_X10_blameAll g [.ref 6, .ref 40] M5) (fun M10 => (zbV (X_X10_floodAny g [.ref 6, .ref 40] M10) (fun M11 => (zbI (X_X10_fallAny g [.ref 6, .ref 40] M11) (fun x12 M12 => (zbV (X_X10_nameAny g [.ref 6, .ref 40] M12) (fun M13 => some (some (.int x12), ((zu M13.1 40 10 ((M13.1 40 10) + 1)), M13.2)))))))))) else (zbV (X_X5_add g [.ref 27, .ref 40] M5) (fun M14 => (zbV (X_X10_blameAll g [.ref 6, .ref 40] M14) (fun M15 => (zbV (X_X10_floodAny g [.ref 6, .ref 40] M15) (fun M16 => (zbI (X_X10_fallAny g [.ref 6, .ref 40] M16) (fun x17 M17 => (zbV (X_X10_nameAny g [.ref 6, .ref 40] M17) (fun M18 => some (some (.int x17), ((zu M18.1 40 10 ((M18.1 40 10) + 1)), M18.2)))))))))))))))))))))))) := e_X10_pass_0_1 g M
set_option maxRecDepth 20000 in
theorem e_X11_days_0 (g : zg) (a1 : Int32) (M : zM) : zX (t_X11_days g) 0 [some (.ref 0), some (.int a1), none, none] [] M = (zbI (X_X11_within g [.int a1, .int 1, .int 60] M) (fun x1 M1 => (bif cEq0 x1 then some (some (.int (-1)), M1) else (bif cGt ((M1.1 7 10) + a1) 9999 then some (some (.int (-1)), M1) else zX (t_X11_days g) 34 [some (.ref 0), some (.int a1), some (.int 0), some (.int 0)] [] M1)))) := by
  refine Eq.trans (zX_rgN (tl_X11_days g) (hc_X11_days g) 19 _ _ _ _) ?_
  refine Eq.trans (Eq.trans (r_0 (act := oS (fIld 1 1)) rfl) (a_ild rfl)) ?_
  refine Eq.trans (Eq.trans (r_go (act := oS (fSt 2 (gC (.int 1)))) rfl rfl) (a_C)) ?_
  refine Eq.trans (Eq.trans (r_go (act := oS (fSt 4 (gC (.int 60)))) rfl rfl) (a_C)) ?_
  refine Eq.trans (Eq.trans (r_go (act := oCI 7 3 zcs (X_X11_within g)) rfl rfl) (a_cI rfl rfl)) (zbI_cg (fun x1 M1 => ?_))
  refine Eq.trans (Eq.trans (r_go (act := oS (fIf 28 10 cEq0)) rfl rfl) (a_if)) (bcg ?_ ?_)
  · refine Eq.trans (Eq.trans (r_go (act := oS (fSt 29 (gC (.int (-1))))) rfl rfl) (a_C)) ?_
    exact Eq.trans (r_go (act := oIret) rfl rfl) (a_iret)
  · refine Eq.trans (Eq.trans (r_go (act := oS (fAld 11 0)) rfl rfl) (a_ald rfl)) ?_
    refine Eq.trans (Eq.trans (r_go (act := oS (fGr g 14 11 1)) rfl rfl) (a_gr (zO_0 g) (zR_0_1 g))) ?_
    refine Eq.trans (Eq.trans (r_go (act := oS (fGr g 17 10 0)) rfl rfl) (a_gr (zO_6 g) (zR_6_0 g))) ?_
    refine Eq.trans (Eq.trans (r_go (act := oS (fGi g 20 3 10)) rfl rfl) (a_gi (zO_7 g))) ?_
    refine Eq.trans (Eq.trans (r_go (act := oS (fIld 21 1)) rfl rfl) (a_ild rfl)) ?_
    refine Eq.trans (Eq.trans (r_go (act := oS (fSt 22 (g2 (fun x y => x + y)))) rfl rfl) (a_add)) ?_
    refine Eq.trans (Eq.trans (r_go (act := oS (fSt 25 (gC (.int 9999)))) rfl rfl) (a_C)) ?_
    refine Eq.trans (Eq.trans (r_go (act := oS (fCm 28 30 cGt)) rfl rfl) (a_cm)) (bcg ?_ ?_)
    · refine Eq.trans (Eq.trans (r_go (act := oS (fSt 29 (gC (.int (-1))))) rfl rfl) (a_C)) ?_
      exact Eq.trans (r_go (act := oIret) rfl rfl) (a_iret)
    · refine Eq.trans (Eq.trans (r_go (act := oS (fSt 31 (gC (.int 0)))) rfl rfl) (a_C)) ?_
      refine Eq.trans (Eq.trans (r_go (act := oS (fIst 32 2)) rfl rfl) (a_ist rfl rfl)) ?_
      refine Eq.trans (Eq.trans (r_go (act := oS (fSt 33 (gC (.int 0)))) rfl rfl) (a_C)) ?_
      refine Eq.trans (Eq.trans (r_go (act := oS (fIst 34 3)) rfl rfl) (a_ist rfl rfl)) ?_
      exact r_cut rfl rfl
theorem x_X11_days_0 (g : zg) (a1 : Int32) (M : zM) : X_X11_days g [.ref 0, .int a1] M = (zbI (X_X11_within g [.int a1, .int 1, .int 60] M) (fun x1 M1 => (bif cEq0 x1 then some (some (.int (-1)), M1) else (bif cGt ((M1.1 7 10) + a1) 9999 then some (some (.int (-1)), M1) else zX (t_X11_days g) 34 [some (.ref 0), some (.int a1), some (.int 0), some (.int 0)] [] M1)))) := e_X11_days_0 g a1 M
set_option maxRecDepth 20000 in
theorem e_X11_days_34 (g : zg) (a1 : Int32) (a2 : Int32) (a3 : Int32) (M : zM) : zX (t_X11_days g) 34 [some (.ref 0), some (.int a1), some (.int a2), some (.int a3)] [] M = (bif cLt a3 a1 then (zbV (X_X8_keep g [.ref 42, .ref 7] M) (fun M1 => (zbI (X_X10_pass g [.ref 6, .ref 7] M1) (fun x2 M2 => (bif cEq x2 (-1) then zX (t_X11_days g) 34 [some (.ref 0), some (.int a1), some (.int a2), some (.int (a3 + 1))] [] M2 else zX (t_X11_days g) 34 [some (.ref 0), some (.int a1), some (.int (a2 + 1)), some (.int (a3 + 1))] [] M2))))) else some (some (.int a2), M)) := by
  refine Eq.trans (zX_rgN (tl_X11_days g) (hc_X11_days g) 22 _ _ _ _) ?_
  refine Eq.trans (Eq.trans (Eq.trans (r_0 (act := oF [] (oS (fIld 35 3))) rfl) (a_F rfl)) (a_ild rfl)) ?_
  refine Eq.trans (Eq.trans (r_go (act := oS (fIld 36 1)) rfl rfl) (a_ild rfl)) ?_
  refine Eq.trans (Eq.trans (r_go (act := oS (fCm 39 80 cLt)) rfl rfl) (a_cm)) (bcg ?_ ?_)
  · refine Eq.trans (Eq.trans (r_go (act := oS (fAld 40 0)) rfl rfl) (a_ald rfl)) ?_
    refine Eq.trans (Eq.trans (r_go (act := oS (fGr g 43 11 3)) rfl rfl) (a_gr (zO_0 g) (zR_0_3 g))) ?_
    refine Eq.trans (Eq.trans (r_go (act := oS (fAld 44 0)) rfl rfl) (a_ald rfl)) ?_
    refine Eq.trans (Eq.trans (r_go (act := oS (fGr g 47 11 1)) rfl rfl) (a_gr (zO_0 g) (zR_0_1 g))) ?_
    refine Eq.trans (Eq.trans (r_go (act := oS (fGr g 50 10 0)) rfl rfl) (a_gr (zO_6 g) (zR_6_0 g))) ?_
    refine Eq.trans (Eq.trans (r_go (act := oCV 53 2 (zcv g 8) (X_X8_keep g)) rfl rfl) (a_cV rfl (zck (zO_42 g) rfl))) (zbV_cg (fun M1 => ?_))
    refine Eq.trans (Eq.trans (r_go (act := oS (fAld 54 0)) rfl rfl) (a_ald rfl)) ?_
    refine Eq.trans (Eq.trans (r_go (act := oS (fGr g 57 11 1)) rfl rfl) (a_gr (zO_0 g) (zR_0_1 g))) ?_
    refine Eq.trans (Eq.trans (r_go (act := oS (fAld 58 0)) rfl rfl) (a_ald rfl)) ?_
    refine Eq.trans (Eq.trans (r_go (act := oS (fGr g 61 11 1)) rfl rfl) (a_gr (zO_0 g) (zR_0_1 g))) ?_
    refine Eq.trans (Eq.trans (r_go (act := oS (fGr g 64 10 0)) rfl rfl) (a_gr (zO_6 g) (zR_6_0 g))) ?_
    refine Eq.trans (Eq.trans (r_go (act := oCI 67 2 (zcv g 10) (X_X10_pass g)) rfl rfl) (a_cI rfl (zck (zO_6 g) rfl))) (zbI_cg (fun x2 M2 => ?_))
    refine Eq.trans (Eq.trans (r_go (act := oS (fSt 68 (gC (.int (-1))))) rfl rfl) (a_C)) ?_
    refine Eq.trans (Eq.trans (r_go (act := oS (fCm 74 71 cEq)) rfl rfl) (a_cm)) (bcg ?_ ?_)
    · refine Eq.trans (Eq.trans (r_go (act := oS (fInc 77 3 1)) rfl rfl) (a_inc rfl rfl rfl)) ?_
      refine Eq.trans (Eq.trans (r_go (act := oS (fGo 34)) rfl rfl) (a_goto)) ?_
      exact r_cut rfl rfl
    · refine Eq.trans (Eq.trans (r_go (act := oS (fInc 74 2 1)) rfl rfl) (a_inc rfl rfl rfl)) ?_
      refine Eq.trans (Eq.trans (r_go (act := oS (fInc 77 3 1)) rfl rfl) (a_inc rfl rfl rfl)) ?_
      refine Eq.trans (Eq.trans (r_go (act := oS (fGo 34)) rfl rfl) (a_goto)) ?_
      exact r_cut rfl rfl
  · refine Eq.trans (Eq.trans (r_go (act := oS (fIld 81 2)) rfl rfl) (a_ild rfl)) ?_
    exact Eq.trans (r_go (act := oIret) rfl rfl) (a_iret)
set_option maxRecDepth 20000 in
theorem e_X9_hasRoom_0 (g : zg) (M : zM) : zX (t_X9_hasRoom g) 0 [some (.ref 1)] [] M = (bif cGt ((M.1 1 5) + 20) 400 then some (some (.int 0), M) else some (some (.int 1), M)) := by
  refine Eq.trans (zX_rgN (tl_X9_hasRoom g) (hc_X9_hasRoom g) 10 _ _ _ _) ?_
  refine Eq.trans (Eq.trans (r_0 (act := oS (fAld 1 0)) rfl) (a_ald rfl)) ?_
  refine Eq.trans (Eq.trans (r_go (act := oS (fGi g 4 9 5)) rfl rfl) (a_gi (zO_1 g))) ?_
  refine Eq.trans (Eq.trans (r_go (act := oS (fSt 6 (gC (.int 20)))) rfl rfl) (a_C)) ?_
  refine Eq.trans (Eq.trans (r_go (act := oS (fSt 7 (g2 (fun x y => x + y)))) rfl rfl) (a_add)) ?_
  refine Eq.trans (Eq.trans (r_go (act := oS (fSt 10 (gC (.int 400)))) rfl rfl) (a_C)) ?_
  refine Eq.trans (Eq.trans (r_go (act := oS (fCm 17 13 cGt)) rfl rfl) (a_cm)) (bcg ?_ ?_)
  · refine Eq.trans (Eq.trans (r_go (act := oS (fSt 18 (gC (.int 0)))) rfl rfl) (a_C)) ?_
    exact Eq.trans (Eq.trans (r_go (act := oZret) rfl rfl) a_zret) (bcT (by decide +kernel))
  · refine Eq.trans (Eq.trans (r_go (act := oS (fSt 14 (gC (.int 1)))) rfl rfl) (a_C)) ?_
    refine Eq.trans (Eq.trans (r_go (act := oS (fGo 18)) rfl rfl) (a_goto)) ?_
    exact Eq.trans (Eq.trans (r_go (act := oZret) rfl rfl) a_zret) (bcT (by decide +kernel))
theorem x_X9_hasRoom_0 (g : zg) (M : zM) : X_X9_hasRoom g [.ref 1] M = (bif cGt ((M.1 1 5) + 20) 400 then some (some (.int 0), M) else some (some (.int 1), M)) := e_X9_hasRoom_0 g M
set_option maxRecDepth 20000 in
theorem e_X9_add_0 (g : zg) (a1 : Int32) (M : zM) : zX (t_X9_add g) 0 [some (.ref 1), some (.int a1), none] [] M = zX (t_X9_add g) 3 [some (.ref 1), some (.int a1), some (.int 24)] [] M := by
  refine Eq.trans (zX_rgN (tl_X9_add g) (hc_X9_add g) 4 _ _ _ _) ?_
  refine Eq.trans (Eq.trans (r_0 (act := oS (fSt 2 (gC (.int 24)))) rfl) (a_C)) ?_
  refine Eq.trans (Eq.trans (r_go (act := oS (fIst 3 2)) rfl rfl) (a_ist rfl rfl)) ?_
  exact r_cut rfl rfl
theorem x_X9_add_0 (g : zg) (a1 : Int32) (M : zM) : X_X9_add g [.ref 1, .int a1] M = zX (t_X9_add g) 3 [some (.ref 1), some (.int a1), some (.int 24)] [] M := e_X9_add_0 g a1 M
set_option maxRecDepth 20000 in
theorem e_X9_add_3 (g : zg) (a1 : Int32) (a2 : Int32) (M : zM) : zX (t_X9_add g) 3 [some (.ref 1), some (.int a1), some (.int a2)] [] M = (bif cLt0 a2 then some (none, M) else (bif cLt (M.1 1 5) 400 then (bif zb (M.1 1 5) 400 then zX (t_X9_add g) 3 [some (.ref 1), some (.int a1), some (.int (a2 + (-8)))] [] ((zu (zu M.1 2 (zx (M.1 1 5)) ((zushr a1 a2) &&& 255)) 1 5 ((M.1 1 5) + 1)), M.2) else none) else some (none, M))) := by
  refine Eq.trans (zX_rgN (tl_X9_add g) (hc_X9_add g) 26 _ _ _ _) ?_
  refine Eq.trans (Eq.trans (Eq.trans (r_0 (act := oF [] (oS (fIld 4 2))) rfl) (a_F rfl)) (a_ild rfl)) ?_
  refine Eq.trans (Eq.trans (r_go (act := oS (fIf 49 7 cLt0)) rfl rfl) (a_if)) (bcg ?_ ?_)
  · exact Eq.trans (r_go (act := oVret) rfl rfl) (a_vret)
  · refine Eq.trans (Eq.trans (r_go (act := oS (fAld 8 0)) rfl rfl) (a_ald rfl)) ?_
    refine Eq.trans (Eq.trans (r_go (act := oS (fGi g 11 9 5)) rfl rfl) (a_gi (zO_1 g))) ?_
    refine Eq.trans (Eq.trans (r_go (act := oS (fSt 14 (gC (.int 400)))) rfl rfl) (a_C)) ?_
    refine Eq.trans (Eq.trans (r_go (act := oS (fCm 17 49 cLt)) rfl rfl) (a_cm)) (bcg ?_ ?_)
    · refine Eq.trans (Eq.trans (r_go (act := oS (fAld 18 0)) rfl rfl) (a_ald rfl)) ?_
      refine Eq.trans (Eq.trans (r_go (act := oS (fGr g 21 9 0)) rfl rfl) (a_gr (zO_1 g) (zR_1_0 g))) ?_
      refine Eq.trans (Eq.trans (r_go (act := oS (fAld 22 0)) rfl rfl) (a_ald rfl)) ?_
      refine Eq.trans (Eq.trans (r_go (act := oS (fGi g 25 9 5)) rfl rfl) (a_gi (zO_1 g))) ?_
      refine Eq.trans (Eq.trans (r_go (act := oS (fIld 26 1)) rfl rfl) (a_ild rfl)) ?_
      refine Eq.trans (Eq.trans (r_go (act := oS (fIld 27 2)) rfl rfl) (a_ild rfl)) ?_
      refine Eq.trans (Eq.trans (r_go (act := oS (fSt 28 (g2 zushr))) rfl rfl) (a_ush)) ?_
      refine Eq.trans (Eq.trans (r_go (act := oS (fSt 31 (gC (.int 255)))) rfl rfl) (a_C)) ?_
      refine Eq.trans (Eq.trans (r_go (act := oS (fSt 32 (g2 (fun x y => x &&& y)))) rfl rfl) (a_and)) ?_
      refine Eq.trans (Eq.trans (r_go (act := oS (fIs g 33)) rfl rfl) (a_is (zA_2 g) zS_2)) (bcg ?_ rfl)
      refine Eq.trans (Eq.trans (r_go (act := oS (fAld 34 0)) rfl rfl) (a_ald rfl)) ?_
      refine Eq.trans (Eq.trans (r_go (act := oS (fSt 35 gDup)) rfl rfl) (a_dupR)) ?_
      refine Eq.trans (Eq.trans (r_go (act := oS (fGi g 38 9 5)) rfl rfl) (a_giV (zO_1 g) rfl)) ?_
      refine Eq.trans (Eq.trans (r_go (act := oS (fSt 39 (gC (.int 1)))) rfl rfl) (a_C)) ?_
      refine Eq.trans (Eq.trans (r_go (act := oS (fSt 40 (g2 (fun x y => x + y)))) rfl rfl) (a_add)) ?_
      refine Eq.trans (Eq.trans (r_go (act := oS (fPi g 43 9 5)) rfl rfl) (a_pi (zO_1 g))) ?_
      refine Eq.trans (Eq.trans (r_go (act := oS (fInc 46 2 (-8))) rfl rfl) (a_inc rfl rfl rfl)) ?_
      refine Eq.trans (Eq.trans (r_go (act := oS (fGo 3)) rfl rfl) (a_goto)) ?_
      exact r_cut rfl rfl
    · exact Eq.trans (r_go (act := oVret) rfl rfl) (a_vret)
set_option maxRecDepth 20000 in
theorem e_X11_feed_0 (g : zg) (a1 : Int32) (a2 : Int32) (a3 : Int32) (a4 : Int32) (a5 : Int32) (M : zM) : zX (t_X11_feed g) 0 [some (.ref 0), some (.int a1), some (.int a2), some (.int a3), some (.int a4), some (.int a5)] [] M = (zbI (X_X9_hasRoom g [.ref 1] M) (fun x1 M1 => (bif cEq0 x1 then some (some (.int (-1)), M1) else (zbV (X_X9_add g [.ref 1, .int a1] M1) (fun M2 => (zbV (X_X9_add g [.ref 1, .int a2] M2) (fun M3 => (zbV (X_X9_add g [.ref 1, .int a3] M3) (fun M4 => (zbV (X_X9_add g [.ref 1, .int a4] M4) (fun M5 => (zbV (X_X9_add g [.ref 1, .int a5] M5) (fun M6 => some (some (.int (M6.1 1 5)), M6)))))))))))))) := by
  refine Eq.trans (zX_rgN (tl_X11_feed g) (hc_X11_feed g) 29 _ _ _ _) ?_
  refine Eq.trans (Eq.trans (r_0 (act := oS (fAld 1 0)) rfl) (a_ald rfl)) ?_
  refine Eq.trans (Eq.trans (r_go (act := oS (fGr g 4 11 0)) rfl rfl) (a_gr (zO_0 g) (zR_0_0 g))) ?_
  refine Eq.trans (Eq.trans (r_go (act := oCI 7 1 (zcv g 9) (X_X9_hasRoom g)) rfl rfl) (a_cI rfl (zck (zO_1 g) rfl))) (zbI_cg (fun x1 M1 => ?_))
  refine Eq.trans (Eq.trans (r_go (act := oS (fIf 10 12 cEq0)) rfl rfl) (a_if)) (bcg ?_ ?_)
  · refine Eq.trans (Eq.trans (r_go (act := oS (fSt 11 (gC (.int (-1))))) rfl rfl) (a_C)) ?_
    exact Eq.trans (r_go (act := oIret) rfl rfl) (a_iret)
  · refine Eq.trans (Eq.trans (r_go (act := oS (fAld 13 0)) rfl rfl) (a_ald rfl)) ?_
    refine Eq.trans (Eq.trans (r_go (act := oS (fGr g 16 11 0)) rfl rfl) (a_gr (zO_0 g) (zR_0_0 g))) ?_
    refine Eq.trans (Eq.trans (r_go (act := oS (fIld 17 1)) rfl rfl) (a_ild rfl)) ?_
    refine Eq.trans (Eq.trans (r_go (act := oCV 20 2 (zcv g 9) (X_X9_add g)) rfl rfl) (a_cV rfl (zck (zO_1 g) rfl))) (zbV_cg (fun M2 => ?_))
    refine Eq.trans (Eq.trans (r_go (act := oS (fAld 21 0)) rfl rfl) (a_ald rfl)) ?_
    refine Eq.trans (Eq.trans (r_go (act := oS (fGr g 24 11 0)) rfl rfl) (a_gr (zO_0 g) (zR_0_0 g))) ?_
    refine Eq.trans (Eq.trans (r_go (act := oS (fIld 25 2)) rfl rfl) (a_ild rfl)) ?_
    refine Eq.trans (Eq.trans (r_go (act := oCV 28 2 (zcv g 9) (X_X9_add g)) rfl rfl) (a_cV rfl (zck (zO_1 g) rfl))) (zbV_cg (fun M3 => ?_))
    refine Eq.trans (Eq.trans (r_go (act := oS (fAld 29 0)) rfl rfl) (a_ald rfl)) ?_
    refine Eq.trans (Eq.trans (r_go (act := oS (fGr g 32 11 0)) rfl rfl) (a_gr (zO_0 g) (zR_0_0 g))) ?_
    refine Eq.trans (Eq.trans (r_go (act := oS (fIld 33 3)) rfl rfl) (a_ild rfl)) ?_
    refine Eq.trans (Eq.trans (r_go (act := oCV 36 2 (zcv g 9) (X_X9_add g)) rfl rfl) (a_cV rfl (zck (zO_1 g) rfl))) (zbV_cg (fun M4 => ?_))
    refine Eq.trans (Eq.trans (r_go (act := oS (fAld 37 0)) rfl rfl) (a_ald rfl)) ?_
    refine Eq.trans (Eq.trans (r_go (act := oS (fGr g 40 11 0)) rfl rfl) (a_gr (zO_0 g) (zR_0_0 g))) ?_
    refine Eq.trans (Eq.trans (r_go (act := oS (fIld 42 4)) rfl rfl) (a_ild rfl)) ?_
    refine Eq.trans (Eq.trans (r_go (act := oCV 45 2 (zcv g 9) (X_X9_add g)) rfl rfl) (a_cV rfl (zck (zO_1 g) rfl))) (zbV_cg (fun M5 => ?_))
    refine Eq.trans (Eq.trans (r_go (act := oS (fAld 46 0)) rfl rfl) (a_ald rfl)) ?_
    refine Eq.trans (Eq.trans (r_go (act := oS (fGr g 49 11 0)) rfl rfl) (a_gr (zO_0 g) (zR_0_0 g))) ?_
    refine Eq.trans (Eq.trans (r_go (act := oS (fIld 51 5)) rfl rfl) (a_ild rfl)) ?_
    refine Eq.trans (Eq.trans (r_go (act := oCV 54 2 (zcv g 9) (X_X9_add g)) rfl rfl) (a_cV rfl (zck (zO_1 g) rfl))) (zbV_cg (fun M6 => ?_))
    refine Eq.trans (Eq.trans (r_go (act := oS (fAld 55 0)) rfl rfl) (a_ald rfl)) ?_
    refine Eq.trans (Eq.trans (r_go (act := oS (fGr g 58 11 0)) rfl rfl) (a_gr (zO_0 g) (zR_0_0 g))) ?_
    refine Eq.trans (Eq.trans (r_go (act := oS (fGi g 61 9 5)) rfl rfl) (a_gi (zO_1 g))) ?_
    exact Eq.trans (r_go (act := oIret) rfl rfl) (a_iret)
theorem x_X11_feed_0 (g : zg) (a1 : Int32) (a2 : Int32) (a3 : Int32) (a4 : Int32) (a5 : Int32) (M : zM) : X_X11_feed g [.ref 0, .int a1, .int a2, .int a3, .int a4, .int a5] M = (zbI (X_X9_hasRoom g [.ref 1] M) (fun x1 M1 => (bif cEq0 x1 then some (some (.int (-1)), M1) else (zbV (X_X9_add g [.ref 1, .int a1] M1) (fun M2 => (zbV (X_X9_add g [.ref 1, .int a2] M2) (fun M3 => (zbV (X_X9_add g [.ref 1, .int a3] M3) (fun M4 => (zbV (X_X9_add g [.ref 1, .int a4] M4) (fun M5 => (zbV (X_X9_add g [.ref 1, .int a5] M5) (fun M6 => some (some (.int (M6.1 1 5)), M6)))))))))))))) := e_X11_feed_0 g a1 a2 a3 a4 a5 M
set_option maxRecDepth 20000 in
theorem e_X9_cut_0 (g : zg) (a1 : Int32) (M : zM) : zX (t_X9_cut g) 0 [some (.ref 1), some (.int a1)] [] M = (bif cLt0 a1 then some (some (.int 0), M) else (bif cGt a1 (M.1 1 5) then some (some (.int 0), M) else some (some (.int 1), ((zu M.1 1 5 a1), M.2)))) := by
  refine Eq.trans (zX_rgN (tl_X9_cut g) (hc_X9_cut g) 12 _ _ _ _) ?_
  refine Eq.trans (Eq.trans (r_0 (act := oS (fIld 1 1)) rfl) (a_ild rfl)) ?_
  refine Eq.trans (Eq.trans (r_go (act := oS (fIf 12 4 cLt0)) rfl rfl) (a_if)) (bcg ?_ ?_)
  · refine Eq.trans (Eq.trans (r_go (act := oS (fSt 13 (gC (.int 0)))) rfl rfl) (a_C)) ?_
    exact Eq.trans (Eq.trans (r_go (act := oZret) rfl rfl) a_zret) (bcT (by decide +kernel))
  · refine Eq.trans (Eq.trans (r_go (act := oS (fIld 5 1)) rfl rfl) (a_ild rfl)) ?_
    refine Eq.trans (Eq.trans (r_go (act := oS (fAld 6 0)) rfl rfl) (a_ald rfl)) ?_
    refine Eq.trans (Eq.trans (r_go (act := oS (fGi g 9 9 5)) rfl rfl) (a_gi (zO_1 g))) ?_
    refine Eq.trans (Eq.trans (r_go (act := oS (fCm 12 14 cGt)) rfl rfl) (a_cm)) (bcg ?_ ?_)
    · refine Eq.trans (Eq.trans (r_go (act := oS (fSt 13 (gC (.int 0)))) rfl rfl) (a_C)) ?_
      exact Eq.trans (Eq.trans (r_go (act := oZret) rfl rfl) a_zret) (bcT (by decide +kernel))
    · refine Eq.trans (Eq.trans (r_go (act := oS (fAld 15 0)) rfl rfl) (a_ald rfl)) ?_
      refine Eq.trans (Eq.trans (r_go (act := oS (fIld 16 1)) rfl rfl) (a_ild rfl)) ?_
      refine Eq.trans (Eq.trans (r_go (act := oS (fPi g 19 9 5)) rfl rfl) (a_pi (zO_1 g))) ?_
      refine Eq.trans (Eq.trans (r_go (act := oS (fSt 20 (gC (.int 1)))) rfl rfl) (a_C)) ?_
      exact Eq.trans (Eq.trans (r_go (act := oZret) rfl rfl) a_zret) (bcT (by decide +kernel))
theorem x_X9_cut_0 (g : zg) (a1 : Int32) (M : zM) : X_X9_cut g [.ref 1, .int a1] M = (bif cLt0 a1 then some (some (.int 0), M) else (bif cGt a1 (M.1 1 5) then some (some (.int 0), M) else some (some (.int 1), ((zu M.1 1 5 a1), M.2)))) := e_X9_cut_0 g a1 M
set_option maxRecDepth 20000 in
theorem e_X11_end_0 (g : zg) (a1 : Int32) (M : zM) : zX (t_X11_end g) 0 [some (.ref 0), some (.int a1)] [] M = (zbI (X_X9_cut g [.ref 1, .int a1] M) (fun x1 M1 => (bif cEq (x1 &&& 1) x1 then some (some (.int x1), M1) else none))) := by
  refine Eq.trans (zX_rgN (tl_X11_end g) (hc_X11_end g) 6 _ _ _ _) ?_
  refine Eq.trans (Eq.trans (r_0 (act := oS (fAld 1 0)) rfl) (a_ald rfl)) ?_
  refine Eq.trans (Eq.trans (r_go (act := oS (fGr g 4 11 0)) rfl rfl) (a_gr (zO_0 g) (zR_0_0 g))) ?_
  refine Eq.trans (Eq.trans (r_go (act := oS (fIld 5 1)) rfl rfl) (a_ild rfl)) ?_
  refine Eq.trans (Eq.trans (r_go (act := oCI 8 2 (zcv g 9) (X_X9_cut g)) rfl rfl) (a_cI rfl (zck (zO_1 g) rfl))) (zbI_cg (fun x1 M1 => ?_))
  exact Eq.trans (r_go (act := oZret) rfl rfl) (a_zret)
theorem x_X11_end_0 (g : zg) (a1 : Int32) (M : zM) : X_X11_end g [.ref 0, .int a1] M = (zbI (X_X9_cut g [.ref 1, .int a1] M) (fun x1 M1 => (bif cEq (x1 &&& 1) x1 then some (some (.int x1), M1) else none))) := e_X11_end_0 g a1 M
set_option maxRecDepth 20000 in
theorem e_X9_clearFault_0 (g : zg) (M : zM) : zX (t_X9_clearFault g) 0 [some (.ref 1)] [] M = some (none, ((zu (zu M.1 1 6 0) 1 7 (-1)), M.2)) := by
  refine Eq.trans (zX_rgN (tl_X9_clearFault g) (hc_X9_clearFault g) 8 _ _ _ _) ?_
  refine Eq.trans (Eq.trans (r_0 (act := oS (fAld 1 0)) rfl) (a_ald rfl)) ?_
  refine Eq.trans (Eq.trans (r_go (act := oS (fSt 2 (gC (.int 0)))) rfl rfl) (a_C)) ?_
  refine Eq.trans (Eq.trans (r_go (act := oS (fPi g 5 9 6)) rfl rfl) (a_pi (zO_1 g))) ?_
  refine Eq.trans (Eq.trans (r_go (act := oS (fAld 6 0)) rfl rfl) (a_ald rfl)) ?_
  refine Eq.trans (Eq.trans (r_go (act := oS (fSt 7 (gC (.int (-1))))) rfl rfl) (a_C)) ?_
  refine Eq.trans (Eq.trans (r_go (act := oS (fPi g 10 9 7)) rfl rfl) (a_pi (zO_1 g))) ?_
  exact Eq.trans (r_go (act := oVret) rfl rfl) (a_vret)
theorem x_X9_clearFault_0 (g : zg) (M : zM) : X_X9_clearFault g [.ref 1] M = some (none, ((zu (zu M.1 1 6 0) 1 7 (-1)), M.2)) := e_X9_clearFault_0 g M
set_option maxRecDepth 20000 in
theorem e_X9_isLetter_0 (g : zg) (a0 : Int32) (M : zM) : zX (t_X9_isLetter g) 0 [some (.int a0)] [] M = (bif cLt a0 97 then (bif cLt a0 65 then some (some (.int 0), M) else (bif cGt a0 90 then some (some (.int 0), M) else some (some (.int 1), M))) else (bif cGt a0 122 then (bif cLt a0 65 then some (some (.int 0), M) else (bif cGt a0 90 then some (some (.int 0), M) else some (some (.int 1), M))) else some (some (.int 1), M))) := by
  refine Eq.trans (zX_rgN (tl_X9_isLetter g) (hc_X9_isLetter g) 16 _ _ _ _) ?_
  refine Eq.trans (Eq.trans (r_0 (act := oS (fIld 1 0)) rfl) (a_ild rfl)) ?_
  refine Eq.trans (Eq.trans (r_go (act := oS (fSt 3 (gC (.int 97)))) rfl rfl) (a_C)) ?_
  refine Eq.trans (Eq.trans (r_go (act := oS (fCm 12 6 cLt)) rfl rfl) (a_cm)) (bcg ?_ ?_)
  · refine Eq.trans (Eq.trans (r_go (act := oS (fIld 13 0)) rfl rfl) (a_ild rfl)) ?_
    refine Eq.trans (Eq.trans (r_go (act := oS (fSt 15 (gC (.int 65)))) rfl rfl) (a_C)) ?_
    refine Eq.trans (Eq.trans (r_go (act := oS (fCm 28 18 cLt)) rfl rfl) (a_cm)) (bcg ?_ ?_)
    · refine Eq.trans (Eq.trans (r_go (act := oS (fSt 29 (gC (.int 0)))) rfl rfl) (a_C)) ?_
      exact Eq.trans (Eq.trans (r_go (act := oZret) rfl rfl) a_zret) (bcT (by decide +kernel))
    · refine Eq.trans (Eq.trans (r_go (act := oS (fIld 19 0)) rfl rfl) (a_ild rfl)) ?_
      refine Eq.trans (Eq.trans (r_go (act := oS (fSt 21 (gC (.int 90)))) rfl rfl) (a_C)) ?_
      refine Eq.trans (Eq.trans (r_go (act := oS (fCm 28 24 cGt)) rfl rfl) (a_cm)) (bcg ?_ ?_)
      · refine Eq.trans (Eq.trans (r_go (act := oS (fSt 29 (gC (.int 0)))) rfl rfl) (a_C)) ?_
        exact Eq.trans (Eq.trans (r_go (act := oZret) rfl rfl) a_zret) (bcT (by decide +kernel))
      · refine Eq.trans (Eq.trans (r_go (act := oS (fSt 25 (gC (.int 1)))) rfl rfl) (a_C)) ?_
        refine Eq.trans (Eq.trans (r_go (act := oS (fGo 29)) rfl rfl) (a_goto)) ?_
        exact Eq.trans (Eq.trans (r_go (act := oZret) rfl rfl) a_zret) (bcT (by decide +kernel))
  · refine Eq.trans (Eq.trans (r_go (act := oS (fIld 7 0)) rfl rfl) (a_ild rfl)) ?_
    refine Eq.trans (Eq.trans (r_go (act := oS (fSt 9 (gC (.int 122)))) rfl rfl) (a_C)) ?_
    refine Eq.trans (Eq.trans (r_go (act := oS (fCm 12 24 cGt)) rfl rfl) (a_cm)) (bcg ?_ ?_)
    · refine Eq.trans (Eq.trans (r_go (act := oS (fIld 13 0)) rfl rfl) (a_ild rfl)) ?_
      refine Eq.trans (Eq.trans (r_go (act := oS (fSt 15 (gC (.int 65)))) rfl rfl) (a_C)) ?_
      refine Eq.trans (Eq.trans (r_go (act := oS (fCm 28 18 cLt)) rfl rfl) (a_cm)) (bcg ?_ ?_)
      · refine Eq.trans (Eq.trans (r_go (act := oS (fSt 29 (gC (.int 0)))) rfl rfl) (a_C)) ?_
        exact Eq.trans (Eq.trans (r_go (act := oZret) rfl rfl) a_zret) (bcT (by decide +kernel))
      · refine Eq.trans (Eq.trans (r_go (act := oS (fIld 19 0)) rfl rfl) (a_ild rfl)) ?_
        refine Eq.trans (Eq.trans (r_go (act := oS (fSt 21 (gC (.int 90)))) rfl rfl) (a_C)) ?_
        refine Eq.trans (Eq.trans (r_go (act := oS (fCm 28 24 cGt)) rfl rfl) (a_cm)) (bcg ?_ ?_)
        · refine Eq.trans (Eq.trans (r_go (act := oS (fSt 29 (gC (.int 0)))) rfl rfl) (a_C)) ?_
          exact Eq.trans (Eq.trans (r_go (act := oZret) rfl rfl) a_zret) (bcT (by decide +kernel))
        · refine Eq.trans (Eq.trans (r_go (act := oS (fSt 25 (gC (.int 1)))) rfl rfl) (a_C)) ?_
          refine Eq.trans (Eq.trans (r_go (act := oS (fGo 29)) rfl rfl) (a_goto)) ?_
          exact Eq.trans (Eq.trans (r_go (act := oZret) rfl rfl) a_zret) (bcT (by decide +kernel))
    · refine Eq.trans (Eq.trans (r_go (act := oS (fSt 25 (gC (.int 1)))) rfl rfl) (a_C)) ?_
      refine Eq.trans (Eq.trans (r_go (act := oS (fGo 29)) rfl rfl) (a_goto)) ?_
      exact Eq.trans (Eq.trans (r_go (act := oZret) rfl rfl) a_zret) (bcT (by decide +kernel))
theorem x_X9_isLetter_0 (g : zg) (a0 : Int32) (M : zM) : X_X9_isLetter g [.int a0] M = (bif cLt a0 97 then (bif cLt a0 65 then some (some (.int 0), M) else (bif cGt a0 90 then some (some (.int 0), M) else some (some (.int 1), M))) else (bif cGt a0 122 then (bif cLt a0 65 then some (some (.int 0), M) else (bif cGt a0 90 then some (some (.int 0), M) else some (some (.int 1), M))) else some (some (.int 1), M))) := e_X9_isLetter_0 g a0 M
set_option maxRecDepth 20000 in
theorem e_X9_isDigit_0 (g : zg) (a0 : Int32) (M : zM) : zX (t_X9_isDigit g) 0 [some (.int a0)] [] M = (bif cLt a0 48 then some (some (.int 0), M) else (bif cGt a0 57 then some (some (.int 0), M) else some (some (.int 1), M))) := by
  refine Eq.trans (zX_rgN (tl_X9_isDigit g) (hc_X9_isDigit g) 10 _ _ _ _) ?_
  refine Eq.trans (Eq.trans (r_0 (act := oS (fIld 1 0)) rfl) (a_ild rfl)) ?_
  refine Eq.trans (Eq.trans (r_go (act := oS (fSt 3 (gC (.int 48)))) rfl rfl) (a_C)) ?_
  refine Eq.trans (Eq.trans (r_go (act := oS (fCm 16 6 cLt)) rfl rfl) (a_cm)) (bcg ?_ ?_)
  · refine Eq.trans (Eq.trans (r_go (act := oS (fSt 17 (gC (.int 0)))) rfl rfl) (a_C)) ?_
    exact Eq.trans (Eq.trans (r_go (act := oZret) rfl rfl) a_zret) (bcT (by decide +kernel))
  · refine Eq.trans (Eq.trans (r_go (act := oS (fIld 7 0)) rfl rfl) (a_ild rfl)) ?_
    refine Eq.trans (Eq.trans (r_go (act := oS (fSt 9 (gC (.int 57)))) rfl rfl) (a_C)) ?_
    refine Eq.trans (Eq.trans (r_go (act := oS (fCm 16 12 cGt)) rfl rfl) (a_cm)) (bcg ?_ ?_)
    · refine Eq.trans (Eq.trans (r_go (act := oS (fSt 17 (gC (.int 0)))) rfl rfl) (a_C)) ?_
      exact Eq.trans (Eq.trans (r_go (act := oZret) rfl rfl) a_zret) (bcT (by decide +kernel))
    · refine Eq.trans (Eq.trans (r_go (act := oS (fSt 13 (gC (.int 1)))) rfl rfl) (a_C)) ?_
      refine Eq.trans (Eq.trans (r_go (act := oS (fGo 17)) rfl rfl) (a_goto)) ?_
      exact Eq.trans (Eq.trans (r_go (act := oZret) rfl rfl) a_zret) (bcT (by decide +kernel))
theorem x_X9_isDigit_0 (g : zg) (a0 : Int32) (M : zM) : X_X9_isDigit g [.int a0] M = (bif cLt a0 48 then some (some (.int 0), M) else (bif cGt a0 57 then some (some (.int 0), M) else some (some (.int 1), M))) := e_X9_isDigit_0 g a0 M
set_option maxRecDepth 20000 in
theorem e_X9_runFrom_0 (g : zg) (a1 : Int32) (M : zM) : zX (t_X9_runFrom g) 0 [some (.ref 1), some (.int a1), none, none, none] [] M = (bif zb a1 400 then (zbI (X_X9_isLetter g [.int (M.1 2 (zx a1))] M) (fun x1 M1 => (bif zb a1 400 then (zbI (X_X9_isDigit g [.int (M1.1 2 (zx a1))] M1) (fun x2 M2 => zX (t_X9_runFrom g) 25 [some (.ref 1), none, some (.int x1), some (.int x2), some (.int (a1 + 1))] [] M2)) else none))) else none) := by
  refine Eq.trans (zX_rgN (tl_X9_runFrom g) (hc_X9_runFrom g) 18 _ _ _ _) ?_
  refine Eq.trans (Eq.trans (r_0 (act := oS (fAld 1 0)) rfl) (a_ald rfl)) ?_
  refine Eq.trans (Eq.trans (r_go (act := oS (fGr g 4 9 0)) rfl rfl) (a_gr (zO_1 g) (zR_1_0 g))) ?_
  refine Eq.trans (Eq.trans (r_go (act := oS (fIld 5 1)) rfl rfl) (a_ild rfl)) ?_
  refine Eq.trans (Eq.trans (r_go (act := oS (fIa g 6)) rfl rfl) (a_ia (zA_2 g) zS_2)) (bcg ?_ rfl)
  refine Eq.trans (Eq.trans (r_go (act := oCI 9 1 zcs (X_X9_isLetter g)) rfl rfl) (a_cI rfl rfl)) (zbI_cg (fun x1 M1 => ?_))
  refine Eq.trans (Eq.trans (r_go (act := oS (fIst 10 2)) rfl rfl) (a_ist rfl rfl)) ?_
  refine Eq.trans (Eq.trans (r_go (act := oS (fAld 11 0)) rfl rfl) (a_ald rfl)) ?_
  refine Eq.trans (Eq.trans (r_go (act := oS (fGr g 14 9 0)) rfl rfl) (a_gr (zO_1 g) (zR_1_0 g))) ?_
  refine Eq.trans (Eq.trans (r_go (act := oS (fIld 15 1)) rfl rfl) (a_ild rfl)) ?_
  refine Eq.trans (Eq.trans (r_go (act := oS (fIa g 16)) rfl rfl) (a_ia (zA_2 g) zS_2)) (bcg ?_ rfl)
  refine Eq.trans (Eq.trans (r_go (act := oCI 19 1 zcs (X_X9_isDigit g)) rfl rfl) (a_cI rfl rfl)) (zbI_cg (fun x2 M2 => ?_))
  refine Eq.trans (Eq.trans (r_go (act := oS (fIst 20 3)) rfl rfl) (a_ist rfl rfl)) ?_
  refine Eq.trans (Eq.trans (r_go (act := oS (fIld 21 1)) rfl rfl) (a_ild rfl)) ?_
  refine Eq.trans (Eq.trans (r_go (act := oS (fSt 22 (gC (.int 1)))) rfl rfl) (a_C)) ?_
  refine Eq.trans (Eq.trans (r_go (act := oS (fSt 23 (g2 (fun x y => x + y)))) rfl rfl) (a_add)) ?_
  refine Eq.trans (Eq.trans (r_go (act := oS (fIst 25 4)) rfl rfl) (a_ist rfl rfl)) ?_
  exact r_cut rfl rfl
theorem x_X9_runFrom_0 (g : zg) (a1 : Int32) (M : zM) : X_X9_runFrom g [.ref 1, .int a1] M = (bif zb a1 400 then (zbI (X_X9_isLetter g [.int (M.1 2 (zx a1))] M) (fun x1 M1 => (bif zb a1 400 then (zbI (X_X9_isDigit g [.int (M1.1 2 (zx a1))] M1) (fun x2 M2 => zX (t_X9_runFrom g) 25 [some (.ref 1), none, some (.int x1), some (.int x2), some (.int (a1 + 1))] [] M2)) else none))) else none) := e_X9_runFrom_0 g a1 M
set_option maxRecDepth 20000 in
theorem e_X9_runFrom_25 (g : zg) (a2 : Int32) (a3 : Int32) (a4 : Int32) (M : zM) : zX (t_X9_runFrom g) 25 [some (.ref 1), none, some (.int a2), some (.int a3), some (.int a4)] [] M = (bif cLt a4 (M.1 1 5) then (bif cEq0 a2 then (bif cEq0 a3 then some (some (.int a4), M) else (bif zb a4 400 then (zbI (X_X9_isDigit g [.int (M.1 2 (zx a4))] M) (fun x1 M1 => (bif cEq0 x1 then some (some (.int a4), M1) else zX (t_X9_runFrom g) 25 [some (.ref 1), none, some (.int a2), some (.int a3), some (.int (a4 + 1))] [] M1))) else none)) else (bif zb a4 400 then (zbI (X_X9_isLetter g [.int (M.1 2 (zx a4))] M) (fun x2 M2 => (bif cEq0 x2 then (bif cEq0 a3 then some (some (.int a4), M2) else (bif zb a4 400 then (zbI (X_X9_isDigit g [.int (M2.1 2 (zx a4))] M2) (fun x3 M3 => (bif cEq0 x3 then some (some (.int a4), M3) else zX (t_X9_runFrom g) 25 [some (.ref 1), none, some (.int a2), some (.int a3), some (.int (a4 + 1))] [] M3))) else none)) else zX (t_X9_runFrom g) 25 [some (.ref 1), none, some (.int a2), some (.int a3), some (.int (a4 + 1))] [] M2))) else none)) else some (some (.int (M.1 1 5)), M)) := by
  refine Eq.trans (zX_rgN (tl_X9_runFrom g) (hc_X9_runFrom g) 24 _ _ _ _) ?_
  refine Eq.trans (Eq.trans (Eq.trans (r_0 (act := oF [1] (oS (fIld 27 4))) rfl) (a_F rfl)) (a_ild rfl)) ?_
  refine Eq.trans (Eq.trans (r_go (act := oS (fAld 28 0)) rfl rfl) (a_ald rfl)) ?_
  refine Eq.trans (Eq.trans (r_go (act := oS (fGi g 31 9 5)) rfl rfl) (a_gi (zO_1 g))) ?_
  refine Eq.trans (Eq.trans (r_go (act := oS (fCm 34 77 cLt)) rfl rfl) (a_cm)) (bcg ?_ ?_)
  · refine Eq.trans (Eq.trans (r_go (act := oS (fIld 35 2)) rfl rfl) (a_ild rfl)) ?_
    refine Eq.trans (Eq.trans (r_go (act := oS (fIf 51 38 cEq0)) rfl rfl) (a_if)) (bcg ?_ ?_)
    · refine Eq.trans (Eq.trans (r_go (act := oS (fIld 52 3)) rfl rfl) (a_ild rfl)) ?_
      refine Eq.trans (Eq.trans (r_go (act := oS (fIf 68 55 cEq0)) rfl rfl) (a_if)) (bcg ?_ ?_)
      · refine Eq.trans (Eq.trans (r_go (act := oS (fIld 70 4)) rfl rfl) (a_ild rfl)) ?_
        exact Eq.trans (r_go (act := oIret) rfl rfl) (a_iret)
      · refine Eq.trans (Eq.trans (r_go (act := oS (fAld 56 0)) rfl rfl) (a_ald rfl)) ?_
        refine Eq.trans (Eq.trans (r_go (act := oS (fGr g 59 9 0)) rfl rfl) (a_gr (zO_1 g) (zR_1_0 g))) ?_
        refine Eq.trans (Eq.trans (r_go (act := oS (fIld 61 4)) rfl rfl) (a_ild rfl)) ?_
        refine Eq.trans (Eq.trans (r_go (act := oS (fIa g 62)) rfl rfl) (a_ia (zA_2 g) zS_2)) (bcg ?_ rfl)
        refine Eq.trans (Eq.trans (r_go (act := oCI 65 1 zcs (X_X9_isDigit g)) rfl rfl) (a_cI rfl rfl)) (zbI_cg (fun x1 M1 => ?_))
        refine Eq.trans (Eq.trans (r_go (act := oS (fIf 68 71 cEq0)) rfl rfl) (a_if)) (bcg ?_ ?_)
        · refine Eq.trans (Eq.trans (r_go (act := oS (fIld 70 4)) rfl rfl) (a_ild rfl)) ?_
          exact Eq.trans (r_go (act := oIret) rfl rfl) (a_iret)
        · refine Eq.trans (Eq.trans (r_go (act := oS (fInc 74 4 1)) rfl rfl) (a_inc rfl rfl rfl)) ?_
          refine Eq.trans (Eq.trans (r_go (act := oS (fGo 25)) rfl rfl) (a_goto)) ?_
          exact r_cut rfl rfl
    · refine Eq.trans (Eq.trans (r_go (act := oS (fAld 39 0)) rfl rfl) (a_ald rfl)) ?_
      refine Eq.trans (Eq.trans (r_go (act := oS (fGr g 42 9 0)) rfl rfl) (a_gr (zO_1 g) (zR_1_0 g))) ?_
      refine Eq.trans (Eq.trans (r_go (act := oS (fIld 44 4)) rfl rfl) (a_ild rfl)) ?_
      refine Eq.trans (Eq.trans (r_go (act := oS (fIa g 45)) rfl rfl) (a_ia (zA_2 g) zS_2)) (bcg ?_ rfl)
      refine Eq.trans (Eq.trans (r_go (act := oCI 48 1 zcs (X_X9_isLetter g)) rfl rfl) (a_cI rfl rfl)) (zbI_cg (fun x2 M2 => ?_))
      refine Eq.trans (Eq.trans (r_go (act := oS (fIf 51 71 cEq0)) rfl rfl) (a_if)) (bcg ?_ ?_)
      · refine Eq.trans (Eq.trans (r_go (act := oS (fIld 52 3)) rfl rfl) (a_ild rfl)) ?_
        refine Eq.trans (Eq.trans (r_go (act := oS (fIf 68 55 cEq0)) rfl rfl) (a_if)) (bcg ?_ ?_)
        · refine Eq.trans (Eq.trans (r_go (act := oS (fIld 70 4)) rfl rfl) (a_ild rfl)) ?_
          exact Eq.trans (r_go (act := oIret) rfl rfl) (a_iret)
        · refine Eq.trans (Eq.trans (r_go (act := oS (fAld 56 0)) rfl rfl) (a_ald rfl)) ?_
          refine Eq.trans (Eq.trans (r_go (act := oS (fGr g 59 9 0)) rfl rfl) (a_gr (zO_1 g) (zR_1_0 g))) ?_
          refine Eq.trans (Eq.trans (r_go (act := oS (fIld 61 4)) rfl rfl) (a_ild rfl)) ?_
          refine Eq.trans (Eq.trans (r_go (act := oS (fIa g 62)) rfl rfl) (a_ia (zA_2 g) zS_2)) (bcg ?_ rfl)
          refine Eq.trans (Eq.trans (r_go (act := oCI 65 1 zcs (X_X9_isDigit g)) rfl rfl) (a_cI rfl rfl)) (zbI_cg (fun x3 M3 => ?_))
          refine Eq.trans (Eq.trans (r_go (act := oS (fIf 68 71 cEq0)) rfl rfl) (a_if)) (bcg ?_ ?_)
          · refine Eq.trans (Eq.trans (r_go (act := oS (fIld 70 4)) rfl rfl) (a_ild rfl)) ?_
            exact Eq.trans (r_go (act := oIret) rfl rfl) (a_iret)
          · refine Eq.trans (Eq.trans (r_go (act := oS (fInc 74 4 1)) rfl rfl) (a_inc rfl rfl rfl)) ?_
            refine Eq.trans (Eq.trans (r_go (act := oS (fGo 25)) rfl rfl) (a_goto)) ?_
            exact r_cut rfl rfl
      · refine Eq.trans (Eq.trans (r_go (act := oS (fInc 74 4 1)) rfl rfl) (a_inc rfl rfl rfl)) ?_
        refine Eq.trans (Eq.trans (r_go (act := oS (fGo 25)) rfl rfl) (a_goto)) ?_
        exact r_cut rfl rfl
  · refine Eq.trans (Eq.trans (r_go (act := oS (fAld 78 0)) rfl rfl) (a_ald rfl)) ?_
    refine Eq.trans (Eq.trans (r_go (act := oS (fGi g 81 9 5)) rfl rfl) (a_gi (zO_1 g))) ?_
    exact Eq.trans (r_go (act := oIret) rfl rfl) (a_iret)
set_option maxRecDepth 20000 in
theorem e_X9_isBlank_0 (g : zg) (a0 : Int32) (M : zM) : zX (t_X9_isBlank g) 0 [some (.int a0)] [] M = (bif cEq a0 32 then some (some (.int 1), M) else (bif cEq a0 10 then some (some (.int 1), M) else some (some (.int 0), M))) := by
  refine Eq.trans (zX_rgN (tl_X9_isBlank g) (hc_X9_isBlank g) 10 _ _ _ _) ?_
  refine Eq.trans (Eq.trans (r_0 (act := oS (fIld 1 0)) rfl) (a_ild rfl)) ?_
  refine Eq.trans (Eq.trans (r_go (act := oS (fSt 3 (gC (.int 32)))) rfl rfl) (a_C)) ?_
  refine Eq.trans (Eq.trans (r_go (act := oS (fCm 12 6 cEq)) rfl rfl) (a_cm)) (bcg ?_ ?_)
  · refine Eq.trans (Eq.trans (r_go (act := oS (fSt 13 (gC (.int 1)))) rfl rfl) (a_C)) ?_
    refine Eq.trans (Eq.trans (r_go (act := oS (fGo 17)) rfl rfl) (a_goto)) ?_
    exact Eq.trans (Eq.trans (r_go (act := oZret) rfl rfl) a_zret) (bcT (by decide +kernel))
  · refine Eq.trans (Eq.trans (r_go (act := oS (fIld 7 0)) rfl rfl) (a_ild rfl)) ?_
    refine Eq.trans (Eq.trans (r_go (act := oS (fSt 9 (gC (.int 10)))) rfl rfl) (a_C)) ?_
    refine Eq.trans (Eq.trans (r_go (act := oS (fCm 12 16 cEq)) rfl rfl) (a_cm)) (bcg ?_ ?_)
    · refine Eq.trans (Eq.trans (r_go (act := oS (fSt 13 (gC (.int 1)))) rfl rfl) (a_C)) ?_
      refine Eq.trans (Eq.trans (r_go (act := oS (fGo 17)) rfl rfl) (a_goto)) ?_
      exact Eq.trans (Eq.trans (r_go (act := oZret) rfl rfl) a_zret) (bcT (by decide +kernel))
    · refine Eq.trans (Eq.trans (r_go (act := oS (fSt 17 (gC (.int 0)))) rfl rfl) (a_C)) ?_
      exact Eq.trans (Eq.trans (r_go (act := oZret) rfl rfl) a_zret) (bcT (by decide +kernel))
theorem x_X9_isBlank_0 (g : zg) (a0 : Int32) (M : zM) : X_X9_isBlank g [.int a0] M = (bif cEq a0 32 then some (some (.int 1), M) else (bif cEq a0 10 then some (some (.int 1), M) else some (some (.int 0), M))) := e_X9_isBlank_0 g a0 M
set_option maxRecDepth 20000 in
theorem e_J0_coder_7d493_0 (g : zg) (M : zM) : zX (t_J0_coder_7d493 g) 0 [some (.ref 1000)] [] M = some (some (.int 0), M) := by
  refine Eq.trans (zX_rgN (tl_J0_coder_7d493 g) (hc_J0_coder_7d493 g) 7 _ _ _ _) ?_
  refine Eq.trans (Eq.trans (r_0 (act := oS (fSt 3 (gC (.int 1)))) rfl) (a_C)) ?_
  refine Eq.trans (Eq.trans (r_go (act := oS (fIf 13 6 cEq0)) rfl rfl) (a_ifF (by decide +kernel))) ?_
  refine Eq.trans (Eq.trans (r_go (act := oS (fAld 7 0)) rfl rfl) (a_ald rfl)) ?_
  refine Eq.trans (Eq.trans (r_go (act := oS (fGsc 10)) rfl rfl) (a_scod rfl)) ?_
  refine Eq.trans (Eq.trans (r_go (act := oS (fGo 14)) rfl rfl) (a_goto)) ?_
  exact Eq.trans (Eq.trans (r_go (act := oNret .byte) rfl rfl) a_nret) (bcT (by decide +kernel))
theorem x_J0_coder_7d493_0 (g : zg) (M : zM) : X_J0_coder_7d493 g [.ref 1000] M = some (some (.int 0), M) := e_J0_coder_7d493_0 g M
set_option maxRecDepth 20000 in
theorem e_J0_coder_7d493_0_1 (g : zg) (M : zM) : zX (t_J0_coder_7d493 g) 0 [some (.ref 1001)] [] M = some (some (.int 0), M) := by
  refine Eq.trans (zX_rgN (tl_J0_coder_7d493 g) (hc_J0_coder_7d493 g) 7 _ _ _ _) ?_
  refine Eq.trans (Eq.trans (r_0 (act := oS (fSt 3 (gC (.int 1)))) rfl) (a_C)) ?_
  refine Eq.trans (Eq.trans (r_go (act := oS (fIf 13 6 cEq0)) rfl rfl) (a_ifF (by decide +kernel))) ?_
  refine Eq.trans (Eq.trans (r_go (act := oS (fAld 7 0)) rfl rfl) (a_ald rfl)) ?_
  refine Eq.trans (Eq.trans (r_go (act := oS (fGsc 10)) rfl rfl) (a_scod rfl)) ?_
  refine Eq.trans (Eq.trans (r_go (act := oS (fGo 14)) rfl rfl) (a_goto)) ?_
  exact Eq.trans (Eq.trans (r_go (act := oNret .byte) rfl rfl) a_nret) (bcT (by decide +kernel))
theorem x_J0_coder_7d493_0_1 (g : zg) (M : zM) : X_J0_coder_7d493 g [.ref 1001] M = some (some (.int 0), M) := e_J0_coder_7d493_0_1 g M
set_option maxRecDepth 20000 in
theorem e_J0_coder_7d493_0_2 (g : zg) (M : zM) : zX (t_J0_coder_7d493 g) 0 [some (.ref 1002)] [] M = some (some (.int 0), M) := by
  refine Eq.trans (zX_rgN (tl_J0_coder_7d493 g) (hc_J0_coder_7d493 g) 7 _ _ _ _) ?_
  refine Eq.trans (Eq.trans (r_0 (act := oS (fSt 3 (gC (.int 1)))) rfl) (a_C)) ?_
  refine Eq.trans (Eq.trans (r_go (act := oS (fIf 13 6 cEq0)) rfl rfl) (a_ifF (by decide +kernel))) ?_
  refine Eq.trans (Eq.trans (r_go (act := oS (fAld 7 0)) rfl rfl) (a_ald rfl)) ?_
  refine Eq.trans (Eq.trans (r_go (act := oS (fGsc 10)) rfl rfl) (a_scod rfl)) ?_
  refine Eq.trans (Eq.trans (r_go (act := oS (fGo 14)) rfl rfl) (a_goto)) ?_
  exact Eq.trans (Eq.trans (r_go (act := oNret .byte) rfl rfl) a_nret) (bcT (by decide +kernel))
theorem x_J0_coder_7d493_0_2 (g : zg) (M : zM) : X_J0_coder_7d493 g [.ref 1002] M = some (some (.int 0), M) := e_J0_coder_7d493_0_2 g M
set_option maxRecDepth 20000 in
theorem e_J0_coder_7d493_0_3 (g : zg) (M : zM) : zX (t_J0_coder_7d493 g) 0 [some (.ref 1003)] [] M = some (some (.int 0), M) := by
  refine Eq.trans (zX_rgN (tl_J0_coder_7d493 g) (hc_J0_coder_7d493 g) 7 _ _ _ _) ?_
  refine Eq.trans (Eq.trans (r_0 (act := oS (fSt 3 (gC (.int 1)))) rfl) (a_C)) ?_
  refine Eq.trans (Eq.trans (r_go (act := oS (fIf 13 6 cEq0)) rfl rfl) (a_ifF (by decide +kernel))) ?_
  refine Eq.trans (Eq.trans (r_go (act := oS (fAld 7 0)) rfl rfl) (a_ald rfl)) ?_
  refine Eq.trans (Eq.trans (r_go (act := oS (fGsc 10)) rfl rfl) (a_scod rfl)) ?_
  refine Eq.trans (Eq.trans (r_go (act := oS (fGo 14)) rfl rfl) (a_goto)) ?_
  exact Eq.trans (Eq.trans (r_go (act := oNret .byte) rfl rfl) a_nret) (bcT (by decide +kernel))
theorem x_J0_coder_7d493_0_3 (g : zg) (M : zM) : X_J0_coder_7d493 g [.ref 1003] M = some (some (.int 0), M) := e_J0_coder_7d493_0_3 g M
set_option maxRecDepth 20000 in
theorem e_J0_length_8abf5_0 (g : zg) (M : zM) : zX (t_J0_length_8abf5 g) 0 [some (.ref 1000)] [] M = (zbI (X_J0_coder_7d493 g [.ref 1000] M) (fun x1 M1 => some (some (.int ((nI (zln 1010)) >>> (x1 &&& 31))), M1))) := by
  refine Eq.trans (zX_rgN (tl_J0_length_8abf5 g) (hc_J0_length_8abf5 g) 8 _ _ _ _) ?_
  refine Eq.trans (Eq.trans (r_0 (act := oS (fAld 1 0)) rfl) (a_ald rfl)) ?_
  refine Eq.trans (Eq.trans (r_go (act := oS (fGsv 4)) rfl rfl) (a_sval rfl)) ?_
  refine Eq.trans (Eq.trans (r_go (act := oS (fAln 5)) rfl rfl) (a_slen rfl)) ?_
  refine Eq.trans (Eq.trans (r_go (act := oS (fAld 6 0)) rfl rfl) (a_ald rfl)) ?_
  refine Eq.trans (Eq.trans (r_go (act := oCI 9 1 zct (X_J0_coder_7d493 g)) rfl rfl) (a_cI rfl rfl)) (zbI_cg (fun x1 M1 => ?_))
  refine Eq.trans (Eq.trans (r_go (act := oS (fSt 10 (g2 (fun x y => x >>> (y &&& 31))))) rfl rfl) (a_shr)) ?_
  exact Eq.trans (r_go (act := oIret) rfl rfl) (a_iret)
theorem x_J0_length_8abf5_0 (g : zg) (M : zM) : X_J0_length_8abf5 g [.ref 1000] M = (zbI (X_J0_coder_7d493 g [.ref 1000] M) (fun x1 M1 => some (some (.int ((nI (zln 1010)) >>> (x1 &&& 31))), M1))) := e_J0_length_8abf5_0 g M
set_option maxRecDepth 20000 in
theorem e_J0_length_8abf5_0_1 (g : zg) (M : zM) : zX (t_J0_length_8abf5 g) 0 [some (.ref 1001)] [] M = (zbI (X_J0_coder_7d493 g [.ref 1001] M) (fun x1 M1 => some (some (.int ((nI (zln 1011)) >>> (x1 &&& 31))), M1))) := by
  refine Eq.trans (zX_rgN (tl_J0_length_8abf5 g) (hc_J0_length_8abf5 g) 8 _ _ _ _) ?_
  refine Eq.trans (Eq.trans (r_0 (act := oS (fAld 1 0)) rfl) (a_ald rfl)) ?_
  refine Eq.trans (Eq.trans (r_go (act := oS (fGsv 4)) rfl rfl) (a_sval rfl)) ?_
  refine Eq.trans (Eq.trans (r_go (act := oS (fAln 5)) rfl rfl) (a_slen rfl)) ?_
  refine Eq.trans (Eq.trans (r_go (act := oS (fAld 6 0)) rfl rfl) (a_ald rfl)) ?_
  refine Eq.trans (Eq.trans (r_go (act := oCI 9 1 zct (X_J0_coder_7d493 g)) rfl rfl) (a_cI rfl rfl)) (zbI_cg (fun x1 M1 => ?_))
  refine Eq.trans (Eq.trans (r_go (act := oS (fSt 10 (g2 (fun x y => x >>> (y &&& 31))))) rfl rfl) (a_shr)) ?_
  exact Eq.trans (r_go (act := oIret) rfl rfl) (a_iret)
theorem x_J0_length_8abf5_0_1 (g : zg) (M : zM) : X_J0_length_8abf5 g [.ref 1001] M = (zbI (X_J0_coder_7d493 g [.ref 1001] M) (fun x1 M1 => some (some (.int ((nI (zln 1011)) >>> (x1 &&& 31))), M1))) := e_J0_length_8abf5_0_1 g M
set_option maxRecDepth 20000 in
theorem e_J0_length_8abf5_0_2 (g : zg) (M : zM) : zX (t_J0_length_8abf5 g) 0 [some (.ref 1002)] [] M = (zbI (X_J0_coder_7d493 g [.ref 1002] M) (fun x1 M1 => some (some (.int ((nI (zln 1012)) >>> (x1 &&& 31))), M1))) := by
  refine Eq.trans (zX_rgN (tl_J0_length_8abf5 g) (hc_J0_length_8abf5 g) 8 _ _ _ _) ?_
  refine Eq.trans (Eq.trans (r_0 (act := oS (fAld 1 0)) rfl) (a_ald rfl)) ?_
  refine Eq.trans (Eq.trans (r_go (act := oS (fGsv 4)) rfl rfl) (a_sval rfl)) ?_
  refine Eq.trans (Eq.trans (r_go (act := oS (fAln 5)) rfl rfl) (a_slen rfl)) ?_
  refine Eq.trans (Eq.trans (r_go (act := oS (fAld 6 0)) rfl rfl) (a_ald rfl)) ?_
  refine Eq.trans (Eq.trans (r_go (act := oCI 9 1 zct (X_J0_coder_7d493 g)) rfl rfl) (a_cI rfl rfl)) (zbI_cg (fun x1 M1 => ?_))
  refine Eq.trans (Eq.trans (r_go (act := oS (fSt 10 (g2 (fun x y => x >>> (y &&& 31))))) rfl rfl) (a_shr)) ?_
  exact Eq.trans (r_go (act := oIret) rfl rfl) (a_iret)
theorem x_J0_length_8abf5_0_2 (g : zg) (M : zM) : X_J0_length_8abf5 g [.ref 1002] M = (zbI (X_J0_coder_7d493 g [.ref 1002] M) (fun x1 M1 => some (some (.int ((nI (zln 1012)) >>> (x1 &&& 31))), M1))) := e_J0_length_8abf5_0_2 g M
set_option maxRecDepth 20000 in
theorem e_J0_length_8abf5_0_3 (g : zg) (M : zM) : zX (t_J0_length_8abf5 g) 0 [some (.ref 1003)] [] M = (zbI (X_J0_coder_7d493 g [.ref 1003] M) (fun x1 M1 => some (some (.int ((nI (zln 1013)) >>> (x1 &&& 31))), M1))) := by
  refine Eq.trans (zX_rgN (tl_J0_length_8abf5 g) (hc_J0_length_8abf5 g) 8 _ _ _ _) ?_
  refine Eq.trans (Eq.trans (r_0 (act := oS (fAld 1 0)) rfl) (a_ald rfl)) ?_
  refine Eq.trans (Eq.trans (r_go (act := oS (fGsv 4)) rfl rfl) (a_sval rfl)) ?_
  refine Eq.trans (Eq.trans (r_go (act := oS (fAln 5)) rfl rfl) (a_slen rfl)) ?_
  refine Eq.trans (Eq.trans (r_go (act := oS (fAld 6 0)) rfl rfl) (a_ald rfl)) ?_
  refine Eq.trans (Eq.trans (r_go (act := oCI 9 1 zct (X_J0_coder_7d493 g)) rfl rfl) (a_cI rfl rfl)) (zbI_cg (fun x1 M1 => ?_))
  refine Eq.trans (Eq.trans (r_go (act := oS (fSt 10 (g2 (fun x y => x >>> (y &&& 31))))) rfl rfl) (a_shr)) ?_
  exact Eq.trans (r_go (act := oIret) rfl rfl) (a_iret)
theorem x_J0_length_8abf5_0_3 (g : zg) (M : zM) : X_J0_length_8abf5 g [.ref 1003] M = (zbI (X_J0_coder_7d493 g [.ref 1003] M) (fun x1 M1 => some (some (.int ((nI (zln 1013)) >>> (x1 &&& 31))), M1))) := e_J0_length_8abf5_0_3 g M
set_option maxRecDepth 20000 in
theorem e_J0_isLatin1_aae02_0 (g : zg) (M : zM) : zX (t_J0_isLatin1_aae02 g) 0 [some (.ref 1003)] [] M = some (some (.int 1), M) := by
  refine Eq.trans (zX_rgN (tl_J0_isLatin1_aae02 g) (hc_J0_isLatin1_aae02 g) 9 _ _ _ _) ?_
  refine Eq.trans (Eq.trans (r_0 (act := oS (fSt 3 (gC (.int 1)))) rfl) (a_C)) ?_
  refine Eq.trans (Eq.trans (r_go (act := oS (fIf 17 6 cEq0)) rfl rfl) (a_ifF (by decide +kernel))) ?_
  refine Eq.trans (Eq.trans (r_go (act := oS (fAld 7 0)) rfl rfl) (a_ald rfl)) ?_
  refine Eq.trans (Eq.trans (r_go (act := oS (fGsc 10)) rfl rfl) (a_scod rfl)) ?_
  refine Eq.trans (Eq.trans (r_go (act := oS (fIf 13 17 cEq0)) rfl rfl) (a_ifT (by decide +kernel))) ?_
  refine Eq.trans (Eq.trans (r_go (act := oS (fSt 14 (gC (.int 1)))) rfl rfl) (a_C)) ?_
  refine Eq.trans (Eq.trans (r_go (act := oS (fGo 18)) rfl rfl) (a_goto)) ?_
  exact Eq.trans (Eq.trans (r_go (act := oZret) rfl rfl) a_zret) (bcT (by decide +kernel))
theorem x_J0_isLatin1_aae02_0 (g : zg) (M : zM) : X_J0_isLatin1_aae02 g [.ref 1003] M = some (some (.int 1), M) := e_J0_isLatin1_aae02_0 g M
set_option maxRecDepth 20000 in
theorem e_J0_isLatin1_aae02_0_1 (g : zg) (M : zM) : zX (t_J0_isLatin1_aae02 g) 0 [some (.ref 1000)] [] M = some (some (.int 1), M) := by
  refine Eq.trans (zX_rgN (tl_J0_isLatin1_aae02 g) (hc_J0_isLatin1_aae02 g) 9 _ _ _ _) ?_
  refine Eq.trans (Eq.trans (r_0 (act := oS (fSt 3 (gC (.int 1)))) rfl) (a_C)) ?_
  refine Eq.trans (Eq.trans (r_go (act := oS (fIf 17 6 cEq0)) rfl rfl) (a_ifF (by decide +kernel))) ?_
  refine Eq.trans (Eq.trans (r_go (act := oS (fAld 7 0)) rfl rfl) (a_ald rfl)) ?_
  refine Eq.trans (Eq.trans (r_go (act := oS (fGsc 10)) rfl rfl) (a_scod rfl)) ?_
  refine Eq.trans (Eq.trans (r_go (act := oS (fIf 13 17 cEq0)) rfl rfl) (a_ifT (by decide +kernel))) ?_
  refine Eq.trans (Eq.trans (r_go (act := oS (fSt 14 (gC (.int 1)))) rfl rfl) (a_C)) ?_
  refine Eq.trans (Eq.trans (r_go (act := oS (fGo 18)) rfl rfl) (a_goto)) ?_
  exact Eq.trans (Eq.trans (r_go (act := oZret) rfl rfl) a_zret) (bcT (by decide +kernel))
theorem x_J0_isLatin1_aae02_0_1 (g : zg) (M : zM) : X_J0_isLatin1_aae02 g [.ref 1000] M = some (some (.int 1), M) := e_J0_isLatin1_aae02_0_1 g M
set_option maxRecDepth 20000 in
theorem e_J0_isLatin1_aae02_0_2 (g : zg) (M : zM) : zX (t_J0_isLatin1_aae02 g) 0 [some (.ref 1001)] [] M = some (some (.int 1), M) := by
  refine Eq.trans (zX_rgN (tl_J0_isLatin1_aae02 g) (hc_J0_isLatin1_aae02 g) 9 _ _ _ _) ?_
  refine Eq.trans (Eq.trans (r_0 (act := oS (fSt 3 (gC (.int 1)))) rfl) (a_C)) ?_
  refine Eq.trans (Eq.trans (r_go (act := oS (fIf 17 6 cEq0)) rfl rfl) (a_ifF (by decide +kernel))) ?_
  refine Eq.trans (Eq.trans (r_go (act := oS (fAld 7 0)) rfl rfl) (a_ald rfl)) ?_
  refine Eq.trans (Eq.trans (r_go (act := oS (fGsc 10)) rfl rfl) (a_scod rfl)) ?_
  refine Eq.trans (Eq.trans (r_go (act := oS (fIf 13 17 cEq0)) rfl rfl) (a_ifT (by decide +kernel))) ?_
  refine Eq.trans (Eq.trans (r_go (act := oS (fSt 14 (gC (.int 1)))) rfl rfl) (a_C)) ?_
  refine Eq.trans (Eq.trans (r_go (act := oS (fGo 18)) rfl rfl) (a_goto)) ?_
  exact Eq.trans (Eq.trans (r_go (act := oZret) rfl rfl) a_zret) (bcT (by decide +kernel))
theorem x_J0_isLatin1_aae02_0_2 (g : zg) (M : zM) : X_J0_isLatin1_aae02 g [.ref 1001] M = some (some (.int 1), M) := e_J0_isLatin1_aae02_0_2 g M
set_option maxRecDepth 20000 in
theorem e_J0_isLatin1_aae02_0_3 (g : zg) (M : zM) : zX (t_J0_isLatin1_aae02 g) 0 [some (.ref 1002)] [] M = some (some (.int 1), M) := by
  refine Eq.trans (zX_rgN (tl_J0_isLatin1_aae02 g) (hc_J0_isLatin1_aae02 g) 9 _ _ _ _) ?_
  refine Eq.trans (Eq.trans (r_0 (act := oS (fSt 3 (gC (.int 1)))) rfl) (a_C)) ?_
  refine Eq.trans (Eq.trans (r_go (act := oS (fIf 17 6 cEq0)) rfl rfl) (a_ifF (by decide +kernel))) ?_
  refine Eq.trans (Eq.trans (r_go (act := oS (fAld 7 0)) rfl rfl) (a_ald rfl)) ?_
  refine Eq.trans (Eq.trans (r_go (act := oS (fGsc 10)) rfl rfl) (a_scod rfl)) ?_
  refine Eq.trans (Eq.trans (r_go (act := oS (fIf 13 17 cEq0)) rfl rfl) (a_ifT (by decide +kernel))) ?_
  refine Eq.trans (Eq.trans (r_go (act := oS (fSt 14 (gC (.int 1)))) rfl rfl) (a_C)) ?_
  refine Eq.trans (Eq.trans (r_go (act := oS (fGo 18)) rfl rfl) (a_goto)) ?_
  exact Eq.trans (Eq.trans (r_go (act := oZret) rfl rfl) a_zret) (bcT (by decide +kernel))
theorem x_J0_isLatin1_aae02_0_3 (g : zg) (M : zM) : X_J0_isLatin1_aae02 g [.ref 1002] M = some (some (.int 1), M) := e_J0_isLatin1_aae02_0_3 g M
set_option maxRecDepth 20000 in
theorem e_J1_charAt_3b067_0 (g : zg) (a1 : Int32) (M : zM) : zX (t_J1_charAt_3b067 g) 0 [some (.ref 1010), some (.int a1)] [] M = (zbV (X_chk [.int a1, .int (nI (zln 1010))] M) (fun M1 => (bif zb a1 (zln 1010) then (bif zNr .char ((((zbt 1010 (zx a1)) &&& 255).toUInt32 % 65536).toInt32) then some (some (.int ((((zbt 1010 (zx a1)) &&& 255).toUInt32 % 65536).toInt32)), M1) else none) else none))) := by
  refine Eq.trans (zX_rgN (tl_J1_charAt_3b067 g) (hc_J1_charAt_3b067 g) 12 _ _ _ _) ?_
  refine Eq.trans (Eq.trans (r_0 (act := oS (fIld 1 1)) rfl) (a_ild rfl)) ?_
  refine Eq.trans (Eq.trans (r_go (act := oS (fAld 2 0)) rfl rfl) (a_ald rfl)) ?_
  refine Eq.trans (Eq.trans (r_go (act := oS (fAln 3)) rfl rfl) (a_slen rfl)) ?_
  refine Eq.trans (Eq.trans (r_go (act := oCV 6 2 zcs X_chk) rfl rfl) (a_cV rfl rfl)) (zbV_cg (fun M1 => ?_))
  refine Eq.trans (Eq.trans (r_go (act := oS (fAld 7 0)) rfl rfl) (a_ald rfl)) ?_
  refine Eq.trans (Eq.trans (r_go (act := oS (fIld 8 1)) rfl rfl) (a_ild rfl)) ?_
  refine Eq.trans (Eq.trans (r_go (act := oS (fBal 9)) rfl rfl) (a_sbal rfl)) (bcg ?_ rfl)
  refine Eq.trans (Eq.trans (r_go (act := oS (fSt 12 (gC (.int 255)))) rfl rfl) (a_C)) ?_
  refine Eq.trans (Eq.trans (r_go (act := oS (fSt 13 (g2 (fun x y => x &&& y)))) rfl rfl) (a_and)) ?_
  refine Eq.trans (Eq.trans (r_go (act := oS (fSt 14 (g1 (fun x => (x.toUInt32 % 65536).toInt32)))) rfl rfl) (a_i2c)) ?_
  exact Eq.trans (r_go (act := oNret .char) rfl rfl) (a_nret)
theorem x_J1_charAt_3b067_0 (g : zg) (a1 : Int32) (M : zM) : X_J1_charAt_3b067 g [.ref 1010, .int a1] M = (zbV (X_chk [.int a1, .int (nI (zln 1010))] M) (fun M1 => (bif zb a1 (zln 1010) then (bif zNr .char ((((zbt 1010 (zx a1)) &&& 255).toUInt32 % 65536).toInt32) then some (some (.int ((((zbt 1010 (zx a1)) &&& 255).toUInt32 % 65536).toInt32)), M1) else none) else none))) := e_J1_charAt_3b067_0 g a1 M
set_option maxRecDepth 20000 in
theorem e_J1_charAt_3b067_0_1 (g : zg) (a1 : Int32) (M : zM) : zX (t_J1_charAt_3b067 g) 0 [some (.ref 1011), some (.int a1)] [] M = (zbV (X_chk [.int a1, .int (nI (zln 1011))] M) (fun M1 => (bif zb a1 (zln 1011) then (bif zNr .char ((((zbt 1011 (zx a1)) &&& 255).toUInt32 % 65536).toInt32) then some (some (.int ((((zbt 1011 (zx a1)) &&& 255).toUInt32 % 65536).toInt32)), M1) else none) else none))) := by
  refine Eq.trans (zX_rgN (tl_J1_charAt_3b067 g) (hc_J1_charAt_3b067 g) 12 _ _ _ _) ?_
  refine Eq.trans (Eq.trans (r_0 (act := oS (fIld 1 1)) rfl) (a_ild rfl)) ?_
  refine Eq.trans (Eq.trans (r_go (act := oS (fAld 2 0)) rfl rfl) (a_ald rfl)) ?_
  refine Eq.trans (Eq.trans (r_go (act := oS (fAln 3)) rfl rfl) (a_slen rfl)) ?_
  refine Eq.trans (Eq.trans (r_go (act := oCV 6 2 zcs X_chk) rfl rfl) (a_cV rfl rfl)) (zbV_cg (fun M1 => ?_))
  refine Eq.trans (Eq.trans (r_go (act := oS (fAld 7 0)) rfl rfl) (a_ald rfl)) ?_
  refine Eq.trans (Eq.trans (r_go (act := oS (fIld 8 1)) rfl rfl) (a_ild rfl)) ?_
  refine Eq.trans (Eq.trans (r_go (act := oS (fBal 9)) rfl rfl) (a_sbal rfl)) (bcg ?_ rfl)
  refine Eq.trans (Eq.trans (r_go (act := oS (fSt 12 (gC (.int 255)))) rfl rfl) (a_C)) ?_
  refine Eq.trans (Eq.trans (r_go (act := oS (fSt 13 (g2 (fun x y => x &&& y)))) rfl rfl) (a_and)) ?_
  refine Eq.trans (Eq.trans (r_go (act := oS (fSt 14 (g1 (fun x => (x.toUInt32 % 65536).toInt32)))) rfl rfl) (a_i2c)) ?_
  exact Eq.trans (r_go (act := oNret .char) rfl rfl) (a_nret)
theorem x_J1_charAt_3b067_0_1 (g : zg) (a1 : Int32) (M : zM) : X_J1_charAt_3b067 g [.ref 1011, .int a1] M = (zbV (X_chk [.int a1, .int (nI (zln 1011))] M) (fun M1 => (bif zb a1 (zln 1011) then (bif zNr .char ((((zbt 1011 (zx a1)) &&& 255).toUInt32 % 65536).toInt32) then some (some (.int ((((zbt 1011 (zx a1)) &&& 255).toUInt32 % 65536).toInt32)), M1) else none) else none))) := e_J1_charAt_3b067_0_1 g a1 M
set_option maxRecDepth 20000 in
theorem e_J1_charAt_3b067_0_2 (g : zg) (a1 : Int32) (M : zM) : zX (t_J1_charAt_3b067 g) 0 [some (.ref 1012), some (.int a1)] [] M = (zbV (X_chk [.int a1, .int (nI (zln 1012))] M) (fun M1 => (bif zb a1 (zln 1012) then (bif zNr .char ((((zbt 1012 (zx a1)) &&& 255).toUInt32 % 65536).toInt32) then some (some (.int ((((zbt 1012 (zx a1)) &&& 255).toUInt32 % 65536).toInt32)), M1) else none) else none))) := by
  refine Eq.trans (zX_rgN (tl_J1_charAt_3b067 g) (hc_J1_charAt_3b067 g) 12 _ _ _ _) ?_
  refine Eq.trans (Eq.trans (r_0 (act := oS (fIld 1 1)) rfl) (a_ild rfl)) ?_
  refine Eq.trans (Eq.trans (r_go (act := oS (fAld 2 0)) rfl rfl) (a_ald rfl)) ?_
  refine Eq.trans (Eq.trans (r_go (act := oS (fAln 3)) rfl rfl) (a_slen rfl)) ?_
  refine Eq.trans (Eq.trans (r_go (act := oCV 6 2 zcs X_chk) rfl rfl) (a_cV rfl rfl)) (zbV_cg (fun M1 => ?_))
  refine Eq.trans (Eq.trans (r_go (act := oS (fAld 7 0)) rfl rfl) (a_ald rfl)) ?_
  refine Eq.trans (Eq.trans (r_go (act := oS (fIld 8 1)) rfl rfl) (a_ild rfl)) ?_
  refine Eq.trans (Eq.trans (r_go (act := oS (fBal 9)) rfl rfl) (a_sbal rfl)) (bcg ?_ rfl)
  refine Eq.trans (Eq.trans (r_go (act := oS (fSt 12 (gC (.int 255)))) rfl rfl) (a_C)) ?_
  refine Eq.trans (Eq.trans (r_go (act := oS (fSt 13 (g2 (fun x y => x &&& y)))) rfl rfl) (a_and)) ?_
  refine Eq.trans (Eq.trans (r_go (act := oS (fSt 14 (g1 (fun x => (x.toUInt32 % 65536).toInt32)))) rfl rfl) (a_i2c)) ?_
  exact Eq.trans (r_go (act := oNret .char) rfl rfl) (a_nret)
theorem x_J1_charAt_3b067_0_2 (g : zg) (a1 : Int32) (M : zM) : X_J1_charAt_3b067 g [.ref 1012, .int a1] M = (zbV (X_chk [.int a1, .int (nI (zln 1012))] M) (fun M1 => (bif zb a1 (zln 1012) then (bif zNr .char ((((zbt 1012 (zx a1)) &&& 255).toUInt32 % 65536).toInt32) then some (some (.int ((((zbt 1012 (zx a1)) &&& 255).toUInt32 % 65536).toInt32)), M1) else none) else none))) := e_J1_charAt_3b067_0_2 g a1 M
set_option maxRecDepth 20000 in
theorem e_J0_charAt_5068e_0 (g : zg) (a1 : Int32) (M : zM) : zX (t_J0_charAt_5068e g) 0 [some (.ref 1000), some (.int a1)] [] M = (zbI (X_J0_isLatin1_aae02 g [.ref 1000] M) (fun x1 M1 => (bif cEq0 x1 then none else (zbI (X_J1_charAt_3b067 g [.ref 1010, .int a1] M1) (fun x2 M2 => (bif zNr .char x2 then some (some (.int x2), M2) else none)))))) := by
  refine Eq.trans (zX_rgN (tl_J0_charAt_5068e g) (hc_J0_charAt_5068e g) 9 _ _ _ _) ?_
  refine Eq.trans (Eq.trans (r_0 (act := oS (fAld 1 0)) rfl) (a_ald rfl)) ?_
  refine Eq.trans (Eq.trans (r_go (act := oCI 4 1 zct (X_J0_isLatin1_aae02 g)) rfl rfl) (a_cI rfl rfl)) (zbI_cg (fun x1 M1 => ?_))
  refine Eq.trans (Eq.trans (r_go (act := oS (fIf 16 7 cEq0)) rfl rfl) (a_if)) (bcg ?_ ?_)
  · refine Eq.trans (Eq.trans (r_go (act := oS (fAld 17 0)) rfl rfl) (a_ald rfl)) ?_
    refine Eq.trans (Eq.trans (r_go (act := oS (fGsv 20)) rfl rfl) (a_sval rfl)) ?_
    refine Eq.trans (Eq.trans (r_go (act := oS (fIld 21 1)) rfl rfl) (a_ild rfl)) ?_
    exact Eq.trans (r_go (act := oNo) rfl rfl) rfl
  · refine Eq.trans (Eq.trans (r_go (act := oS (fAld 8 0)) rfl rfl) (a_ald rfl)) ?_
    refine Eq.trans (Eq.trans (r_go (act := oS (fGsv 11)) rfl rfl) (a_sval rfl)) ?_
    refine Eq.trans (Eq.trans (r_go (act := oS (fIld 12 1)) rfl rfl) (a_ild rfl)) ?_
    refine Eq.trans (Eq.trans (r_go (act := oCI 15 2 zcs (X_J1_charAt_3b067 g)) rfl rfl) (a_cI rfl rfl)) (zbI_cg (fun x2 M2 => ?_))
    exact Eq.trans (r_go (act := oNret .char) rfl rfl) (a_nret)
theorem x_J0_charAt_5068e_0 (g : zg) (a1 : Int32) (M : zM) : X_J0_charAt_5068e g [.ref 1000, .int a1] M = (zbI (X_J0_isLatin1_aae02 g [.ref 1000] M) (fun x1 M1 => (bif cEq0 x1 then none else (zbI (X_J1_charAt_3b067 g [.ref 1010, .int a1] M1) (fun x2 M2 => (bif zNr .char x2 then some (some (.int x2), M2) else none)))))) := e_J0_charAt_5068e_0 g a1 M
set_option maxRecDepth 20000 in
theorem e_J0_charAt_5068e_0_1 (g : zg) (a1 : Int32) (M : zM) : zX (t_J0_charAt_5068e g) 0 [some (.ref 1001), some (.int a1)] [] M = (zbI (X_J0_isLatin1_aae02 g [.ref 1001] M) (fun x1 M1 => (bif cEq0 x1 then none else (zbI (X_J1_charAt_3b067 g [.ref 1011, .int a1] M1) (fun x2 M2 => (bif zNr .char x2 then some (some (.int x2), M2) else none)))))) := by
  refine Eq.trans (zX_rgN (tl_J0_charAt_5068e g) (hc_J0_charAt_5068e g) 9 _ _ _ _) ?_
  refine Eq.trans (Eq.trans (r_0 (act := oS (fAld 1 0)) rfl) (a_ald rfl)) ?_
  refine Eq.trans (Eq.trans (r_go (act := oCI 4 1 zct (X_J0_isLatin1_aae02 g)) rfl rfl) (a_cI rfl rfl)) (zbI_cg (fun x1 M1 => ?_))
  refine Eq.trans (Eq.trans (r_go (act := oS (fIf 16 7 cEq0)) rfl rfl) (a_if)) (bcg ?_ ?_)
  · refine Eq.trans (Eq.trans (r_go (act := oS (fAld 17 0)) rfl rfl) (a_ald rfl)) ?_
    refine Eq.trans (Eq.trans (r_go (act := oS (fGsv 20)) rfl rfl) (a_sval rfl)) ?_
    refine Eq.trans (Eq.trans (r_go (act := oS (fIld 21 1)) rfl rfl) (a_ild rfl)) ?_
    exact Eq.trans (r_go (act := oNo) rfl rfl) rfl
  · refine Eq.trans (Eq.trans (r_go (act := oS (fAld 8 0)) rfl rfl) (a_ald rfl)) ?_
    refine Eq.trans (Eq.trans (r_go (act := oS (fGsv 11)) rfl rfl) (a_sval rfl)) ?_
    refine Eq.trans (Eq.trans (r_go (act := oS (fIld 12 1)) rfl rfl) (a_ild rfl)) ?_
    refine Eq.trans (Eq.trans (r_go (act := oCI 15 2 zcs (X_J1_charAt_3b067 g)) rfl rfl) (a_cI rfl rfl)) (zbI_cg (fun x2 M2 => ?_))
    exact Eq.trans (r_go (act := oNret .char) rfl rfl) (a_nret)
theorem x_J0_charAt_5068e_0_1 (g : zg) (a1 : Int32) (M : zM) : X_J0_charAt_5068e g [.ref 1001, .int a1] M = (zbI (X_J0_isLatin1_aae02 g [.ref 1001] M) (fun x1 M1 => (bif cEq0 x1 then none else (zbI (X_J1_charAt_3b067 g [.ref 1011, .int a1] M1) (fun x2 M2 => (bif zNr .char x2 then some (some (.int x2), M2) else none)))))) := e_J0_charAt_5068e_0_1 g a1 M
set_option maxRecDepth 20000 in
theorem e_J0_charAt_5068e_0_2 (g : zg) (a1 : Int32) (M : zM) : zX (t_J0_charAt_5068e g) 0 [some (.ref 1002), some (.int a1)] [] M = (zbI (X_J0_isLatin1_aae02 g [.ref 1002] M) (fun x1 M1 => (bif cEq0 x1 then none else (zbI (X_J1_charAt_3b067 g [.ref 1012, .int a1] M1) (fun x2 M2 => (bif zNr .char x2 then some (some (.int x2), M2) else none)))))) := by
  refine Eq.trans (zX_rgN (tl_J0_charAt_5068e g) (hc_J0_charAt_5068e g) 9 _ _ _ _) ?_
  refine Eq.trans (Eq.trans (r_0 (act := oS (fAld 1 0)) rfl) (a_ald rfl)) ?_
  refine Eq.trans (Eq.trans (r_go (act := oCI 4 1 zct (X_J0_isLatin1_aae02 g)) rfl rfl) (a_cI rfl rfl)) (zbI_cg (fun x1 M1 => ?_))
  refine Eq.trans (Eq.trans (r_go (act := oS (fIf 16 7 cEq0)) rfl rfl) (a_if)) (bcg ?_ ?_)
  · refine Eq.trans (Eq.trans (r_go (act := oS (fAld 17 0)) rfl rfl) (a_ald rfl)) ?_
    refine Eq.trans (Eq.trans (r_go (act := oS (fGsv 20)) rfl rfl) (a_sval rfl)) ?_
    refine Eq.trans (Eq.trans (r_go (act := oS (fIld 21 1)) rfl rfl) (a_ild rfl)) ?_
    exact Eq.trans (r_go (act := oNo) rfl rfl) rfl
  · refine Eq.trans (Eq.trans (r_go (act := oS (fAld 8 0)) rfl rfl) (a_ald rfl)) ?_
    refine Eq.trans (Eq.trans (r_go (act := oS (fGsv 11)) rfl rfl) (a_sval rfl)) ?_
    refine Eq.trans (Eq.trans (r_go (act := oS (fIld 12 1)) rfl rfl) (a_ild rfl)) ?_
    refine Eq.trans (Eq.trans (r_go (act := oCI 15 2 zcs (X_J1_charAt_3b067 g)) rfl rfl) (a_cI rfl rfl)) (zbI_cg (fun x2 M2 => ?_))
    exact Eq.trans (r_go (act := oNret .char) rfl rfl) (a_nret)
theorem x_J0_charAt_5068e_0_2 (g : zg) (a1 : Int32) (M : zM) : X_J0_charAt_5068e g [.ref 1002, .int a1] M = (zbI (X_J0_isLatin1_aae02 g [.ref 1002] M) (fun x1 M1 => (bif cEq0 x1 then none else (zbI (X_J1_charAt_3b067 g [.ref 1012, .int a1] M1) (fun x2 M2 => (bif zNr .char x2 then some (some (.int x2), M2) else none)))))) := e_J0_charAt_5068e_0_2 g a1 M
set_option maxRecDepth 20000 in
theorem e_X9_isSame_0 (g : zg) (a1 : Int32) (a2 : Int32) (a4 : Int32) (M : zM) : zX (t_X9_isSame g) 0 [some (.ref 1), some (.int a1), some (.int a2), some (.ref 1000), some (.int a4), none] [] M = zX (t_X9_isSame g) 3 [some (.ref 1), some (.int a1), some (.int a2), some (.ref 1000), some (.int a4), some (.int a1)] [] M := by
  refine Eq.trans (zX_rgN (tl_X9_isSame g) (hc_X9_isSame g) 4 _ _ _ _) ?_
  refine Eq.trans (Eq.trans (r_0 (act := oS (fIld 1 1)) rfl) (a_ild rfl)) ?_
  refine Eq.trans (Eq.trans (r_go (act := oS (fIst 3 5)) rfl rfl) (a_ist rfl rfl)) ?_
  exact r_cut rfl rfl
theorem x_X9_isSame_0 (g : zg) (a1 : Int32) (a2 : Int32) (a4 : Int32) (M : zM) : X_X9_isSame g [.ref 1, .int a1, .int a2, .ref 1000, .int a4] M = zX (t_X9_isSame g) 3 [some (.ref 1), some (.int a1), some (.int a2), some (.ref 1000), some (.int a4), some (.int a1)] [] M := e_X9_isSame_0 g a1 a2 a4 M
set_option maxRecDepth 20000 in
theorem e_X9_isSame_0_1 (g : zg) (a1 : Int32) (a2 : Int32) (a4 : Int32) (M : zM) : zX (t_X9_isSame g) 0 [some (.ref 1), some (.int a1), some (.int a2), some (.ref 1001), some (.int a4), none] [] M = zX (t_X9_isSame g) 3 [some (.ref 1), some (.int a1), some (.int a2), some (.ref 1001), some (.int a4), some (.int a1)] [] M := by
  refine Eq.trans (zX_rgN (tl_X9_isSame g) (hc_X9_isSame g) 4 _ _ _ _) ?_
  refine Eq.trans (Eq.trans (r_0 (act := oS (fIld 1 1)) rfl) (a_ild rfl)) ?_
  refine Eq.trans (Eq.trans (r_go (act := oS (fIst 3 5)) rfl rfl) (a_ist rfl rfl)) ?_
  exact r_cut rfl rfl
theorem x_X9_isSame_0_1 (g : zg) (a1 : Int32) (a2 : Int32) (a4 : Int32) (M : zM) : X_X9_isSame g [.ref 1, .int a1, .int a2, .ref 1001, .int a4] M = zX (t_X9_isSame g) 3 [some (.ref 1), some (.int a1), some (.int a2), some (.ref 1001), some (.int a4), some (.int a1)] [] M := e_X9_isSame_0_1 g a1 a2 a4 M
set_option maxRecDepth 20000 in
theorem e_X9_isSame_0_2 (g : zg) (a1 : Int32) (a2 : Int32) (a4 : Int32) (M : zM) : zX (t_X9_isSame g) 0 [some (.ref 1), some (.int a1), some (.int a2), some (.ref 1002), some (.int a4), none] [] M = zX (t_X9_isSame g) 3 [some (.ref 1), some (.int a1), some (.int a2), some (.ref 1002), some (.int a4), some (.int a1)] [] M := by
  refine Eq.trans (zX_rgN (tl_X9_isSame g) (hc_X9_isSame g) 4 _ _ _ _) ?_
  refine Eq.trans (Eq.trans (r_0 (act := oS (fIld 1 1)) rfl) (a_ild rfl)) ?_
  refine Eq.trans (Eq.trans (r_go (act := oS (fIst 3 5)) rfl rfl) (a_ist rfl rfl)) ?_
  exact r_cut rfl rfl
theorem x_X9_isSame_0_2 (g : zg) (a1 : Int32) (a2 : Int32) (a4 : Int32) (M : zM) : X_X9_isSame g [.ref 1, .int a1, .int a2, .ref 1002, .int a4] M = zX (t_X9_isSame g) 3 [some (.ref 1), some (.int a1), some (.int a2), some (.ref 1002), some (.int a4), some (.int a1)] [] M := e_X9_isSame_0_2 g a1 a2 a4 M
set_option maxRecDepth 20000 in
theorem e_X9_isSame_3 (g : zg) (a1 : Int32) (a2 : Int32) (a4 : Int32) (a5 : Int32) (M : zM) : zX (t_X9_isSame g) 3 [some (.ref 1), some (.int a1), some (.int a2), some (.ref 1000), some (.int a4), some (.int a5)] [] M = (bif cLt a5 a2 then (bif zb a5 400 then (zbI (X_J0_charAt_5068e g [.ref 1000, .int ((a4 + a5) - a1)] M) (fun x1 M1 => (bif cEq (M.1 2 (zx a5)) x1 then zX (t_X9_isSame g) 3 [some (.ref 1), some (.int a1), some (.int a2), some (.ref 1000), some (.int a4), some (.int (a5 + 1))] [] M1 else some (some (.int 0), M1)))) else none) else some (some (.int 1), M)) := by
  refine Eq.trans (zX_rgN (tl_X9_isSame g) (hc_X9_isSame g) 19 _ _ _ _) ?_
  refine Eq.trans (Eq.trans (Eq.trans (r_0 (act := oF [] (oS (fIld 5 5))) rfl) (a_F rfl)) (a_ild rfl)) ?_
  refine Eq.trans (Eq.trans (r_go (act := oS (fIld 6 2)) rfl rfl) (a_ild rfl)) ?_
  refine Eq.trans (Eq.trans (r_go (act := oS (fCm 9 38 cLt)) rfl rfl) (a_cm)) (bcg ?_ ?_)
  · refine Eq.trans (Eq.trans (r_go (act := oS (fAld 10 0)) rfl rfl) (a_ald rfl)) ?_
    refine Eq.trans (Eq.trans (r_go (act := oS (fGr g 13 9 0)) rfl rfl) (a_gr (zO_1 g) (zR_1_0 g))) ?_
    refine Eq.trans (Eq.trans (r_go (act := oS (fIld 15 5)) rfl rfl) (a_ild rfl)) ?_
    refine Eq.trans (Eq.trans (r_go (act := oS (fIa g 16)) rfl rfl) (a_ia (zA_2 g) zS_2)) (bcg ?_ rfl)
    refine Eq.trans (Eq.trans (r_go (act := oS (fAld 17 3)) rfl rfl) (a_ald rfl)) ?_
    refine Eq.trans (Eq.trans (r_go (act := oS (fIld 19 4)) rfl rfl) (a_ild rfl)) ?_
    refine Eq.trans (Eq.trans (r_go (act := oS (fIld 21 5)) rfl rfl) (a_ild rfl)) ?_
    refine Eq.trans (Eq.trans (r_go (act := oS (fSt 22 (g2 (fun x y => x + y)))) rfl rfl) (a_add)) ?_
    refine Eq.trans (Eq.trans (r_go (act := oS (fIld 23 1)) rfl rfl) (a_ild rfl)) ?_
    refine Eq.trans (Eq.trans (r_go (act := oS (fSt 24 (g2 (fun x y => x - y)))) rfl rfl) (a_sub)) ?_
    refine Eq.trans (Eq.trans (r_go (act := oCI 27 2 zct (X_J0_charAt_5068e g)) rfl rfl) (a_cI rfl rfl)) (zbI_cg (fun x1 M1 => ?_))
    refine Eq.trans (Eq.trans (r_go (act := oS (fCm 32 30 cEq)) rfl rfl) (a_cm)) (bcg ?_ ?_)
    · refine Eq.trans (Eq.trans (r_go (act := oS (fInc 35 5 1)) rfl rfl) (a_inc rfl rfl rfl)) ?_
      refine Eq.trans (Eq.trans (r_go (act := oS (fGo 3)) rfl rfl) (a_goto)) ?_
      exact r_cut rfl rfl
    · refine Eq.trans (Eq.trans (r_go (act := oS (fSt 31 (gC (.int 0)))) rfl rfl) (a_C)) ?_
      exact Eq.trans (Eq.trans (r_go (act := oZret) rfl rfl) a_zret) (bcT (by decide +kernel))
  · refine Eq.trans (Eq.trans (r_go (act := oS (fSt 39 (gC (.int 1)))) rfl rfl) (a_C)) ?_
    exact Eq.trans (Eq.trans (r_go (act := oZret) rfl rfl) a_zret) (bcT (by decide +kernel))
set_option maxRecDepth 20000 in
theorem e_X9_isSame_3_1 (g : zg) (a1 : Int32) (a2 : Int32) (a4 : Int32) (a5 : Int32) (M : zM) : zX (t_X9_isSame g) 3 [some (.ref 1), some (.int a1), some (.int a2), some (.ref 1001), some (.int a4), some (.int a5)] [] M = (bif cLt a5 a2 then (bif zb a5 400 then (zbI (X_J0_charAt_5068e g [.ref 1001, .int ((a4 + a5) - a1)] M) (fun x1 M1 => (bif cEq (M.1 2 (zx a5)) x1 then zX (t_X9_isSame g) 3 [some (.ref 1), some (.int a1), some (.int a2), some (.ref 1001), some (.int a4), some (.int (a5 + 1))] [] M1 else some (some (.int 0), M1)))) else none) else some (some (.int 1), M)) := by
  refine Eq.trans (zX_rgN (tl_X9_isSame g) (hc_X9_isSame g) 19 _ _ _ _) ?_
  refine Eq.trans (Eq.trans (Eq.trans (r_0 (act := oF [] (oS (fIld 5 5))) rfl) (a_F rfl)) (a_ild rfl)) ?_
  refine Eq.trans (Eq.trans (r_go (act := oS (fIld 6 2)) rfl rfl) (a_ild rfl)) ?_
  refine Eq.trans (Eq.trans (r_go (act := oS (fCm 9 38 cLt)) rfl rfl) (a_cm)) (bcg ?_ ?_)
  · refine Eq.trans (Eq.trans (r_go (act := oS (fAld 10 0)) rfl rfl) (a_ald rfl)) ?_
    refine Eq.trans (Eq.trans (r_go (act := oS (fGr g 13 9 0)) rfl rfl) (a_gr (zO_1 g) (zR_1_0 g))) ?_
    refine Eq.trans (Eq.trans (r_go (act := oS (fIld 15 5)) rfl rfl) (a_ild rfl)) ?_
    refine Eq.trans (Eq.trans (r_go (act := oS (fIa g 16)) rfl rfl) (a_ia (zA_2 g) zS_2)) (bcg ?_ rfl)
    refine Eq.trans (Eq.trans (r_go (act := oS (fAld 17 3)) rfl rfl) (a_ald rfl)) ?_
    refine Eq.trans (Eq.trans (r_go (act := oS (fIld 19 4)) rfl rfl) (a_ild rfl)) ?_
    refine Eq.trans (Eq.trans (r_go (act := oS (fIld 21 5)) rfl rfl) (a_ild rfl)) ?_
    refine Eq.trans (Eq.trans (r_go (act := oS (fSt 22 (g2 (fun x y => x + y)))) rfl rfl) (a_add)) ?_
    refine Eq.trans (Eq.trans (r_go (act := oS (fIld 23 1)) rfl rfl) (a_ild rfl)) ?_
    refine Eq.trans (Eq.trans (r_go (act := oS (fSt 24 (g2 (fun x y => x - y)))) rfl rfl) (a_sub)) ?_
    refine Eq.trans (Eq.trans (r_go (act := oCI 27 2 zct (X_J0_charAt_5068e g)) rfl rfl) (a_cI rfl rfl)) (zbI_cg (fun x1 M1 => ?_))
    refine Eq.trans (Eq.trans (r_go (act := oS (fCm 32 30 cEq)) rfl rfl) (a_cm)) (bcg ?_ ?_)
    · refine Eq.trans (Eq.trans (r_go (act := oS (fInc 35 5 1)) rfl rfl) (a_inc rfl rfl rfl)) ?_
      refine Eq.trans (Eq.trans (r_go (act := oS (fGo 3)) rfl rfl) (a_goto)) ?_
      exact r_cut rfl rfl
    · refine Eq.trans (Eq.trans (r_go (act := oS (fSt 31 (gC (.int 0)))) rfl rfl) (a_C)) ?_
      exact Eq.trans (Eq.trans (r_go (act := oZret) rfl rfl) a_zret) (bcT (by decide +kernel))
  · refine Eq.trans (Eq.trans (r_go (act := oS (fSt 39 (gC (.int 1)))) rfl rfl) (a_C)) ?_
    exact Eq.trans (Eq.trans (r_go (act := oZret) rfl rfl) a_zret) (bcT (by decide +kernel))
set_option maxRecDepth 20000 in
theorem e_X9_isSame_3_2 (g : zg) (a1 : Int32) (a2 : Int32) (a4 : Int32) (a5 : Int32) (M : zM) : zX (t_X9_isSame g) 3 [some (.ref 1), some (.int a1), some (.int a2), some (.ref 1002), some (.int a4), some (.int a5)] [] M = (bif cLt a5 a2 then (bif zb a5 400 then (zbI (X_J0_charAt_5068e g [.ref 1002, .int ((a4 + a5) - a1)] M) (fun x1 M1 => (bif cEq (M.1 2 (zx a5)) x1 then zX (t_X9_isSame g) 3 [some (.ref 1), some (.int a1), some (.int a2), some (.ref 1002), some (.int a4), some (.int (a5 + 1))] [] M1 else some (some (.int 0), M1)))) else none) else some (some (.int 1), M)) := by
  refine Eq.trans (zX_rgN (tl_X9_isSame g) (hc_X9_isSame g) 19 _ _ _ _) ?_
  refine Eq.trans (Eq.trans (Eq.trans (r_0 (act := oF [] (oS (fIld 5 5))) rfl) (a_F rfl)) (a_ild rfl)) ?_
  refine Eq.trans (Eq.trans (r_go (act := oS (fIld 6 2)) rfl rfl) (a_ild rfl)) ?_
  refine Eq.trans (Eq.trans (r_go (act := oS (fCm 9 38 cLt)) rfl rfl) (a_cm)) (bcg ?_ ?_)
  · refine Eq.trans (Eq.trans (r_go (act := oS (fAld 10 0)) rfl rfl) (a_ald rfl)) ?_
    refine Eq.trans (Eq.trans (r_go (act := oS (fGr g 13 9 0)) rfl rfl) (a_gr (zO_1 g) (zR_1_0 g))) ?_
    refine Eq.trans (Eq.trans (r_go (act := oS (fIld 15 5)) rfl rfl) (a_ild rfl)) ?_
    refine Eq.trans (Eq.trans (r_go (act := oS (fIa g 16)) rfl rfl) (a_ia (zA_2 g) zS_2)) (bcg ?_ rfl)
    refine Eq.trans (Eq.trans (r_go (act := oS (fAld 17 3)) rfl rfl) (a_ald rfl)) ?_
    refine Eq.trans (Eq.trans (r_go (act := oS (fIld 19 4)) rfl rfl) (a_ild rfl)) ?_
    refine Eq.trans (Eq.trans (r_go (act := oS (fIld 21 5)) rfl rfl) (a_ild rfl)) ?_
    refine Eq.trans (Eq.trans (r_go (act := oS (fSt 22 (g2 (fun x y => x + y)))) rfl rfl) (a_add)) ?_
    refine Eq.trans (Eq.trans (r_go (act := oS (fIld 23 1)) rfl rfl) (a_ild rfl)) ?_
    refine Eq.trans (Eq.trans (r_go (act := oS (fSt 24 (g2 (fun x y => x - y)))) rfl rfl) (a_sub)) ?_
    refine Eq.trans (Eq.trans (r_go (act := oCI 27 2 zct (X_J0_charAt_5068e g)) rfl rfl) (a_cI rfl rfl)) (zbI_cg (fun x1 M1 => ?_))
    refine Eq.trans (Eq.trans (r_go (act := oS (fCm 32 30 cEq)) rfl rfl) (a_cm)) (bcg ?_ ?_)
    · refine Eq.trans (Eq.trans (r_go (act := oS (fInc 35 5 1)) rfl rfl) (a_inc rfl rfl rfl)) ?_
      refine Eq.trans (Eq.trans (r_go (act := oS (fGo 3)) rfl rfl) (a_goto)) ?_
      exact r_cut rfl rfl
    · refine Eq.trans (Eq.trans (r_go (act := oS (fSt 31 (gC (.int 0)))) rfl rfl) (a_C)) ?_
      exact Eq.trans (Eq.trans (r_go (act := oZret) rfl rfl) a_zret) (bcT (by decide +kernel))
  · refine Eq.trans (Eq.trans (r_go (act := oS (fSt 39 (gC (.int 1)))) rfl rfl) (a_C)) ?_
    exact Eq.trans (Eq.trans (r_go (act := oZret) rfl rfl) a_zret) (bcT (by decide +kernel))
set_option maxRecDepth 20000 in
theorem e_X9_wordOf_0 (g : zg) (a1 : Int32) (a2 : Int32) (M : zM) : zX (t_X9_wordOf g) 0 [some (.ref 1), some (.int a1), some (.int a2), some (.ref 1000), none, none, none] [] M = zX (t_X9_wordOf g) 9 [some (.ref 1), some (.int a1), some (.int a2), some (.ref 1000), some (.int 0), some (.int 0), some (.int 0)] [] M := by
  refine Eq.trans (zX_rgN (tl_X9_wordOf g) (hc_X9_wordOf g) 8 _ _ _ _) ?_
  refine Eq.trans (Eq.trans (r_0 (act := oS (fSt 1 (gC (.int 0)))) rfl) (a_C)) ?_
  refine Eq.trans (Eq.trans (r_go (act := oS (fIst 3 4)) rfl rfl) (a_ist rfl rfl)) ?_
  refine Eq.trans (Eq.trans (r_go (act := oS (fSt 4 (gC (.int 0)))) rfl rfl) (a_C)) ?_
  refine Eq.trans (Eq.trans (r_go (act := oS (fIst 6 5)) rfl rfl) (a_ist rfl rfl)) ?_
  refine Eq.trans (Eq.trans (r_go (act := oS (fSt 7 (gC (.int 0)))) rfl rfl) (a_C)) ?_
  refine Eq.trans (Eq.trans (r_go (act := oS (fIst 9 6)) rfl rfl) (a_ist rfl rfl)) ?_
  exact r_cut rfl rfl
theorem x_X9_wordOf_0 (g : zg) (a1 : Int32) (a2 : Int32) (M : zM) : X_X9_wordOf g [.ref 1, .int a1, .int a2, .ref 1000] M = zX (t_X9_wordOf g) 9 [some (.ref 1), some (.int a1), some (.int a2), some (.ref 1000), some (.int 0), some (.int 0), some (.int 0)] [] M := e_X9_wordOf_0 g a1 a2 M
set_option maxRecDepth 20000 in
theorem e_X9_wordOf_0_1 (g : zg) (a1 : Int32) (a2 : Int32) (M : zM) : zX (t_X9_wordOf g) 0 [some (.ref 1), some (.int a1), some (.int a2), some (.ref 1001), none, none, none] [] M = zX (t_X9_wordOf g) 9 [some (.ref 1), some (.int a1), some (.int a2), some (.ref 1001), some (.int 0), some (.int 0), some (.int 0)] [] M := by
  refine Eq.trans (zX_rgN (tl_X9_wordOf g) (hc_X9_wordOf g) 8 _ _ _ _) ?_
  refine Eq.trans (Eq.trans (r_0 (act := oS (fSt 1 (gC (.int 0)))) rfl) (a_C)) ?_
  refine Eq.trans (Eq.trans (r_go (act := oS (fIst 3 4)) rfl rfl) (a_ist rfl rfl)) ?_
  refine Eq.trans (Eq.trans (r_go (act := oS (fSt 4 (gC (.int 0)))) rfl rfl) (a_C)) ?_
  refine Eq.trans (Eq.trans (r_go (act := oS (fIst 6 5)) rfl rfl) (a_ist rfl rfl)) ?_
  refine Eq.trans (Eq.trans (r_go (act := oS (fSt 7 (gC (.int 0)))) rfl rfl) (a_C)) ?_
  refine Eq.trans (Eq.trans (r_go (act := oS (fIst 9 6)) rfl rfl) (a_ist rfl rfl)) ?_
  exact r_cut rfl rfl
theorem x_X9_wordOf_0_1 (g : zg) (a1 : Int32) (a2 : Int32) (M : zM) : X_X9_wordOf g [.ref 1, .int a1, .int a2, .ref 1001] M = zX (t_X9_wordOf g) 9 [some (.ref 1), some (.int a1), some (.int a2), some (.ref 1001), some (.int 0), some (.int 0), some (.int 0)] [] M := e_X9_wordOf_0_1 g a1 a2 M
set_option maxRecDepth 20000 in
theorem e_X9_wordOf_0_2 (g : zg) (a1 : Int32) (a2 : Int32) (M : zM) : zX (t_X9_wordOf g) 0 [some (.ref 1), some (.int a1), some (.int a2), some (.ref 1002), none, none, none] [] M = zX (t_X9_wordOf g) 9 [some (.ref 1), some (.int a1), some (.int a2), some (.ref 1002), some (.int 0), some (.int 0), some (.int 0)] [] M := by
  refine Eq.trans (zX_rgN (tl_X9_wordOf g) (hc_X9_wordOf g) 8 _ _ _ _) ?_
  refine Eq.trans (Eq.trans (r_0 (act := oS (fSt 1 (gC (.int 0)))) rfl) (a_C)) ?_
  refine Eq.trans (Eq.trans (r_go (act := oS (fIst 3 4)) rfl rfl) (a_ist rfl rfl)) ?_
  refine Eq.trans (Eq.trans (r_go (act := oS (fSt 4 (gC (.int 0)))) rfl rfl) (a_C)) ?_
  refine Eq.trans (Eq.trans (r_go (act := oS (fIst 6 5)) rfl rfl) (a_ist rfl rfl)) ?_
  refine Eq.trans (Eq.trans (r_go (act := oS (fSt 7 (gC (.int 0)))) rfl rfl) (a_C)) ?_
  refine Eq.trans (Eq.trans (r_go (act := oS (fIst 9 6)) rfl rfl) (a_ist rfl rfl)) ?_
  exact r_cut rfl rfl
theorem x_X9_wordOf_0_2 (g : zg) (a1 : Int32) (a2 : Int32) (M : zM) : X_X9_wordOf g [.ref 1, .int a1, .int a2, .ref 1002] M = zX (t_X9_wordOf g) 9 [some (.ref 1), some (.int a1), some (.int a2), some (.ref 1002), some (.int 0), some (.int 0), some (.int 0)] [] M := e_X9_wordOf_0_2 g a1 a2 M
