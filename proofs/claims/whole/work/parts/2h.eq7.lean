set_option maxRecDepth 20000 in
theorem e_X12_hats_93 (g : zg) (a1 : Int32) (a2 : Int32) (a3 : Int32) (a5 : Int32) (a6 : Int32) (M : zM) : zX (t_X12_hats g) 93 [some (.ref 72), some (.int a1), some (.int a2), some (.int a3), none, some (.int a5), some (.int a6)] [] M = (bif cLt a6 (M.1 72 6) then (zbI (X_X12_has g [.ref 72, .int (a1 &&& (a2 ^^^ (-1))), .int a6] M) (fun x1 M1 => (bif cEq0 x1 then zX (t_X12_hats g) 93 [some (.ref 72), some (.int a1), some (.int a2), some (.int a3), none, some (.int a5), some (.int (a6 + 1))] [] M1 else (bif zb a6 10 then (bif zb a3 10 then (bif cEq (M1.1 76 (zx a6)) (M1.1 76 (zx a3)) then zX (t_X12_hats g) 93 [some (.ref 72), some (.int a1), some (.int a2), some (.int a3), none, some (.int a5), some (.int (a6 + 1))] [] M1 else (bif zb (a2 ||| ((1 : Int32) <<< (a6 &&& 31))) 1024 then zX (t_X12_hats g) 93 [some (.ref 72), some (.int a1), some (.int a2), some (.int a3), none, some (.int (a5 + (M1.1 98 (zx (a2 ||| ((1 : Int32) <<< (a6 &&& 31))))))), some (.int (a6 + 1))] [] M1 else none)) else none) else none)))) else (bif zb a2 1024 then zX (t_X12_hats g) 12 [some (.ref 72), some (.int a1), some (.int (a2 + (-1))), none, none, none, none] [] ((zu M.1 98 (zx a2) a5), M.2) else none)) := by
  refine Eq.trans (zX_rgN (tl_X12_hats g) (hc_X12_hats g) 37 _ _ _ _) ?_
  refine Eq.trans (Eq.trans (Eq.trans (r_0 (act := oF [4] (oS (fIld 95 6))) rfl) (a_F rfl)) (a_ild rfl)) ?_
  refine Eq.trans (Eq.trans (r_go (act := oS (fAld 96 0)) rfl rfl) (a_ald rfl)) ?_
  refine Eq.trans (Eq.trans (r_go (act := oS (fGi g 99 12 6)) rfl rfl) (a_gi (zO_72 g))) ?_
  refine Eq.trans (Eq.trans (r_go (act := oS (fCm 102 154 cLt)) rfl rfl) (a_cm)) (bcg ?_ ?_)
  · refine Eq.trans (Eq.trans (r_go (act := oS (fAld 103 0)) rfl rfl) (a_ald rfl)) ?_
    refine Eq.trans (Eq.trans (r_go (act := oS (fIld 104 1)) rfl rfl) (a_ild rfl)) ?_
    refine Eq.trans (Eq.trans (r_go (act := oS (fIld 105 2)) rfl rfl) (a_ild rfl)) ?_
    refine Eq.trans (Eq.trans (r_go (act := oS (fSt 106 (gC (.int (-1))))) rfl rfl) (a_C)) ?_
    refine Eq.trans (Eq.trans (r_go (act := oS (fSt 107 (g2 (fun x y => x ^^^ y)))) rfl rfl) (a_xor)) ?_
    refine Eq.trans (Eq.trans (r_go (act := oS (fSt 108 (g2 (fun x y => x &&& y)))) rfl rfl) (a_and)) ?_
    refine Eq.trans (Eq.trans (r_go (act := oS (fIld 110 6)) rfl rfl) (a_ild rfl)) ?_
    refine Eq.trans (Eq.trans (r_go (act := oCI 113 3 (zcv g 12) (X_X12_has g)) rfl rfl) (a_cI rfl (zck (zO_72 g) rfl))) (zbI_cg (fun x1 M1 => ?_))
    refine Eq.trans (Eq.trans (r_go (act := oS (fIf 148 116 cEq0)) rfl rfl) (a_if)) (bcg ?_ ?_)
    · refine Eq.trans (Eq.trans (r_go (act := oS (fInc 151 6 1)) rfl rfl) (a_inc rfl rfl rfl)) ?_
      refine Eq.trans (Eq.trans (r_go (act := oS (fGo 93)) rfl rfl) (a_goto)) ?_
      exact r_cut rfl rfl
    · refine Eq.trans (Eq.trans (r_go (act := oS (fAld 117 0)) rfl rfl) (a_ald rfl)) ?_
      refine Eq.trans (Eq.trans (r_go (act := oS (fGr g 120 12 9)) rfl rfl) (a_gr (zO_72 g) (zR_72_9 g))) ?_
      refine Eq.trans (Eq.trans (r_go (act := oS (fIld 122 6)) rfl rfl) (a_ild rfl)) ?_
      refine Eq.trans (Eq.trans (r_go (act := oS (fIa g 123)) rfl rfl) (a_ia (zA_76 g) zS_76)) (bcg ?_ rfl)
      refine Eq.trans (Eq.trans (r_go (act := oS (fAld 124 0)) rfl rfl) (a_ald rfl)) ?_
      refine Eq.trans (Eq.trans (r_go (act := oS (fGr g 127 12 9)) rfl rfl) (a_gr (zO_72 g) (zR_72_9 g))) ?_
      refine Eq.trans (Eq.trans (r_go (act := oS (fIld 128 3)) rfl rfl) (a_ild rfl)) ?_
      refine Eq.trans (Eq.trans (r_go (act := oS (fIa g 129)) rfl rfl) (a_ia (zA_76 g) zS_76)) (bcg ?_ rfl)
      refine Eq.trans (Eq.trans (r_go (act := oS (fCm 148 132 cEq)) rfl rfl) (a_cm)) (bcg ?_ ?_)
      · refine Eq.trans (Eq.trans (r_go (act := oS (fInc 151 6 1)) rfl rfl) (a_inc rfl rfl rfl)) ?_
        refine Eq.trans (Eq.trans (r_go (act := oS (fGo 93)) rfl rfl) (a_goto)) ?_
        exact r_cut rfl rfl
      · refine Eq.trans (Eq.trans (r_go (act := oS (fIld 134 5)) rfl rfl) (a_ild rfl)) ?_
        refine Eq.trans (Eq.trans (r_go (act := oS (fAld 135 0)) rfl rfl) (a_ald rfl)) ?_
        refine Eq.trans (Eq.trans (r_go (act := oS (fGr g 138 12 51)) rfl rfl) (a_gr (zO_72 g) (zR_72_51 g))) ?_
        refine Eq.trans (Eq.trans (r_go (act := oS (fIld 139 2)) rfl rfl) (a_ild rfl)) ?_
        refine Eq.trans (Eq.trans (r_go (act := oS (fSt 140 (gC (.int 1)))) rfl rfl) (a_C)) ?_
        refine Eq.trans (Eq.trans (r_go (act := oS (fIld 142 6)) rfl rfl) (a_ild rfl)) ?_
        refine Eq.trans (Eq.trans (r_go (act := oS (fSt 143 (g2 (fun x y => x <<< (y &&& 31))))) rfl rfl) (a_shl)) ?_
        refine Eq.trans (Eq.trans (r_go (act := oS (fSt 144 (g2 (fun x y => x ||| y)))) rfl rfl) (a_or)) ?_
        refine Eq.trans (Eq.trans (r_go (act := oS (fIa g 145)) rfl rfl) (a_ia (zA_98 g) zS_98)) (bcg ?_ rfl)
        refine Eq.trans (Eq.trans (r_go (act := oS (fSt 146 (g2 (fun x y => x + y)))) rfl rfl) (a_add)) ?_
        refine Eq.trans (Eq.trans (r_go (act := oS (fIst 148 5)) rfl rfl) (a_ist rfl rfl)) ?_
        refine Eq.trans (Eq.trans (r_go (act := oS (fInc 151 6 1)) rfl rfl) (a_inc rfl rfl rfl)) ?_
        refine Eq.trans (Eq.trans (r_go (act := oS (fGo 93)) rfl rfl) (a_goto)) ?_
        exact r_cut rfl rfl
  · refine Eq.trans (Eq.trans (r_go (act := oS (fAld 155 0)) rfl rfl) (a_ald rfl)) ?_
    refine Eq.trans (Eq.trans (r_go (act := oS (fGr g 158 12 51)) rfl rfl) (a_gr (zO_72 g) (zR_72_51 g))) ?_
    refine Eq.trans (Eq.trans (r_go (act := oS (fIld 159 2)) rfl rfl) (a_ild rfl)) ?_
    refine Eq.trans (Eq.trans (r_go (act := oS (fIld 161 5)) rfl rfl) (a_ild rfl)) ?_
    refine Eq.trans (Eq.trans (r_go (act := oS (fIs g 162)) rfl rfl) (a_is (zA_98 g) zS_98)) (bcg ?_ rfl)
    refine Eq.trans (Eq.trans (r_go (act := oS (fInc 165 2 (-1))) rfl rfl) (a_inc rfl rfl rfl)) ?_
    refine Eq.trans (Eq.trans (r_go (act := oS (fGo 12)) rfl rfl) (a_goto)) ?_
    exact r_cut rfl rfl
set_option maxRecDepth 20000 in
theorem e_X12_mix_0 (g : zg) (a1 : Int32) (a2 : Int32) (M : zM) : zX (t_X12_mix g) 0 [some (.ref 72), some (.int a1), some (.int a2)] [] M = (zbI (X_X12_isIn g [.ref 72, .int a1, .int 0, .int 3] ((zu M.1 72 0 0), M.2)) (fun x1 M1 => (bif cEq0 x1 then some (some (.int 0), M1) else (zbI (X_X12_isIn g [.ref 72, .int a2, .int 0, .int 99] M1) (fun x2 M2 => (bif cEq0 x2 then some (some (.int 0), M2) else (bif zb a1 4 then some (some (.int 1), ((zu M2.1 99 (zx a1) a2), M2.2)) else none))))))) := by
  refine Eq.trans (zX_rgN (tl_X12_mix g) (hc_X12_mix g) 23 _ _ _ _) ?_
  refine Eq.trans (Eq.trans (r_0 (act := oS (fAld 1 0)) rfl) (a_ald rfl)) ?_
  refine Eq.trans (Eq.trans (r_go (act := oS (fSt 2 (gC (.int 0)))) rfl rfl) (a_C)) ?_
  refine Eq.trans (Eq.trans (r_go (act := oS (fPi g 5 12 0)) rfl rfl) (a_pi (zO_72 g))) ?_
  refine Eq.trans (Eq.trans (r_go (act := oS (fAld 6 0)) rfl rfl) (a_ald rfl)) ?_
  refine Eq.trans (Eq.trans (r_go (act := oS (fIld 7 1)) rfl rfl) (a_ild rfl)) ?_
  refine Eq.trans (Eq.trans (r_go (act := oS (fSt 8 (gC (.int 0)))) rfl rfl) (a_C)) ?_
  refine Eq.trans (Eq.trans (r_go (act := oS (fSt 9 (gC (.int 3)))) rfl rfl) (a_C)) ?_
  refine Eq.trans (Eq.trans (r_go (act := oCI 12 4 (zcv g 12) (X_X12_isIn g)) rfl rfl) (a_cI rfl (zck (zO_72 g) rfl))) (zbI_cg (fun x1 M1 => ?_))
  refine Eq.trans (Eq.trans (r_go (act := oS (fIf 26 15 cEq0)) rfl rfl) (a_if)) (bcg ?_ ?_)
  · refine Eq.trans (Eq.trans (r_go (act := oS (fSt 27 (gC (.int 0)))) rfl rfl) (a_C)) ?_
    exact Eq.trans (Eq.trans (r_go (act := oZret) rfl rfl) a_zret) (bcT (by decide +kernel))
  · refine Eq.trans (Eq.trans (r_go (act := oS (fAld 16 0)) rfl rfl) (a_ald rfl)) ?_
    refine Eq.trans (Eq.trans (r_go (act := oS (fIld 17 2)) rfl rfl) (a_ild rfl)) ?_
    refine Eq.trans (Eq.trans (r_go (act := oS (fSt 18 (gC (.int 0)))) rfl rfl) (a_C)) ?_
    refine Eq.trans (Eq.trans (r_go (act := oS (fSt 20 (gC (.int 99)))) rfl rfl) (a_C)) ?_
    refine Eq.trans (Eq.trans (r_go (act := oCI 23 4 (zcv g 12) (X_X12_isIn g)) rfl rfl) (a_cI rfl (zck (zO_72 g) rfl))) (zbI_cg (fun x2 M2 => ?_))
    refine Eq.trans (Eq.trans (r_go (act := oS (fIf 26 28 cEq0)) rfl rfl) (a_if)) (bcg ?_ ?_)
    · refine Eq.trans (Eq.trans (r_go (act := oS (fSt 27 (gC (.int 0)))) rfl rfl) (a_C)) ?_
      exact Eq.trans (Eq.trans (r_go (act := oZret) rfl rfl) a_zret) (bcT (by decide +kernel))
    · refine Eq.trans (Eq.trans (r_go (act := oS (fAld 29 0)) rfl rfl) (a_ald rfl)) ?_
      refine Eq.trans (Eq.trans (r_go (act := oS (fGr g 32 12 52)) rfl rfl) (a_gr (zO_72 g) (zR_72_52 g))) ?_
      refine Eq.trans (Eq.trans (r_go (act := oS (fIld 33 1)) rfl rfl) (a_ild rfl)) ?_
      refine Eq.trans (Eq.trans (r_go (act := oS (fIld 34 2)) rfl rfl) (a_ild rfl)) ?_
      refine Eq.trans (Eq.trans (r_go (act := oS (fIs g 35)) rfl rfl) (a_is (zA_99 g) zS_99)) (bcg ?_ rfl)
      refine Eq.trans (Eq.trans (r_go (act := oS (fSt 36 (gC (.int 1)))) rfl rfl) (a_C)) ?_
      exact Eq.trans (Eq.trans (r_go (act := oZret) rfl rfl) a_zret) (bcT (by decide +kernel))
theorem x_X12_mix_0 (g : zg) (a1 : Int32) (a2 : Int32) (M : zM) : X_X12_mix g [.ref 72, .int a1, .int a2] M = (zbI (X_X12_isIn g [.ref 72, .int a1, .int 0, .int 3] ((zu M.1 72 0 0), M.2)) (fun x1 M1 => (bif cEq0 x1 then some (some (.int 0), M1) else (zbI (X_X12_isIn g [.ref 72, .int a2, .int 0, .int 99] M1) (fun x2 M2 => (bif cEq0 x2 then some (some (.int 0), M2) else (bif zb a1 4 then some (some (.int 1), ((zu M2.1 99 (zx a1) a2), M2.2)) else none))))))) := e_X12_mix_0 g a1 a2 M
set_option maxRecDepth 20000 in
theorem e_X12_leastBy_0 (g : zg) (a1 : Int32) (M : zM) : zX (t_X12_leastBy g) 0 [some (.ref 72), some (.int a1)] [] M = (zbI (X_X12_lesser g [.ref 72, .int ((a1 * (M.1 99 3)) + ((1000 - a1) * (M.1 99 1))), .int ((a1 * (M.1 99 2)) + ((1000 - a1) * (M.1 99 0)))] M) (fun x1 M1 => some (some (.int x1), M1))) := by
  refine Eq.trans (zX_rgN (tl_X12_leastBy g) (hc_X12_leastBy g) 34 _ _ _ _) ?_
  refine Eq.trans (Eq.trans (r_0 (act := oS (fAld 1 0)) rfl) (a_ald rfl)) ?_
  refine Eq.trans (Eq.trans (r_go (act := oS (fIld 2 1)) rfl rfl) (a_ild rfl)) ?_
  refine Eq.trans (Eq.trans (r_go (act := oS (fAld 3 0)) rfl rfl) (a_ald rfl)) ?_
  refine Eq.trans (Eq.trans (r_go (act := oS (fGr g 6 12 52)) rfl rfl) (a_gr (zO_72 g) (zR_72_52 g))) ?_
  refine Eq.trans (Eq.trans (r_go (act := oS (fSt 7 (gC (.int 3)))) rfl rfl) (a_C)) ?_
  refine Eq.trans (Eq.trans (r_go (act := oS (fIa g 8)) rfl rfl) (a_iaK (j := 3) (zA_99 g) zS_99 (by decide +kernel) (by decide +kernel))) ?_
  refine Eq.trans (Eq.trans (r_go (act := oS (fSt 9 (g2 (fun x y => x * y)))) rfl rfl) (a_mul)) ?_
  refine Eq.trans (Eq.trans (r_go (act := oS (fSt 12 (gC (.int 1000)))) rfl rfl) (a_C)) ?_
  refine Eq.trans (Eq.trans (r_go (act := oS (fIld 13 1)) rfl rfl) (a_ild rfl)) ?_
  refine Eq.trans (Eq.trans (r_go (act := oS (fSt 14 (g2 (fun x y => x - y)))) rfl rfl) (a_sub)) ?_
  refine Eq.trans (Eq.trans (r_go (act := oS (fAld 15 0)) rfl rfl) (a_ald rfl)) ?_
  refine Eq.trans (Eq.trans (r_go (act := oS (fGr g 18 12 52)) rfl rfl) (a_gr (zO_72 g) (zR_72_52 g))) ?_
  refine Eq.trans (Eq.trans (r_go (act := oS (fSt 19 (gC (.int 1)))) rfl rfl) (a_C)) ?_
  refine Eq.trans (Eq.trans (r_go (act := oS (fIa g 20)) rfl rfl) (a_iaK (j := 1) (zA_99 g) zS_99 (by decide +kernel) (by decide +kernel))) ?_
  refine Eq.trans (Eq.trans (r_go (act := oS (fSt 21 (g2 (fun x y => x * y)))) rfl rfl) (a_mul)) ?_
  refine Eq.trans (Eq.trans (r_go (act := oS (fSt 22 (g2 (fun x y => x + y)))) rfl rfl) (a_add)) ?_
  refine Eq.trans (Eq.trans (r_go (act := oS (fIld 23 1)) rfl rfl) (a_ild rfl)) ?_
  refine Eq.trans (Eq.trans (r_go (act := oS (fAld 24 0)) rfl rfl) (a_ald rfl)) ?_
  refine Eq.trans (Eq.trans (r_go (act := oS (fGr g 27 12 52)) rfl rfl) (a_gr (zO_72 g) (zR_72_52 g))) ?_
  refine Eq.trans (Eq.trans (r_go (act := oS (fSt 28 (gC (.int 2)))) rfl rfl) (a_C)) ?_
  refine Eq.trans (Eq.trans (r_go (act := oS (fIa g 29)) rfl rfl) (a_iaK (j := 2) (zA_99 g) zS_99 (by decide +kernel) (by decide +kernel))) ?_
  refine Eq.trans (Eq.trans (r_go (act := oS (fSt 30 (g2 (fun x y => x * y)))) rfl rfl) (a_mul)) ?_
  refine Eq.trans (Eq.trans (r_go (act := oS (fSt 33 (gC (.int 1000)))) rfl rfl) (a_C)) ?_
  refine Eq.trans (Eq.trans (r_go (act := oS (fIld 34 1)) rfl rfl) (a_ild rfl)) ?_
  refine Eq.trans (Eq.trans (r_go (act := oS (fSt 35 (g2 (fun x y => x - y)))) rfl rfl) (a_sub)) ?_
  refine Eq.trans (Eq.trans (r_go (act := oS (fAld 36 0)) rfl rfl) (a_ald rfl)) ?_
  refine Eq.trans (Eq.trans (r_go (act := oS (fGr g 39 12 52)) rfl rfl) (a_gr (zO_72 g) (zR_72_52 g))) ?_
  refine Eq.trans (Eq.trans (r_go (act := oS (fSt 40 (gC (.int 0)))) rfl rfl) (a_C)) ?_
  refine Eq.trans (Eq.trans (r_go (act := oS (fIa g 41)) rfl rfl) (a_iaK (j := 0) (zA_99 g) zS_99 (by decide +kernel) (by decide +kernel))) ?_
  refine Eq.trans (Eq.trans (r_go (act := oS (fSt 42 (g2 (fun x y => x * y)))) rfl rfl) (a_mul)) ?_
  refine Eq.trans (Eq.trans (r_go (act := oS (fSt 43 (g2 (fun x y => x + y)))) rfl rfl) (a_add)) ?_
  refine Eq.trans (Eq.trans (r_go (act := oCI 46 3 (zcv g 12) (X_X12_lesser g)) rfl rfl) (a_cI rfl (zck (zO_72 g) rfl))) (zbI_cg (fun x1 M1 => ?_))
  exact Eq.trans (r_go (act := oIret) rfl rfl) (a_iret)
theorem x_X12_leastBy_0 (g : zg) (a1 : Int32) (M : zM) : X_X12_leastBy g [.ref 72, .int a1] M = (zbI (X_X12_lesser g [.ref 72, .int ((a1 * (M.1 99 3)) + ((1000 - a1) * (M.1 99 1))), .int ((a1 * (M.1 99 2)) + ((1000 - a1) * (M.1 99 0)))] M) (fun x1 M1 => some (some (.int x1), M1))) := e_X12_leastBy_0 g a1 M
set_option maxRecDepth 20000 in
theorem e_X12_mixes_0 (g : zg) (a1 : Int32) (M : zM) : zX (t_X12_mixes g) 0 [some (.ref 72), some (.int a1), none, none] [] M = (zbI (X_X12_isIn g [.ref 72, .int a1, .int 0, .int 1] ((zu M.1 72 0 0), M.2)) (fun x1 M1 => (bif cEq0 x1 then some (some (.int (-1)), M1) else zX (t_X12_mixes g) 21 [some (.ref 72), some (.int a1), some (.int 0), some (.int 1)] [] M1))) := by
  refine Eq.trans (zX_rgN (tl_X12_mixes g) (hc_X12_mixes g) 15 _ _ _ _) ?_
  refine Eq.trans (Eq.trans (r_0 (act := oS (fAld 1 0)) rfl) (a_ald rfl)) ?_
  refine Eq.trans (Eq.trans (r_go (act := oS (fSt 2 (gC (.int 0)))) rfl rfl) (a_C)) ?_
  refine Eq.trans (Eq.trans (r_go (act := oS (fPi g 5 12 0)) rfl rfl) (a_pi (zO_72 g))) ?_
  refine Eq.trans (Eq.trans (r_go (act := oS (fAld 6 0)) rfl rfl) (a_ald rfl)) ?_
  refine Eq.trans (Eq.trans (r_go (act := oS (fIld 7 1)) rfl rfl) (a_ild rfl)) ?_
  refine Eq.trans (Eq.trans (r_go (act := oS (fSt 8 (gC (.int 0)))) rfl rfl) (a_C)) ?_
  refine Eq.trans (Eq.trans (r_go (act := oS (fSt 9 (gC (.int 1)))) rfl rfl) (a_C)) ?_
  refine Eq.trans (Eq.trans (r_go (act := oCI 12 4 (zcv g 12) (X_X12_isIn g)) rfl rfl) (a_cI rfl (zck (zO_72 g) rfl))) (zbI_cg (fun x1 M1 => ?_))
  refine Eq.trans (Eq.trans (r_go (act := oS (fIf 15 17 cEq0)) rfl rfl) (a_if)) (bcg ?_ ?_)
  · refine Eq.trans (Eq.trans (r_go (act := oS (fSt 16 (gC (.int (-1))))) rfl rfl) (a_C)) ?_
    exact Eq.trans (r_go (act := oIret) rfl rfl) (a_iret)
  · refine Eq.trans (Eq.trans (r_go (act := oS (fSt 18 (gC (.int 0)))) rfl rfl) (a_C)) ?_
    refine Eq.trans (Eq.trans (r_go (act := oS (fIst 19 2)) rfl rfl) (a_ist rfl rfl)) ?_
    refine Eq.trans (Eq.trans (r_go (act := oS (fSt 20 (gC (.int 1)))) rfl rfl) (a_C)) ?_
    refine Eq.trans (Eq.trans (r_go (act := oS (fIst 21 3)) rfl rfl) (a_ist rfl rfl)) ?_
    exact r_cut rfl rfl
theorem x_X12_mixes_0 (g : zg) (a1 : Int32) (M : zM) : X_X12_mixes g [.ref 72, .int a1] M = (zbI (X_X12_isIn g [.ref 72, .int a1, .int 0, .int 1] ((zu M.1 72 0 0), M.2)) (fun x1 M1 => (bif cEq0 x1 then some (some (.int (-1)), M1) else zX (t_X12_mixes g) 21 [some (.ref 72), some (.int a1), some (.int 0), some (.int 1)] [] M1))) := e_X12_mixes_0 g a1 M
set_option maxRecDepth 20000 in
theorem e_X12_mixes_21 (g : zg) (a1 : Int32) (a2 : Int32) (a3 : Int32) (M : zM) : zX (t_X12_mixes g) 21 [some (.ref 72), some (.int a1), some (.int a2), some (.int a3)] [] M = (bif cGt a3 1000 then (bif cEq0 a1 then some (some (.int a2), M) else (zbI (X_X12_leastBy g [.ref 72, .int a2] M) (fun x1 M1 => some (some (.int x1), M1)))) else (zbI (X_X12_leastBy g [.ref 72, .int a3] M) (fun x2 M2 => (zbI (X_X12_leastBy g [.ref 72, .int a2] M2) (fun x3 M3 => (bif cGt x2 x3 then zX (t_X12_mixes g) 21 [some (.ref 72), some (.int a1), some (.int a3), some (.int (a3 + 1))] [] M3 else zX (t_X12_mixes g) 21 [some (.ref 72), some (.int a1), some (.int a2), some (.int (a3 + 1))] [] M3)))))) := by
  refine Eq.trans (zX_rgN (tl_X12_mixes g) (hc_X12_mixes g) 16 _ _ _ _) ?_
  refine Eq.trans (Eq.trans (Eq.trans (r_0 (act := oF [] (oS (fIld 22 3))) rfl) (a_F rfl)) (a_ild rfl)) ?_
  refine Eq.trans (Eq.trans (r_go (act := oS (fSt 25 (gC (.int 1000)))) rfl rfl) (a_C)) ?_
  refine Eq.trans (Eq.trans (r_go (act := oS (fCm 49 28 cGt)) rfl rfl) (a_cm)) (bcg ?_ ?_)
  · refine Eq.trans (Eq.trans (r_go (act := oS (fIld 50 1)) rfl rfl) (a_ild rfl)) ?_
    refine Eq.trans (Eq.trans (r_go (act := oS (fIf 53 57 cEq0)) rfl rfl) (a_if)) (bcg ?_ ?_)
    · refine Eq.trans (Eq.trans (r_go (act := oS (fIld 54 2)) rfl rfl) (a_ild rfl)) ?_
      refine Eq.trans (Eq.trans (r_go (act := oS (fGo 62)) rfl rfl) (a_goto)) ?_
      exact Eq.trans (r_go (act := oIret) rfl rfl) (a_iret)
    · refine Eq.trans (Eq.trans (r_go (act := oS (fAld 58 0)) rfl rfl) (a_ald rfl)) ?_
      refine Eq.trans (Eq.trans (r_go (act := oS (fIld 59 2)) rfl rfl) (a_ild rfl)) ?_
      refine Eq.trans (Eq.trans (r_go (act := oCI 62 2 (zcv g 12) (X_X12_leastBy g)) rfl rfl) (a_cI rfl (zck (zO_72 g) rfl))) (zbI_cg (fun x1 M1 => ?_))
      exact Eq.trans (r_go (act := oIret) rfl rfl) (a_iret)
  · refine Eq.trans (Eq.trans (r_go (act := oS (fAld 29 0)) rfl rfl) (a_ald rfl)) ?_
    refine Eq.trans (Eq.trans (r_go (act := oS (fIld 30 3)) rfl rfl) (a_ild rfl)) ?_
    refine Eq.trans (Eq.trans (r_go (act := oCI 33 2 (zcv g 12) (X_X12_leastBy g)) rfl rfl) (a_cI rfl (zck (zO_72 g) rfl))) (zbI_cg (fun x2 M2 => ?_))
    refine Eq.trans (Eq.trans (r_go (act := oS (fAld 34 0)) rfl rfl) (a_ald rfl)) ?_
    refine Eq.trans (Eq.trans (r_go (act := oS (fIld 35 2)) rfl rfl) (a_ild rfl)) ?_
    refine Eq.trans (Eq.trans (r_go (act := oCI 38 2 (zcv g 12) (X_X12_leastBy g)) rfl rfl) (a_cI rfl (zck (zO_72 g) rfl))) (zbI_cg (fun x3 M3 => ?_))
    refine Eq.trans (Eq.trans (r_go (act := oS (fCm 41 43 cGt)) rfl rfl) (a_cm)) (bcg ?_ ?_)
    · refine Eq.trans (Eq.trans (r_go (act := oS (fIld 42 3)) rfl rfl) (a_ild rfl)) ?_
      refine Eq.trans (Eq.trans (r_go (act := oS (fIst 43 2)) rfl rfl) (a_ist rfl rfl)) ?_
      refine Eq.trans (Eq.trans (r_go (act := oS (fInc 46 3 1)) rfl rfl) (a_inc rfl rfl rfl)) ?_
      refine Eq.trans (Eq.trans (r_go (act := oS (fGo 21)) rfl rfl) (a_goto)) ?_
      exact r_cut rfl rfl
    · refine Eq.trans (Eq.trans (r_go (act := oS (fInc 46 3 1)) rfl rfl) (a_inc rfl rfl rfl)) ?_
      refine Eq.trans (Eq.trans (r_go (act := oS (fGo 21)) rfl rfl) (a_goto)) ?_
      exact r_cut rfl rfl
set_option maxRecDepth 20000 in
theorem e_X12_game_0 (g : zg) (a1 : Int32) (M : zM) : zX (t_X12_game g) 0 [some (.ref 72), some (.int a1), none, none, none, none] [] M = (zbI (X_X12_isIn g [.ref 72, .int a1, .int 0, .int 1] ((zu M.1 72 0 0), M.2)) (fun x1 M1 => (bif cEq0 x1 then some (some (.int (-1)), M1) else zX (t_X12_game g) 21 [some (.ref 72), some (.int a1), some (.int 0), some (.int 0), none, none] [] M1))) := by
  refine Eq.trans (zX_rgN (tl_X12_game g) (hc_X12_game g) 15 _ _ _ _) ?_
  refine Eq.trans (Eq.trans (r_0 (act := oS (fAld 1 0)) rfl) (a_ald rfl)) ?_
  refine Eq.trans (Eq.trans (r_go (act := oS (fSt 2 (gC (.int 0)))) rfl rfl) (a_C)) ?_
  refine Eq.trans (Eq.trans (r_go (act := oS (fPi g 5 12 0)) rfl rfl) (a_pi (zO_72 g))) ?_
  refine Eq.trans (Eq.trans (r_go (act := oS (fAld 6 0)) rfl rfl) (a_ald rfl)) ?_
  refine Eq.trans (Eq.trans (r_go (act := oS (fIld 7 1)) rfl rfl) (a_ild rfl)) ?_
  refine Eq.trans (Eq.trans (r_go (act := oS (fSt 8 (gC (.int 0)))) rfl rfl) (a_C)) ?_
  refine Eq.trans (Eq.trans (r_go (act := oS (fSt 9 (gC (.int 1)))) rfl rfl) (a_C)) ?_
  refine Eq.trans (Eq.trans (r_go (act := oCI 12 4 (zcv g 12) (X_X12_isIn g)) rfl rfl) (a_cI rfl (zck (zO_72 g) rfl))) (zbI_cg (fun x1 M1 => ?_))
  refine Eq.trans (Eq.trans (r_go (act := oS (fIf 15 17 cEq0)) rfl rfl) (a_if)) (bcg ?_ ?_)
  · refine Eq.trans (Eq.trans (r_go (act := oS (fSt 16 (gC (.int (-1))))) rfl rfl) (a_C)) ?_
    exact Eq.trans (r_go (act := oIret) rfl rfl) (a_iret)
  · refine Eq.trans (Eq.trans (r_go (act := oS (fSt 18 (gC (.int 0)))) rfl rfl) (a_C)) ?_
    refine Eq.trans (Eq.trans (r_go (act := oS (fIst 19 2)) rfl rfl) (a_ist rfl rfl)) ?_
    refine Eq.trans (Eq.trans (r_go (act := oS (fSt 20 (gC (.int 0)))) rfl rfl) (a_C)) ?_
    refine Eq.trans (Eq.trans (r_go (act := oS (fIst 21 3)) rfl rfl) (a_ist rfl rfl)) ?_
    exact r_cut rfl rfl
theorem x_X12_game_0 (g : zg) (a1 : Int32) (M : zM) : X_X12_game g [.ref 72, .int a1] M = (zbI (X_X12_isIn g [.ref 72, .int a1, .int 0, .int 1] ((zu M.1 72 0 0), M.2)) (fun x1 M1 => (bif cEq0 x1 then some (some (.int (-1)), M1) else zX (t_X12_game g) 21 [some (.ref 72), some (.int a1), some (.int 0), some (.int 0), none, none] [] M1))) := e_X12_game_0 g a1 M
set_option maxRecDepth 20000 in
theorem e_X12_game_21 (g : zg) (a1 : Int32) (a2 : Int32) (a3 : Int32) (M : zM) : zX (t_X12_game g) 21 [some (.ref 72), some (.int a1), some (.int a2), some (.int a3), none, none] [] M = (bif cLt a3 (M.1 72 6) then (zbI (X_X12_isHere g [.ref 72, .int a3] M) (fun x1 M1 => (bif cEq0 x1 then zX (t_X12_game g) 21 [some (.ref 72), some (.int a1), some (.int a2), some (.int (a3 + 1)), none, none] [] M1 else (bif zb a3 10 then zX (t_X12_game g) 21 [some (.ref 72), some (.int a1), some (.int (a2 ^^^ ((M1.1 77 (zx a3)) - (M1.1 77 (zx a3)) / 3 * 3))), some (.int (a3 + 1)), none, none] [] M1 else none)))) else zX (t_X12_game g) 56 [some (.ref 72), some (.int a1), some (.int a2), some (.int 0), none, none] [] M) := by
  refine Eq.trans (zX_rgN (tl_X12_game g) (hc_X12_game g) 21 _ _ _ _) ?_
  refine Eq.trans (Eq.trans (Eq.trans (r_0 (act := oF [4, 5] (oS (fIld 22 3))) rfl) (a_F rfl)) (a_ild rfl)) ?_
  refine Eq.trans (Eq.trans (r_go (act := oS (fAld 23 0)) rfl rfl) (a_ald rfl)) ?_
  refine Eq.trans (Eq.trans (r_go (act := oS (fGi g 26 12 6)) rfl rfl) (a_gi (zO_72 g))) ?_
  refine Eq.trans (Eq.trans (r_go (act := oS (fCm 29 54 cLt)) rfl rfl) (a_cm)) (bcg ?_ ?_)
  · refine Eq.trans (Eq.trans (r_go (act := oS (fAld 30 0)) rfl rfl) (a_ald rfl)) ?_
    refine Eq.trans (Eq.trans (r_go (act := oS (fIld 31 3)) rfl rfl) (a_ild rfl)) ?_
    refine Eq.trans (Eq.trans (r_go (act := oCI 34 2 (zcv g 12) (X_X12_isHere g)) rfl rfl) (a_cI rfl (zck (zO_72 g) rfl))) (zbI_cg (fun x1 M1 => ?_))
    refine Eq.trans (Eq.trans (r_go (act := oS (fIf 48 37 cEq0)) rfl rfl) (a_if)) (bcg ?_ ?_)
    · refine Eq.trans (Eq.trans (r_go (act := oS (fInc 51 3 1)) rfl rfl) (a_inc rfl rfl rfl)) ?_
      refine Eq.trans (Eq.trans (r_go (act := oS (fGo 21)) rfl rfl) (a_goto)) ?_
      exact r_cut rfl rfl
    · refine Eq.trans (Eq.trans (r_go (act := oS (fIld 38 2)) rfl rfl) (a_ild rfl)) ?_
      refine Eq.trans (Eq.trans (r_go (act := oS (fAld 39 0)) rfl rfl) (a_ald rfl)) ?_
      refine Eq.trans (Eq.trans (r_go (act := oS (fGr g 42 12 10)) rfl rfl) (a_gr (zO_72 g) (zR_72_10 g))) ?_
      refine Eq.trans (Eq.trans (r_go (act := oS (fIld 43 3)) rfl rfl) (a_ild rfl)) ?_
      refine Eq.trans (Eq.trans (r_go (act := oS (fIa g 44)) rfl rfl) (a_ia (zA_77 g) zS_77)) (bcg ?_ rfl)
      refine Eq.trans (Eq.trans (r_go (act := oS (fSt 45 (gC (.int 3)))) rfl rfl) (a_C)) ?_
      refine Eq.trans (Eq.trans (r_go (act := oS (fRem 46)) rfl rfl) (a_rem)) (Eq.trans (bcT (by decide)) ?_)
      refine Eq.trans (Eq.trans (r_go (act := oS (fSt 47 (g2 (fun x y => x ^^^ y)))) rfl rfl) (a_xor)) ?_
      refine Eq.trans (Eq.trans (r_go (act := oS (fIst 48 2)) rfl rfl) (a_ist rfl rfl)) ?_
      refine Eq.trans (Eq.trans (r_go (act := oS (fInc 51 3 1)) rfl rfl) (a_inc rfl rfl rfl)) ?_
      refine Eq.trans (Eq.trans (r_go (act := oS (fGo 21)) rfl rfl) (a_goto)) ?_
      exact r_cut rfl rfl
  · refine Eq.trans (Eq.trans (r_go (act := oS (fSt 55 (gC (.int 0)))) rfl rfl) (a_C)) ?_
    refine Eq.trans (Eq.trans (r_go (act := oS (fIst 56 3)) rfl rfl) (a_ist rfl rfl)) ?_
    exact r_cut rfl rfl
set_option maxRecDepth 20000 in
theorem e_X12_game_56 (g : zg) (a1 : Int32) (a2 : Int32) (a3 : Int32) (M : zM) : zX (t_X12_game g) 56 [some (.ref 72), some (.int a1), some (.int a2), some (.int a3), none, none] [] M = (bif cLt a3 (M.1 72 6) then (zbI (X_X12_isHere g [.ref 72, .int a3] M) (fun x1 M1 => (bif cEq0 x1 then zX (t_X12_game g) 87 [some (.ref 72), some (.int a1), some (.int a2), some (.int a3), some (.int 0), some (.int 1)] [] M1 else (bif zb a3 10 then zX (t_X12_game g) 87 [some (.ref 72), some (.int a1), some (.int a2), some (.int a3), some (.int (M1.1 77 (zx a3))), some (.int 1)] [] M1 else none)))) else some (some (.int (-1)), M)) := by
  refine Eq.trans (zX_rgN (tl_X12_game g) (hc_X12_game g) 18 _ _ _ _) ?_
  refine Eq.trans (Eq.trans (Eq.trans (r_0 (act := oF [4, 5] (oS (fIld 57 3))) rfl) (a_F rfl)) (a_ild rfl)) ?_
  refine Eq.trans (Eq.trans (r_go (act := oS (fAld 58 0)) rfl rfl) (a_ald rfl)) ?_
  refine Eq.trans (Eq.trans (r_go (act := oS (fGi g 61 12 6)) rfl rfl) (a_gi (zO_72 g))) ?_
  refine Eq.trans (Eq.trans (r_go (act := oS (fCm 64 139 cLt)) rfl rfl) (a_cm)) (bcg ?_ ?_)
  · refine Eq.trans (Eq.trans (r_go (act := oS (fAld 65 0)) rfl rfl) (a_ald rfl)) ?_
    refine Eq.trans (Eq.trans (r_go (act := oS (fIld 66 3)) rfl rfl) (a_ild rfl)) ?_
    refine Eq.trans (Eq.trans (r_go (act := oCI 69 2 (zcv g 12) (X_X12_isHere g)) rfl rfl) (a_cI rfl (zck (zO_72 g) rfl))) (zbI_cg (fun x1 M1 => ?_))
    refine Eq.trans (Eq.trans (r_go (act := oS (fIf 81 72 cEq0)) rfl rfl) (a_if)) (bcg ?_ ?_)
    · refine Eq.trans (Eq.trans (r_go (act := oS (fSt 82 (gC (.int 0)))) rfl rfl) (a_C)) ?_
      refine Eq.trans (Eq.trans (r_go (act := oS (fIst 84 4)) rfl rfl) (a_ist rfl rfl)) ?_
      refine Eq.trans (Eq.trans (r_go (act := oS (fSt 85 (gC (.int 1)))) rfl rfl) (a_C)) ?_
      refine Eq.trans (Eq.trans (r_go (act := oS (fIst 87 5)) rfl rfl) (a_ist rfl rfl)) ?_
      exact r_cut rfl rfl
    · refine Eq.trans (Eq.trans (r_go (act := oS (fAld 73 0)) rfl rfl) (a_ald rfl)) ?_
      refine Eq.trans (Eq.trans (r_go (act := oS (fGr g 76 12 10)) rfl rfl) (a_gr (zO_72 g) (zR_72_10 g))) ?_
      refine Eq.trans (Eq.trans (r_go (act := oS (fIld 77 3)) rfl rfl) (a_ild rfl)) ?_
      refine Eq.trans (Eq.trans (r_go (act := oS (fIa g 78)) rfl rfl) (a_ia (zA_77 g) zS_77)) (bcg ?_ rfl)
      refine Eq.trans (Eq.trans (r_go (act := oS (fGo 82)) rfl rfl) (a_goto)) ?_
      refine Eq.trans (Eq.trans (r_go (act := oS (fIst 84 4)) rfl rfl) (a_ist rfl rfl)) ?_
      refine Eq.trans (Eq.trans (r_go (act := oS (fSt 85 (gC (.int 1)))) rfl rfl) (a_C)) ?_
      refine Eq.trans (Eq.trans (r_go (act := oS (fIst 87 5)) rfl rfl) (a_ist rfl rfl)) ?_
      exact r_cut rfl rfl
  · refine Eq.trans (Eq.trans (r_go (act := oS (fSt 140 (gC (.int (-1))))) rfl rfl) (a_C)) ?_
    exact Eq.trans (r_go (act := oIret) rfl rfl) (a_iret)
set_option maxRecDepth 20000 in
theorem e_X12_game_87 (g : zg) (a1 : Int32) (a2 : Int32) (a3 : Int32) (a4 : Int32) (a5 : Int32) (M : zM) : zX (t_X12_game g) 87 [some (.ref 72), some (.int a1), some (.int a2), some (.int a3), some (.int a4), some (.int a5)] [] M = (zbI (X_X12_lesser g [.ref 72, .int 2, .int a4] M) (fun x1 M1 => (bif cGt a5 x1 then zX (t_X12_game g) 56 [some (.ref 72), some (.int a1), some (.int a2), some (.int (a3 + 1)), none, none] [] M1 else (bif cEq0 ((a2 ^^^ (a4 - a4 / 3 * 3)) ^^^ ((a4 - a5) - (a4 - a5) / 3 * 3)) then (bif cEq0 a1 then some (some (.int a3), M1) else some (some (.int a5), M1)) else zX (t_X12_game g) 87 [some (.ref 72), some (.int a1), some (.int a2), some (.int a3), some (.int a4), some (.int (a5 + 1))] [] M1)))) := by
  refine Eq.trans (zX_rgN (tl_X12_game g) (hc_X12_game g) 24 _ _ _ _) ?_
  refine Eq.trans (Eq.trans (Eq.trans (r_0 (act := oF [] (oS (fIld 89 5))) rfl) (a_F rfl)) (a_ild rfl)) ?_
  refine Eq.trans (Eq.trans (r_go (act := oS (fAld 90 0)) rfl rfl) (a_ald rfl)) ?_
  refine Eq.trans (Eq.trans (r_go (act := oS (fSt 91 (gC (.int 2)))) rfl rfl) (a_C)) ?_
  refine Eq.trans (Eq.trans (r_go (act := oS (fIld 93 4)) rfl rfl) (a_ild rfl)) ?_
  refine Eq.trans (Eq.trans (r_go (act := oCI 96 3 (zcv g 12) (X_X12_lesser g)) rfl rfl) (a_cI rfl (zck (zO_72 g) rfl))) (zbI_cg (fun x1 M1 => ?_))
  refine Eq.trans (Eq.trans (r_go (act := oS (fCm 133 99 cGt)) rfl rfl) (a_cm)) (bcg ?_ ?_)
  · refine Eq.trans (Eq.trans (r_go (act := oS (fInc 136 3 1)) rfl rfl) (a_inc rfl rfl rfl)) ?_
    refine Eq.trans (Eq.trans (r_go (act := oS (fGo 56)) rfl rfl) (a_goto)) ?_
    exact r_cut rfl rfl
  · refine Eq.trans (Eq.trans (r_go (act := oS (fIld 100 2)) rfl rfl) (a_ild rfl)) ?_
    refine Eq.trans (Eq.trans (r_go (act := oS (fIld 102 4)) rfl rfl) (a_ild rfl)) ?_
    refine Eq.trans (Eq.trans (r_go (act := oS (fSt 103 (gC (.int 3)))) rfl rfl) (a_C)) ?_
    refine Eq.trans (Eq.trans (r_go (act := oS (fRem 104)) rfl rfl) (a_rem)) (Eq.trans (bcT (by decide)) ?_)
    refine Eq.trans (Eq.trans (r_go (act := oS (fSt 105 (g2 (fun x y => x ^^^ y)))) rfl rfl) (a_xor)) ?_
    refine Eq.trans (Eq.trans (r_go (act := oS (fIld 107 4)) rfl rfl) (a_ild rfl)) ?_
    refine Eq.trans (Eq.trans (r_go (act := oS (fIld 109 5)) rfl rfl) (a_ild rfl)) ?_
    refine Eq.trans (Eq.trans (r_go (act := oS (fSt 110 (g2 (fun x y => x - y)))) rfl rfl) (a_sub)) ?_
    refine Eq.trans (Eq.trans (r_go (act := oS (fSt 111 (gC (.int 3)))) rfl rfl) (a_C)) ?_
    refine Eq.trans (Eq.trans (r_go (act := oS (fRem 112)) rfl rfl) (a_rem)) (Eq.trans (bcT (by decide)) ?_)
    refine Eq.trans (Eq.trans (r_go (act := oS (fSt 113 (g2 (fun x y => x ^^^ y)))) rfl rfl) (a_xor)) ?_
    refine Eq.trans (Eq.trans (r_go (act := oS (fIf 116 127 cEq0)) rfl rfl) (a_if)) (bcg ?_ ?_)
    · refine Eq.trans (Eq.trans (r_go (act := oS (fIld 117 1)) rfl rfl) (a_ild rfl)) ?_
      refine Eq.trans (Eq.trans (r_go (act := oS (fIf 120 124 cEq0)) rfl rfl) (a_if)) (bcg ?_ ?_)
      · refine Eq.trans (Eq.trans (r_go (act := oS (fIld 121 3)) rfl rfl) (a_ild rfl)) ?_
        refine Eq.trans (Eq.trans (r_go (act := oS (fGo 126)) rfl rfl) (a_goto)) ?_
        exact Eq.trans (r_go (act := oIret) rfl rfl) (a_iret)
      · refine Eq.trans (Eq.trans (r_go (act := oS (fIld 126 5)) rfl rfl) (a_ild rfl)) ?_
        exact Eq.trans (r_go (act := oIret) rfl rfl) (a_iret)
    · refine Eq.trans (Eq.trans (r_go (act := oS (fInc 130 5 1)) rfl rfl) (a_inc rfl rfl rfl)) ?_
      refine Eq.trans (Eq.trans (r_go (act := oS (fGo 87)) rfl rfl) (a_goto)) ?_
      exact r_cut rfl rfl
set_option maxRecDepth 20000 in
theorem e_X12_keeps_0 (g : zg) (a1 : Int32) (M : zM) : zX (t_X12_keeps g) 0 [some (.ref 72), some (.int a1)] [] M = (bif cEq0 (M.1 72 53) then (bif zb (((M.1 72 55) + 1) - 1) 2100 then some (some (.int (M.1 100 (zx (((M.1 72 55) + 1) - 1)))), ((zu M.1 72 55 ((M.1 72 55) + 1)), M.2)) else none) else (bif zb (((M.1 72 55) + 1) - 1) 2100 then some (some (.int a1), ((zu (zu M.1 72 55 ((M.1 72 55) + 1)) 100 (zx (((M.1 72 55) + 1) - 1)) a1), M.2)) else none)) := by
  refine Eq.trans (zX_rgN (tl_X12_keeps g) (hc_X12_keeps g) 20 _ _ _ _) ?_
  refine Eq.trans (Eq.trans (r_0 (act := oS (fAld 1 0)) rfl) (a_ald rfl)) ?_
  refine Eq.trans (Eq.trans (r_go (act := oS (fAld 2 0)) rfl rfl) (a_ald rfl)) ?_
  refine Eq.trans (Eq.trans (r_go (act := oS (fGi g 5 12 55)) rfl rfl) (a_gi (zO_72 g))) ?_
  refine Eq.trans (Eq.trans (r_go (act := oS (fSt 6 (gC (.int 1)))) rfl rfl) (a_C)) ?_
  refine Eq.trans (Eq.trans (r_go (act := oS (fSt 7 (g2 (fun x y => x + y)))) rfl rfl) (a_add)) ?_
  refine Eq.trans (Eq.trans (r_go (act := oS (fPi g 10 12 55)) rfl rfl) (a_pi (zO_72 g))) ?_
  refine Eq.trans (Eq.trans (r_go (act := oS (fAld 11 0)) rfl rfl) (a_ald rfl)) ?_
  refine Eq.trans (Eq.trans (r_go (act := oS (fGi g 14 12 53)) rfl rfl) (a_giV (zO_72 g) rfl)) ?_
  refine Eq.trans (Eq.trans (r_go (act := oS (fIf 17 29 cEq0)) rfl rfl) (a_if)) (bcg ?_ ?_)
  · refine Eq.trans (Eq.trans (r_go (act := oS (fAld 18 0)) rfl rfl) (a_ald rfl)) ?_
    refine Eq.trans (Eq.trans (r_go (act := oS (fGr g 21 12 56)) rfl rfl) (a_gr (zO_72 g) (zR_72_56 g))) ?_
    refine Eq.trans (Eq.trans (r_go (act := oS (fAld 22 0)) rfl rfl) (a_ald rfl)) ?_
    refine Eq.trans (Eq.trans (r_go (act := oS (fGi g 25 12 55)) rfl rfl) (a_giV (zO_72 g) rfl)) ?_
    refine Eq.trans (Eq.trans (r_go (act := oS (fSt 26 (gC (.int 1)))) rfl rfl) (a_C)) ?_
    refine Eq.trans (Eq.trans (r_go (act := oS (fSt 27 (g2 (fun x y => x - y)))) rfl rfl) (a_sub)) ?_
    refine Eq.trans (Eq.trans (r_go (act := oS (fIa g 28)) rfl rfl) (a_iaV (zA_100 g) zS_100 rfl)) (bcg ?_ rfl)
    exact Eq.trans (r_go (act := oIret) rfl rfl) (a_iret)
  · refine Eq.trans (Eq.trans (r_go (act := oS (fAld 30 0)) rfl rfl) (a_ald rfl)) ?_
    refine Eq.trans (Eq.trans (r_go (act := oS (fGr g 33 12 56)) rfl rfl) (a_gr (zO_72 g) (zR_72_56 g))) ?_
    refine Eq.trans (Eq.trans (r_go (act := oS (fAld 34 0)) rfl rfl) (a_ald rfl)) ?_
    refine Eq.trans (Eq.trans (r_go (act := oS (fGi g 37 12 55)) rfl rfl) (a_giV (zO_72 g) rfl)) ?_
    refine Eq.trans (Eq.trans (r_go (act := oS (fSt 38 (gC (.int 1)))) rfl rfl) (a_C)) ?_
    refine Eq.trans (Eq.trans (r_go (act := oS (fSt 39 (g2 (fun x y => x - y)))) rfl rfl) (a_sub)) ?_
    refine Eq.trans (Eq.trans (r_go (act := oS (fIld 40 1)) rfl rfl) (a_ild rfl)) ?_
    refine Eq.trans (Eq.trans (r_go (act := oS (fIs g 41)) rfl rfl) (a_is (zA_100 g) zS_100)) (bcg ?_ rfl)
    refine Eq.trans (Eq.trans (r_go (act := oS (fIld 42 1)) rfl rfl) (a_ild rfl)) ?_
    exact Eq.trans (r_go (act := oIret) rfl rfl) (a_iret)
theorem x_X12_keeps_0 (g : zg) (a1 : Int32) (M : zM) : X_X12_keeps g [.ref 72, .int a1] M = (bif cEq0 (M.1 72 53) then (bif zb (((M.1 72 55) + 1) - 1) 2100 then some (some (.int (M.1 100 (zx (((M.1 72 55) + 1) - 1)))), ((zu M.1 72 55 ((M.1 72 55) + 1)), M.2)) else none) else (bif zb (((M.1 72 55) + 1) - 1) 2100 then some (some (.int a1), ((zu (zu M.1 72 55 ((M.1 72 55) + 1)) 100 (zx (((M.1 72 55) + 1) - 1)) a1), M.2)) else none)) := e_X12_keeps_0 g a1 M
set_option maxRecDepth 20000 in
theorem e_X12_keepsTold_0 (g : zg) (M : zM) : zX (t_X12_keepsTold g) 0 [some (.ref 72), none] [] M = (zbI (X_X12_keeps g [.ref 72, .int (M.1 72 6)] M) (fun x1 M1 => (zbI (X_X12_keeps g [.ref 72, .int (M1.1 72 7)] ((zu M1.1 72 6 x1), M1.2)) (fun x2 M2 => (zbI (X_X12_keeps g [.ref 72, .int (M2.1 72 8)] ((zu M2.1 72 7 x2), M2.2)) (fun x3 M3 => (zbI (X_X12_keeps g [.ref 72, .int (M3.1 72 35)] ((zu M3.1 72 8 x3), M3.2)) (fun x4 M4 => (zbI (X_X12_keeps g [.ref 72, .int (M4.1 72 37)] ((zu M4.1 72 35 x4), M4.2)) (fun x5 M5 => (zbI (X_X12_keeps g [.ref 72, .int (M5.1 72 43)] ((zu M5.1 72 37 x5), M5.2)) (fun x6 M6 => (zbI (X_X12_keeps g [.ref 72, .int (M6.1 72 45)] ((zu M6.1 72 43 x6), M6.2)) (fun x7 M7 => (zbI (X_X12_keeps g [.ref 72, .int (M7.1 72 47)] ((zu M7.1 72 45 x7), M7.2)) (fun x8 M8 => zX (t_X12_keepsTold g) 98 [some (.ref 72), some (.int 0)] [] ((zu M8.1 72 47 x8), M8.2))))))))))))))))) := by
  refine Eq.trans (zX_rgN (tl_X12_keepsTold g) (hc_X12_keepsTold g) 52 _ _ _ _) ?_
  refine Eq.trans (Eq.trans (r_0 (act := oS (fAld 1 0)) rfl) (a_ald rfl)) ?_
  refine Eq.trans (Eq.trans (r_go (act := oS (fAld 2 0)) rfl rfl) (a_ald rfl)) ?_
  refine Eq.trans (Eq.trans (r_go (act := oS (fAld 3 0)) rfl rfl) (a_ald rfl)) ?_
  refine Eq.trans (Eq.trans (r_go (act := oS (fGi g 6 12 6)) rfl rfl) (a_gi (zO_72 g))) ?_
  refine Eq.trans (Eq.trans (r_go (act := oCI 9 2 (zcv g 12) (X_X12_keeps g)) rfl rfl) (a_cI rfl (zck (zO_72 g) rfl))) (zbI_cg (fun x1 M1 => ?_))
  refine Eq.trans (Eq.trans (r_go (act := oS (fPi g 12 12 6)) rfl rfl) (a_pi (zO_72 g))) ?_
  refine Eq.trans (Eq.trans (r_go (act := oS (fAld 13 0)) rfl rfl) (a_ald rfl)) ?_
  refine Eq.trans (Eq.trans (r_go (act := oS (fAld 14 0)) rfl rfl) (a_ald rfl)) ?_
  refine Eq.trans (Eq.trans (r_go (act := oS (fAld 15 0)) rfl rfl) (a_ald rfl)) ?_
  refine Eq.trans (Eq.trans (r_go (act := oS (fGi g 18 12 7)) rfl rfl) (a_giV (zO_72 g) rfl)) ?_
  refine Eq.trans (Eq.trans (r_go (act := oCI 21 2 (zcv g 12) (X_X12_keeps g)) rfl rfl) (a_cI rfl (zck (zO_72 g) rfl))) (zbI_cg (fun x2 M2 => ?_))
  refine Eq.trans (Eq.trans (r_go (act := oS (fPi g 24 12 7)) rfl rfl) (a_pi (zO_72 g))) ?_
  refine Eq.trans (Eq.trans (r_go (act := oS (fAld 25 0)) rfl rfl) (a_ald rfl)) ?_
  refine Eq.trans (Eq.trans (r_go (act := oS (fAld 26 0)) rfl rfl) (a_ald rfl)) ?_
  refine Eq.trans (Eq.trans (r_go (act := oS (fAld 27 0)) rfl rfl) (a_ald rfl)) ?_
  refine Eq.trans (Eq.trans (r_go (act := oS (fGi g 30 12 8)) rfl rfl) (a_giV (zO_72 g) rfl)) ?_
  refine Eq.trans (Eq.trans (r_go (act := oCI 33 2 (zcv g 12) (X_X12_keeps g)) rfl rfl) (a_cI rfl (zck (zO_72 g) rfl))) (zbI_cg (fun x3 M3 => ?_))
  refine Eq.trans (Eq.trans (r_go (act := oS (fPi g 36 12 8)) rfl rfl) (a_pi (zO_72 g))) ?_
  refine Eq.trans (Eq.trans (r_go (act := oS (fAld 37 0)) rfl rfl) (a_ald rfl)) ?_
  refine Eq.trans (Eq.trans (r_go (act := oS (fAld 38 0)) rfl rfl) (a_ald rfl)) ?_
  refine Eq.trans (Eq.trans (r_go (act := oS (fAld 39 0)) rfl rfl) (a_ald rfl)) ?_
  refine Eq.trans (Eq.trans (r_go (act := oS (fGi g 42 12 35)) rfl rfl) (a_giV (zO_72 g) rfl)) ?_
  refine Eq.trans (Eq.trans (r_go (act := oCI 45 2 (zcv g 12) (X_X12_keeps g)) rfl rfl) (a_cI rfl (zck (zO_72 g) rfl))) (zbI_cg (fun x4 M4 => ?_))
  refine Eq.trans (Eq.trans (r_go (act := oS (fPi g 48 12 35)) rfl rfl) (a_pi (zO_72 g))) ?_
  refine Eq.trans (Eq.trans (r_go (act := oS (fAld 49 0)) rfl rfl) (a_ald rfl)) ?_
  refine Eq.trans (Eq.trans (r_go (act := oS (fAld 50 0)) rfl rfl) (a_ald rfl)) ?_
  refine Eq.trans (Eq.trans (r_go (act := oS (fAld 51 0)) rfl rfl) (a_ald rfl)) ?_
  refine Eq.trans (Eq.trans (r_go (act := oS (fGi g 54 12 37)) rfl rfl) (a_giV (zO_72 g) rfl)) ?_
  refine Eq.trans (Eq.trans (r_go (act := oCI 57 2 (zcv g 12) (X_X12_keeps g)) rfl rfl) (a_cI rfl (zck (zO_72 g) rfl))) (zbI_cg (fun x5 M5 => ?_))
  refine Eq.trans (Eq.trans (r_go (act := oS (fPi g 60 12 37)) rfl rfl) (a_pi (zO_72 g))) ?_
  refine Eq.trans (Eq.trans (r_go (act := oS (fAld 61 0)) rfl rfl) (a_ald rfl)) ?_
  refine Eq.trans (Eq.trans (r_go (act := oS (fAld 62 0)) rfl rfl) (a_ald rfl)) ?_
  refine Eq.trans (Eq.trans (r_go (act := oS (fAld 63 0)) rfl rfl) (a_ald rfl)) ?_
  refine Eq.trans (Eq.trans (r_go (act := oS (fGi g 66 12 43)) rfl rfl) (a_giV (zO_72 g) rfl)) ?_
  refine Eq.trans (Eq.trans (r_go (act := oCI 69 2 (zcv g 12) (X_X12_keeps g)) rfl rfl) (a_cI rfl (zck (zO_72 g) rfl))) (zbI_cg (fun x6 M6 => ?_))
  refine Eq.trans (Eq.trans (r_go (act := oS (fPi g 72 12 43)) rfl rfl) (a_pi (zO_72 g))) ?_
  refine Eq.trans (Eq.trans (r_go (act := oS (fAld 73 0)) rfl rfl) (a_ald rfl)) ?_
  refine Eq.trans (Eq.trans (r_go (act := oS (fAld 74 0)) rfl rfl) (a_ald rfl)) ?_
  refine Eq.trans (Eq.trans (r_go (act := oS (fAld 75 0)) rfl rfl) (a_ald rfl)) ?_
  refine Eq.trans (Eq.trans (r_go (act := oS (fGi g 78 12 45)) rfl rfl) (a_giV (zO_72 g) rfl)) ?_
  refine Eq.trans (Eq.trans (r_go (act := oCI 81 2 (zcv g 12) (X_X12_keeps g)) rfl rfl) (a_cI rfl (zck (zO_72 g) rfl))) (zbI_cg (fun x7 M7 => ?_))
  refine Eq.trans (Eq.trans (r_go (act := oS (fPi g 84 12 45)) rfl rfl) (a_pi (zO_72 g))) ?_
  refine Eq.trans (Eq.trans (r_go (act := oS (fAld 85 0)) rfl rfl) (a_ald rfl)) ?_
  refine Eq.trans (Eq.trans (r_go (act := oS (fAld 86 0)) rfl rfl) (a_ald rfl)) ?_
  refine Eq.trans (Eq.trans (r_go (act := oS (fAld 87 0)) rfl rfl) (a_ald rfl)) ?_
  refine Eq.trans (Eq.trans (r_go (act := oS (fGi g 90 12 47)) rfl rfl) (a_giV (zO_72 g) rfl)) ?_
  refine Eq.trans (Eq.trans (r_go (act := oCI 93 2 (zcv g 12) (X_X12_keeps g)) rfl rfl) (a_cI rfl (zck (zO_72 g) rfl))) (zbI_cg (fun x8 M8 => ?_))
  refine Eq.trans (Eq.trans (r_go (act := oS (fPi g 96 12 47)) rfl rfl) (a_pi (zO_72 g))) ?_
  refine Eq.trans (Eq.trans (r_go (act := oS (fSt 97 (gC (.int 0)))) rfl rfl) (a_C)) ?_
  refine Eq.trans (Eq.trans (r_go (act := oS (fIst 98 1)) rfl rfl) (a_ist rfl rfl)) ?_
  exact r_cut rfl rfl
theorem x_X12_keepsTold_0 (g : zg) (M : zM) : X_X12_keepsTold g [.ref 72] M = (zbI (X_X12_keeps g [.ref 72, .int (M.1 72 6)] M) (fun x1 M1 => (zbI (X_X12_keeps g [.ref 72, .int (M1.1 72 7)] ((zu M1.1 72 6 x1), M1.2)) (fun x2 M2 => (zbI (X_X12_keeps g [.ref 72, .int (M2.1 72 8)] ((zu M2.1 72 7 x2), M2.2)) (fun x3 M3 => (zbI (X_X12_keeps g [.ref 72, .int (M3.1 72 35)] ((zu M3.1 72 8 x3), M3.2)) (fun x4 M4 => (zbI (X_X12_keeps g [.ref 72, .int (M4.1 72 37)] ((zu M4.1 72 35 x4), M4.2)) (fun x5 M5 => (zbI (X_X12_keeps g [.ref 72, .int (M5.1 72 43)] ((zu M5.1 72 37 x5), M5.2)) (fun x6 M6 => (zbI (X_X12_keeps g [.ref 72, .int (M6.1 72 45)] ((zu M6.1 72 43 x6), M6.2)) (fun x7 M7 => (zbI (X_X12_keeps g [.ref 72, .int (M7.1 72 47)] ((zu M7.1 72 45 x7), M7.2)) (fun x8 M8 => zX (t_X12_keepsTold g) 98 [some (.ref 72), some (.int 0)] [] ((zu M8.1 72 47 x8), M8.2))))))))))))))))) := e_X12_keepsTold_0 g M
set_option maxRecDepth 20000 in
theorem e_X12_keepsTold_98 (g : zg) (a1 : Int32) (M : zM) : zX (t_X12_keepsTold g) 98 [some (.ref 72), some (.int a1)] [] M = (bif cLt a1 10 then (bif zb a1 10 then (zbI (X_X12_keeps g [.ref 72, .int (M.1 76 (zx a1))] M) (fun x1 M1 => (bif zb a1 10 then (bif zb a1 10 then (zbI (X_X12_keeps g [.ref 72, .int (M1.1 77 (zx a1))] ((zu M1.1 76 (zx a1) x1), M1.2)) (fun x2 M2 => (bif zb a1 10 then (bif zb a1 10 then (zbI (X_X12_keeps g [.ref 72, .int (M2.1 94 (zx a1))] ((zu M2.1 77 (zx a1) x2), M2.2)) (fun x3 M3 => (bif zb a1 10 then zX (t_X12_keepsTold g) 98 [some (.ref 72), some (.int (a1 + 1))] [] ((zu M3.1 94 (zx a1) x3), M3.2) else none))) else none) else none))) else none) else none))) else none) else zX (t_X12_keepsTold g) 160 [some (.ref 72), some (.int 0)] [] M) := by
  refine Eq.trans (zX_rgN (tl_X12_keepsTold g) (hc_X12_keepsTold g) 37 _ _ _ _) ?_
  refine Eq.trans (Eq.trans (Eq.trans (r_0 (act := oF [] (oS (fIld 99 1))) rfl) (a_F rfl)) (a_ild rfl)) ?_
  refine Eq.trans (Eq.trans (r_go (act := oS (fSt 101 (gC (.int 10)))) rfl rfl) (a_C)) ?_
  refine Eq.trans (Eq.trans (r_go (act := oS (fCm 104 158 cLt)) rfl rfl) (a_cm)) (bcg ?_ ?_)
  · refine Eq.trans (Eq.trans (r_go (act := oS (fAld 105 0)) rfl rfl) (a_ald rfl)) ?_
    refine Eq.trans (Eq.trans (r_go (act := oS (fGr g 108 12 9)) rfl rfl) (a_gr (zO_72 g) (zR_72_9 g))) ?_
    refine Eq.trans (Eq.trans (r_go (act := oS (fIld 109 1)) rfl rfl) (a_ild rfl)) ?_
    refine Eq.trans (Eq.trans (r_go (act := oS (fAld 110 0)) rfl rfl) (a_ald rfl)) ?_
    refine Eq.trans (Eq.trans (r_go (act := oS (fAld 111 0)) rfl rfl) (a_ald rfl)) ?_
    refine Eq.trans (Eq.trans (r_go (act := oS (fGr g 114 12 9)) rfl rfl) (a_gr (zO_72 g) (zR_72_9 g))) ?_
    refine Eq.trans (Eq.trans (r_go (act := oS (fIld 115 1)) rfl rfl) (a_ild rfl)) ?_
    refine Eq.trans (Eq.trans (r_go (act := oS (fIa g 116)) rfl rfl) (a_ia (zA_76 g) zS_76)) (bcg ?_ rfl)
    refine Eq.trans (Eq.trans (r_go (act := oCI 119 2 (zcv g 12) (X_X12_keeps g)) rfl rfl) (a_cI rfl (zck (zO_72 g) rfl))) (zbI_cg (fun x1 M1 => ?_))
    refine Eq.trans (Eq.trans (r_go (act := oS (fIs g 120)) rfl rfl) (a_is (zA_76 g) zS_76)) (bcg ?_ rfl)
    refine Eq.trans (Eq.trans (r_go (act := oS (fAld 121 0)) rfl rfl) (a_ald rfl)) ?_
    refine Eq.trans (Eq.trans (r_go (act := oS (fGr g 124 12 10)) rfl rfl) (a_gr (zO_72 g) (zR_72_10 g))) ?_
    refine Eq.trans (Eq.trans (r_go (act := oS (fIld 125 1)) rfl rfl) (a_ild rfl)) ?_
    refine Eq.trans (Eq.trans (r_go (act := oS (fAld 126 0)) rfl rfl) (a_ald rfl)) ?_
    refine Eq.trans (Eq.trans (r_go (act := oS (fAld 127 0)) rfl rfl) (a_ald rfl)) ?_
    refine Eq.trans (Eq.trans (r_go (act := oS (fGr g 130 12 10)) rfl rfl) (a_gr (zO_72 g) (zR_72_10 g))) ?_
    refine Eq.trans (Eq.trans (r_go (act := oS (fIld 131 1)) rfl rfl) (a_ild rfl)) ?_
    refine Eq.trans (Eq.trans (r_go (act := oS (fIa g 132)) rfl rfl) (a_iaV (zA_77 g) zS_77 rfl)) (bcg ?_ rfl)
    refine Eq.trans (Eq.trans (r_go (act := oCI 135 2 (zcv g 12) (X_X12_keeps g)) rfl rfl) (a_cI rfl (zck (zO_72 g) rfl))) (zbI_cg (fun x2 M2 => ?_))
    refine Eq.trans (Eq.trans (r_go (act := oS (fIs g 136)) rfl rfl) (a_is (zA_77 g) zS_77)) (bcg ?_ rfl)
    refine Eq.trans (Eq.trans (r_go (act := oS (fAld 137 0)) rfl rfl) (a_ald rfl)) ?_
    refine Eq.trans (Eq.trans (r_go (act := oS (fGr g 140 12 46)) rfl rfl) (a_gr (zO_72 g) (zR_72_46 g))) ?_
    refine Eq.trans (Eq.trans (r_go (act := oS (fIld 141 1)) rfl rfl) (a_ild rfl)) ?_
    refine Eq.trans (Eq.trans (r_go (act := oS (fAld 142 0)) rfl rfl) (a_ald rfl)) ?_
    refine Eq.trans (Eq.trans (r_go (act := oS (fAld 143 0)) rfl rfl) (a_ald rfl)) ?_
    refine Eq.trans (Eq.trans (r_go (act := oS (fGr g 146 12 46)) rfl rfl) (a_gr (zO_72 g) (zR_72_46 g))) ?_
    refine Eq.trans (Eq.trans (r_go (act := oS (fIld 147 1)) rfl rfl) (a_ild rfl)) ?_
    refine Eq.trans (Eq.trans (r_go (act := oS (fIa g 148)) rfl rfl) (a_iaV (zA_94 g) zS_94 rfl)) (bcg ?_ rfl)
    refine Eq.trans (Eq.trans (r_go (act := oCI 151 2 (zcv g 12) (X_X12_keeps g)) rfl rfl) (a_cI rfl (zck (zO_72 g) rfl))) (zbI_cg (fun x3 M3 => ?_))
    refine Eq.trans (Eq.trans (r_go (act := oS (fIs g 152)) rfl rfl) (a_is (zA_94 g) zS_94)) (bcg ?_ rfl)
    refine Eq.trans (Eq.trans (r_go (act := oS (fInc 155 1 1)) rfl rfl) (a_inc rfl rfl rfl)) ?_
    refine Eq.trans (Eq.trans (r_go (act := oS (fGo 98)) rfl rfl) (a_goto)) ?_
    exact r_cut rfl rfl
  · refine Eq.trans (Eq.trans (r_go (act := oS (fSt 159 (gC (.int 0)))) rfl rfl) (a_C)) ?_
    refine Eq.trans (Eq.trans (r_go (act := oS (fIst 160 1)) rfl rfl) (a_ist rfl rfl)) ?_
    exact r_cut rfl rfl
set_option maxRecDepth 20000 in
theorem e_X12_keepsTold_160 (g : zg) (a1 : Int32) (M : zM) : zX (t_X12_keepsTold g) 160 [some (.ref 72), some (.int a1)] [] M = (bif cLt a1 6 then (bif zb a1 6 then (zbI (X_X12_keeps g [.ref 72, .int (M.1 95 (zx a1))] M) (fun x1 M1 => (bif zb a1 6 then (bif zb a1 6 then (zbI (X_X12_keeps g [.ref 72, .int (M1.1 96 (zx a1))] ((zu M1.1 95 (zx a1) x1), M1.2)) (fun x2 M2 => (bif zb a1 6 then zX (t_X12_keepsTold g) 160 [some (.ref 72), some (.int (a1 + 1))] [] ((zu M2.1 96 (zx a1) x2), M2.2) else none))) else none) else none))) else none) else zX (t_X12_keepsTold g) 206 [some (.ref 72), some (.int 0)] [] M) := by
  refine Eq.trans (zX_rgN (tl_X12_keepsTold g) (hc_X12_keepsTold g) 27 _ _ _ _) ?_
  refine Eq.trans (Eq.trans (Eq.trans (r_0 (act := oF [] (oS (fIld 161 1))) rfl) (a_F rfl)) (a_ild rfl)) ?_
  refine Eq.trans (Eq.trans (r_go (act := oS (fSt 163 (gC (.int 6)))) rfl rfl) (a_C)) ?_
  refine Eq.trans (Eq.trans (r_go (act := oS (fCm 166 204 cLt)) rfl rfl) (a_cm)) (bcg ?_ ?_)
  · refine Eq.trans (Eq.trans (r_go (act := oS (fAld 167 0)) rfl rfl) (a_ald rfl)) ?_
    refine Eq.trans (Eq.trans (r_go (act := oS (fGr g 170 12 48)) rfl rfl) (a_gr (zO_72 g) (zR_72_48 g))) ?_
    refine Eq.trans (Eq.trans (r_go (act := oS (fIld 171 1)) rfl rfl) (a_ild rfl)) ?_
    refine Eq.trans (Eq.trans (r_go (act := oS (fAld 172 0)) rfl rfl) (a_ald rfl)) ?_
    refine Eq.trans (Eq.trans (r_go (act := oS (fAld 173 0)) rfl rfl) (a_ald rfl)) ?_
    refine Eq.trans (Eq.trans (r_go (act := oS (fGr g 176 12 48)) rfl rfl) (a_gr (zO_72 g) (zR_72_48 g))) ?_
    refine Eq.trans (Eq.trans (r_go (act := oS (fIld 177 1)) rfl rfl) (a_ild rfl)) ?_
    refine Eq.trans (Eq.trans (r_go (act := oS (fIa g 178)) rfl rfl) (a_ia (zA_95 g) zS_95)) (bcg ?_ rfl)
    refine Eq.trans (Eq.trans (r_go (act := oCI 181 2 (zcv g 12) (X_X12_keeps g)) rfl rfl) (a_cI rfl (zck (zO_72 g) rfl))) (zbI_cg (fun x1 M1 => ?_))
    refine Eq.trans (Eq.trans (r_go (act := oS (fIs g 182)) rfl rfl) (a_is (zA_95 g) zS_95)) (bcg ?_ rfl)
    refine Eq.trans (Eq.trans (r_go (act := oS (fAld 183 0)) rfl rfl) (a_ald rfl)) ?_
    refine Eq.trans (Eq.trans (r_go (act := oS (fGr g 186 12 49)) rfl rfl) (a_gr (zO_72 g) (zR_72_49 g))) ?_
    refine Eq.trans (Eq.trans (r_go (act := oS (fIld 187 1)) rfl rfl) (a_ild rfl)) ?_
    refine Eq.trans (Eq.trans (r_go (act := oS (fAld 188 0)) rfl rfl) (a_ald rfl)) ?_
    refine Eq.trans (Eq.trans (r_go (act := oS (fAld 189 0)) rfl rfl) (a_ald rfl)) ?_
    refine Eq.trans (Eq.trans (r_go (act := oS (fGr g 192 12 49)) rfl rfl) (a_gr (zO_72 g) (zR_72_49 g))) ?_
    refine Eq.trans (Eq.trans (r_go (act := oS (fIld 193 1)) rfl rfl) (a_ild rfl)) ?_
    refine Eq.trans (Eq.trans (r_go (act := oS (fIa g 194)) rfl rfl) (a_iaV (zA_96 g) zS_96 rfl)) (bcg ?_ rfl)
    refine Eq.trans (Eq.trans (r_go (act := oCI 197 2 (zcv g 12) (X_X12_keeps g)) rfl rfl) (a_cI rfl (zck (zO_72 g) rfl))) (zbI_cg (fun x2 M2 => ?_))
    refine Eq.trans (Eq.trans (r_go (act := oS (fIs g 198)) rfl rfl) (a_is (zA_96 g) zS_96)) (bcg ?_ rfl)
    refine Eq.trans (Eq.trans (r_go (act := oS (fInc 201 1 1)) rfl rfl) (a_inc rfl rfl rfl)) ?_
    refine Eq.trans (Eq.trans (r_go (act := oS (fGo 160)) rfl rfl) (a_goto)) ?_
    exact r_cut rfl rfl
  · refine Eq.trans (Eq.trans (r_go (act := oS (fSt 205 (gC (.int 0)))) rfl rfl) (a_C)) ?_
    refine Eq.trans (Eq.trans (r_go (act := oS (fIst 206 1)) rfl rfl) (a_ist rfl rfl)) ?_
    exact r_cut rfl rfl
set_option maxRecDepth 20000 in
theorem e_X12_keepsTold_206 (g : zg) (a1 : Int32) (M : zM) : zX (t_X12_keepsTold g) 206 [some (.ref 72), some (.int a1)] [] M = (bif cLt a1 12 then (bif zb a1 12 then (zbI (X_X12_keeps g [.ref 72, .int (M.1 93 (zx a1))] M) (fun x1 M1 => (bif zb a1 12 then zX (t_X12_keepsTold g) 206 [some (.ref 72), some (.int (a1 + 1))] [] ((zu M1.1 93 (zx a1) x1), M1.2) else none))) else none) else zX (t_X12_keepsTold g) 236 [some (.ref 72), some (.int 0)] [] M) := by
  refine Eq.trans (zX_rgN (tl_X12_keepsTold g) (hc_X12_keepsTold g) 17 _ _ _ _) ?_
  refine Eq.trans (Eq.trans (Eq.trans (r_0 (act := oF [] (oS (fIld 207 1))) rfl) (a_F rfl)) (a_ild rfl)) ?_
  refine Eq.trans (Eq.trans (r_go (act := oS (fSt 209 (gC (.int 12)))) rfl rfl) (a_C)) ?_
  refine Eq.trans (Eq.trans (r_go (act := oS (fCm 212 234 cLt)) rfl rfl) (a_cm)) (bcg ?_ ?_)
  · refine Eq.trans (Eq.trans (r_go (act := oS (fAld 213 0)) rfl rfl) (a_ald rfl)) ?_
    refine Eq.trans (Eq.trans (r_go (act := oS (fGr g 216 12 44)) rfl rfl) (a_gr (zO_72 g) (zR_72_44 g))) ?_
    refine Eq.trans (Eq.trans (r_go (act := oS (fIld 217 1)) rfl rfl) (a_ild rfl)) ?_
    refine Eq.trans (Eq.trans (r_go (act := oS (fAld 218 0)) rfl rfl) (a_ald rfl)) ?_
    refine Eq.trans (Eq.trans (r_go (act := oS (fAld 219 0)) rfl rfl) (a_ald rfl)) ?_
    refine Eq.trans (Eq.trans (r_go (act := oS (fGr g 222 12 44)) rfl rfl) (a_gr (zO_72 g) (zR_72_44 g))) ?_
    refine Eq.trans (Eq.trans (r_go (act := oS (fIld 223 1)) rfl rfl) (a_ild rfl)) ?_
    refine Eq.trans (Eq.trans (r_go (act := oS (fIa g 224)) rfl rfl) (a_ia (zA_93 g) zS_93)) (bcg ?_ rfl)
    refine Eq.trans (Eq.trans (r_go (act := oCI 227 2 (zcv g 12) (X_X12_keeps g)) rfl rfl) (a_cI rfl (zck (zO_72 g) rfl))) (zbI_cg (fun x1 M1 => ?_))
    refine Eq.trans (Eq.trans (r_go (act := oS (fIs g 228)) rfl rfl) (a_is (zA_93 g) zS_93)) (bcg ?_ rfl)
    refine Eq.trans (Eq.trans (r_go (act := oS (fInc 231 1 1)) rfl rfl) (a_inc rfl rfl rfl)) ?_
    refine Eq.trans (Eq.trans (r_go (act := oS (fGo 206)) rfl rfl) (a_goto)) ?_
    exact r_cut rfl rfl
  · refine Eq.trans (Eq.trans (r_go (act := oS (fSt 235 (gC (.int 0)))) rfl rfl) (a_C)) ?_
    refine Eq.trans (Eq.trans (r_go (act := oS (fIst 236 1)) rfl rfl) (a_ist rfl rfl)) ?_
    exact r_cut rfl rfl
set_option maxRecDepth 20000 in
theorem e_X12_keepsTold_236 (g : zg) (a1 : Int32) (M : zM) : zX (t_X12_keepsTold g) 236 [some (.ref 72), some (.int a1)] [] M = (bif cLt a1 4 then (bif zb a1 4 then (zbI (X_X12_keeps g [.ref 72, .int (M.1 99 (zx a1))] M) (fun x1 M1 => (bif zb a1 4 then zX (t_X12_keepsTold g) 236 [some (.ref 72), some (.int (a1 + 1))] [] ((zu M1.1 99 (zx a1) x1), M1.2) else none))) else none) else zX (t_X12_keepsTold g) 265 [some (.ref 72), some (.int 0)] [] M) := by
  refine Eq.trans (zX_rgN (tl_X12_keepsTold g) (hc_X12_keepsTold g) 17 _ _ _ _) ?_
  refine Eq.trans (Eq.trans (Eq.trans (r_0 (act := oF [] (oS (fIld 237 1))) rfl) (a_F rfl)) (a_ild rfl)) ?_
  refine Eq.trans (Eq.trans (r_go (act := oS (fSt 238 (gC (.int 4)))) rfl rfl) (a_C)) ?_
  refine Eq.trans (Eq.trans (r_go (act := oS (fCm 241 263 cLt)) rfl rfl) (a_cm)) (bcg ?_ ?_)
  · refine Eq.trans (Eq.trans (r_go (act := oS (fAld 242 0)) rfl rfl) (a_ald rfl)) ?_
    refine Eq.trans (Eq.trans (r_go (act := oS (fGr g 245 12 52)) rfl rfl) (a_gr (zO_72 g) (zR_72_52 g))) ?_
    refine Eq.trans (Eq.trans (r_go (act := oS (fIld 246 1)) rfl rfl) (a_ild rfl)) ?_
    refine Eq.trans (Eq.trans (r_go (act := oS (fAld 247 0)) rfl rfl) (a_ald rfl)) ?_
    refine Eq.trans (Eq.trans (r_go (act := oS (fAld 248 0)) rfl rfl) (a_ald rfl)) ?_
    refine Eq.trans (Eq.trans (r_go (act := oS (fGr g 251 12 52)) rfl rfl) (a_gr (zO_72 g) (zR_72_52 g))) ?_
    refine Eq.trans (Eq.trans (r_go (act := oS (fIld 252 1)) rfl rfl) (a_ild rfl)) ?_
    refine Eq.trans (Eq.trans (r_go (act := oS (fIa g 253)) rfl rfl) (a_ia (zA_99 g) zS_99)) (bcg ?_ rfl)
    refine Eq.trans (Eq.trans (r_go (act := oCI 256 2 (zcv g 12) (X_X12_keeps g)) rfl rfl) (a_cI rfl (zck (zO_72 g) rfl))) (zbI_cg (fun x1 M1 => ?_))
    refine Eq.trans (Eq.trans (r_go (act := oS (fIs g 257)) rfl rfl) (a_is (zA_99 g) zS_99)) (bcg ?_ rfl)
    refine Eq.trans (Eq.trans (r_go (act := oS (fInc 260 1 1)) rfl rfl) (a_inc rfl rfl rfl)) ?_
    refine Eq.trans (Eq.trans (r_go (act := oS (fGo 236)) rfl rfl) (a_goto)) ?_
    exact r_cut rfl rfl
  · refine Eq.trans (Eq.trans (r_go (act := oS (fSt 264 (gC (.int 0)))) rfl rfl) (a_C)) ?_
    refine Eq.trans (Eq.trans (r_go (act := oS (fIst 265 1)) rfl rfl) (a_ist rfl rfl)) ?_
    exact r_cut rfl rfl
set_option maxRecDepth 20000 in
theorem e_X12_keepsTold_265 (g : zg) (a1 : Int32) (M : zM) : zX (t_X12_keepsTold g) 265 [some (.ref 72), some (.int a1)] [] M = (bif cLt a1 24 then (bif zb a1 48 then (zbI (X_X12_keeps g [.ref 72, .int (M.1 89 (zx a1))] M) (fun x1 M1 => (bif zb a1 48 then zX (t_X12_keepsTold g) 265 [some (.ref 72), some (.int (a1 + 1))] [] ((zu M1.1 89 (zx a1) x1), M1.2) else none))) else none) else zX (t_X12_keepsTold g) 295 [some (.ref 72), some (.int 0)] [] M) := by
  refine Eq.trans (zX_rgN (tl_X12_keepsTold g) (hc_X12_keepsTold g) 17 _ _ _ _) ?_
  refine Eq.trans (Eq.trans (Eq.trans (r_0 (act := oF [] (oS (fIld 266 1))) rfl) (a_F rfl)) (a_ild rfl)) ?_
  refine Eq.trans (Eq.trans (r_go (act := oS (fSt 268 (gC (.int 24)))) rfl rfl) (a_C)) ?_
  refine Eq.trans (Eq.trans (r_go (act := oS (fCm 271 293 cLt)) rfl rfl) (a_cm)) (bcg ?_ ?_)
  · refine Eq.trans (Eq.trans (r_go (act := oS (fAld 272 0)) rfl rfl) (a_ald rfl)) ?_
    refine Eq.trans (Eq.trans (r_go (act := oS (fGr g 275 12 36)) rfl rfl) (a_gr (zO_72 g) (zR_72_36 g))) ?_
    refine Eq.trans (Eq.trans (r_go (act := oS (fIld 276 1)) rfl rfl) (a_ild rfl)) ?_
    refine Eq.trans (Eq.trans (r_go (act := oS (fAld 277 0)) rfl rfl) (a_ald rfl)) ?_
    refine Eq.trans (Eq.trans (r_go (act := oS (fAld 278 0)) rfl rfl) (a_ald rfl)) ?_
    refine Eq.trans (Eq.trans (r_go (act := oS (fGr g 281 12 36)) rfl rfl) (a_gr (zO_72 g) (zR_72_36 g))) ?_
    refine Eq.trans (Eq.trans (r_go (act := oS (fIld 282 1)) rfl rfl) (a_ild rfl)) ?_
    refine Eq.trans (Eq.trans (r_go (act := oS (fIa g 283)) rfl rfl) (a_ia (zA_89 g) zS_89)) (bcg ?_ rfl)
    refine Eq.trans (Eq.trans (r_go (act := oCI 286 2 (zcv g 12) (X_X12_keeps g)) rfl rfl) (a_cI rfl (zck (zO_72 g) rfl))) (zbI_cg (fun x1 M1 => ?_))
    refine Eq.trans (Eq.trans (r_go (act := oS (fIs g 287)) rfl rfl) (a_is (zA_89 g) zS_89)) (bcg ?_ rfl)
    refine Eq.trans (Eq.trans (r_go (act := oS (fInc 290 1 1)) rfl rfl) (a_inc rfl rfl rfl)) ?_
    refine Eq.trans (Eq.trans (r_go (act := oS (fGo 265)) rfl rfl) (a_goto)) ?_
    exact r_cut rfl rfl
  · refine Eq.trans (Eq.trans (r_go (act := oS (fSt 294 (gC (.int 0)))) rfl rfl) (a_C)) ?_
    refine Eq.trans (Eq.trans (r_go (act := oS (fIst 295 1)) rfl rfl) (a_ist rfl rfl)) ?_
    exact r_cut rfl rfl
set_option maxRecDepth 20000 in
theorem e_X12_keepsTold_295 (g : zg) (a1 : Int32) (M : zM) : zX (t_X12_keepsTold g) 295 [some (.ref 72), some (.int a1)] [] M = (bif cLt a1 64 then (bif zb a1 128 then (zbI (X_X12_keeps g [.ref 72, .int (M.1 90 (zx a1))] M) (fun x1 M1 => (bif zb a1 128 then zX (t_X12_keepsTold g) 295 [some (.ref 72), some (.int (a1 + 1))] [] ((zu M1.1 90 (zx a1) x1), M1.2) else none))) else none) else some (none, M)) := by
  refine Eq.trans (zX_rgN (tl_X12_keepsTold g) (hc_X12_keepsTold g) 17 _ _ _ _) ?_
  refine Eq.trans (Eq.trans (Eq.trans (r_0 (act := oF [] (oS (fIld 296 1))) rfl) (a_F rfl)) (a_ild rfl)) ?_
  refine Eq.trans (Eq.trans (r_go (act := oS (fSt 298 (gC (.int 64)))) rfl rfl) (a_C)) ?_
  refine Eq.trans (Eq.trans (r_go (act := oS (fCm 301 323 cLt)) rfl rfl) (a_cm)) (bcg ?_ ?_)
  · refine Eq.trans (Eq.trans (r_go (act := oS (fAld 302 0)) rfl rfl) (a_ald rfl)) ?_
    refine Eq.trans (Eq.trans (r_go (act := oS (fGr g 305 12 38)) rfl rfl) (a_gr (zO_72 g) (zR_72_38 g))) ?_
    refine Eq.trans (Eq.trans (r_go (act := oS (fIld 306 1)) rfl rfl) (a_ild rfl)) ?_
    refine Eq.trans (Eq.trans (r_go (act := oS (fAld 307 0)) rfl rfl) (a_ald rfl)) ?_
    refine Eq.trans (Eq.trans (r_go (act := oS (fAld 308 0)) rfl rfl) (a_ald rfl)) ?_
    refine Eq.trans (Eq.trans (r_go (act := oS (fGr g 311 12 38)) rfl rfl) (a_gr (zO_72 g) (zR_72_38 g))) ?_
    refine Eq.trans (Eq.trans (r_go (act := oS (fIld 312 1)) rfl rfl) (a_ild rfl)) ?_
    refine Eq.trans (Eq.trans (r_go (act := oS (fIa g 313)) rfl rfl) (a_ia (zA_90 g) zS_90)) (bcg ?_ rfl)
    refine Eq.trans (Eq.trans (r_go (act := oCI 316 2 (zcv g 12) (X_X12_keeps g)) rfl rfl) (a_cI rfl (zck (zO_72 g) rfl))) (zbI_cg (fun x1 M1 => ?_))
    refine Eq.trans (Eq.trans (r_go (act := oS (fIs g 317)) rfl rfl) (a_is (zA_90 g) zS_90)) (bcg ?_ rfl)
    refine Eq.trans (Eq.trans (r_go (act := oS (fInc 320 1 1)) rfl rfl) (a_inc rfl rfl rfl)) ?_
    refine Eq.trans (Eq.trans (r_go (act := oS (fGo 295)) rfl rfl) (a_goto)) ?_
    exact r_cut rfl rfl
  · exact Eq.trans (r_go (act := oVret) rfl rfl) (a_vret)
set_option maxRecDepth 20000 in
theorem e_X12_keepsLaw_0 (g : zg) (M : zM) : zX (t_X12_keepsLaw g) 0 [some (.ref 72), none] [] M = (zbI (X_X12_keeps g [.ref 72, .int (M.1 81 0)] M) (fun x1 M1 => zX (t_X12_keepsLaw g) 18 [some (.ref 72), some (.int 0)] [] ((zu M1.1 81 0 x1), M1.2))) := by
  refine Eq.trans (zX_rgN (tl_X12_keepsLaw g) (hc_X12_keepsLaw g) 14 _ _ _ _) ?_
  refine Eq.trans (Eq.trans (r_0 (act := oS (fAld 1 0)) rfl) (a_ald rfl)) ?_
  refine Eq.trans (Eq.trans (r_go (act := oS (fGr g 4 12 19)) rfl rfl) (a_gr (zO_72 g) (zR_72_19 g))) ?_
  refine Eq.trans (Eq.trans (r_go (act := oS (fSt 5 (gC (.int 0)))) rfl rfl) (a_C)) ?_
  refine Eq.trans (Eq.trans (r_go (act := oS (fAld 6 0)) rfl rfl) (a_ald rfl)) ?_
  refine Eq.trans (Eq.trans (r_go (act := oS (fAld 7 0)) rfl rfl) (a_ald rfl)) ?_
  refine Eq.trans (Eq.trans (r_go (act := oS (fGr g 10 12 19)) rfl rfl) (a_gr (zO_72 g) (zR_72_19 g))) ?_
  refine Eq.trans (Eq.trans (r_go (act := oS (fSt 11 (gC (.int 0)))) rfl rfl) (a_C)) ?_
  refine Eq.trans (Eq.trans (r_go (act := oS (fIa g 12)) rfl rfl) (a_iaK (j := 0) (zA_81 g) zS_81 (by decide +kernel) (by decide +kernel))) ?_
  refine Eq.trans (Eq.trans (r_go (act := oCI 15 2 (zcv g 12) (X_X12_keeps g)) rfl rfl) (a_cI rfl (zck (zO_72 g) rfl))) (zbI_cg (fun x1 M1 => ?_))
  refine Eq.trans (Eq.trans (r_go (act := oS (fIs g 16)) rfl rfl) (a_isK (j := 0) (zA_81 g) zS_81 (by decide +kernel) (by decide +kernel))) ?_
  refine Eq.trans (Eq.trans (r_go (act := oS (fSt 17 (gC (.int 0)))) rfl rfl) (a_C)) ?_
  refine Eq.trans (Eq.trans (r_go (act := oS (fIst 18 1)) rfl rfl) (a_ist rfl rfl)) ?_
  exact r_cut rfl rfl
theorem x_X12_keepsLaw_0 (g : zg) (M : zM) : X_X12_keepsLaw g [.ref 72] M = (zbI (X_X12_keeps g [.ref 72, .int (M.1 81 0)] M) (fun x1 M1 => zX (t_X12_keepsLaw g) 18 [some (.ref 72), some (.int 0)] [] ((zu M1.1 81 0 x1), M1.2))) := e_X12_keepsLaw_0 g M
set_option maxRecDepth 20000 in
theorem e_X12_keepsLaw_18 (g : zg) (a1 : Int32) (M : zM) : zX (t_X12_keepsLaw g) 18 [some (.ref 72), some (.int a1)] [] M = (bif cLt a1 16 then (bif zb a1 48 then (zbI (X_X12_keeps g [.ref 72, .int (M.1 82 (zx a1))] M) (fun x1 M1 => (bif zb a1 48 then (bif zb a1 48 then (zbI (X_X12_keeps g [.ref 72, .int (M1.1 83 (zx a1))] ((zu M1.1 82 (zx a1) x1), M1.2)) (fun x2 M2 => (bif zb a1 48 then (bif zb a1 48 then (zbI (X_X12_keeps g [.ref 72, .int (M2.1 84 (zx a1))] ((zu M2.1 83 (zx a1) x2), M2.2)) (fun x3 M3 => (bif zb a1 48 then (bif zb a1 48 then (zbI (X_X12_keeps g [.ref 72, .int (M3.1 85 (zx a1))] ((zu M3.1 84 (zx a1) x3), M3.2)) (fun x4 M4 => (bif zb a1 48 then zX (t_X12_keepsLaw g) 18 [some (.ref 72), some (.int (a1 + 1))] [] ((zu M4.1 85 (zx a1) x4), M4.2) else none))) else none) else none))) else none) else none))) else none) else none))) else none) else zX (t_X12_keepsLaw g) 96 [some (.ref 72), some (.int 0)] [] M) := by
  refine Eq.trans (zX_rgN (tl_X12_keepsLaw g) (hc_X12_keepsLaw g) 47 _ _ _ _) ?_
  refine Eq.trans (Eq.trans (Eq.trans (r_0 (act := oF [] (oS (fIld 19 1))) rfl) (a_F rfl)) (a_ild rfl)) ?_
  refine Eq.trans (Eq.trans (r_go (act := oS (fSt 21 (gC (.int 16)))) rfl rfl) (a_C)) ?_
  refine Eq.trans (Eq.trans (r_go (act := oS (fCm 24 94 cLt)) rfl rfl) (a_cm)) (bcg ?_ ?_)
  · refine Eq.trans (Eq.trans (r_go (act := oS (fAld 25 0)) rfl rfl) (a_ald rfl)) ?_
    refine Eq.trans (Eq.trans (r_go (act := oS (fGr g 28 12 20)) rfl rfl) (a_gr (zO_72 g) (zR_72_20 g))) ?_
    refine Eq.trans (Eq.trans (r_go (act := oS (fIld 29 1)) rfl rfl) (a_ild rfl)) ?_
    refine Eq.trans (Eq.trans (r_go (act := oS (fAld 30 0)) rfl rfl) (a_ald rfl)) ?_
    refine Eq.trans (Eq.trans (r_go (act := oS (fAld 31 0)) rfl rfl) (a_ald rfl)) ?_
    refine Eq.trans (Eq.trans (r_go (act := oS (fGr g 34 12 20)) rfl rfl) (a_gr (zO_72 g) (zR_72_20 g))) ?_
    refine Eq.trans (Eq.trans (r_go (act := oS (fIld 35 1)) rfl rfl) (a_ild rfl)) ?_
    refine Eq.trans (Eq.trans (r_go (act := oS (fIa g 36)) rfl rfl) (a_ia (zA_82 g) zS_82)) (bcg ?_ rfl)
    refine Eq.trans (Eq.trans (r_go (act := oCI 39 2 (zcv g 12) (X_X12_keeps g)) rfl rfl) (a_cI rfl (zck (zO_72 g) rfl))) (zbI_cg (fun x1 M1 => ?_))
    refine Eq.trans (Eq.trans (r_go (act := oS (fIs g 40)) rfl rfl) (a_is (zA_82 g) zS_82)) (bcg ?_ rfl)
    refine Eq.trans (Eq.trans (r_go (act := oS (fAld 41 0)) rfl rfl) (a_ald rfl)) ?_
    refine Eq.trans (Eq.trans (r_go (act := oS (fGr g 44 12 21)) rfl rfl) (a_gr (zO_72 g) (zR_72_21 g))) ?_
    refine Eq.trans (Eq.trans (r_go (act := oS (fIld 45 1)) rfl rfl) (a_ild rfl)) ?_
    refine Eq.trans (Eq.trans (r_go (act := oS (fAld 46 0)) rfl rfl) (a_ald rfl)) ?_
    refine Eq.trans (Eq.trans (r_go (act := oS (fAld 47 0)) rfl rfl) (a_ald rfl)) ?_
    refine Eq.trans (Eq.trans (r_go (act := oS (fGr g 50 12 21)) rfl rfl) (a_gr (zO_72 g) (zR_72_21 g))) ?_
    refine Eq.trans (Eq.trans (r_go (act := oS (fIld 51 1)) rfl rfl) (a_ild rfl)) ?_
    refine Eq.trans (Eq.trans (r_go (act := oS (fIa g 52)) rfl rfl) (a_iaV (zA_83 g) zS_83 rfl)) (bcg ?_ rfl)
    refine Eq.trans (Eq.trans (r_go (act := oCI 55 2 (zcv g 12) (X_X12_keeps g)) rfl rfl) (a_cI rfl (zck (zO_72 g) rfl))) (zbI_cg (fun x2 M2 => ?_))
    refine Eq.trans (Eq.trans (r_go (act := oS (fIs g 56)) rfl rfl) (a_is (zA_83 g) zS_83)) (bcg ?_ rfl)
    refine Eq.trans (Eq.trans (r_go (act := oS (fAld 57 0)) rfl rfl) (a_ald rfl)) ?_
    refine Eq.trans (Eq.trans (r_go (act := oS (fGr g 60 12 22)) rfl rfl) (a_gr (zO_72 g) (zR_72_22 g))) ?_
    refine Eq.trans (Eq.trans (r_go (act := oS (fIld 61 1)) rfl rfl) (a_ild rfl)) ?_
    refine Eq.trans (Eq.trans (r_go (act := oS (fAld 62 0)) rfl rfl) (a_ald rfl)) ?_
    refine Eq.trans (Eq.trans (r_go (act := oS (fAld 63 0)) rfl rfl) (a_ald rfl)) ?_
    refine Eq.trans (Eq.trans (r_go (act := oS (fGr g 66 12 22)) rfl rfl) (a_gr (zO_72 g) (zR_72_22 g))) ?_
    refine Eq.trans (Eq.trans (r_go (act := oS (fIld 67 1)) rfl rfl) (a_ild rfl)) ?_
    refine Eq.trans (Eq.trans (r_go (act := oS (fIa g 68)) rfl rfl) (a_iaV (zA_84 g) zS_84 rfl)) (bcg ?_ rfl)
    refine Eq.trans (Eq.trans (r_go (act := oCI 71 2 (zcv g 12) (X_X12_keeps g)) rfl rfl) (a_cI rfl (zck (zO_72 g) rfl))) (zbI_cg (fun x3 M3 => ?_))
    refine Eq.trans (Eq.trans (r_go (act := oS (fIs g 72)) rfl rfl) (a_is (zA_84 g) zS_84)) (bcg ?_ rfl)
    refine Eq.trans (Eq.trans (r_go (act := oS (fAld 73 0)) rfl rfl) (a_ald rfl)) ?_
    refine Eq.trans (Eq.trans (r_go (act := oS (fGr g 76 12 23)) rfl rfl) (a_gr (zO_72 g) (zR_72_23 g))) ?_
    refine Eq.trans (Eq.trans (r_go (act := oS (fIld 77 1)) rfl rfl) (a_ild rfl)) ?_
    refine Eq.trans (Eq.trans (r_go (act := oS (fAld 78 0)) rfl rfl) (a_ald rfl)) ?_
    refine Eq.trans (Eq.trans (r_go (act := oS (fAld 79 0)) rfl rfl) (a_ald rfl)) ?_
    refine Eq.trans (Eq.trans (r_go (act := oS (fGr g 82 12 23)) rfl rfl) (a_gr (zO_72 g) (zR_72_23 g))) ?_
    refine Eq.trans (Eq.trans (r_go (act := oS (fIld 83 1)) rfl rfl) (a_ild rfl)) ?_
    refine Eq.trans (Eq.trans (r_go (act := oS (fIa g 84)) rfl rfl) (a_iaV (zA_85 g) zS_85 rfl)) (bcg ?_ rfl)
    refine Eq.trans (Eq.trans (r_go (act := oCI 87 2 (zcv g 12) (X_X12_keeps g)) rfl rfl) (a_cI rfl (zck (zO_72 g) rfl))) (zbI_cg (fun x4 M4 => ?_))
    refine Eq.trans (Eq.trans (r_go (act := oS (fIs g 88)) rfl rfl) (a_is (zA_85 g) zS_85)) (bcg ?_ rfl)
    refine Eq.trans (Eq.trans (r_go (act := oS (fInc 91 1 1)) rfl rfl) (a_inc rfl rfl rfl)) ?_
    refine Eq.trans (Eq.trans (r_go (act := oS (fGo 18)) rfl rfl) (a_goto)) ?_
    exact r_cut rfl rfl
  · refine Eq.trans (Eq.trans (r_go (act := oS (fSt 95 (gC (.int 0)))) rfl rfl) (a_C)) ?_
    refine Eq.trans (Eq.trans (r_go (act := oS (fIst 96 1)) rfl rfl) (a_ist rfl rfl)) ?_
    exact r_cut rfl rfl
set_option maxRecDepth 20000 in
theorem e_X12_keepsLaw_96 (g : zg) (a1 : Int32) (M : zM) : zX (t_X12_keepsLaw g) 96 [some (.ref 72), some (.int a1)] [] M = (bif cLt a1 400 then (bif zb a1 1200 then (zbI (X_X12_keeps g [.ref 72, .int (M.1 86 (zx a1))] M) (fun x1 M1 => (bif zb a1 1200 then (bif zb a1 1200 then (zbI (X_X12_keeps g [.ref 72, .int (M1.1 87 (zx a1))] ((zu M1.1 86 (zx a1) x1), M1.2)) (fun x2 M2 => (bif zb a1 1200 then zX (t_X12_keepsLaw g) 96 [some (.ref 72), some (.int (a1 + 1))] [] ((zu M2.1 87 (zx a1) x2), M2.2) else none))) else none) else none))) else none) else some (none, M)) := by
  refine Eq.trans (zX_rgN (tl_X12_keepsLaw g) (hc_X12_keepsLaw g) 27 _ _ _ _) ?_
  refine Eq.trans (Eq.trans (Eq.trans (r_0 (act := oF [] (oS (fIld 97 1))) rfl) (a_F rfl)) (a_ild rfl)) ?_
  refine Eq.trans (Eq.trans (r_go (act := oS (fSt 100 (gC (.int 400)))) rfl rfl) (a_C)) ?_
  refine Eq.trans (Eq.trans (r_go (act := oS (fCm 103 141 cLt)) rfl rfl) (a_cm)) (bcg ?_ ?_)
  · refine Eq.trans (Eq.trans (r_go (act := oS (fAld 104 0)) rfl rfl) (a_ald rfl)) ?_
    refine Eq.trans (Eq.trans (r_go (act := oS (fGr g 107 12 24)) rfl rfl) (a_gr (zO_72 g) (zR_72_24 g))) ?_
    refine Eq.trans (Eq.trans (r_go (act := oS (fIld 108 1)) rfl rfl) (a_ild rfl)) ?_
    refine Eq.trans (Eq.trans (r_go (act := oS (fAld 109 0)) rfl rfl) (a_ald rfl)) ?_
    refine Eq.trans (Eq.trans (r_go (act := oS (fAld 110 0)) rfl rfl) (a_ald rfl)) ?_
    refine Eq.trans (Eq.trans (r_go (act := oS (fGr g 113 12 24)) rfl rfl) (a_gr (zO_72 g) (zR_72_24 g))) ?_
    refine Eq.trans (Eq.trans (r_go (act := oS (fIld 114 1)) rfl rfl) (a_ild rfl)) ?_
    refine Eq.trans (Eq.trans (r_go (act := oS (fIa g 115)) rfl rfl) (a_ia (zA_86 g) zS_86)) (bcg ?_ rfl)
    refine Eq.trans (Eq.trans (r_go (act := oCI 118 2 (zcv g 12) (X_X12_keeps g)) rfl rfl) (a_cI rfl (zck (zO_72 g) rfl))) (zbI_cg (fun x1 M1 => ?_))
    refine Eq.trans (Eq.trans (r_go (act := oS (fIs g 119)) rfl rfl) (a_is (zA_86 g) zS_86)) (bcg ?_ rfl)
    refine Eq.trans (Eq.trans (r_go (act := oS (fAld 120 0)) rfl rfl) (a_ald rfl)) ?_
    refine Eq.trans (Eq.trans (r_go (act := oS (fGr g 123 12 25)) rfl rfl) (a_gr (zO_72 g) (zR_72_25 g))) ?_
    refine Eq.trans (Eq.trans (r_go (act := oS (fIld 124 1)) rfl rfl) (a_ild rfl)) ?_
    refine Eq.trans (Eq.trans (r_go (act := oS (fAld 125 0)) rfl rfl) (a_ald rfl)) ?_
    refine Eq.trans (Eq.trans (r_go (act := oS (fAld 126 0)) rfl rfl) (a_ald rfl)) ?_
    refine Eq.trans (Eq.trans (r_go (act := oS (fGr g 129 12 25)) rfl rfl) (a_gr (zO_72 g) (zR_72_25 g))) ?_
    refine Eq.trans (Eq.trans (r_go (act := oS (fIld 130 1)) rfl rfl) (a_ild rfl)) ?_
    refine Eq.trans (Eq.trans (r_go (act := oS (fIa g 131)) rfl rfl) (a_iaV (zA_87 g) zS_87 rfl)) (bcg ?_ rfl)
    refine Eq.trans (Eq.trans (r_go (act := oCI 134 2 (zcv g 12) (X_X12_keeps g)) rfl rfl) (a_cI rfl (zck (zO_72 g) rfl))) (zbI_cg (fun x2 M2 => ?_))
    refine Eq.trans (Eq.trans (r_go (act := oS (fIs g 135)) rfl rfl) (a_is (zA_87 g) zS_87)) (bcg ?_ rfl)
    refine Eq.trans (Eq.trans (r_go (act := oS (fInc 138 1 1)) rfl rfl) (a_inc rfl rfl rfl)) ?_
    refine Eq.trans (Eq.trans (r_go (act := oS (fGo 96)) rfl rfl) (a_goto)) ?_
    exact r_cut rfl rfl
  · exact Eq.trans (r_go (act := oVret) rfl rfl) (a_vret)
set_option maxRecDepth 20000 in
theorem e_X12_image_0 (g : zg) (a1 : Int32) (M : zM) : zX (t_X12_image g) 0 [some (.ref 72), some (.int a1), none] [] M = (bif cEq0 a1 then (bif cEq0 (M.1 72 54) then some (some (.int 0), ((zu M.1 72 0 0), M.2)) else (bif cEq (a1 &&& 1) a1 then zX (t_X12_image g) 35 [some (.ref 72), some (.int a1), some (.int 0)] [] ((zu (zu (zu (zu M.1 72 0 0) 72 53 a1) 72 54 1) 72 55 0), M.2) else none)) else (bif cEq (a1 &&& 1) a1 then zX (t_X12_image g) 35 [some (.ref 72), some (.int a1), some (.int 0)] [] ((zu (zu (zu (zu M.1 72 0 0) 72 53 a1) 72 54 1) 72 55 0), M.2) else none)) := by
  refine Eq.trans (zX_rgN (tl_X12_image g) (hc_X12_image g) 21 _ _ _ _) ?_
  refine Eq.trans (Eq.trans (r_0 (act := oS (fAld 1 0)) rfl) (a_ald rfl)) ?_
  refine Eq.trans (Eq.trans (r_go (act := oS (fSt 2 (gC (.int 0)))) rfl rfl) (a_C)) ?_
  refine Eq.trans (Eq.trans (r_go (act := oS (fPi g 5 12 0)) rfl rfl) (a_pi (zO_72 g))) ?_
  refine Eq.trans (Eq.trans (r_go (act := oS (fIld 6 1)) rfl rfl) (a_ild rfl)) ?_
  refine Eq.trans (Eq.trans (r_go (act := oS (fIf 9 18 cEq0)) rfl rfl) (a_if)) (bcg ?_ ?_)
  · refine Eq.trans (Eq.trans (r_go (act := oS (fAld 10 0)) rfl rfl) (a_ald rfl)) ?_
    refine Eq.trans (Eq.trans (r_go (act := oS (fGi g 13 12 54)) rfl rfl) (a_giV (zO_72 g) rfl)) ?_
    refine Eq.trans (Eq.trans (r_go (act := oS (fIf 16 18 cEq0)) rfl rfl) (a_if)) (bcg ?_ ?_)
    · refine Eq.trans (Eq.trans (r_go (act := oS (fSt 17 (gC (.int 0)))) rfl rfl) (a_C)) ?_
      exact Eq.trans (Eq.trans (r_go (act := oZret) rfl rfl) a_zret) (bcT (by decide +kernel))
    · refine Eq.trans (Eq.trans (r_go (act := oS (fAld 19 0)) rfl rfl) (a_ald rfl)) ?_
      refine Eq.trans (Eq.trans (r_go (act := oS (fIld 20 1)) rfl rfl) (a_ild rfl)) ?_
      refine Eq.trans (Eq.trans (r_go (act := oS (fPz g 23 12 53)) rfl rfl) (a_pz (zO_72 g))) (bcg ?_ rfl)
      refine Eq.trans (Eq.trans (r_go (act := oS (fAld 24 0)) rfl rfl) (a_ald rfl)) ?_
      refine Eq.trans (Eq.trans (r_go (act := oS (fSt 25 (gC (.int 1)))) rfl rfl) (a_C)) ?_
      refine Eq.trans (Eq.trans (r_go (act := oS (fPz g 28 12 54)) rfl rfl) (a_pzK (zO_72 g) (by decide +kernel))) ?_
      refine Eq.trans (Eq.trans (r_go (act := oS (fAld 29 0)) rfl rfl) (a_ald rfl)) ?_
      refine Eq.trans (Eq.trans (r_go (act := oS (fSt 30 (gC (.int 0)))) rfl rfl) (a_C)) ?_
      refine Eq.trans (Eq.trans (r_go (act := oS (fPi g 33 12 55)) rfl rfl) (a_pi (zO_72 g))) ?_
      refine Eq.trans (Eq.trans (r_go (act := oS (fSt 34 (gC (.int 0)))) rfl rfl) (a_C)) ?_
      refine Eq.trans (Eq.trans (r_go (act := oS (fIst 35 2)) rfl rfl) (a_ist rfl rfl)) ?_
      exact r_cut rfl rfl
  · refine Eq.trans (Eq.trans (r_go (act := oS (fAld 19 0)) rfl rfl) (a_ald rfl)) ?_
    refine Eq.trans (Eq.trans (r_go (act := oS (fIld 20 1)) rfl rfl) (a_ild rfl)) ?_
    refine Eq.trans (Eq.trans (r_go (act := oS (fPz g 23 12 53)) rfl rfl) (a_pz (zO_72 g))) (bcg ?_ rfl)
    refine Eq.trans (Eq.trans (r_go (act := oS (fAld 24 0)) rfl rfl) (a_ald rfl)) ?_
    refine Eq.trans (Eq.trans (r_go (act := oS (fSt 25 (gC (.int 1)))) rfl rfl) (a_C)) ?_
    refine Eq.trans (Eq.trans (r_go (act := oS (fPz g 28 12 54)) rfl rfl) (a_pzK (zO_72 g) (by decide +kernel))) ?_
    refine Eq.trans (Eq.trans (r_go (act := oS (fAld 29 0)) rfl rfl) (a_ald rfl)) ?_
    refine Eq.trans (Eq.trans (r_go (act := oS (fSt 30 (gC (.int 0)))) rfl rfl) (a_C)) ?_
    refine Eq.trans (Eq.trans (r_go (act := oS (fPi g 33 12 55)) rfl rfl) (a_pi (zO_72 g))) ?_
    refine Eq.trans (Eq.trans (r_go (act := oS (fSt 34 (gC (.int 0)))) rfl rfl) (a_C)) ?_
    refine Eq.trans (Eq.trans (r_go (act := oS (fIst 35 2)) rfl rfl) (a_ist rfl rfl)) ?_
    exact r_cut rfl rfl
theorem x_X12_image_0 (g : zg) (a1 : Int32) (M : zM) : X_X12_image g [.ref 72, .int a1] M = (bif cEq0 a1 then (bif cEq0 (M.1 72 54) then some (some (.int 0), ((zu M.1 72 0 0), M.2)) else (bif cEq (a1 &&& 1) a1 then zX (t_X12_image g) 35 [some (.ref 72), some (.int a1), some (.int 0)] [] ((zu (zu (zu (zu M.1 72 0 0) 72 53 a1) 72 54 1) 72 55 0), M.2) else none)) else (bif cEq (a1 &&& 1) a1 then zX (t_X12_image g) 35 [some (.ref 72), some (.int a1), some (.int 0)] [] ((zu (zu (zu (zu M.1 72 0 0) 72 53 a1) 72 54 1) 72 55 0), M.2) else none)) := e_X12_image_0 g a1 M
set_option maxRecDepth 20000 in
theorem e_X12_image_35 (g : zg) (a1 : Int32) (a2 : Int32) (M : zM) : zX (t_X12_image g) 35 [some (.ref 72), some (.int a1), some (.int a2)] [] M = (bif cLt a2 148 then (bif zb a2 148 then (zbI (X_X12_keeps g [.ref 72, .int (M.1 73 (zx a2))] M) (fun x1 M1 => (bif zb a2 148 then zX (t_X12_image g) 35 [some (.ref 72), some (.int a1), some (.int (a2 + 1))] [] ((zu M1.1 73 (zx a2) x1), M1.2) else none))) else none) else (zbV (X_X12_keepsTold g [.ref 72] M) (fun M2 => zX (t_X12_image g) 70 [some (.ref 72), some (.int a1), some (.int 0)] [] M2))) := by
  refine Eq.trans (zX_rgN (tl_X12_image g) (hc_X12_image g) 17 _ _ _ _) ?_
  refine Eq.trans (Eq.trans (Eq.trans (r_0 (act := oF [] (oS (fIld 36 2))) rfl) (a_F rfl)) (a_ild rfl)) ?_
  refine Eq.trans (Eq.trans (r_go (act := oS (fSt 39 (gC (.int 148)))) rfl rfl) (a_C)) ?_
  refine Eq.trans (Eq.trans (r_go (act := oS (fCm 42 64 cLt)) rfl rfl) (a_cm)) (bcg ?_ ?_)
  · refine Eq.trans (Eq.trans (r_go (act := oS (fAld 43 0)) rfl rfl) (a_ald rfl)) ?_
    refine Eq.trans (Eq.trans (r_go (act := oS (fGr g 46 12 1)) rfl rfl) (a_gr (zO_72 g) (zR_72_1 g))) ?_
    refine Eq.trans (Eq.trans (r_go (act := oS (fIld 47 2)) rfl rfl) (a_ild rfl)) ?_
    refine Eq.trans (Eq.trans (r_go (act := oS (fAld 48 0)) rfl rfl) (a_ald rfl)) ?_
    refine Eq.trans (Eq.trans (r_go (act := oS (fAld 49 0)) rfl rfl) (a_ald rfl)) ?_
    refine Eq.trans (Eq.trans (r_go (act := oS (fGr g 52 12 1)) rfl rfl) (a_gr (zO_72 g) (zR_72_1 g))) ?_
    refine Eq.trans (Eq.trans (r_go (act := oS (fIld 53 2)) rfl rfl) (a_ild rfl)) ?_
    refine Eq.trans (Eq.trans (r_go (act := oS (fIa g 54)) rfl rfl) (a_ia (zA_73 g) zS_73)) (bcg ?_ rfl)
    refine Eq.trans (Eq.trans (r_go (act := oCI 57 2 (zcv g 12) (X_X12_keeps g)) rfl rfl) (a_cI rfl (zck (zO_72 g) rfl))) (zbI_cg (fun x1 M1 => ?_))
    refine Eq.trans (Eq.trans (r_go (act := oS (fIs g 58)) rfl rfl) (a_is (zA_73 g) zS_73)) (bcg ?_ rfl)
    refine Eq.trans (Eq.trans (r_go (act := oS (fInc 61 2 1)) rfl rfl) (a_inc rfl rfl rfl)) ?_
    refine Eq.trans (Eq.trans (r_go (act := oS (fGo 35)) rfl rfl) (a_goto)) ?_
    exact r_cut rfl rfl
  · refine Eq.trans (Eq.trans (r_go (act := oS (fAld 65 0)) rfl rfl) (a_ald rfl)) ?_
    refine Eq.trans (Eq.trans (r_go (act := oCV 68 1 (zcv g 12) (X_X12_keepsTold g)) rfl rfl) (a_cV rfl (zck (zO_72 g) rfl))) (zbV_cg (fun M2 => ?_))
    refine Eq.trans (Eq.trans (r_go (act := oS (fSt 69 (gC (.int 0)))) rfl rfl) (a_C)) ?_
    refine Eq.trans (Eq.trans (r_go (act := oS (fIst 70 2)) rfl rfl) (a_ist rfl rfl)) ?_
    exact r_cut rfl rfl
set_option maxRecDepth 20000 in
theorem e_X12_image_70 (g : zg) (a1 : Int32) (a2 : Int32) (M : zM) : zX (t_X12_image g) 70 [some (.ref 72), some (.int a1), some (.int a2)] [] M = (bif cLt a2 600 then (bif zb a2 600 then (zbI (X_X12_keeps g [.ref 72, .int (M.1 78 (zx a2))] M) (fun x1 M1 => (bif zb a2 600 then zX (t_X12_image g) 70 [some (.ref 72), some (.int a1), some (.int (a2 + 1))] [] ((zu M1.1 78 (zx a2) x1), M1.2) else none))) else none) else (zbV (X_X12_keepsLaw g [.ref 72] M) (fun M2 => (bif cEq0 a1 then some (some (.int 1), ((zu M2.1 72 3 0), M2.2)) else some (some (.int 1), M2))))) := by
  refine Eq.trans (zX_rgN (tl_X12_image g) (hc_X12_image g) 17 _ _ _ _) ?_
  refine Eq.trans (Eq.trans (Eq.trans (r_0 (act := oF [] (oS (fIld 71 2))) rfl) (a_F rfl)) (a_ild rfl)) ?_
  refine Eq.trans (Eq.trans (r_go (act := oS (fSt 74 (gC (.int 600)))) rfl rfl) (a_C)) ?_
  refine Eq.trans (Eq.trans (r_go (act := oS (fCm 77 99 cLt)) rfl rfl) (a_cm)) (bcg ?_ ?_)
  · refine Eq.trans (Eq.trans (r_go (act := oS (fAld 78 0)) rfl rfl) (a_ald rfl)) ?_
    refine Eq.trans (Eq.trans (r_go (act := oS (fGr g 81 12 11)) rfl rfl) (a_gr (zO_72 g) (zR_72_11 g))) ?_
    refine Eq.trans (Eq.trans (r_go (act := oS (fIld 82 2)) rfl rfl) (a_ild rfl)) ?_
    refine Eq.trans (Eq.trans (r_go (act := oS (fAld 83 0)) rfl rfl) (a_ald rfl)) ?_
    refine Eq.trans (Eq.trans (r_go (act := oS (fAld 84 0)) rfl rfl) (a_ald rfl)) ?_
    refine Eq.trans (Eq.trans (r_go (act := oS (fGr g 87 12 11)) rfl rfl) (a_gr (zO_72 g) (zR_72_11 g))) ?_
    refine Eq.trans (Eq.trans (r_go (act := oS (fIld 88 2)) rfl rfl) (a_ild rfl)) ?_
    refine Eq.trans (Eq.trans (r_go (act := oS (fIa g 89)) rfl rfl) (a_ia (zA_78 g) zS_78)) (bcg ?_ rfl)
    refine Eq.trans (Eq.trans (r_go (act := oCI 92 2 (zcv g 12) (X_X12_keeps g)) rfl rfl) (a_cI rfl (zck (zO_72 g) rfl))) (zbI_cg (fun x1 M1 => ?_))
    refine Eq.trans (Eq.trans (r_go (act := oS (fIs g 93)) rfl rfl) (a_is (zA_78 g) zS_78)) (bcg ?_ rfl)
    refine Eq.trans (Eq.trans (r_go (act := oS (fInc 96 2 1)) rfl rfl) (a_inc rfl rfl rfl)) ?_
    refine Eq.trans (Eq.trans (r_go (act := oS (fGo 70)) rfl rfl) (a_goto)) ?_
    exact r_cut rfl rfl
  · refine Eq.trans (Eq.trans (r_go (act := oS (fAld 100 0)) rfl rfl) (a_ald rfl)) ?_
    refine Eq.trans (Eq.trans (r_go (act := oCV 103 1 (zcv g 12) (X_X12_keepsLaw g)) rfl rfl) (a_cV rfl (zck (zO_72 g) rfl))) (zbV_cg (fun M2 => ?_))
    refine Eq.trans (Eq.trans (r_go (act := oS (fIld 104 1)) rfl rfl) (a_ild rfl)) ?_
    refine Eq.trans (Eq.trans (r_go (act := oS (fIf 107 112 cEq0)) rfl rfl) (a_if)) (bcg ?_ ?_)
    · refine Eq.trans (Eq.trans (r_go (act := oS (fAld 108 0)) rfl rfl) (a_ald rfl)) ?_
      refine Eq.trans (Eq.trans (r_go (act := oS (fSt 109 (gC (.int 0)))) rfl rfl) (a_C)) ?_
      refine Eq.trans (Eq.trans (r_go (act := oS (fPi g 112 12 3)) rfl rfl) (a_pi (zO_72 g))) ?_
      refine Eq.trans (Eq.trans (r_go (act := oS (fSt 113 (gC (.int 1)))) rfl rfl) (a_C)) ?_
      exact Eq.trans (Eq.trans (r_go (act := oZret) rfl rfl) a_zret) (bcT (by decide +kernel))
    · refine Eq.trans (Eq.trans (r_go (act := oS (fSt 113 (gC (.int 1)))) rfl rfl) (a_C)) ?_
      exact Eq.trans (Eq.trans (r_go (act := oZret) rfl rfl) a_zret) (bcT (by decide +kernel))
set_option maxRecDepth 20000 in
theorem e_X12_look_0 (g : zg) (a1 : Int32) (M : zM) : zX (t_X12_look g) 0 [some (.ref 72), some (.int a1)] [] M = (bif cEq0 a1 then some (some (.int (M.1 72 6)), ((zu M.1 72 0 0), M.2)) else (bif cEq a1 1 then some (some (.int (M.1 73 0)), ((zu M.1 72 0 0), M.2)) else (bif cEq a1 2 then (zbI (X_X12_glass g [.ref 72] ((zu M.1 72 0 0), M.2)) (fun x1 M1 => some (some (.int x1), M1))) else (bif cEq a1 3 then (zbI (X_X12_glass g [.ref 72] ((zu M.1 72 0 0), M.2)) (fun x2 M2 => (zbI (X_X12_kindOf g [.ref 72, .int x2] M2) (fun x3 M3 => some (some (.int x3), M3))))) else (bif cEq a1 4 then (zbI (X_X12_minister g [.ref 72] ((zu M.1 72 0 0), M.2)) (fun x4 M4 => some (some (.int x4), M4))) else (bif cEq a1 5 then some (some (.int (M.1 73 5)), ((zu M.1 72 0 0), M.2)) else (bif cEq a1 6 then some (some (.int (M.1 73 6)), ((zu M.1 72 0 0), M.2)) else (bif cEq a1 7 then some (some (.int (M.1 72 7)), ((zu M.1 72 0 0), M.2)) else (bif cEq a1 8 then (zbI (X_X12_falls g [.ref 72] ((zu M.1 72 0 0), M.2)) (fun x5 M5 => some (some (.int x5), M5))) else (bif cEq a1 9 then some (some (.int (M.1 73 2)), ((zu M.1 72 0 0), M.2)) else (bif cEq a1 10 then some (some (.int (M.1 73 1)), ((zu M.1 72 0 0), M.2)) else (bif cEq a1 11 then some (some (.int (M.1 81 0)), ((zu M.1 72 0 0), M.2)) else (bif cEq a1 12 then some (some (.int (M.1 72 35)), ((zu M.1 72 0 0), M.2)) else (bif cEq a1 13 then some (some (.int (M.1 72 37)), ((zu M.1 72 0 0), M.2)) else (bif cEq a1 14 then some (some (.int (M.1 72 43)), ((zu M.1 72 0 0), M.2)) else (bif cEq a1 15 then some (some (.int (M.1 72 45)), ((zu M.1 72 0 0), M.2)) else (bif cEq a1 16 then some (some (.int (M.1 72 47)), ((zu M.1 72 0 0), M.2)) else (bif cEq a1 17 then some (some (.int (M.1 72 3)), ((zu M.1 72 0 0), M.2)) else (bif cEq a1 18 then some (some (.int (M.1 73 7)), ((zu M.1 72 0 0), M.2)) else some (some (.int (-100000)), ((zu M.1 72 0 0), M.2))))))))))))))))))))) := by
  refine Eq.trans (zX_rgN (tl_X12_look g) (hc_X12_look g) 66 _ _ _ _) ?_
  refine Eq.trans (Eq.trans (r_0 (act := oS (fAld 1 0)) rfl) (a_ald rfl)) ?_
  refine Eq.trans (Eq.trans (r_go (act := oS (fSt 2 (gC (.int 0)))) rfl rfl) (a_C)) ?_
  refine Eq.trans (Eq.trans (r_go (act := oS (fPi g 5 12 0)) rfl rfl) (a_pi (zO_72 g))) ?_
  refine Eq.trans (Eq.trans (r_go (act := oS (fIld 6 1)) rfl rfl) (a_ild rfl)) ?_
  refine Eq.trans (Eq.trans (r_go (act := oS (fIf 9 14 cEq0)) rfl rfl) (a_if)) (bcg ?_ ?_)
  · refine Eq.trans (Eq.trans (r_go (act := oS (fAld 10 0)) rfl rfl) (a_ald rfl)) ?_
    refine Eq.trans (Eq.trans (r_go (act := oS (fGi g 13 12 6)) rfl rfl) (a_giV (zO_72 g) rfl)) ?_
    exact Eq.trans (r_go (act := oIret) rfl rfl) (a_iret)
  · refine Eq.trans (Eq.trans (r_go (act := oS (fIld 15 1)) rfl rfl) (a_ild rfl)) ?_
    refine Eq.trans (Eq.trans (r_go (act := oS (fSt 16 (gC (.int 1)))) rfl rfl) (a_C)) ?_
    refine Eq.trans (Eq.trans (r_go (act := oS (fCm 19 26 cEq)) rfl rfl) (a_cm)) (bcg ?_ ?_)
    · refine Eq.trans (Eq.trans (r_go (act := oS (fAld 20 0)) rfl rfl) (a_ald rfl)) ?_
      refine Eq.trans (Eq.trans (r_go (act := oS (fGr g 23 12 1)) rfl rfl) (a_gr (zO_72 g) (zR_72_1 g))) ?_
      refine Eq.trans (Eq.trans (r_go (act := oS (fSt 24 (gC (.int 0)))) rfl rfl) (a_C)) ?_
      refine Eq.trans (Eq.trans (r_go (act := oS (fIa g 25)) rfl rfl) (a_iaKV (j := 0) (zA_73 g) zS_73 (by decide +kernel) (by decide +kernel) rfl)) ?_
      exact Eq.trans (r_go (act := oIret) rfl rfl) (a_iret)
    · refine Eq.trans (Eq.trans (r_go (act := oS (fIld 27 1)) rfl rfl) (a_ild rfl)) ?_
      refine Eq.trans (Eq.trans (r_go (act := oS (fSt 28 (gC (.int 2)))) rfl rfl) (a_C)) ?_
      refine Eq.trans (Eq.trans (r_go (act := oS (fCm 31 36 cEq)) rfl rfl) (a_cm)) (bcg ?_ ?_)
      · refine Eq.trans (Eq.trans (r_go (act := oS (fAld 32 0)) rfl rfl) (a_ald rfl)) ?_
        refine Eq.trans (Eq.trans (r_go (act := oCI 35 1 (zcv g 12) (X_X12_glass g)) rfl rfl) (a_cI rfl (zck (zO_72 g) rfl))) (zbI_cg (fun x1 M1 => ?_))
        exact Eq.trans (r_go (act := oIret) rfl rfl) (a_iret)
      · refine Eq.trans (Eq.trans (r_go (act := oS (fIld 37 1)) rfl rfl) (a_ild rfl)) ?_
        refine Eq.trans (Eq.trans (r_go (act := oS (fSt 38 (gC (.int 3)))) rfl rfl) (a_C)) ?_
        refine Eq.trans (Eq.trans (r_go (act := oS (fCm 41 50 cEq)) rfl rfl) (a_cm)) (bcg ?_ ?_)
        · refine Eq.trans (Eq.trans (r_go (act := oS (fAld 42 0)) rfl rfl) (a_ald rfl)) ?_
          refine Eq.trans (Eq.trans (r_go (act := oS (fAld 43 0)) rfl rfl) (a_ald rfl)) ?_
          refine Eq.trans (Eq.trans (r_go (act := oCI 46 1 (zcv g 12) (X_X12_glass g)) rfl rfl) (a_cI rfl (zck (zO_72 g) rfl))) (zbI_cg (fun x2 M2 => ?_))
          refine Eq.trans (Eq.trans (r_go (act := oCI 49 2 (zcv g 12) (X_X12_kindOf g)) rfl rfl) (a_cI rfl (zck (zO_72 g) rfl))) (zbI_cg (fun x3 M3 => ?_))
          exact Eq.trans (r_go (act := oIret) rfl rfl) (a_iret)
        · refine Eq.trans (Eq.trans (r_go (act := oS (fIld 51 1)) rfl rfl) (a_ild rfl)) ?_
          refine Eq.trans (Eq.trans (r_go (act := oS (fSt 52 (gC (.int 4)))) rfl rfl) (a_C)) ?_
          refine Eq.trans (Eq.trans (r_go (act := oS (fCm 55 60 cEq)) rfl rfl) (a_cm)) (bcg ?_ ?_)
          · refine Eq.trans (Eq.trans (r_go (act := oS (fAld 56 0)) rfl rfl) (a_ald rfl)) ?_
            refine Eq.trans (Eq.trans (r_go (act := oCI 59 1 (zcv g 12) (X_X12_minister g)) rfl rfl) (a_cI rfl (zck (zO_72 g) rfl))) (zbI_cg (fun x4 M4 => ?_))
            exact Eq.trans (r_go (act := oIret) rfl rfl) (a_iret)
          · refine Eq.trans (Eq.trans (r_go (act := oS (fIld 61 1)) rfl rfl) (a_ild rfl)) ?_
            refine Eq.trans (Eq.trans (r_go (act := oS (fSt 62 (gC (.int 5)))) rfl rfl) (a_C)) ?_
            refine Eq.trans (Eq.trans (r_go (act := oS (fCm 65 72 cEq)) rfl rfl) (a_cm)) (bcg ?_ ?_)
            · refine Eq.trans (Eq.trans (r_go (act := oS (fAld 66 0)) rfl rfl) (a_ald rfl)) ?_
              refine Eq.trans (Eq.trans (r_go (act := oS (fGr g 69 12 1)) rfl rfl) (a_gr (zO_72 g) (zR_72_1 g))) ?_
              refine Eq.trans (Eq.trans (r_go (act := oS (fSt 70 (gC (.int 5)))) rfl rfl) (a_C)) ?_
              refine Eq.trans (Eq.trans (r_go (act := oS (fIa g 71)) rfl rfl) (a_iaKV (j := 5) (zA_73 g) zS_73 (by decide +kernel) (by decide +kernel) rfl)) ?_
              exact Eq.trans (r_go (act := oIret) rfl rfl) (a_iret)
            · refine Eq.trans (Eq.trans (r_go (act := oS (fIld 73 1)) rfl rfl) (a_ild rfl)) ?_
              refine Eq.trans (Eq.trans (r_go (act := oS (fSt 75 (gC (.int 6)))) rfl rfl) (a_C)) ?_
              refine Eq.trans (Eq.trans (r_go (act := oS (fCm 78 86 cEq)) rfl rfl) (a_cm)) (bcg ?_ ?_)
              · refine Eq.trans (Eq.trans (r_go (act := oS (fAld 79 0)) rfl rfl) (a_ald rfl)) ?_
                refine Eq.trans (Eq.trans (r_go (act := oS (fGr g 82 12 1)) rfl rfl) (a_gr (zO_72 g) (zR_72_1 g))) ?_
                refine Eq.trans (Eq.trans (r_go (act := oS (fSt 84 (gC (.int 6)))) rfl rfl) (a_C)) ?_
                refine Eq.trans (Eq.trans (r_go (act := oS (fIa g 85)) rfl rfl) (a_iaKV (j := 6) (zA_73 g) zS_73 (by decide +kernel) (by decide +kernel) rfl)) ?_
                exact Eq.trans (r_go (act := oIret) rfl rfl) (a_iret)
              · refine Eq.trans (Eq.trans (r_go (act := oS (fIld 87 1)) rfl rfl) (a_ild rfl)) ?_
                refine Eq.trans (Eq.trans (r_go (act := oS (fSt 89 (gC (.int 7)))) rfl rfl) (a_C)) ?_
                refine Eq.trans (Eq.trans (r_go (act := oS (fCm 92 97 cEq)) rfl rfl) (a_cm)) (bcg ?_ ?_)
                · refine Eq.trans (Eq.trans (r_go (act := oS (fAld 93 0)) rfl rfl) (a_ald rfl)) ?_
                  refine Eq.trans (Eq.trans (r_go (act := oS (fGi g 96 12 7)) rfl rfl) (a_giV (zO_72 g) rfl)) ?_
                  exact Eq.trans (r_go (act := oIret) rfl rfl) (a_iret)
                · refine Eq.trans (Eq.trans (r_go (act := oS (fIld 98 1)) rfl rfl) (a_ild rfl)) ?_
                  refine Eq.trans (Eq.trans (r_go (act := oS (fSt 100 (gC (.int 8)))) rfl rfl) (a_C)) ?_
                  refine Eq.trans (Eq.trans (r_go (act := oS (fCm 103 108 cEq)) rfl rfl) (a_cm)) (bcg ?_ ?_)
                  · refine Eq.trans (Eq.trans (r_go (act := oS (fAld 104 0)) rfl rfl) (a_ald rfl)) ?_
                    refine Eq.trans (Eq.trans (r_go (act := oCI 107 1 (zcv g 12) (X_X12_falls g)) rfl rfl) (a_cI rfl (zck (zO_72 g) rfl))) (zbI_cg (fun x5 M5 => ?_))
                    exact Eq.trans (r_go (act := oIret) rfl rfl) (a_iret)
                  · refine Eq.trans (Eq.trans (r_go (act := oS (fIld 109 1)) rfl rfl) (a_ild rfl)) ?_
                    refine Eq.trans (Eq.trans (r_go (act := oS (fSt 111 (gC (.int 9)))) rfl rfl) (a_C)) ?_
                    refine Eq.trans (Eq.trans (r_go (act := oS (fCm 114 121 cEq)) rfl rfl) (a_cm)) (bcg ?_ ?_)
                    · refine Eq.trans (Eq.trans (r_go (act := oS (fAld 115 0)) rfl rfl) (a_ald rfl)) ?_
                      refine Eq.trans (Eq.trans (r_go (act := oS (fGr g 118 12 1)) rfl rfl) (a_gr (zO_72 g) (zR_72_1 g))) ?_
                      refine Eq.trans (Eq.trans (r_go (act := oS (fSt 119 (gC (.int 2)))) rfl rfl) (a_C)) ?_
                      refine Eq.trans (Eq.trans (r_go (act := oS (fIa g 120)) rfl rfl) (a_iaKV (j := 2) (zA_73 g) zS_73 (by decide +kernel) (by decide +kernel) rfl)) ?_
                      exact Eq.trans (r_go (act := oIret) rfl rfl) (a_iret)
                    · refine Eq.trans (Eq.trans (r_go (act := oS (fIld 122 1)) rfl rfl) (a_ild rfl)) ?_
                      refine Eq.trans (Eq.trans (r_go (act := oS (fSt 124 (gC (.int 10)))) rfl rfl) (a_C)) ?_
                      refine Eq.trans (Eq.trans (r_go (act := oS (fCm 127 134 cEq)) rfl rfl) (a_cm)) (bcg ?_ ?_)
                      · refine Eq.trans (Eq.trans (r_go (act := oS (fAld 128 0)) rfl rfl) (a_ald rfl)) ?_
                        refine Eq.trans (Eq.trans (r_go (act := oS (fGr g 131 12 1)) rfl rfl) (a_gr (zO_72 g) (zR_72_1 g))) ?_
                        refine Eq.trans (Eq.trans (r_go (act := oS (fSt 132 (gC (.int 1)))) rfl rfl) (a_C)) ?_
                        refine Eq.trans (Eq.trans (r_go (act := oS (fIa g 133)) rfl rfl) (a_iaKV (j := 1) (zA_73 g) zS_73 (by decide +kernel) (by decide +kernel) rfl)) ?_
                        exact Eq.trans (r_go (act := oIret) rfl rfl) (a_iret)
                      · refine Eq.trans (Eq.trans (r_go (act := oS (fIld 135 1)) rfl rfl) (a_ild rfl)) ?_
                        refine Eq.trans (Eq.trans (r_go (act := oS (fSt 137 (gC (.int 11)))) rfl rfl) (a_C)) ?_
                        refine Eq.trans (Eq.trans (r_go (act := oS (fCm 140 147 cEq)) rfl rfl) (a_cm)) (bcg ?_ ?_)
                        · refine Eq.trans (Eq.trans (r_go (act := oS (fAld 141 0)) rfl rfl) (a_ald rfl)) ?_
                          refine Eq.trans (Eq.trans (r_go (act := oS (fGr g 144 12 19)) rfl rfl) (a_gr (zO_72 g) (zR_72_19 g))) ?_
                          refine Eq.trans (Eq.trans (r_go (act := oS (fSt 145 (gC (.int 0)))) rfl rfl) (a_C)) ?_
                          refine Eq.trans (Eq.trans (r_go (act := oS (fIa g 146)) rfl rfl) (a_iaKV (j := 0) (zA_81 g) zS_81 (by decide +kernel) (by decide +kernel) rfl)) ?_
                          exact Eq.trans (r_go (act := oIret) rfl rfl) (a_iret)
                        · refine Eq.trans (Eq.trans (r_go (act := oS (fIld 148 1)) rfl rfl) (a_ild rfl)) ?_
                          refine Eq.trans (Eq.trans (r_go (act := oS (fSt 150 (gC (.int 12)))) rfl rfl) (a_C)) ?_
                          refine Eq.trans (Eq.trans (r_go (act := oS (fCm 153 158 cEq)) rfl rfl) (a_cm)) (bcg ?_ ?_)
                          · refine Eq.trans (Eq.trans (r_go (act := oS (fAld 154 0)) rfl rfl) (a_ald rfl)) ?_
                            refine Eq.trans (Eq.trans (r_go (act := oS (fGi g 157 12 35)) rfl rfl) (a_giV (zO_72 g) rfl)) ?_
                            exact Eq.trans (r_go (act := oIret) rfl rfl) (a_iret)
                          · refine Eq.trans (Eq.trans (r_go (act := oS (fIld 159 1)) rfl rfl) (a_ild rfl)) ?_
                            refine Eq.trans (Eq.trans (r_go (act := oS (fSt 161 (gC (.int 13)))) rfl rfl) (a_C)) ?_
                            refine Eq.trans (Eq.trans (r_go (act := oS (fCm 164 169 cEq)) rfl rfl) (a_cm)) (bcg ?_ ?_)
                            · refine Eq.trans (Eq.trans (r_go (act := oS (fAld 165 0)) rfl rfl) (a_ald rfl)) ?_
                              refine Eq.trans (Eq.trans (r_go (act := oS (fGi g 168 12 37)) rfl rfl) (a_giV (zO_72 g) rfl)) ?_
                              exact Eq.trans (r_go (act := oIret) rfl rfl) (a_iret)
                            · refine Eq.trans (Eq.trans (r_go (act := oS (fIld 170 1)) rfl rfl) (a_ild rfl)) ?_
                              refine Eq.trans (Eq.trans (r_go (act := oS (fSt 172 (gC (.int 14)))) rfl rfl) (a_C)) ?_
                              refine Eq.trans (Eq.trans (r_go (act := oS (fCm 175 180 cEq)) rfl rfl) (a_cm)) (bcg ?_ ?_)
                              · refine Eq.trans (Eq.trans (r_go (act := oS (fAld 176 0)) rfl rfl) (a_ald rfl)) ?_
                                refine Eq.trans (Eq.trans (r_go (act := oS (fGi g 179 12 43)) rfl rfl) (a_giV (zO_72 g) rfl)) ?_
                                exact Eq.trans (r_go (act := oIret) rfl rfl) (a_iret)
                              · refine Eq.trans (Eq.trans (r_go (act := oS (fIld 181 1)) rfl rfl) (a_ild rfl)) ?_
                                refine Eq.trans (Eq.trans (r_go (act := oS (fSt 183 (gC (.int 15)))) rfl rfl) (a_C)) ?_
                                refine Eq.trans (Eq.trans (r_go (act := oS (fCm 186 191 cEq)) rfl rfl) (a_cm)) (bcg ?_ ?_)
                                · refine Eq.trans (Eq.trans (r_go (act := oS (fAld 187 0)) rfl rfl) (a_ald rfl)) ?_
                                  refine Eq.trans (Eq.trans (r_go (act := oS (fGi g 190 12 45)) rfl rfl) (a_giV (zO_72 g) rfl)) ?_
                                  exact Eq.trans (r_go (act := oIret) rfl rfl) (a_iret)
                                · refine Eq.trans (Eq.trans (r_go (act := oS (fIld 192 1)) rfl rfl) (a_ild rfl)) ?_
                                  refine Eq.trans (Eq.trans (r_go (act := oS (fSt 194 (gC (.int 16)))) rfl rfl) (a_C)) ?_
                                  refine Eq.trans (Eq.trans (r_go (act := oS (fCm 197 202 cEq)) rfl rfl) (a_cm)) (bcg ?_ ?_)
                                  · refine Eq.trans (Eq.trans (r_go (act := oS (fAld 198 0)) rfl rfl) (a_ald rfl)) ?_
                                    refine Eq.trans (Eq.trans (r_go (act := oS (fGi g 201 12 47)) rfl rfl) (a_giV (zO_72 g) rfl)) ?_
                                    exact Eq.trans (r_go (act := oIret) rfl rfl) (a_iret)
                                  · refine Eq.trans (Eq.trans (r_go (act := oS (fIld 203 1)) rfl rfl) (a_ild rfl)) ?_
                                    refine Eq.trans (Eq.trans (r_go (act := oS (fSt 205 (gC (.int 17)))) rfl rfl) (a_C)) ?_
                                    refine Eq.trans (Eq.trans (r_go (act := oS (fCm 208 215 cEq)) rfl rfl) (a_cm)) (bcg ?_ ?_)
                                    · refine Eq.trans (Eq.trans (r_go (act := oS (fAld 209 0)) rfl rfl) (a_ald rfl)) ?_
                                      refine Eq.trans (Eq.trans (r_go (act := oS (fGi g 212 12 3)) rfl rfl) (a_giV (zO_72 g) rfl)) ?_
                                      refine Eq.trans (Eq.trans (r_go (act := oS (fGo 234)) rfl rfl) (a_goto)) ?_
                                      exact Eq.trans (r_go (act := oIret) rfl rfl) (a_iret)
                                    · refine Eq.trans (Eq.trans (r_go (act := oS (fIld 216 1)) rfl rfl) (a_ild rfl)) ?_
                                      refine Eq.trans (Eq.trans (r_go (act := oS (fSt 218 (gC (.int 18)))) rfl rfl) (a_C)) ?_
                                      refine Eq.trans (Eq.trans (r_go (act := oS (fCm 221 231 cEq)) rfl rfl) (a_cm)) (bcg ?_ ?_)
                                      · refine Eq.trans (Eq.trans (r_go (act := oS (fAld 222 0)) rfl rfl) (a_ald rfl)) ?_
                                        refine Eq.trans (Eq.trans (r_go (act := oS (fGr g 225 12 1)) rfl rfl) (a_gr (zO_72 g) (zR_72_1 g))) ?_
                                        refine Eq.trans (Eq.trans (r_go (act := oS (fSt 227 (gC (.int 7)))) rfl rfl) (a_C)) ?_
                                        refine Eq.trans (Eq.trans (r_go (act := oS (fIa g 228)) rfl rfl) (a_iaKV (j := 7) (zA_73 g) zS_73 (by decide +kernel) (by decide +kernel) rfl)) ?_
                                        refine Eq.trans (Eq.trans (r_go (act := oS (fGo 234)) rfl rfl) (a_goto)) ?_
                                        exact Eq.trans (r_go (act := oIret) rfl rfl) (a_iret)
                                      · refine Eq.trans (Eq.trans (r_go (act := oS (fSt 234 (gC (.int (-100000))))) rfl rfl) (a_C)) ?_
                                        exact Eq.trans (r_go (act := oIret) rfl rfl) (a_iret)
theorem x_X12_look_0 (g : zg) (a1 : Int32) (M : zM) : X_X12_look g [.ref 72, .int a1] M = (bif cEq0 a1 then some (some (.int (M.1 72 6)), ((zu M.1 72 0 0), M.2)) else (bif cEq a1 1 then some (some (.int (M.1 73 0)), ((zu M.1 72 0 0), M.2)) else (bif cEq a1 2 then (zbI (X_X12_glass g [.ref 72] ((zu M.1 72 0 0), M.2)) (fun x1 M1 => some (some (.int x1), M1))) else (bif cEq a1 3 then (zbI (X_X12_glass g [.ref 72] ((zu M.1 72 0 0), M.2)) (fun x2 M2 => (zbI (X_X12_kindOf g [.ref 72, .int x2] M2) (fun x3 M3 => some (some (.int x3), M3))))) else (bif cEq a1 4 then (zbI (X_X12_minister g [.ref 72] ((zu M.1 72 0 0), M.2)) (fun x4 M4 => some (some (.int x4), M4))) else (bif cEq a1 5 then some (some (.int (M.1 73 5)), ((zu M.1 72 0 0), M.2)) else (bif cEq a1 6 then some (some (.int (M.1 73 6)), ((zu M.1 72 0 0), M.2)) else (bif cEq a1 7 then some (some (.int (M.1 72 7)), ((zu M.1 72 0 0), M.2)) else (bif cEq a1 8 then (zbI (X_X12_falls g [.ref 72] ((zu M.1 72 0 0), M.2)) (fun x5 M5 => some (some (.int x5), M5))) else (bif cEq a1 9 then some (some (.int (M.1 73 2)), ((zu M.1 72 0 0), M.2)) else (bif cEq a1 10 then some (some (.int (M.1 73 1)), ((zu M.1 72 0 0), M.2)) else (bif cEq a1 11 then some (some (.int (M.1 81 0)), ((zu M.1 72 0 0), M.2)) else (bif cEq a1 12 then some (some (.int (M.1 72 35)), ((zu M.1 72 0 0), M.2)) else (bif cEq a1 13 then some (some (.int (M.1 72 37)), ((zu M.1 72 0 0), M.2)) else (bif cEq a1 14 then some (some (.int (M.1 72 43)), ((zu M.1 72 0 0), M.2)) else (bif cEq a1 15 then some (some (.int (M.1 72 45)), ((zu M.1 72 0 0), M.2)) else (bif cEq a1 16 then some (some (.int (M.1 72 47)), ((zu M.1 72 0 0), M.2)) else (bif cEq a1 17 then some (some (.int (M.1 72 3)), ((zu M.1 72 0 0), M.2)) else (bif cEq a1 18 then some (some (.int (M.1 73 7)), ((zu M.1 72 0 0), M.2)) else some (some (.int (-100000)), ((zu M.1 72 0 0), M.2))))))))))))))))))))) := e_X12_look_0 g a1 M
