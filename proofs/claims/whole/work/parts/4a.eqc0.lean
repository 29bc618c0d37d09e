theorem zS_208 : zS 208 = (2, 70) := by decide +kernel
theorem zS_210 : zS 210 = (2, 16) := by decide +kernel
theorem zS_211 : zS 211 = (2, 16) := by decide +kernel
theorem zS_212 : zS 212 = (2, 16) := by decide +kernel
theorem zS_213 : zS 213 = (2, 16) := by decide +kernel
theorem zS_214 : zS 214 = (2, 400) := by decide +kernel
theorem zS_218 : zS 218 = (2, 12) := by decide +kernel
theorem zS_219 : zS 219 = (2, 12) := by decide +kernel
theorem zS_221 : zS 221 = (2, 16) := by decide +kernel
theorem zS_222 : zS 222 = (2, 16) := by decide +kernel
theorem zS_223 : zS 223 = (2, 16) := by decide +kernel
theorem zS_224 : zS 224 = (2, 16) := by decide +kernel
theorem zS_226 : zS 226 = (2, 600) := by decide +kernel
theorem zS_228 : zS 228 = (2, 96) := by decide +kernel
theorem zS_229 : zS 229 = (2, 960) := by decide +kernel
theorem zS_233 : zS 233 = (2, 12) := by decide +kernel
theorem zS_234 : zS 234 = (2, 20) := by decide +kernel
theorem zS_235 : zS 235 = (2, 20) := by decide +kernel
theorem zS_236 : zS 236 = (2, 6) := by decide +kernel
theorem zS_237 : zS 237 = (2, 6) := by decide +kernel
theorem zS_238 : zS 238 = (2, 4) := by decide +kernel
theorem zS_241 : zS 241 = (2, 7168) := by decide +kernel
theorem zS_242 : zS 242 = (2, 60) := by decide +kernel
theorem zA_208 (g : zg) (h : g.1 = true) : zA g 208 = true := by
  cases g with
  | mk u v =>
    dsimp only at h
    subst h
    cases v <;> decide +kernel
theorem zA_210 (g : zg) (h : g.1 = true) : zA g 210 = true := by
  cases g with
  | mk u v =>
    dsimp only at h
    subst h
    cases v <;> decide +kernel
theorem zA_211 (g : zg) (h : g.1 = true) : zA g 211 = true := by
  cases g with
  | mk u v =>
    dsimp only at h
    subst h
    cases v <;> decide +kernel
theorem zA_212 (g : zg) (h : g.1 = true) : zA g 212 = true := by
  cases g with
  | mk u v =>
    dsimp only at h
    subst h
    cases v <;> decide +kernel
theorem zA_213 (g : zg) (h : g.1 = true) : zA g 213 = true := by
  cases g with
  | mk u v =>
    dsimp only at h
    subst h
    cases v <;> decide +kernel
theorem zA_214 (g : zg) (h : g.1 = true) : zA g 214 = true := by
  cases g with
  | mk u v =>
    dsimp only at h
    subst h
    cases v <;> decide +kernel
theorem zA_218 (g : zg) (h : g.1 = true) : zA g 218 = true := by
  cases g with
  | mk u v =>
    dsimp only at h
    subst h
    cases v <;> decide +kernel
theorem zA_219 (g : zg) (h : g.1 = true) : zA g 219 = true := by
  cases g with
  | mk u v =>
    dsimp only at h
    subst h
    cases v <;> decide +kernel
theorem zA_221 (g : zg) (h : g.1 = true) : zA g 221 = true := by
  cases g with
  | mk u v =>
    dsimp only at h
    subst h
    cases v <;> decide +kernel
theorem zA_222 (g : zg) (h : g.1 = true) : zA g 222 = true := by
  cases g with
  | mk u v =>
    dsimp only at h
    subst h
    cases v <;> decide +kernel
theorem zA_223 (g : zg) (h : g.1 = true) : zA g 223 = true := by
  cases g with
  | mk u v =>
    dsimp only at h
    subst h
    cases v <;> decide +kernel
theorem zA_224 (g : zg) (h : g.1 = true) : zA g 224 = true := by
  cases g with
  | mk u v =>
    dsimp only at h
    subst h
    cases v <;> decide +kernel
theorem zA_226 (g : zg) (h : g.1 = true) : zA g 226 = true := by
  cases g with
  | mk u v =>
    dsimp only at h
    subst h
    cases v <;> decide +kernel
theorem zA_228 (g : zg) (h : g.1 = true) : zA g 228 = true := by
  cases g with
  | mk u v =>
    dsimp only at h
    subst h
    cases v <;> decide +kernel
theorem zA_229 (g : zg) (h : g.1 = true) : zA g 229 = true := by
  cases g with
  | mk u v =>
    dsimp only at h
    subst h
    cases v <;> decide +kernel
theorem zA_233 (g : zg) (h : g.1 = true) : zA g 233 = true := by
  cases g with
  | mk u v =>
    dsimp only at h
    subst h
    cases v <;> decide +kernel
theorem zA_234 (g : zg) (h : g.1 = true) : zA g 234 = true := by
  cases g with
  | mk u v =>
    dsimp only at h
    subst h
    cases v <;> decide +kernel
theorem zA_235 (g : zg) (h : g.1 = true) : zA g 235 = true := by
  cases g with
  | mk u v =>
    dsimp only at h
    subst h
    cases v <;> decide +kernel
theorem zA_236 (g : zg) (h : g.1 = true) : zA g 236 = true := by
  cases g with
  | mk u v =>
    dsimp only at h
    subst h
    cases v <;> decide +kernel
theorem zA_237 (g : zg) (h : g.1 = true) : zA g 237 = true := by
  cases g with
  | mk u v =>
    dsimp only at h
    subst h
    cases v <;> decide +kernel
theorem zA_238 (g : zg) (h : g.1 = true) : zA g 238 = true := by
  cases g with
  | mk u v =>
    dsimp only at h
    subst h
    cases v <;> decide +kernel
theorem zA_241 (g : zg) (h : g.2 = true) : zA g 241 = true := by
  cases g with
  | mk u v =>
    dsimp only at h
    subst h
    cases u <;> decide +kernel
theorem zA_242 (g : zg) (h : g.2 = true) : zA g 242 = true := by
  cases g with
  | mk u v =>
    dsimp only at h
    subst h
    cases u <;> decide +kernel
theorem zO_206 (g : zg) (h : g.1 = true) : (zA g 206 && zsh (zS 206) 1 10) = true := by
  cases g with
  | mk u v =>
    dsimp only at h
    subst h
    cases v <;> decide +kernel
theorem zO_207 (g : zg) (h : g.1 = true) : (zA g 207 && zsh (zS 207) 1 3) = true := by
  cases g with
  | mk u v =>
    dsimp only at h
    subst h
    cases v <;> decide +kernel
theorem zO_209 (g : zg) (h : g.1 = true) : (zA g 209 && zsh (zS 209) 1 4) = true := by
  cases g with
  | mk u v =>
    dsimp only at h
    subst h
    cases v <;> decide +kernel
theorem zO_217 (g : zg) (h : g.1 = true) : (zA g 217 && zsh (zS 217) 1 7) = true := by
  cases g with
  | mk u v =>
    dsimp only at h
    subst h
    cases v <;> decide +kernel
theorem zO_220 (g : zg) (h : g.1 = true) : (zA g 220 && zsh (zS 220) 1 0) = true := by
  cases g with
  | mk u v =>
    dsimp only at h
    subst h
    cases v <;> decide +kernel
theorem zO_225 (g : zg) (h : g.1 = true) : (zA g 225 && zsh (zS 225) 1 1) = true := by
  cases g with
  | mk u v =>
    dsimp only at h
    subst h
    cases v <;> decide +kernel
theorem zO_227 (g : zg) (h : g.1 = true) : (zA g 227 && zsh (zS 227) 1 5) = true := by
  cases g with
  | mk u v =>
    dsimp only at h
    subst h
    cases v <;> decide +kernel
theorem zO_232 (g : zg) (h : g.1 = true) : (zA g 232 && zsh (zS 232) 1 6) = true := by
  cases g with
  | mk u v =>
    dsimp only at h
    subst h
    cases v <;> decide +kernel
theorem zO_240 (g : zg) (h : g.2 = true) : (zA g 240 && zsh (zS 240) 1 2) = true := by
  cases g with
  | mk u v =>
    dsimp only at h
    subst h
    cases u <;> decide +kernel
theorem zR_206_0 (g : zg) (_ : g.1 = true) : zRs g 206 0 = some 207 := by
  cases g with
  | mk u v => rfl
theorem zR_206_1 (g : zg) (_ : g.1 = true) : zRs g 206 1 = some 209 := by
  cases g with
  | mk u v => rfl
theorem zR_206_2 (g : zg) (_ : g.1 = true) : zRs g 206 2 = some 217 := by
  cases g with
  | mk u v => rfl
theorem zR_206_3 (g : zg) (_ : g.1 = true) : zRs g 206 3 = some 220 := by
  cases g with
  | mk u v => rfl
theorem zR_206_4 (g : zg) (_ : g.1 = true) : zRs g 206 4 = some 225 := by
  cases g with
  | mk u v => rfl
theorem zR_206_5 (g : zg) (_ : g.1 = true) : zRs g 206 5 = some 227 := by
  cases g with
  | mk u v => rfl
theorem zR_206_6 (g : zg) (_ : g.1 = true) : zRs g 206 6 = some 232 := by
  cases g with
  | mk u v => rfl
theorem zR_207_1 (g : zg) (_ : g.1 = true) : zRs g 207 1 = some 208 := by
  cases g with
  | mk u v => rfl
theorem zR_209_0 (g : zg) (_ : g.1 = true) : zRs g 209 0 = some 210 := by
  cases g with
  | mk u v => rfl
theorem zR_209_1 (g : zg) (_ : g.1 = true) : zRs g 209 1 = some 211 := by
  cases g with
  | mk u v => rfl
theorem zR_209_2 (g : zg) (_ : g.1 = true) : zRs g 209 2 = some 212 := by
  cases g with
  | mk u v => rfl
theorem zR_209_3 (g : zg) (_ : g.1 = true) : zRs g 209 3 = some 213 := by
  cases g with
  | mk u v => rfl
theorem zR_209_4 (g : zg) (_ : g.1 = true) : zRs g 209 4 = some 214 := by
  cases g with
  | mk u v => rfl
theorem zR_217_0 (g : zg) (_ : g.1 = true) : zRs g 217 0 = some 218 := by
  cases g with
  | mk u v => rfl
theorem zR_217_1 (g : zg) (_ : g.1 = true) : zRs g 217 1 = some 219 := by
  cases g with
  | mk u v => rfl
theorem zR_220_0 (g : zg) (_ : g.1 = true) : zRs g 220 0 = some 221 := by
  cases g with
  | mk u v => rfl
theorem zR_220_1 (g : zg) (_ : g.1 = true) : zRs g 220 1 = some 222 := by
  cases g with
  | mk u v => rfl
theorem zR_220_2 (g : zg) (_ : g.1 = true) : zRs g 220 2 = some 223 := by
  cases g with
  | mk u v => rfl
theorem zR_220_3 (g : zg) (_ : g.1 = true) : zRs g 220 3 = some 224 := by
  cases g with
  | mk u v => rfl
theorem zR_225_0 (g : zg) (_ : g.1 = true) : zRs g 225 0 = some 226 := by
  cases g with
  | mk u v => rfl
theorem zR_227_0 (g : zg) (_ : g.1 = true) : zRs g 227 0 = some 228 := by
  cases g with
  | mk u v => rfl
theorem zR_227_1 (g : zg) (_ : g.1 = true) : zRs g 227 1 = some 229 := by
  cases g with
  | mk u v => rfl
theorem zR_232_0 (g : zg) (_ : g.1 = true) : zRs g 232 0 = some 233 := by
  cases g with
  | mk u v => rfl
theorem zR_232_1 (g : zg) (_ : g.1 = true) : zRs g 232 1 = some 234 := by
  cases g with
  | mk u v => rfl
theorem zR_232_2 (g : zg) (_ : g.1 = true) : zRs g 232 2 = some 235 := by
  cases g with
  | mk u v => rfl
theorem zR_232_3 (g : zg) (_ : g.1 = true) : zRs g 232 3 = some 236 := by
  cases g with
  | mk u v => rfl
theorem zR_232_4 (g : zg) (_ : g.1 = true) : zRs g 232 4 = some 237 := by
  cases g with
  | mk u v => rfl
theorem zR_232_5 (g : zg) (_ : g.1 = true) : zRs g 232 5 = some 238 := by
  cases g with
  | mk u v => rfl
theorem zR_240_0 (g : zg) (_ : g.2 = true) : zRs g 240 0 = some 241 := by
  cases g with
  | mk u v => rfl
theorem zR_240_1 (g : zg) (_ : g.2 = true) : zRs g 240 1 = some 242 := by
  cases g with
  | mk u v => rfl
set_option maxRecDepth 20000 in
theorem e_X3_take_0_13 (g : zg) (h1 : g.1 = true) (M : zM) : zX (t_X3_take g) 0 [some (.ref 207), some (.ref 7)] [] M = some (none, ((zu (zu (zu (zu (zu (zu (zu (zu (zu (zu (zu (zcp M.1 8 208 (zx 70)) 207 2 (M.1 7 2)) 207 3 (M.1 7 3)) 207 4 (M.1 7 4)) 207 5 (M.1 7 5)) 207 6 (M.1 7 6)) 207 7 (M.1 7 7)) 207 8 (M.1 7 8)) 207 9 (M.1 7 9)) 207 10 (M.1 7 10)) 207 11 (M.1 7 11)) 207 12 (M.1 7 12)), M.2)) := by
  refine Eq.trans (zX_rgN (tl_X3_take g) (hc_X3_take g) 54 _ _ _ _) ?_
  refine Eq.trans (Eq.trans (r_0 (act := oS (fAld 1 1)) rfl) (a_ald rfl)) ?_
  refine Eq.trans (Eq.trans (r_go (act := oS (fGr g 4 3 1)) rfl rfl) (a_gr (zO_7 g) (zR_7_1 g))) ?_
  refine Eq.trans (Eq.trans (r_go (act := oS (fSt 5 (gC (.int 0)))) rfl rfl) (a_C)) ?_
  refine Eq.trans (Eq.trans (r_go (act := oS (fAld 6 0)) rfl rfl) (a_ald rfl)) ?_
  refine Eq.trans (Eq.trans (r_go (act := oS (fGr g 9 3 1)) rfl rfl) (a_gr (zO_207 g h1) (zR_207_1 g h1))) ?_
  refine Eq.trans (Eq.trans (r_go (act := oS (fSt 10 (gC (.int 0)))) rfl rfl) (a_C)) ?_
  refine Eq.trans (Eq.trans (r_go (act := oS (fSt 12 (gC (.int 70)))) rfl rfl) (a_C)) ?_
  refine Eq.trans (Eq.trans (r_go (act := oS (fCp g 15)) rfl rfl) (a_cp (zCp (zA_8 g) (zA_208 g h1) zS_8 zS_208 (by decide +kernel) (by decide +kernel) rfl))) ?_
  refine Eq.trans (Eq.trans (r_go (act := oS (fAld 16 0)) rfl rfl) (a_ald rfl)) ?_
  refine Eq.trans (Eq.trans (r_go (act := oS (fAld 17 1)) rfl rfl) (a_ald rfl)) ?_
  refine Eq.trans (Eq.trans (r_go (act := oS (fGi g 20 3 2)) rfl rfl) (a_giV (zO_7 g) rfl)) ?_
  refine Eq.trans (Eq.trans (r_go (act := oS (fPi g 23 3 2)) rfl rfl) (a_pi (zO_207 g h1))) ?_
  refine Eq.trans (Eq.trans (r_go (act := oS (fAld 24 0)) rfl rfl) (a_ald rfl)) ?_
  refine Eq.trans (Eq.trans (r_go (act := oS (fAld 25 1)) rfl rfl) (a_ald rfl)) ?_
  refine Eq.trans (Eq.trans (r_go (act := oS (fGi g 28 3 3)) rfl rfl) (a_giV (zO_7 g) rfl)) ?_
  refine Eq.trans (Eq.trans (r_go (act := oS (fPi g 31 3 3)) rfl rfl) (a_pi (zO_207 g h1))) ?_
  refine Eq.trans (Eq.trans (r_go (act := oS (fAld 32 0)) rfl rfl) (a_ald rfl)) ?_
  refine Eq.trans (Eq.trans (r_go (act := oS (fAld 33 1)) rfl rfl) (a_ald rfl)) ?_
  refine Eq.trans (Eq.trans (r_go (act := oS (fGi g 36 3 4)) rfl rfl) (a_giV (zO_7 g) rfl)) ?_
  refine Eq.trans (Eq.trans (r_go (act := oS (fPi g 39 3 4)) rfl rfl) (a_pi (zO_207 g h1))) ?_
  refine Eq.trans (Eq.trans (r_go (act := oS (fAld 40 0)) rfl rfl) (a_ald rfl)) ?_
  refine Eq.trans (Eq.trans (r_go (act := oS (fAld 41 1)) rfl rfl) (a_ald rfl)) ?_
  refine Eq.trans (Eq.trans (r_go (act := oS (fGi g 44 3 5)) rfl rfl) (a_giV (zO_7 g) rfl)) ?_
  refine Eq.trans (Eq.trans (r_go (act := oS (fPi g 47 3 5)) rfl rfl) (a_pi (zO_207 g h1))) ?_
  refine Eq.trans (Eq.trans (r_go (act := oS (fAld 48 0)) rfl rfl) (a_ald rfl)) ?_
  refine Eq.trans (Eq.trans (r_go (act := oS (fAld 49 1)) rfl rfl) (a_ald rfl)) ?_
  refine Eq.trans (Eq.trans (r_go (act := oS (fGi g 52 3 6)) rfl rfl) (a_giV (zO_7 g) rfl)) ?_
  refine Eq.trans (Eq.trans (r_go (act := oS (fPi g 55 3 6)) rfl rfl) (a_pi (zO_207 g h1))) ?_
  refine Eq.trans (Eq.trans (r_go (act := oS (fAld 56 0)) rfl rfl) (a_ald rfl)) ?_
  refine Eq.trans (Eq.trans (r_go (act := oS (fAld 57 1)) rfl rfl) (a_ald rfl)) ?_
  refine Eq.trans (Eq.trans (r_go (act := oS (fGi g 60 3 7)) rfl rfl) (a_giV (zO_7 g) rfl)) ?_
  refine Eq.trans (Eq.trans (r_go (act := oS (fPi g 63 3 7)) rfl rfl) (a_pi (zO_207 g h1))) ?_
  refine Eq.trans (Eq.trans (r_go (act := oS (fAld 64 0)) rfl rfl) (a_ald rfl)) ?_
  refine Eq.trans (Eq.trans (r_go (act := oS (fAld 65 1)) rfl rfl) (a_ald rfl)) ?_
  refine Eq.trans (Eq.trans (r_go (act := oS (fGi g 68 3 8)) rfl rfl) (a_giV (zO_7 g) rfl)) ?_
  refine Eq.trans (Eq.trans (r_go (act := oS (fPi g 71 3 8)) rfl rfl) (a_pi (zO_207 g h1))) ?_
  refine Eq.trans (Eq.trans (r_go (act := oS (fAld 72 0)) rfl rfl) (a_ald rfl)) ?_
  refine Eq.trans (Eq.trans (r_go (act := oS (fAld 73 1)) rfl rfl) (a_ald rfl)) ?_
  refine Eq.trans (Eq.trans (r_go (act := oS (fGi g 76 3 9)) rfl rfl) (a_giV (zO_7 g) rfl)) ?_
  refine Eq.trans (Eq.trans (r_go (act := oS (fPi g 79 3 9)) rfl rfl) (a_pi (zO_207 g h1))) ?_
  refine Eq.trans (Eq.trans (r_go (act := oS (fAld 80 0)) rfl rfl) (a_ald rfl)) ?_
  refine Eq.trans (Eq.trans (r_go (act := oS (fAld 81 1)) rfl rfl) (a_ald rfl)) ?_
  refine Eq.trans (Eq.trans (r_go (act := oS (fGi g 84 3 10)) rfl rfl) (a_giV (zO_7 g) rfl)) ?_
  refine Eq.trans (Eq.trans (r_go (act := oS (fPi g 87 3 10)) rfl rfl) (a_pi (zO_207 g h1))) ?_
  refine Eq.trans (Eq.trans (r_go (act := oS (fAld 88 0)) rfl rfl) (a_ald rfl)) ?_
  refine Eq.trans (Eq.trans (r_go (act := oS (fAld 89 1)) rfl rfl) (a_ald rfl)) ?_
  refine Eq.trans (Eq.trans (r_go (act := oS (fGi g 92 3 11)) rfl rfl) (a_giV (zO_7 g) rfl)) ?_
  refine Eq.trans (Eq.trans (r_go (act := oS (fPi g 95 3 11)) rfl rfl) (a_pi (zO_207 g h1))) ?_
  refine Eq.trans (Eq.trans (r_go (act := oS (fAld 96 0)) rfl rfl) (a_ald rfl)) ?_
  refine Eq.trans (Eq.trans (r_go (act := oS (fAld 97 1)) rfl rfl) (a_ald rfl)) ?_
  refine Eq.trans (Eq.trans (r_go (act := oS (fGi g 100 3 12)) rfl rfl) (a_giV (zO_7 g) rfl)) ?_
  refine Eq.trans (Eq.trans (r_go (act := oS (fPi g 103 3 12)) rfl rfl) (a_pi (zO_207 g h1))) ?_
  exact Eq.trans (r_go (act := oVret) rfl rfl) (a_vret)
theorem x_X3_take_0_13 (g : zg) (h1 : g.1 = true) (M : zM) : X_X3_take g [.ref 207, .ref 7] M = some (none, ((zu (zu (zu (zu (zu (zu (zu (zu (zu (zu (zu (zcp M.1 8 208 (zx 70)) 207 2 (M.1 7 2)) 207 3 (M.1 7 3)) 207 4 (M.1 7 4)) 207 5 (M.1 7 5)) 207 6 (M.1 7 6)) 207 7 (M.1 7 7)) 207 8 (M.1 7 8)) 207 9 (M.1 7 9)) 207 10 (M.1 7 10)) 207 11 (M.1 7 11)) 207 12 (M.1 7 12)), M.2)) := e_X3_take_0_13 g h1 M
set_option maxRecDepth 20000 in
theorem e_X3_take_0_14 (g : zg) (h1 : g.1 = true) (M : zM) : zX (t_X3_take g) 0 [some (.ref 7), some (.ref 207)] [] M = some (none, ((zu (zu (zu (zu (zu (zu (zu (zu (zu (zu (zu (zcp M.1 208 8 (zx 70)) 7 2 (M.1 207 2)) 7 3 (M.1 207 3)) 7 4 (M.1 207 4)) 7 5 (M.1 207 5)) 7 6 (M.1 207 6)) 7 7 (M.1 207 7)) 7 8 (M.1 207 8)) 7 9 (M.1 207 9)) 7 10 (M.1 207 10)) 7 11 (M.1 207 11)) 7 12 (M.1 207 12)), M.2)) := by
  refine Eq.trans (zX_rgN (tl_X3_take g) (hc_X3_take g) 54 _ _ _ _) ?_
  refine Eq.trans (Eq.trans (r_0 (act := oS (fAld 1 1)) rfl) (a_ald rfl)) ?_
  refine Eq.trans (Eq.trans (r_go (act := oS (fGr g 4 3 1)) rfl rfl) (a_gr (zO_207 g h1) (zR_207_1 g h1))) ?_
  refine Eq.trans (Eq.trans (r_go (act := oS (fSt 5 (gC (.int 0)))) rfl rfl) (a_C)) ?_
  refine Eq.trans (Eq.trans (r_go (act := oS (fAld 6 0)) rfl rfl) (a_ald rfl)) ?_
  refine Eq.trans (Eq.trans (r_go (act := oS (fGr g 9 3 1)) rfl rfl) (a_gr (zO_7 g) (zR_7_1 g))) ?_
  refine Eq.trans (Eq.trans (r_go (act := oS (fSt 10 (gC (.int 0)))) rfl rfl) (a_C)) ?_
  refine Eq.trans (Eq.trans (r_go (act := oS (fSt 12 (gC (.int 70)))) rfl rfl) (a_C)) ?_
  refine Eq.trans (Eq.trans (r_go (act := oS (fCp g 15)) rfl rfl) (a_cp (zCp (zA_208 g h1) (zA_8 g) zS_208 zS_8 (by decide +kernel) (by decide +kernel) rfl))) ?_
  refine Eq.trans (Eq.trans (r_go (act := oS (fAld 16 0)) rfl rfl) (a_ald rfl)) ?_
  refine Eq.trans (Eq.trans (r_go (act := oS (fAld 17 1)) rfl rfl) (a_ald rfl)) ?_
  refine Eq.trans (Eq.trans (r_go (act := oS (fGi g 20 3 2)) rfl rfl) (a_giV (zO_207 g h1) rfl)) ?_
  refine Eq.trans (Eq.trans (r_go (act := oS (fPi g 23 3 2)) rfl rfl) (a_pi (zO_7 g))) ?_
  refine Eq.trans (Eq.trans (r_go (act := oS (fAld 24 0)) rfl rfl) (a_ald rfl)) ?_
  refine Eq.trans (Eq.trans (r_go (act := oS (fAld 25 1)) rfl rfl) (a_ald rfl)) ?_
  refine Eq.trans (Eq.trans (r_go (act := oS (fGi g 28 3 3)) rfl rfl) (a_giV (zO_207 g h1) rfl)) ?_
  refine Eq.trans (Eq.trans (r_go (act := oS (fPi g 31 3 3)) rfl rfl) (a_pi (zO_7 g))) ?_
  refine Eq.trans (Eq.trans (r_go (act := oS (fAld 32 0)) rfl rfl) (a_ald rfl)) ?_
  refine Eq.trans (Eq.trans (r_go (act := oS (fAld 33 1)) rfl rfl) (a_ald rfl)) ?_
  refine Eq.trans (Eq.trans (r_go (act := oS (fGi g 36 3 4)) rfl rfl) (a_giV (zO_207 g h1) rfl)) ?_
  refine Eq.trans (Eq.trans (r_go (act := oS (fPi g 39 3 4)) rfl rfl) (a_pi (zO_7 g))) ?_
  refine Eq.trans (Eq.trans (r_go (act := oS (fAld 40 0)) rfl rfl) (a_ald rfl)) ?_
  refine Eq.trans (Eq.trans (r_go (act := oS (fAld 41 1)) rfl rfl) (a_ald rfl)) ?_
  refine Eq.trans (Eq.trans (r_go (act := oS (fGi g 44 3 5)) rfl rfl) (a_giV (zO_207 g h1) rfl)) ?_
  refine Eq.trans (Eq.trans (r_go (act := oS (fPi g 47 3 5)) rfl rfl) (a_pi (zO_7 g))) ?_
  refine Eq.trans (Eq.trans (r_go (act := oS (fAld 48 0)) rfl rfl) (a_ald rfl)) ?_
  refine Eq.trans (Eq.trans (r_go (act := oS (fAld 49 1)) rfl rfl) (a_ald rfl)) ?_
  refine Eq.trans (Eq.trans (r_go (act := oS (fGi g 52 3 6)) rfl rfl) (a_giV (zO_207 g h1) rfl)) ?_
  refine Eq.trans (Eq.trans (r_go (act := oS (fPi g 55 3 6)) rfl rfl) (a_pi (zO_7 g))) ?_
  refine Eq.trans (Eq.trans (r_go (act := oS (fAld 56 0)) rfl rfl) (a_ald rfl)) ?_
  refine Eq.trans (Eq.trans (r_go (act := oS (fAld 57 1)) rfl rfl) (a_ald rfl)) ?_
  refine Eq.trans (Eq.trans (r_go (act := oS (fGi g 60 3 7)) rfl rfl) (a_giV (zO_207 g h1) rfl)) ?_
  refine Eq.trans (Eq.trans (r_go (act := oS (fPi g 63 3 7)) rfl rfl) (a_pi (zO_7 g))) ?_
  refine Eq.trans (Eq.trans (r_go (act := oS (fAld 64 0)) rfl rfl) (a_ald rfl)) ?_
  refine Eq.trans (Eq.trans (r_go (act := oS (fAld 65 1)) rfl rfl) (a_ald rfl)) ?_
  refine Eq.trans (Eq.trans (r_go (act := oS (fGi g 68 3 8)) rfl rfl) (a_giV (zO_207 g h1) rfl)) ?_
  refine Eq.trans (Eq.trans (r_go (act := oS (fPi g 71 3 8)) rfl rfl) (a_pi (zO_7 g))) ?_
  refine Eq.trans (Eq.trans (r_go (act := oS (fAld 72 0)) rfl rfl) (a_ald rfl)) ?_
  refine Eq.trans (Eq.trans (r_go (act := oS (fAld 73 1)) rfl rfl) (a_ald rfl)) ?_
  refine Eq.trans (Eq.trans (r_go (act := oS (fGi g 76 3 9)) rfl rfl) (a_giV (zO_207 g h1) rfl)) ?_
  refine Eq.trans (Eq.trans (r_go (act := oS (fPi g 79 3 9)) rfl rfl) (a_pi (zO_7 g))) ?_
  refine Eq.trans (Eq.trans (r_go (act := oS (fAld 80 0)) rfl rfl) (a_ald rfl)) ?_
  refine Eq.trans (Eq.trans (r_go (act := oS (fAld 81 1)) rfl rfl) (a_ald rfl)) ?_
  refine Eq.trans (Eq.trans (r_go (act := oS (fGi g 84 3 10)) rfl rfl) (a_giV (zO_207 g h1) rfl)) ?_
  refine Eq.trans (Eq.trans (r_go (act := oS (fPi g 87 3 10)) rfl rfl) (a_pi (zO_7 g))) ?_
  refine Eq.trans (Eq.trans (r_go (act := oS (fAld 88 0)) rfl rfl) (a_ald rfl)) ?_
  refine Eq.trans (Eq.trans (r_go (act := oS (fAld 89 1)) rfl rfl) (a_ald rfl)) ?_
  refine Eq.trans (Eq.trans (r_go (act := oS (fGi g 92 3 11)) rfl rfl) (a_giV (zO_207 g h1) rfl)) ?_
  refine Eq.trans (Eq.trans (r_go (act := oS (fPi g 95 3 11)) rfl rfl) (a_pi (zO_7 g))) ?_
  refine Eq.trans (Eq.trans (r_go (act := oS (fAld 96 0)) rfl rfl) (a_ald rfl)) ?_
  refine Eq.trans (Eq.trans (r_go (act := oS (fAld 97 1)) rfl rfl) (a_ald rfl)) ?_
  refine Eq.trans (Eq.trans (r_go (act := oS (fGi g 100 3 12)) rfl rfl) (a_giV (zO_207 g h1) rfl)) ?_
  refine Eq.trans (Eq.trans (r_go (act := oS (fPi g 103 3 12)) rfl rfl) (a_pi (zO_7 g))) ?_
  exact Eq.trans (r_go (act := oVret) rfl rfl) (a_vret)
theorem x_X3_take_0_14 (g : zg) (h1 : g.1 = true) (M : zM) : X_X3_take g [.ref 7, .ref 207] M = some (none, ((zu (zu (zu (zu (zu (zu (zu (zu (zu (zu (zu (zcp M.1 208 8 (zx 70)) 7 2 (M.1 207 2)) 7 3 (M.1 207 3)) 7 4 (M.1 207 4)) 7 5 (M.1 207 5)) 7 6 (M.1 207 6)) 7 7 (M.1 207 7)) 7 8 (M.1 207 8)) 7 9 (M.1 207 9)) 7 10 (M.1 207 10)) 7 11 (M.1 207 11)) 7 12 (M.1 207 12)), M.2)) := e_X3_take_0_14 g h1 M
set_option maxRecDepth 20000 in
theorem e_X4_take_0_1 (g : zg) (h1 : g.1 = true) (M : zM) : zX (t_X4_take g) 0 [some (.ref 209), some (.ref 9)] [] M = some (none, ((zcp (zcp (zcp (zcp (zcp (zu (zu M.1 209 8 (M.1 9 8)) 209 7 (M.1 9 7)) 10 210 (zx 16)) 11 211 (zx 16)) 12 212 (zx 16)) 13 213 (zx 16)) 14 214 (zx 400)), M.2)) := by
  refine Eq.trans (zX_rgN (tl_X4_take g) (hc_X4_take g) 50 _ _ _ _) ?_
  refine Eq.trans (Eq.trans (r_0 (act := oS (fAld 1 0)) rfl) (a_ald rfl)) ?_
  refine Eq.trans (Eq.trans (r_go (act := oS (fAld 2 1)) rfl rfl) (a_ald rfl)) ?_
  refine Eq.trans (Eq.trans (r_go (act := oS (fGi g 5 4 8)) rfl rfl) (a_gi (zO_9 g))) ?_
  refine Eq.trans (Eq.trans (r_go (act := oS (fPi g 8 4 8)) rfl rfl) (a_pi (zO_209 g h1))) ?_
  refine Eq.trans (Eq.trans (r_go (act := oS (fAld 9 0)) rfl rfl) (a_ald rfl)) ?_
  refine Eq.trans (Eq.trans (r_go (act := oS (fAld 10 1)) rfl rfl) (a_ald rfl)) ?_
  refine Eq.trans (Eq.trans (r_go (act := oS (fGi g 13 4 7)) rfl rfl) (a_giV (zO_9 g) rfl)) ?_
  refine Eq.trans (Eq.trans (r_go (act := oS (fPi g 16 4 7)) rfl rfl) (a_pi (zO_209 g h1))) ?_
  refine Eq.trans (Eq.trans (r_go (act := oS (fAld 17 1)) rfl rfl) (a_ald rfl)) ?_
  refine Eq.trans (Eq.trans (r_go (act := oS (fGr g 20 4 0)) rfl rfl) (a_gr (zO_9 g) (zR_9_0 g))) ?_
  refine Eq.trans (Eq.trans (r_go (act := oS (fSt 21 (gC (.int 0)))) rfl rfl) (a_C)) ?_
  refine Eq.trans (Eq.trans (r_go (act := oS (fAld 22 0)) rfl rfl) (a_ald rfl)) ?_
  refine Eq.trans (Eq.trans (r_go (act := oS (fGr g 25 4 0)) rfl rfl) (a_gr (zO_209 g h1) (zR_209_0 g h1))) ?_
  refine Eq.trans (Eq.trans (r_go (act := oS (fSt 26 (gC (.int 0)))) rfl rfl) (a_C)) ?_
  refine Eq.trans (Eq.trans (r_go (act := oS (fSt 28 (gC (.int 16)))) rfl rfl) (a_C)) ?_
  refine Eq.trans (Eq.trans (r_go (act := oS (fCp g 31)) rfl rfl) (a_cp (zCp (zA_10 g) (zA_210 g h1) zS_10 zS_210 (by decide +kernel) (by decide +kernel) rfl))) ?_
  refine Eq.trans (Eq.trans (r_go (act := oS (fAld 32 1)) rfl rfl) (a_ald rfl)) ?_
  refine Eq.trans (Eq.trans (r_go (act := oS (fGr g 35 4 1)) rfl rfl) (a_gr (zO_9 g) (zR_9_1 g))) ?_
  refine Eq.trans (Eq.trans (r_go (act := oS (fSt 36 (gC (.int 0)))) rfl rfl) (a_C)) ?_
  refine Eq.trans (Eq.trans (r_go (act := oS (fAld 37 0)) rfl rfl) (a_ald rfl)) ?_
  refine Eq.trans (Eq.trans (r_go (act := oS (fGr g 40 4 1)) rfl rfl) (a_gr (zO_209 g h1) (zR_209_1 g h1))) ?_
  refine Eq.trans (Eq.trans (r_go (act := oS (fSt 41 (gC (.int 0)))) rfl rfl) (a_C)) ?_
  refine Eq.trans (Eq.trans (r_go (act := oS (fSt 43 (gC (.int 16)))) rfl rfl) (a_C)) ?_
  refine Eq.trans (Eq.trans (r_go (act := oS (fCp g 46)) rfl rfl) (a_cp (zCp (zA_11 g) (zA_211 g h1) zS_11 zS_211 (by decide +kernel) (by decide +kernel) rfl))) ?_
  refine Eq.trans (Eq.trans (r_go (act := oS (fAld 47 1)) rfl rfl) (a_ald rfl)) ?_
  refine Eq.trans (Eq.trans (r_go (act := oS (fGr g 50 4 2)) rfl rfl) (a_gr (zO_9 g) (zR_9_2 g))) ?_
  refine Eq.trans (Eq.trans (r_go (act := oS (fSt 51 (gC (.int 0)))) rfl rfl) (a_C)) ?_
  refine Eq.trans (Eq.trans (r_go (act := oS (fAld 52 0)) rfl rfl) (a_ald rfl)) ?_
  refine Eq.trans (Eq.trans (r_go (act := oS (fGr g 55 4 2)) rfl rfl) (a_gr (zO_209 g h1) (zR_209_2 g h1))) ?_
  refine Eq.trans (Eq.trans (r_go (act := oS (fSt 56 (gC (.int 0)))) rfl rfl) (a_C)) ?_
  refine Eq.trans (Eq.trans (r_go (act := oS (fSt 58 (gC (.int 16)))) rfl rfl) (a_C)) ?_
  refine Eq.trans (Eq.trans (r_go (act := oS (fCp g 61)) rfl rfl) (a_cp (zCp (zA_12 g) (zA_212 g h1) zS_12 zS_212 (by decide +kernel) (by decide +kernel) rfl))) ?_
  refine Eq.trans (Eq.trans (r_go (act := oS (fAld 62 1)) rfl rfl) (a_ald rfl)) ?_
  refine Eq.trans (Eq.trans (r_go (act := oS (fGr g 65 4 3)) rfl rfl) (a_gr (zO_9 g) (zR_9_3 g))) ?_
  refine Eq.trans (Eq.trans (r_go (act := oS (fSt 66 (gC (.int 0)))) rfl rfl) (a_C)) ?_
  refine Eq.trans (Eq.trans (r_go (act := oS (fAld 67 0)) rfl rfl) (a_ald rfl)) ?_
  refine Eq.trans (Eq.trans (r_go (act := oS (fGr g 70 4 3)) rfl rfl) (a_gr (zO_209 g h1) (zR_209_3 g h1))) ?_
  refine Eq.trans (Eq.trans (r_go (act := oS (fSt 71 (gC (.int 0)))) rfl rfl) (a_C)) ?_
  refine Eq.trans (Eq.trans (r_go (act := oS (fSt 73 (gC (.int 16)))) rfl rfl) (a_C)) ?_
  refine Eq.trans (Eq.trans (r_go (act := oS (fCp g 76)) rfl rfl) (a_cp (zCp (zA_13 g) (zA_213 g h1) zS_13 zS_213 (by decide +kernel) (by decide +kernel) rfl))) ?_
  refine Eq.trans (Eq.trans (r_go (act := oS (fAld 77 1)) rfl rfl) (a_ald rfl)) ?_
  refine Eq.trans (Eq.trans (r_go (act := oS (fGr g 80 4 4)) rfl rfl) (a_gr (zO_9 g) (zR_9_4 g))) ?_
  refine Eq.trans (Eq.trans (r_go (act := oS (fSt 81 (gC (.int 0)))) rfl rfl) (a_C)) ?_
  refine Eq.trans (Eq.trans (r_go (act := oS (fAld 82 0)) rfl rfl) (a_ald rfl)) ?_
  refine Eq.trans (Eq.trans (r_go (act := oS (fGr g 85 4 4)) rfl rfl) (a_gr (zO_209 g h1) (zR_209_4 g h1))) ?_
  refine Eq.trans (Eq.trans (r_go (act := oS (fSt 86 (gC (.int 0)))) rfl rfl) (a_C)) ?_
  refine Eq.trans (Eq.trans (r_go (act := oS (fSt 89 (gC (.int 400)))) rfl rfl) (a_C)) ?_
  refine Eq.trans (Eq.trans (r_go (act := oS (fCp g 92)) rfl rfl) (a_cp (zCp (zA_14 g) (zA_214 g h1) zS_14 zS_214 (by decide +kernel) (by decide +kernel) rfl))) ?_
  exact Eq.trans (r_go (act := oVret) rfl rfl) (a_vret)
theorem x_X4_take_0_1 (g : zg) (h1 : g.1 = true) (M : zM) : X_X4_take g [.ref 209, .ref 9] M = some (none, ((zcp (zcp (zcp (zcp (zcp (zu (zu M.1 209 8 (M.1 9 8)) 209 7 (M.1 9 7)) 10 210 (zx 16)) 11 211 (zx 16)) 12 212 (zx 16)) 13 213 (zx 16)) 14 214 (zx 400)), M.2)) := e_X4_take_0_1 g h1 M
set_option maxRecDepth 20000 in
theorem e_X4_take_0_2 (g : zg) (h1 : g.1 = true) (M : zM) : zX (t_X4_take g) 0 [some (.ref 9), some (.ref 209)] [] M = some (none, ((zcp (zcp (zcp (zcp (zcp (zu (zu M.1 9 8 (M.1 209 8)) 9 7 (M.1 209 7)) 210 10 (zx 16)) 211 11 (zx 16)) 212 12 (zx 16)) 213 13 (zx 16)) 214 14 (zx 400)), M.2)) := by
  refine Eq.trans (zX_rgN (tl_X4_take g) (hc_X4_take g) 50 _ _ _ _) ?_
  refine Eq.trans (Eq.trans (r_0 (act := oS (fAld 1 0)) rfl) (a_ald rfl)) ?_
  refine Eq.trans (Eq.trans (r_go (act := oS (fAld 2 1)) rfl rfl) (a_ald rfl)) ?_
  refine Eq.trans (Eq.trans (r_go (act := oS (fGi g 5 4 8)) rfl rfl) (a_gi (zO_209 g h1))) ?_
  refine Eq.trans (Eq.trans (r_go (act := oS (fPi g 8 4 8)) rfl rfl) (a_pi (zO_9 g))) ?_
  refine Eq.trans (Eq.trans (r_go (act := oS (fAld 9 0)) rfl rfl) (a_ald rfl)) ?_
  refine Eq.trans (Eq.trans (r_go (act := oS (fAld 10 1)) rfl rfl) (a_ald rfl)) ?_
  refine Eq.trans (Eq.trans (r_go (act := oS (fGi g 13 4 7)) rfl rfl) (a_giV (zO_209 g h1) rfl)) ?_
  refine Eq.trans (Eq.trans (r_go (act := oS (fPi g 16 4 7)) rfl rfl) (a_pi (zO_9 g))) ?_
  refine Eq.trans (Eq.trans (r_go (act := oS (fAld 17 1)) rfl rfl) (a_ald rfl)) ?_
  refine Eq.trans (Eq.trans (r_go (act := oS (fGr g 20 4 0)) rfl rfl) (a_gr (zO_209 g h1) (zR_209_0 g h1))) ?_
  refine Eq.trans (Eq.trans (r_go (act := oS (fSt 21 (gC (.int 0)))) rfl rfl) (a_C)) ?_
  refine Eq.trans (Eq.trans (r_go (act := oS (fAld 22 0)) rfl rfl) (a_ald rfl)) ?_
  refine Eq.trans (Eq.trans (r_go (act := oS (fGr g 25 4 0)) rfl rfl) (a_gr (zO_9 g) (zR_9_0 g))) ?_
  refine Eq.trans (Eq.trans (r_go (act := oS (fSt 26 (gC (.int 0)))) rfl rfl) (a_C)) ?_
  refine Eq.trans (Eq.trans (r_go (act := oS (fSt 28 (gC (.int 16)))) rfl rfl) (a_C)) ?_
  refine Eq.trans (Eq.trans (r_go (act := oS (fCp g 31)) rfl rfl) (a_cp (zCp (zA_210 g h1) (zA_10 g) zS_210 zS_10 (by decide +kernel) (by decide +kernel) rfl))) ?_
  refine Eq.trans (Eq.trans (r_go (act := oS (fAld 32 1)) rfl rfl) (a_ald rfl)) ?_
  refine Eq.trans (Eq.trans (r_go (act := oS (fGr g 35 4 1)) rfl rfl) (a_gr (zO_209 g h1) (zR_209_1 g h1))) ?_
  refine Eq.trans (Eq.trans (r_go (act := oS (fSt 36 (gC (.int 0)))) rfl rfl) (a_C)) ?_
  refine Eq.trans (Eq.trans (r_go (act := oS (fAld 37 0)) rfl rfl) (a_ald rfl)) ?_
  refine Eq.trans (Eq.trans (r_go (act := oS (fGr g 40 4 1)) rfl rfl) (a_gr (zO_9 g) (zR_9_1 g))) ?_
  refine Eq.trans (Eq.trans (r_go (act := oS (fSt 41 (gC (.int 0)))) rfl rfl) (a_C)) ?_
  refine Eq.trans (Eq.trans (r_go (act := oS (fSt 43 (gC (.int 16)))) rfl rfl) (a_C)) ?_
  refine Eq.trans (Eq.trans (r_go (act := oS (fCp g 46)) rfl rfl) (a_cp (zCp (zA_211 g h1) (zA_11 g) zS_211 zS_11 (by decide +kernel) (by decide +kernel) rfl))) ?_
  refine Eq.trans (Eq.trans (r_go (act := oS (fAld 47 1)) rfl rfl) (a_ald rfl)) ?_
  refine Eq.trans (Eq.trans (r_go (act := oS (fGr g 50 4 2)) rfl rfl) (a_gr (zO_209 g h1) (zR_209_2 g h1))) ?_
  refine Eq.trans (Eq.trans (r_go (act := oS (fSt 51 (gC (.int 0)))) rfl rfl) (a_C)) ?_
  refine Eq.trans (Eq.trans (r_go (act := oS (fAld 52 0)) rfl rfl) (a_ald rfl)) ?_
  refine Eq.trans (Eq.trans (r_go (act := oS (fGr g 55 4 2)) rfl rfl) (a_gr (zO_9 g) (zR_9_2 g))) ?_
  refine Eq.trans (Eq.trans (r_go (act := oS (fSt 56 (gC (.int 0)))) rfl rfl) (a_C)) ?_
  refine Eq.trans (Eq.trans (r_go (act := oS (fSt 58 (gC (.int 16)))) rfl rfl) (a_C)) ?_
  refine Eq.trans (Eq.trans (r_go (act := oS (fCp g 61)) rfl rfl) (a_cp (zCp (zA_212 g h1) (zA_12 g) zS_212 zS_12 (by decide +kernel) (by decide +kernel) rfl))) ?_
  refine Eq.trans (Eq.trans (r_go (act := oS (fAld 62 1)) rfl rfl) (a_ald rfl)) ?_
  refine Eq.trans (Eq.trans (r_go (act := oS (fGr g 65 4 3)) rfl rfl) (a_gr (zO_209 g h1) (zR_209_3 g h1))) ?_
  refine Eq.trans (Eq.trans (r_go (act := oS (fSt 66 (gC (.int 0)))) rfl rfl) (a_C)) ?_
  refine Eq.trans (Eq.trans (r_go (act := oS (fAld 67 0)) rfl rfl) (a_ald rfl)) ?_
  refine Eq.trans (Eq.trans (r_go (act := oS (fGr g 70 4 3)) rfl rfl) (a_gr (zO_9 g) (zR_9_3 g))) ?_
  refine Eq.trans (Eq.trans (r_go (act := oS (fSt 71 (gC (.int 0)))) rfl rfl) (a_C)) ?_
  refine Eq.trans (Eq.trans (r_go (act := oS (fSt 73 (gC (.int 16)))) rfl rfl) (a_C)) ?_
  refine Eq.trans (Eq.trans (r_go (act := oS (fCp g 76)) rfl rfl) (a_cp (zCp (zA_213 g h1) (zA_13 g) zS_213 zS_13 (by decide +kernel) (by decide +kernel) rfl))) ?_
  refine Eq.trans (Eq.trans (r_go (act := oS (fAld 77 1)) rfl rfl) (a_ald rfl)) ?_
  refine Eq.trans (Eq.trans (r_go (act := oS (fGr g 80 4 4)) rfl rfl) (a_gr (zO_209 g h1) (zR_209_4 g h1))) ?_
  refine Eq.trans (Eq.trans (r_go (act := oS (fSt 81 (gC (.int 0)))) rfl rfl) (a_C)) ?_
  refine Eq.trans (Eq.trans (r_go (act := oS (fAld 82 0)) rfl rfl) (a_ald rfl)) ?_
  refine Eq.trans (Eq.trans (r_go (act := oS (fGr g 85 4 4)) rfl rfl) (a_gr (zO_9 g) (zR_9_4 g))) ?_
  refine Eq.trans (Eq.trans (r_go (act := oS (fSt 86 (gC (.int 0)))) rfl rfl) (a_C)) ?_
  refine Eq.trans (Eq.trans (r_go (act := oS (fSt 89 (gC (.int 400)))) rfl rfl) (a_C)) ?_
  refine Eq.trans (Eq.trans (r_go (act := oS (fCp g 92)) rfl rfl) (a_cp (zCp (zA_214 g h1) (zA_14 g) zS_214 zS_14 (by decide +kernel) (by decide +kernel) rfl))) ?_
  exact Eq.trans (r_go (act := oVret) rfl rfl) (a_vret)
theorem x_X4_take_0_2 (g : zg) (h1 : g.1 = true) (M : zM) : X_X4_take g [.ref 9, .ref 209] M = some (none, ((zcp (zcp (zcp (zcp (zcp (zu (zu M.1 9 8 (M.1 209 8)) 9 7 (M.1 209 7)) 210 10 (zx 16)) 211 11 (zx 16)) 212 12 (zx 16)) 213 13 (zx 16)) 214 14 (zx 400)), M.2)) := e_X4_take_0_2 g h1 M
set_option maxRecDepth 20000 in
theorem e_X7_take_0_1 (g : zg) (h1 : g.1 = true) (M : zM) : zX (t_X7_take g) 0 [some (.ref 217), some (.ref 17)] [] M = some (none, ((zcp (zcp (zu (zu M.1 217 3 (M.1 17 3)) 217 2 (M.1 17 2)) 18 218 (zx 12)) 19 219 (zx 12)), M.2)) := by
  refine Eq.trans (zX_rgN (tl_X7_take g) (hc_X7_take g) 26 _ _ _ _) ?_
  refine Eq.trans (Eq.trans (r_0 (act := oS (fAld 1 0)) rfl) (a_ald rfl)) ?_
  refine Eq.trans (Eq.trans (r_go (act := oS (fAld 2 1)) rfl rfl) (a_ald rfl)) ?_
  refine Eq.trans (Eq.trans (r_go (act := oS (fGi g 5 7 3)) rfl rfl) (a_gi (zO_17 g))) ?_
  refine Eq.trans (Eq.trans (r_go (act := oS (fPi g 8 7 3)) rfl rfl) (a_pi (zO_217 g h1))) ?_
  refine Eq.trans (Eq.trans (r_go (act := oS (fAld 9 0)) rfl rfl) (a_ald rfl)) ?_
  refine Eq.trans (Eq.trans (r_go (act := oS (fAld 10 1)) rfl rfl) (a_ald rfl)) ?_
  refine Eq.trans (Eq.trans (r_go (act := oS (fGi g 13 7 2)) rfl rfl) (a_giV (zO_17 g) rfl)) ?_
  refine Eq.trans (Eq.trans (r_go (act := oS (fPi g 16 7 2)) rfl rfl) (a_pi (zO_217 g h1))) ?_
  refine Eq.trans (Eq.trans (r_go (act := oS (fAld 17 1)) rfl rfl) (a_ald rfl)) ?_
  refine Eq.trans (Eq.trans (r_go (act := oS (fGr g 20 7 0)) rfl rfl) (a_gr (zO_17 g) (zR_17_0 g))) ?_
  refine Eq.trans (Eq.trans (r_go (act := oS (fSt 21 (gC (.int 0)))) rfl rfl) (a_C)) ?_
  refine Eq.trans (Eq.trans (r_go (act := oS (fAld 22 0)) rfl rfl) (a_ald rfl)) ?_
  refine Eq.trans (Eq.trans (r_go (act := oS (fGr g 25 7 0)) rfl rfl) (a_gr (zO_217 g h1) (zR_217_0 g h1))) ?_
  refine Eq.trans (Eq.trans (r_go (act := oS (fSt 26 (gC (.int 0)))) rfl rfl) (a_C)) ?_
  refine Eq.trans (Eq.trans (r_go (act := oS (fSt 28 (gC (.int 12)))) rfl rfl) (a_C)) ?_
  refine Eq.trans (Eq.trans (r_go (act := oS (fCp g 31)) rfl rfl) (a_cp (zCp (zA_18 g) (zA_218 g h1) zS_18 zS_218 (by decide +kernel) (by decide +kernel) rfl))) ?_
  refine Eq.trans (Eq.trans (r_go (act := oS (fAld 32 1)) rfl rfl) (a_ald rfl)) ?_
  refine Eq.trans (Eq.trans (r_go (act := oS (fGr g 35 7 1)) rfl rfl) (a_gr (zO_17 g) (zR_17_1 g))) ?_
  refine Eq.trans (Eq.trans (r_go (act := oS (fSt 36 (gC (.int 0)))) rfl rfl) (a_C)) ?_
  refine Eq.trans (Eq.trans (r_go (act := oS (fAld 37 0)) rfl rfl) (a_ald rfl)) ?_
  refine Eq.trans (Eq.trans (r_go (act := oS (fGr g 40 7 1)) rfl rfl) (a_gr (zO_217 g h1) (zR_217_1 g h1))) ?_
  refine Eq.trans (Eq.trans (r_go (act := oS (fSt 41 (gC (.int 0)))) rfl rfl) (a_C)) ?_
  refine Eq.trans (Eq.trans (r_go (act := oS (fSt 43 (gC (.int 12)))) rfl rfl) (a_C)) ?_
  refine Eq.trans (Eq.trans (r_go (act := oS (fCp g 46)) rfl rfl) (a_cp (zCp (zA_19 g) (zA_219 g h1) zS_19 zS_219 (by decide +kernel) (by decide +kernel) rfl))) ?_
  exact Eq.trans (r_go (act := oVret) rfl rfl) (a_vret)
theorem x_X7_take_0_1 (g : zg) (h1 : g.1 = true) (M : zM) : X_X7_take g [.ref 217, .ref 17] M = some (none, ((zcp (zcp (zu (zu M.1 217 3 (M.1 17 3)) 217 2 (M.1 17 2)) 18 218 (zx 12)) 19 219 (zx 12)), M.2)) := e_X7_take_0_1 g h1 M
set_option maxRecDepth 20000 in
theorem e_X7_take_0_2 (g : zg) (h1 : g.1 = true) (M : zM) : zX (t_X7_take g) 0 [some (.ref 17), some (.ref 217)] [] M = some (none, ((zcp (zcp (zu (zu M.1 17 3 (M.1 217 3)) 17 2 (M.1 217 2)) 218 18 (zx 12)) 219 19 (zx 12)), M.2)) := by
  refine Eq.trans (zX_rgN (tl_X7_take g) (hc_X7_take g) 26 _ _ _ _) ?_
  refine Eq.trans (Eq.trans (r_0 (act := oS (fAld 1 0)) rfl) (a_ald rfl)) ?_
  refine Eq.trans (Eq.trans (r_go (act := oS (fAld 2 1)) rfl rfl) (a_ald rfl)) ?_
  refine Eq.trans (Eq.trans (r_go (act := oS (fGi g 5 7 3)) rfl rfl) (a_gi (zO_217 g h1))) ?_
  refine Eq.trans (Eq.trans (r_go (act := oS (fPi g 8 7 3)) rfl rfl) (a_pi (zO_17 g))) ?_
  refine Eq.trans (Eq.trans (r_go (act := oS (fAld 9 0)) rfl rfl) (a_ald rfl)) ?_
  refine Eq.trans (Eq.trans (r_go (act := oS (fAld 10 1)) rfl rfl) (a_ald rfl)) ?_
  refine Eq.trans (Eq.trans (r_go (act := oS (fGi g 13 7 2)) rfl rfl) (a_giV (zO_217 g h1) rfl)) ?_
  refine Eq.trans (Eq.trans (r_go (act := oS (fPi g 16 7 2)) rfl rfl) (a_pi (zO_17 g))) ?_
  refine Eq.trans (Eq.trans (r_go (act := oS (fAld 17 1)) rfl rfl) (a_ald rfl)) ?_
  refine Eq.trans (Eq.trans (r_go (act := oS (fGr g 20 7 0)) rfl rfl) (a_gr (zO_217 g h1) (zR_217_0 g h1))) ?_
  refine Eq.trans (Eq.trans (r_go (act := oS (fSt 21 (gC (.int 0)))) rfl rfl) (a_C)) ?_
  refine Eq.trans (Eq.trans (r_go (act := oS (fAld 22 0)) rfl rfl) (a_ald rfl)) ?_
  refine Eq.trans (Eq.trans (r_go (act := oS (fGr g 25 7 0)) rfl rfl) (a_gr (zO_17 g) (zR_17_0 g))) ?_
  refine Eq.trans (Eq.trans (r_go (act := oS (fSt 26 (gC (.int 0)))) rfl rfl) (a_C)) ?_
  refine Eq.trans (Eq.trans (r_go (act := oS (fSt 28 (gC (.int 12)))) rfl rfl) (a_C)) ?_
  refine Eq.trans (Eq.trans (r_go (act := oS (fCp g 31)) rfl rfl) (a_cp (zCp (zA_218 g h1) (zA_18 g) zS_218 zS_18 (by decide +kernel) (by decide +kernel) rfl))) ?_
  refine Eq.trans (Eq.trans (r_go (act := oS (fAld 32 1)) rfl rfl) (a_ald rfl)) ?_
  refine Eq.trans (Eq.trans (r_go (act := oS (fGr g 35 7 1)) rfl rfl) (a_gr (zO_217 g h1) (zR_217_1 g h1))) ?_
  refine Eq.trans (Eq.trans (r_go (act := oS (fSt 36 (gC (.int 0)))) rfl rfl) (a_C)) ?_
  refine Eq.trans (Eq.trans (r_go (act := oS (fAld 37 0)) rfl rfl) (a_ald rfl)) ?_
  refine Eq.trans (Eq.trans (r_go (act := oS (fGr g 40 7 1)) rfl rfl) (a_gr (zO_17 g) (zR_17_1 g))) ?_
  refine Eq.trans (Eq.trans (r_go (act := oS (fSt 41 (gC (.int 0)))) rfl rfl) (a_C)) ?_
  refine Eq.trans (Eq.trans (r_go (act := oS (fSt 43 (gC (.int 12)))) rfl rfl) (a_C)) ?_
  refine Eq.trans (Eq.trans (r_go (act := oS (fCp g 46)) rfl rfl) (a_cp (zCp (zA_219 g h1) (zA_19 g) zS_219 zS_19 (by decide +kernel) (by decide +kernel) rfl))) ?_
  exact Eq.trans (r_go (act := oVret) rfl rfl) (a_vret)
theorem x_X7_take_0_2 (g : zg) (h1 : g.1 = true) (M : zM) : X_X7_take g [.ref 17, .ref 217] M = some (none, ((zcp (zcp (zu (zu M.1 17 3 (M.1 217 3)) 17 2 (M.1 217 2)) 218 18 (zx 12)) 219 19 (zx 12)), M.2)) := e_X7_take_0_2 g h1 M
set_option maxRecDepth 20000 in
theorem e_X0_take_0_1 (g : zg) (h1 : g.1 = true) (M : zM) : zX (t_X0_take g) 0 [some (.ref 220), some (.ref 20)] [] M = some (none, ((zcp (zcp (zcp (zcp (zu M.1 220 4 (M.1 20 4)) 21 221 (zx 16)) 22 222 (zx 16)) 23 223 (zx 16)) 24 224 (zx 16)), M.2)) := by
  refine Eq.trans (zX_rgN (tl_X0_take g) (hc_X0_take g) 38 _ _ _ _) ?_
  refine Eq.trans (Eq.trans (r_0 (act := oS (fAld 1 0)) rfl) (a_ald rfl)) ?_
  refine Eq.trans (Eq.trans (r_go (act := oS (fAld 2 1)) rfl rfl) (a_ald rfl)) ?_
  refine Eq.trans (Eq.trans (r_go (act := oS (fGi g 5 0 4)) rfl rfl) (a_gi (zO_20 g))) ?_
  refine Eq.trans (Eq.trans (r_go (act := oS (fPi g 8 0 4)) rfl rfl) (a_pi (zO_220 g h1))) ?_
  refine Eq.trans (Eq.trans (r_go (act := oS (fAld 9 1)) rfl rfl) (a_ald rfl)) ?_
  refine Eq.trans (Eq.trans (r_go (act := oS (fGr g 12 0 0)) rfl rfl) (a_gr (zO_20 g) (zR_20_0 g))) ?_
  refine Eq.trans (Eq.trans (r_go (act := oS (fSt 13 (gC (.int 0)))) rfl rfl) (a_C)) ?_
  refine Eq.trans (Eq.trans (r_go (act := oS (fAld 14 0)) rfl rfl) (a_ald rfl)) ?_
  refine Eq.trans (Eq.trans (r_go (act := oS (fGr g 17 0 0)) rfl rfl) (a_gr (zO_220 g h1) (zR_220_0 g h1))) ?_
  refine Eq.trans (Eq.trans (r_go (act := oS (fSt 18 (gC (.int 0)))) rfl rfl) (a_C)) ?_
  refine Eq.trans (Eq.trans (r_go (act := oS (fSt 20 (gC (.int 16)))) rfl rfl) (a_C)) ?_
  refine Eq.trans (Eq.trans (r_go (act := oS (fCp g 23)) rfl rfl) (a_cp (zCp (zA_21 g) (zA_221 g h1) zS_21 zS_221 (by decide +kernel) (by decide +kernel) rfl))) ?_
  refine Eq.trans (Eq.trans (r_go (act := oS (fAld 24 1)) rfl rfl) (a_ald rfl)) ?_
  refine Eq.trans (Eq.trans (r_go (act := oS (fGr g 27 0 1)) rfl rfl) (a_gr (zO_20 g) (zR_20_1 g))) ?_
  refine Eq.trans (Eq.trans (r_go (act := oS (fSt 28 (gC (.int 0)))) rfl rfl) (a_C)) ?_
  refine Eq.trans (Eq.trans (r_go (act := oS (fAld 29 0)) rfl rfl) (a_ald rfl)) ?_
  refine Eq.trans (Eq.trans (r_go (act := oS (fGr g 32 0 1)) rfl rfl) (a_gr (zO_220 g h1) (zR_220_1 g h1))) ?_
  refine Eq.trans (Eq.trans (r_go (act := oS (fSt 33 (gC (.int 0)))) rfl rfl) (a_C)) ?_
  refine Eq.trans (Eq.trans (r_go (act := oS (fSt 35 (gC (.int 16)))) rfl rfl) (a_C)) ?_
  refine Eq.trans (Eq.trans (r_go (act := oS (fCp g 38)) rfl rfl) (a_cp (zCp (zA_22 g) (zA_222 g h1) zS_22 zS_222 (by decide +kernel) (by decide +kernel) rfl))) ?_
  refine Eq.trans (Eq.trans (r_go (act := oS (fAld 39 1)) rfl rfl) (a_ald rfl)) ?_
  refine Eq.trans (Eq.trans (r_go (act := oS (fGr g 42 0 2)) rfl rfl) (a_gr (zO_20 g) (zR_20_2 g))) ?_
  refine Eq.trans (Eq.trans (r_go (act := oS (fSt 43 (gC (.int 0)))) rfl rfl) (a_C)) ?_
  refine Eq.trans (Eq.trans (r_go (act := oS (fAld 44 0)) rfl rfl) (a_ald rfl)) ?_
  refine Eq.trans (Eq.trans (r_go (act := oS (fGr g 47 0 2)) rfl rfl) (a_gr (zO_220 g h1) (zR_220_2 g h1))) ?_
  refine Eq.trans (Eq.trans (r_go (act := oS (fSt 48 (gC (.int 0)))) rfl rfl) (a_C)) ?_
  refine Eq.trans (Eq.trans (r_go (act := oS (fSt 50 (gC (.int 16)))) rfl rfl) (a_C)) ?_
  refine Eq.trans (Eq.trans (r_go (act := oS (fCp g 53)) rfl rfl) (a_cp (zCp (zA_23 g) (zA_223 g h1) zS_23 zS_223 (by decide +kernel) (by decide +kernel) rfl))) ?_
  refine Eq.trans (Eq.trans (r_go (act := oS (fAld 54 1)) rfl rfl) (a_ald rfl)) ?_
  refine Eq.trans (Eq.trans (r_go (act := oS (fGr g 57 0 3)) rfl rfl) (a_gr (zO_20 g) (zR_20_3 g))) ?_
  refine Eq.trans (Eq.trans (r_go (act := oS (fSt 58 (gC (.int 0)))) rfl rfl) (a_C)) ?_
  refine Eq.trans (Eq.trans (r_go (act := oS (fAld 59 0)) rfl rfl) (a_ald rfl)) ?_
  refine Eq.trans (Eq.trans (r_go (act := oS (fGr g 62 0 3)) rfl rfl) (a_gr (zO_220 g h1) (zR_220_3 g h1))) ?_
  refine Eq.trans (Eq.trans (r_go (act := oS (fSt 63 (gC (.int 0)))) rfl rfl) (a_C)) ?_
  refine Eq.trans (Eq.trans (r_go (act := oS (fSt 65 (gC (.int 16)))) rfl rfl) (a_C)) ?_
  refine Eq.trans (Eq.trans (r_go (act := oS (fCp g 68)) rfl rfl) (a_cp (zCp (zA_24 g) (zA_224 g h1) zS_24 zS_224 (by decide +kernel) (by decide +kernel) rfl))) ?_
  exact Eq.trans (r_go (act := oVret) rfl rfl) (a_vret)
theorem x_X0_take_0_1 (g : zg) (h1 : g.1 = true) (M : zM) : X_X0_take g [.ref 220, .ref 20] M = some (none, ((zcp (zcp (zcp (zcp (zu M.1 220 4 (M.1 20 4)) 21 221 (zx 16)) 22 222 (zx 16)) 23 223 (zx 16)) 24 224 (zx 16)), M.2)) := e_X0_take_0_1 g h1 M
set_option maxRecDepth 20000 in
theorem e_X0_take_0_2 (g : zg) (h1 : g.1 = true) (M : zM) : zX (t_X0_take g) 0 [some (.ref 20), some (.ref 220)] [] M = some (none, ((zcp (zcp (zcp (zcp (zu M.1 20 4 (M.1 220 4)) 221 21 (zx 16)) 222 22 (zx 16)) 223 23 (zx 16)) 224 24 (zx 16)), M.2)) := by
  refine Eq.trans (zX_rgN (tl_X0_take g) (hc_X0_take g) 38 _ _ _ _) ?_
  refine Eq.trans (Eq.trans (r_0 (act := oS (fAld 1 0)) rfl) (a_ald rfl)) ?_
  refine Eq.trans (Eq.trans (r_go (act := oS (fAld 2 1)) rfl rfl) (a_ald rfl)) ?_
  refine Eq.trans (Eq.trans (r_go (act := oS (fGi g 5 0 4)) rfl rfl) (a_gi (zO_220 g h1))) ?_
  refine Eq.trans (Eq.trans (r_go (act := oS (fPi g 8 0 4)) rfl rfl) (a_pi (zO_20 g))) ?_
  refine Eq.trans (Eq.trans (r_go (act := oS (fAld 9 1)) rfl rfl) (a_ald rfl)) ?_
  refine Eq.trans (Eq.trans (r_go (act := oS (fGr g 12 0 0)) rfl rfl) (a_gr (zO_220 g h1) (zR_220_0 g h1))) ?_
  refine Eq.trans (Eq.trans (r_go (act := oS (fSt 13 (gC (.int 0)))) rfl rfl) (a_C)) ?_
  refine Eq.trans (Eq.trans (r_go (act := oS (fAld 14 0)) rfl rfl) (a_ald rfl)) ?_
  refine Eq.trans (Eq.trans (r_go (act := oS (fGr g 17 0 0)) rfl rfl) (a_gr (zO_20 g) (zR_20_0 g))) ?_
  refine Eq.trans (Eq.trans (r_go (act := oS (fSt 18 (gC (.int 0)))) rfl rfl) (a_C)) ?_
  refine Eq.trans (Eq.trans (r_go (act := oS (fSt 20 (gC (.int 16)))) rfl rfl) (a_C)) ?_
  refine Eq.trans (Eq.trans (r_go (act := oS (fCp g 23)) rfl rfl) (a_cp (zCp (zA_221 g h1) (zA_21 g) zS_221 zS_21 (by decide +kernel) (by decide +kernel) rfl))) ?_
  refine Eq.trans (Eq.trans (r_go (act := oS (fAld 24 1)) rfl rfl) (a_ald rfl)) ?_
  refine Eq.trans (Eq.trans (r_go (act := oS (fGr g 27 0 1)) rfl rfl) (a_gr (zO_220 g h1) (zR_220_1 g h1))) ?_
  refine Eq.trans (Eq.trans (r_go (act := oS (fSt 28 (gC (.int 0)))) rfl rfl) (a_C)) ?_
  refine Eq.trans (Eq.trans (r_go (act := oS (fAld 29 0)) rfl rfl) (a_ald rfl)) ?_
  refine Eq.trans (Eq.trans (r_go (act := oS (fGr g 32 0 1)) rfl rfl) (a_gr (zO_20 g) (zR_20_1 g))) ?_
  refine Eq.trans (Eq.trans (r_go (act := oS (fSt 33 (gC (.int 0)))) rfl rfl) (a_C)) ?_
  refine Eq.trans (Eq.trans (r_go (act := oS (fSt 35 (gC (.int 16)))) rfl rfl) (a_C)) ?_
  refine Eq.trans (Eq.trans (r_go (act := oS (fCp g 38)) rfl rfl) (a_cp (zCp (zA_222 g h1) (zA_22 g) zS_222 zS_22 (by decide +kernel) (by decide +kernel) rfl))) ?_
  refine Eq.trans (Eq.trans (r_go (act := oS (fAld 39 1)) rfl rfl) (a_ald rfl)) ?_
  refine Eq.trans (Eq.trans (r_go (act := oS (fGr g 42 0 2)) rfl rfl) (a_gr (zO_220 g h1) (zR_220_2 g h1))) ?_
  refine Eq.trans (Eq.trans (r_go (act := oS (fSt 43 (gC (.int 0)))) rfl rfl) (a_C)) ?_
  refine Eq.trans (Eq.trans (r_go (act := oS (fAld 44 0)) rfl rfl) (a_ald rfl)) ?_
  refine Eq.trans (Eq.trans (r_go (act := oS (fGr g 47 0 2)) rfl rfl) (a_gr (zO_20 g) (zR_20_2 g))) ?_
  refine Eq.trans (Eq.trans (r_go (act := oS (fSt 48 (gC (.int 0)))) rfl rfl) (a_C)) ?_
  refine Eq.trans (Eq.trans (r_go (act := oS (fSt 50 (gC (.int 16)))) rfl rfl) (a_C)) ?_
  refine Eq.trans (Eq.trans (r_go (act := oS (fCp g 53)) rfl rfl) (a_cp (zCp (zA_223 g h1) (zA_23 g) zS_223 zS_23 (by decide +kernel) (by decide +kernel) rfl))) ?_
  refine Eq.trans (Eq.trans (r_go (act := oS (fAld 54 1)) rfl rfl) (a_ald rfl)) ?_
  refine Eq.trans (Eq.trans (r_go (act := oS (fGr g 57 0 3)) rfl rfl) (a_gr (zO_220 g h1) (zR_220_3 g h1))) ?_
  refine Eq.trans (Eq.trans (r_go (act := oS (fSt 58 (gC (.int 0)))) rfl rfl) (a_C)) ?_
  refine Eq.trans (Eq.trans (r_go (act := oS (fAld 59 0)) rfl rfl) (a_ald rfl)) ?_
  refine Eq.trans (Eq.trans (r_go (act := oS (fGr g 62 0 3)) rfl rfl) (a_gr (zO_20 g) (zR_20_3 g))) ?_
  refine Eq.trans (Eq.trans (r_go (act := oS (fSt 63 (gC (.int 0)))) rfl rfl) (a_C)) ?_
  refine Eq.trans (Eq.trans (r_go (act := oS (fSt 65 (gC (.int 16)))) rfl rfl) (a_C)) ?_
  refine Eq.trans (Eq.trans (r_go (act := oS (fCp g 68)) rfl rfl) (a_cp (zCp (zA_224 g h1) (zA_24 g) zS_224 zS_24 (by decide +kernel) (by decide +kernel) rfl))) ?_
  exact Eq.trans (r_go (act := oVret) rfl rfl) (a_vret)
theorem x_X0_take_0_2 (g : zg) (h1 : g.1 = true) (M : zM) : X_X0_take g [.ref 20, .ref 220] M = some (none, ((zcp (zcp (zcp (zcp (zu M.1 20 4 (M.1 220 4)) 221 21 (zx 16)) 222 22 (zx 16)) 223 23 (zx 16)) 224 24 (zx 16)), M.2)) := e_X0_take_0_2 g h1 M
set_option maxRecDepth 20000 in
theorem e_J6_bitCount_0f7a4_0 (g : zg) (a0 : Int32) (M : zM) : zX (t_J6_bitCount_0f7a4 g) 0 [some (.int a0)] [] M = some (some (.int ((((((((a0 - ((zushr a0 1) &&& 1431655765)) &&& 858993459) + ((zushr (a0 - ((zushr a0 1) &&& 1431655765)) 2) &&& 858993459)) + (zushr (((a0 - ((zushr a0 1) &&& 1431655765)) &&& 858993459) + ((zushr (a0 - ((zushr a0 1) &&& 1431655765)) 2) &&& 858993459)) 4)) &&& 252645135) + (zushr (((((a0 - ((zushr a0 1) &&& 1431655765)) &&& 858993459) + ((zushr (a0 - ((zushr a0 1) &&& 1431655765)) 2) &&& 858993459)) + (zushr (((a0 - ((zushr a0 1) &&& 1431655765)) &&& 858993459) + ((zushr (a0 - ((zushr a0 1) &&& 1431655765)) 2) &&& 858993459)) 4)) &&& 252645135) 8)) + (zushr ((((((a0 - ((zushr a0 1) &&& 1431655765)) &&& 858993459) + ((zushr (a0 - ((zushr a0 1) &&& 1431655765)) 2) &&& 858993459)) + (zushr (((a0 - ((zushr a0 1) &&& 1431655765)) &&& 858993459) + ((zushr (a0 - ((zushr a0 1) &&& 1431655765)) 2) &&& 858993459)) 4)) &&& 252645135) + (zushr (((((a0 - ((zushr a0 1) &&& 1431655765)) &&& 858993459) + ((zushr (a0 - ((zushr a0 1) &&& 1431655765)) 2) &&& 858993459)) + (zushr (((a0 - ((zushr a0 1) &&& 1431655765)) &&& 858993459) + ((zushr (a0 - ((zushr a0 1) &&& 1431655765)) 2) &&& 858993459)) 4)) &&& 252645135) 8)) 16)) &&& 63)), M) := by
  refine Eq.trans (zX_rgN (tl_J6_bitCount_0f7a4 g) (hc_J6_bitCount_0f7a4 g) 43 _ _ _ _) ?_
  refine Eq.trans (Eq.trans (r_0 (act := oS (fIld 1 0)) rfl) (a_ild rfl)) ?_
  refine Eq.trans (Eq.trans (r_go (act := oS (fIld 2 0)) rfl rfl) (a_ild rfl)) ?_
  refine Eq.trans (Eq.trans (r_go (act := oS (fSt 3 (gC (.int 1)))) rfl rfl) (a_C)) ?_
  refine Eq.trans (Eq.trans (r_go (act := oS (fSt 4 (g2 zushr))) rfl rfl) (a_ush)) ?_
  refine Eq.trans (Eq.trans (r_go (act := oS (fSt 7 (gC (.int 1431655765)))) rfl rfl) (a_C)) ?_
  refine Eq.trans (Eq.trans (r_go (act := oS (fSt 8 (g2 (fun x y => x &&& y)))) rfl rfl) (a_and)) ?_
  refine Eq.trans (Eq.trans (r_go (act := oS (fSt 9 (g2 (fun x y => x - y)))) rfl rfl) (a_sub)) ?_
  refine Eq.trans (Eq.trans (r_go (act := oS (fIst 10 0)) rfl rfl) (a_ist rfl rfl)) ?_
  refine Eq.trans (Eq.trans (r_go (act := oS (fIld 11 0)) rfl rfl) (a_ild rfl)) ?_
  refine Eq.trans (Eq.trans (r_go (act := oS (fSt 14 (gC (.int 858993459)))) rfl rfl) (a_C)) ?_
  refine Eq.trans (Eq.trans (r_go (act := oS (fSt 15 (g2 (fun x y => x &&& y)))) rfl rfl) (a_and)) ?_
  refine Eq.trans (Eq.trans (r_go (act := oS (fIld 16 0)) rfl rfl) (a_ild rfl)) ?_
  refine Eq.trans (Eq.trans (r_go (act := oS (fSt 17 (gC (.int 2)))) rfl rfl) (a_C)) ?_
  refine Eq.trans (Eq.trans (r_go (act := oS (fSt 18 (g2 zushr))) rfl rfl) (a_ush)) ?_
  refine Eq.trans (Eq.trans (r_go (act := oS (fSt 21 (gC (.int 858993459)))) rfl rfl) (a_C)) ?_
  refine Eq.trans (Eq.trans (r_go (act := oS (fSt 22 (g2 (fun x y => x &&& y)))) rfl rfl) (a_and)) ?_
  refine Eq.trans (Eq.trans (r_go (act := oS (fSt 23 (g2 (fun x y => x + y)))) rfl rfl) (a_add)) ?_
  refine Eq.trans (Eq.trans (r_go (act := oS (fIst 24 0)) rfl rfl) (a_ist rfl rfl)) ?_
  refine Eq.trans (Eq.trans (r_go (act := oS (fIld 25 0)) rfl rfl) (a_ild rfl)) ?_
  refine Eq.trans (Eq.trans (r_go (act := oS (fIld 26 0)) rfl rfl) (a_ild rfl)) ?_
  refine Eq.trans (Eq.trans (r_go (act := oS (fSt 27 (gC (.int 4)))) rfl rfl) (a_C)) ?_
  refine Eq.trans (Eq.trans (r_go (act := oS (fSt 28 (g2 zushr))) rfl rfl) (a_ush)) ?_
  refine Eq.trans (Eq.trans (r_go (act := oS (fSt 29 (g2 (fun x y => x + y)))) rfl rfl) (a_add)) ?_
  refine Eq.trans (Eq.trans (r_go (act := oS (fSt 32 (gC (.int 252645135)))) rfl rfl) (a_C)) ?_
  refine Eq.trans (Eq.trans (r_go (act := oS (fSt 33 (g2 (fun x y => x &&& y)))) rfl rfl) (a_and)) ?_
  refine Eq.trans (Eq.trans (r_go (act := oS (fIst 34 0)) rfl rfl) (a_ist rfl rfl)) ?_
  refine Eq.trans (Eq.trans (r_go (act := oS (fIld 35 0)) rfl rfl) (a_ild rfl)) ?_
  refine Eq.trans (Eq.trans (r_go (act := oS (fIld 36 0)) rfl rfl) (a_ild rfl)) ?_
  refine Eq.trans (Eq.trans (r_go (act := oS (fSt 38 (gC (.int 8)))) rfl rfl) (a_C)) ?_
  refine Eq.trans (Eq.trans (r_go (act := oS (fSt 39 (g2 zushr))) rfl rfl) (a_ush)) ?_
  refine Eq.trans (Eq.trans (r_go (act := oS (fSt 40 (g2 (fun x y => x + y)))) rfl rfl) (a_add)) ?_
  refine Eq.trans (Eq.trans (r_go (act := oS (fIst 41 0)) rfl rfl) (a_ist rfl rfl)) ?_
  refine Eq.trans (Eq.trans (r_go (act := oS (fIld 42 0)) rfl rfl) (a_ild rfl)) ?_
  refine Eq.trans (Eq.trans (r_go (act := oS (fIld 43 0)) rfl rfl) (a_ild rfl)) ?_
  refine Eq.trans (Eq.trans (r_go (act := oS (fSt 45 (gC (.int 16)))) rfl rfl) (a_C)) ?_
  refine Eq.trans (Eq.trans (r_go (act := oS (fSt 46 (g2 zushr))) rfl rfl) (a_ush)) ?_
  refine Eq.trans (Eq.trans (r_go (act := oS (fSt 47 (g2 (fun x y => x + y)))) rfl rfl) (a_add)) ?_
  refine Eq.trans (Eq.trans (r_go (act := oS (fIst 48 0)) rfl rfl) (a_ist rfl rfl)) ?_
  refine Eq.trans (Eq.trans (r_go (act := oS (fIld 49 0)) rfl rfl) (a_ild rfl)) ?_
  refine Eq.trans (Eq.trans (r_go (act := oS (fSt 51 (gC (.int 63)))) rfl rfl) (a_C)) ?_
  refine Eq.trans (Eq.trans (r_go (act := oS (fSt 52 (g2 (fun x y => x &&& y)))) rfl rfl) (a_and)) ?_
  exact Eq.trans (r_go (act := oIret) rfl rfl) (a_iret)
theorem x_J6_bitCount_0f7a4_0 (g : zg) (a0 : Int32) (M : zM) : X_J6_bitCount_0f7a4 g [.int a0] M = some (some (.int ((((((((a0 - ((zushr a0 1) &&& 1431655765)) &&& 858993459) + ((zushr (a0 - ((zushr a0 1) &&& 1431655765)) 2) &&& 858993459)) + (zushr (((a0 - ((zushr a0 1) &&& 1431655765)) &&& 858993459) + ((zushr (a0 - ((zushr a0 1) &&& 1431655765)) 2) &&& 858993459)) 4)) &&& 252645135) + (zushr (((((a0 - ((zushr a0 1) &&& 1431655765)) &&& 858993459) + ((zushr (a0 - ((zushr a0 1) &&& 1431655765)) 2) &&& 858993459)) + (zushr (((a0 - ((zushr a0 1) &&& 1431655765)) &&& 858993459) + ((zushr (a0 - ((zushr a0 1) &&& 1431655765)) 2) &&& 858993459)) 4)) &&& 252645135) 8)) + (zushr ((((((a0 - ((zushr a0 1) &&& 1431655765)) &&& 858993459) + ((zushr (a0 - ((zushr a0 1) &&& 1431655765)) 2) &&& 858993459)) + (zushr (((a0 - ((zushr a0 1) &&& 1431655765)) &&& 858993459) + ((zushr (a0 - ((zushr a0 1) &&& 1431655765)) 2) &&& 858993459)) 4)) &&& 252645135) + (zushr (((((a0 - ((zushr a0 1) &&& 1431655765)) &&& 858993459) + ((zushr (a0 - ((zushr a0 1) &&& 1431655765)) 2) &&& 858993459)) + (zushr (((a0 - ((zushr a0 1) &&& 1431655765)) &&& 858993459) + ((zushr (a0 - ((zushr a0 1) &&& 1431655765)) 2) &&& 858993459)) 4)) &&& 252645135) 8)) 16)) &&& 63)), M) := e_J6_bitCount_0f7a4_0 g a0 M
set_option maxRecDepth 20000 in
theorem e_X6_tellersOf_0 (g : zg) (a1 : Int32) (M : zM) : zX (t_X6_tellersOf g) 0 [some (.ref 32), some (.int a1), none, none] [] M = zX (t_X6_tellersOf g) 4 [some (.ref 32), some (.int a1), some (.int 0), some (.int 0)] [] M := by
  refine Eq.trans (zX_rgN (tl_X6_tellersOf g) (hc_X6_tellersOf g) 6 _ _ _ _) ?_
  refine Eq.trans (Eq.trans (r_0 (act := oS (fSt 1 (gC (.int 0)))) rfl) (a_C)) ?_
  refine Eq.trans (Eq.trans (r_go (act := oS (fIst 2 2)) rfl rfl) (a_ist rfl rfl)) ?_
  refine Eq.trans (Eq.trans (r_go (act := oS (fSt 3 (gC (.int 0)))) rfl rfl) (a_C)) ?_
  refine Eq.trans (Eq.trans (r_go (act := oS (fIst 4 3)) rfl rfl) (a_ist rfl rfl)) ?_
  exact r_cut rfl rfl
theorem x_X6_tellersOf_0 (g : zg) (a1 : Int32) (M : zM) : X_X6_tellersOf g [.ref 32, .int a1] M = zX (t_X6_tellersOf g) 4 [some (.ref 32), some (.int a1), some (.int 0), some (.int 0)] [] M := e_X6_tellersOf_0 g a1 M
set_option maxRecDepth 20000 in
theorem e_X6_tellersOf_4 (g : zg) (a1 : Int32) (a2 : Int32) (a3 : Int32) (M : zM) : zX (t_X6_tellersOf g) 4 [some (.ref 32), some (.int a1), some (.int a2), some (.int a3)] [] M = (bif cLt a3 (M.1 32 7) then (bif cEq a1 (-1) then (bif zb a3 20 then zX (t_X6_tellersOf g) 4 [some (.ref 32), some (.int a1), some (.int (a2 ||| ((1 : Int32) <<< ((M.1 34 (zx a3)) &&& 31)))), some (.int (a3 + 1))] [] M else none) else (bif zb a3 20 then (bif cEq (M.1 35 (zx a3)) a1 then (bif zb a3 20 then zX (t_X6_tellersOf g) 4 [some (.ref 32), some (.int a1), some (.int (a2 ||| ((1 : Int32) <<< ((M.1 34 (zx a3)) &&& 31)))), some (.int (a3 + 1))] [] M else none) else zX (t_X6_tellersOf g) 4 [some (.ref 32), some (.int a1), some (.int a2), some (.int (a3 + 1))] [] M) else none)) else (zbI (X_J6_bitCount_0f7a4 g [.int a2] M) (fun x1 M1 => some (some (.int x1), M1)))) := by
  refine Eq.trans (zX_rgN (tl_X6_tellersOf g) (hc_X6_tellersOf g) 26 _ _ _ _) ?_
  refine Eq.trans (Eq.trans (Eq.trans (r_0 (act := oF [] (oS (fIld 5 3))) rfl) (a_F rfl)) (a_ild rfl)) ?_
  refine Eq.trans (Eq.trans (r_go (act := oS (fAld 6 0)) rfl rfl) (a_ald rfl)) ?_
  refine Eq.trans (Eq.trans (r_go (act := oS (fGi g 9 6 7)) rfl rfl) (a_gi (zO_32 g))) ?_
  refine Eq.trans (Eq.trans (r_go (act := oS (fCm 12 44 cLt)) rfl rfl) (a_cm)) (bcg ?_ ?_)
  · refine Eq.trans (Eq.trans (r_go (act := oS (fIld 13 1)) rfl rfl) (a_ild rfl)) ?_
    refine Eq.trans (Eq.trans (r_go (act := oS (fSt 14 (gC (.int (-1))))) rfl rfl) (a_C)) ?_
    refine Eq.trans (Eq.trans (r_go (act := oS (fCm 27 17 cEq)) rfl rfl) (a_cm)) (bcg ?_ ?_)
    · refine Eq.trans (Eq.trans (r_go (act := oS (fIld 28 2)) rfl rfl) (a_ild rfl)) ?_
      refine Eq.trans (Eq.trans (r_go (act := oS (fSt 29 (gC (.int 1)))) rfl rfl) (a_C)) ?_
      refine Eq.trans (Eq.trans (r_go (act := oS (fAld 30 0)) rfl rfl) (a_ald rfl)) ?_
      refine Eq.trans (Eq.trans (r_go (act := oS (fGr g 33 6 1)) rfl rfl) (a_gr (zO_32 g) (zR_32_1 g))) ?_
      refine Eq.trans (Eq.trans (r_go (act := oS (fIld 34 3)) rfl rfl) (a_ild rfl)) ?_
      refine Eq.trans (Eq.trans (r_go (act := oS (fIa g 35)) rfl rfl) (a_ia (zA_34 g) zS_34)) (bcg ?_ rfl)
      refine Eq.trans (Eq.trans (r_go (act := oS (fSt 36 (g2 (fun x y => x <<< (y &&& 31))))) rfl rfl) (a_shl)) ?_
      refine Eq.trans (Eq.trans (r_go (act := oS (fSt 37 (g2 (fun x y => x ||| y)))) rfl rfl) (a_or)) ?_
      refine Eq.trans (Eq.trans (r_go (act := oS (fIst 38 2)) rfl rfl) (a_ist rfl rfl)) ?_
      refine Eq.trans (Eq.trans (r_go (act := oS (fInc 41 3 1)) rfl rfl) (a_inc rfl rfl rfl)) ?_
      refine Eq.trans (Eq.trans (r_go (act := oS (fGo 4)) rfl rfl) (a_goto)) ?_
      exact r_cut rfl rfl
    · refine Eq.trans (Eq.trans (r_go (act := oS (fAld 18 0)) rfl rfl) (a_ald rfl)) ?_
      refine Eq.trans (Eq.trans (r_go (act := oS (fGr g 21 6 2)) rfl rfl) (a_gr (zO_32 g) (zR_32_2 g))) ?_
      refine Eq.trans (Eq.trans (r_go (act := oS (fIld 22 3)) rfl rfl) (a_ild rfl)) ?_
      refine Eq.trans (Eq.trans (r_go (act := oS (fIa g 23)) rfl rfl) (a_ia (zA_35 g) zS_35)) (bcg ?_ rfl)
      refine Eq.trans (Eq.trans (r_go (act := oS (fIld 24 1)) rfl rfl) (a_ild rfl)) ?_
      refine Eq.trans (Eq.trans (r_go (act := oS (fCm 27 38 cEq)) rfl rfl) (a_cm)) (bcg ?_ ?_)
      · refine Eq.trans (Eq.trans (r_go (act := oS (fIld 28 2)) rfl rfl) (a_ild rfl)) ?_
        refine Eq.trans (Eq.trans (r_go (act := oS (fSt 29 (gC (.int 1)))) rfl rfl) (a_C)) ?_
        refine Eq.trans (Eq.trans (r_go (act := oS (fAld 30 0)) rfl rfl) (a_ald rfl)) ?_
        refine Eq.trans (Eq.trans (r_go (act := oS (fGr g 33 6 1)) rfl rfl) (a_gr (zO_32 g) (zR_32_1 g))) ?_
        refine Eq.trans (Eq.trans (r_go (act := oS (fIld 34 3)) rfl rfl) (a_ild rfl)) ?_
        refine Eq.trans (Eq.trans (r_go (act := oS (fIa g 35)) rfl rfl) (a_ia (zA_34 g) zS_34)) (bcg ?_ rfl)
        refine Eq.trans (Eq.trans (r_go (act := oS (fSt 36 (g2 (fun x y => x <<< (y &&& 31))))) rfl rfl) (a_shl)) ?_
        refine Eq.trans (Eq.trans (r_go (act := oS (fSt 37 (g2 (fun x y => x ||| y)))) rfl rfl) (a_or)) ?_
        refine Eq.trans (Eq.trans (r_go (act := oS (fIst 38 2)) rfl rfl) (a_ist rfl rfl)) ?_
        refine Eq.trans (Eq.trans (r_go (act := oS (fInc 41 3 1)) rfl rfl) (a_inc rfl rfl rfl)) ?_
        refine Eq.trans (Eq.trans (r_go (act := oS (fGo 4)) rfl rfl) (a_goto)) ?_
        exact r_cut rfl rfl
      · refine Eq.trans (Eq.trans (r_go (act := oS (fInc 41 3 1)) rfl rfl) (a_inc rfl rfl rfl)) ?_
        refine Eq.trans (Eq.trans (r_go (act := oS (fGo 4)) rfl rfl) (a_goto)) ?_
        exact r_cut rfl rfl
  · refine Eq.trans (Eq.trans (r_go (act := oS (fIld 45 2)) rfl rfl) (a_ild rfl)) ?_
    refine Eq.trans (Eq.trans (r_go (act := oCI 48 1 zcs (X_J6_bitCount_0f7a4 g)) rfl rfl) (a_cI rfl rfl)) (zbI_cg (fun x1 M1 => ?_))
    exact Eq.trans (r_go (act := oIret) rfl rfl) (a_iret)
set_option maxRecDepth 20000 in
theorem e_X6_bestToAsk_0 (g : zg) (M : zM) : zX (t_X6_bestToAsk g) 0 [some (.ref 32), none, none, none, none, none, none] [] M = (zbI (X_X6_tellersOf g [.ref 32, .int (-1)] M) (fun x1 M1 => (bif cLt x1 2 then some (some (.int (-1)), M1) else zX (t_X6_bestToAsk g) 20 [some (.ref 32), some (.int x1), some (.int (-1)), some (.int 0), some (.int 0), none, none] [] M1))) := by
  refine Eq.trans (zX_rgN (tl_X6_bestToAsk g) (hc_X6_bestToAsk g) 15 _ _ _ _) ?_
  refine Eq.trans (Eq.trans (r_0 (act := oS (fAld 1 0)) rfl) (a_ald rfl)) ?_
  refine Eq.trans (Eq.trans (r_go (act := oS (fSt 2 (gC (.int (-1))))) rfl rfl) (a_C)) ?_
  refine Eq.trans (Eq.trans (r_go (act := oCI 5 2 (zcv g 6) (X_X6_tellersOf g)) rfl rfl) (a_cI rfl (zck (zO_32 g) rfl))) (zbI_cg (fun x1 M1 => ?_))
  refine Eq.trans (Eq.trans (r_go (act := oS (fIst 6 1)) rfl rfl) (a_ist rfl rfl)) ?_
  refine Eq.trans (Eq.trans (r_go (act := oS (fIld 7 1)) rfl rfl) (a_ild rfl)) ?_
  refine Eq.trans (Eq.trans (r_go (act := oS (fSt 8 (gC (.int 2)))) rfl rfl) (a_C)) ?_
  refine Eq.trans (Eq.trans (r_go (act := oS (fCm 11 13 cLt)) rfl rfl) (a_cm)) (bcg ?_ ?_)
  · refine Eq.trans (Eq.trans (r_go (act := oS (fSt 12 (gC (.int (-1))))) rfl rfl) (a_C)) ?_
    exact Eq.trans (r_go (act := oIret) rfl rfl) (a_iret)
  · refine Eq.trans (Eq.trans (r_go (act := oS (fSt 14 (gC (.int (-1))))) rfl rfl) (a_C)) ?_
    refine Eq.trans (Eq.trans (r_go (act := oS (fIst 15 2)) rfl rfl) (a_ist rfl rfl)) ?_
    refine Eq.trans (Eq.trans (r_go (act := oS (fSt 16 (gC (.int 0)))) rfl rfl) (a_C)) ?_
    refine Eq.trans (Eq.trans (r_go (act := oS (fIst 17 3)) rfl rfl) (a_ist rfl rfl)) ?_
    refine Eq.trans (Eq.trans (r_go (act := oS (fSt 18 (gC (.int 0)))) rfl rfl) (a_C)) ?_
    refine Eq.trans (Eq.trans (r_go (act := oS (fIst 20 4)) rfl rfl) (a_ist rfl rfl)) ?_
    exact r_cut rfl rfl
theorem x_X6_bestToAsk_0 (g : zg) (M : zM) : X_X6_bestToAsk g [.ref 32] M = (zbI (X_X6_tellersOf g [.ref 32, .int (-1)] M) (fun x1 M1 => (bif cLt x1 2 then some (some (.int (-1)), M1) else zX (t_X6_bestToAsk g) 20 [some (.ref 32), some (.int x1), some (.int (-1)), some (.int 0), some (.int 0), none, none] [] M1))) := e_X6_bestToAsk_0 g M
set_option maxRecDepth 20000 in
theorem e_X6_bestToAsk_20 (g : zg) (a1 : Int32) (a2 : Int32) (a3 : Int32) (a4 : Int32) (M : zM) : zX (t_X6_bestToAsk g) 20 [some (.ref 32), some (.int a1), some (.int a2), some (.int a3), some (.int a4), none, none] [] M = (bif cLt a4 12 then (zbI (X_X6_tellersOf g [.ref 32, .int a4] M) (fun x1 M1 => (zbI (X_J9_max_7cf53 g [.int x1, .int (a1 - x1)] M1) (fun x2 M2 => (bif cEq a2 (-1) then zX (t_X6_bestToAsk g) 20 [some (.ref 32), some (.int a1), some (.int a4), some (.int x2), some (.int (a4 + 1)), none, none] [] M2 else (bif cLt x2 a3 then zX (t_X6_bestToAsk g) 20 [some (.ref 32), some (.int a1), some (.int a4), some (.int x2), some (.int (a4 + 1)), none, none] [] M2 else zX (t_X6_bestToAsk g) 20 [some (.ref 32), some (.int a1), some (.int a2), some (.int a3), some (.int (a4 + 1)), none, none] [] M2)))))) else some (some (.int a2), M)) := by
  refine Eq.trans (zX_rgN (tl_X6_bestToAsk g) (hc_X6_bestToAsk g) 27 _ _ _ _) ?_
  refine Eq.trans (Eq.trans (Eq.trans (r_0 (act := oF [5, 6] (oS (fIld 22 4))) rfl) (a_F rfl)) (a_ild rfl)) ?_
  refine Eq.trans (Eq.trans (r_go (act := oS (fSt 24 (gC (.int 12)))) rfl rfl) (a_C)) ?_
  refine Eq.trans (Eq.trans (r_go (act := oS (fCm 27 69 cLt)) rfl rfl) (a_cm)) (bcg ?_ ?_)
  · refine Eq.trans (Eq.trans (r_go (act := oS (fAld 28 0)) rfl rfl) (a_ald rfl)) ?_
    refine Eq.trans (Eq.trans (r_go (act := oS (fIld 30 4)) rfl rfl) (a_ild rfl)) ?_
    refine Eq.trans (Eq.trans (r_go (act := oCI 33 2 (zcv g 6) (X_X6_tellersOf g)) rfl rfl) (a_cI rfl (zck (zO_32 g) rfl))) (zbI_cg (fun x1 M1 => ?_))
    refine Eq.trans (Eq.trans (r_go (act := oS (fIst 35 5)) rfl rfl) (a_ist rfl rfl)) ?_
    refine Eq.trans (Eq.trans (r_go (act := oS (fIld 37 5)) rfl rfl) (a_ild rfl)) ?_
    refine Eq.trans (Eq.trans (r_go (act := oS (fIld 38 1)) rfl rfl) (a_ild rfl)) ?_
    refine Eq.trans (Eq.trans (r_go (act := oS (fIld 40 5)) rfl rfl) (a_ild rfl)) ?_
    refine Eq.trans (Eq.trans (r_go (act := oS (fSt 41 (g2 (fun x y => x - y)))) rfl rfl) (a_sub)) ?_
    refine Eq.trans (Eq.trans (r_go (act := oCI 44 2 zcs (X_J9_max_7cf53 g)) rfl rfl) (a_cI rfl rfl)) (zbI_cg (fun x2 M2 => ?_))
    refine Eq.trans (Eq.trans (r_go (act := oS (fIst 46 6)) rfl rfl) (a_ist rfl rfl)) ?_
    refine Eq.trans (Eq.trans (r_go (act := oS (fIld 47 2)) rfl rfl) (a_ild rfl)) ?_
    refine Eq.trans (Eq.trans (r_go (act := oS (fSt 48 (gC (.int (-1))))) rfl rfl) (a_C)) ?_
    refine Eq.trans (Eq.trans (r_go (act := oS (fCm 57 51 cEq)) rfl rfl) (a_cm)) (bcg ?_ ?_)
    · refine Eq.trans (Eq.trans (r_go (act := oS (fIld 59 4)) rfl rfl) (a_ild rfl)) ?_
      refine Eq.trans (Eq.trans (r_go (act := oS (fIst 60 2)) rfl rfl) (a_ist rfl rfl)) ?_
      refine Eq.trans (Eq.trans (r_go (act := oS (fIld 62 6)) rfl rfl) (a_ild rfl)) ?_
      refine Eq.trans (Eq.trans (r_go (act := oS (fIst 63 3)) rfl rfl) (a_ist rfl rfl)) ?_
      refine Eq.trans (Eq.trans (r_go (act := oS (fInc 66 4 1)) rfl rfl) (a_inc rfl rfl rfl)) ?_
      refine Eq.trans (Eq.trans (r_go (act := oS (fGo 20)) rfl rfl) (a_goto)) ?_
      exact r_cut rfl rfl
    · refine Eq.trans (Eq.trans (r_go (act := oS (fIld 53 6)) rfl rfl) (a_ild rfl)) ?_
      refine Eq.trans (Eq.trans (r_go (act := oS (fIld 54 3)) rfl rfl) (a_ild rfl)) ?_
      refine Eq.trans (Eq.trans (r_go (act := oS (fCm 57 63 cLt)) rfl rfl) (a_cm)) (bcg ?_ ?_)
      · refine Eq.trans (Eq.trans (r_go (act := oS (fIld 59 4)) rfl rfl) (a_ild rfl)) ?_
        refine Eq.trans (Eq.trans (r_go (act := oS (fIst 60 2)) rfl rfl) (a_ist rfl rfl)) ?_
        refine Eq.trans (Eq.trans (r_go (act := oS (fIld 62 6)) rfl rfl) (a_ild rfl)) ?_
        refine Eq.trans (Eq.trans (r_go (act := oS (fIst 63 3)) rfl rfl) (a_ist rfl rfl)) ?_
        refine Eq.trans (Eq.trans (r_go (act := oS (fInc 66 4 1)) rfl rfl) (a_inc rfl rfl rfl)) ?_
        refine Eq.trans (Eq.trans (r_go (act := oS (fGo 20)) rfl rfl) (a_goto)) ?_
        exact r_cut rfl rfl
      · refine Eq.trans (Eq.trans (r_go (act := oS (fInc 66 4 1)) rfl rfl) (a_inc rfl rfl rfl)) ?_
        refine Eq.trans (Eq.trans (r_go (act := oS (fGo 20)) rfl rfl) (a_goto)) ?_
        exact r_cut rfl rfl
  · refine Eq.trans (Eq.trans (r_go (act := oS (fIld 70 2)) rfl rfl) (a_ild rfl)) ?_
    exact Eq.trans (r_go (act := oIret) rfl rfl) (a_iret)
set_option maxRecDepth 20000 in
theorem e_X6_courtiersOf_0 (g : zg) (a1 : Int32) (M : zM) : zX (t_X6_courtiersOf g) 0 [some (.ref 32), some (.int a1), none, none] [] M = zX (t_X6_courtiersOf g) 4 [some (.ref 32), some (.int a1), some (.int 0), some (.int 0)] [] M := by
  refine Eq.trans (zX_rgN (tl_X6_courtiersOf g) (hc_X6_courtiersOf g) 6 _ _ _ _) ?_
  refine Eq.trans (Eq.trans (r_0 (act := oS (fSt 1 (gC (.int 0)))) rfl) (a_C)) ?_
  refine Eq.trans (Eq.trans (r_go (act := oS (fIst 2 2)) rfl rfl) (a_ist rfl rfl)) ?_
  refine Eq.trans (Eq.trans (r_go (act := oS (fSt 3 (gC (.int 0)))) rfl rfl) (a_C)) ?_
  refine Eq.trans (Eq.trans (r_go (act := oS (fIst 4 3)) rfl rfl) (a_ist rfl rfl)) ?_
  exact r_cut rfl rfl
theorem x_X6_courtiersOf_0 (g : zg) (a1 : Int32) (M : zM) : X_X6_courtiersOf g [.ref 32, .int a1] M = zX (t_X6_courtiersOf g) 4 [some (.ref 32), some (.int a1), some (.int 0), some (.int 0)] [] M := e_X6_courtiersOf_0 g a1 M
set_option maxRecDepth 20000 in
theorem e_X6_courtiersOf_4 (g : zg) (a1 : Int32) (a2 : Int32) (a3 : Int32) (M : zM) : zX (t_X6_courtiersOf g) 4 [some (.ref 32), some (.int a1), some (.int a2), some (.int a3)] [] M = (bif cLt a3 (M.1 32 7) then (bif zb a3 20 then (bif cEq (M.1 34 (zx a3)) a1 then (bif zb a3 20 then zX (t_X6_courtiersOf g) 4 [some (.ref 32), some (.int a1), some (.int (a2 ||| ((1 : Int32) <<< ((M.1 35 (zx a3)) &&& 31)))), some (.int (a3 + 1))] [] M else none) else zX (t_X6_courtiersOf g) 4 [some (.ref 32), some (.int a1), some (.int a2), some (.int (a3 + 1))] [] M) else none) else some (some (.int a2), M)) := by
  refine Eq.trans (zX_rgN (tl_X6_courtiersOf g) (hc_X6_courtiersOf g) 23 _ _ _ _) ?_
  refine Eq.trans (Eq.trans (Eq.trans (r_0 (act := oF [] (oS (fIld 5 3))) rfl) (a_F rfl)) (a_ild rfl)) ?_
  refine Eq.trans (Eq.trans (r_go (act := oS (fAld 6 0)) rfl rfl) (a_ald rfl)) ?_
  refine Eq.trans (Eq.trans (r_go (act := oS (fGi g 9 6 7)) rfl rfl) (a_gi (zO_32 g))) ?_
  refine Eq.trans (Eq.trans (r_go (act := oS (fCm 12 39 cLt)) rfl rfl) (a_cm)) (bcg ?_ ?_)
  · refine Eq.trans (Eq.trans (r_go (act := oS (fAld 13 0)) rfl rfl) (a_ald rfl)) ?_
    refine Eq.trans (Eq.trans (r_go (act := oS (fGr g 16 6 1)) rfl rfl) (a_gr (zO_32 g) (zR_32_1 g))) ?_
    refine Eq.trans (Eq.trans (r_go (act := oS (fIld 17 3)) rfl rfl) (a_ild rfl)) ?_
    refine Eq.trans (Eq.trans (r_go (act := oS (fIa g 18)) rfl rfl) (a_ia (zA_34 g) zS_34)) (bcg ?_ rfl)
    refine Eq.trans (Eq.trans (r_go (act := oS (fIld 19 1)) rfl rfl) (a_ild rfl)) ?_
    refine Eq.trans (Eq.trans (r_go (act := oS (fCm 22 33 cEq)) rfl rfl) (a_cm)) (bcg ?_ ?_)
    · refine Eq.trans (Eq.trans (r_go (act := oS (fIld 23 2)) rfl rfl) (a_ild rfl)) ?_
      refine Eq.trans (Eq.trans (r_go (act := oS (fSt 24 (gC (.int 1)))) rfl rfl) (a_C)) ?_
      refine Eq.trans (Eq.trans (r_go (act := oS (fAld 25 0)) rfl rfl) (a_ald rfl)) ?_
      refine Eq.trans (Eq.trans (r_go (act := oS (fGr g 28 6 2)) rfl rfl) (a_gr (zO_32 g) (zR_32_2 g))) ?_
      refine Eq.trans (Eq.trans (r_go (act := oS (fIld 29 3)) rfl rfl) (a_ild rfl)) ?_
      refine Eq.trans (Eq.trans (r_go (act := oS (fIa g 30)) rfl rfl) (a_ia (zA_35 g) zS_35)) (bcg ?_ rfl)
      refine Eq.trans (Eq.trans (r_go (act := oS (fSt 31 (g2 (fun x y => x <<< (y &&& 31))))) rfl rfl) (a_shl)) ?_
      refine Eq.trans (Eq.trans (r_go (act := oS (fSt 32 (g2 (fun x y => x ||| y)))) rfl rfl) (a_or)) ?_
      refine Eq.trans (Eq.trans (r_go (act := oS (fIst 33 2)) rfl rfl) (a_ist rfl rfl)) ?_
      refine Eq.trans (Eq.trans (r_go (act := oS (fInc 36 3 1)) rfl rfl) (a_inc rfl rfl rfl)) ?_
      refine Eq.trans (Eq.trans (r_go (act := oS (fGo 4)) rfl rfl) (a_goto)) ?_
      exact r_cut rfl rfl
    · refine Eq.trans (Eq.trans (r_go (act := oS (fInc 36 3 1)) rfl rfl) (a_inc rfl rfl rfl)) ?_
      refine Eq.trans (Eq.trans (r_go (act := oS (fGo 4)) rfl rfl) (a_goto)) ?_
      exact r_cut rfl rfl
  · refine Eq.trans (Eq.trans (r_go (act := oS (fIld 40 2)) rfl rfl) (a_ild rfl)) ?_
    exact Eq.trans (r_go (act := oIret) rfl rfl) (a_iret)
set_option maxRecDepth 20000 in
theorem e_X2_leaking_0 (g : zg) (h2 : g.2 = true) (a2 : Int32) (M : zM) : zX (t_X2_leaking g) 0 [some (.ref 240), some (.ref 32), some (.int a2), none, none] [] M = (bif cEq0 a2 then zX (t_X2_leaking g) 20 [some (.ref 240), some (.ref 32), some (.int a2), some (.int 0), some (.int 0)] [] ((zu M.1 241 0 0), M.2) else zX (t_X2_leaking g) 20 [some (.ref 240), some (.ref 32), some (.int a2), some (.int (-1)), some (.int 0)] [] ((zu M.1 241 0 0), M.2)) := by
  refine Eq.trans (zX_rgN (tl_X2_leaking g) (hc_X2_leaking g) 14 _ _ _ _) ?_
  refine Eq.trans (Eq.trans (r_0 (act := oS (fIld 1 2)) rfl) (a_ild rfl)) ?_
  refine Eq.trans (Eq.trans (r_go (act := oS (fIf 4 8 cEq0)) rfl rfl) (a_if)) (bcg ?_ ?_)
  · refine Eq.trans (Eq.trans (r_go (act := oS (fSt 5 (gC (.int 0)))) rfl rfl) (a_C)) ?_
    refine Eq.trans (Eq.trans (r_go (act := oS (fGo 9)) rfl rfl) (a_goto)) ?_
    refine Eq.trans (Eq.trans (r_go (act := oS (fIst 10 3)) rfl rfl) (a_ist rfl rfl)) ?_
    refine Eq.trans (Eq.trans (r_go (act := oS (fAld 11 0)) rfl rfl) (a_ald rfl)) ?_
    refine Eq.trans (Eq.trans (r_go (act := oS (fGr g 14 2 0)) rfl rfl) (a_gr (zO_240 g h2) (zR_240_0 g h2))) ?_
    refine Eq.trans (Eq.trans (r_go (act := oS (fSt 15 (gC (.int 0)))) rfl rfl) (a_C)) ?_
    refine Eq.trans (Eq.trans (r_go (act := oS (fSt 16 (gC (.int 0)))) rfl rfl) (a_C)) ?_
    refine Eq.trans (Eq.trans (r_go (act := oS (fIs g 17)) rfl rfl) (a_isK (j := 0) (zA_241 g h2) zS_241 (by decide +kernel) (by decide +kernel))) ?_
    refine Eq.trans (Eq.trans (r_go (act := oS (fSt 18 (gC (.int 0)))) rfl rfl) (a_C)) ?_
    refine Eq.trans (Eq.trans (r_go (act := oS (fIst 20 4)) rfl rfl) (a_ist rfl rfl)) ?_
    exact r_cut rfl rfl
  · refine Eq.trans (Eq.trans (r_go (act := oS (fSt 9 (gC (.int (-1))))) rfl rfl) (a_C)) ?_
    refine Eq.trans (Eq.trans (r_go (act := oS (fIst 10 3)) rfl rfl) (a_ist rfl rfl)) ?_
    refine Eq.trans (Eq.trans (r_go (act := oS (fAld 11 0)) rfl rfl) (a_ald rfl)) ?_
    refine Eq.trans (Eq.trans (r_go (act := oS (fGr g 14 2 0)) rfl rfl) (a_gr (zO_240 g h2) (zR_240_0 g h2))) ?_
    refine Eq.trans (Eq.trans (r_go (act := oS (fSt 15 (gC (.int 0)))) rfl rfl) (a_C)) ?_
    refine Eq.trans (Eq.trans (r_go (act := oS (fSt 16 (gC (.int 0)))) rfl rfl) (a_C)) ?_
    refine Eq.trans (Eq.trans (r_go (act := oS (fIs g 17)) rfl rfl) (a_isK (j := 0) (zA_241 g h2) zS_241 (by decide +kernel) (by decide +kernel))) ?_
    refine Eq.trans (Eq.trans (r_go (act := oS (fSt 18 (gC (.int 0)))) rfl rfl) (a_C)) ?_
    refine Eq.trans (Eq.trans (r_go (act := oS (fIst 20 4)) rfl rfl) (a_ist rfl rfl)) ?_
    exact r_cut rfl rfl
theorem x_X2_leaking_0 (g : zg) (h2 : g.2 = true) (a2 : Int32) (M : zM) : X_X2_leaking g [.ref 240, .ref 32, .int a2] M = (bif cEq0 a2 then zX (t_X2_leaking g) 20 [some (.ref 240), some (.ref 32), some (.int a2), some (.int 0), some (.int 0)] [] ((zu M.1 241 0 0), M.2) else zX (t_X2_leaking g) 20 [some (.ref 240), some (.ref 32), some (.int a2), some (.int (-1)), some (.int 0)] [] ((zu M.1 241 0 0), M.2)) := e_X2_leaking_0 g h2 a2 M
set_option maxRecDepth 20000 in
theorem e_X2_leaking_20 (g : zg) (h2 : g.2 = true) (a2 : Int32) (a3 : Int32) (a4 : Int32) (M : zM) : zX (t_X2_leaking g) 20 [some (.ref 240), some (.ref 32), some (.int a2), some (.int a3), some (.int a4)] [] M = (bif cLt a4 10 then (zbI (X_X6_courtiersOf g [.ref 32, .int a4] M) (fun x1 M1 => (bif zb ((1 : Int32) <<< (a4 &&& 31)) 7168 then zX (t_X2_leaking g) 20 [some (.ref 240), some (.ref 32), some (.int a2), some (.int a3), some (.int (a4 + 1))] [] ((zu M1.1 241 (zx ((1 : Int32) <<< (a4 &&& 31))) x1), M1.2) else none))) else zX (t_X2_leaking g) 51 [some (.ref 240), none, some (.int a2), some (.int a3), some (.int 1)] [] M) := by
  refine Eq.trans (zX_rgN (tl_X2_leaking g) (hc_X2_leaking g) 16 _ _ _ _) ?_
  refine Eq.trans (Eq.trans (Eq.trans (r_0 (act := oF [] (oS (fIld 22 4))) rfl) (a_F rfl)) (a_ild rfl)) ?_
  refine Eq.trans (Eq.trans (r_go (act := oS (fSt 24 (gC (.int 10)))) rfl rfl) (a_C)) ?_
  refine Eq.trans (Eq.trans (r_go (act := oS (fCm 27 48 cLt)) rfl rfl) (a_cm)) (bcg ?_ ?_)
  · refine Eq.trans (Eq.trans (r_go (act := oS (fAld 28 0)) rfl rfl) (a_ald rfl)) ?_
    refine Eq.trans (Eq.trans (r_go (act := oS (fGr g 31 2 0)) rfl rfl) (a_gr (zO_240 g h2) (zR_240_0 g h2))) ?_
    refine Eq.trans (Eq.trans (r_go (act := oS (fSt 32 (gC (.int 1)))) rfl rfl) (a_C)) ?_
    refine Eq.trans (Eq.trans (r_go (act := oS (fIld 34 4)) rfl rfl) (a_ild rfl)) ?_
    refine Eq.trans (Eq.trans (r_go (act := oS (fSt 35 (g2 (fun x y => x <<< (y &&& 31))))) rfl rfl) (a_shl)) ?_
    refine Eq.trans (Eq.trans (r_go (act := oS (fAld 36 1)) rfl rfl) (a_ald rfl)) ?_
    refine Eq.trans (Eq.trans (r_go (act := oS (fIld 38 4)) rfl rfl) (a_ild rfl)) ?_
    refine Eq.trans (Eq.trans (r_go (act := oCI 41 2 (zcv g 6) (X_X6_courtiersOf g)) rfl rfl) (a_cI rfl (zck (zO_32 g) rfl))) (zbI_cg (fun x1 M1 => ?_))
    refine Eq.trans (Eq.trans (r_go (act := oS (fIs g 42)) rfl rfl) (a_is (zA_241 g h2) zS_241)) (bcg ?_ rfl)
    refine Eq.trans (Eq.trans (r_go (act := oS (fInc 45 4 1)) rfl rfl) (a_inc rfl rfl rfl)) ?_
    refine Eq.trans (Eq.trans (r_go (act := oS (fGo 20)) rfl rfl) (a_goto)) ?_
    exact r_cut rfl rfl
  · refine Eq.trans (Eq.trans (r_go (act := oS (fSt 49 (gC (.int 1)))) rfl rfl) (a_C)) ?_
    refine Eq.trans (Eq.trans (r_go (act := oS (fIst 51 4)) rfl rfl) (a_ist rfl rfl)) ?_
    exact r_cut rfl rfl
set_option maxRecDepth 20000 in
theorem e_X2_leaking_51 (g : zg) (h2 : g.2 = true) (a2 : Int32) (a3 : Int32) (a4 : Int32) (M : zM) : zX (t_X2_leaking g) 51 [some (.ref 240), none, some (.int a2), some (.int a3), some (.int a4)] [] M = (bif cLt a4 1024 then (bif zb (a4 &&& (a4 - 1)) 7168 then (bif zb (a4 &&& (-a4)) 7168 then (bif zb a4 7168 then (bif zb a4 7168 then (bif cEq ((zu M.1 241 (zx a4) ((M.1 241 (zx (a4 &&& (a4 - 1)))) ||| (M.1 241 (zx (a4 &&& (-a4)))))) 241 (zx a4)) a2 then (bif cEq a3 (-1) then zX (t_X2_leaking g) 51 [some (.ref 240), none, some (.int a2), some (.int a4), some (.int (a4 + 1))] [] ((zu M.1 241 (zx a4) ((M.1 241 (zx (a4 &&& (a4 - 1)))) ||| (M.1 241 (zx (a4 &&& (-a4)))))), M.2) else (zbI (X_J6_bitCount_0f7a4 g [.int a4] ((zu M.1 241 (zx a4) ((M.1 241 (zx (a4 &&& (a4 - 1)))) ||| (M.1 241 (zx (a4 &&& (-a4)))))), M.2)) (fun x1 M1 => (zbI (X_J6_bitCount_0f7a4 g [.int a3] M1) (fun x2 M2 => (bif cLt x1 x2 then zX (t_X2_leaking g) 51 [some (.ref 240), none, some (.int a2), some (.int a4), some (.int (a4 + 1))] [] M2 else zX (t_X2_leaking g) 51 [some (.ref 240), none, some (.int a2), some (.int a3), some (.int (a4 + 1))] [] M2)))))) else zX (t_X2_leaking g) 51 [some (.ref 240), none, some (.int a2), some (.int a3), some (.int (a4 + 1))] [] ((zu M.1 241 (zx a4) ((M.1 241 (zx (a4 &&& (a4 - 1)))) ||| (M.1 241 (zx (a4 &&& (-a4)))))), M.2)) else none) else none) else none) else none) else some (some (.int a3), M)) := by
  refine Eq.trans (zX_rgN (tl_X2_leaking g) (hc_X2_leaking g) 43 _ _ _ _) ?_
  refine Eq.trans (Eq.trans (Eq.trans (r_0 (act := oF [1] (oS (fIld 53 4))) rfl) (a_F rfl)) (a_ild rfl)) ?_
  refine Eq.trans (Eq.trans (r_go (act := oS (fSt 56 (gC (.int 1024)))) rfl rfl) (a_C)) ?_
  refine Eq.trans (Eq.trans (r_go (act := oS (fCm 59 127 cLt)) rfl rfl) (a_cm)) (bcg ?_ ?_)
  · refine Eq.trans (Eq.trans (r_go (act := oS (fAld 60 0)) rfl rfl) (a_ald rfl)) ?_
    refine Eq.trans (Eq.trans (r_go (act := oS (fGr g 63 2 0)) rfl rfl) (a_gr (zO_240 g h2) (zR_240_0 g h2))) ?_
    refine Eq.trans (Eq.trans (r_go (act := oS (fIld 65 4)) rfl rfl) (a_ild rfl)) ?_
    refine Eq.trans (Eq.trans (r_go (act := oS (fAld 66 0)) rfl rfl) (a_ald rfl)) ?_
    refine Eq.trans (Eq.trans (r_go (act := oS (fGr g 69 2 0)) rfl rfl) (a_gr (zO_240 g h2) (zR_240_0 g h2))) ?_
    refine Eq.trans (Eq.trans (r_go (act := oS (fIld 71 4)) rfl rfl) (a_ild rfl)) ?_
    refine Eq.trans (Eq.trans (r_go (act := oS (fIld 73 4)) rfl rfl) (a_ild rfl)) ?_
    refine Eq.trans (Eq.trans (r_go (act := oS (fSt 74 (gC (.int 1)))) rfl rfl) (a_C)) ?_
    refine Eq.trans (Eq.trans (r_go (act := oS (fSt 75 (g2 (fun x y => x - y)))) rfl rfl) (a_sub)) ?_
    refine Eq.trans (Eq.trans (r_go (act := oS (fSt 76 (g2 (fun x y => x &&& y)))) rfl rfl) (a_and)) ?_
    refine Eq.trans (Eq.trans (r_go (act := oS (fIa g 77)) rfl rfl) (a_ia (zA_241 g h2) zS_241)) (bcg ?_ rfl)
    refine Eq.trans (Eq.trans (r_go (act := oS (fAld 78 0)) rfl rfl) (a_ald rfl)) ?_
    refine Eq.trans (Eq.trans (r_go (act := oS (fGr g 81 2 0)) rfl rfl) (a_gr (zO_240 g h2) (zR_240_0 g h2))) ?_
    refine Eq.trans (Eq.trans (r_go (act := oS (fIld 83 4)) rfl rfl) (a_ild rfl)) ?_
    refine Eq.trans (Eq.trans (r_go (act := oS (fIld 85 4)) rfl rfl) (a_ild rfl)) ?_
    refine Eq.trans (Eq.trans (r_go (act := oS (fSt 86 (g1 (fun x => -x)))) rfl rfl) (a_neg)) ?_
    refine Eq.trans (Eq.trans (r_go (act := oS (fSt 87 (g2 (fun x y => x &&& y)))) rfl rfl) (a_and)) ?_
    refine Eq.trans (Eq.trans (r_go (act := oS (fIa g 88)) rfl rfl) (a_ia (zA_241 g h2) zS_241)) (bcg ?_ rfl)
    refine Eq.trans (Eq.trans (r_go (act := oS (fSt 89 (g2 (fun x y => x ||| y)))) rfl rfl) (a_or)) ?_
    refine Eq.trans (Eq.trans (r_go (act := oS (fIs g 90)) rfl rfl) (a_is (zA_241 g h2) zS_241)) (bcg ?_ rfl)
    refine Eq.trans (Eq.trans (r_go (act := oS (fAld 91 0)) rfl rfl) (a_ald rfl)) ?_
    refine Eq.trans (Eq.trans (r_go (act := oS (fGr g 94 2 0)) rfl rfl) (a_gr (zO_240 g h2) (zR_240_0 g h2))) ?_
    refine Eq.trans (Eq.trans (r_go (act := oS (fIld 96 4)) rfl rfl) (a_ild rfl)) ?_
    refine Eq.trans (Eq.trans (r_go (act := oS (fIa g 97)) rfl rfl) (a_ia (zA_241 g h2) zS_241)) (bcg ?_ rfl)
    refine Eq.trans (Eq.trans (r_go (act := oS (fIld 98 2)) rfl rfl) (a_ild rfl)) ?_
    refine Eq.trans (Eq.trans (r_go (act := oS (fCm 101 121 cEq)) rfl rfl) (a_cm)) (bcg ?_ ?_)
    · refine Eq.trans (Eq.trans (r_go (act := oS (fIld 102 3)) rfl rfl) (a_ild rfl)) ?_
      refine Eq.trans (Eq.trans (r_go (act := oS (fSt 103 (gC (.int (-1))))) rfl rfl) (a_C)) ?_
      refine Eq.trans (Eq.trans (r_go (act := oS (fCm 118 106 cEq)) rfl rfl) (a_cm)) (bcg ?_ ?_)
      · refine Eq.trans (Eq.trans (r_go (act := oS (fIld 120 4)) rfl rfl) (a_ild rfl)) ?_
        refine Eq.trans (Eq.trans (r_go (act := oS (fIst 121 3)) rfl rfl) (a_ist rfl rfl)) ?_
        refine Eq.trans (Eq.trans (r_go (act := oS (fInc 124 4 1)) rfl rfl) (a_inc rfl rfl rfl)) ?_
        refine Eq.trans (Eq.trans (r_go (act := oS (fGo 51)) rfl rfl) (a_goto)) ?_
        exact r_cut rfl rfl
      · refine Eq.trans (Eq.trans (r_go (act := oS (fIld 108 4)) rfl rfl) (a_ild rfl)) ?_
        refine Eq.trans (Eq.trans (r_go (act := oCI 111 1 zcs (X_J6_bitCount_0f7a4 g)) rfl rfl) (a_cI rfl rfl)) (zbI_cg (fun x1 M1 => ?_))
        refine Eq.trans (Eq.trans (r_go (act := oS (fIld 112 3)) rfl rfl) (a_ild rfl)) ?_
        refine Eq.trans (Eq.trans (r_go (act := oCI 115 1 zcs (X_J6_bitCount_0f7a4 g)) rfl rfl) (a_cI rfl rfl)) (zbI_cg (fun x2 M2 => ?_))
        refine Eq.trans (Eq.trans (r_go (act := oS (fCm 118 121 cLt)) rfl rfl) (a_cm)) (bcg ?_ ?_)
        · refine Eq.trans (Eq.trans (r_go (act := oS (fIld 120 4)) rfl rfl) (a_ild rfl)) ?_
          refine Eq.trans (Eq.trans (r_go (act := oS (fIst 121 3)) rfl rfl) (a_ist rfl rfl)) ?_
          refine Eq.trans (Eq.trans (r_go (act := oS (fInc 124 4 1)) rfl rfl) (a_inc rfl rfl rfl)) ?_
          refine Eq.trans (Eq.trans (r_go (act := oS (fGo 51)) rfl rfl) (a_goto)) ?_
          exact r_cut rfl rfl
        · refine Eq.trans (Eq.trans (r_go (act := oS (fInc 124 4 1)) rfl rfl) (a_inc rfl rfl rfl)) ?_
          refine Eq.trans (Eq.trans (r_go (act := oS (fGo 51)) rfl rfl) (a_goto)) ?_
          exact r_cut rfl rfl
    · refine Eq.trans (Eq.trans (r_go (act := oS (fInc 124 4 1)) rfl rfl) (a_inc rfl rfl rfl)) ?_
      refine Eq.trans (Eq.trans (r_go (act := oS (fGo 51)) rfl rfl) (a_goto)) ?_
      exact r_cut rfl rfl
  · refine Eq.trans (Eq.trans (r_go (act := oS (fIld 128 3)) rfl rfl) (a_ild rfl)) ?_
    exact Eq.trans (r_go (act := oIret) rfl rfl) (a_iret)
set_option maxRecDepth 20000 in
theorem e_X2_votesOf_0 (g : zg) (a1 : Int32) (M : zM) : zX (t_X2_votesOf g) 0 [some (.ref 7), some (.int a1)] [] M = (zbI (X_X3_serving g [.ref 7, .int a1] M) (fun x1 M1 => (bif cEq0 x1 then some (some (.int 0), M1) else (zbI (X_X3_get g [.ref 7, .int a1, .int 1] M1) (fun x2 M2 => some (some (.int (10 - x2)), M2)))))) := by
  refine Eq.trans (zX_rgN (tl_X2_votesOf g) (hc_X2_votesOf g) 13 _ _ _ _) ?_
  refine Eq.trans (Eq.trans (r_0 (act := oS (fAld 1 0)) rfl) (a_ald rfl)) ?_
  refine Eq.trans (Eq.trans (r_go (act := oS (fIld 2 1)) rfl rfl) (a_ild rfl)) ?_
  refine Eq.trans (Eq.trans (r_go (act := oCI 5 2 (zcv g 3) (X_X3_serving g)) rfl rfl) (a_cI rfl (zck (zO_7 g) rfl))) (zbI_cg (fun x1 M1 => ?_))
  refine Eq.trans (Eq.trans (r_go (act := oS (fIf 20 8 cEq0)) rfl rfl) (a_if)) (bcg ?_ ?_)
  · refine Eq.trans (Eq.trans (r_go (act := oS (fSt 21 (gC (.int 0)))) rfl rfl) (a_C)) ?_
    exact Eq.trans (r_go (act := oIret) rfl rfl) (a_iret)
  · refine Eq.trans (Eq.trans (r_go (act := oS (fSt 10 (gC (.int 10)))) rfl rfl) (a_C)) ?_
    refine Eq.trans (Eq.trans (r_go (act := oS (fAld 11 0)) rfl rfl) (a_ald rfl)) ?_
    refine Eq.trans (Eq.trans (r_go (act := oS (fIld 12 1)) rfl rfl) (a_ild rfl)) ?_
    refine Eq.trans (Eq.trans (r_go (act := oS (fSt 13 (gC (.int 1)))) rfl rfl) (a_C)) ?_
    refine Eq.trans (Eq.trans (r_go (act := oCI 16 3 (zcv g 3) (X_X3_get g)) rfl rfl) (a_cI rfl (zck (zO_7 g) rfl))) (zbI_cg (fun x2 M2 => ?_))
    refine Eq.trans (Eq.trans (r_go (act := oS (fSt 17 (g2 (fun x y => x - y)))) rfl rfl) (a_sub)) ?_
    refine Eq.trans (Eq.trans (r_go (act := oS (fGo 21)) rfl rfl) (a_goto)) ?_
    exact Eq.trans (r_go (act := oIret) rfl rfl) (a_iret)
theorem x_X2_votesOf_0 (g : zg) (a1 : Int32) (M : zM) : X_X2_votesOf g [.ref 7, .int a1] M = (zbI (X_X3_serving g [.ref 7, .int a1] M) (fun x1 M1 => (bif cEq0 x1 then some (some (.int 0), M1) else (zbI (X_X3_get g [.ref 7, .int a1, .int 1] M1) (fun x2 M2 => some (some (.int (10 - x2)), M2)))))) := e_X2_votesOf_0 g a1 M
set_option maxRecDepth 20000 in
theorem e_X2_countVotes_0 (g : zg) (h2 : g.2 = true) (M : zM) : zX (t_X2_countVotes g) 0 [some (.ref 240), some (.ref 7), none] [] M = zX (t_X2_countVotes g) 9 [some (.ref 240), some (.ref 7), some (.int 0)] [] ((zu M.1 241 0 0), M.2) := by
  refine Eq.trans (zX_rgN (tl_X2_countVotes g) (hc_X2_countVotes g) 9 _ _ _ _) ?_
  refine Eq.trans (Eq.trans (r_0 (act := oS (fAld 1 0)) rfl) (a_ald rfl)) ?_
  refine Eq.trans (Eq.trans (r_go (act := oS (fGr g 4 2 0)) rfl rfl) (a_gr (zO_240 g h2) (zR_240_0 g h2))) ?_
  refine Eq.trans (Eq.trans (r_go (act := oS (fSt 5 (gC (.int 0)))) rfl rfl) (a_C)) ?_
  refine Eq.trans (Eq.trans (r_go (act := oS (fSt 6 (gC (.int 0)))) rfl rfl) (a_C)) ?_
  refine Eq.trans (Eq.trans (r_go (act := oS (fIs g 7)) rfl rfl) (a_isK (j := 0) (zA_241 g h2) zS_241 (by decide +kernel) (by decide +kernel))) ?_
  refine Eq.trans (Eq.trans (r_go (act := oS (fSt 8 (gC (.int 0)))) rfl rfl) (a_C)) ?_
  refine Eq.trans (Eq.trans (r_go (act := oS (fIst 9 2)) rfl rfl) (a_ist rfl rfl)) ?_
  exact r_cut rfl rfl
theorem x_X2_countVotes_0 (g : zg) (h2 : g.2 = true) (M : zM) : X_X2_countVotes g [.ref 240, .ref 7] M = zX (t_X2_countVotes g) 9 [some (.ref 240), some (.ref 7), some (.int 0)] [] ((zu M.1 241 0 0), M.2) := e_X2_countVotes_0 g h2 M
set_option maxRecDepth 20000 in
theorem e_X2_countVotes_9 (g : zg) (h2 : g.2 = true) (a2 : Int32) (M : zM) : zX (t_X2_countVotes g) 9 [some (.ref 240), some (.ref 7), some (.int a2)] [] M = (bif cLt a2 10 then (zbI (X_X2_votesOf g [.ref 7, .int a2] M) (fun x1 M1 => (bif zb ((1 : Int32) <<< (a2 &&& 31)) 7168 then zX (t_X2_countVotes g) 9 [some (.ref 240), some (.ref 7), some (.int (a2 + 1))] [] ((zu M1.1 241 (zx ((1 : Int32) <<< (a2 &&& 31))) x1), M1.2) else none))) else zX (t_X2_countVotes g) 36 [some (.ref 240), none, some (.int 1)] [] M) := by
  refine Eq.trans (zX_rgN (tl_X2_countVotes g) (hc_X2_countVotes g) 16 _ _ _ _) ?_
  refine Eq.trans (Eq.trans (Eq.trans (r_0 (act := oF [] (oS (fIld 10 2))) rfl) (a_F rfl)) (a_ild rfl)) ?_
  refine Eq.trans (Eq.trans (r_go (act := oS (fSt 12 (gC (.int 10)))) rfl rfl) (a_C)) ?_
  refine Eq.trans (Eq.trans (r_go (act := oS (fCm 15 34 cLt)) rfl rfl) (a_cm)) (bcg ?_ ?_)
  · refine Eq.trans (Eq.trans (r_go (act := oS (fAld 16 0)) rfl rfl) (a_ald rfl)) ?_
    refine Eq.trans (Eq.trans (r_go (act := oS (fGr g 19 2 0)) rfl rfl) (a_gr (zO_240 g h2) (zR_240_0 g h2))) ?_
    refine Eq.trans (Eq.trans (r_go (act := oS (fSt 20 (gC (.int 1)))) rfl rfl) (a_C)) ?_
    refine Eq.trans (Eq.trans (r_go (act := oS (fIld 21 2)) rfl rfl) (a_ild rfl)) ?_
    refine Eq.trans (Eq.trans (r_go (act := oS (fSt 22 (g2 (fun x y => x <<< (y &&& 31))))) rfl rfl) (a_shl)) ?_
    refine Eq.trans (Eq.trans (r_go (act := oS (fAld 23 1)) rfl rfl) (a_ald rfl)) ?_
    refine Eq.trans (Eq.trans (r_go (act := oS (fIld 24 2)) rfl rfl) (a_ild rfl)) ?_
    refine Eq.trans (Eq.trans (r_go (act := oCI 27 2 zcs (X_X2_votesOf g)) rfl rfl) (a_cI rfl rfl)) (zbI_cg (fun x1 M1 => ?_))
    refine Eq.trans (Eq.trans (r_go (act := oS (fIs g 28)) rfl rfl) (a_is (zA_241 g h2) zS_241)) (bcg ?_ rfl)
    refine Eq.trans (Eq.trans (r_go (act := oS (fInc 31 2 1)) rfl rfl) (a_inc rfl rfl rfl)) ?_
    refine Eq.trans (Eq.trans (r_go (act := oS (fGo 9)) rfl rfl) (a_goto)) ?_
    exact r_cut rfl rfl
  · refine Eq.trans (Eq.trans (r_go (act := oS (fSt 35 (gC (.int 1)))) rfl rfl) (a_C)) ?_
    refine Eq.trans (Eq.trans (r_go (act := oS (fIst 36 2)) rfl rfl) (a_ist rfl rfl)) ?_
    exact r_cut rfl rfl
set_option maxRecDepth 20000 in
theorem e_X2_countVotes_36 (g : zg) (h2 : g.2 = true) (a2 : Int32) (M : zM) : zX (t_X2_countVotes g) 36 [some (.ref 240), none, some (.int a2)] [] M = (bif cLt a2 1024 then (bif zb (a2 &&& (a2 - 1)) 7168 then (bif zb (a2 &&& (-a2)) 7168 then (bif zb a2 7168 then zX (t_X2_countVotes g) 36 [some (.ref 240), none, some (.int (a2 + 1))] [] ((zu M.1 241 (zx a2) ((M.1 241 (zx (a2 &&& (a2 - 1)))) + (M.1 241 (zx (a2 &&& (-a2)))))), M.2) else none) else none) else none) else some (some (.int (M.1 241 1023)), M)) := by
  refine Eq.trans (zX_rgN (tl_X2_countVotes g) (hc_X2_countVotes g) 27 _ _ _ _) ?_
  refine Eq.trans (Eq.trans (Eq.trans (r_0 (act := oF [1] (oS (fIld 37 2))) rfl) (a_F rfl)) (a_ild rfl)) ?_
  refine Eq.trans (Eq.trans (r_go (act := oS (fSt 40 (gC (.int 1024)))) rfl rfl) (a_C)) ?_
  refine Eq.trans (Eq.trans (r_go (act := oS (fCm 43 75 cLt)) rfl rfl) (a_cm)) (bcg ?_ ?_)
  · refine Eq.trans (Eq.trans (r_go (act := oS (fAld 44 0)) rfl rfl) (a_ald rfl)) ?_
    refine Eq.trans (Eq.trans (r_go (act := oS (fGr g 47 2 0)) rfl rfl) (a_gr (zO_240 g h2) (zR_240_0 g h2))) ?_
    refine Eq.trans (Eq.trans (r_go (act := oS (fIld 48 2)) rfl rfl) (a_ild rfl)) ?_
    refine Eq.trans (Eq.trans (r_go (act := oS (fAld 49 0)) rfl rfl) (a_ald rfl)) ?_
    refine Eq.trans (Eq.trans (r_go (act := oS (fGr g 52 2 0)) rfl rfl) (a_gr (zO_240 g h2) (zR_240_0 g h2))) ?_
    refine Eq.trans (Eq.trans (r_go (act := oS (fIld 53 2)) rfl rfl) (a_ild rfl)) ?_
    refine Eq.trans (Eq.trans (r_go (act := oS (fIld 54 2)) rfl rfl) (a_ild rfl)) ?_
    refine Eq.trans (Eq.trans (r_go (act := oS (fSt 55 (gC (.int 1)))) rfl rfl) (a_C)) ?_
    refine Eq.trans (Eq.trans (r_go (act := oS (fSt 56 (g2 (fun x y => x - y)))) rfl rfl) (a_sub)) ?_
    refine Eq.trans (Eq.trans (r_go (act := oS (fSt 57 (g2 (fun x y => x &&& y)))) rfl rfl) (a_and)) ?_
    refine Eq.trans (Eq.trans (r_go (act := oS (fIa g 58)) rfl rfl) (a_ia (zA_241 g h2) zS_241)) (bcg ?_ rfl)
    refine Eq.trans (Eq.trans (r_go (act := oS (fAld 59 0)) rfl rfl) (a_ald rfl)) ?_
    refine Eq.trans (Eq.trans (r_go (act := oS (fGr g 62 2 0)) rfl rfl) (a_gr (zO_240 g h2) (zR_240_0 g h2))) ?_
    refine Eq.trans (Eq.trans (r_go (act := oS (fIld 63 2)) rfl rfl) (a_ild rfl)) ?_
    refine Eq.trans (Eq.trans (r_go (act := oS (fIld 64 2)) rfl rfl) (a_ild rfl)) ?_
    refine Eq.trans (Eq.trans (r_go (act := oS (fSt 65 (g1 (fun x => -x)))) rfl rfl) (a_neg)) ?_
    refine Eq.trans (Eq.trans (r_go (act := oS (fSt 66 (g2 (fun x y => x &&& y)))) rfl rfl) (a_and)) ?_
    refine Eq.trans (Eq.trans (r_go (act := oS (fIa g 67)) rfl rfl) (a_ia (zA_241 g h2) zS_241)) (bcg ?_ rfl)
    refine Eq.trans (Eq.trans (r_go (act := oS (fSt 68 (g2 (fun x y => x + y)))) rfl rfl) (a_add)) ?_
    refine Eq.trans (Eq.trans (r_go (act := oS (fIs g 69)) rfl rfl) (a_is (zA_241 g h2) zS_241)) (bcg ?_ rfl)
    refine Eq.trans (Eq.trans (r_go (act := oS (fInc 72 2 1)) rfl rfl) (a_inc rfl rfl rfl)) ?_
    refine Eq.trans (Eq.trans (r_go (act := oS (fGo 36)) rfl rfl) (a_goto)) ?_
    exact r_cut rfl rfl
  · refine Eq.trans (Eq.trans (r_go (act := oS (fAld 76 0)) rfl rfl) (a_ald rfl)) ?_
    refine Eq.trans (Eq.trans (r_go (act := oS (fGr g 79 2 0)) rfl rfl) (a_gr (zO_240 g h2) (zR_240_0 g h2))) ?_
    refine Eq.trans (Eq.trans (r_go (act := oS (fSt 82 (gC (.int 1023)))) rfl rfl) (a_C)) ?_
    refine Eq.trans (Eq.trans (r_go (act := oS (fIa g 83)) rfl rfl) (a_iaK (j := 1023) (zA_241 g h2) zS_241 (by decide +kernel) (by decide +kernel))) ?_
    exact Eq.trans (r_go (act := oIret) rfl rfl) (a_iret)
set_option maxRecDepth 20000 in
theorem e_X2_winners_0 (g : zg) (h2 : g.2 = true) (M : zM) : zX (t_X2_winners g) 0 [some (.ref 240), some (.ref 7), none, none, none] [] M = (zbI (X_X2_countVotes g [.ref 240, .ref 7] M) (fun x1 M1 => zX (t_X2_winners g) 11 [some (.ref 240), none, some (.int x1), some (.int (-1)), some (.int 1)] [] M1)) := by
  refine Eq.trans (zX_rgN (tl_X2_winners g) (hc_X2_winners g) 10 _ _ _ _) ?_
  refine Eq.trans (Eq.trans (r_0 (act := oS (fAld 1 0)) rfl) (a_ald rfl)) ?_
  refine Eq.trans (Eq.trans (r_go (act := oS (fAld 2 1)) rfl rfl) (a_ald rfl)) ?_
  refine Eq.trans (Eq.trans (r_go (act := oCI 5 2 (zcv g 2) (X_X2_countVotes g)) rfl rfl) (a_cI rfl (zck (zO_240 g h2) rfl))) (zbI_cg (fun x1 M1 => ?_))
  refine Eq.trans (Eq.trans (r_go (act := oS (fIst 6 2)) rfl rfl) (a_ist rfl rfl)) ?_
  refine Eq.trans (Eq.trans (r_go (act := oS (fSt 7 (gC (.int (-1))))) rfl rfl) (a_C)) ?_
  refine Eq.trans (Eq.trans (r_go (act := oS (fIst 8 3)) rfl rfl) (a_ist rfl rfl)) ?_
  refine Eq.trans (Eq.trans (r_go (act := oS (fSt 9 (gC (.int 1)))) rfl rfl) (a_C)) ?_
  refine Eq.trans (Eq.trans (r_go (act := oS (fIst 11 4)) rfl rfl) (a_ist rfl rfl)) ?_
  exact r_cut rfl rfl
theorem x_X2_winners_0 (g : zg) (h2 : g.2 = true) (M : zM) : X_X2_winners g [.ref 240, .ref 7] M = (zbI (X_X2_countVotes g [.ref 240, .ref 7] M) (fun x1 M1 => zX (t_X2_winners g) 11 [some (.ref 240), none, some (.int x1), some (.int (-1)), some (.int 1)] [] M1)) := e_X2_winners_0 g h2 M
set_option maxRecDepth 20000 in
theorem e_X2_winners_11 (g : zg) (h2 : g.2 = true) (a2 : Int32) (a3 : Int32) (a4 : Int32) (M : zM) : zX (t_X2_winners g) 11 [some (.ref 240), none, some (.int a2), some (.int a3), some (.int a4)] [] M = (bif cLt a4 1024 then (bif zb a4 7168 then (bif cGt (2 * (M.1 241 (zx a4))) a2 then (bif cEq a3 (-1) then zX (t_X2_winners g) 11 [some (.ref 240), none, some (.int a2), some (.int a4), some (.int (a4 + 1))] [] M else (zbI (X_J6_bitCount_0f7a4 g [.int a4] M) (fun x1 M1 => (zbI (X_J6_bitCount_0f7a4 g [.int a3] M1) (fun x2 M2 => (bif cLt x1 x2 then zX (t_X2_winners g) 11 [some (.ref 240), none, some (.int a2), some (.int a4), some (.int (a4 + 1))] [] M2 else zX (t_X2_winners g) 11 [some (.ref 240), none, some (.int a2), some (.int a3), some (.int (a4 + 1))] [] M2)))))) else zX (t_X2_winners g) 11 [some (.ref 240), none, some (.int a2), some (.int a3), some (.int (a4 + 1))] [] M) else none) else some (some (.int a3), M)) := by
  refine Eq.trans (zX_rgN (tl_X2_winners g) (hc_X2_winners g) 25 _ _ _ _) ?_
  refine Eq.trans (Eq.trans (Eq.trans (r_0 (act := oF [1] (oS (fIld 13 4))) rfl) (a_F rfl)) (a_ild rfl)) ?_
  refine Eq.trans (Eq.trans (r_go (act := oS (fSt 16 (gC (.int 1024)))) rfl rfl) (a_C)) ?_
  refine Eq.trans (Eq.trans (r_go (act := oS (fCm 19 58 cLt)) rfl rfl) (a_cm)) (bcg ?_ ?_)
  · refine Eq.trans (Eq.trans (r_go (act := oS (fSt 20 (gC (.int 2)))) rfl rfl) (a_C)) ?_
    refine Eq.trans (Eq.trans (r_go (act := oS (fAld 21 0)) rfl rfl) (a_ald rfl)) ?_
    refine Eq.trans (Eq.trans (r_go (act := oS (fGr g 24 2 0)) rfl rfl) (a_gr (zO_240 g h2) (zR_240_0 g h2))) ?_
    refine Eq.trans (Eq.trans (r_go (act := oS (fIld 26 4)) rfl rfl) (a_ild rfl)) ?_
    refine Eq.trans (Eq.trans (r_go (act := oS (fIa g 27)) rfl rfl) (a_ia (zA_241 g h2) zS_241)) (bcg ?_ rfl)
    refine Eq.trans (Eq.trans (r_go (act := oS (fSt 28 (g2 (fun x y => x * y)))) rfl rfl) (a_mul)) ?_
    refine Eq.trans (Eq.trans (r_go (act := oS (fIld 29 2)) rfl rfl) (a_ild rfl)) ?_
    refine Eq.trans (Eq.trans (r_go (act := oS (fCm 32 52 cGt)) rfl rfl) (a_cm)) (bcg ?_ ?_)
    · refine Eq.trans (Eq.trans (r_go (act := oS (fIld 33 3)) rfl rfl) (a_ild rfl)) ?_
      refine Eq.trans (Eq.trans (r_go (act := oS (fSt 34 (gC (.int (-1))))) rfl rfl) (a_C)) ?_
      refine Eq.trans (Eq.trans (r_go (act := oS (fCm 49 37 cEq)) rfl rfl) (a_cm)) (bcg ?_ ?_)
      · refine Eq.trans (Eq.trans (r_go (act := oS (fIld 51 4)) rfl rfl) (a_ild rfl)) ?_
        refine Eq.trans (Eq.trans (r_go (act := oS (fIst 52 3)) rfl rfl) (a_ist rfl rfl)) ?_
        refine Eq.trans (Eq.trans (r_go (act := oS (fInc 55 4 1)) rfl rfl) (a_inc rfl rfl rfl)) ?_
        refine Eq.trans (Eq.trans (r_go (act := oS (fGo 11)) rfl rfl) (a_goto)) ?_
        exact r_cut rfl rfl
      · refine Eq.trans (Eq.trans (r_go (act := oS (fIld 39 4)) rfl rfl) (a_ild rfl)) ?_
        refine Eq.trans (Eq.trans (r_go (act := oCI 42 1 zcs (X_J6_bitCount_0f7a4 g)) rfl rfl) (a_cI rfl rfl)) (zbI_cg (fun x1 M1 => ?_))
        refine Eq.trans (Eq.trans (r_go (act := oS (fIld 43 3)) rfl rfl) (a_ild rfl)) ?_
        refine Eq.trans (Eq.trans (r_go (act := oCI 46 1 zcs (X_J6_bitCount_0f7a4 g)) rfl rfl) (a_cI rfl rfl)) (zbI_cg (fun x2 M2 => ?_))
        refine Eq.trans (Eq.trans (r_go (act := oS (fCm 49 52 cLt)) rfl rfl) (a_cm)) (bcg ?_ ?_)
        · refine Eq.trans (Eq.trans (r_go (act := oS (fIld 51 4)) rfl rfl) (a_ild rfl)) ?_
          refine Eq.trans (Eq.trans (r_go (act := oS (fIst 52 3)) rfl rfl) (a_ist rfl rfl)) ?_
          refine Eq.trans (Eq.trans (r_go (act := oS (fInc 55 4 1)) rfl rfl) (a_inc rfl rfl rfl)) ?_
          refine Eq.trans (Eq.trans (r_go (act := oS (fGo 11)) rfl rfl) (a_goto)) ?_
          exact r_cut rfl rfl
        · refine Eq.trans (Eq.trans (r_go (act := oS (fInc 55 4 1)) rfl rfl) (a_inc rfl rfl rfl)) ?_
          refine Eq.trans (Eq.trans (r_go (act := oS (fGo 11)) rfl rfl) (a_goto)) ?_
          exact r_cut rfl rfl
    · refine Eq.trans (Eq.trans (r_go (act := oS (fInc 55 4 1)) rfl rfl) (a_inc rfl rfl rfl)) ?_
      refine Eq.trans (Eq.trans (r_go (act := oS (fGo 11)) rfl rfl) (a_goto)) ?_
      exact r_cut rfl rfl
  · refine Eq.trans (Eq.trans (r_go (act := oS (fIld 59 3)) rfl rfl) (a_ild rfl)) ?_
    exact Eq.trans (r_go (act := oIret) rfl rfl) (a_iret)
set_option maxRecDepth 20000 in
theorem e_X3_servingSet_0 (g : zg) (M : zM) : zX (t_X3_servingSet g) 0 [some (.ref 7), none, none] [] M = zX (t_X3_servingSet g) 4 [some (.ref 7), some (.int 0), some (.int 0)] [] M := by
  refine Eq.trans (zX_rgN (tl_X3_servingSet g) (hc_X3_servingSet g) 6 _ _ _ _) ?_
  refine Eq.trans (Eq.trans (r_0 (act := oS (fSt 1 (gC (.int 0)))) rfl) (a_C)) ?_
  refine Eq.trans (Eq.trans (r_go (act := oS (fIst 2 1)) rfl rfl) (a_ist rfl rfl)) ?_
  refine Eq.trans (Eq.trans (r_go (act := oS (fSt 3 (gC (.int 0)))) rfl rfl) (a_C)) ?_
  refine Eq.trans (Eq.trans (r_go (act := oS (fIst 4 2)) rfl rfl) (a_ist rfl rfl)) ?_
  exact r_cut rfl rfl
theorem x_X3_servingSet_0 (g : zg) (M : zM) : X_X3_servingSet g [.ref 7] M = zX (t_X3_servingSet g) 4 [some (.ref 7), some (.int 0), some (.int 0)] [] M := e_X3_servingSet_0 g M
set_option maxRecDepth 20000 in
theorem e_X3_servingSet_4 (g : zg) (a1 : Int32) (a2 : Int32) (M : zM) : zX (t_X3_servingSet g) 4 [some (.ref 7), some (.int a1), some (.int a2)] [] M = (bif cLt a2 (M.1 7 2) then (zbI (X_X3_serving g [.ref 7, .int a2] M) (fun x1 M1 => (bif cEq0 x1 then zX (t_X3_servingSet g) 4 [some (.ref 7), some (.int a1), some (.int (a2 + 1))] [] M1 else zX (t_X3_servingSet g) 4 [some (.ref 7), some (.int (a1 ||| ((1 : Int32) <<< (a2 &&& 31)))), some (.int (a2 + 1))] [] M1))) else some (some (.int a1), M)) := by
  refine Eq.trans (zX_rgN (tl_X3_servingSet g) (hc_X3_servingSet g) 18 _ _ _ _) ?_
  refine Eq.trans (Eq.trans (Eq.trans (r_0 (act := oF [] (oS (fIld 5 2))) rfl) (a_F rfl)) (a_ild rfl)) ?_
  refine Eq.trans (Eq.trans (r_go (act := oS (fAld 6 0)) rfl rfl) (a_ald rfl)) ?_
  refine Eq.trans (Eq.trans (r_go (act := oS (fGi g 9 3 2)) rfl rfl) (a_gi (zO_7 g))) ?_
  refine Eq.trans (Eq.trans (r_go (act := oS (fCm 12 32 cLt)) rfl rfl) (a_cm)) (bcg ?_ ?_)
  · refine Eq.trans (Eq.trans (r_go (act := oS (fAld 13 0)) rfl rfl) (a_ald rfl)) ?_
    refine Eq.trans (Eq.trans (r_go (act := oS (fIld 14 2)) rfl rfl) (a_ild rfl)) ?_
    refine Eq.trans (Eq.trans (r_go (act := oCI 17 2 (zcv g 3) (X_X3_serving g)) rfl rfl) (a_cI rfl (zck (zO_7 g) rfl))) (zbI_cg (fun x1 M1 => ?_))
    refine Eq.trans (Eq.trans (r_go (act := oS (fIf 26 20 cEq0)) rfl rfl) (a_if)) (bcg ?_ ?_)
    · refine Eq.trans (Eq.trans (r_go (act := oS (fInc 29 2 1)) rfl rfl) (a_inc rfl rfl rfl)) ?_
      refine Eq.trans (Eq.trans (r_go (act := oS (fGo 4)) rfl rfl) (a_goto)) ?_
      exact r_cut rfl rfl
    · refine Eq.trans (Eq.trans (r_go (act := oS (fIld 21 1)) rfl rfl) (a_ild rfl)) ?_
      refine Eq.trans (Eq.trans (r_go (act := oS (fSt 22 (gC (.int 1)))) rfl rfl) (a_C)) ?_
      refine Eq.trans (Eq.trans (r_go (act := oS (fIld 23 2)) rfl rfl) (a_ild rfl)) ?_
      refine Eq.trans (Eq.trans (r_go (act := oS (fSt 24 (g2 (fun x y => x <<< (y &&& 31))))) rfl rfl) (a_shl)) ?_
      refine Eq.trans (Eq.trans (r_go (act := oS (fSt 25 (g2 (fun x y => x ||| y)))) rfl rfl) (a_or)) ?_
      refine Eq.trans (Eq.trans (r_go (act := oS (fIst 26 1)) rfl rfl) (a_ist rfl rfl)) ?_
      refine Eq.trans (Eq.trans (r_go (act := oS (fInc 29 2 1)) rfl rfl) (a_inc rfl rfl rfl)) ?_
      refine Eq.trans (Eq.trans (r_go (act := oS (fGo 4)) rfl rfl) (a_goto)) ?_
      exact r_cut rfl rfl
  · refine Eq.trans (Eq.trans (r_go (act := oS (fIld 33 1)) rfl rfl) (a_ild rfl)) ?_
    exact Eq.trans (r_go (act := oIret) rfl rfl) (a_iret)
set_option maxRecDepth 20000 in
theorem e_X2_weightOf_0 (g : zg) (h2 : g.2 = true) (a2 : Int32) (M : zM) : zX (t_X2_weightOf g) 0 [some (.ref 240), some (.ref 7), some (.int a2), none, none, none, none, none] [] M = (zbI (X_X2_countVotes g [.ref 240, .ref 7] M) (fun x1 M1 => (zbI (X_X2_votesOf g [.ref 7, .int a2] M1) (fun x2 M2 => (zbI (X_X3_servingSet g [.ref 7] M2) (fun x3 M3 => zX (t_X2_weightOf g) 31 [some (.ref 240), none, none, some (.int x1), some (.int x2), some (.int (x3 &&& (((1 : Int32) <<< (a2 &&& 31)) ^^^ (-1)))), some (.int 0), some (.int 0)] [] M3)))))) := by
  refine Eq.trans (zX_rgN (tl_X2_weightOf g) (hc_X2_weightOf g) 23 _ _ _ _) ?_
  refine Eq.trans (Eq.trans (r_0 (act := oS (fAld 1 0)) rfl) (a_ald rfl)) ?_
  refine Eq.trans (Eq.trans (r_go (act := oS (fAld 2 1)) rfl rfl) (a_ald rfl)) ?_
  refine Eq.trans (Eq.trans (r_go (act := oCI 5 2 (zcv g 2) (X_X2_countVotes g)) rfl rfl) (a_cI rfl (zck (zO_240 g h2) rfl))) (zbI_cg (fun x1 M1 => ?_))
  refine Eq.trans (Eq.trans (r_go (act := oS (fIst 6 3)) rfl rfl) (a_ist rfl rfl)) ?_
  refine Eq.trans (Eq.trans (r_go (act := oS (fAld 7 1)) rfl rfl) (a_ald rfl)) ?_
  refine Eq.trans (Eq.trans (r_go (act := oS (fIld 8 2)) rfl rfl) (a_ild rfl)) ?_
  refine Eq.trans (Eq.trans (r_go (act := oCI 11 2 zcs (X_X2_votesOf g)) rfl rfl) (a_cI rfl rfl)) (zbI_cg (fun x2 M2 => ?_))
  refine Eq.trans (Eq.trans (r_go (act := oS (fIst 13 4)) rfl rfl) (a_ist rfl rfl)) ?_
  refine Eq.trans (Eq.trans (r_go (act := oS (fAld 14 1)) rfl rfl) (a_ald rfl)) ?_
  refine Eq.trans (Eq.trans (r_go (act := oCI 17 1 (zcv g 3) (X_X3_servingSet g)) rfl rfl) (a_cI rfl (zck (zO_7 g) rfl))) (zbI_cg (fun x3 M3 => ?_))
  refine Eq.trans (Eq.trans (r_go (act := oS (fSt 18 (gC (.int 1)))) rfl rfl) (a_C)) ?_
  refine Eq.trans (Eq.trans (r_go (act := oS (fIld 19 2)) rfl rfl) (a_ild rfl)) ?_
  refine Eq.trans (Eq.trans (r_go (act := oS (fSt 20 (g2 (fun x y => x <<< (y &&& 31))))) rfl rfl) (a_shl)) ?_
  refine Eq.trans (Eq.trans (r_go (act := oS (fSt 21 (gC (.int (-1))))) rfl rfl) (a_C)) ?_
  refine Eq.trans (Eq.trans (r_go (act := oS (fSt 22 (g2 (fun x y => x ^^^ y)))) rfl rfl) (a_xor)) ?_
  refine Eq.trans (Eq.trans (r_go (act := oS (fSt 23 (g2 (fun x y => x &&& y)))) rfl rfl) (a_and)) ?_
  refine Eq.trans (Eq.trans (r_go (act := oS (fIst 25 5)) rfl rfl) (a_ist rfl rfl)) ?_
  refine Eq.trans (Eq.trans (r_go (act := oS (fSt 26 (gC (.int 0)))) rfl rfl) (a_C)) ?_
  refine Eq.trans (Eq.trans (r_go (act := oS (fIst 28 6)) rfl rfl) (a_ist rfl rfl)) ?_
  refine Eq.trans (Eq.trans (r_go (act := oS (fSt 29 (gC (.int 0)))) rfl rfl) (a_C)) ?_
  refine Eq.trans (Eq.trans (r_go (act := oS (fIst 31 7)) rfl rfl) (a_ist rfl rfl)) ?_
  exact r_cut rfl rfl
theorem x_X2_weightOf_0 (g : zg) (h2 : g.2 = true) (a2 : Int32) (M : zM) : X_X2_weightOf g [.ref 240, .ref 7, .int a2] M = (zbI (X_X2_countVotes g [.ref 240, .ref 7] M) (fun x1 M1 => (zbI (X_X2_votesOf g [.ref 7, .int a2] M1) (fun x2 M2 => (zbI (X_X3_servingSet g [.ref 7] M2) (fun x3 M3 => zX (t_X2_weightOf g) 31 [some (.ref 240), none, none, some (.int x1), some (.int x2), some (.int (x3 &&& (((1 : Int32) <<< (a2 &&& 31)) ^^^ (-1)))), some (.int 0), some (.int 0)] [] M3)))))) := e_X2_weightOf_0 g h2 a2 M
set_option maxRecDepth 20000 in
theorem e_X2_weightOf_31 (g : zg) (h2 : g.2 = true) (a3 : Int32) (a4 : Int32) (a5 : Int32) (a6 : Int32) (a7 : Int32) (M : zM) : zX (t_X2_weightOf g) 31 [some (.ref 240), none, none, some (.int a3), some (.int a4), some (.int a5), some (.int a6), some (.int a7)] [] M = (bif cLt a7 1024 then (bif cEq0 (a7 &&& (a5 ^^^ (-1))) then (bif zb a7 7168 then (bif cGt (2 * (M.1 241 (zx a7))) a3 then zX (t_X2_weightOf g) 31 [some (.ref 240), none, none, some (.int a3), some (.int a4), some (.int a5), some (.int a6), some (.int (a7 + 1))] [] M else (bif zb a7 7168 then (bif cGt (2 * ((M.1 241 (zx a7)) + a4)) a3 then zX (t_X2_weightOf g) 31 [some (.ref 240), none, none, some (.int a3), some (.int a4), some (.int a5), some (.int (a6 + 1)), some (.int (a7 + 1))] [] M else zX (t_X2_weightOf g) 31 [some (.ref 240), none, none, some (.int a3), some (.int a4), some (.int a5), some (.int a6), some (.int (a7 + 1))] [] M) else none)) else none) else zX (t_X2_weightOf g) 31 [some (.ref 240), none, none, some (.int a3), some (.int a4), some (.int a5), some (.int a6), some (.int (a7 + 1))] [] M) else some (some (.int a6), M)) := by
  refine Eq.trans (zX_rgN (tl_X2_weightOf g) (hc_X2_weightOf g) 32 _ _ _ _) ?_
  refine Eq.trans (Eq.trans (Eq.trans (r_0 (act := oF [1, 2] (oS (fIld 33 7))) rfl) (a_F rfl)) (a_ild rfl)) ?_
  refine Eq.trans (Eq.trans (r_go (act := oS (fSt 36 (gC (.int 1024)))) rfl rfl) (a_C)) ?_
  refine Eq.trans (Eq.trans (r_go (act := oS (fCm 39 87 cLt)) rfl rfl) (a_cm)) (bcg ?_ ?_)
  · refine Eq.trans (Eq.trans (r_go (act := oS (fIld 41 7)) rfl rfl) (a_ild rfl)) ?_
    refine Eq.trans (Eq.trans (r_go (act := oS (fIld 43 5)) rfl rfl) (a_ild rfl)) ?_
    refine Eq.trans (Eq.trans (r_go (act := oS (fSt 44 (gC (.int (-1))))) rfl rfl) (a_C)) ?_
    refine Eq.trans (Eq.trans (r_go (act := oS (fSt 45 (g2 (fun x y => x ^^^ y)))) rfl rfl) (a_xor)) ?_
    refine Eq.trans (Eq.trans (r_go (act := oS (fSt 46 (g2 (fun x y => x &&& y)))) rfl rfl) (a_and)) ?_
    refine Eq.trans (Eq.trans (r_go (act := oS (fIf 49 81 cEq0)) rfl rfl) (a_if)) (bcg ?_ ?_)
    · refine Eq.trans (Eq.trans (r_go (act := oS (fSt 50 (gC (.int 2)))) rfl rfl) (a_C)) ?_
      refine Eq.trans (Eq.trans (r_go (act := oS (fAld 51 0)) rfl rfl) (a_ald rfl)) ?_
      refine Eq.trans (Eq.trans (r_go (act := oS (fGr g 54 2 0)) rfl rfl) (a_gr (zO_240 g h2) (zR_240_0 g h2))) ?_
      refine Eq.trans (Eq.trans (r_go (act := oS (fIld 56 7)) rfl rfl) (a_ild rfl)) ?_
      refine Eq.trans (Eq.trans (r_go (act := oS (fIa g 57)) rfl rfl) (a_ia (zA_241 g h2) zS_241)) (bcg ?_ rfl)
      refine Eq.trans (Eq.trans (r_go (act := oS (fSt 58 (g2 (fun x y => x * y)))) rfl rfl) (a_mul)) ?_
      refine Eq.trans (Eq.trans (r_go (act := oS (fIld 59 3)) rfl rfl) (a_ild rfl)) ?_
      refine Eq.trans (Eq.trans (r_go (act := oS (fCm 81 62 cGt)) rfl rfl) (a_cm)) (bcg ?_ ?_)
      · refine Eq.trans (Eq.trans (r_go (act := oS (fInc 84 7 1)) rfl rfl) (a_inc rfl rfl rfl)) ?_
        refine Eq.trans (Eq.trans (r_go (act := oS (fGo 31)) rfl rfl) (a_goto)) ?_
        exact r_cut rfl rfl
      · refine Eq.trans (Eq.trans (r_go (act := oS (fSt 63 (gC (.int 2)))) rfl rfl) (a_C)) ?_
        refine Eq.trans (Eq.trans (r_go (act := oS (fAld 64 0)) rfl rfl) (a_ald rfl)) ?_
        refine Eq.trans (Eq.trans (r_go (act := oS (fGr g 67 2 0)) rfl rfl) (a_gr (zO_240 g h2) (zR_240_0 g h2))) ?_
        refine Eq.trans (Eq.trans (r_go (act := oS (fIld 69 7)) rfl rfl) (a_ild rfl)) ?_
        refine Eq.trans (Eq.trans (r_go (act := oS (fIa g 70)) rfl rfl) (a_ia (zA_241 g h2) zS_241)) (bcg ?_ rfl)
        refine Eq.trans (Eq.trans (r_go (act := oS (fIld 72 4)) rfl rfl) (a_ild rfl)) ?_
        refine Eq.trans (Eq.trans (r_go (act := oS (fSt 73 (g2 (fun x y => x + y)))) rfl rfl) (a_add)) ?_
        refine Eq.trans (Eq.trans (r_go (act := oS (fSt 74 (g2 (fun x y => x * y)))) rfl rfl) (a_mul)) ?_
        refine Eq.trans (Eq.trans (r_go (act := oS (fIld 75 3)) rfl rfl) (a_ild rfl)) ?_
        refine Eq.trans (Eq.trans (r_go (act := oS (fCm 78 81 cGt)) rfl rfl) (a_cm)) (bcg ?_ ?_)
        · refine Eq.trans (Eq.trans (r_go (act := oS (fInc 81 6 1)) rfl rfl) (a_inc rfl rfl rfl)) ?_
          refine Eq.trans (Eq.trans (r_go (act := oS (fInc 84 7 1)) rfl rfl) (a_inc rfl rfl rfl)) ?_
          refine Eq.trans (Eq.trans (r_go (act := oS (fGo 31)) rfl rfl) (a_goto)) ?_
          exact r_cut rfl rfl
        · refine Eq.trans (Eq.trans (r_go (act := oS (fInc 84 7 1)) rfl rfl) (a_inc rfl rfl rfl)) ?_
          refine Eq.trans (Eq.trans (r_go (act := oS (fGo 31)) rfl rfl) (a_goto)) ?_
          exact r_cut rfl rfl
    · refine Eq.trans (Eq.trans (r_go (act := oS (fInc 84 7 1)) rfl rfl) (a_inc rfl rfl rfl)) ?_
      refine Eq.trans (Eq.trans (r_go (act := oS (fGo 31)) rfl rfl) (a_goto)) ?_
      exact r_cut rfl rfl
  · refine Eq.trans (Eq.trans (r_go (act := oS (fIld 89 6)) rfl rfl) (a_ild rfl)) ?_
    exact Eq.trans (r_go (act := oIret) rfl rfl) (a_iret)
set_option maxRecDepth 20000 in
theorem e_X6_worthOf_0 (g : zg) (a1 : Int32) (a2 : Int32) (M : zM) : zX (t_X6_worthOf g) 0 [some (.ref 32), some (.int a1), some (.int a2)] [] M = (zbI (X_X11_within g [.int a1, .int 0, .int ((M.1 32 8) - 1)] M) (fun x1 M1 => (bif cEq0 x1 then some (some (.int 0), M1) else (bif zb a1 6 then (bif cEq (M1.1 36 (zx a1)) a2 then (bif zb a1 6 then some (some (.int (2 * (M1.1 37 (zx a1)))), M1) else none) else (bif zb a1 6 then some (some (.int (M1.1 37 (zx a1))), M1) else none)) else none)))) := by
  refine Eq.trans (zX_rgN (tl_X6_worthOf g) (hc_X6_worthOf g) 23 _ _ _ _) ?_
  refine Eq.trans (Eq.trans (r_0 (act := oS (fIld 1 1)) rfl) (a_ild rfl)) ?_
  refine Eq.trans (Eq.trans (r_go (act := oS (fSt 2 (gC (.int 0)))) rfl rfl) (a_C)) ?_
  refine Eq.trans (Eq.trans (r_go (act := oS (fAld 3 0)) rfl rfl) (a_ald rfl)) ?_
  refine Eq.trans (Eq.trans (r_go (act := oS (fGi g 6 6 8)) rfl rfl) (a_gi (zO_32 g))) ?_
  refine Eq.trans (Eq.trans (r_go (act := oS (fSt 7 (gC (.int 1)))) rfl rfl) (a_C)) ?_
  refine Eq.trans (Eq.trans (r_go (act := oS (fSt 8 (g2 (fun x y => x - y)))) rfl rfl) (a_sub)) ?_
  refine Eq.trans (Eq.trans (r_go (act := oCI 11 3 zcs (X_X11_within g)) rfl rfl) (a_cI rfl rfl)) (zbI_cg (fun x1 M1 => ?_))
  refine Eq.trans (Eq.trans (r_go (act := oS (fIf 14 16 cEq0)) rfl rfl) (a_if)) (bcg ?_ ?_)
  · refine Eq.trans (Eq.trans (r_go (act := oS (fSt 15 (gC (.int 0)))) rfl rfl) (a_C)) ?_
    exact Eq.trans (r_go (act := oIret) rfl rfl) (a_iret)
  · refine Eq.trans (Eq.trans (r_go (act := oS (fAld 17 0)) rfl rfl) (a_ald rfl)) ?_
    refine Eq.trans (Eq.trans (r_go (act := oS (fGr g 20 6 3)) rfl rfl) (a_gr (zO_32 g) (zR_32_3 g))) ?_
    refine Eq.trans (Eq.trans (r_go (act := oS (fIld 21 1)) rfl rfl) (a_ild rfl)) ?_
    refine Eq.trans (Eq.trans (r_go (act := oS (fIa g 22)) rfl rfl) (a_ia (zA_36 g) zS_36)) (bcg ?_ rfl)
    refine Eq.trans (Eq.trans (r_go (act := oS (fIld 23 2)) rfl rfl) (a_ild rfl)) ?_
    refine Eq.trans (Eq.trans (r_go (act := oS (fCm 26 37 cEq)) rfl rfl) (a_cm)) (bcg ?_ ?_)
    · refine Eq.trans (Eq.trans (r_go (act := oS (fSt 27 (gC (.int 2)))) rfl rfl) (a_C)) ?_
      refine Eq.trans (Eq.trans (r_go (act := oS (fAld 28 0)) rfl rfl) (a_ald rfl)) ?_
      refine Eq.trans (Eq.trans (r_go (act := oS (fGr g 31 6 4)) rfl rfl) (a_gr (zO_32 g) (zR_32_4 g))) ?_
      refine Eq.trans (Eq.trans (r_go (act := oS (fIld 32 1)) rfl rfl) (a_ild rfl)) ?_
      refine Eq.trans (Eq.trans (r_go (act := oS (fIa g 33)) rfl rfl) (a_ia (zA_37 g) zS_37)) (bcg ?_ rfl)
      refine Eq.trans (Eq.trans (r_go (act := oS (fSt 34 (g2 (fun x y => x * y)))) rfl rfl) (a_mul)) ?_
      refine Eq.trans (Eq.trans (r_go (act := oS (fGo 43)) rfl rfl) (a_goto)) ?_
      exact Eq.trans (r_go (act := oIret) rfl rfl) (a_iret)
    · refine Eq.trans (Eq.trans (r_go (act := oS (fAld 38 0)) rfl rfl) (a_ald rfl)) ?_
      refine Eq.trans (Eq.trans (r_go (act := oS (fGr g 41 6 4)) rfl rfl) (a_gr (zO_32 g) (zR_32_4 g))) ?_
      refine Eq.trans (Eq.trans (r_go (act := oS (fIld 42 1)) rfl rfl) (a_ild rfl)) ?_
      refine Eq.trans (Eq.trans (r_go (act := oS (fIa g 43)) rfl rfl) (a_ia (zA_37 g) zS_37)) (bcg ?_ rfl)
      exact Eq.trans (r_go (act := oIret) rfl rfl) (a_iret)
theorem x_X6_worthOf_0 (g : zg) (a1 : Int32) (a2 : Int32) (M : zM) : X_X6_worthOf g [.ref 32, .int a1, .int a2] M = (zbI (X_X11_within g [.int a1, .int 0, .int ((M.1 32 8) - 1)] M) (fun x1 M1 => (bif cEq0 x1 then some (some (.int 0), M1) else (bif zb a1 6 then (bif cEq (M1.1 36 (zx a1)) a2 then (bif zb a1 6 then some (some (.int (2 * (M1.1 37 (zx a1)))), M1) else none) else (bif zb a1 6 then some (some (.int (M1.1 37 (zx a1))), M1) else none)) else none)))) := e_X6_worthOf_0 g a1 a2 M
set_option maxRecDepth 20000 in
theorem e_X2_countWorths_0 (g : zg) (h2 : g.2 = true) (M : zM) : zX (t_X2_countWorths g) 0 [some (.ref 240), some (.ref 7), some (.ref 32), none, none, none] [] M = zX (t_X2_countWorths g) 2 [some (.ref 240), some (.ref 7), some (.ref 32), some (.int 0), none, none] [] M := by
  refine Eq.trans (zX_rgN (tl_X2_countWorths g) (hc_X2_countWorths g) 4 _ _ _ _) ?_
  refine Eq.trans (Eq.trans (r_0 (act := oS (fSt 1 (gC (.int 0)))) rfl) (a_C)) ?_
  refine Eq.trans (Eq.trans (r_go (act := oS (fIst 2 3)) rfl rfl) (a_ist rfl rfl)) ?_
  exact r_cut rfl rfl
theorem x_X2_countWorths_0 (g : zg) (h2 : g.2 = true) (M : zM) : X_X2_countWorths g [.ref 240, .ref 7, .ref 32] M = zX (t_X2_countWorths g) 2 [some (.ref 240), some (.ref 7), some (.ref 32), some (.int 0), none, none] [] M := e_X2_countWorths_0 g h2 M
set_option maxRecDepth 20000 in
theorem e_X2_countWorths_2 (g : zg) (h2 : g.2 = true) (a3 : Int32) (M : zM) : zX (t_X2_countWorths g) 2 [some (.ref 240), some (.ref 7), some (.ref 32), some (.int a3), none, none] [] M = (bif cLt a3 6 then zX (t_X2_countWorths g) 11 [some (.ref 240), some (.ref 7), some (.ref 32), some (.int a3), some (.int 0), none] [] M else some (none, M)) := by
  refine Eq.trans (zX_rgN (tl_X2_countWorths g) (hc_X2_countWorths g) 7 _ _ _ _) ?_
  refine Eq.trans (Eq.trans (Eq.trans (r_0 (act := oF [4, 5] (oS (fIld 3 3))) rfl) (a_F rfl)) (a_ild rfl)) ?_
  refine Eq.trans (Eq.trans (r_go (act := oS (fSt 5 (gC (.int 6)))) rfl rfl) (a_C)) ?_
  refine Eq.trans (Eq.trans (r_go (act := oS (fCm 8 71 cLt)) rfl rfl) (a_cm)) (bcg ?_ ?_)
  · refine Eq.trans (Eq.trans (r_go (act := oS (fSt 9 (gC (.int 0)))) rfl rfl) (a_C)) ?_
    refine Eq.trans (Eq.trans (r_go (act := oS (fIst 11 4)) rfl rfl) (a_ist rfl rfl)) ?_
    exact r_cut rfl rfl
  · exact Eq.trans (r_go (act := oVret) rfl rfl) (a_vret)
set_option maxRecDepth 20000 in
theorem e_X2_countWorths_11 (g : zg) (h2 : g.2 = true) (a3 : Int32) (a4 : Int32) (M : zM) : zX (t_X2_countWorths g) 11 [some (.ref 240), some (.ref 7), some (.ref 32), some (.int a3), some (.int a4), none] [] M = (bif cLt a4 10 then (zbI (X_X3_serving g [.ref 7, .int a4] M) (fun x1 M1 => (bif cEq0 x1 then (bif zb ((a3 * 10) + a4) 60 then zX (t_X2_countWorths g) 11 [some (.ref 240), some (.ref 7), some (.ref 32), some (.int a3), some (.int (a4 + 1)), none] [] ((zu M1.1 242 (zx ((a3 * 10) + a4)) 0), M1.2) else none) else (zbI (X_X3_get g [.ref 7, .int a4, .int 0] M1) (fun x2 M2 => (zbI (X_X6_worthOf g [.ref 32, .int a3, .int x2] M2) (fun x3 M3 => (bif zb ((a3 * 10) + a4) 60 then zX (t_X2_countWorths g) 11 [some (.ref 240), some (.ref 7), some (.ref 32), some (.int a3), some (.int (a4 + 1)), none] [] ((zu M3.1 242 (zx ((a3 * 10) + a4)) x3), M3.2) else none)))))))) else zX (t_X2_countWorths g) 2 [some (.ref 240), some (.ref 7), some (.ref 32), some (.int (a3 + 1)), none, none] [] M) := by
  refine Eq.trans (zX_rgN (tl_X2_countWorths g) (hc_X2_countWorths g) 29 _ _ _ _) ?_
  refine Eq.trans (Eq.trans (Eq.trans (r_0 (act := oF [5] (oS (fIld 13 4))) rfl) (a_F rfl)) (a_ild rfl)) ?_
  refine Eq.trans (Eq.trans (r_go (act := oS (fSt 15 (gC (.int 10)))) rfl rfl) (a_C)) ?_
  refine Eq.trans (Eq.trans (r_go (act := oS (fCm 18 65 cLt)) rfl rfl) (a_cm)) (bcg ?_ ?_)
  · refine Eq.trans (Eq.trans (r_go (act := oS (fAld 19 1)) rfl rfl) (a_ald rfl)) ?_
    refine Eq.trans (Eq.trans (r_go (act := oS (fIld 21 4)) rfl rfl) (a_ild rfl)) ?_
    refine Eq.trans (Eq.trans (r_go (act := oCI 24 2 (zcv g 3) (X_X3_serving g)) rfl rfl) (a_cI rfl (zck (zO_7 g) rfl))) (zbI_cg (fun x1 M1 => ?_))
    refine Eq.trans (Eq.trans (r_go (act := oS (fIst 26 5)) rfl rfl) (a_ist rfl rfl)) ?_
    refine Eq.trans (Eq.trans (r_go (act := oS (fAld 27 0)) rfl rfl) (a_ald rfl)) ?_
    refine Eq.trans (Eq.trans (r_go (act := oS (fGr g 30 2 1)) rfl rfl) (a_gr (zO_240 g h2) (zR_240_1 g h2))) ?_
    refine Eq.trans (Eq.trans (r_go (act := oS (fIld 31 3)) rfl rfl) (a_ild rfl)) ?_
    refine Eq.trans (Eq.trans (r_go (act := oS (fSt 33 (gC (.int 10)))) rfl rfl) (a_C)) ?_
    refine Eq.trans (Eq.trans (r_go (act := oS (fSt 34 (g2 (fun x y => x * y)))) rfl rfl) (a_mul)) ?_
    refine Eq.trans (Eq.trans (r_go (act := oS (fIld 36 4)) rfl rfl) (a_ild rfl)) ?_
    refine Eq.trans (Eq.trans (r_go (act := oS (fSt 37 (g2 (fun x y => x + y)))) rfl rfl) (a_add)) ?_
    refine Eq.trans (Eq.trans (r_go (act := oS (fIld 39 5)) rfl rfl) (a_ild rfl)) ?_
    refine Eq.trans (Eq.trans (r_go (act := oS (fIf 57 42 cEq0)) rfl rfl) (a_if)) (bcg ?_ ?_)
    · refine Eq.trans (Eq.trans (r_go (act := oS (fSt 58 (gC (.int 0)))) rfl rfl) (a_C)) ?_
      refine Eq.trans (Eq.trans (r_go (act := oS (fIs g 59)) rfl rfl) (a_is (zA_242 g h2) zS_242)) (bcg ?_ rfl)
      refine Eq.trans (Eq.trans (r_go (act := oS (fInc 62 4 1)) rfl rfl) (a_inc rfl rfl rfl)) ?_
      refine Eq.trans (Eq.trans (r_go (act := oS (fGo 11)) rfl rfl) (a_goto)) ?_
      exact r_cut rfl rfl
    · refine Eq.trans (Eq.trans (r_go (act := oS (fAld 43 2)) rfl rfl) (a_ald rfl)) ?_
      refine Eq.trans (Eq.trans (r_go (act := oS (fIld 44 3)) rfl rfl) (a_ild rfl)) ?_
      refine Eq.trans (Eq.trans (r_go (act := oS (fAld 45 1)) rfl rfl) (a_ald rfl)) ?_
      refine Eq.trans (Eq.trans (r_go (act := oS (fIld 47 4)) rfl rfl) (a_ild rfl)) ?_
      refine Eq.trans (Eq.trans (r_go (act := oS (fSt 48 (gC (.int 0)))) rfl rfl) (a_C)) ?_
      refine Eq.trans (Eq.trans (r_go (act := oCI 51 3 (zcv g 3) (X_X3_get g)) rfl rfl) (a_cI rfl (zck (zO_7 g) rfl))) (zbI_cg (fun x2 M2 => ?_))
      refine Eq.trans (Eq.trans (r_go (act := oCI 54 3 (zcv g 6) (X_X6_worthOf g)) rfl rfl) (a_cI rfl (zck (zO_32 g) rfl))) (zbI_cg (fun x3 M3 => ?_))
      refine Eq.trans (Eq.trans (r_go (act := oS (fGo 58)) rfl rfl) (a_goto)) ?_
      refine Eq.trans (Eq.trans (r_go (act := oS (fIs g 59)) rfl rfl) (a_is (zA_242 g h2) zS_242)) (bcg ?_ rfl)
      refine Eq.trans (Eq.trans (r_go (act := oS (fInc 62 4 1)) rfl rfl) (a_inc rfl rfl rfl)) ?_
      refine Eq.trans (Eq.trans (r_go (act := oS (fGo 11)) rfl rfl) (a_goto)) ?_
      exact r_cut rfl rfl
  · refine Eq.trans (Eq.trans (r_go (act := oS (fInc 68 3 1)) rfl rfl) (a_inc rfl rfl rfl)) ?_
    refine Eq.trans (Eq.trans (r_go (act := oS (fGo 2)) rfl rfl) (a_goto)) ?_
    exact r_cut rfl rfl
set_option maxRecDepth 20000 in
theorem e_X2_bestFrom_0 (g : zg) (h2 : g.2 = true) (a1 : Int32) (a2 : Int32) (M : zM) : zX (t_X2_bestFrom g) 0 [some (.ref 240), some (.int a1), some (.int a2), none, none, none] [] M = (bif zb (((a1 + 1) * 1024) + a2) 7168 then zX (t_X2_bestFrom g) 18 [some (.ref 240), some (.int a1), some (.int a2), some (.int (M.1 241 (zx (((a1 + 1) * 1024) + a2)))), some (.int 0), none] [] M else none) := by
  refine Eq.trans (zX_rgN (tl_X2_bestFrom g) (hc_X2_bestFrom g) 15 _ _ _ _) ?_
  refine Eq.trans (Eq.trans (r_0 (act := oS (fAld 1 0)) rfl) (a_ald rfl)) ?_
  refine Eq.trans (Eq.trans (r_go (act := oS (fGr g 4 2 0)) rfl rfl) (a_gr (zO_240 g h2) (zR_240_0 g h2))) ?_
  refine Eq.trans (Eq.trans (r_go (act := oS (fIld 5 1)) rfl rfl) (a_ild rfl)) ?_
  refine Eq.trans (Eq.trans (r_go (act := oS (fSt 6 (gC (.int 1)))) rfl rfl) (a_C)) ?_
  refine Eq.trans (Eq.trans (r_go (act := oS (fSt 7 (g2 (fun x y => x + y)))) rfl rfl) (a_add)) ?_
  refine Eq.trans (Eq.trans (r_go (act := oS (fSt 10 (gC (.int 1024)))) rfl rfl) (a_C)) ?_
  refine Eq.trans (Eq.trans (r_go (act := oS (fSt 11 (g2 (fun x y => x * y)))) rfl rfl) (a_mul)) ?_
  refine Eq.trans (Eq.trans (r_go (act := oS (fIld 12 2)) rfl rfl) (a_ild rfl)) ?_
  refine Eq.trans (Eq.trans (r_go (act := oS (fSt 13 (g2 (fun x y => x + y)))) rfl rfl) (a_add)) ?_
  refine Eq.trans (Eq.trans (r_go (act := oS (fIa g 14)) rfl rfl) (a_ia (zA_241 g h2) zS_241)) (bcg ?_ rfl)
  refine Eq.trans (Eq.trans (r_go (act := oS (fIst 15 3)) rfl rfl) (a_ist rfl rfl)) ?_
  refine Eq.trans (Eq.trans (r_go (act := oS (fSt 16 (gC (.int 0)))) rfl rfl) (a_C)) ?_
  refine Eq.trans (Eq.trans (r_go (act := oS (fIst 18 4)) rfl rfl) (a_ist rfl rfl)) ?_
  exact r_cut rfl rfl
theorem x_X2_bestFrom_0 (g : zg) (h2 : g.2 = true) (a1 : Int32) (a2 : Int32) (M : zM) : X_X2_bestFrom g [.ref 240, .int a1, .int a2] M = (bif zb (((a1 + 1) * 1024) + a2) 7168 then zX (t_X2_bestFrom g) 18 [some (.ref 240), some (.int a1), some (.int a2), some (.int (M.1 241 (zx (((a1 + 1) * 1024) + a2)))), some (.int 0), none] [] M else none) := e_X2_bestFrom_0 g h2 a1 a2 M
set_option maxRecDepth 20000 in
theorem e_X2_bestFrom_18 (g : zg) (h2 : g.2 = true) (a1 : Int32) (a2 : Int32) (a3 : Int32) (a4 : Int32) (M : zM) : zX (t_X2_bestFrom g) 18 [some (.ref 240), some (.int a1), some (.int a2), some (.int a3), some (.int a4), none] [] M = (bif cLt a4 10 then (bif zb ((a1 * 10) + a4) 60 then (bif cGt0 (M.1 242 (zx ((a1 * 10) + a4))) then (bif cEq0 ((a2 >>> (a4 &&& 31)) &&& 1) then (bif zb (((a1 + 1) * 1024) + (a2 ||| ((1 : Int32) <<< (a4 &&& 31)))) 7168 then (zbI (X_J9_max_7cf53 g [.int a3, .int ((M.1 242 (zx ((a1 * 10) + a4))) + (M.1 241 (zx (((a1 + 1) * 1024) + (a2 ||| ((1 : Int32) <<< (a4 &&& 31)))))))] M) (fun x1 M1 => zX (t_X2_bestFrom g) 18 [some (.ref 240), some (.int a1), some (.int a2), some (.int x1), some (.int (a4 + 1)), none] [] M1)) else none) else zX (t_X2_bestFrom g) 18 [some (.ref 240), some (.int a1), some (.int a2), some (.int a3), some (.int (a4 + 1)), none] [] M) else zX (t_X2_bestFrom g) 18 [some (.ref 240), some (.int a1), some (.int a2), some (.int a3), some (.int (a4 + 1)), none] [] M) else none) else some (some (.int a3), M)) := by
  refine Eq.trans (zX_rgN (tl_X2_bestFrom g) (hc_X2_bestFrom g) 43 _ _ _ _) ?_
  refine Eq.trans (Eq.trans (Eq.trans (r_0 (act := oF [5] (oS (fIld 20 4))) rfl) (a_F rfl)) (a_ild rfl)) ?_
  refine Eq.trans (Eq.trans (r_go (act := oS (fSt 22 (gC (.int 10)))) rfl rfl) (a_C)) ?_
  refine Eq.trans (Eq.trans (r_go (act := oS (fCm 25 86 cLt)) rfl rfl) (a_cm)) (bcg ?_ ?_)
  · refine Eq.trans (Eq.trans (r_go (act := oS (fAld 26 0)) rfl rfl) (a_ald rfl)) ?_
    refine Eq.trans (Eq.trans (r_go (act := oS (fGr g 29 2 1)) rfl rfl) (a_gr (zO_240 g h2) (zR_240_1 g h2))) ?_
    refine Eq.trans (Eq.trans (r_go (act := oS (fIld 30 1)) rfl rfl) (a_ild rfl)) ?_
    refine Eq.trans (Eq.trans (r_go (act := oS (fSt 32 (gC (.int 10)))) rfl rfl) (a_C)) ?_
    refine Eq.trans (Eq.trans (r_go (act := oS (fSt 33 (g2 (fun x y => x * y)))) rfl rfl) (a_mul)) ?_
    refine Eq.trans (Eq.trans (r_go (act := oS (fIld 35 4)) rfl rfl) (a_ild rfl)) ?_
    refine Eq.trans (Eq.trans (r_go (act := oS (fSt 36 (g2 (fun x y => x + y)))) rfl rfl) (a_add)) ?_
    refine Eq.trans (Eq.trans (r_go (act := oS (fIa g 37)) rfl rfl) (a_ia (zA_242 g h2) zS_242)) (bcg ?_ rfl)
    refine Eq.trans (Eq.trans (r_go (act := oS (fIst 39 5)) rfl rfl) (a_ist rfl rfl)) ?_
    refine Eq.trans (Eq.trans (r_go (act := oS (fIld 41 5)) rfl rfl) (a_ild rfl)) ?_
    refine Eq.trans (Eq.trans (r_go (act := oS (fIf 44 80 cGt0)) rfl rfl) (a_if)) (bcg ?_ ?_)
    · refine Eq.trans (Eq.trans (r_go (act := oS (fIld 45 2)) rfl rfl) (a_ild rfl)) ?_
      refine Eq.trans (Eq.trans (r_go (act := oS (fIld 47 4)) rfl rfl) (a_ild rfl)) ?_
      refine Eq.trans (Eq.trans (r_go (act := oS (fSt 48 (g2 (fun x y => x >>> (y &&& 31))))) rfl rfl) (a_shr)) ?_
      refine Eq.trans (Eq.trans (r_go (act := oS (fSt 49 (gC (.int 1)))) rfl rfl) (a_C)) ?_
      refine Eq.trans (Eq.trans (r_go (act := oS (fSt 50 (g2 (fun x y => x &&& y)))) rfl rfl) (a_and)) ?_
      refine Eq.trans (Eq.trans (r_go (act := oS (fIf 53 80 cEq0)) rfl rfl) (a_if)) (bcg ?_ ?_)
      · refine Eq.trans (Eq.trans (r_go (act := oS (fIld 54 3)) rfl rfl) (a_ild rfl)) ?_
        refine Eq.trans (Eq.trans (r_go (act := oS (fIld 56 5)) rfl rfl) (a_ild rfl)) ?_
        refine Eq.trans (Eq.trans (r_go (act := oS (fAld 57 0)) rfl rfl) (a_ald rfl)) ?_
        refine Eq.trans (Eq.trans (r_go (act := oS (fGr g 60 2 0)) rfl rfl) (a_gr (zO_240 g h2) (zR_240_0 g h2))) ?_
        refine Eq.trans (Eq.trans (r_go (act := oS (fIld 61 1)) rfl rfl) (a_ild rfl)) ?_
        refine Eq.trans (Eq.trans (r_go (act := oS (fSt 62 (gC (.int 1)))) rfl rfl) (a_C)) ?_
        refine Eq.trans (Eq.trans (r_go (act := oS (fSt 63 (g2 (fun x y => x + y)))) rfl rfl) (a_add)) ?_
        refine Eq.trans (Eq.trans (r_go (act := oS (fSt 66 (gC (.int 1024)))) rfl rfl) (a_C)) ?_
        refine Eq.trans (Eq.trans (r_go (act := oS (fSt 67 (g2 (fun x y => x * y)))) rfl rfl) (a_mul)) ?_
        refine Eq.trans (Eq.trans (r_go (act := oS (fIld 68 2)) rfl rfl) (a_ild rfl)) ?_
        refine Eq.trans (Eq.trans (r_go (act := oS (fSt 69 (gC (.int 1)))) rfl rfl) (a_C)) ?_
        refine Eq.trans (Eq.trans (r_go (act := oS (fIld 71 4)) rfl rfl) (a_ild rfl)) ?_
        refine Eq.trans (Eq.trans (r_go (act := oS (fSt 72 (g2 (fun x y => x <<< (y &&& 31))))) rfl rfl) (a_shl)) ?_
        refine Eq.trans (Eq.trans (r_go (act := oS (fSt 73 (g2 (fun x y => x ||| y)))) rfl rfl) (a_or)) ?_
        refine Eq.trans (Eq.trans (r_go (act := oS (fSt 74 (g2 (fun x y => x + y)))) rfl rfl) (a_add)) ?_
        refine Eq.trans (Eq.trans (r_go (act := oS (fIa g 75)) rfl rfl) (a_ia (zA_241 g h2) zS_241)) (bcg ?_ rfl)
        refine Eq.trans (Eq.trans (r_go (act := oS (fSt 76 (g2 (fun x y => x + y)))) rfl rfl) (a_add)) ?_
        refine Eq.trans (Eq.trans (r_go (act := oCI 79 2 zcs (X_J9_max_7cf53 g)) rfl rfl) (a_cI rfl rfl)) (zbI_cg (fun x1 M1 => ?_))
        refine Eq.trans (Eq.trans (r_go (act := oS (fIst 80 3)) rfl rfl) (a_ist rfl rfl)) ?_
        refine Eq.trans (Eq.trans (r_go (act := oS (fInc 83 4 1)) rfl rfl) (a_inc rfl rfl rfl)) ?_
        refine Eq.trans (Eq.trans (r_go (act := oS (fGo 18)) rfl rfl) (a_goto)) ?_
        exact r_cut rfl rfl
      · refine Eq.trans (Eq.trans (r_go (act := oS (fInc 83 4 1)) rfl rfl) (a_inc rfl rfl rfl)) ?_
        refine Eq.trans (Eq.trans (r_go (act := oS (fGo 18)) rfl rfl) (a_goto)) ?_
        exact r_cut rfl rfl
    · refine Eq.trans (Eq.trans (r_go (act := oS (fInc 83 4 1)) rfl rfl) (a_inc rfl rfl rfl)) ?_
      refine Eq.trans (Eq.trans (r_go (act := oS (fGo 18)) rfl rfl) (a_goto)) ?_
      exact r_cut rfl rfl
  · refine Eq.trans (Eq.trans (r_go (act := oS (fIld 87 3)) rfl rfl) (a_ild rfl)) ?_
    exact Eq.trans (r_go (act := oIret) rfl rfl) (a_iret)
set_option maxRecDepth 20000 in
theorem e_X2_greatestService_0 (g : zg) (h2 : g.2 = true) (M : zM) : zX (t_X2_greatestService g) 0 [some (.ref 240), some (.ref 7), some (.ref 32), none, none] [] M = (zbV (X_X2_countWorths g [.ref 240, .ref 7, .ref 32] M) (fun M1 => zX (t_X2_greatestService g) 8 [some (.ref 240), none, some (.ref 32), some (.int 0), none] [] M1)) := by
  refine Eq.trans (zX_rgN (tl_X2_greatestService g) (hc_X2_greatestService g) 8 _ _ _ _) ?_
  refine Eq.trans (Eq.trans (r_0 (act := oS (fAld 1 0)) rfl) (a_ald rfl)) ?_
  refine Eq.trans (Eq.trans (r_go (act := oS (fAld 2 1)) rfl rfl) (a_ald rfl)) ?_
  refine Eq.trans (Eq.trans (r_go (act := oS (fAld 3 2)) rfl rfl) (a_ald rfl)) ?_
  refine Eq.trans (Eq.trans (r_go (act := oCV 6 3 (zcv g 2) (X_X2_countWorths g)) rfl rfl) (a_cV rfl (zck (zO_240 g h2) rfl))) (zbV_cg (fun M1 => ?_))
  refine Eq.trans (Eq.trans (r_go (act := oS (fSt 7 (gC (.int 0)))) rfl rfl) (a_C)) ?_
  refine Eq.trans (Eq.trans (r_go (act := oS (fIst 8 3)) rfl rfl) (a_ist rfl rfl)) ?_
  exact r_cut rfl rfl
theorem x_X2_greatestService_0 (g : zg) (h2 : g.2 = true) (M : zM) : X_X2_greatestService g [.ref 240, .ref 7, .ref 32] M = (zbV (X_X2_countWorths g [.ref 240, .ref 7, .ref 32] M) (fun M1 => zX (t_X2_greatestService g) 8 [some (.ref 240), none, some (.ref 32), some (.int 0), none] [] M1)) := e_X2_greatestService_0 g h2 M
set_option maxRecDepth 20000 in
theorem e_X2_greatestService_8 (g : zg) (h2 : g.2 = true) (a3 : Int32) (M : zM) : zX (t_X2_greatestService g) 8 [some (.ref 240), none, some (.ref 32), some (.int a3), none] [] M = (bif cLt a3 1024 then (bif zb (((M.1 32 8) * 1024) + a3) 7168 then zX (t_X2_greatestService g) 8 [some (.ref 240), none, some (.ref 32), some (.int (a3 + 1)), none] [] ((zu M.1 241 (zx (((M.1 32 8) * 1024) + a3)) 0), M.2) else none) else zX (t_X2_greatestService g) 44 [some (.ref 240), none, none, some (.int ((M.1 32 8) - 1)), none] [] M) := by
  refine Eq.trans (zX_rgN (tl_X2_greatestService g) (hc_X2_greatestService g) 17 _ _ _ _) ?_
  refine Eq.trans (Eq.trans (Eq.trans (r_0 (act := oF [1, 4] (oS (fIld 9 3))) rfl) (a_F rfl)) (a_ild rfl)) ?_
  refine Eq.trans (Eq.trans (r_go (act := oS (fSt 12 (gC (.int 1024)))) rfl rfl) (a_C)) ?_
  refine Eq.trans (Eq.trans (r_go (act := oS (fCm 15 37 cLt)) rfl rfl) (a_cm)) (bcg ?_ ?_)
  · refine Eq.trans (Eq.trans (r_go (act := oS (fAld 16 0)) rfl rfl) (a_ald rfl)) ?_
    refine Eq.trans (Eq.trans (r_go (act := oS (fGr g 19 2 0)) rfl rfl) (a_gr (zO_240 g h2) (zR_240_0 g h2))) ?_
    refine Eq.trans (Eq.trans (r_go (act := oS (fAld 20 2)) rfl rfl) (a_ald rfl)) ?_
    refine Eq.trans (Eq.trans (r_go (act := oS (fGi g 23 6 8)) rfl rfl) (a_gi (zO_32 g))) ?_
    refine Eq.trans (Eq.trans (r_go (act := oS (fSt 26 (gC (.int 1024)))) rfl rfl) (a_C)) ?_
    refine Eq.trans (Eq.trans (r_go (act := oS (fSt 27 (g2 (fun x y => x * y)))) rfl rfl) (a_mul)) ?_
    refine Eq.trans (Eq.trans (r_go (act := oS (fIld 28 3)) rfl rfl) (a_ild rfl)) ?_
    refine Eq.trans (Eq.trans (r_go (act := oS (fSt 29 (g2 (fun x y => x + y)))) rfl rfl) (a_add)) ?_
    refine Eq.trans (Eq.trans (r_go (act := oS (fSt 30 (gC (.int 0)))) rfl rfl) (a_C)) ?_
    refine Eq.trans (Eq.trans (r_go (act := oS (fIs g 31)) rfl rfl) (a_is (zA_241 g h2) zS_241)) (bcg ?_ rfl)
    refine Eq.trans (Eq.trans (r_go (act := oS (fInc 34 3 1)) rfl rfl) (a_inc rfl rfl rfl)) ?_
    refine Eq.trans (Eq.trans (r_go (act := oS (fGo 8)) rfl rfl) (a_goto)) ?_
    exact r_cut rfl rfl
  · refine Eq.trans (Eq.trans (r_go (act := oS (fAld 38 2)) rfl rfl) (a_ald rfl)) ?_
    refine Eq.trans (Eq.trans (r_go (act := oS (fGi g 41 6 8)) rfl rfl) (a_gi (zO_32 g))) ?_
    refine Eq.trans (Eq.trans (r_go (act := oS (fSt 42 (gC (.int 1)))) rfl rfl) (a_C)) ?_
    refine Eq.trans (Eq.trans (r_go (act := oS (fSt 43 (g2 (fun x y => x - y)))) rfl rfl) (a_sub)) ?_
    refine Eq.trans (Eq.trans (r_go (act := oS (fIst 44 3)) rfl rfl) (a_ist rfl rfl)) ?_
    exact r_cut rfl rfl
set_option maxRecDepth 20000 in
theorem e_X2_greatestService_44 (g : zg) (h2 : g.2 = true) (a3 : Int32) (M : zM) : zX (t_X2_greatestService g) 44 [some (.ref 240), none, none, some (.int a3), none] [] M = (bif cLt0 a3 then some (some (.int (M.1 241 0)), M) else zX (t_X2_greatestService g) 51 [some (.ref 240), none, none, some (.int a3), some (.int 0)] [] M) := by
  refine Eq.trans (zX_rgN (tl_X2_greatestService g) (hc_X2_greatestService g) 8 _ _ _ _) ?_
  refine Eq.trans (Eq.trans (Eq.trans (r_0 (act := oF [1, 2, 4] (oS (fIld 45 3))) rfl) (a_F rfl)) (a_ild rfl)) ?_
  refine Eq.trans (Eq.trans (r_go (act := oS (fIf 100 48 cLt0)) rfl rfl) (a_if)) (bcg ?_ ?_)
  · refine Eq.trans (Eq.trans (r_go (act := oS (fAld 101 0)) rfl rfl) (a_ald rfl)) ?_
    refine Eq.trans (Eq.trans (r_go (act := oS (fGr g 104 2 0)) rfl rfl) (a_gr (zO_240 g h2) (zR_240_0 g h2))) ?_
    refine Eq.trans (Eq.trans (r_go (act := oS (fSt 105 (gC (.int 0)))) rfl rfl) (a_C)) ?_
    refine Eq.trans (Eq.trans (r_go (act := oS (fIa g 106)) rfl rfl) (a_iaK (j := 0) (zA_241 g h2) zS_241 (by decide +kernel) (by decide +kernel))) ?_
    exact Eq.trans (r_go (act := oIret) rfl rfl) (a_iret)
  · refine Eq.trans (Eq.trans (r_go (act := oS (fSt 49 (gC (.int 0)))) rfl rfl) (a_C)) ?_
    refine Eq.trans (Eq.trans (r_go (act := oS (fIst 51 4)) rfl rfl) (a_ist rfl rfl)) ?_
    exact r_cut rfl rfl
set_option maxRecDepth 20000 in
theorem e_X2_greatestService_51 (g : zg) (h2 : g.2 = true) (a3 : Int32) (a4 : Int32) (M : zM) : zX (t_X2_greatestService g) 51 [some (.ref 240), none, none, some (.int a3), some (.int a4)] [] M = (bif cLt a4 1024 then (zbI (X_J6_bitCount_0f7a4 g [.int a4] M) (fun x1 M1 => (bif cGt x1 a3 then zX (t_X2_greatestService g) 51 [some (.ref 240), none, none, some (.int a3), some (.int (a4 + 1))] [] M1 else (zbI (X_X2_bestFrom g [.ref 240, .int a3, .int a4] M1) (fun x2 M2 => (bif zb ((a3 * 1024) + a4) 7168 then zX (t_X2_greatestService g) 51 [some (.ref 240), none, none, some (.int a3), some (.int (a4 + 1))] [] ((zu M2.1 241 (zx ((a3 * 1024) + a4)) x2), M2.2) else none)))))) else zX (t_X2_greatestService g) 44 [some (.ref 240), none, none, some (.int (a3 + (-1))), none] [] M) := by
  refine Eq.trans (zX_rgN (tl_X2_greatestService g) (hc_X2_greatestService g) 23 _ _ _ _) ?_
  refine Eq.trans (Eq.trans (Eq.trans (r_0 (act := oF [1, 2] (oS (fIld 53 4))) rfl) (a_F rfl)) (a_ild rfl)) ?_
  refine Eq.trans (Eq.trans (r_go (act := oS (fSt 56 (gC (.int 1024)))) rfl rfl) (a_C)) ?_
  refine Eq.trans (Eq.trans (r_go (act := oS (fCm 59 94 cLt)) rfl rfl) (a_cm)) (bcg ?_ ?_)
  · refine Eq.trans (Eq.trans (r_go (act := oS (fIld 61 4)) rfl rfl) (a_ild rfl)) ?_
    refine Eq.trans (Eq.trans (r_go (act := oCI 64 1 zcs (X_J6_bitCount_0f7a4 g)) rfl rfl) (a_cI rfl rfl)) (zbI_cg (fun x1 M1 => ?_))
    refine Eq.trans (Eq.trans (r_go (act := oS (fIld 65 3)) rfl rfl) (a_ild rfl)) ?_
    refine Eq.trans (Eq.trans (r_go (act := oS (fCm 88 68 cGt)) rfl rfl) (a_cm)) (bcg ?_ ?_)
    · refine Eq.trans (Eq.trans (r_go (act := oS (fInc 91 4 1)) rfl rfl) (a_inc rfl rfl rfl)) ?_
      refine Eq.trans (Eq.trans (r_go (act := oS (fGo 51)) rfl rfl) (a_goto)) ?_
      exact r_cut rfl rfl
    · refine Eq.trans (Eq.trans (r_go (act := oS (fAld 69 0)) rfl rfl) (a_ald rfl)) ?_
      refine Eq.trans (Eq.trans (r_go (act := oS (fGr g 72 2 0)) rfl rfl) (a_gr (zO_240 g h2) (zR_240_0 g h2))) ?_
      refine Eq.trans (Eq.trans (r_go (act := oS (fIld 73 3)) rfl rfl) (a_ild rfl)) ?_
      refine Eq.trans (Eq.trans (r_go (act := oS (fSt 76 (gC (.int 1024)))) rfl rfl) (a_C)) ?_
      refine Eq.trans (Eq.trans (r_go (act := oS (fSt 77 (g2 (fun x y => x * y)))) rfl rfl) (a_mul)) ?_
      refine Eq.trans (Eq.trans (r_go (act := oS (fIld 79 4)) rfl rfl) (a_ild rfl)) ?_
      refine Eq.trans (Eq.trans (r_go (act := oS (fSt 80 (g2 (fun x y => x + y)))) rfl rfl) (a_add)) ?_
      refine Eq.trans (Eq.trans (r_go (act := oS (fAld 81 0)) rfl rfl) (a_ald rfl)) ?_
      refine Eq.trans (Eq.trans (r_go (act := oS (fIld 82 3)) rfl rfl) (a_ild rfl)) ?_
      refine Eq.trans (Eq.trans (r_go (act := oS (fIld 84 4)) rfl rfl) (a_ild rfl)) ?_
      refine Eq.trans (Eq.trans (r_go (act := oCI 87 3 (zcv g 2) (X_X2_bestFrom g)) rfl rfl) (a_cI rfl (zck (zO_240 g h2) rfl))) (zbI_cg (fun x2 M2 => ?_))
      refine Eq.trans (Eq.trans (r_go (act := oS (fIs g 88)) rfl rfl) (a_is (zA_241 g h2) zS_241)) (bcg ?_ rfl)
      refine Eq.trans (Eq.trans (r_go (act := oS (fInc 91 4 1)) rfl rfl) (a_inc rfl rfl rfl)) ?_
      refine Eq.trans (Eq.trans (r_go (act := oS (fGo 51)) rfl rfl) (a_goto)) ?_
      exact r_cut rfl rfl
  · refine Eq.trans (Eq.trans (r_go (act := oS (fInc 97 3 (-1))) rfl rfl) (a_inc rfl rfl rfl)) ?_
    refine Eq.trans (Eq.trans (r_go (act := oS (fGo 44)) rfl rfl) (a_goto)) ?_
    exact r_cut rfl rfl
set_option maxRecDepth 20000 in
theorem e_X2_firstHolder_0 (g : zg) (h2 : g.2 = true) (a1 : Int32) (a2 : Int32) (M : zM) : zX (t_X2_firstHolder g) 0 [some (.ref 240), some (.int a1), some (.int a2), none, none, none] [] M = (bif zb ((a1 * 1024) + a2) 7168 then zX (t_X2_firstHolder g) 16 [some (.ref 240), some (.int a1), some (.int a2), some (.int (M.1 241 (zx ((a1 * 1024) + a2)))), some (.int 0), none] [] M else none) := by
  refine Eq.trans (zX_rgN (tl_X2_firstHolder g) (hc_X2_firstHolder g) 13 _ _ _ _) ?_
  refine Eq.trans (Eq.trans (r_0 (act := oS (fAld 1 0)) rfl) (a_ald rfl)) ?_
  refine Eq.trans (Eq.trans (r_go (act := oS (fGr g 4 2 0)) rfl rfl) (a_gr (zO_240 g h2) (zR_240_0 g h2))) ?_
  refine Eq.trans (Eq.trans (r_go (act := oS (fIld 5 1)) rfl rfl) (a_ild rfl)) ?_
  refine Eq.trans (Eq.trans (r_go (act := oS (fSt 8 (gC (.int 1024)))) rfl rfl) (a_C)) ?_
  refine Eq.trans (Eq.trans (r_go (act := oS (fSt 9 (g2 (fun x y => x * y)))) rfl rfl) (a_mul)) ?_
  refine Eq.trans (Eq.trans (r_go (act := oS (fIld 10 2)) rfl rfl) (a_ild rfl)) ?_
  refine Eq.trans (Eq.trans (r_go (act := oS (fSt 11 (g2 (fun x y => x + y)))) rfl rfl) (a_add)) ?_
  refine Eq.trans (Eq.trans (r_go (act := oS (fIa g 12)) rfl rfl) (a_ia (zA_241 g h2) zS_241)) (bcg ?_ rfl)
  refine Eq.trans (Eq.trans (r_go (act := oS (fIst 13 3)) rfl rfl) (a_ist rfl rfl)) ?_
  refine Eq.trans (Eq.trans (r_go (act := oS (fSt 14 (gC (.int 0)))) rfl rfl) (a_C)) ?_
  refine Eq.trans (Eq.trans (r_go (act := oS (fIst 16 4)) rfl rfl) (a_ist rfl rfl)) ?_
  exact r_cut rfl rfl
theorem x_X2_firstHolder_0 (g : zg) (h2 : g.2 = true) (a1 : Int32) (a2 : Int32) (M : zM) : X_X2_firstHolder g [.ref 240, .int a1, .int a2] M = (bif zb ((a1 * 1024) + a2) 7168 then zX (t_X2_firstHolder g) 16 [some (.ref 240), some (.int a1), some (.int a2), some (.int (M.1 241 (zx ((a1 * 1024) + a2)))), some (.int 0), none] [] M else none) := e_X2_firstHolder_0 g h2 a1 a2 M
set_option maxRecDepth 20000 in
theorem e_X2_firstHolder_16 (g : zg) (h2 : g.2 = true) (a1 : Int32) (a2 : Int32) (a3 : Int32) (a4 : Int32) (M : zM) : zX (t_X2_firstHolder g) 16 [some (.ref 240), some (.int a1), some (.int a2), some (.int a3), some (.int a4), none] [] M = (bif cLt a4 10 then (bif zb ((a1 * 10) + a4) 60 then (bif cGt0 (M.1 242 (zx ((a1 * 10) + a4))) then (bif cEq0 ((a2 >>> (a4 &&& 31)) &&& 1) then (bif zb (((a1 + 1) * 1024) + (a2 ||| ((1 : Int32) <<< (a4 &&& 31)))) 7168 then (bif cEq ((M.1 242 (zx ((a1 * 10) + a4))) + (M.1 241 (zx (((a1 + 1) * 1024) + (a2 ||| ((1 : Int32) <<< (a4 &&& 31))))))) a3 then some (some (.int a4), M) else zX (t_X2_firstHolder g) 16 [some (.ref 240), some (.int a1), some (.int a2), some (.int a3), some (.int (a4 + 1)), none] [] M) else none) else zX (t_X2_firstHolder g) 16 [some (.ref 240), some (.int a1), some (.int a2), some (.int a3), some (.int (a4 + 1)), none] [] M) else zX (t_X2_firstHolder g) 16 [some (.ref 240), some (.int a1), some (.int a2), some (.int a3), some (.int (a4 + 1)), none] [] M) else none) else some (some (.int (-1)), M)) := by
  refine Eq.trans (zX_rgN (tl_X2_firstHolder g) (hc_X2_firstHolder g) 42 _ _ _ _) ?_
  refine Eq.trans (Eq.trans (Eq.trans (r_0 (act := oF [5] (oS (fIld 18 4))) rfl) (a_F rfl)) (a_ild rfl)) ?_
  refine Eq.trans (Eq.trans (r_go (act := oS (fSt 20 (gC (.int 10)))) rfl rfl) (a_C)) ?_
  refine Eq.trans (Eq.trans (r_go (act := oS (fCm 23 86 cLt)) rfl rfl) (a_cm)) (bcg ?_ ?_)
  · refine Eq.trans (Eq.trans (r_go (act := oS (fAld 24 0)) rfl rfl) (a_ald rfl)) ?_
    refine Eq.trans (Eq.trans (r_go (act := oS (fGr g 27 2 1)) rfl rfl) (a_gr (zO_240 g h2) (zR_240_1 g h2))) ?_
    refine Eq.trans (Eq.trans (r_go (act := oS (fIld 28 1)) rfl rfl) (a_ild rfl)) ?_
    refine Eq.trans (Eq.trans (r_go (act := oS (fSt 30 (gC (.int 10)))) rfl rfl) (a_C)) ?_
    refine Eq.trans (Eq.trans (r_go (act := oS (fSt 31 (g2 (fun x y => x * y)))) rfl rfl) (a_mul)) ?_
    refine Eq.trans (Eq.trans (r_go (act := oS (fIld 33 4)) rfl rfl) (a_ild rfl)) ?_
    refine Eq.trans (Eq.trans (r_go (act := oS (fSt 34 (g2 (fun x y => x + y)))) rfl rfl) (a_add)) ?_
    refine Eq.trans (Eq.trans (r_go (act := oS (fIa g 35)) rfl rfl) (a_ia (zA_242 g h2) zS_242)) (bcg ?_ rfl)
    refine Eq.trans (Eq.trans (r_go (act := oS (fIst 37 5)) rfl rfl) (a_ist rfl rfl)) ?_
    refine Eq.trans (Eq.trans (r_go (act := oS (fIld 39 5)) rfl rfl) (a_ild rfl)) ?_
    refine Eq.trans (Eq.trans (r_go (act := oS (fIf 42 80 cGt0)) rfl rfl) (a_if)) (bcg ?_ ?_)
    · refine Eq.trans (Eq.trans (r_go (act := oS (fIld 43 2)) rfl rfl) (a_ild rfl)) ?_
      refine Eq.trans (Eq.trans (r_go (act := oS (fIld 45 4)) rfl rfl) (a_ild rfl)) ?_
      refine Eq.trans (Eq.trans (r_go (act := oS (fSt 46 (g2 (fun x y => x >>> (y &&& 31))))) rfl rfl) (a_shr)) ?_
      refine Eq.trans (Eq.trans (r_go (act := oS (fSt 47 (gC (.int 1)))) rfl rfl) (a_C)) ?_
      refine Eq.trans (Eq.trans (r_go (act := oS (fSt 48 (g2 (fun x y => x &&& y)))) rfl rfl) (a_and)) ?_
      refine Eq.trans (Eq.trans (r_go (act := oS (fIf 51 80 cEq0)) rfl rfl) (a_if)) (bcg ?_ ?_)
      · refine Eq.trans (Eq.trans (r_go (act := oS (fIld 53 5)) rfl rfl) (a_ild rfl)) ?_
        refine Eq.trans (Eq.trans (r_go (act := oS (fAld 54 0)) rfl rfl) (a_ald rfl)) ?_
        refine Eq.trans (Eq.trans (r_go (act := oS (fGr g 57 2 0)) rfl rfl) (a_gr (zO_240 g h2) (zR_240_0 g h2))) ?_
        refine Eq.trans (Eq.trans (r_go (act := oS (fIld 58 1)) rfl rfl) (a_ild rfl)) ?_
        refine Eq.trans (Eq.trans (r_go (act := oS (fSt 59 (gC (.int 1)))) rfl rfl) (a_C)) ?_
        refine Eq.trans (Eq.trans (r_go (act := oS (fSt 60 (g2 (fun x y => x + y)))) rfl rfl) (a_add)) ?_
        refine Eq.trans (Eq.trans (r_go (act := oS (fSt 63 (gC (.int 1024)))) rfl rfl) (a_C)) ?_
        refine Eq.trans (Eq.trans (r_go (act := oS (fSt 64 (g2 (fun x y => x * y)))) rfl rfl) (a_mul)) ?_
        refine Eq.trans (Eq.trans (r_go (act := oS (fIld 65 2)) rfl rfl) (a_ild rfl)) ?_
        refine Eq.trans (Eq.trans (r_go (act := oS (fSt 66 (gC (.int 1)))) rfl rfl) (a_C)) ?_
        refine Eq.trans (Eq.trans (r_go (act := oS (fIld 68 4)) rfl rfl) (a_ild rfl)) ?_
        refine Eq.trans (Eq.trans (r_go (act := oS (fSt 69 (g2 (fun x y => x <<< (y &&& 31))))) rfl rfl) (a_shl)) ?_
        refine Eq.trans (Eq.trans (r_go (act := oS (fSt 70 (g2 (fun x y => x ||| y)))) rfl rfl) (a_or)) ?_
        refine Eq.trans (Eq.trans (r_go (act := oS (fSt 71 (g2 (fun x y => x + y)))) rfl rfl) (a_add)) ?_
        refine Eq.trans (Eq.trans (r_go (act := oS (fIa g 72)) rfl rfl) (a_ia (zA_241 g h2) zS_241)) (bcg ?_ rfl)
        refine Eq.trans (Eq.trans (r_go (act := oS (fSt 73 (g2 (fun x y => x + y)))) rfl rfl) (a_add)) ?_
        refine Eq.trans (Eq.trans (r_go (act := oS (fIld 74 3)) rfl rfl) (a_ild rfl)) ?_
        refine Eq.trans (Eq.trans (r_go (act := oS (fCm 77 80 cEq)) rfl rfl) (a_cm)) (bcg ?_ ?_)
        · refine Eq.trans (Eq.trans (r_go (act := oS (fIld 79 4)) rfl rfl) (a_ild rfl)) ?_
          exact Eq.trans (r_go (act := oIret) rfl rfl) (a_iret)
        · refine Eq.trans (Eq.trans (r_go (act := oS (fInc 83 4 1)) rfl rfl) (a_inc rfl rfl rfl)) ?_
          refine Eq.trans (Eq.trans (r_go (act := oS (fGo 16)) rfl rfl) (a_goto)) ?_
          exact r_cut rfl rfl
      · refine Eq.trans (Eq.trans (r_go (act := oS (fInc 83 4 1)) rfl rfl) (a_inc rfl rfl rfl)) ?_
        refine Eq.trans (Eq.trans (r_go (act := oS (fGo 16)) rfl rfl) (a_goto)) ?_
        exact r_cut rfl rfl
    · refine Eq.trans (Eq.trans (r_go (act := oS (fInc 83 4 1)) rfl rfl) (a_inc rfl rfl rfl)) ?_
      refine Eq.trans (Eq.trans (r_go (act := oS (fGo 16)) rfl rfl) (a_goto)) ?_
      exact r_cut rfl rfl
  · refine Eq.trans (Eq.trans (r_go (act := oS (fSt 87 (gC (.int (-1))))) rfl rfl) (a_C)) ?_
    exact Eq.trans (r_go (act := oIret) rfl rfl) (a_iret)
set_option maxRecDepth 20000 in
theorem e_X2_holderOf_0 (g : zg) (h2 : g.2 = true) (a3 : Int32) (M : zM) : zX (t_X2_holderOf g) 0 [some (.ref 240), some (.ref 7), some (.ref 32), some (.int a3), none, none, none] [] M = (zbI (X_X2_greatestService g [.ref 240, .ref 7, .ref 32] M) (fun x1 M1 => zX (t_X2_holderOf g) 16 [some (.ref 240), none, some (.ref 32), some (.int a3), some (.int 0), some (.int (-1)), some (.int 0)] [] M1)) := by
  refine Eq.trans (zX_rgN (tl_X2_holderOf g) (hc_X2_holderOf g) 13 _ _ _ _) ?_
  refine Eq.trans (Eq.trans (r_0 (act := oS (fAld 1 0)) rfl) (a_ald rfl)) ?_
  refine Eq.trans (Eq.trans (r_go (act := oS (fAld 2 1)) rfl rfl) (a_ald rfl)) ?_
  refine Eq.trans (Eq.trans (r_go (act := oS (fAld 3 2)) rfl rfl) (a_ald rfl)) ?_
  refine Eq.trans (Eq.trans (r_go (act := oCI 6 3 (zcv g 2) (X_X2_greatestService g)) rfl rfl) (a_cI rfl (zck (zO_240 g h2) rfl))) (zbI_cg (fun x1 M1 => ?_))
  refine Eq.trans (Eq.trans (r_go (act := oS (fSt 7 gPop)) rfl rfl) (a_popI)) ?_
  refine Eq.trans (Eq.trans (r_go (act := oS (fSt 8 (gC (.int 0)))) rfl rfl) (a_C)) ?_
  refine Eq.trans (Eq.trans (r_go (act := oS (fIst 10 4)) rfl rfl) (a_ist rfl rfl)) ?_
  refine Eq.trans (Eq.trans (r_go (act := oS (fSt 11 (gC (.int (-1))))) rfl rfl) (a_C)) ?_
  refine Eq.trans (Eq.trans (r_go (act := oS (fIst 13 5)) rfl rfl) (a_ist rfl rfl)) ?_
  refine Eq.trans (Eq.trans (r_go (act := oS (fSt 14 (gC (.int 0)))) rfl rfl) (a_C)) ?_
  refine Eq.trans (Eq.trans (r_go (act := oS (fIst 16 6)) rfl rfl) (a_ist rfl rfl)) ?_
  exact r_cut rfl rfl
theorem x_X2_holderOf_0 (g : zg) (h2 : g.2 = true) (a3 : Int32) (M : zM) : X_X2_holderOf g [.ref 240, .ref 7, .ref 32, .int a3] M = (zbI (X_X2_greatestService g [.ref 240, .ref 7, .ref 32] M) (fun x1 M1 => zX (t_X2_holderOf g) 16 [some (.ref 240), none, some (.ref 32), some (.int a3), some (.int 0), some (.int (-1)), some (.int 0)] [] M1)) := e_X2_holderOf_0 g h2 a3 M
set_option maxRecDepth 20000 in
theorem e_X2_holderOf_16 (g : zg) (h2 : g.2 = true) (a3 : Int32) (a4 : Int32) (a5 : Int32) (a6 : Int32) (M : zM) : zX (t_X2_holderOf g) 16 [some (.ref 240), none, some (.ref 32), some (.int a3), some (.int a4), some (.int a5), some (.int a6)] [] M = (bif cGt a6 a3 then some (some (.int a5), M) else (bif cLt a6 (M.1 32 8) then (zbI (X_X2_firstHolder g [.ref 240, .int a6, .int a4] M) (fun x1 M1 => (bif cEq x1 (-1) then zX (t_X2_holderOf g) 16 [some (.ref 240), none, some (.ref 32), some (.int a3), some (.int a4), some (.int x1), some (.int (a6 + 1))] [] M1 else zX (t_X2_holderOf g) 16 [some (.ref 240), none, some (.ref 32), some (.int a3), some (.int (a4 ||| ((1 : Int32) <<< (x1 &&& 31)))), some (.int x1), some (.int (a6 + 1))] [] M1))) else some (some (.int a5), M))) := by
  refine Eq.trans (zX_rgN (tl_X2_holderOf g) (hc_X2_holderOf g) 25 _ _ _ _) ?_
  refine Eq.trans (Eq.trans (Eq.trans (r_0 (act := oF [1] (oS (fIld 18 6))) rfl) (a_F rfl)) (a_ild rfl)) ?_
  refine Eq.trans (Eq.trans (r_go (act := oS (fIld 19 3)) rfl rfl) (a_ild rfl)) ?_
  refine Eq.trans (Eq.trans (r_go (act := oS (fCm 62 22 cGt)) rfl rfl) (a_cm)) (bcg ?_ ?_)
  · refine Eq.trans (Eq.trans (r_go (act := oS (fIld 64 5)) rfl rfl) (a_ild rfl)) ?_
    exact Eq.trans (r_go (act := oIret) rfl rfl) (a_iret)
  · refine Eq.trans (Eq.trans (r_go (act := oS (fIld 24 6)) rfl rfl) (a_ild rfl)) ?_
    refine Eq.trans (Eq.trans (r_go (act := oS (fAld 25 2)) rfl rfl) (a_ald rfl)) ?_
    refine Eq.trans (Eq.trans (r_go (act := oS (fGi g 28 6 8)) rfl rfl) (a_gi (zO_32 g))) ?_
    refine Eq.trans (Eq.trans (r_go (act := oS (fCm 31 62 cLt)) rfl rfl) (a_cm)) (bcg ?_ ?_)
    · refine Eq.trans (Eq.trans (r_go (act := oS (fAld 32 0)) rfl rfl) (a_ald rfl)) ?_
      refine Eq.trans (Eq.trans (r_go (act := oS (fIld 34 6)) rfl rfl) (a_ild rfl)) ?_
      refine Eq.trans (Eq.trans (r_go (act := oS (fIld 36 4)) rfl rfl) (a_ild rfl)) ?_
      refine Eq.trans (Eq.trans (r_go (act := oCI 39 3 (zcv g 2) (X_X2_firstHolder g)) rfl rfl) (a_cI rfl (zck (zO_240 g h2) rfl))) (zbI_cg (fun x1 M1 => ?_))
      refine Eq.trans (Eq.trans (r_go (act := oS (fIst 41 5)) rfl rfl) (a_ist rfl rfl)) ?_
      refine Eq.trans (Eq.trans (r_go (act := oS (fIld 43 5)) rfl rfl) (a_ild rfl)) ?_
      refine Eq.trans (Eq.trans (r_go (act := oS (fSt 44 (gC (.int (-1))))) rfl rfl) (a_C)) ?_
      refine Eq.trans (Eq.trans (r_go (act := oS (fCm 56 47 cEq)) rfl rfl) (a_cm)) (bcg ?_ ?_)
      · refine Eq.trans (Eq.trans (r_go (act := oS (fInc 59 6 1)) rfl rfl) (a_inc rfl rfl rfl)) ?_
        refine Eq.trans (Eq.trans (r_go (act := oS (fGo 16)) rfl rfl) (a_goto)) ?_
        exact r_cut rfl rfl
      · refine Eq.trans (Eq.trans (r_go (act := oS (fIld 49 4)) rfl rfl) (a_ild rfl)) ?_
        refine Eq.trans (Eq.trans (r_go (act := oS (fSt 50 (gC (.int 1)))) rfl rfl) (a_C)) ?_
        refine Eq.trans (Eq.trans (r_go (act := oS (fIld 52 5)) rfl rfl) (a_ild rfl)) ?_
        refine Eq.trans (Eq.trans (r_go (act := oS (fSt 53 (g2 (fun x y => x <<< (y &&& 31))))) rfl rfl) (a_shl)) ?_
        refine Eq.trans (Eq.trans (r_go (act := oS (fSt 54 (g2 (fun x y => x ||| y)))) rfl rfl) (a_or)) ?_
        refine Eq.trans (Eq.trans (r_go (act := oS (fIst 56 4)) rfl rfl) (a_ist rfl rfl)) ?_
        refine Eq.trans (Eq.trans (r_go (act := oS (fInc 59 6 1)) rfl rfl) (a_inc rfl rfl rfl)) ?_
        refine Eq.trans (Eq.trans (r_go (act := oS (fGo 16)) rfl rfl) (a_goto)) ?_
        exact r_cut rfl rfl
    · refine Eq.trans (Eq.trans (r_go (act := oS (fIld 64 5)) rfl rfl) (a_ild rfl)) ?_
      exact Eq.trans (r_go (act := oIret) rfl rfl) (a_iret)
set_option maxRecDepth 20000 in
theorem e_J6_numberOfTrailingZeros_0f7a4_0 (g : zg) (a0 : Int32) (M : zM) : zX (t_J6_numberOfTrailingZeros_0f7a4 g) 0 [some (.int a0), none] [] M = (bif cGt0 ((a0 ^^^ (-1)) &&& (a0 - 1)) then (bif cGt ((a0 ^^^ (-1)) &&& (a0 - 1)) 65536 then (bif cGt (zushr ((a0 ^^^ (-1)) &&& (a0 - 1)) 16) 256 then zX (t_J6_numberOfTrailingZeros_0f7a4 g) 49 [some (.int (zushr (zushr ((a0 ^^^ (-1)) &&& (a0 - 1)) 16) 8)), some (.int ((1 + 16) + 8))] [] M else zX (t_J6_numberOfTrailingZeros_0f7a4 g) 49 [some (.int (zushr ((a0 ^^^ (-1)) &&& (a0 - 1)) 16)), some (.int (1 + 16))] [] M) else (bif cGt ((a0 ^^^ (-1)) &&& (a0 - 1)) 256 then zX (t_J6_numberOfTrailingZeros_0f7a4 g) 49 [some (.int (zushr ((a0 ^^^ (-1)) &&& (a0 - 1)) 8)), some (.int (1 + 8))] [] M else zX (t_J6_numberOfTrailingZeros_0f7a4 g) 49 [some (.int ((a0 ^^^ (-1)) &&& (a0 - 1))), some (.int 1)] [] M)) else some (some (.int (((a0 ^^^ (-1)) &&& (a0 - 1)) &&& 32)), M)) := by
  refine Eq.trans (zX_rgN (tl_J6_numberOfTrailingZeros_0f7a4 g) (hc_J6_numberOfTrailingZeros_0f7a4 g) 30 _ _ _ _) ?_
  refine Eq.trans (Eq.trans (r_0 (act := oS (fIld 1 0)) rfl) (a_ild rfl)) ?_
  refine Eq.trans (Eq.trans (r_go (act := oS (fSt 2 (gC (.int (-1))))) rfl rfl) (a_C)) ?_
  refine Eq.trans (Eq.trans (r_go (act := oS (fSt 3 (g2 (fun x y => x ^^^ y)))) rfl rfl) (a_xor)) ?_
  refine Eq.trans (Eq.trans (r_go (act := oS (fIld 4 0)) rfl rfl) (a_ild rfl)) ?_
  refine Eq.trans (Eq.trans (r_go (act := oS (fSt 5 (gC (.int 1)))) rfl rfl) (a_C)) ?_
  refine Eq.trans (Eq.trans (r_go (act := oS (fSt 6 (g2 (fun x y => x - y)))) rfl rfl) (a_sub)) ?_
  refine Eq.trans (Eq.trans (r_go (act := oS (fSt 7 (g2 (fun x y => x &&& y)))) rfl rfl) (a_and)) ?_
  refine Eq.trans (Eq.trans (r_go (act := oS (fIst 8 0)) rfl rfl) (a_ist rfl rfl)) ?_
  refine Eq.trans (Eq.trans (r_go (act := oS (fIld 9 0)) rfl rfl) (a_ild rfl)) ?_
  refine Eq.trans (Eq.trans (r_go (act := oS (fIf 17 12 cGt0)) rfl rfl) (a_if)) (bcg ?_ ?_)
  · refine Eq.trans (Eq.trans (r_go (act := oS (fSt 18 (gC (.int 1)))) rfl rfl) (a_C)) ?_
    refine Eq.trans (Eq.trans (r_go (act := oS (fIst 19 1)) rfl rfl) (a_ist rfl rfl)) ?_
    refine Eq.trans (Eq.trans (r_go (act := oS (fIld 20 0)) rfl rfl) (a_ild rfl)) ?_
    refine Eq.trans (Eq.trans (r_go (act := oS (fSt 23 (gC (.int 65536)))) rfl rfl) (a_C)) ?_
    refine Eq.trans (Eq.trans (r_go (act := oS (fCm 26 34 cGt)) rfl rfl) (a_cm)) (bcg ?_ ?_)
    · refine Eq.trans (Eq.trans (r_go (act := oS (fInc 29 1 16)) rfl rfl) (a_inc rfl rfl rfl)) ?_
      refine Eq.trans (Eq.trans (r_go (act := oS (fIld 30 0)) rfl rfl) (a_ild rfl)) ?_
      refine Eq.trans (Eq.trans (r_go (act := oS (fSt 32 (gC (.int 16)))) rfl rfl) (a_C)) ?_
      refine Eq.trans (Eq.trans (r_go (act := oS (fSt 33 (g2 zushr))) rfl rfl) (a_ush)) ?_
      refine Eq.trans (Eq.trans (r_go (act := oS (fIst 34 0)) rfl rfl) (a_ist rfl rfl)) ?_
      refine Eq.trans (Eq.trans (r_go (act := oS (fIld 35 0)) rfl rfl) (a_ild rfl)) ?_
      refine Eq.trans (Eq.trans (r_go (act := oS (fSt 38 (gC (.int 256)))) rfl rfl) (a_C)) ?_
      refine Eq.trans (Eq.trans (r_go (act := oS (fCm 41 49 cGt)) rfl rfl) (a_cm)) (bcg ?_ ?_)
      · refine Eq.trans (Eq.trans (r_go (act := oS (fInc 44 1 8)) rfl rfl) (a_inc rfl rfl rfl)) ?_
        refine Eq.trans (Eq.trans (r_go (act := oS (fIld 45 0)) rfl rfl) (a_ild rfl)) ?_
        refine Eq.trans (Eq.trans (r_go (act := oS (fSt 47 (gC (.int 8)))) rfl rfl) (a_C)) ?_
        refine Eq.trans (Eq.trans (r_go (act := oS (fSt 48 (g2 zushr))) rfl rfl) (a_ush)) ?_
        refine Eq.trans (Eq.trans (r_go (act := oS (fIst 49 0)) rfl rfl) (a_ist rfl rfl)) ?_
        exact r_cut rfl rfl
      · exact r_cut rfl rfl
    · refine Eq.trans (Eq.trans (r_go (act := oS (fIld 35 0)) rfl rfl) (a_ild rfl)) ?_
      refine Eq.trans (Eq.trans (r_go (act := oS (fSt 38 (gC (.int 256)))) rfl rfl) (a_C)) ?_
      refine Eq.trans (Eq.trans (r_go (act := oS (fCm 41 49 cGt)) rfl rfl) (a_cm)) (bcg ?_ ?_)
      · refine Eq.trans (Eq.trans (r_go (act := oS (fInc 44 1 8)) rfl rfl) (a_inc rfl rfl rfl)) ?_
        refine Eq.trans (Eq.trans (r_go (act := oS (fIld 45 0)) rfl rfl) (a_ild rfl)) ?_
        refine Eq.trans (Eq.trans (r_go (act := oS (fSt 47 (gC (.int 8)))) rfl rfl) (a_C)) ?_
        refine Eq.trans (Eq.trans (r_go (act := oS (fSt 48 (g2 zushr))) rfl rfl) (a_ush)) ?_
        refine Eq.trans (Eq.trans (r_go (act := oS (fIst 49 0)) rfl rfl) (a_ist rfl rfl)) ?_
        exact r_cut rfl rfl
      · exact r_cut rfl rfl
  · refine Eq.trans (Eq.trans (r_go (act := oS (fIld 13 0)) rfl rfl) (a_ild rfl)) ?_
    refine Eq.trans (Eq.trans (r_go (act := oS (fSt 15 (gC (.int 32)))) rfl rfl) (a_C)) ?_
    refine Eq.trans (Eq.trans (r_go (act := oS (fSt 16 (g2 (fun x y => x &&& y)))) rfl rfl) (a_and)) ?_
    exact Eq.trans (r_go (act := oIret) rfl rfl) (a_iret)
theorem x_J6_numberOfTrailingZeros_0f7a4_0 (g : zg) (a0 : Int32) (M : zM) : X_J6_numberOfTrailingZeros_0f7a4 g [.int a0] M = (bif cGt0 ((a0 ^^^ (-1)) &&& (a0 - 1)) then (bif cGt ((a0 ^^^ (-1)) &&& (a0 - 1)) 65536 then (bif cGt (zushr ((a0 ^^^ (-1)) &&& (a0 - 1)) 16) 256 then zX (t_J6_numberOfTrailingZeros_0f7a4 g) 49 [some (.int (zushr (zushr ((a0 ^^^ (-1)) &&& (a0 - 1)) 16) 8)), some (.int ((1 + 16) + 8))] [] M else zX (t_J6_numberOfTrailingZeros_0f7a4 g) 49 [some (.int (zushr ((a0 ^^^ (-1)) &&& (a0 - 1)) 16)), some (.int (1 + 16))] [] M) else (bif cGt ((a0 ^^^ (-1)) &&& (a0 - 1)) 256 then zX (t_J6_numberOfTrailingZeros_0f7a4 g) 49 [some (.int (zushr ((a0 ^^^ (-1)) &&& (a0 - 1)) 8)), some (.int (1 + 8))] [] M else zX (t_J6_numberOfTrailingZeros_0f7a4 g) 49 [some (.int ((a0 ^^^ (-1)) &&& (a0 - 1))), some (.int 1)] [] M)) else some (some (.int (((a0 ^^^ (-1)) &&& (a0 - 1)) &&& 32)), M)) := e_J6_numberOfTrailingZeros_0f7a4_0 g a0 M
set_option maxRecDepth 20000 in
theorem e_J6_numberOfTrailingZeros_0f7a4_49 (g : zg) (a0 : Int32) (a1 : Int32) (M : zM) : zX (t_J6_numberOfTrailingZeros_0f7a4 g) 49 [some (.int a0), some (.int a1)] [] M = (bif cGt a0 16 then (bif cGt (zushr a0 4) 4 then some (some (.int (((a1 + 4) + 2) + (zushr (zushr (zushr a0 4) 2) 1))), M) else some (some (.int ((a1 + 4) + (zushr (zushr a0 4) 1))), M)) else (bif cGt a0 4 then some (some (.int ((a1 + 2) + (zushr (zushr a0 2) 1))), M) else some (some (.int (a1 + (zushr a0 1))), M))) := by
  refine Eq.trans (zX_rgN (tl_J6_numberOfTrailingZeros_0f7a4 g) (hc_J6_numberOfTrailingZeros_0f7a4 g) 23 _ _ _ _) ?_
  refine Eq.trans (Eq.trans (Eq.trans (r_0 (act := oF [] (oS (fIld 50 0))) rfl) (a_F rfl)) (a_ild rfl)) ?_
  refine Eq.trans (Eq.trans (r_go (act := oS (fSt 52 (gC (.int 16)))) rfl rfl) (a_C)) ?_
  refine Eq.trans (Eq.trans (r_go (act := oS (fCm 55 62 cGt)) rfl rfl) (a_cm)) (bcg ?_ ?_)
  · refine Eq.trans (Eq.trans (r_go (act := oS (fInc 58 1 4)) rfl rfl) (a_inc rfl rfl rfl)) ?_
    refine Eq.trans (Eq.trans (r_go (act := oS (fIld 59 0)) rfl rfl) (a_ild rfl)) ?_
    refine Eq.trans (Eq.trans (r_go (act := oS (fSt 60 (gC (.int 4)))) rfl rfl) (a_C)) ?_
    refine Eq.trans (Eq.trans (r_go (act := oS (fSt 61 (g2 zushr))) rfl rfl) (a_ush)) ?_
    refine Eq.trans (Eq.trans (r_go (act := oS (fIst 62 0)) rfl rfl) (a_ist rfl rfl)) ?_
    refine Eq.trans (Eq.trans (r_go (act := oS (fIld 63 0)) rfl rfl) (a_ild rfl)) ?_
    refine Eq.trans (Eq.trans (r_go (act := oS (fSt 64 (gC (.int 4)))) rfl rfl) (a_C)) ?_
    refine Eq.trans (Eq.trans (r_go (act := oS (fCm 67 74 cGt)) rfl rfl) (a_cm)) (bcg ?_ ?_)
    · refine Eq.trans (Eq.trans (r_go (act := oS (fInc 70 1 2)) rfl rfl) (a_inc rfl rfl rfl)) ?_
      refine Eq.trans (Eq.trans (r_go (act := oS (fIld 71 0)) rfl rfl) (a_ild rfl)) ?_
      refine Eq.trans (Eq.trans (r_go (act := oS (fSt 72 (gC (.int 2)))) rfl rfl) (a_C)) ?_
      refine Eq.trans (Eq.trans (r_go (act := oS (fSt 73 (g2 zushr))) rfl rfl) (a_ush)) ?_
      refine Eq.trans (Eq.trans (r_go (act := oS (fIst 74 0)) rfl rfl) (a_ist rfl rfl)) ?_
      refine Eq.trans (Eq.trans (r_go (act := oS (fIld 75 1)) rfl rfl) (a_ild rfl)) ?_
      refine Eq.trans (Eq.trans (r_go (act := oS (fIld 76 0)) rfl rfl) (a_ild rfl)) ?_
      refine Eq.trans (Eq.trans (r_go (act := oS (fSt 77 (gC (.int 1)))) rfl rfl) (a_C)) ?_
      refine Eq.trans (Eq.trans (r_go (act := oS (fSt 78 (g2 zushr))) rfl rfl) (a_ush)) ?_
      refine Eq.trans (Eq.trans (r_go (act := oS (fSt 79 (g2 (fun x y => x + y)))) rfl rfl) (a_add)) ?_
      exact Eq.trans (r_go (act := oIret) rfl rfl) (a_iret)
    · refine Eq.trans (Eq.trans (r_go (act := oS (fIld 75 1)) rfl rfl) (a_ild rfl)) ?_
      refine Eq.trans (Eq.trans (r_go (act := oS (fIld 76 0)) rfl rfl) (a_ild rfl)) ?_
      refine Eq.trans (Eq.trans (r_go (act := oS (fSt 77 (gC (.int 1)))) rfl rfl) (a_C)) ?_
      refine Eq.trans (Eq.trans (r_go (act := oS (fSt 78 (g2 zushr))) rfl rfl) (a_ush)) ?_
      refine Eq.trans (Eq.trans (r_go (act := oS (fSt 79 (g2 (fun x y => x + y)))) rfl rfl) (a_add)) ?_
      exact Eq.trans (r_go (act := oIret) rfl rfl) (a_iret)
  · refine Eq.trans (Eq.trans (r_go (act := oS (fIld 63 0)) rfl rfl) (a_ild rfl)) ?_
    refine Eq.trans (Eq.trans (r_go (act := oS (fSt 64 (gC (.int 4)))) rfl rfl) (a_C)) ?_
    refine Eq.trans (Eq.trans (r_go (act := oS (fCm 67 74 cGt)) rfl rfl) (a_cm)) (bcg ?_ ?_)
    · refine Eq.trans (Eq.trans (r_go (act := oS (fInc 70 1 2)) rfl rfl) (a_inc rfl rfl rfl)) ?_
      refine Eq.trans (Eq.trans (r_go (act := oS (fIld 71 0)) rfl rfl) (a_ild rfl)) ?_
      refine Eq.trans (Eq.trans (r_go (act := oS (fSt 72 (gC (.int 2)))) rfl rfl) (a_C)) ?_
      refine Eq.trans (Eq.trans (r_go (act := oS (fSt 73 (g2 zushr))) rfl rfl) (a_ush)) ?_
      refine Eq.trans (Eq.trans (r_go (act := oS (fIst 74 0)) rfl rfl) (a_ist rfl rfl)) ?_
      refine Eq.trans (Eq.trans (r_go (act := oS (fIld 75 1)) rfl rfl) (a_ild rfl)) ?_
      refine Eq.trans (Eq.trans (r_go (act := oS (fIld 76 0)) rfl rfl) (a_ild rfl)) ?_
      refine Eq.trans (Eq.trans (r_go (act := oS (fSt 77 (gC (.int 1)))) rfl rfl) (a_C)) ?_
      refine Eq.trans (Eq.trans (r_go (act := oS (fSt 78 (g2 zushr))) rfl rfl) (a_ush)) ?_
      refine Eq.trans (Eq.trans (r_go (act := oS (fSt 79 (g2 (fun x y => x + y)))) rfl rfl) (a_add)) ?_
      exact Eq.trans (r_go (act := oIret) rfl rfl) (a_iret)
    · refine Eq.trans (Eq.trans (r_go (act := oS (fIld 75 1)) rfl rfl) (a_ild rfl)) ?_
      refine Eq.trans (Eq.trans (r_go (act := oS (fIld 76 0)) rfl rfl) (a_ild rfl)) ?_
      refine Eq.trans (Eq.trans (r_go (act := oS (fSt 77 (gC (.int 1)))) rfl rfl) (a_C)) ?_
      refine Eq.trans (Eq.trans (r_go (act := oS (fSt 78 (g2 zushr))) rfl rfl) (a_ush)) ?_
      refine Eq.trans (Eq.trans (r_go (act := oS (fSt 79 (g2 (fun x y => x + y)))) rfl rfl) (a_add)) ?_
      exact Eq.trans (r_go (act := oIret) rfl rfl) (a_iret)
set_option maxRecDepth 20000 in
theorem e_X2_memberOf_0 (g : zg) (a0 : Int32) (a1 : Int32) (M : zM) : zX (t_X2_memberOf g) 0 [some (.int a0), some (.int a1), none, none] [] M = zX (t_X2_memberOf g) 4 [none, some (.int a1), some (.int a0), some (.int 0)] [] M := by
  refine Eq.trans (zX_rgN (tl_X2_memberOf g) (hc_X2_memberOf g) 6 _ _ _ _) ?_
  refine Eq.trans (Eq.trans (r_0 (act := oS (fIld 1 0)) rfl) (a_ild rfl)) ?_
  refine Eq.trans (Eq.trans (r_go (act := oS (fIst 2 2)) rfl rfl) (a_ist rfl rfl)) ?_
  refine Eq.trans (Eq.trans (r_go (act := oS (fSt 3 (gC (.int 0)))) rfl rfl) (a_C)) ?_
  refine Eq.trans (Eq.trans (r_go (act := oS (fIst 4 3)) rfl rfl) (a_ist rfl rfl)) ?_
  exact r_cut rfl rfl
theorem x_X2_memberOf_0 (g : zg) (a0 : Int32) (a1 : Int32) (M : zM) : X_X2_memberOf g [.int a0, .int a1] M = zX (t_X2_memberOf g) 4 [none, some (.int a1), some (.int a0), some (.int 0)] [] M := e_X2_memberOf_0 g a0 a1 M
set_option maxRecDepth 20000 in
theorem e_X2_memberOf_4 (g : zg) (a1 : Int32) (a2 : Int32) (a3 : Int32) (M : zM) : zX (t_X2_memberOf g) 4 [none, some (.int a1), some (.int a2), some (.int a3)] [] M = (bif cLt a3 a1 then zX (t_X2_memberOf g) 4 [none, some (.int a1), some (.int (a2 &&& (a2 - 1))), some (.int (a3 + 1))] [] M else (zbI (X_J6_numberOfTrailingZeros_0f7a4 g [.int a2] M) (fun x1 M1 => some (some (.int x1), M1)))) := by
  refine Eq.trans (zX_rgN (tl_X2_memberOf g) (hc_X2_memberOf g) 13 _ _ _ _) ?_
  refine Eq.trans (Eq.trans (Eq.trans (r_0 (act := oF [0] (oS (fIld 5 3))) rfl) (a_F rfl)) (a_ild rfl)) ?_
  refine Eq.trans (Eq.trans (r_go (act := oS (fIld 6 1)) rfl rfl) (a_ild rfl)) ?_
  refine Eq.trans (Eq.trans (r_go (act := oS (fCm 9 21 cLt)) rfl rfl) (a_cm)) (bcg ?_ ?_)
  · refine Eq.trans (Eq.trans (r_go (act := oS (fIld 10 2)) rfl rfl) (a_ild rfl)) ?_
    refine Eq.trans (Eq.trans (r_go (act := oS (fIld 11 2)) rfl rfl) (a_ild rfl)) ?_
    refine Eq.trans (Eq.trans (r_go (act := oS (fSt 12 (gC (.int 1)))) rfl rfl) (a_C)) ?_
    refine Eq.trans (Eq.trans (r_go (act := oS (fSt 13 (g2 (fun x y => x - y)))) rfl rfl) (a_sub)) ?_
    refine Eq.trans (Eq.trans (r_go (act := oS (fSt 14 (g2 (fun x y => x &&& y)))) rfl rfl) (a_and)) ?_
    refine Eq.trans (Eq.trans (r_go (act := oS (fIst 15 2)) rfl rfl) (a_ist rfl rfl)) ?_
    refine Eq.trans (Eq.trans (r_go (act := oS (fInc 18 3 1)) rfl rfl) (a_inc rfl rfl rfl)) ?_
    refine Eq.trans (Eq.trans (r_go (act := oS (fGo 4)) rfl rfl) (a_goto)) ?_
    exact r_cut rfl rfl
  · refine Eq.trans (Eq.trans (r_go (act := oS (fIld 22 2)) rfl rfl) (a_ild rfl)) ?_
    refine Eq.trans (Eq.trans (r_go (act := oCI 25 1 zcs (X_J6_numberOfTrailingZeros_0f7a4 g)) rfl rfl) (a_cI rfl rfl)) (zbI_cg (fun x1 M1 => ?_))
    exact Eq.trans (r_go (act := oIret) rfl rfl) (a_iret)
set_option maxRecDepth 20000 in
theorem e_X2_waysWithHats_0 (g : zg) (h2 : g.2 = true) (a2 : Int32) (a3 : Int32) (M : zM) : zX (t_X2_waysWithHats g) 0 [some (.ref 240), some (.ref 7), some (.int a2), some (.int a3), none, none, none] [] M = (zbI (X_X3_get g [.ref 7, .int a3, .int 0] M) (fun x1 M1 => zX (t_X2_waysWithHats g) 14 [some (.ref 240), some (.ref 7), some (.int a2), none, some (.int 0), some (.int x1), some (.int 0)] [] M1)) := by
  refine Eq.trans (zX_rgN (tl_X2_waysWithHats g) (hc_X2_waysWithHats g) 11 _ _ _ _) ?_
  refine Eq.trans (Eq.trans (r_0 (act := oS (fSt 1 (gC (.int 0)))) rfl) (a_C)) ?_
  refine Eq.trans (Eq.trans (r_go (act := oS (fIst 3 4)) rfl rfl) (a_ist rfl rfl)) ?_
  refine Eq.trans (Eq.trans (r_go (act := oS (fAld 4 1)) rfl rfl) (a_ald rfl)) ?_
  refine Eq.trans (Eq.trans (r_go (act := oS (fIld 5 3)) rfl rfl) (a_ild rfl)) ?_
  refine Eq.trans (Eq.trans (r_go (act := oS (fSt 6 (gC (.int 0)))) rfl rfl) (a_C)) ?_
  refine Eq.trans (Eq.trans (r_go (act := oCI 9 3 (zcv g 3) (X_X3_get g)) rfl rfl) (a_cI rfl (zck (zO_7 g) rfl))) (zbI_cg (fun x1 M1 => ?_))
  refine Eq.trans (Eq.trans (r_go (act := oS (fIst 11 5)) rfl rfl) (a_ist rfl rfl)) ?_
  refine Eq.trans (Eq.trans (r_go (act := oS (fSt 12 (gC (.int 0)))) rfl rfl) (a_C)) ?_
  refine Eq.trans (Eq.trans (r_go (act := oS (fIst 14 6)) rfl rfl) (a_ist rfl rfl)) ?_
  exact r_cut rfl rfl
theorem x_X2_waysWithHats_0 (g : zg) (h2 : g.2 = true) (a2 : Int32) (a3 : Int32) (M : zM) : X_X2_waysWithHats g [.ref 240, .ref 7, .int a2, .int a3] M = (zbI (X_X3_get g [.ref 7, .int a3, .int 0] M) (fun x1 M1 => zX (t_X2_waysWithHats g) 14 [some (.ref 240), some (.ref 7), some (.int a2), none, some (.int 0), some (.int x1), some (.int 0)] [] M1)) := e_X2_waysWithHats_0 g h2 a2 a3 M
set_option maxRecDepth 20000 in
theorem e_X2_waysWithHats_14 (g : zg) (h2 : g.2 = true) (a2 : Int32) (a4 : Int32) (a5 : Int32) (a6 : Int32) (M : zM) : zX (t_X2_waysWithHats g) 14 [some (.ref 240), some (.ref 7), some (.int a2), none, some (.int a4), some (.int a5), some (.int a6)] [] M = (bif cLt a6 10 then (bif cEq ((a2 >>> (a6 &&& 31)) &&& 1) 1 then (zbI (X_X3_get g [.ref 7, .int a6, .int 0] M) (fun x1 M1 => (bif cEq x1 a5 then zX (t_X2_waysWithHats g) 14 [some (.ref 240), some (.ref 7), some (.int a2), none, some (.int a4), some (.int a5), some (.int (a6 + 1))] [] M1 else (bif zb (a2 ^^^ ((1 : Int32) <<< (a6 &&& 31))) 7168 then zX (t_X2_waysWithHats g) 14 [some (.ref 240), some (.ref 7), some (.int a2), none, some (.int (a4 + (M1.1 241 (zx (a2 ^^^ ((1 : Int32) <<< (a6 &&& 31))))))), some (.int a5), some (.int (a6 + 1))] [] M1 else none)))) else zX (t_X2_waysWithHats g) 14 [some (.ref 240), some (.ref 7), some (.int a2), none, some (.int a4), some (.int a5), some (.int (a6 + 1))] [] M) else some (some (.int a4), M)) := by
  refine Eq.trans (zX_rgN (tl_X2_waysWithHats g) (hc_X2_waysWithHats g) 31 _ _ _ _) ?_
  refine Eq.trans (Eq.trans (Eq.trans (r_0 (act := oF [3] (oS (fIld 16 6))) rfl) (a_F rfl)) (a_ild rfl)) ?_
  refine Eq.trans (Eq.trans (r_go (act := oS (fSt 18 (gC (.int 10)))) rfl rfl) (a_C)) ?_
  refine Eq.trans (Eq.trans (r_go (act := oS (fCm 21 65 cLt)) rfl rfl) (a_cm)) (bcg ?_ ?_)
  · refine Eq.trans (Eq.trans (r_go (act := oS (fIld 22 2)) rfl rfl) (a_ild rfl)) ?_
    refine Eq.trans (Eq.trans (r_go (act := oS (fIld 24 6)) rfl rfl) (a_ild rfl)) ?_
    refine Eq.trans (Eq.trans (r_go (act := oS (fSt 25 (g2 (fun x y => x >>> (y &&& 31))))) rfl rfl) (a_shr)) ?_
    refine Eq.trans (Eq.trans (r_go (act := oS (fSt 26 (gC (.int 1)))) rfl rfl) (a_C)) ?_
    refine Eq.trans (Eq.trans (r_go (act := oS (fSt 27 (g2 (fun x y => x &&& y)))) rfl rfl) (a_and)) ?_
    refine Eq.trans (Eq.trans (r_go (act := oS (fSt 28 (gC (.int 1)))) rfl rfl) (a_C)) ?_
    refine Eq.trans (Eq.trans (r_go (act := oS (fCm 31 59 cEq)) rfl rfl) (a_cm)) (bcg ?_ ?_)
    · refine Eq.trans (Eq.trans (r_go (act := oS (fAld 32 1)) rfl rfl) (a_ald rfl)) ?_
      refine Eq.trans (Eq.trans (r_go (act := oS (fIld 34 6)) rfl rfl) (a_ild rfl)) ?_
      refine Eq.trans (Eq.trans (r_go (act := oS (fSt 35 (gC (.int 0)))) rfl rfl) (a_C)) ?_
      refine Eq.trans (Eq.trans (r_go (act := oCI 38 3 (zcv g 3) (X_X3_get g)) rfl rfl) (a_cI rfl (zck (zO_7 g) rfl))) (zbI_cg (fun x1 M1 => ?_))
      refine Eq.trans (Eq.trans (r_go (act := oS (fIld 40 5)) rfl rfl) (a_ild rfl)) ?_
      refine Eq.trans (Eq.trans (r_go (act := oS (fCm 59 43 cEq)) rfl rfl) (a_cm)) (bcg ?_ ?_)
      · refine Eq.trans (Eq.trans (r_go (act := oS (fInc 62 6 1)) rfl rfl) (a_inc rfl rfl rfl)) ?_
        refine Eq.trans (Eq.trans (r_go (act := oS (fGo 14)) rfl rfl) (a_goto)) ?_
        exact r_cut rfl rfl
      · refine Eq.trans (Eq.trans (r_go (act := oS (fIld 45 4)) rfl rfl) (a_ild rfl)) ?_
        refine Eq.trans (Eq.trans (r_go (act := oS (fAld 46 0)) rfl rfl) (a_ald rfl)) ?_
        refine Eq.trans (Eq.trans (r_go (act := oS (fGr g 49 2 0)) rfl rfl) (a_gr (zO_240 g h2) (zR_240_0 g h2))) ?_
        refine Eq.trans (Eq.trans (r_go (act := oS (fIld 50 2)) rfl rfl) (a_ild rfl)) ?_
        refine Eq.trans (Eq.trans (r_go (act := oS (fSt 51 (gC (.int 1)))) rfl rfl) (a_C)) ?_
        refine Eq.trans (Eq.trans (r_go (act := oS (fIld 53 6)) rfl rfl) (a_ild rfl)) ?_
        refine Eq.trans (Eq.trans (r_go (act := oS (fSt 54 (g2 (fun x y => x <<< (y &&& 31))))) rfl rfl) (a_shl)) ?_
        refine Eq.trans (Eq.trans (r_go (act := oS (fSt 55 (g2 (fun x y => x ^^^ y)))) rfl rfl) (a_xor)) ?_
        refine Eq.trans (Eq.trans (r_go (act := oS (fIa g 56)) rfl rfl) (a_ia (zA_241 g h2) zS_241)) (bcg ?_ rfl)
        refine Eq.trans (Eq.trans (r_go (act := oS (fSt 57 (g2 (fun x y => x + y)))) rfl rfl) (a_add)) ?_
        refine Eq.trans (Eq.trans (r_go (act := oS (fIst 59 4)) rfl rfl) (a_ist rfl rfl)) ?_
        refine Eq.trans (Eq.trans (r_go (act := oS (fInc 62 6 1)) rfl rfl) (a_inc rfl rfl rfl)) ?_
        refine Eq.trans (Eq.trans (r_go (act := oS (fGo 14)) rfl rfl) (a_goto)) ?_
        exact r_cut rfl rfl
    · refine Eq.trans (Eq.trans (r_go (act := oS (fInc 62 6 1)) rfl rfl) (a_inc rfl rfl rfl)) ?_
      refine Eq.trans (Eq.trans (r_go (act := oS (fGo 14)) rfl rfl) (a_goto)) ?_
      exact r_cut rfl rfl
  · refine Eq.trans (Eq.trans (r_go (act := oS (fIld 67 4)) rfl rfl) (a_ild rfl)) ?_
    exact Eq.trans (r_go (act := oIret) rfl rfl) (a_iret)
set_option maxRecDepth 20000 in
theorem e_X2_wrongHats_0 (g : zg) (h2 : g.2 = true) (M : zM) : zX (t_X2_wrongHats g) 0 [some (.ref 240), some (.ref 7), none, none] [] M = (zbI (X_X3_servingSet g [.ref 7] M) (fun x1 M1 => zX (t_X2_wrongHats g) 14 [some (.ref 240), some (.ref 7), some (.int x1), some (.int 1)] [] ((zu M1.1 241 0 1), M1.2))) := by
  refine Eq.trans (zX_rgN (tl_X2_wrongHats g) (hc_X2_wrongHats g) 12 _ _ _ _) ?_
  refine Eq.trans (Eq.trans (r_0 (act := oS (fAld 1 1)) rfl) (a_ald rfl)) ?_
  refine Eq.trans (Eq.trans (r_go (act := oCI 4 1 (zcv g 3) (X_X3_servingSet g)) rfl rfl) (a_cI rfl (zck (zO_7 g) rfl))) (zbI_cg (fun x1 M1 => ?_))
  refine Eq.trans (Eq.trans (r_go (act := oS (fIst 5 2)) rfl rfl) (a_ist rfl rfl)) ?_
  refine Eq.trans (Eq.trans (r_go (act := oS (fAld 6 0)) rfl rfl) (a_ald rfl)) ?_
  refine Eq.trans (Eq.trans (r_go (act := oS (fGr g 9 2 0)) rfl rfl) (a_gr (zO_240 g h2) (zR_240_0 g h2))) ?_
  refine Eq.trans (Eq.trans (r_go (act := oS (fSt 10 (gC (.int 0)))) rfl rfl) (a_C)) ?_
  refine Eq.trans (Eq.trans (r_go (act := oS (fSt 11 (gC (.int 1)))) rfl rfl) (a_C)) ?_
  refine Eq.trans (Eq.trans (r_go (act := oS (fIs g 12)) rfl rfl) (a_isK (j := 0) (zA_241 g h2) zS_241 (by decide +kernel) (by decide +kernel))) ?_
  refine Eq.trans (Eq.trans (r_go (act := oS (fSt 13 (gC (.int 1)))) rfl rfl) (a_C)) ?_
  refine Eq.trans (Eq.trans (r_go (act := oS (fIst 14 3)) rfl rfl) (a_ist rfl rfl)) ?_
  exact r_cut rfl rfl
theorem x_X2_wrongHats_0 (g : zg) (h2 : g.2 = true) (M : zM) : X_X2_wrongHats g [.ref 240, .ref 7] M = (zbI (X_X3_servingSet g [.ref 7] M) (fun x1 M1 => zX (t_X2_wrongHats g) 14 [some (.ref 240), some (.ref 7), some (.int x1), some (.int 1)] [] ((zu M1.1 241 0 1), M1.2))) := e_X2_wrongHats_0 g h2 M
set_option maxRecDepth 20000 in
theorem e_X2_wrongHats_14 (g : zg) (h2 : g.2 = true) (a2 : Int32) (a3 : Int32) (M : zM) : zX (t_X2_wrongHats g) 14 [some (.ref 240), some (.ref 7), some (.int a2), some (.int a3)] [] M = (bif cGt a3 a2 then (bif zb a2 7168 then some (some (.int (M.1 241 (zx a2))), M) else none) else (bif cLt a3 1024 then (bif cEq0 (a3 &&& (a2 ^^^ (-1))) then (zbI (X_J6_bitCount_0f7a4 g [.int a3] M) (fun x1 M1 => (zbI (X_X2_memberOf g [.int a2, .int (x1 - 1)] M1) (fun x2 M2 => (zbI (X_X2_waysWithHats g [.ref 240, .ref 7, .int a3, .int x2] M2) (fun x3 M3 => (bif zb a3 7168 then zX (t_X2_wrongHats g) 14 [some (.ref 240), some (.ref 7), some (.int a2), some (.int (a3 + 1))] [] ((zu M3.1 241 (zx a3) x3), M3.2) else none))))))) else zX (t_X2_wrongHats g) 14 [some (.ref 240), some (.ref 7), some (.int a2), some (.int (a3 + 1))] [] M) else (bif zb a2 7168 then some (some (.int (M.1 241 (zx a2))), M) else none))) := by
  refine Eq.trans (zX_rgN (tl_X2_wrongHats g) (hc_X2_wrongHats g) 30 _ _ _ _) ?_
  refine Eq.trans (Eq.trans (Eq.trans (r_0 (act := oF [] (oS (fIld 15 3))) rfl) (a_F rfl)) (a_ild rfl)) ?_
  refine Eq.trans (Eq.trans (r_go (act := oS (fIld 16 2)) rfl rfl) (a_ild rfl)) ?_
  refine Eq.trans (Eq.trans (r_go (act := oS (fCm 62 19 cGt)) rfl rfl) (a_cm)) (bcg ?_ ?_)
  · refine Eq.trans (Eq.trans (r_go (act := oS (fAld 63 0)) rfl rfl) (a_ald rfl)) ?_
    refine Eq.trans (Eq.trans (r_go (act := oS (fGr g 66 2 0)) rfl rfl) (a_gr (zO_240 g h2) (zR_240_0 g h2))) ?_
    refine Eq.trans (Eq.trans (r_go (act := oS (fIld 67 2)) rfl rfl) (a_ild rfl)) ?_
    refine Eq.trans (Eq.trans (r_go (act := oS (fIa g 68)) rfl rfl) (a_ia (zA_241 g h2) zS_241)) (bcg ?_ rfl)
    exact Eq.trans (r_go (act := oIret) rfl rfl) (a_iret)
  · refine Eq.trans (Eq.trans (r_go (act := oS (fIld 20 3)) rfl rfl) (a_ild rfl)) ?_
    refine Eq.trans (Eq.trans (r_go (act := oS (fSt 23 (gC (.int 1024)))) rfl rfl) (a_C)) ?_
    refine Eq.trans (Eq.trans (r_go (act := oS (fCm 26 62 cLt)) rfl rfl) (a_cm)) (bcg ?_ ?_)
    · refine Eq.trans (Eq.trans (r_go (act := oS (fIld 27 3)) rfl rfl) (a_ild rfl)) ?_
      refine Eq.trans (Eq.trans (r_go (act := oS (fIld 28 2)) rfl rfl) (a_ild rfl)) ?_
      refine Eq.trans (Eq.trans (r_go (act := oS (fSt 29 (gC (.int (-1))))) rfl rfl) (a_C)) ?_
      refine Eq.trans (Eq.trans (r_go (act := oS (fSt 30 (g2 (fun x y => x ^^^ y)))) rfl rfl) (a_xor)) ?_
      refine Eq.trans (Eq.trans (r_go (act := oS (fSt 31 (g2 (fun x y => x &&& y)))) rfl rfl) (a_and)) ?_
      refine Eq.trans (Eq.trans (r_go (act := oS (fIf 34 56 cEq0)) rfl rfl) (a_if)) (bcg ?_ ?_)
      · refine Eq.trans (Eq.trans (r_go (act := oS (fAld 35 0)) rfl rfl) (a_ald rfl)) ?_
        refine Eq.trans (Eq.trans (r_go (act := oS (fGr g 38 2 0)) rfl rfl) (a_gr (zO_240 g h2) (zR_240_0 g h2))) ?_
        refine Eq.trans (Eq.trans (r_go (act := oS (fIld 39 3)) rfl rfl) (a_ild rfl)) ?_
        refine Eq.trans (Eq.trans (r_go (act := oS (fAld 40 0)) rfl rfl) (a_ald rfl)) ?_
        refine Eq.trans (Eq.trans (r_go (act := oS (fAld 41 1)) rfl rfl) (a_ald rfl)) ?_
        refine Eq.trans (Eq.trans (r_go (act := oS (fIld 42 3)) rfl rfl) (a_ild rfl)) ?_
        refine Eq.trans (Eq.trans (r_go (act := oS (fIld 43 2)) rfl rfl) (a_ild rfl)) ?_
        refine Eq.trans (Eq.trans (r_go (act := oS (fIld 44 3)) rfl rfl) (a_ild rfl)) ?_
        refine Eq.trans (Eq.trans (r_go (act := oCI 47 1 zcs (X_J6_bitCount_0f7a4 g)) rfl rfl) (a_cI rfl rfl)) (zbI_cg (fun x1 M1 => ?_))
        refine Eq.trans (Eq.trans (r_go (act := oS (fSt 48 (gC (.int 1)))) rfl rfl) (a_C)) ?_
        refine Eq.trans (Eq.trans (r_go (act := oS (fSt 49 (g2 (fun x y => x - y)))) rfl rfl) (a_sub)) ?_
        refine Eq.trans (Eq.trans (r_go (act := oCI 52 2 zcs (X_X2_memberOf g)) rfl rfl) (a_cI rfl rfl)) (zbI_cg (fun x2 M2 => ?_))
        refine Eq.trans (Eq.trans (r_go (act := oCI 55 4 (zcv g 2) (X_X2_waysWithHats g)) rfl rfl) (a_cI rfl (zck (zO_240 g h2) rfl))) (zbI_cg (fun x3 M3 => ?_))
        refine Eq.trans (Eq.trans (r_go (act := oS (fIs g 56)) rfl rfl) (a_is (zA_241 g h2) zS_241)) (bcg ?_ rfl)
        refine Eq.trans (Eq.trans (r_go (act := oS (fInc 59 3 1)) rfl rfl) (a_inc rfl rfl rfl)) ?_
        refine Eq.trans (Eq.trans (r_go (act := oS (fGo 14)) rfl rfl) (a_goto)) ?_
        exact r_cut rfl rfl
      · refine Eq.trans (Eq.trans (r_go (act := oS (fInc 59 3 1)) rfl rfl) (a_inc rfl rfl rfl)) ?_
        refine Eq.trans (Eq.trans (r_go (act := oS (fGo 14)) rfl rfl) (a_goto)) ?_
        exact r_cut rfl rfl
    · refine Eq.trans (Eq.trans (r_go (act := oS (fAld 63 0)) rfl rfl) (a_ald rfl)) ?_
      refine Eq.trans (Eq.trans (r_go (act := oS (fGr g 66 2 0)) rfl rfl) (a_gr (zO_240 g h2) (zR_240_0 g h2))) ?_
      refine Eq.trans (Eq.trans (r_go (act := oS (fIld 67 2)) rfl rfl) (a_ild rfl)) ?_
      refine Eq.trans (Eq.trans (r_go (act := oS (fIa g 68)) rfl rfl) (a_ia (zA_241 g h2) zS_241)) (bcg ?_ rfl)
      exact Eq.trans (r_go (act := oIret) rfl rfl) (a_iret)
set_option maxRecDepth 20000 in
theorem e_X1_take_0 (g : zg) (h1 : g.1 = true) (M : zM) : zX (t_X1_take g) 0 [some (.ref 225), some (.ref 25)] [] M = some (none, ((zcp M.1 26 226 (zx 600)), M.2)) := by
  refine Eq.trans (zX_rgN (tl_X1_take g) (hc_X1_take g) 10 _ _ _ _) ?_
  refine Eq.trans (Eq.trans (r_0 (act := oS (fAld 1 1)) rfl) (a_ald rfl)) ?_
  refine Eq.trans (Eq.trans (r_go (act := oS (fGr g 4 1 0)) rfl rfl) (a_gr (zO_25 g) (zR_25_0 g))) ?_
  refine Eq.trans (Eq.trans (r_go (act := oS (fSt 5 (gC (.int 0)))) rfl rfl) (a_C)) ?_
  refine Eq.trans (Eq.trans (r_go (act := oS (fAld 6 0)) rfl rfl) (a_ald rfl)) ?_
  refine Eq.trans (Eq.trans (r_go (act := oS (fGr g 9 1 0)) rfl rfl) (a_gr (zO_225 g h1) (zR_225_0 g h1))) ?_
  refine Eq.trans (Eq.trans (r_go (act := oS (fSt 10 (gC (.int 0)))) rfl rfl) (a_C)) ?_
  refine Eq.trans (Eq.trans (r_go (act := oS (fSt 13 (gC (.int 600)))) rfl rfl) (a_C)) ?_
  refine Eq.trans (Eq.trans (r_go (act := oS (fCp g 16)) rfl rfl) (a_cp (zCp (zA_26 g) (zA_226 g h1) zS_26 zS_226 (by decide +kernel) (by decide +kernel) rfl))) ?_
  exact Eq.trans (r_go (act := oVret) rfl rfl) (a_vret)
theorem x_X1_take_0 (g : zg) (h1 : g.1 = true) (M : zM) : X_X1_take g [.ref 225, .ref 25] M = some (none, ((zcp M.1 26 226 (zx 600)), M.2)) := e_X1_take_0 g h1 M
set_option maxRecDepth 20000 in
theorem e_X1_take_0_1 (g : zg) (h1 : g.1 = true) (M : zM) : zX (t_X1_take g) 0 [some (.ref 25), some (.ref 225)] [] M = some (none, ((zcp M.1 226 26 (zx 600)), M.2)) := by
  refine Eq.trans (zX_rgN (tl_X1_take g) (hc_X1_take g) 10 _ _ _ _) ?_
  refine Eq.trans (Eq.trans (r_0 (act := oS (fAld 1 1)) rfl) (a_ald rfl)) ?_
  refine Eq.trans (Eq.trans (r_go (act := oS (fGr g 4 1 0)) rfl rfl) (a_gr (zO_225 g h1) (zR_225_0 g h1))) ?_
  refine Eq.trans (Eq.trans (r_go (act := oS (fSt 5 (gC (.int 0)))) rfl rfl) (a_C)) ?_
  refine Eq.trans (Eq.trans (r_go (act := oS (fAld 6 0)) rfl rfl) (a_ald rfl)) ?_
  refine Eq.trans (Eq.trans (r_go (act := oS (fGr g 9 1 0)) rfl rfl) (a_gr (zO_25 g) (zR_25_0 g))) ?_
  refine Eq.trans (Eq.trans (r_go (act := oS (fSt 10 (gC (.int 0)))) rfl rfl) (a_C)) ?_
  refine Eq.trans (Eq.trans (r_go (act := oS (fSt 13 (gC (.int 600)))) rfl rfl) (a_C)) ?_
  refine Eq.trans (Eq.trans (r_go (act := oS (fCp g 16)) rfl rfl) (a_cp (zCp (zA_226 g h1) (zA_26 g) zS_226 zS_26 (by decide +kernel) (by decide +kernel) rfl))) ?_
  exact Eq.trans (r_go (act := oVret) rfl rfl) (a_vret)
theorem x_X1_take_0_1 (g : zg) (h1 : g.1 = true) (M : zM) : X_X1_take g [.ref 25, .ref 225] M = some (none, ((zcp M.1 226 26 (zx 600)), M.2)) := e_X1_take_0_1 g h1 M
set_option maxRecDepth 20000 in
theorem e_X5_take_0 (g : zg) (h1 : g.1 = true) (M : zM) : zX (t_X5_take g) 0 [some (.ref 227), some (.ref 27)] [] M = some (none, ((zcp (zcp M.1 28 228 (zx 96)) 29 229 (zx 960)), M.2)) := by
  refine Eq.trans (zX_rgN (tl_X5_take g) (hc_X5_take g) 18 _ _ _ _) ?_
  refine Eq.trans (Eq.trans (r_0 (act := oS (fAld 1 1)) rfl) (a_ald rfl)) ?_
  refine Eq.trans (Eq.trans (r_go (act := oS (fGr g 4 5 0)) rfl rfl) (a_gr (zO_27 g) (zR_27_0 g))) ?_
  refine Eq.trans (Eq.trans (r_go (act := oS (fSt 5 (gC (.int 0)))) rfl rfl) (a_C)) ?_
  refine Eq.trans (Eq.trans (r_go (act := oS (fAld 6 0)) rfl rfl) (a_ald rfl)) ?_
  refine Eq.trans (Eq.trans (r_go (act := oS (fGr g 9 5 0)) rfl rfl) (a_gr (zO_227 g h1) (zR_227_0 g h1))) ?_
  refine Eq.trans (Eq.trans (r_go (act := oS (fSt 10 (gC (.int 0)))) rfl rfl) (a_C)) ?_
  refine Eq.trans (Eq.trans (r_go (act := oS (fSt 12 (gC (.int 96)))) rfl rfl) (a_C)) ?_
  refine Eq.trans (Eq.trans (r_go (act := oS (fCp g 15)) rfl rfl) (a_cp (zCp (zA_28 g) (zA_228 g h1) zS_28 zS_228 (by decide +kernel) (by decide +kernel) rfl))) ?_
  refine Eq.trans (Eq.trans (r_go (act := oS (fAld 16 1)) rfl rfl) (a_ald rfl)) ?_
  refine Eq.trans (Eq.trans (r_go (act := oS (fGr g 19 5 1)) rfl rfl) (a_gr (zO_27 g) (zR_27_1 g))) ?_
  refine Eq.trans (Eq.trans (r_go (act := oS (fSt 20 (gC (.int 0)))) rfl rfl) (a_C)) ?_
  refine Eq.trans (Eq.trans (r_go (act := oS (fAld 21 0)) rfl rfl) (a_ald rfl)) ?_
  refine Eq.trans (Eq.trans (r_go (act := oS (fGr g 24 5 1)) rfl rfl) (a_gr (zO_227 g h1) (zR_227_1 g h1))) ?_
  refine Eq.trans (Eq.trans (r_go (act := oS (fSt 25 (gC (.int 0)))) rfl rfl) (a_C)) ?_
  refine Eq.trans (Eq.trans (r_go (act := oS (fSt 28 (gC (.int 960)))) rfl rfl) (a_C)) ?_
  refine Eq.trans (Eq.trans (r_go (act := oS (fCp g 31)) rfl rfl) (a_cp (zCp (zA_29 g) (zA_229 g h1) zS_29 zS_229 (by decide +kernel) (by decide +kernel) rfl))) ?_
  exact Eq.trans (r_go (act := oVret) rfl rfl) (a_vret)
theorem x_X5_take_0 (g : zg) (h1 : g.1 = true) (M : zM) : X_X5_take g [.ref 227, .ref 27] M = some (none, ((zcp (zcp M.1 28 228 (zx 96)) 29 229 (zx 960)), M.2)) := e_X5_take_0 g h1 M
set_option maxRecDepth 20000 in
theorem e_X5_take_0_1 (g : zg) (h1 : g.1 = true) (M : zM) : zX (t_X5_take g) 0 [some (.ref 27), some (.ref 227)] [] M = some (none, ((zcp (zcp M.1 228 28 (zx 96)) 229 29 (zx 960)), M.2)) := by
  refine Eq.trans (zX_rgN (tl_X5_take g) (hc_X5_take g) 18 _ _ _ _) ?_
  refine Eq.trans (Eq.trans (r_0 (act := oS (fAld 1 1)) rfl) (a_ald rfl)) ?_
  refine Eq.trans (Eq.trans (r_go (act := oS (fGr g 4 5 0)) rfl rfl) (a_gr (zO_227 g h1) (zR_227_0 g h1))) ?_
  refine Eq.trans (Eq.trans (r_go (act := oS (fSt 5 (gC (.int 0)))) rfl rfl) (a_C)) ?_
  refine Eq.trans (Eq.trans (r_go (act := oS (fAld 6 0)) rfl rfl) (a_ald rfl)) ?_
  refine Eq.trans (Eq.trans (r_go (act := oS (fGr g 9 5 0)) rfl rfl) (a_gr (zO_27 g) (zR_27_0 g))) ?_
  refine Eq.trans (Eq.trans (r_go (act := oS (fSt 10 (gC (.int 0)))) rfl rfl) (a_C)) ?_
  refine Eq.trans (Eq.trans (r_go (act := oS (fSt 12 (gC (.int 96)))) rfl rfl) (a_C)) ?_
  refine Eq.trans (Eq.trans (r_go (act := oS (fCp g 15)) rfl rfl) (a_cp (zCp (zA_228 g h1) (zA_28 g) zS_228 zS_28 (by decide +kernel) (by decide +kernel) rfl))) ?_
  refine Eq.trans (Eq.trans (r_go (act := oS (fAld 16 1)) rfl rfl) (a_ald rfl)) ?_
  refine Eq.trans (Eq.trans (r_go (act := oS (fGr g 19 5 1)) rfl rfl) (a_gr (zO_227 g h1) (zR_227_1 g h1))) ?_
  refine Eq.trans (Eq.trans (r_go (act := oS (fSt 20 (gC (.int 0)))) rfl rfl) (a_C)) ?_
  refine Eq.trans (Eq.trans (r_go (act := oS (fAld 21 0)) rfl rfl) (a_ald rfl)) ?_
  refine Eq.trans (Eq.trans (r_go (act := oS (fGr g 24 5 1)) rfl rfl) (a_gr (zO_27 g) (zR_27_1 g))) ?_
  refine Eq.trans (Eq.trans (r_go (act := oS (fSt 25 (gC (.int 0)))) rfl rfl) (a_C)) ?_
  refine Eq.trans (Eq.trans (r_go (act := oS (fSt 28 (gC (.int 960)))) rfl rfl) (a_C)) ?_
  refine Eq.trans (Eq.trans (r_go (act := oS (fCp g 31)) rfl rfl) (a_cp (zCp (zA_229 g h1) (zA_29 g) zS_229 zS_29 (by decide +kernel) (by decide +kernel) rfl))) ?_
  exact Eq.trans (r_go (act := oVret) rfl rfl) (a_vret)
theorem x_X5_take_0_1 (g : zg) (h1 : g.1 = true) (M : zM) : X_X5_take g [.ref 27, .ref 227] M = some (none, ((zcp (zcp M.1 228 28 (zx 96)) 229 29 (zx 960)), M.2)) := e_X5_take_0_1 g h1 M
set_option maxRecDepth 20000 in
theorem e_X6_take_0 (g : zg) (h1 : g.1 = true) (M : zM) : zX (t_X6_take g) 0 [some (.ref 232), some (.ref 32)] [] M = some (none, ((zcp (zcp (zcp (zcp (zcp (zcp (zu (zu (zu M.1 232 6 (M.1 32 6)) 232 7 (M.1 32 7)) 232 8 (M.1 32 8)) 33 233 (zx 12)) 34 234 (zx 20)) 35 235 (zx 20)) 36 236 (zx 6)) 37 237 (zx 6)) 38 238 (zx 4)), M.2)) := by
  refine Eq.trans (zX_rgN (tl_X6_take g) (hc_X6_take g) 62 _ _ _ _) ?_
  refine Eq.trans (Eq.trans (r_0 (act := oS (fAld 1 0)) rfl) (a_ald rfl)) ?_
  refine Eq.trans (Eq.trans (r_go (act := oS (fAld 2 1)) rfl rfl) (a_ald rfl)) ?_
  refine Eq.trans (Eq.trans (r_go (act := oS (fGi g 5 6 6)) rfl rfl) (a_gi (zO_32 g))) ?_
  refine Eq.trans (Eq.trans (r_go (act := oS (fPi g 8 6 6)) rfl rfl) (a_pi (zO_232 g h1))) ?_
  refine Eq.trans (Eq.trans (r_go (act := oS (fAld 9 0)) rfl rfl) (a_ald rfl)) ?_
  refine Eq.trans (Eq.trans (r_go (act := oS (fAld 10 1)) rfl rfl) (a_ald rfl)) ?_
  refine Eq.trans (Eq.trans (r_go (act := oS (fGi g 13 6 7)) rfl rfl) (a_giV (zO_32 g) rfl)) ?_
  refine Eq.trans (Eq.trans (r_go (act := oS (fPi g 16 6 7)) rfl rfl) (a_pi (zO_232 g h1))) ?_
  refine Eq.trans (Eq.trans (r_go (act := oS (fAld 17 0)) rfl rfl) (a_ald rfl)) ?_
  refine Eq.trans (Eq.trans (r_go (act := oS (fAld 18 1)) rfl rfl) (a_ald rfl)) ?_
  refine Eq.trans (Eq.trans (r_go (act := oS (fGi g 21 6 8)) rfl rfl) (a_giV (zO_32 g) rfl)) ?_
  refine Eq.trans (Eq.trans (r_go (act := oS (fPi g 24 6 8)) rfl rfl) (a_pi (zO_232 g h1))) ?_
  refine Eq.trans (Eq.trans (r_go (act := oS (fAld 25 1)) rfl rfl) (a_ald rfl)) ?_
  refine Eq.trans (Eq.trans (r_go (act := oS (fGr g 28 6 0)) rfl rfl) (a_gr (zO_32 g) (zR_32_0 g))) ?_
  refine Eq.trans (Eq.trans (r_go (act := oS (fSt 29 (gC (.int 0)))) rfl rfl) (a_C)) ?_
  refine Eq.trans (Eq.trans (r_go (act := oS (fAld 30 0)) rfl rfl) (a_ald rfl)) ?_
  refine Eq.trans (Eq.trans (r_go (act := oS (fGr g 33 6 0)) rfl rfl) (a_gr (zO_232 g h1) (zR_232_0 g h1))) ?_
  refine Eq.trans (Eq.trans (r_go (act := oS (fSt 34 (gC (.int 0)))) rfl rfl) (a_C)) ?_
  refine Eq.trans (Eq.trans (r_go (act := oS (fSt 36 (gC (.int 12)))) rfl rfl) (a_C)) ?_
  refine Eq.trans (Eq.trans (r_go (act := oS (fCp g 39)) rfl rfl) (a_cp (zCp (zA_33 g) (zA_233 g h1) zS_33 zS_233 (by decide +kernel) (by decide +kernel) rfl))) ?_
  refine Eq.trans (Eq.trans (r_go (act := oS (fAld 40 1)) rfl rfl) (a_ald rfl)) ?_
  refine Eq.trans (Eq.trans (r_go (act := oS (fGr g 43 6 1)) rfl rfl) (a_gr (zO_32 g) (zR_32_1 g))) ?_
  refine Eq.trans (Eq.trans (r_go (act := oS (fSt 44 (gC (.int 0)))) rfl rfl) (a_C)) ?_
  refine Eq.trans (Eq.trans (r_go (act := oS (fAld 45 0)) rfl rfl) (a_ald rfl)) ?_
  refine Eq.trans (Eq.trans (r_go (act := oS (fGr g 48 6 1)) rfl rfl) (a_gr (zO_232 g h1) (zR_232_1 g h1))) ?_
  refine Eq.trans (Eq.trans (r_go (act := oS (fSt 49 (gC (.int 0)))) rfl rfl) (a_C)) ?_
  refine Eq.trans (Eq.trans (r_go (act := oS (fSt 51 (gC (.int 20)))) rfl rfl) (a_C)) ?_
  refine Eq.trans (Eq.trans (r_go (act := oS (fCp g 54)) rfl rfl) (a_cp (zCp (zA_34 g) (zA_234 g h1) zS_34 zS_234 (by decide +kernel) (by decide +kernel) rfl))) ?_
  refine Eq.trans (Eq.trans (r_go (act := oS (fAld 55 1)) rfl rfl) (a_ald rfl)) ?_
  refine Eq.trans (Eq.trans (r_go (act := oS (fGr g 58 6 2)) rfl rfl) (a_gr (zO_32 g) (zR_32_2 g))) ?_
  refine Eq.trans (Eq.trans (r_go (act := oS (fSt 59 (gC (.int 0)))) rfl rfl) (a_C)) ?_
  refine Eq.trans (Eq.trans (r_go (act := oS (fAld 60 0)) rfl rfl) (a_ald rfl)) ?_
  refine Eq.trans (Eq.trans (r_go (act := oS (fGr g 63 6 2)) rfl rfl) (a_gr (zO_232 g h1) (zR_232_2 g h1))) ?_
  refine Eq.trans (Eq.trans (r_go (act := oS (fSt 64 (gC (.int 0)))) rfl rfl) (a_C)) ?_
  refine Eq.trans (Eq.trans (r_go (act := oS (fSt 66 (gC (.int 20)))) rfl rfl) (a_C)) ?_
  refine Eq.trans (Eq.trans (r_go (act := oS (fCp g 69)) rfl rfl) (a_cp (zCp (zA_35 g) (zA_235 g h1) zS_35 zS_235 (by decide +kernel) (by decide +kernel) rfl))) ?_
  refine Eq.trans (Eq.trans (r_go (act := oS (fAld 70 1)) rfl rfl) (a_ald rfl)) ?_
  refine Eq.trans (Eq.trans (r_go (act := oS (fGr g 73 6 3)) rfl rfl) (a_gr (zO_32 g) (zR_32_3 g))) ?_
  refine Eq.trans (Eq.trans (r_go (act := oS (fSt 74 (gC (.int 0)))) rfl rfl) (a_C)) ?_
  refine Eq.trans (Eq.trans (r_go (act := oS (fAld 75 0)) rfl rfl) (a_ald rfl)) ?_
  refine Eq.trans (Eq.trans (r_go (act := oS (fGr g 78 6 3)) rfl rfl) (a_gr (zO_232 g h1) (zR_232_3 g h1))) ?_
  refine Eq.trans (Eq.trans (r_go (act := oS (fSt 79 (gC (.int 0)))) rfl rfl) (a_C)) ?_
  refine Eq.trans (Eq.trans (r_go (act := oS (fSt 81 (gC (.int 6)))) rfl rfl) (a_C)) ?_
  refine Eq.trans (Eq.trans (r_go (act := oS (fCp g 84)) rfl rfl) (a_cp (zCp (zA_36 g) (zA_236 g h1) zS_36 zS_236 (by decide +kernel) (by decide +kernel) rfl))) ?_
  refine Eq.trans (Eq.trans (r_go (act := oS (fAld 85 1)) rfl rfl) (a_ald rfl)) ?_
  refine Eq.trans (Eq.trans (r_go (act := oS (fGr g 88 6 4)) rfl rfl) (a_gr (zO_32 g) (zR_32_4 g))) ?_
  refine Eq.trans (Eq.trans (r_go (act := oS (fSt 89 (gC (.int 0)))) rfl rfl) (a_C)) ?_
  refine Eq.trans (Eq.trans (r_go (act := oS (fAld 90 0)) rfl rfl) (a_ald rfl)) ?_
  refine Eq.trans (Eq.trans (r_go (act := oS (fGr g 93 6 4)) rfl rfl) (a_gr (zO_232 g h1) (zR_232_4 g h1))) ?_
  refine Eq.trans (Eq.trans (r_go (act := oS (fSt 94 (gC (.int 0)))) rfl rfl) (a_C)) ?_
  refine Eq.trans (Eq.trans (r_go (act := oS (fSt 96 (gC (.int 6)))) rfl rfl) (a_C)) ?_
  refine Eq.trans (Eq.trans (r_go (act := oS (fCp g 99)) rfl rfl) (a_cp (zCp (zA_37 g) (zA_237 g h1) zS_37 zS_237 (by decide +kernel) (by decide +kernel) rfl))) ?_
  refine Eq.trans (Eq.trans (r_go (act := oS (fAld 100 1)) rfl rfl) (a_ald rfl)) ?_
  refine Eq.trans (Eq.trans (r_go (act := oS (fGr g 103 6 5)) rfl rfl) (a_gr (zO_32 g) (zR_32_5 g))) ?_
  refine Eq.trans (Eq.trans (r_go (act := oS (fSt 104 (gC (.int 0)))) rfl rfl) (a_C)) ?_
  refine Eq.trans (Eq.trans (r_go (act := oS (fAld 105 0)) rfl rfl) (a_ald rfl)) ?_
  refine Eq.trans (Eq.trans (r_go (act := oS (fGr g 108 6 5)) rfl rfl) (a_gr (zO_232 g h1) (zR_232_5 g h1))) ?_
  refine Eq.trans (Eq.trans (r_go (act := oS (fSt 109 (gC (.int 0)))) rfl rfl) (a_C)) ?_
  refine Eq.trans (Eq.trans (r_go (act := oS (fSt 110 (gC (.int 4)))) rfl rfl) (a_C)) ?_
  refine Eq.trans (Eq.trans (r_go (act := oS (fCp g 113)) rfl rfl) (a_cp (zCp (zA_38 g) (zA_238 g h1) zS_38 zS_238 (by decide +kernel) (by decide +kernel) rfl))) ?_
  exact Eq.trans (r_go (act := oVret) rfl rfl) (a_vret)
theorem x_X6_take_0 (g : zg) (h1 : g.1 = true) (M : zM) : X_X6_take g [.ref 232, .ref 32] M = some (none, ((zcp (zcp (zcp (zcp (zcp (zcp (zu (zu (zu M.1 232 6 (M.1 32 6)) 232 7 (M.1 32 7)) 232 8 (M.1 32 8)) 33 233 (zx 12)) 34 234 (zx 20)) 35 235 (zx 20)) 36 236 (zx 6)) 37 237 (zx 6)) 38 238 (zx 4)), M.2)) := e_X6_take_0 g h1 M
set_option maxRecDepth 20000 in
theorem e_X6_take_0_1 (g : zg) (h1 : g.1 = true) (M : zM) : zX (t_X6_take g) 0 [some (.ref 32), some (.ref 232)] [] M = some (none, ((zcp (zcp (zcp (zcp (zcp (zcp (zu (zu (zu M.1 32 6 (M.1 232 6)) 32 7 (M.1 232 7)) 32 8 (M.1 232 8)) 233 33 (zx 12)) 234 34 (zx 20)) 235 35 (zx 20)) 236 36 (zx 6)) 237 37 (zx 6)) 238 38 (zx 4)), M.2)) := by
  refine Eq.trans (zX_rgN (tl_X6_take g) (hc_X6_take g) 62 _ _ _ _) ?_
  refine Eq.trans (Eq.trans (r_0 (act := oS (fAld 1 0)) rfl) (a_ald rfl)) ?_
  refine Eq.trans (Eq.trans (r_go (act := oS (fAld 2 1)) rfl rfl) (a_ald rfl)) ?_
  refine Eq.trans (Eq.trans (r_go (act := oS (fGi g 5 6 6)) rfl rfl) (a_gi (zO_232 g h1))) ?_
  refine Eq.trans (Eq.trans (r_go (act := oS (fPi g 8 6 6)) rfl rfl) (a_pi (zO_32 g))) ?_
  refine Eq.trans (Eq.trans (r_go (act := oS (fAld 9 0)) rfl rfl) (a_ald rfl)) ?_
  refine Eq.trans (Eq.trans (r_go (act := oS (fAld 10 1)) rfl rfl) (a_ald rfl)) ?_
  refine Eq.trans (Eq.trans (r_go (act := oS (fGi g 13 6 7)) rfl rfl) (a_giV (zO_232 g h1) rfl)) ?_
  refine Eq.trans (Eq.trans (r_go (act := oS (fPi g 16 6 7)) rfl rfl) (a_pi (zO_32 g))) ?_
  refine Eq.trans (Eq.trans (r_go (act := oS (fAld 17 0)) rfl rfl) (a_ald rfl)) ?_
  refine Eq.trans (Eq.trans (r_go (act := oS (fAld 18 1)) rfl rfl) (a_ald rfl)) ?_
  refine Eq.trans (Eq.trans (r_go (act := oS (fGi g 21 6 8)) rfl rfl) (a_giV (zO_232 g h1) rfl)) ?_
  refine Eq.trans (Eq.trans (r_go (act := oS (fPi g 24 6 8)) rfl rfl) (a_pi (zO_32 g))) ?_
  refine Eq.trans (Eq.trans (r_go (act := oS (fAld 25 1)) rfl rfl) (a_ald rfl)) ?_
  refine Eq.trans (Eq.trans (r_go (act := oS (fGr g 28 6 0)) rfl rfl) (a_gr (zO_232 g h1) (zR_232_0 g h1))) ?_
  refine Eq.trans (Eq.trans (r_go (act := oS (fSt 29 (gC (.int 0)))) rfl rfl) (a_C)) ?_
  refine Eq.trans (Eq.trans (r_go (act := oS (fAld 30 0)) rfl rfl) (a_ald rfl)) ?_
  refine Eq.trans (Eq.trans (r_go (act := oS (fGr g 33 6 0)) rfl rfl) (a_gr (zO_32 g) (zR_32_0 g))) ?_
  refine Eq.trans (Eq.trans (r_go (act := oS (fSt 34 (gC (.int 0)))) rfl rfl) (a_C)) ?_
  refine Eq.trans (Eq.trans (r_go (act := oS (fSt 36 (gC (.int 12)))) rfl rfl) (a_C)) ?_
  refine Eq.trans (Eq.trans (r_go (act := oS (fCp g 39)) rfl rfl) (a_cp (zCp (zA_233 g h1) (zA_33 g) zS_233 zS_33 (by decide +kernel) (by decide +kernel) rfl))) ?_
  refine Eq.trans (Eq.trans (r_go (act := oS (fAld 40 1)) rfl rfl) (a_ald rfl)) ?_
  refine Eq.trans (Eq.trans (r_go (act := oS (fGr g 43 6 1)) rfl rfl) (a_gr (zO_232 g h1) (zR_232_1 g h1))) ?_
  refine Eq.trans (Eq.trans (r_go (act := oS (fSt 44 (gC (.int 0)))) rfl rfl) (a_C)) ?_
  refine Eq.trans (Eq.trans (r_go (act := oS (fAld 45 0)) rfl rfl) (a_ald rfl)) ?_
  refine Eq.trans (Eq.trans (r_go (act := oS (fGr g 48 6 1)) rfl rfl) (a_gr (zO_32 g) (zR_32_1 g))) ?_
  refine Eq.trans (Eq.trans (r_go (act := oS (fSt 49 (gC (.int 0)))) rfl rfl) (a_C)) ?_
  refine Eq.trans (Eq.trans (r_go (act := oS (fSt 51 (gC (.int 20)))) rfl rfl) (a_C)) ?_
  refine Eq.trans (Eq.trans (r_go (act := oS (fCp g 54)) rfl rfl) (a_cp (zCp (zA_234 g h1) (zA_34 g) zS_234 zS_34 (by decide +kernel) (by decide +kernel) rfl))) ?_
  refine Eq.trans (Eq.trans (r_go (act := oS (fAld 55 1)) rfl rfl) (a_ald rfl)) ?_
  refine Eq.trans (Eq.trans (r_go (act := oS (fGr g 58 6 2)) rfl rfl) (a_gr (zO_232 g h1) (zR_232_2 g h1))) ?_
  refine Eq.trans (Eq.trans (r_go (act := oS (fSt 59 (gC (.int 0)))) rfl rfl) (a_C)) ?_
  refine Eq.trans (Eq.trans (r_go (act := oS (fAld 60 0)) rfl rfl) (a_ald rfl)) ?_
  refine Eq.trans (Eq.trans (r_go (act := oS (fGr g 63 6 2)) rfl rfl) (a_gr (zO_32 g) (zR_32_2 g))) ?_
  refine Eq.trans (Eq.trans (r_go (act := oS (fSt 64 (gC (.int 0)))) rfl rfl) (a_C)) ?_
  refine Eq.trans (Eq.trans (r_go (act := oS (fSt 66 (gC (.int 20)))) rfl rfl) (a_C)) ?_
  refine Eq.trans (Eq.trans (r_go (act := oS (fCp g 69)) rfl rfl) (a_cp (zCp (zA_235 g h1) (zA_35 g) zS_235 zS_35 (by decide +kernel) (by decide +kernel) rfl))) ?_
  refine Eq.trans (Eq.trans (r_go (act := oS (fAld 70 1)) rfl rfl) (a_ald rfl)) ?_
  refine Eq.trans (Eq.trans (r_go (act := oS (fGr g 73 6 3)) rfl rfl) (a_gr (zO_232 g h1) (zR_232_3 g h1))) ?_
  refine Eq.trans (Eq.trans (r_go (act := oS (fSt 74 (gC (.int 0)))) rfl rfl) (a_C)) ?_
  refine Eq.trans (Eq.trans (r_go (act := oS (fAld 75 0)) rfl rfl) (a_ald rfl)) ?_
  refine Eq.trans (Eq.trans (r_go (act := oS (fGr g 78 6 3)) rfl rfl) (a_gr (zO_32 g) (zR_32_3 g))) ?_
  refine Eq.trans (Eq.trans (r_go (act := oS (fSt 79 (gC (.int 0)))) rfl rfl) (a_C)) ?_
  refine Eq.trans (Eq.trans (r_go (act := oS (fSt 81 (gC (.int 6)))) rfl rfl) (a_C)) ?_
  refine Eq.trans (Eq.trans (r_go (act := oS (fCp g 84)) rfl rfl) (a_cp (zCp (zA_236 g h1) (zA_36 g) zS_236 zS_36 (by decide +kernel) (by decide +kernel) rfl))) ?_
  refine Eq.trans (Eq.trans (r_go (act := oS (fAld 85 1)) rfl rfl) (a_ald rfl)) ?_
  refine Eq.trans (Eq.trans (r_go (act := oS (fGr g 88 6 4)) rfl rfl) (a_gr (zO_232 g h1) (zR_232_4 g h1))) ?_
  refine Eq.trans (Eq.trans (r_go (act := oS (fSt 89 (gC (.int 0)))) rfl rfl) (a_C)) ?_
  refine Eq.trans (Eq.trans (r_go (act := oS (fAld 90 0)) rfl rfl) (a_ald rfl)) ?_
  refine Eq.trans (Eq.trans (r_go (act := oS (fGr g 93 6 4)) rfl rfl) (a_gr (zO_32 g) (zR_32_4 g))) ?_
  refine Eq.trans (Eq.trans (r_go (act := oS (fSt 94 (gC (.int 0)))) rfl rfl) (a_C)) ?_
  refine Eq.trans (Eq.trans (r_go (act := oS (fSt 96 (gC (.int 6)))) rfl rfl) (a_C)) ?_
  refine Eq.trans (Eq.trans (r_go (act := oS (fCp g 99)) rfl rfl) (a_cp (zCp (zA_237 g h1) (zA_37 g) zS_237 zS_37 (by decide +kernel) (by decide +kernel) rfl))) ?_
  refine Eq.trans (Eq.trans (r_go (act := oS (fAld 100 1)) rfl rfl) (a_ald rfl)) ?_
  refine Eq.trans (Eq.trans (r_go (act := oS (fGr g 103 6 5)) rfl rfl) (a_gr (zO_232 g h1) (zR_232_5 g h1))) ?_
  refine Eq.trans (Eq.trans (r_go (act := oS (fSt 104 (gC (.int 0)))) rfl rfl) (a_C)) ?_
  refine Eq.trans (Eq.trans (r_go (act := oS (fAld 105 0)) rfl rfl) (a_ald rfl)) ?_
  refine Eq.trans (Eq.trans (r_go (act := oS (fGr g 108 6 5)) rfl rfl) (a_gr (zO_32 g) (zR_32_5 g))) ?_
  refine Eq.trans (Eq.trans (r_go (act := oS (fSt 109 (gC (.int 0)))) rfl rfl) (a_C)) ?_
  refine Eq.trans (Eq.trans (r_go (act := oS (fSt 110 (gC (.int 4)))) rfl rfl) (a_C)) ?_
  refine Eq.trans (Eq.trans (r_go (act := oS (fCp g 113)) rfl rfl) (a_cp (zCp (zA_238 g h1) (zA_38 g) zS_238 zS_38 (by decide +kernel) (by decide +kernel) rfl))) ?_
  exact Eq.trans (r_go (act := oVret) rfl rfl) (a_vret)
theorem x_X6_take_0_1 (g : zg) (h1 : g.1 = true) (M : zM) : X_X6_take g [.ref 32, .ref 232] M = some (none, ((zcp (zcp (zcp (zcp (zcp (zcp (zu (zu (zu M.1 32 6 (M.1 232 6)) 32 7 (M.1 232 7)) 32 8 (M.1 232 8)) 233 33 (zx 12)) 234 34 (zx 20)) 235 35 (zx 20)) 236 36 (zx 6)) 237 37 (zx 6)) 238 38 (zx 4)), M.2)) := e_X6_take_0_1 g h1 M
set_option maxRecDepth 20000 in
theorem e_X10_take_0 (g : zg) (h1 : g.1 = true) (M : zM) : zX (t_X10_take g) 0 [some (.ref 206), some (.ref 6)] [] M = (zbV (X_X3_take g [.ref 207, .ref 7] M) (fun M1 => (zbV (X_X4_take g [.ref 209, .ref 9] M1) (fun M2 => (zbV (X_X7_take g [.ref 217, .ref 17] M2) (fun M3 => (zbV (X_X0_take g [.ref 220, .ref 20] M3) (fun M4 => (zbV (X_X1_take g [.ref 225, .ref 25] M4) (fun M5 => (zbV (X_X5_take g [.ref 227, .ref 27] M5) (fun M6 => (zbV (X_X6_take g [.ref 232, .ref 32] M6) (fun M7 => some (none, M7))))))))))))))) := by
  refine Eq.trans (zX_rgN (tl_X10_take g) (hc_X10_take g) 37 _ _ _ _) ?_
  refine Eq.trans (Eq.trans (r_0 (act := oS (fAld 1 0)) rfl) (a_ald rfl)) ?_
  refine Eq.trans (Eq.trans (r_go (act := oS (fGr g 4 10 0)) rfl rfl) (a_gr (zO_206 g h1) (zR_206_0 g h1))) ?_
  refine Eq.trans (Eq.trans (r_go (act := oS (fAld 5 1)) rfl rfl) (a_ald rfl)) ?_
  refine Eq.trans (Eq.trans (r_go (act := oS (fGr g 8 10 0)) rfl rfl) (a_gr (zO_6 g) (zR_6_0 g))) ?_
  refine Eq.trans (Eq.trans (r_go (act := oCV 11 2 (zcv g 3) (X_X3_take g)) rfl rfl) (a_cV rfl (zck (zO_207 g h1) rfl))) (zbV_cg (fun M1 => ?_))
  refine Eq.trans (Eq.trans (r_go (act := oS (fAld 12 0)) rfl rfl) (a_ald rfl)) ?_
  refine Eq.trans (Eq.trans (r_go (act := oS (fGr g 15 10 1)) rfl rfl) (a_gr (zO_206 g h1) (zR_206_1 g h1))) ?_
  refine Eq.trans (Eq.trans (r_go (act := oS (fAld 16 1)) rfl rfl) (a_ald rfl)) ?_
  refine Eq.trans (Eq.trans (r_go (act := oS (fGr g 19 10 1)) rfl rfl) (a_gr (zO_6 g) (zR_6_1 g))) ?_
  refine Eq.trans (Eq.trans (r_go (act := oCV 22 2 (zcv g 4) (X_X4_take g)) rfl rfl) (a_cV rfl (zck (zO_209 g h1) rfl))) (zbV_cg (fun M2 => ?_))
  refine Eq.trans (Eq.trans (r_go (act := oS (fAld 23 0)) rfl rfl) (a_ald rfl)) ?_
  refine Eq.trans (Eq.trans (r_go (act := oS (fGr g 26 10 2)) rfl rfl) (a_gr (zO_206 g h1) (zR_206_2 g h1))) ?_
  refine Eq.trans (Eq.trans (r_go (act := oS (fAld 27 1)) rfl rfl) (a_ald rfl)) ?_
  refine Eq.trans (Eq.trans (r_go (act := oS (fGr g 30 10 2)) rfl rfl) (a_gr (zO_6 g) (zR_6_2 g))) ?_
  refine Eq.trans (Eq.trans (r_go (act := oCV 33 2 (zcv g 7) (X_X7_take g)) rfl rfl) (a_cV rfl (zck (zO_217 g h1) rfl))) (zbV_cg (fun M3 => ?_))
  refine Eq.trans (Eq.trans (r_go (act := oS (fAld 34 0)) rfl rfl) (a_ald rfl)) ?_
  refine Eq.trans (Eq.trans (r_go (act := oS (fGr g 37 10 3)) rfl rfl) (a_gr (zO_206 g h1) (zR_206_3 g h1))) ?_
  refine Eq.trans (Eq.trans (r_go (act := oS (fAld 38 1)) rfl rfl) (a_ald rfl)) ?_
  refine Eq.trans (Eq.trans (r_go (act := oS (fGr g 41 10 3)) rfl rfl) (a_gr (zO_6 g) (zR_6_3 g))) ?_
  refine Eq.trans (Eq.trans (r_go (act := oCV 44 2 (zcv g 0) (X_X0_take g)) rfl rfl) (a_cV rfl (zck (zO_220 g h1) rfl))) (zbV_cg (fun M4 => ?_))
  refine Eq.trans (Eq.trans (r_go (act := oS (fAld 45 0)) rfl rfl) (a_ald rfl)) ?_
  refine Eq.trans (Eq.trans (r_go (act := oS (fGr g 48 10 4)) rfl rfl) (a_gr (zO_206 g h1) (zR_206_4 g h1))) ?_
  refine Eq.trans (Eq.trans (r_go (act := oS (fAld 49 1)) rfl rfl) (a_ald rfl)) ?_
  refine Eq.trans (Eq.trans (r_go (act := oS (fGr g 52 10 4)) rfl rfl) (a_gr (zO_6 g) (zR_6_4 g))) ?_
  refine Eq.trans (Eq.trans (r_go (act := oCV 55 2 (zcv g 1) (X_X1_take g)) rfl rfl) (a_cV rfl (zck (zO_225 g h1) rfl))) (zbV_cg (fun M5 => ?_))
  refine Eq.trans (Eq.trans (r_go (act := oS (fAld 56 0)) rfl rfl) (a_ald rfl)) ?_
  refine Eq.trans (Eq.trans (r_go (act := oS (fGr g 59 10 5)) rfl rfl) (a_gr (zO_206 g h1) (zR_206_5 g h1))) ?_
  refine Eq.trans (Eq.trans (r_go (act := oS (fAld 60 1)) rfl rfl) (a_ald rfl)) ?_
  refine Eq.trans (Eq.trans (r_go (act := oS (fGr g 63 10 5)) rfl rfl) (a_gr (zO_6 g) (zR_6_5 g))) ?_
  refine Eq.trans (Eq.trans (r_go (act := oCV 66 2 (zcv g 5) (X_X5_take g)) rfl rfl) (a_cV rfl (zck (zO_227 g h1) rfl))) (zbV_cg (fun M6 => ?_))
  refine Eq.trans (Eq.trans (r_go (act := oS (fAld 67 0)) rfl rfl) (a_ald rfl)) ?_
  refine Eq.trans (Eq.trans (r_go (act := oS (fGr g 70 10 6)) rfl rfl) (a_gr (zO_206 g h1) (zR_206_6 g h1))) ?_
  refine Eq.trans (Eq.trans (r_go (act := oS (fAld 71 1)) rfl rfl) (a_ald rfl)) ?_
  refine Eq.trans (Eq.trans (r_go (act := oS (fGr g 74 10 6)) rfl rfl) (a_gr (zO_6 g) (zR_6_6 g))) ?_
  refine Eq.trans (Eq.trans (r_go (act := oCV 77 2 (zcv g 6) (X_X6_take g)) rfl rfl) (a_cV rfl (zck (zO_232 g h1) rfl))) (zbV_cg (fun M7 => ?_))
  exact Eq.trans (r_go (act := oVret) rfl rfl) (a_vret)
theorem x_X10_take_0 (g : zg) (h1 : g.1 = true) (M : zM) : X_X10_take g [.ref 206, .ref 6] M = (zbV (X_X3_take g [.ref 207, .ref 7] M) (fun M1 => (zbV (X_X4_take g [.ref 209, .ref 9] M1) (fun M2 => (zbV (X_X7_take g [.ref 217, .ref 17] M2) (fun M3 => (zbV (X_X0_take g [.ref 220, .ref 20] M3) (fun M4 => (zbV (X_X1_take g [.ref 225, .ref 25] M4) (fun M5 => (zbV (X_X5_take g [.ref 227, .ref 27] M5) (fun M6 => (zbV (X_X6_take g [.ref 232, .ref 32] M6) (fun M7 => some (none, M7))))))))))))))) := e_X10_take_0 g h1 M
set_option maxRecDepth 20000 in
theorem e_X10_take_0_1 (g : zg) (h1 : g.1 = true) (M : zM) : zX (t_X10_take g) 0 [some (.ref 6), some (.ref 206)] [] M = (zbV (X_X3_take g [.ref 7, .ref 207] M) (fun M1 => (zbV (X_X4_take g [.ref 9, .ref 209] M1) (fun M2 => (zbV (X_X7_take g [.ref 17, .ref 217] M2) (fun M3 => (zbV (X_X0_take g [.ref 20, .ref 220] M3) (fun M4 => (zbV (X_X1_take g [.ref 25, .ref 225] M4) (fun M5 => (zbV (X_X5_take g [.ref 27, .ref 227] M5) (fun M6 => (zbV (X_X6_take g [.ref 32, .ref 232] M6) (fun M7 => some (none, M7))))))))))))))) := by
  refine Eq.trans (zX_rgN (tl_X10_take g) (hc_X10_take g) 37 _ _ _ _) ?_
  refine Eq.trans (Eq.trans (r_0 (act := oS (fAld 1 0)) rfl) (a_ald rfl)) ?_
  refine Eq.trans (Eq.trans (r_go (act := oS (fGr g 4 10 0)) rfl rfl) (a_gr (zO_6 g) (zR_6_0 g))) ?_
  refine Eq.trans (Eq.trans (r_go (act := oS (fAld 5 1)) rfl rfl) (a_ald rfl)) ?_
  refine Eq.trans (Eq.trans (r_go (act := oS (fGr g 8 10 0)) rfl rfl) (a_gr (zO_206 g h1) (zR_206_0 g h1))) ?_
  refine Eq.trans (Eq.trans (r_go (act := oCV 11 2 (zcv g 3) (X_X3_take g)) rfl rfl) (a_cV rfl (zck (zO_7 g) rfl))) (zbV_cg (fun M1 => ?_))
  refine Eq.trans (Eq.trans (r_go (act := oS (fAld 12 0)) rfl rfl) (a_ald rfl)) ?_
  refine Eq.trans (Eq.trans (r_go (act := oS (fGr g 15 10 1)) rfl rfl) (a_gr (zO_6 g) (zR_6_1 g))) ?_
  refine Eq.trans (Eq.trans (r_go (act := oS (fAld 16 1)) rfl rfl) (a_ald rfl)) ?_
  refine Eq.trans (Eq.trans (r_go (act := oS (fGr g 19 10 1)) rfl rfl) (a_gr (zO_206 g h1) (zR_206_1 g h1))) ?_
  refine Eq.trans (Eq.trans (r_go (act := oCV 22 2 (zcv g 4) (X_X4_take g)) rfl rfl) (a_cV rfl (zck (zO_9 g) rfl))) (zbV_cg (fun M2 => ?_))
  refine Eq.trans (Eq.trans (r_go (act := oS (fAld 23 0)) rfl rfl) (a_ald rfl)) ?_
  refine Eq.trans (Eq.trans (r_go (act := oS (fGr g 26 10 2)) rfl rfl) (a_gr (zO_6 g) (zR_6_2 g))) ?_
  refine Eq.trans (Eq.trans (r_go (act := oS (fAld 27 1)) rfl rfl) (a_ald rfl)) ?_
  refine Eq.trans (Eq.trans (r_go (act := oS (fGr g 30 10 2)) rfl rfl) (a_gr (zO_206 g h1) (zR_206_2 g h1))) ?_
  refine Eq.trans (Eq.trans (r_go (act := oCV 33 2 (zcv g 7) (X_X7_take g)) rfl rfl) (a_cV rfl (zck (zO_17 g) rfl))) (zbV_cg (fun M3 => ?_))
  refine Eq.trans (Eq.trans (r_go (act := oS (fAld 34 0)) rfl rfl) (a_ald rfl)) ?_
  refine Eq.trans (Eq.trans (r_go (act := oS (fGr g 37 10 3)) rfl rfl) (a_gr (zO_6 g) (zR_6_3 g))) ?_
  refine Eq.trans (Eq.trans (r_go (act := oS (fAld 38 1)) rfl rfl) (a_ald rfl)) ?_
  refine Eq.trans (Eq.trans (r_go (act := oS (fGr g 41 10 3)) rfl rfl) (a_gr (zO_206 g h1) (zR_206_3 g h1))) ?_
  refine Eq.trans (Eq.trans (r_go (act := oCV 44 2 (zcv g 0) (X_X0_take g)) rfl rfl) (a_cV rfl (zck (zO_20 g) rfl))) (zbV_cg (fun M4 => ?_))
  refine Eq.trans (Eq.trans (r_go (act := oS (fAld 45 0)) rfl rfl) (a_ald rfl)) ?_
  refine Eq.trans (Eq.trans (r_go (act := oS (fGr g 48 10 4)) rfl rfl) (a_gr (zO_6 g) (zR_6_4 g))) ?_
  refine Eq.trans (Eq.trans (r_go (act := oS (fAld 49 1)) rfl rfl) (a_ald rfl)) ?_
  refine Eq.trans (Eq.trans (r_go (act := oS (fGr g 52 10 4)) rfl rfl) (a_gr (zO_206 g h1) (zR_206_4 g h1))) ?_
  refine Eq.trans (Eq.trans (r_go (act := oCV 55 2 (zcv g 1) (X_X1_take g)) rfl rfl) (a_cV rfl (zck (zO_25 g) rfl))) (zbV_cg (fun M5 => ?_))
  refine Eq.trans (Eq.trans (r_go (act := oS (fAld 56 0)) rfl rfl) (a_ald rfl)) ?_
  refine Eq.trans (Eq.trans (r_go (act := oS (fGr g 59 10 5)) rfl rfl) (a_gr (zO_6 g) (zR_6_5 g))) ?_
  refine Eq.trans (Eq.trans (r_go (act := oS (fAld 60 1)) rfl rfl) (a_ald rfl)) ?_
  refine Eq.trans (Eq.trans (r_go (act := oS (fGr g 63 10 5)) rfl rfl) (a_gr (zO_206 g h1) (zR_206_5 g h1))) ?_
  refine Eq.trans (Eq.trans (r_go (act := oCV 66 2 (zcv g 5) (X_X5_take g)) rfl rfl) (a_cV rfl (zck (zO_27 g) rfl))) (zbV_cg (fun M6 => ?_))
  refine Eq.trans (Eq.trans (r_go (act := oS (fAld 67 0)) rfl rfl) (a_ald rfl)) ?_
  refine Eq.trans (Eq.trans (r_go (act := oS (fGr g 70 10 6)) rfl rfl) (a_gr (zO_6 g) (zR_6_6 g))) ?_
  refine Eq.trans (Eq.trans (r_go (act := oS (fAld 71 1)) rfl rfl) (a_ald rfl)) ?_
  refine Eq.trans (Eq.trans (r_go (act := oS (fGr g 74 10 6)) rfl rfl) (a_gr (zO_206 g h1) (zR_206_6 g h1))) ?_
  refine Eq.trans (Eq.trans (r_go (act := oCV 77 2 (zcv g 6) (X_X6_take g)) rfl rfl) (a_cV rfl (zck (zO_32 g) rfl))) (zbV_cg (fun M7 => ?_))
  exact Eq.trans (r_go (act := oVret) rfl rfl) (a_vret)
theorem x_X10_take_0_1 (g : zg) (h1 : g.1 = true) (M : zM) : X_X10_take g [.ref 6, .ref 206] M = (zbV (X_X3_take g [.ref 7, .ref 207] M) (fun M1 => (zbV (X_X4_take g [.ref 9, .ref 209] M1) (fun M2 => (zbV (X_X7_take g [.ref 17, .ref 217] M2) (fun M3 => (zbV (X_X0_take g [.ref 20, .ref 220] M3) (fun M4 => (zbV (X_X1_take g [.ref 25, .ref 225] M4) (fun M5 => (zbV (X_X5_take g [.ref 27, .ref 227] M5) (fun M6 => (zbV (X_X6_take g [.ref 32, .ref 232] M6) (fun M7 => some (none, M7))))))))))))))) := e_X10_take_0_1 g h1 M
