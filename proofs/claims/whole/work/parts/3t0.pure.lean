/-! PURE ROWS: the equations of a court, the real one or one in thought (printed by mk3t0.py) -/
theorem k_X3_allows_0 (g : zg) {c r : Nat} (hcr : CO c r) (a1 : Int32) (a2 : Int32) (a3 : Int32) (M : zM) : X_X3_allows g [.ref c, .int a1, .int a2, .int a3] M = (zbI (X_X3_has g [.ref c, .int a2] M) (fun x1 M1 => (bif cEq0 x1 then some (some (.int 0), M1) else (bif cEq a1 0 then (zbI (X_X3_serving g [.ref c, .int a2] M1) (fun x2 M2 => (bif cEq (x2 &&& 1) x2 then some (some (.int x2), M2) else none))) else (bif cEq a1 1 then (zbI (X_X11_within g [.int a3, .int 0, .int 99] M1) (fun x3 M3 => (bif cEq (x3 &&& 1) x3 then some (some (.int x3), M3) else none))) else (bif cEq a1 2 then (zbI (X_X11_within g [.int a3, .int 0, .int 4] M1) (fun x4 M4 => (bif cEq (x4 &&& 1) x4 then some (some (.int x4), M4) else none))) else (bif cEq a1 3 then (zbI (X_X3_get g [.ref c, .int a2, .int 3] M1) (fun x5 M5 => (bif cEq x5 (-1) then some (some (.int 0), M5) else some (some (.int 1), M5)))) else (bif cEq a1 4 then (zbI (X_X3_serving g [.ref c, .int a2] M1) (fun x6 M6 => (bif cEq0 x6 then some (some (.int 1), M6) else some (some (.int 0), M6)))) else some (some (.int 0), M1))))))))) := by
  rcases hcr with ⟨rfl, rfl⟩ | ⟨rfl, rfl⟩
  · exact x_X3_allows_0 g a1 a2 a3 M
  · exact x_X3_allows_0_1 g a1 a2 a3 M
theorem k_X10_carryOut_0 (g : zg) {c r : Nat} (hcr : CO c r) (a2 : Int32) (a3 : Int32) (a4 : Int32) (M : zM) : X_X10_carryOut g [.ref 6, .ref c, .int a2, .int a3, .int a4] M = (bif cEq0 a2 then (zbV (X_X1_write g [.ref 25, .ref c, .int (4 + a2), .int a3, .int 0] ((zu M.1 c 7 a3), M.2)) (fun M1 => some (none, M1))) else (bif cEq a2 1 then (zbV (X_X3_put g [.ref c, .int a3, .int 2, .int a4] M) (fun M2 => (zbV (X_X1_write g [.ref 25, .ref c, .int (4 + a2), .int a3, .int a4] ((zu M2.1 c 9 ((M2.1 c 9) - a4)), M2.2)) (fun M3 => some (none, M3))))) else (bif cEq a2 2 then (zbV (X_X3_put g [.ref c, .int a3, .int 3, .int a4] M) (fun M4 => (zbV (X_X1_write g [.ref 25, .ref c, .int (4 + a2), .int a3, .int a4] M4) (fun M5 => some (none, M5))))) else (bif cEq a2 3 then (zbV (X_X3_put g [.ref c, .int a3, .int 3, .int (-1)] M) (fun M6 => (zbV (X_X1_write g [.ref 25, .ref c, .int (4 + a2), .int a3, .int 0] M6) (fun M7 => some (none, M7))))) else (zbV (X_X3_put g [.ref c, .int a3, .int 5, .int 0] M) (fun M8 => (zbV (X_X3_put g [.ref c, .int a3, .int 4, .int 0] M8) (fun M9 => (zbV (X_X1_write g [.ref 25, .ref c, .int (4 + a2), .int a3, .int 0] M9) (fun M10 => some (none, M10))))))))))) := by
  rcases hcr with ⟨rfl, rfl⟩ | ⟨rfl, rfl⟩
  · exact x_X10_carryOut_0 g a2 a3 a4 M
  · exact x_X10_carryOut_0_1 g a2 a3 a4 M
theorem k_X3_tapAll_0 (g : zg) {c r : Nat} (hcr : CO c r) (M : zM) : X_X3_tapAll g [.ref c] M = zX (t_X3_tapAll g) 2 [some (.ref c), some (.int 0)] [] M := by
  rcases hcr with ⟨rfl, rfl⟩ | ⟨rfl, rfl⟩
  · exact x_X3_tapAll_0 g M
  · exact x_X3_tapAll_0_1 g M
theorem k_X3_tapAll_2 (g : zg) {c r : Nat} (hcr : CO c r) (a1 : Int32) (M : zM) : zX (t_X3_tapAll g) 2 [some (.ref c), some (.int a1)] [] M = (bif cLt a1 (M.1 c 2) then (zbI (X_X3_serving g [.ref c, .int a1] M) (fun x1 M1 => (bif cEq0 x1 then zX (t_X3_tapAll g) 2 [some (.ref c), some (.int (a1 + 1))] [] M1 else (zbI (X_X3_get g [.ref c, .int a1, .int 3] M1) (fun x2 M2 => (bif cEq x2 (-1) then zX (t_X3_tapAll g) 2 [some (.ref c), some (.int (a1 + 1))] [] ((zu M2.1 c 9 ((M1.1 c 9) + 1)), M2.2) else zX (t_X3_tapAll g) 2 [some (.ref c), some (.int (a1 + 1))] [] ((zu M2.1 c 9 ((M1.1 c 9) + (-1))), M2.2))))))) else some (none, M)) := by
  rcases hcr with ⟨rfl, rfl⟩ | ⟨rfl, rfl⟩
  · exact e_X3_tapAll_2 g a1 M
  · exact e_X3_tapAll_2_1 g a1 M
theorem k_X10_followAgenda_0 (g : zg) {c r : Nat} (hcr : CO c r) (M : zM) : X_X10_followAgenda g [.ref 6, .ref c] M = zX (t_X10_followAgenda g) 2 [some (.ref 6), some (.ref c), some (.int 0)] [] M := by
  rcases hcr with ⟨rfl, rfl⟩ | ⟨rfl, rfl⟩
  · exact x_X10_followAgenda_0 g M
  · exact x_X10_followAgenda_0_1 g M
theorem k_X10_followAgenda_2 (g : zg) {c r : Nat} (hcr : CO c r) (a2 : Int32) (M : zM) : zX (t_X10_followAgenda g) 2 [some (.ref 6), some (.ref c), some (.int a2)] [] M = (bif cLt a2 (M.1 20 4) then (bif zb a2 16 then (bif cEq (M.1 21 (zx a2)) (M.1 c 10) then (bif zb a2 16 then (bif cEq (M.1 22 (zx a2)) 5 then (zbV (X_X3_tapAll g [.ref c] M) (fun M1 => zX (t_X10_followAgenda g) 2 [some (.ref 6), some (.ref c), some (.int (a2 + 1))] [] M1)) else (bif zb a2 16 then (bif zb a2 16 then (bif zb a2 16 then (zbI (X_X3_allows g [.ref c, .int (M.1 22 (zx a2)), .int (M.1 23 (zx a2)), .int (M.1 24 (zx a2))] M) (fun x2 M2 => (bif cEq0 x2 then zX (t_X10_followAgenda g) 2 [some (.ref 6), some (.ref c), some (.int (a2 + 1))] [] M2 else (bif zb a2 16 then (bif zb a2 16 then (bif zb a2 16 then (zbV (X_X10_carryOut g [.ref 6, .ref c, .int (M2.1 22 (zx a2)), .int (M2.1 23 (zx a2)), .int (M2.1 24 (zx a2))] M2) (fun M3 => zX (t_X10_followAgenda g) 2 [some (.ref 6), some (.ref c), some (.int (a2 + 1))] [] M3)) else none) else none) else none)))) else none) else none) else none)) else none) else zX (t_X10_followAgenda g) 2 [some (.ref 6), some (.ref c), some (.int (a2 + 1))] [] M) else none) else some (none, M)) := by
  rcases hcr with ⟨rfl, rfl⟩ | ⟨rfl, rfl⟩
  · exact e_X10_followAgenda_2 g a2 M
  · exact e_X10_followAgenda_2_1 g a2 M
theorem k_X3_draw_0 (g : zg) {c r : Nat} (hcr : CO c r) (a1 : Int32) (M : zM) : X_X3_draw g [.ref c, .int a1] M = (bif cGt0 a1 then (bif !decide (a1 = 0) then some (some (.int ((zushr ((1664525 * (M.1 c 3)) + 1013904223) 8) - (zushr ((1664525 * (M.1 c 3)) + 1013904223) 8) / a1 * a1)), ((zu M.1 c 3 ((1664525 * (M.1 c 3)) + 1013904223)), M.2)) else none) else some (some (.int 0), ((zu M.1 c 3 ((1664525 * (M.1 c 3)) + 1013904223)), M.2))) := by
  rcases hcr with ⟨rfl, rfl⟩ | ⟨rfl, rfl⟩
  · exact x_X3_draw_0 g a1 M
  · exact x_X3_draw_0_1 g a1 M
theorem k_X10_freeWord_0 (g : zg) {c r : Nat} (hcr : CO c r) (a2 : Int32) (M : zM) : X_X10_freeWord g [.ref 6, .ref c, .int a2] M = (zbI (X_X10_tellBy g [.ref 6, .ref c, .int a2] M) (fun x1 M1 => (bif cEq0 (M1.1 c 0) then zX (t_X10_freeWord g) 24 [none, some (.ref c), none, some (.int x1), none] [.int 0] M1 else (zbI (X_X10_errBy g [.ref 6, .ref c, .int a2] M1) (fun x2 M2 => zX (t_X10_freeWord g) 24 [none, some (.ref c), none, some (.int x1), none] [.int x2] M2))))) := by
  rcases hcr with ⟨rfl, rfl⟩ | ⟨rfl, rfl⟩
  · exact x_X10_freeWord_0 g a2 M
  · exact x_X10_freeWord_0_1 g a2 M
theorem k_X10_freeWord_24 (g : zg) {c r : Nat} (hcr : CO c r) (a3 : Int32) (s0 : Int32) (M : zM) : zX (t_X10_freeWord g) 24 [none, some (.ref c), none, some (.int a3), none] [.int s0] M = (bif cGt0 s0 then (zbI (X_X3_draw g [.ref c, .int 1000] M) (fun x1 M1 => (bif cLt x1 s0 then (zbI (X_X3_draw g [.ref c, .int 2] M1) (fun x2 M2 => (bif cEq0 x2 then (zbI (X_X11_hold g [.int (a3 + (-1)), .int 0, .int 4] M2) (fun x3 M3 => some (some (.int x3), M3))) else (zbI (X_X11_hold g [.int (a3 + 1), .int 0, .int 4] M2) (fun x4 M4 => some (some (.int x4), M4)))))) else (zbI (X_X11_hold g [.int a3, .int 0, .int 4] M1) (fun x5 M5 => some (some (.int x5), M5)))))) else (zbI (X_X11_hold g [.int a3, .int 0, .int 4] M) (fun x6 M6 => some (some (.int x6), M6)))) := by
  rcases hcr with ⟨rfl, rfl⟩ | ⟨rfl, rfl⟩
  · exact e_X10_freeWord_24 g a3 s0 M
  · exact e_X10_freeWord_24_1 g a3 s0 M
theorem k_X10_tellAll_0 (g : zg) {c r : Nat} (hcr : CO c r) (M : zM) : X_X10_tellAll g [.ref 6, .ref c] M = zX (t_X10_tellAll g) 4 [some (.ref 6), some (.ref c), some (.int 0), some (.int 0), none] [] M := by
  rcases hcr with ⟨rfl, rfl⟩ | ⟨rfl, rfl⟩
  · exact x_X10_tellAll_0 g M
  · exact x_X10_tellAll_0_1 g M
theorem k_X10_tellAll_4 (g : zg) {c r : Nat} (hcr : CO c r) (a2 : Int32) (a3 : Int32) (M : zM) : zX (t_X10_tellAll g) 4 [some (.ref 6), some (.ref c), some (.int a2), some (.int a3), none] [] M = (bif cLt a3 (M.1 c 2) then (zbI (X_X3_serving g [.ref c, .int a3] M) (fun x1 M1 => (bif cEq0 x1 then (zbV (X_X3_put g [.ref c, .int a3, .int 6, .int (-1)] M1) (fun M2 => zX (t_X10_tellAll g) 4 [some (.ref 6), some (.ref c), some (.int a2), some (.int (a3 + 1)), none] [] M2)) else (zbI (X_X3_get g [.ref c, .int a3, .int 3] M1) (fun x3 M3 => (bif cEq x3 (-1) then (zbI (X_X10_freeWord g [.ref 6, .ref c, .int a3] M3) (fun x4 M4 => (zbV (X_X3_put g [.ref c, .int a3, .int 6, .int x4] M4) (fun M5 => zX (t_X10_tellAll g) 4 [some (.ref 6), some (.ref c), some (.int 1), some (.int (a3 + 1)), none] [] M5)))) else (zbV (X_X3_put g [.ref c, .int a3, .int 6, .int x3] M3) (fun M6 => zX (t_X10_tellAll g) 4 [some (.ref 6), some (.ref c), some (.int 1), some (.int (a3 + 1)), none] [] M6)))))))) else (bif cEq (a2 &&& 1) a2 then some (some (.int a2), M) else none)) := by
  rcases hcr with ⟨rfl, rfl⟩ | ⟨rfl, rfl⟩
  · exact e_X10_tellAll_4 g a2 a3 M
  · exact e_X10_tellAll_4_1 g a2 a3 M
theorem k_X10_moveGlass_0 (g : zg) {c r : Nat} (hcr : CO c r) (M : zM) : X_X10_moveGlass g [.ref 6, .ref c] M = (zbI (X_X7_moveOn g [.ref 17, .int (M.1 c 10)] M) (fun x1 M1 => (bif cEq0 (M1.1 c 0) then (zbI (X_X11_hold g [.int ((M.1 c 4) + x1), .int 0, .int 99] M1) (fun x2 M2 => some (none, ((zu M2.1 c 4 x2), M2.2)))) else (bif cGt0 (M1.1 c 5) then (zbI (X_X3_draw g [.ref c, .int 1000] M1) (fun x3 M3 => (bif cLt x3 (M3.1 c 5) then (zbI (X_X3_draw g [.ref c, .int 21] M3) (fun x4 M4 => (zbI (X_X11_hold g [.int (((M.1 c 4) + x1) + (x4 - 10)), .int 0, .int 99] M4) (fun x5 M5 => some (none, ((zu M5.1 c 4 x5), M5.2)))))) else (zbI (X_X11_hold g [.int ((M.1 c 4) + x1), .int 0, .int 99] M3) (fun x6 M6 => some (none, ((zu M6.1 c 4 x6), M6.2))))))) else (zbI (X_X11_hold g [.int ((M.1 c 4) + x1), .int 0, .int 99] M1) (fun x7 M7 => some (none, ((zu M7.1 c 4 x7), M7.2)))))))) := by
  rcases hcr with ⟨rfl, rfl⟩ | ⟨rfl, rfl⟩
  · exact x_X10_moveGlass_0 g M
  · exact x_X10_moveGlass_0_1 g M
theorem k_X5_add_0 (g : zg) {c r : Nat} (hcr : CO c r) (M : zM) : X_X5_add g [.ref 27, .ref c] M = (zbI (X_J9_floorMod_7cf53 g [.int (M.1 c 12), .int 96] M) (fun x1 M1 => (zbI (X_X3_kind g [.ref c] M1) (fun x2 M2 => (bif zb x1 96 then zX (t_X5_add g) 22 [some (.ref 27), some (.ref c), some (.int x1), some (.int 0)] [] ((zu M2.1 28 (zx x1) x2), M2.2) else none))))) := by
  rcases hcr with ⟨rfl, rfl⟩ | ⟨rfl, rfl⟩
  · exact x_X5_add_0 g M
  · exact x_X5_add_0_1 g M
theorem k_X5_add_22 (g : zg) {c r : Nat} (hcr : CO c r) (a2 : Int32) (a3 : Int32) (M : zM) : zX (t_X5_add g) 22 [some (.ref 27), some (.ref c), some (.int a2), some (.int a3)] [] M = (bif cLt a3 10 then (zbI (X_X3_get g [.ref c, .int a3, .int 6] M) (fun x1 M1 => (bif zb ((a2 * 10) + a3) 960 then zX (t_X5_add g) 22 [some (.ref 27), some (.ref c), some (.int a2), some (.int (a3 + 1))] [] ((zu M1.1 29 (zx ((a2 * 10) + a3)) x1), M1.2) else none))) else some (none, ((zu M.1 c 12 ((M.1 c 12) + 1)), M.2))) := by
  rcases hcr with ⟨rfl, rfl⟩ | ⟨rfl, rfl⟩
  · exact e_X5_add_22 g a2 a3 M
  · exact e_X5_add_22_1 g a2 a3 M
theorem k_X3_addStand_0 (g : zg) {c r : Nat} (hcr : CO c r) (a1 : Int32) (a2 : Int32) (M : zM) : X_X3_addStand g [.ref c, .int a1, .int a2] M = (zbI (X_X3_get g [.ref c, .int a1, .int 4] M) (fun x1 M1 => (zbI (X_X11_hold g [.int (x1 + a2), .int (-999), .int 999] M1) (fun x2 M2 => (zbV (X_X3_put g [.ref c, .int a1, .int 4, .int x2] M2) (fun M3 => some (none, M3))))))) := by
  rcases hcr with ⟨rfl, rfl⟩ | ⟨rfl, rfl⟩
  · exact x_X3_addStand_0 g a1 a2 M
  · exact x_X3_addStand_0_1 g a1 a2 M
theorem k_X10_blameAll_0 (g : zg) {c r : Nat} (hcr : CO c r) (M : zM) : X_X10_blameAll g [.ref 6, .ref c] M = zX (t_X10_blameAll g) 7 [some (.ref 6), some (.ref c), some (.int (-1)), some (.int 0), some (.int 0), none] [] M := by
  rcases hcr with ⟨rfl, rfl⟩ | ⟨rfl, rfl⟩
  · exact x_X10_blameAll_0 g M
  · exact x_X10_blameAll_0_1 g M
theorem k_X10_blameAll_7 (g : zg) {c r : Nat} (hcr : CO c r) (a2 : Int32) (a3 : Int32) (a4 : Int32) (M : zM) : zX (t_X10_blameAll g) 7 [some (.ref 6), some (.ref c), some (.int a2), some (.int a3), some (.int a4), none] [] M = (bif cLt a4 (M.1 c 2) then (zbI (X_X3_serving g [.ref c, .int a4] M) (fun x1 M1 => (bif cEq0 x1 then zX (t_X10_blameAll g) 7 [some (.ref 6), some (.ref c), some (.int a2), some (.int a3), some (.int (a4 + 1)), none] [] M1 else (zbI (X_X3_get g [.ref c, .int a4, .int 6] M1) (fun x2 M2 => (zbI (X_X3_kind g [.ref c] M2) (fun x3 M3 => (bif cEq x2 x3 then (zbV (X_X3_addStand g [.ref c, .int a4, .int 1] M3) (fun M4 => (bif cEq a2 (-1) then zX (t_X10_blameAll g) 7 [some (.ref 6), some (.ref c), some (.int a4), some (.int (a3 + 1)), some (.int (a4 + 1)), none] [] M4 else zX (t_X10_blameAll g) 7 [some (.ref 6), some (.ref c), some (.int a2), some (.int (a3 + 1)), some (.int (a4 + 1)), none] [] M4))) else (zbI (X_X10_blameBy g [.ref 6, .ref c, .int a4, .int x2] M3) (fun x5 M5 => (zbV (X_X3_addStand g [.ref c, .int a4, .int (-x5)] M5) (fun M6 => zX (t_X10_blameAll g) 7 [some (.ref 6), some (.ref c), some (.int a2), some (.int a3), some (.int (a4 + 1)), none] [] M6)))))))))))) else (bif cEq a2 (-1) then some (none, M) else (zbV (X_X1_write g [.ref 25, .ref c, .int 1, .int a2, .int a3] M) (fun M7 => some (none, M7))))) := by
  rcases hcr with ⟨rfl, rfl⟩ | ⟨rfl, rfl⟩
  · exact e_X10_blameAll_7 g a2 a3 a4 M
  · exact e_X10_blameAll_7_1 g a2 a3 a4 M
theorem k_X10_floodAny_0 (g : zg) {c r : Nat} (hcr : CO c r) (M : zM) : X_X10_floodAny g [.ref 6, .ref c] M = (zbI (X_X3_kind g [.ref c] M) (fun x1 M1 => (bif cEq0 x1 then (bif cEq (M1.1 c 7) (-1) then some (none, M1) else (zbI (X_X3_get g [.ref c, .int (M1.1 c 7), .int 6] M1) (fun x2 M2 => (bif cLt x2 2 then some (none, M2) else (zbV (X_X3_addStand g [.ref c, .int (M2.1 c 7), .int (-20)] ((zu M2.1 c 8 ((M2.1 c 8) + 1)), M2.2)) (fun M3 => (zbI (X_X3_get g [.ref c, .int (M3.1 c 7), .int 4] M3) (fun x4 M4 => (zbV (X_X1_write g [.ref 25, .ref c, .int 2, .int (M3.1 c 7), .int x4] M4) (fun M5 => some (none, M5))))))))))) else some (none, M1)))) := by
  rcases hcr with ⟨rfl, rfl⟩ | ⟨rfl, rfl⟩
  · exact x_X10_floodAny_0 g M
  · exact x_X10_floodAny_0_1 g M
theorem k_X10_fallAny_0 (g : zg) {c r : Nat} (hcr : CO c r) (M : zM) : X_X10_fallAny g [.ref 6, .ref c] M = (bif cEq (M.1 c 7) (-1) then some (some (.int (-1)), M) else (zbI (X_X3_get g [.ref c, .int (M.1 c 7), .int 4] M) (fun x1 M1 => (bif cLt x1 (M1.1 c 6) then (zbV (X_X3_put g [.ref c, .int (M.1 c 7), .int 5, .int 1] M1) (fun M2 => (zbI (X_X3_get g [.ref c, .int (M.1 c 7), .int 4] ((zu M2.1 c 7 (-1)), M2.2)) (fun x3 M3 => (zbV (X_X1_write g [.ref 25, .ref c, .int 3, .int (M.1 c 7), .int x3] M3) (fun M4 => some (some (.int (M.1 c 7)), M4))))))) else some (some (.int (-1)), M1))))) := by
  rcases hcr with ⟨rfl, rfl⟩ | ⟨rfl, rfl⟩
  · exact x_X10_fallAny_0 g M
  · exact x_X10_fallAny_0_1 g M
theorem k_X3_bestStanding_0 (g : zg) {c r : Nat} (hcr : CO c r) (M : zM) : X_X3_bestStanding g [.ref c] M = zX (t_X3_bestStanding g) 4 [some (.ref c), some (.int (-1)), some (.int 0)] [] M := by
  rcases hcr with ⟨rfl, rfl⟩ | ⟨rfl, rfl⟩
  · exact x_X3_bestStanding_0 g M
  · exact x_X3_bestStanding_0_1 g M
theorem k_X3_bestStanding_4 (g : zg) {c r : Nat} (hcr : CO c r) (a1 : Int32) (a2 : Int32) (M : zM) : zX (t_X3_bestStanding g) 4 [some (.ref c), some (.int a1), some (.int a2)] [] M = (bif cLt a2 (M.1 c 2) then (zbI (X_X3_serving g [.ref c, .int a2] M) (fun x1 M1 => (bif cEq0 x1 then zX (t_X3_bestStanding g) 4 [some (.ref c), some (.int a1), some (.int (a2 + 1))] [] M1 else (bif cEq a1 (-1) then zX (t_X3_bestStanding g) 4 [some (.ref c), some (.int a2), some (.int (a2 + 1))] [] M1 else (zbI (X_X3_get g [.ref c, .int a2, .int 4] M1) (fun x2 M2 => (zbI (X_X3_get g [.ref c, .int a1, .int 4] M2) (fun x3 M3 => (bif cGt x2 x3 then zX (t_X3_bestStanding g) 4 [some (.ref c), some (.int a2), some (.int (a2 + 1))] [] M3 else zX (t_X3_bestStanding g) 4 [some (.ref c), some (.int a1), some (.int (a2 + 1))] [] M3))))))))) else some (some (.int a1), M)) := by
  rcases hcr with ⟨rfl, rfl⟩ | ⟨rfl, rfl⟩
  · exact e_X3_bestStanding_4 g a1 a2 M
  · exact e_X3_bestStanding_4_1 g a1 a2 M
theorem k_X10_nameAny_0 (g : zg) {c r : Nat} (hcr : CO c r) (M : zM) : X_X10_nameAny g [.ref 6, .ref c] M = (bif cEq (M.1 c 7) (-1) then (zbI (X_X3_bestStanding g [.ref c] M) (fun x1 M1 => (bif cEq x1 (-1) then some (none, ((zu M1.1 c 7 x1), M1.2)) else (zbV (X_X1_write g [.ref 25, .ref c, .int 4, .int x1, .int 0] ((zu M1.1 c 7 x1), M1.2)) (fun M2 => some (none, M2)))))) else some (none, M)) := by
  rcases hcr with ⟨rfl, rfl⟩ | ⟨rfl, rfl⟩
  · exact x_X10_nameAny_0 g M
  · exact x_X10_nameAny_0_1 g M
theorem k_X10_pass_0 (g : zg) {c r : Nat} (hcr : CO c r) (M : zM) : X_X10_pass g [.ref 6, .ref c] M = (zbV (X_X10_followAgenda g [.ref 6, .ref c] M) (fun M1 => (zbI (X_X10_tellAll g [.ref 6, .ref c] M1) (fun x2 M2 => (zbV (X_X10_moveGlass g [.ref 6, .ref c] M2) (fun M3 => (zbI (X_X3_kind g [.ref c] M3) (fun x4 M4 => (zbV (X_X1_write g [.ref 25, .ref c, .int 0, .int x4, .int (M4.1 c 4)] M4) (fun M5 => (bif cEq0 x2 then (zbV (X_X10_blameAll g [.ref 6, .ref c] M5) (fun M6 => (zbV (X_X10_floodAny g [.ref 6, .ref c] M6) (fun M7 => (zbI (X_X10_fallAny g [.ref 6, .ref c] M7) (fun x8 M8 => (zbV (X_X10_nameAny g [.ref 6, .ref c] M8) (fun M9 => some (some (.int x8), ((zu M9.1 c 10 ((M9.1 c 10) + 1)), M9.2)))))))))) else (bif cEq0 (M5.1 c 0) then (zbV (X_X10_blameAll g [.ref 6, .ref c] M5) (fun M10 => (zbV (X_X10_floodAny g [.ref 6, .ref c] M10) (fun M11 => (zbI (X_X10_fallAny g [.ref 6, .ref c] M11) (fun x12 M12 => (zbV (X_X10_nameAny g [.ref 6, .ref c] M12) (fun M13 => some (some (.int x12), ((zu M13.1 c 10 ((M13.1 c 10) + 1)), M13.2)))))))))) else (zbV (X_X5_add g [.ref 27, .ref c] M5) (fun M14 => (zbV (X_X10_blameAll g [.ref 6, .ref c] M14) (fun M15 => (zbV (X_X10_floodAny g [.ref 6, .ref c] M15) (fun M16 => (zbI (X_X10_fallAny g [.ref 6, .ref c] M16) (fun x17 M17 => (zbV (X_X10_nameAny g [.ref 6, .ref c] M17) (fun M18 => some (some (.int x17), ((zu M18.1 c 10 ((M18.1 c 10) + 1)), M18.2)))))))))))))))))))))))) := by
  rcases hcr with ⟨rfl, rfl⟩ | ⟨rfl, rfl⟩
  · exact x_X10_pass_0 g M
  · exact x_X10_pass_0_1 g M
