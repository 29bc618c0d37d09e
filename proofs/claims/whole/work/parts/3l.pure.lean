/-! PURE ROWS: look -/
theorem bif_push {c : Bool} {x y : Int32} {M : zM} : (bif c then some (some (Value.int x), M) else some (some (Value.int y), M)) = some (some (Value.int (bif c then x else y)), M) := by cases c <;> rfl
def lkA (L : List Int32) (a : Int32) : Int32 := (bif cEq a 0 then L.getD 0 0 else (bif cEq a 1 then L.getD 1 0 else (bif cEq a 2 then L.getD 2 0 else (bif cEq a 3 then L.getD 3 0 else (bif cEq a 4 then L.getD 4 0 else (bif cEq a 5 then L.getD 5 0 else (bif cEq a 6 then L.getD 6 0 else (bif cEq a 7 then L.getD 7 0 else (bif cEq a 8 then L.getD 8 0 else (bif cEq a 9 then L.getD 9 0 else (bif cEq a 10 then L.getD 10 0 else (bif cEq a 11 then L.getD 11 0 else (bif cEq a 12 then L.getD 12 0 else (bif cEq a 13 then L.getD 13 0 else (bif cEq a 14 then L.getD 14 0 else (bif cEq a 15 then L.getD 15 0 else (bif cEq a 16 then L.getD 16 0 else (bif cEq a 17 then L.getD 17 0 else (bif cEq a 18 then L.getD 18 0 else -100000)))))))))))))))))))
theorem cEq0_cEq (a : Int32) : cEq0 a = cEq a 0 := rfl
theorem lookC_s (g : zg) (a : Int32) {r : Nat} {M : zM} (hr : r < 2147483648) (hc : M.1 7 12 = nI r) : X_X11_look g [.ref 0, .int a] M = some (some (.int (lkA [M.1 7 2, M.1 7 10, M.1 7 4, M.1 7 4 / 20, M.1 7 7, M.1 7 8, M.1 7 9, M.1 7 5, M.1 7 6, M.1 7 11, M.1 7 3, M.1 9 8, M.1 17 3, M.1 20 4, M.1 32 6, M.1 32 7, M.1 32 8, M.1 42 2, nI (min r 90)] a)), M) := by
  rw [x_X11_look_0, x_X3_kind_0, zbI_s, kept_s g hr hc, zbI_s]
  simp only [bif_push]
  rfl
theorem lookM_s (g : zg) (a : Int32) {M : zM} : X_X12_look g [.ref 72, .int a] M = some (some (.int (lkA [M.1 72 6, M.1 73 0, M.1 73 3 + 50, (M.1 73 3 + 50) / 20, M.1 73 4 - 1, M.1 73 5, M.1 73 6, M.1 72 7, M.1 72 8 - 10, M.1 73 2, M.1 73 1, M.1 81 0, M.1 72 35, M.1 72 37, M.1 72 43, M.1 72 45, M.1 72 47, M.1 72 3, M.1 73 7] a)), ((zu M.1 72 0 0), M.2)) := by
  rw [x_X12_look_0]
  simp only [x_X12_glass_0, x_X12_kindOf_0, x_X12_minister_0, x_X12_falls_0, zbI_s, zu_ne1 (show 73 ≠ 72 by omega), zu_ne2 (show 8 ≠ 0 by omega), bif_push, cEq0_cEq]
  rfl
