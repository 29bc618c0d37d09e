/-! PURE ROWS: rounds that were read are taken, the class -/
def tkR (I : zI) : zI := zcp (zcp (zu (zu I 17 3 (I 64 3)) 17 2 (I 64 2)) 65 18 (zx 12)) 66 19 (zx 12)
theorem takR_s (g : zg) (M : zM) : X_X7_take g [.ref 17, .ref 64] M = some (none, (tkR M.1, M.2)) := by
  rw [x_X7_take_0]
  rfl
theorem tkR_ne {I : zI} {a : Nat} (ha : a < 17 ∨ 19 < a) : tkR I a = I a := by
  unfold tkR
  rw [zcp_n (by omega), zcp_n (by omega), zu_ne (by omega), zu_ne (by omega)]
theorem tkR_RO {n : Nat} {la : Nat → Nat} {mv : Nat → Int32} {I J J' : zI} (h : RS n la mv I J) (h35 : J' 72 35 = nI n) (h89 : ∀ x, x < 2 * n → J' 89 x = J 89 (24 + x)) : RO n la mv (tkR I) J' := by
  obtain ⟨z1, z2, z3, z4⟩ := h
  refine ⟨z1, ?_, h35, ?_, fun i hi => ?_⟩
  · unfold tkR
    rw [zcp_n (by omega), zcp_n (by omega), zu_ne2 (by omega), zu_eq]
    exact z2
  · unfold tkR
    rw [zcp_n (by omega), zcp_n (by omega), zu_eq]
    exact z3
  · obtain ⟨y1, y2, y3, y4, y5⟩ := z4 i hi
    refine ⟨y1, ?_, ?_, ?_, ?_⟩
    · unfold tkR
      rw [zcp_n (by omega), zcp_at, show zx 12 = 12 from by decide, if_pos (by omega), zu_ne1 (by omega), zu_ne1 (by omega)]
      exact y2
    · rw [h89 _ (by omega)]
      exact y3
    · unfold tkR
      rw [zcp_at, show zx 12 = 12 from by decide, if_pos (by omega), zcp_n (by omega), zu_ne1 (by omega), zu_ne1 (by omega)]
      exact y4
    · rw [h89 _ (by omega), show 24 + (2 * i + 1) = 24 + 2 * i + 1 from by omega]
      exact y5
