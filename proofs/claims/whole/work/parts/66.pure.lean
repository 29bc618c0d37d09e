/-! PURE ROWS: a world taken by another -/
theorem zcp_n {I : zI} {a b n c : Nat} (h : c ≠ b) : zcp I a b n c = I c := zr_ne h
def wt3 (s d : Nat) (I : zI) : zI := tkI I (d + 7) (d + 8) (s + 7) (s + 8)
def wt4 (s d : Nat) (I : zI) : zI := zcp (zcp (zcp (zcp (zcp (zu (zu I (d + 9) 8 (I (s + 9) 8)) (d + 9) 7 (I (s + 9) 7)) (s + 10) (d + 10) (zx 16)) (s + 11) (d + 11) (zx 16)) (s + 12) (d + 12) (zx 16)) (s + 13) (d + 13) (zx 16)) (s + 14) (d + 14) (zx 400)
def wt7 (s d : Nat) (I : zI) : zI := zcp (zcp (zu (zu I (d + 17) 3 (I (s + 17) 3)) (d + 17) 2 (I (s + 17) 2)) (s + 18) (d + 18) (zx 12)) (s + 19) (d + 19) (zx 12)
def wt0 (s d : Nat) (I : zI) : zI := zcp (zcp (zcp (zcp (zu I (d + 20) 4 (I (s + 20) 4)) (s + 21) (d + 21) (zx 16)) (s + 22) (d + 22) (zx 16)) (s + 23) (d + 23) (zx 16)) (s + 24) (d + 24) (zx 16)
def wt1 (s d : Nat) (I : zI) : zI := zcp (I) (s + 26) (d + 26) (zx 600)
def wt5 (s d : Nat) (I : zI) : zI := zcp (zcp (I) (s + 28) (d + 28) (zx 96)) (s + 29) (d + 29) (zx 960)
def wt6 (s d : Nat) (I : zI) : zI := zcp (zcp (zcp (zcp (zcp (zcp (zu (zu (zu I (d + 32) 6 (I (s + 32) 6)) (d + 32) 7 (I (s + 32) 7)) (d + 32) 8 (I (s + 32) 8)) (s + 33) (d + 33) (zx 12)) (s + 34) (d + 34) (zx 20)) (s + 35) (d + 35) (zx 20)) (s + 36) (d + 36) (zx 6)) (s + 37) (d + 37) (zx 6)) (s + 38) (d + 38) (zx 4)
def wtk (s d : Nat) (I : zI) : zI := wt6 s d (wt5 s d (wt1 s d (wt0 s d (wt7 s d (wt4 s d (wt3 s d I))))))
theorem takeW_s (g : zg) (h1 : g.1 = true) (M : zM) : X_X10_take g [.ref 206, .ref 6] M = some (none, (wtk 0 200 M.1, M.2)) := by
  rw [x_X10_take_0 g h1, x_X3_take_0_13 g h1, zbV_s, x_X4_take_0_1 g h1, zbV_s, x_X7_take_0_1 g h1, zbV_s, x_X0_take_0_1 g h1, zbV_s, x_X1_take_0 g h1, zbV_s, x_X5_take_0 g h1, zbV_s, x_X6_take_0 g h1, zbV_s]
  rfl
theorem backW_s (g : zg) (h1 : g.1 = true) (M : zM) : X_X10_take g [.ref 6, .ref 206] M = some (none, (wtk 200 0 M.1, M.2)) := by
  rw [x_X10_take_0_1 g h1, x_X3_take_0_14 g h1, zbV_s, x_X4_take_0_2 g h1, zbV_s, x_X7_take_0_2 g h1, zbV_s, x_X0_take_0_2 g h1, zbV_s, x_X1_take_0_1 g h1, zbV_s, x_X5_take_0_1 g h1, zbV_s, x_X6_take_0_1 g h1, zbV_s]
  rfl
theorem w3_ne {s d c : Nat} {I : zI} (h : c < d + 7 ∨ d + 8 < c) : wt3 s d I c = I c := tk_ne (by omega) (by omega)
theorem w4_ne {s d c : Nat} {I : zI} (h : c < d + 9 ∨ d + 14 < c) : wt4 s d I c = I c := by
  unfold wt4
  rw [zcp_n (by omega), zcp_n (by omega), zcp_n (by omega), zcp_n (by omega), zcp_n (by omega), zu_ne (by omega), zu_ne (by omega)]
theorem w7_ne {s d c : Nat} {I : zI} (h : c < d + 17 ∨ d + 19 < c) : wt7 s d I c = I c := by
  unfold wt7
  rw [zcp_n (by omega), zcp_n (by omega), zu_ne (by omega), zu_ne (by omega)]
theorem w0_ne {s d c : Nat} {I : zI} (h : c < d + 20 ∨ d + 24 < c) : wt0 s d I c = I c := by
  unfold wt0
  rw [zcp_n (by omega), zcp_n (by omega), zcp_n (by omega), zcp_n (by omega), zu_ne (by omega)]
theorem w1_ne {s d c : Nat} {I : zI} (h : c < d + 26 ∨ d + 26 < c) : wt1 s d I c = I c := by
  unfold wt1
  rw [zcp_n (by omega)]
theorem w5_ne {s d c : Nat} {I : zI} (h : c < d + 28 ∨ d + 29 < c) : wt5 s d I c = I c := by
  unfold wt5
  rw [zcp_n (by omega), zcp_n (by omega)]
theorem w6_ne {s d c : Nat} {I : zI} (h : c < d + 32 ∨ d + 38 < c) : wt6 s d I c = I c := by
  unfold wt6
  rw [zcp_n (by omega), zcp_n (by omega), zcp_n (by omega), zcp_n (by omega), zcp_n (by omega), zcp_n (by omega), zu_ne (by omega), zu_ne (by omega), zu_ne (by omega)]
theorem w3_f {s d k : Nat} {I : zI} (h : 2 ≤ k) (h2 : k ≤ 12) : wt3 s d I (d + 7) k = I (s + 7) k := tk_fld h h2
theorem w3_r {s d k : Nat} {I : zI} (h : k < 70) : wt3 s d I (d + 8) k = I (s + 8) k := tk_row (by omega) h
theorem w3_0 {s d : Nat} {I : zI} : wt3 s d I (d + 7) 0 = I (d + 7) 0 := by
  unfold wt3 tkI
  rw [zu_ne2 (by omega), zu_ne2 (by omega), zu_ne2 (by omega), zu_ne2 (by omega), zu_ne2 (by omega), zu_ne2 (by omega), zu_ne2 (by omega), zu_ne2 (by omega), zu_ne2 (by omega), zu_ne2 (by omega), zu_ne2 (by omega), zcp_n (by omega)]
theorem w4_10 {s d k : Nat} {I : zI} (hsd : (s = 0 ∧ d = 200) ∨ (s = 200 ∧ d = 0)) (h : k < 16) : wt4 s d I (d + 10) k = I (s + 10) k := by
  unfold wt4
  rw [zcp_n (by omega), zcp_n (by omega), zcp_n (by omega), zcp_n (by omega), zcp_at, show zx 16 = 16 from by decide, if_pos h, zu_ne (by omega), zu_ne (by omega)]
theorem w4_11 {s d k : Nat} {I : zI} (hsd : (s = 0 ∧ d = 200) ∨ (s = 200 ∧ d = 0)) (h : k < 16) : wt4 s d I (d + 11) k = I (s + 11) k := by
  unfold wt4
  rw [zcp_n (by omega), zcp_n (by omega), zcp_n (by omega), zcp_at, show zx 16 = 16 from by decide, if_pos h, zcp_n (by omega), zu_ne (by omega), zu_ne (by omega)]
theorem w4_12 {s d k : Nat} {I : zI} (hsd : (s = 0 ∧ d = 200) ∨ (s = 200 ∧ d = 0)) (h : k < 16) : wt4 s d I (d + 12) k = I (s + 12) k := by
  unfold wt4
  rw [zcp_n (by omega), zcp_n (by omega), zcp_at, show zx 16 = 16 from by decide, if_pos h, zcp_n (by omega), zcp_n (by omega), zu_ne (by omega), zu_ne (by omega)]
theorem w4_13 {s d k : Nat} {I : zI} (hsd : (s = 0 ∧ d = 200) ∨ (s = 200 ∧ d = 0)) (h : k < 16) : wt4 s d I (d + 13) k = I (s + 13) k := by
  unfold wt4
  rw [zcp_n (by omega), zcp_at, show zx 16 = 16 from by decide, if_pos h, zcp_n (by omega), zcp_n (by omega), zcp_n (by omega), zu_ne (by omega), zu_ne (by omega)]
theorem w4_14 {s d k : Nat} {I : zI} (hsd : (s = 0 ∧ d = 200) ∨ (s = 200 ∧ d = 0)) (h : k < 400) : wt4 s d I (d + 14) k = I (s + 14) k := by
  unfold wt4
  rw [zcp_at, show zx 400 = 400 from by decide, if_pos h, zcp_n (by omega), zcp_n (by omega), zcp_n (by omega), zcp_n (by omega), zu_ne (by omega), zu_ne (by omega)]
theorem w7_18 {s d k : Nat} {I : zI} (hsd : (s = 0 ∧ d = 200) ∨ (s = 200 ∧ d = 0)) (h : k < 12) : wt7 s d I (d + 18) k = I (s + 18) k := by
  unfold wt7
  rw [zcp_n (by omega), zcp_at, show zx 12 = 12 from by decide, if_pos h, zu_ne (by omega), zu_ne (by omega)]
theorem w7_19 {s d k : Nat} {I : zI} (hsd : (s = 0 ∧ d = 200) ∨ (s = 200 ∧ d = 0)) (h : k < 12) : wt7 s d I (d + 19) k = I (s + 19) k := by
  unfold wt7
  rw [zcp_at, show zx 12 = 12 from by decide, if_pos h, zcp_n (by omega), zu_ne (by omega), zu_ne (by omega)]
theorem w0_21 {s d k : Nat} {I : zI} (hsd : (s = 0 ∧ d = 200) ∨ (s = 200 ∧ d = 0)) (h : k < 16) : wt0 s d I (d + 21) k = I (s + 21) k := by
  unfold wt0
  rw [zcp_n (by omega), zcp_n (by omega), zcp_n (by omega), zcp_at, show zx 16 = 16 from by decide, if_pos h, zu_ne (by omega)]
theorem w0_22 {s d k : Nat} {I : zI} (hsd : (s = 0 ∧ d = 200) ∨ (s = 200 ∧ d = 0)) (h : k < 16) : wt0 s d I (d + 22) k = I (s + 22) k := by
  unfold wt0
  rw [zcp_n (by omega), zcp_n (by omega), zcp_at, show zx 16 = 16 from by decide, if_pos h, zcp_n (by omega), zu_ne (by omega)]
theorem w0_23 {s d k : Nat} {I : zI} (hsd : (s = 0 ∧ d = 200) ∨ (s = 200 ∧ d = 0)) (h : k < 16) : wt0 s d I (d + 23) k = I (s + 23) k := by
  unfold wt0
  rw [zcp_n (by omega), zcp_at, show zx 16 = 16 from by decide, if_pos h, zcp_n (by omega), zcp_n (by omega), zu_ne (by omega)]
theorem w0_24 {s d k : Nat} {I : zI} (hsd : (s = 0 ∧ d = 200) ∨ (s = 200 ∧ d = 0)) (h : k < 16) : wt0 s d I (d + 24) k = I (s + 24) k := by
  unfold wt0
  rw [zcp_at, show zx 16 = 16 from by decide, if_pos h, zcp_n (by omega), zcp_n (by omega), zcp_n (by omega), zu_ne (by omega)]
theorem w1_26 {s d k : Nat} {I : zI} (hsd : (s = 0 ∧ d = 200) ∨ (s = 200 ∧ d = 0)) (h : k < 600) : wt1 s d I (d + 26) k = I (s + 26) k := by
  unfold wt1
  rw [zcp_at, show zx 600 = 600 from by decide, if_pos h]
theorem w5_28 {s d k : Nat} {I : zI} (hsd : (s = 0 ∧ d = 200) ∨ (s = 200 ∧ d = 0)) (h : k < 96) : wt5 s d I (d + 28) k = I (s + 28) k := by
  unfold wt5
  rw [zcp_n (by omega), zcp_at, show zx 96 = 96 from by decide, if_pos h]
theorem w5_29 {s d k : Nat} {I : zI} (hsd : (s = 0 ∧ d = 200) ∨ (s = 200 ∧ d = 0)) (h : k < 960) : wt5 s d I (d + 29) k = I (s + 29) k := by
  unfold wt5
  rw [zcp_at, show zx 960 = 960 from by decide, if_pos h, zcp_n (by omega)]
theorem w6_33 {s d k : Nat} {I : zI} (hsd : (s = 0 ∧ d = 200) ∨ (s = 200 ∧ d = 0)) (h : k < 12) : wt6 s d I (d + 33) k = I (s + 33) k := by
  unfold wt6
  rw [zcp_n (by omega), zcp_n (by omega), zcp_n (by omega), zcp_n (by omega), zcp_n (by omega), zcp_at, show zx 12 = 12 from by decide, if_pos h, zu_ne (by omega), zu_ne (by omega), zu_ne (by omega)]
theorem w6_34 {s d k : Nat} {I : zI} (hsd : (s = 0 ∧ d = 200) ∨ (s = 200 ∧ d = 0)) (h : k < 20) : wt6 s d I (d + 34) k = I (s + 34) k := by
  unfold wt6
  rw [zcp_n (by omega), zcp_n (by omega), zcp_n (by omega), zcp_n (by omega), zcp_at, show zx 20 = 20 from by decide, if_pos h, zcp_n (by omega), zu_ne (by omega), zu_ne (by omega), zu_ne (by omega)]
theorem w6_35 {s d k : Nat} {I : zI} (hsd : (s = 0 ∧ d = 200) ∨ (s = 200 ∧ d = 0)) (h : k < 20) : wt6 s d I (d + 35) k = I (s + 35) k := by
  unfold wt6
  rw [zcp_n (by omega), zcp_n (by omega), zcp_n (by omega), zcp_at, show zx 20 = 20 from by decide, if_pos h, zcp_n (by omega), zcp_n (by omega), zu_ne (by omega), zu_ne (by omega), zu_ne (by omega)]
theorem w6_36 {s d k : Nat} {I : zI} (hsd : (s = 0 ∧ d = 200) ∨ (s = 200 ∧ d = 0)) (h : k < 6) : wt6 s d I (d + 36) k = I (s + 36) k := by
  unfold wt6
  rw [zcp_n (by omega), zcp_n (by omega), zcp_at, show zx 6 = 6 from by decide, if_pos h, zcp_n (by omega), zcp_n (by omega), zcp_n (by omega), zu_ne (by omega), zu_ne (by omega), zu_ne (by omega)]
theorem w6_37 {s d k : Nat} {I : zI} (hsd : (s = 0 ∧ d = 200) ∨ (s = 200 ∧ d = 0)) (h : k < 6) : wt6 s d I (d + 37) k = I (s + 37) k := by
  unfold wt6
  rw [zcp_n (by omega), zcp_at, show zx 6 = 6 from by decide, if_pos h, zcp_n (by omega), zcp_n (by omega), zcp_n (by omega), zcp_n (by omega), zu_ne (by omega), zu_ne (by omega), zu_ne (by omega)]
theorem w6_38 {s d k : Nat} {I : zI} (hsd : (s = 0 ∧ d = 200) ∨ (s = 200 ∧ d = 0)) (h : k < 4) : wt6 s d I (d + 38) k = I (s + 38) k := by
  unfold wt6
  rw [zcp_at, show zx 4 = 4 from by decide, if_pos h, zcp_n (by omega), zcp_n (by omega), zcp_n (by omega), zcp_n (by omega), zcp_n (by omega), zu_ne (by omega), zu_ne (by omega), zu_ne (by omega)]
theorem w4_9 {s d : Nat} {I : zI} : wt4 s d I (d + 9) 8 = I (s + 9) 8 := by
  unfold wt4
  rw [zcp_n (by omega), zcp_n (by omega), zcp_n (by omega), zcp_n (by omega), zcp_n (by omega), zu_ne2 (by omega), zu_eq]
theorem w7_17 {s d k : Nat} {I : zI} (h : k = 2 ∨ k = 3) : wt7 s d I (d + 17) k = I (s + 17) k := by
  unfold wt7
  rw [zcp_n (by omega), zcp_n (by omega)]
  rcases h with h | h <;> subst h
  · rw [zu_eq]
  · rw [zu_ne2 (by omega), zu_eq]
theorem w0_20 {s d : Nat} {I : zI} : wt0 s d I (d + 20) 4 = I (s + 20) 4 := by
  unfold wt0
  rw [zcp_n (by omega), zcp_n (by omega), zcp_n (by omega), zcp_n (by omega), zu_eq]
theorem w6_32 {s d k : Nat} {I : zI} (h : k = 6 ∨ k = 7 ∨ k = 8) : wt6 s d I (d + 32) k = I (s + 32) k := by
  unfold wt6
  rw [zcp_n (by omega), zcp_n (by omega), zcp_n (by omega), zcp_n (by omega), zcp_n (by omega), zcp_n (by omega)]
  rcases h with h | h | h <;> subst h
  · rw [zu_ne2 (by omega), zu_ne2 (by omega), zu_eq]
  · rw [zu_ne2 (by omega), zu_eq]
  · rw [zu_eq]
theorem wt_ne {s d c : Nat} {I : zI} (h : c < d + 7 ∨ d + 38 < c ∨ c = d + 15 ∨ c = d + 16 ∨ c = d + 25 ∨ c = d + 27 ∨ c = d + 30 ∨ c = d + 31) : wtk s d I c = I c := by
  unfold wtk
  rw [w6_ne (by omega), w5_ne (by omega), w1_ne (by omega), w0_ne (by omega), w7_ne (by omega), w4_ne (by omega), w3_ne (by omega)]
theorem wt_0 {s d : Nat} {I : zI} : wtk s d I (d + 7) 0 = I (d + 7) 0 := by
  unfold wtk
  rw [w6_ne (by omega), w5_ne (by omega), w1_ne (by omega), w0_ne (by omega), w7_ne (by omega), w4_ne (by omega), w3_0]
theorem wt_cell {s d a k : Nat} {I : zI} (hsd : (s = 0 ∧ d = 200) ∨ (s = 200 ∧ d = 0)) (h : cellC a k) : wtk s d I (d + a) k = I (s + a) k := by
  unfold cellC at h
  unfold wtk
  rcases h with ⟨rfl, u1, u2⟩ | ⟨rfl, u⟩ | ⟨rfl, rfl⟩ | ⟨u1, u2, u⟩ | ⟨rfl, u⟩ | ⟨rfl, u⟩ | ⟨e, u⟩ | ⟨rfl, rfl⟩ | ⟨u1, u2, u⟩ | ⟨rfl, u⟩ | ⟨rfl, u⟩ | ⟨rfl, u⟩ | ⟨rfl, u⟩ | ⟨rfl, u⟩ | ⟨e, u⟩ | ⟨e, u⟩ | ⟨rfl, u⟩
  · rw [w6_ne (by omega), w5_ne (by omega), w1_ne (by omega), w0_ne (by omega), w7_ne (by omega), w4_ne (by omega), w3_f u1 u2]
  · rw [w6_ne (by omega), w5_ne (by omega), w1_ne (by omega), w0_ne (by omega), w7_ne (by omega), w4_ne (by omega), w3_r u]
  · rw [w6_ne (by omega), w5_ne (by omega), w1_ne (by omega), w0_ne (by omega), w7_ne (by omega), w4_9, w3_ne (by omega)]
  · have e : a = 10 ∨ a = 11 ∨ a = 12 ∨ a = 13 := by omega
    rcases e with rfl | rfl | rfl | rfl
    · rw [w6_ne (by omega), w5_ne (by omega), w1_ne (by omega), w0_ne (by omega), w7_ne (by omega), w4_10 hsd u, w3_ne (by omega)]
    · rw [w6_ne (by omega), w5_ne (by omega), w1_ne (by omega), w0_ne (by omega), w7_ne (by omega), w4_11 hsd u, w3_ne (by omega)]
    · rw [w6_ne (by omega), w5_ne (by omega), w1_ne (by omega), w0_ne (by omega), w7_ne (by omega), w4_12 hsd u, w3_ne (by omega)]
    · rw [w6_ne (by omega), w5_ne (by omega), w1_ne (by omega), w0_ne (by omega), w7_ne (by omega), w4_13 hsd u, w3_ne (by omega)]
  · rw [w6_ne (by omega), w5_ne (by omega), w1_ne (by omega), w0_ne (by omega), w7_ne (by omega), w4_14 hsd u, w3_ne (by omega)]
  · rw [w6_ne (by omega), w5_ne (by omega), w1_ne (by omega), w0_ne (by omega), w7_17 u, w4_ne (by omega), w3_ne (by omega)]
  · rcases e with rfl | rfl
    · rw [w6_ne (by omega), w5_ne (by omega), w1_ne (by omega), w0_ne (by omega), w7_18 hsd u, w4_ne (by omega), w3_ne (by omega)]
    · rw [w6_ne (by omega), w5_ne (by omega), w1_ne (by omega), w0_ne (by omega), w7_19 hsd u, w4_ne (by omega), w3_ne (by omega)]
  · rw [w6_ne (by omega), w5_ne (by omega), w1_ne (by omega), w0_20, w7_ne (by omega), w4_ne (by omega), w3_ne (by omega)]
  · have e : a = 21 ∨ a = 22 ∨ a = 23 ∨ a = 24 := by omega
    rcases e with rfl | rfl | rfl | rfl
    · rw [w6_ne (by omega), w5_ne (by omega), w1_ne (by omega), w0_21 hsd u, w7_ne (by omega), w4_ne (by omega), w3_ne (by omega)]
    · rw [w6_ne (by omega), w5_ne (by omega), w1_ne (by omega), w0_22 hsd u, w7_ne (by omega), w4_ne (by omega), w3_ne (by omega)]
    · rw [w6_ne (by omega), w5_ne (by omega), w1_ne (by omega), w0_23 hsd u, w7_ne (by omega), w4_ne (by omega), w3_ne (by omega)]
    · rw [w6_ne (by omega), w5_ne (by omega), w1_ne (by omega), w0_24 hsd u, w7_ne (by omega), w4_ne (by omega), w3_ne (by omega)]
  · rw [w6_ne (by omega), w5_ne (by omega), w1_26 hsd u, w0_ne (by omega), w7_ne (by omega), w4_ne (by omega), w3_ne (by omega)]
  · rw [w6_ne (by omega), w5_28 hsd u, w1_ne (by omega), w0_ne (by omega), w7_ne (by omega), w4_ne (by omega), w3_ne (by omega)]
  · rw [w6_ne (by omega), w5_29 hsd u, w1_ne (by omega), w0_ne (by omega), w7_ne (by omega), w4_ne (by omega), w3_ne (by omega)]
  · rw [w6_32 u, w5_ne (by omega), w1_ne (by omega), w0_ne (by omega), w7_ne (by omega), w4_ne (by omega), w3_ne (by omega)]
  · rw [w6_33 hsd u, w5_ne (by omega), w1_ne (by omega), w0_ne (by omega), w7_ne (by omega), w4_ne (by omega), w3_ne (by omega)]
  · rcases e with rfl | rfl
    · rw [w6_34 hsd u, w5_ne (by omega), w1_ne (by omega), w0_ne (by omega), w7_ne (by omega), w4_ne (by omega), w3_ne (by omega)]
    · rw [w6_35 hsd u, w5_ne (by omega), w1_ne (by omega), w0_ne (by omega), w7_ne (by omega), w4_ne (by omega), w3_ne (by omega)]
  · rcases e with rfl | rfl
    · rw [w6_36 hsd u, w5_ne (by omega), w1_ne (by omega), w0_ne (by omega), w7_ne (by omega), w4_ne (by omega), w3_ne (by omega)]
    · rw [w6_37 hsd u, w5_ne (by omega), w1_ne (by omega), w0_ne (by omega), w7_ne (by omega), w4_ne (by omega), w3_ne (by omega)]
  · rw [w6_38 hsd u, w5_ne (by omega), w1_ne (by omega), w0_ne (by omega), w7_ne (by omega), w4_ne (by omega), w3_ne (by omega)]
