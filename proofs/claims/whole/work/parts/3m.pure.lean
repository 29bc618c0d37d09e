/-! PURE ROWS: a court taken whole -/
theorem zcp_at {I : zI} {a b n k : Nat} : zcp I a b n b k = if k < n then I a k else I b k := by
  unfold zcp zr
  simp
theorem tk_row {I : zI} {a ar b br k : Nat} (h : ar ≠ a) (hk : k < 70) : tkI I a ar b br ar k = I br k := by
  unfold tkI
  rw [zu_ne h, zu_ne h, zu_ne h, zu_ne h, zu_ne h, zu_ne h, zu_ne h, zu_ne h, zu_ne h, zu_ne h, zu_ne h, zcp_at, show zx 70 = 70 from by decide, if_pos hk]
theorem tk_fld {I : zI} {a ar b br k : Nat} (h2 : 2 ≤ k) (hk : k ≤ 12) : tkI I a ar b br a k = I b k := by
  have hk' : k = 2 ∨ k = 3 ∨ k = 4 ∨ k = 5 ∨ k = 6 ∨ k = 7 ∨ k = 8 ∨ k = 9 ∨ k = 10 ∨ k = 11 ∨ k = 12 := by omega
  unfold tkI
  rcases hk' with rfl | rfl | rfl | rfl | rfl | rfl | rfl | rfl | rfl | rfl | rfl <;> simp [zu_upd, upd1]
/-- a court is alike with whatever the court it was taken from is alike with -/
theorem CR_ext {n : Nat} {cf cr rn md so fe cf' cr' rn' : Nat → Int32} (h : CR n cf cr rn md so fe) (h1 : ∀ k, 2 ≤ k → k ≤ 12 → cf' k = cf k) (h2 : ∀ k, k < 70 → cr' k = cr k) (h3 : ∀ k, k < 58 → rn' k = rn k) : CR n cf' cr' rn' md so fe := by
  obtain ⟨hn, a1, a2, a3, a4, a5, a6, a7, a8, a9, a10, a11, hc, he⟩ := h
  refine ⟨hn, ?_, a2, ?_, ?_, ?_, ?_, ?_, ?_, ?_, ?_, ?_, ?_, ?_⟩
  · rw [h1 _ (by omega) (by omega)]; exact a1
  · rw [h1 _ (by omega) (by omega), h3 _ (by omega)]; exact a3
  · rw [h1 _ (by omega) (by omega), h3 _ (by omega)]; exact a4
  · rw [h1 _ (by omega) (by omega)]; exact a5
  · rw [h1 _ (by omega) (by omega)]; exact a6
  · rw [h1 _ (by omega) (by omega), h3 _ (by omega)]; exact a7
  · rw [h1 _ (by omega) (by omega), h3 _ (by omega)]; exact a8
  · rw [h1 _ (by omega) (by omega), h3 _ (by omega)]; exact a9
  · rw [h1 _ (by omega) (by omega), h3 _ (by omega)]; exact a10
  · rw [h1 _ (by omega) (by omega), h3 _ (by omega)]; exact a11
  · intro t ht k hk
    rw [h2 _ (by omega), hc t ht k hk]
    unfold rcell
    by_cases k0 : k = 0
    · rw [if_pos k0, if_pos k0]
    · by_cases k1 : k = 1
      · rw [if_neg k0, if_pos k1, if_neg k0, if_pos k1]
      · rw [if_neg k0, if_neg k1, if_neg k0, if_neg k1, h3 _ (by omega)]
  · intro t h4 h5 k h6 h7
    rw [h3 _ (by omega)]
    exact he t h4 h5 k h6 h7
