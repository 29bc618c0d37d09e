/-! PURE ROWS: the courts stay alike over state, teller, set -/
/-- the two courts in the memory -/
def CRI (n : Nat) (I : zI) : Prop := CR n (I 7) (I 8) (I 73) (I 72) (I 76) (I 77)
theorem rcell_rn {so fe rn rn' : Nat → Int32} {t k : Nat} (h : ∀ j, 8 ≤ j → rn' j = rn j) (ht : k < 7) : rcell so fe rn' t k = rcell so fe rn t k := by
  unfold rcell
  by_cases k0 : k = 0
  · rw [if_pos k0, if_pos k0]
  · by_cases k1 : k = 1
    · rw [if_neg k0, if_pos k1, if_neg k0, if_pos k1]
    · rw [if_neg k0, if_neg k1, if_neg k0, if_neg k1, h _ (by omega)]
theorem CR_flds {n : Nat} {cf cr rn md so fe cf' rn' md' : Nat → Int32} (h : CR n cf cr rn md so fe) (hr : ∀ j, 8 ≤ j → rn' j = rn j) (b1 : cf' 2 = cf 2) (b2 : md' 6 = md 6) (b3 : cf' 3 = rn' 1) (b4 : cf' 4 = rn' 3 + 50) (b5 : cf' 5 = md' 7) (b6 : cf' 6 = md' 8 - 10) (b7 : cf' 7 = rn' 4 - 1) (b8 : cf' 8 = rn' 5) (b9 : cf' 9 = rn' 6) (b10 : cf' 10 = rn' 0) (b11 : cf' 11 = rn' 2) : CR n cf' cr rn' md' so fe := by
  obtain ⟨hn, a1, a2, a3, a4, a5, a6, a7, a8, a9, a10, a11, hc, he⟩ := h
  refine ⟨hn, b1.trans a1, b2.trans a2, b3, b4, b5, b6, b7, b8, b9, b10, b11, ?_, ?_⟩
  · intro t ht k hk
    rw [hc t ht k hk, rcell_rn hr hk]
  · intro t h1 h2 k h3 h4
    rw [hr _ (by omega)]
    exact he t h1 h2 k h3 h4
theorem CR_md {n : Nat} {cf cr rn md so fe md' : Nat → Int32} (h : CR n cf cr rn md so fe) (h6 : md' 6 = md 6) (h7 : md' 7 = md 7) (h8 : md' 8 = md 8) : CR n cf cr rn md' so fe := by
  obtain ⟨hn, a1, a2, a3, a4, a5, a6, a7, a8, a9, a10, a11, hc, he⟩ := h
  exact ⟨hn, a1, h6.trans a2, a3, a4, a5.trans h7.symm, by rw [h8]; exact a6, a7, a8, a9, a10, a11, hc, he⟩
theorem CRI_of {n : Nat} {I I' : zI} (h : CRI n I) (h7 : I' 7 = I 7) (h8 : I' 8 = I 8) (h73 : I' 73 = I 73) (h76 : I' 76 = I 76) (h77 : I' 77 = I 77) (m6 : I' 72 6 = I 72 6) (m7 : I' 72 7 = I 72 7) (m8 : I' 72 8 = I 72 8) : CRI n I' := by
  unfold CRI
  rw [h7, h8, h73, h76, h77]
  exact CR_md h m6 m7 m8
theorem CRI_n {n : Nat} {I : zI} (h : CRI n I) : n ≤ 10 ∧ I 7 2 = nI n ∧ I 72 6 = nI n := ⟨h.1, h.2.1, h.2.2.1⟩
theorem sub_add50 (a : Int32) : a = a - 50 + 50 := (Int32.sub_add_cancel a 50).symm
theorem add_sub10 (a : Int32) : a = a + 10 - 10 := (Int32.add_sub_cancel a 10).symm
theorem CR_state {n : Nat} {cf cr rn md so fe : Nat → Int32} (h : CR n cf cr rn md so fe) (v : Int32) : CR n (upd1 cf 3 v) cr (upd1 rn 1 v) md so fe := by
  obtain ⟨hn, a1, a2, a3, a4, a5, a6, a7, a8, a9, a10, a11, hc, he⟩ := id h
  refine CR_flds h (fun j hj => upd1_ne (by omega)) ?_ ?_ ?_ ?_ ?_ ?_ ?_ ?_ ?_ ?_ ?_ <;> simp [upd1] <;> assumption
theorem CR_glass {n : Nat} {cf cr rn md so fe : Nat → Int32} (h : CR n cf cr rn md so fe) (v : Int32) : CR n (upd1 cf 4 v) cr (upd1 rn 3 (v - 50)) md so fe := by
  obtain ⟨hn, a1, a2, a3, a4, a5, a6, a7, a8, a9, a10, a11, hc, he⟩ := id h
  refine CR_flds h (fun j hj => upd1_ne (by omega)) ?_ ?_ ?_ ?_ ?_ ?_ ?_ ?_ ?_ ?_ ?_ <;> first | exact sub_add50 v | (simp [upd1]; assumption) | simp [upd1]
theorem CR_gusts {n : Nat} {cf cr rn md so fe : Nat → Int32} (h : CR n cf cr rn md so fe) (v : Int32) : CR n (upd1 cf 5 v) cr rn (upd1 md 7 v) so fe := by
  obtain ⟨hn, a1, a2, a3, a4, a5, a6, a7, a8, a9, a10, a11, hc, he⟩ := id h
  refine CR_flds h (fun j hj => rfl) ?_ ?_ ?_ ?_ ?_ ?_ ?_ ?_ ?_ ?_ ?_ <;> first | (simp [upd1]; assumption) | simp [upd1]
theorem CR_falls {n : Nat} {cf cr rn md so fe : Nat → Int32} (h : CR n cf cr rn md so fe) (v : Int32) : CR n (upd1 cf 6 v) cr rn (upd1 md 8 (v + 10)) so fe := by
  obtain ⟨hn, a1, a2, a3, a4, a5, a6, a7, a8, a9, a10, a11, hc, he⟩ := id h
  refine CR_flds h (fun j hj => rfl) ?_ ?_ ?_ ?_ ?_ ?_ ?_ ?_ ?_ ?_ ?_ <;> first | exact add_sub10 v | (simp [upd1]; assumption) | simp [upd1]
theorem CR_fear {n : Nat} {cf cr rn md so fe : Nat → Int32} (h : CR n cf cr rn md so fe) {t : Nat} (ht : t < n) (v : Int32) : CR n cf (upd1 cr (7 * t + 1) v) rn md so (upd1 fe t v) := by
  obtain ⟨hn, a1, a2, a3, a4, a5, a6, a7, a8, a9, a10, a11, hc, he⟩ := h
  refine ⟨hn, a1, a2, a3, a4, a5, a6, a7, a8, a9, a10, a11, ?_, he⟩
  intro t' ht' k' hk'
  by_cases hs : t' = t ∧ k' = 1
  · obtain ⟨rfl, rfl⟩ := hs
    rw [upd1_eq]
    unfold rcell
    rw [if_neg (by omega), if_pos rfl, upd1_eq]
  · rw [upd1_ne (by omega), hc t' ht' k' hk']
    unfold rcell
    by_cases k0 : k' = 0
    · rw [if_pos k0, if_pos k0]
    · by_cases k1 : k' = 1
      · rw [if_neg k0, if_pos k1, if_neg k0, if_pos k1, upd1_ne (by omega)]
      · rw [if_neg k0, if_neg k1, if_neg k0, if_neg k1]
theorem CR_teller {n : Nat} {cf cr rn md so fe : Nat → Int32} (h : CR n cf cr rn md so fe) (hn : n < 10) (s f : Int32) : CR (n + 1) (upd1 cf 2 (nI (n + 1))) (upd1 (upd1 (upd1 (upd1 (upd1 (upd1 (upd1 cr (7 * n + 0) s) (7 * n + 1) f) (7 * n + 2) 0) (7 * n + 3) (-1)) (7 * n + 4) 0) (7 * n + 5) 0) (7 * n + 6) (-1)) rn (upd1 md 6 (nI (n + 1))) (upd1 so n s) (upd1 fe n f) := by
  obtain ⟨hn', a1, a2, a3, a4, a5, a6, a7, a8, a9, a10, a11, hc, he⟩ := h
  refine ⟨by omega, upd1_eq, upd1_eq, by simp [upd1]; exact a3, by simp [upd1]; exact a4, by simp [upd1]; exact a5, by simp [upd1]; exact a6, by simp [upd1]; exact a7, by simp [upd1]; exact a8, by simp [upd1]; exact a9, by simp [upd1]; exact a10, by simp [upd1]; exact a11, ?_, ?_⟩
  · intro t ht k hk
    by_cases hs : t = n
    · subst hs
      have e2 := he t (by omega) hn 2 (by omega) (by omega)
      have e3 := he t (by omega) hn 3 (by omega) (by omega)
      have e4 := he t (by omega) hn 4 (by omega) (by omega)
      have e5 := he t (by omega) hn 5 (by omega) (by omega)
      have e6 := he t (by omega) hn 6 (by omega) (by omega)
      have hk' : k = 0 ∨ k = 1 ∨ k = 2 ∨ k = 3 ∨ k = 4 ∨ k = 5 ∨ k = 6 := by omega
      rcases hk' with rfl | rfl | rfl | rfl | rfl | rfl | rfl
      · simp [upd1, rcell]
      · simp [upd1, rcell]
      · simp [upd1, rcell]; exact e2.symm
      · simp [upd1, rcell]; rw [show 18 + t = 10 * 3 - 12 + t from rfl, e3]; decide
      · simp [upd1, rcell]; exact e4.symm
      · simp [upd1, rcell]; exact e5.symm
      · simp [upd1, rcell]; rw [show 48 + t = 10 * 6 - 12 + t from rfl, e6]; decide
    · have ht2 : t < n := by omega
      rw [upd1_ne (by omega), upd1_ne (by omega), upd1_ne (by omega), upd1_ne (by omega), upd1_ne (by omega), upd1_ne (by omega), upd1_ne (by omega), hc t ht2 k hk]
      unfold rcell
      rw [upd1_ne hs, upd1_ne hs]
  · intro t h1 h2 k h3 h4
    exact he t (by omega) h2 k h3 h4
