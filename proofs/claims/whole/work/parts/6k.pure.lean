/-! PURE ROWS: what stands next is asked on both sides -/
theorem sg_in {T : Int32} (h : sgC T = true) : T = 59 ∨ T = 43 ∨ T = 45 ∨ T = 42 ∨ T = 47 ∨ T = 40 ∨ T = 41 ∨ T = 60 ∨ T = 61 ∨ T = 62 := by
  have e : ∀ x : Int32, cEq T x = true → T = x := by
    intro x hx
    by_cases q : T = x
    · exact q
    · rw [cEq_n q] at hx
      exact absurd hx (by decide)
  unfold sgC at h
  simp only [Bool.or_eq_true] at h
  rcases h with ((((((((h | h) | h) | h) | h) | h) | h) | h) | h) | h
  · exact Or.inl (e _ h)
  · exact Or.inr (Or.inl (e _ h))
  · exact Or.inr (Or.inr (Or.inl (e _ h)))
  · exact Or.inr (Or.inr (Or.inr (Or.inl (e _ h))))
  · exact Or.inr (Or.inr (Or.inr (Or.inr (Or.inl (e _ h)))))
  · exact Or.inr (Or.inr (Or.inr (Or.inr (Or.inr (Or.inl (e _ h))))))
  · exact Or.inr (Or.inr (Or.inr (Or.inr (Or.inr (Or.inr (Or.inl (e _ h)))))))
  · exact Or.inr (Or.inr (Or.inr (Or.inr (Or.inr (Or.inr (Or.inr (Or.inl (e _ h))))))))
  · exact Or.inr (Or.inr (Or.inr (Or.inr (Or.inr (Or.inr (Or.inr (Or.inr (Or.inl (e _ h)))))))))
  · exact Or.inr (Or.inr (Or.inr (Or.inr (Or.inr (Or.inr (Or.inr (Or.inr (Or.inr (e _ h)))))))))
theorem wd_dec : ∀ j : Fin 3, ∀ a b : Fin 16, a.val < wcn j → b.val < wcn j → cEq (nI (wmp j a)) (nI (wmp j b)) = cEq (128 + nI a) (128 + nI b) := by decide +kernel
theorem wd_far : ∀ b : Fin 16, cEq 0 (128 + nI b) = false ∧ cEq 1 (128 + nI b) = false ∧ cEq (-1) (128 + nI b) = false ∧ (cEq 59 (128 + nI b) = false ∧ cEq 43 (128 + nI b) = false ∧ cEq 45 (128 + nI b) = false ∧ cEq 42 (128 + nI b) = false ∧ cEq 47 (128 + nI b) = false ∧ cEq 40 (128 + nI b) = false ∧ cEq 41 (128 + nI b) = false ∧ cEq 60 (128 + nI b) = false ∧ cEq 61 (128 + nI b) = false ∧ cEq 62 (128 + nI b) = false) ∧ cEq (128 + nI b) 1 = false ∧ cEq0 (128 + nI b) = false := by decide +kernel
theorem TKR_word {j : Nat} (hj : j < 3) {T W K V : Int32} (h : TKR j T W K V) {i : Nat} (hi : i < wcn j) : (cEq K 2 && cEq V (nI (wmp j i))) = cEq T (128 + nI i) := by
  have w := (wcn_len ⟨j, hj⟩).2
  dsimp only at w
  obtain ⟨f0, f1, fm, ⟨g1, g2, g3, g4, g5, g6, g7, g8, g9, g10⟩, _⟩ := wd_far ⟨i, by omega⟩
  dsimp only at f0 f1 fm g1 g2 g3 g4 g5 g6 g7 g8 g9 g10
  rcases h with ⟨h1, h2⟩ | ⟨h1, h2, _⟩ | ⟨h1, h2, _⟩ | ⟨i', h1, h2, h3, h4⟩ | ⟨h1, h2⟩
  · rw [h1, h2, f0]
    rfl
  · rw [h1, h2, f1]
    rfl
  · rw [h2]
    rcases sg_in h1 with h | h | h | h | h | h | h | h | h | h <;> rw [h]
    · rw [g1]; rfl
    · rw [g2]; rfl
    · rw [g3]; rfl
    · rw [g4]; rfl
    · rw [g5]; rfl
    · rw [g6]; rfl
    · rw [g7]; rfl
    · rw [g8]; rfl
    · rw [g9]; rfl
    · rw [g10]; rfl
  · rw [h2, h3, h4]
    have d := wd_dec ⟨j, hj⟩ ⟨i', by omega⟩ ⟨i, by omega⟩ h1 hi
    dsimp only at d
    rw [d]
    rfl
  · rw [h1, fm]
    rcases h2 with h2 | ⟨h2, m, m1, m2, m3⟩
    · rw [h2]
      rfl
    · have wm := (wmp_at ⟨j, hj⟩ ⟨i, by omega⟩ hi).2
      dsimp only at wm
      rw [h2, m2, cEq_nI (by omega) (by omega), decide_eq_false (fun e => m3 i hi e.symm), Bool.and_false]
theorem TKR_sign {j : Nat} (hj : j < 3) {T W K V : Int32} (h : TKR j T W K V) {s : Int32} (hs : sgC s = true) : (cEq K 4 && cEq V s) = cEq T s := by
  rcases h with ⟨h1, h2⟩ | ⟨h1, h2, _⟩ | ⟨h1, h2, h3⟩ | ⟨i, h1, h2, h3, h4⟩ | ⟨h1, h2⟩
  · rw [h1, h2]
    rcases sg_in hs with h | h | h | h | h | h | h | h | h | h <;> rw [h] <;> rfl
  · rw [h1, h2]
    rcases sg_in hs with h | h | h | h | h | h | h | h | h | h <;> rw [h] <;> rfl
  · rw [h2, h3]
    rfl
  · have w := (wcn_len ⟨j, hj⟩).2
    dsimp only at w
    obtain ⟨_, _, _, ⟨g1, g2, g3, g4, g5, g6, g7, g8, g9, g10⟩, _⟩ := wd_far ⟨i, by omega⟩
    dsimp only at g1 g2 g3 g4 g5 g6 g7 g8 g9 g10
    rw [h2, h3, cEq_sym (128 + nI i) s]
    rcases sg_in hs with h | h | h | h | h | h | h | h | h | h <;> rw [h]
    · rw [g1]; rfl
    · rw [g2]; rfl
    · rw [g3]; rfl
    · rw [g4]; rfl
    · rw [g5]; rfl
    · rw [g6]; rfl
    · rw [g7]; rfl
    · rw [g8]; rfl
    · rw [g9]; rfl
    · rw [g10]; rfl
  · rw [h1]
    have e : cEq (-1) s = false := by rcases sg_in hs with h | h | h | h | h | h | h | h | h | h <;> rw [h] <;> rfl
    rw [e]
    rcases h2 with h2 | ⟨h2, _⟩ <;> rw [h2] <;> rfl
theorem TKR_num {j : Nat} (hj : j < 3) {T W K V : Int32} (h : TKR j T W K V) : cEq K 3 = cEq T 1 ∧ (cEq T 1 = true → ∃ v, v < 10000 ∧ W = nI v ∧ V = nI v) := by
  rcases h with ⟨h1, h2⟩ | ⟨h1, h2, h3⟩ | ⟨h1, h2, h3⟩ | ⟨i, h1, h2, h3, h4⟩ | ⟨h1, h2⟩
  · rw [h1, h2]
    exact ⟨rfl, fun c => absurd c (by decide)⟩
  · rw [h1, h2]
    exact ⟨rfl, fun _ => h3⟩
  · have e : cEq T 1 = false := by rcases sg_in h1 with h | h | h | h | h | h | h | h | h | h <;> rw [h] <;> rfl
    rw [e, h2]
    exact ⟨rfl, fun c => absurd c (by decide)⟩
  · have w := (wcn_len ⟨j, hj⟩).2
    dsimp only at w
    have g := (wd_far ⟨i, by omega⟩).2.2.2.2.1
    dsimp only at g
    rw [h2, h3, g]
    exact ⟨rfl, fun c => absurd c (by decide)⟩
  · rw [h1]
    refine ⟨?_, fun c => absurd c (by decide)⟩
    rcases h2 with h2 | ⟨h2, _⟩ <;> rw [h2] <;> rfl
theorem TKR_end {j : Nat} (hj : j < 3) {T W K V : Int32} (h : TKR j T W K V) : cEq0 K = cEq0 T := by
  rcases h with ⟨h1, h2⟩ | ⟨h1, h2, h3⟩ | ⟨h1, h2, h3⟩ | ⟨i, h1, h2, h3, h4⟩ | ⟨h1, h2⟩
  · rw [h1, h2]
  · rw [h1, h2]
    rfl
  · rw [h2, cEq0_n (sg_nz h1)]
    rfl
  · rw [h2, h3, cEq0_n (wd_nz hj h1)]
    rfl
  · rw [h1]
    rcases h2 with h2 | ⟨h2, _⟩ <;> rw [h2] <;> rfl
theorem isWordM_s (g : zg) {j : Nat} {f : Nat → Int32} {L c m : Nat} {I : zI} {N : zM} (hj : j < 3) (h : TKS j f L c m I N.1) {i : Nat} (hi : i < wcn j) {a : Int32} (ha : a = nI (wmp j i)) : X_X12_isWord g [.ref 72, .int a] N = some (some (.int (b01 (cEq (I 3 c) (128 + nI i)))), N) := by
  rw [← TKR_word hj (TKS_r hj h).1 hi, ← ha, x_X12_isWord_0]
  cases cEq (N.1 72 16) 2 <;> cases cEq (N.1 72 17) a <;> rfl
theorem isSignM_s (g : zg) {j : Nat} {f : Nat → Int32} {L c m : Nat} {I : zI} {N : zM} (hj : j < 3) (h : TKS j f L c m I N.1) {s : Int32} (hs : sgC s = true) : X_X12_isSign g [.ref 72, .int s] N = some (some (.int (b01 (cEq (I 3 c) s))), N) := by
  rw [← TKR_sign hj (TKS_r hj h).1 hs, x_X12_isSign_0]
  cases cEq (N.1 72 16) 4 <;> cases cEq (N.1 72 17) s <;> rfl
