/-! PURE ROWS: reading looks at no byte behind the end -/
theorem runE_cg {P : Int32 → Bool} {f h : Nat → Int32} {L : Nat} (e : ∀ k, k < L → f k = h k) : ∀ n q, runE P f L n q = runE P h L n q := by
  intro n
  induction n with
  | zero => intro q; rfl
  | succ n ih =>
    intro q
    by_cases hq : q < L
    · rw [runE_s hq, runE_s hq, e q hq, ih (q + 1)]
    · show (if q < L ∧ P (f q) = true then runE P f L n (q + 1) else q) = (if q < L ∧ P (h q) = true then runE P h L n (q + 1) else q)
      rw [if_neg (fun c => hq c.1), if_neg (fun c => hq c.1)]
theorem enE_cg {f h : Nat → Int32} {L p : Nat} (e : ∀ k, k < L → f k = h k) (hp : p < L) : enE f L p = enE h L p := by
  unfold enE
  rw [e p hp, runE_cg e]
theorem nxB_cg {f h : Nat → Int32} {L q : Nat} (e : ∀ k, k < L → f k = h k) : nxB f L q = nxB h L q := runE_cg e _ _
theorem plS_cg {f h : Nat → Int32} {L q : Nat} (e : ∀ k, k < L → f k = h k) : ∀ k, plS f L q k = plS h L q k := by
  intro k
  induction k with
  | zero => exact nxB_cg e
  | succ k ih =>
    show (if plS f L q k < L then nxB f L (enE f L (plS f L q k)) else L) = (if plS h L q k < L then nxB h L (enE h L (plS h L q k)) else L)
    rw [ih]
    by_cases hp : plS h L q k < L
    · rw [if_pos hp, if_pos hp, enE_cg e hp, nxB_cg e]
    · rw [if_neg hp, if_neg hp]
theorem eqs_cg {f h : Nat → Int32} {L : Nat} (e : ∀ k, k < L → f k = h k) : ∀ (x : List Nat) (p : Nat), p + x.length ≤ L → eqs f p x = eqs h p x := by
  intro x
  induction x with
  | nil => intro p _; rfl
  | cons a as ih =>
    intro p hp
    rw [List.length_cons] at hp
    show (cEq (f p) (nI a) && eqs f (p + 1) as) = (cEq (h p) (nI a) && eqs h (p + 1) as)
    rw [e p (by omega), ih (p + 1) (by omega)]
theorem fiW_cg {f h : Nat → Int32} {L p len : Nat} (e : ∀ k, k < L → f k = h k) (hp : p + len ≤ L) : ∀ (ws : List (List Nat)) (i : Nat), fiW f p len i ws = fiW h p len i ws := by
  intro ws
  induction ws with
  | nil => intro i; rfl
  | cons x xs ih =>
    intro i
    rw [fiW_c, fiW_c, ih (i + 1)]
    by_cases hl : len = x.length
    · rw [eqs_cg e x p (by omega)]
    · rw [decide_eq_false hl, Bool.false_and, Bool.false_and]
theorem nuF_cg {f h : Nat → Int32} {L : Nat} (e : ∀ k, k < L → f k = h k) : ∀ (n p : Nat) (v : Int32), p + n ≤ L → nuF f n p v = nuF h n p v := by
  intro n
  induction n with
  | zero => intro p v _; rfl
  | succ n ih =>
    intro p v hp
    show nuF f n (p + 1) (v * 10 + f p - 48) = nuF h n (p + 1) (v * 10 + h p - 48)
    rw [e p (by omega), ih (p + 1) _ (by omega)]
theorem kdM_cg {f h : Nat → Int32} {L p : Nat} (e : ∀ k, k < L → f k = h k) (hp : p < L) : kdM f L p = kdM h L p ∧ vlM f L p = vlM h L p := by
  have hle := enE_le (f := h) hp
  unfold kdM vlM
  rw [e p hp, enE_cg e hp, fiW_cg e (by omega), nuF_cg e _ _ _ (by omega)]
  exact ⟨rfl, rfl⟩
theorem RTK_cg {f h : Nat → Int32} {L p : Nat} {J : zI} (e : ∀ k, k < L → f k = h k) (hr : RTK f L p J) : RTK h L p J := by
  obtain ⟨r1, r2, r3⟩ := hr
  refine ⟨r1, r2, fun hp => ?_⟩
  have q := r3 hp
  rw [enE_cg e hp, (kdM_cg e hp).1, (kdM_cg e hp).2] at q
  exact q
