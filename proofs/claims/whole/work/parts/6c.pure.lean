/-! PURE ROWS: words alike; signs -/
theorem fiW_some {f : Nat → Int32} {p len : Nat} : ∀ (ws : List (List Nat)) (i m : Nat), fiW f p len i ws = some m → ∃ k x, m = i + k ∧ ws[k]? = some x ∧ len = x.length ∧ eqs f p x = true := by
  intro ws
  induction ws with
  | nil =>
    intro i m h
    exact absurd h (by simp [fiW])
  | cons y ys ih =>
    intro i m h
    rw [fiW_c] at h
    by_cases hc : (decide (len = y.length) && eqs f p y) = true
    · rw [if_pos hc] at h
      rw [Bool.and_eq_true, decide_eq_true_eq] at hc
      exact ⟨0, y, by simp at h; omega, rfl, hc.1, hc.2⟩
    · rw [if_neg hc] at h
      obtain ⟨k, x, h1, h2, h3⟩ := ih (i + 1) m h
      exact ⟨k + 1, x, by omega, by rw [List.getElem?_cons_succ]; exact h2, h3⟩
theorem fiW_none {f : Nat → Int32} {p len : Nat} : ∀ (ws : List (List Nat)) (i : Nat), fiW f p len i ws = none → ∀ (k : Nat) (x : List Nat), ws[k]? = some x → len = x.length → eqs f p x = true → False := by
  intro ws
  induction ws with
  | nil =>
    intro i h k x h1
    exact absurd h1 (by simp)
  | cons y ys ih =>
    intro i h k x h1 h2 h3
    rw [fiW_c] at h
    by_cases hc : (decide (len = y.length) && eqs f p y) = true
    · rw [if_pos hc] at h
      exact absurd h (by simp)
    · rw [if_neg hc] at h
      cases k with
      | zero =>
        simp at h1
        subst h1
        exact hc (by rw [Bool.and_eq_true, decide_eq_true_eq]; exact ⟨h2, h3⟩)
      | succ k => exact ih (i + 1) h k x (by rw [List.getElem?_cons_succ] at h1; exact h1) h2 h3
theorem eqs_inj {f : Nat → Int32} : ∀ (x y : List Nat) (p : Nat), (∀ v, v ∈ x → v < 256) → (∀ v, v ∈ y → v < 256) → x.length = y.length → eqs f p x = true → eqs f p y = true → x = y := by
  intro x
  induction x with
  | nil =>
    intro y p _ _ h _ _
    cases y with
    | nil => rfl
    | cons b bs => exact absurd h (by simp)
  | cons a as ih =>
    intro y p h1 h2 h h3 h4
    cases y with
    | nil => exact absurd h (by simp)
    | cons b bs =>
      have h3' : (cEq (f p) (nI a) && eqs f (p + 1) as) = true := h3
      have h4' : (cEq (f p) (nI b) && eqs f (p + 1) bs) = true := h4
      rw [Bool.and_eq_true] at h3' h4'
      have ea : f p = nI a := by
        by_cases e : f p = nI a
        · exact e
        · rw [cEq_n e] at h3'
          exact absurd h3'.1 (by decide)
      have eb : f p = nI b := by
        by_cases e : f p = nI b
        · exact e
        · rw [cEq_n e] at h4'
          exact absurd h4'.1 (by decide)
      have a2 := h1 a List.mem_cons_self
      have b2 := h2 b List.mem_cons_self
      have e : a = b := nI_ij (by omega) (by omega) (ea.symm.trans eb)
      rw [e, ih bs (p + 1) (fun v hv => h1 v (List.mem_cons_of_mem a hv)) (fun v hv => h2 v (List.mem_cons_of_mem b hv)) (by simp at h; exact h) h3'.2 h4'.2]
/-- a word of the class as a word of the reference -/
def wmp (j i : Nat) : Nat := if j = 0 then (if i < 9 then i + 7 else i - 9) else if j = 1 then i + 16 else (if i = 0 then 20 else if i = 1 then 9 else if i = 6 then 19 else i + 19)
def wcn (j : Nat) : Nat := if j = 0 then 16 else if j = 1 then 3 else 7
theorem wmp_at : ∀ j : Fin 3, ∀ i : Fin 16, i.val < wcn j → (stW j)[i.val]? = rfW[wmp j i]? ∧ wmp j i < 25 := by decide +kernel
theorem wcn_len : ∀ j : Fin 3, (stW j).length = wcn j ∧ wcn j ≤ 16 := by decide +kernel
theorem rf_one : ∀ a b : Fin 25, rfW[a.val]? = rfW[b.val]? → a = b := by decide +kernel
theorem rf_256 : ∀ x, x ∈ rfW → ∀ v, v ∈ x → v < 256 := by decide +kernel
theorem rf_len : rfW.length = 25 := by decide +kernel
theorem wd_some {f : Nat → Int32} {p len j i : Nat} (hj : j < 3) (h : fiW f p len 0 (stW j) = some i) : i < wcn j ∧ fiW f p len 0 rfW = some (wmp j i) := by
  obtain ⟨k, x, h1, h2, h3, h4⟩ := fiW_some _ _ _ h
  rw [Nat.zero_add] at h1
  subst h1
  have w := wcn_len ⟨j, hj⟩
  dsimp only at w
  have hk : i < wcn j := by
    have c := (List.getElem?_eq_some_iff.1 h2).1
    omega
  obtain ⟨a1, a2⟩ := wmp_at ⟨j, hj⟩ ⟨i, by omega⟩ hk
  dsimp only at a1 a2
  refine ⟨hk, ?_⟩
  rw [h2] at a1
  cases hr : fiW f p len 0 rfW with
  | none => exact (fiW_none _ _ hr (wmp j i) x a1.symm h3 h4).elim
  | some m =>
    obtain ⟨k', y, g1, g2, g3, g4⟩ := fiW_some _ _ _ hr
    rw [Nat.zero_add] at g1
    subst g1
    have e : x = y := eqs_inj x y p (rf_256 x (List.mem_of_getElem? a1.symm)) (rf_256 y (List.mem_of_getElem? g2)) (by omega) h4 g4
    have hm : m < 25 := by
      have c := (List.getElem?_eq_some_iff.1 g2).1
      rw [rf_len] at c
      exact c
    have o := rf_one ⟨m, hm⟩ ⟨wmp j i, a2⟩ (by dsimp only; rw [g2, ← a1, e])
    rw [show m = wmp j i from congrArg Fin.val o]
theorem wd_none {f : Nat → Int32} {p len j : Nat} (hj : j < 3) (h : fiW f p len 0 (stW j) = none) {m : Nat} (hr : fiW f p len 0 rfW = some m) : ∀ i, i < wcn j → ¬ wmp j i = m := by
  intro i hi e
  have w := wcn_len ⟨j, hj⟩
  dsimp only at w
  obtain ⟨a1, a2⟩ := wmp_at ⟨j, hj⟩ ⟨i, by omega⟩ hi
  dsimp only at a1 a2
  obtain ⟨k', y, g1, g2, g3, g4⟩ := fiW_some _ _ _ hr
  rw [Nat.zero_add] at g1
  subst g1
  rw [e, g2] at a1
  exact fiW_none _ _ h i y a1 g3 g4
/-- the class's signs -/
def ixF (w : Int32) : Nat → Nat → Int32
  | 0, _ => -1
  | f + 1, i => bif cEq (zbt 1013 i) w then nI i else ixF w f (i + 1)
theorem ix_s (g : zg) {w : Int32} {M : zM} (f : Nat) : ∀ i, i + f = 10 → zX (t_J1_indexOfChar_4cfef g) 7 [some (.ref 1013), none, none, some (.int (nI 10)), some (.int w), some (.int (nI i))] [] M = some (some (.int (ixF w f i)), M) := by
  induction f with
  | zero =>
    intro i hi
    rw [e_J1_indexOfChar_4cfef_7, cLtF (by omega) (by omega), bif_f]
    rfl
  | succ f ih =>
    intro i hi
    rw [e_J1_indexOfChar_4cfef_7, cLtT (by omega) (by omega), bif_t, show zln 1013 = 10 from by decide +kernel, zb_nI (by omega), decide_eq_true (by omega), bif_t, zx_nI (by omega), nI_s1, ih (i + 1) (by omega)]
    show _ = some (some (Value.int (bif cEq (zbt 1013 i) w then nI i else ixF w f (i + 1))), M)
    cases cEq (zbt 1013 i) w <;> rfl
theorem sgn_dec : ∀ b : Fin 256, cLt0 (nI b) = false ∧ cGt (nI b) 255 = false ∧ ((nI b).toUInt32 % 65536).toInt32 = nI b ∧ cLt0 (ixF ((nI b).toInt8.toInt32) 10 0) = !sgC (nI b) := by decide +kernel
theorem sgnC_s (g : zg) {b : Nat} (hb : b < 256) (M : zM) : ∃ v, X_J0_indexOf_0f7a4 g [.ref 1003, .int (((nI b).toUInt32 % 65536).toInt32)] M = some (some (.int v), M) ∧ cLt0 v = !sgC (nI b) := by
  obtain ⟨d1, d2, d3, d4⟩ := sgn_dec ⟨b, hb⟩
  dsimp only at d1 d2 d3 d4
  refine ⟨_, ?_, d4⟩
  rw [d3, x_J0_indexOf_0f7a4_0, x_J0_indexOf_7cf53_0, x_J0_isLatin1_aae02_0, zbI_s, show cEq0 1 = false from rfl, bif_f, x_J0_length_8abf5_0_3, x_J0_coder_7d493_0_3, zbI_s, zbI_s, show (nI (zln 1013)) >>> ((0 : Int32) &&& 31) = nI 10 from by decide +kernel, x_J1_indexOf_4cfef_0, x_J1_canEncode_9a6ad_0, d1, bif_f, d2, bif_f, zbI_s, show cEq0 1 = false from rfl, bif_f, x_J9_max_7cf53_0, show cLt (0 : Int32) 0 = false from rfl, bif_f, zbI_s, x_J9_min_7cf53_0, show zln 1013 = 10 from by decide +kernel, show cGt (nI 10) (nI 10) = false from by decide, bif_f, zbI_s, show cLt (0 : Int32) (nI 10) = true from by decide, bif_t, x_J1_indexOfChar_4cfef_0, show (0 : Int32) = nI 0 from rfl, ix_s g 10 0 rfl, zbI_s, zbI_s, zbI_s]
