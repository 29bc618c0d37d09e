/-! PURE ROWS: game, umbrella on both sides -/
theorem gmF_alike {fe fe' : Nat → Int32} {he he' : Nat → Bool} {all w : Int32} (n f : Nat) : ∀ t, t + f = n → (∀ t, t < n → fe t = fe' t ∧ he t = he' t) → gmF fe he all w f t = gmF fe' he' all w f t := by
  induction f with
  | zero => intro t _ _; rfl
  | succ f ih =>
    intro t ht h
    rw [gmF_s, gmF_s, (h t (by omega)).1, (h t (by omega)).2, ih (t + 1) (by omega) h]
theorem allF_alike {fe fe' : Nat → Int32} {he he' : Nat → Bool} (n f : Nat) : ∀ t a, t + f = n → (∀ t, t < n → fe t = fe' t ∧ he t = he' t) → allF fe he f t a = allF fe' he' f t a := by
  induction f with
  | zero => intro t a _ _; rfl
  | succ f ih =>
    intro t a ht h
    rw [allF_s, allF_s, (h t (by omega)).1, (h t (by omega)).2, ih (t + 1) _ (by omega) h]
/-- the answer of game -/
def gameA (fe : Nat → Int32) (he : Nat → Bool) (n : Nat) (a : Int32) : Int32 := bif inb a 0 1 then gmF fe he (allF fe he n 0 0) a n 0 else -1
theorem gameA_alike {fe fe' : Nat → Int32} {he he' : Nat → Bool} {n : Nat} (h : ∀ t, t < n → fe t = fe' t ∧ he t = he' t) (a : Int32) : gameA fe he n a = gameA fe' he' n a := by
  unfold gameA
  rw [allF_alike n n 0 0 (by omega) h, gmF_alike n n 0 (by omega) h]
theorem goodTap_s (g : zg) {n : Nat} {w : Int32} {M : zM} (hn : n ≤ 10) (hc : M.1 7 2 = nI n) : X_X2_goodTap g [.ref 7, .int w] M = some (some (.int (gmF (fun t => M.1 8 (7 * t + 1)) (fun t => cEq0 (M.1 8 (7 * t + 5))) (allF (fun t => M.1 8 (7 * t + 1)) (fun t => cEq0 (M.1 8 (7 * t + 5))) n 0 0) w n 0)), M) := by
  rw [x_X2_goodTap_0]
  exact tapC_4 g hn hc n 0 0 (by omega)
theorem gameC_s (g : zg) (a : Int32) {n : Nat} {M : zM} (hn : n ≤ 10) (hc : M.1 7 2 = nI n) : X_X11_game g [.ref 0, .int a] M = some (some (.int (gameA (fun t => M.1 8 (7 * t + 1)) (fun t => cEq0 (M.1 8 (7 * t + 5))) n a)), M) := by
  rw [x_X11_game_0, within_s, zbI_s, cEq0_b01, goodTap_s g hn hc, zbI_s, goodTap_s g hn hc, zbI_s]
  unfold gameA
  cases hi : inb a 0 1
  · rfl
  · obtain ⟨k, hk, rfl⟩ := inb_ex (b := 1) (by omega) hi
    have hk2 : k = 0 ∨ k = 1 := by omega
    rcases hk2 with rfl | rfl
    · rw [show cEq (nI 0) 1 = false from by decide]
      rfl
    · rw [show cEq (nI 1) 1 = true from by decide]
      rfl
theorem gameM_s (g : zg) (a : Int32) {n : Nat} {M : zM} (hn : n ≤ 10) (hc : M.1 72 6 = nI n) : X_X12_game g [.ref 72, .int a] M = some (some (.int (gameA (M.1 77) (fun t => cEq0 (M.1 73 (38 + t))) n a)), ((zu M.1 72 0 0), M.2)) := by
  rw [x_X12_game_0, isIn_s, zbI_s, cEq0_b01]
  unfold gameA
  cases hi : inb a 0 1
  · rfl
  · simp only [Bool.not_true, bif_f, bif_t]
    have e := tapM_21 g (w := a) (M := ((zu M.1 72 0 0), M.2)) hn (by dsimp only; rw [zu_ne2 (by omega)]; exact hc) n 0 0 (by omega)
    dsimp only at e
    rw [zu_ne (show 77 ≠ 72 by omega), zu_ne (show 73 ≠ 72 by omega)] at e
    exact e
theorem CR_fear_eq {n : Nat} {cf cr rn md so fe : Nat → Int32} (h : CR n cf cr rn md so fe) {t : Nat} (ht : t < n) : cr (7 * t + 1) = fe t := by
  rw [CR_row h ht (by omega)]
  rfl
theorem game_alike {n : Nat} {I : zI} (h : CRI n I) (a : Int32) : gameA (fun t => I 8 (7 * t + 1)) (fun t => cEq0 (I 8 (7 * t + 5))) n a = gameA (I 77) (fun t => cEq0 (I 73 (38 + t))) n a := by
  apply gameA_alike
  intro t ht
  refine ⟨CR_fear_eq h ht, ?_⟩
  show cEq0 (I 8 (7 * t + 5)) = cEq0 (I 73 (38 + t))
  rw [CR_gone h ht]
theorem inb_hsB {n : Nat} (hn : n ≤ 10) (a : Int32) : inb a 0 (nI n - 1) = hsB (nI n) a := by
  cases h : inb a 0 (nI n - 1)
  · cases h2 : hsB (nI n) a
    · rfl
    · obtain ⟨t, ht, rfl⟩ := hsB_ex hn h2
      have e : nI n - 1 = nI (n - 1) := nI_sub (a := n) (b := 1) (by omega)
      rw [e] at h
      have e2 := (inb_nI (k := t) (a := 0) (b := n - 1) (by omega) (by omega) (by omega)).symm.trans h
      simp at e2
      omega
  · obtain ⟨k, hk, rfl⟩ := inb_cnt (by omega) h
    exact (hsB_nI hn hk).symm
theorem umbC_s (g : zg) (a b : Int32) {m n : Nat} {M : zM} (hn : n ≤ 10) (hm : m ≤ 20) (h2 : M.1 7 2 = nI n) (hc : M.1 32 7 = nI m) : X_X11_umbrella g [.ref 0, .int a, .int b] M = if a = -1 then some (some (.int 0), ((zu M.1 32 7 0), M.2)) else if hsB (nI n) a = true ∧ inb b 0 11 = true ∧ m < 20 then some (some (.int (nI (m + 1))), ((zu (zu (zu M.1 34 m a) 35 m b) 32 7 (nI (m + 1))), M.2)) else some (some (.int (-1)), M) := by
  rw [x_X11_umbrella_0, x_X6_addUmbrella_0, h2]
  by_cases h1 : a = -1
  · rw [if_pos h1, cEq_s h1, bif_t, zbI_s]
  · rw [if_neg h1, cEq_n h1, bif_f, within_s, zbI_s, cEq0_b01, inb_hsB hn, within_s, zbI_s, cEq0_b01, hc, cLt_lit (m := m) (k := 20) (y := 20) (by omega) (by omega) rfl, zb_nI (by omega), zx_nI (by omega), nI_s1]
    cases hi : hsB (nI n) a
    · simp [zbI_s]
    · cases hj : inb b 0 11
      · simp [zbI_s]
      · by_cases h2 : m < 20
        · simp [h2, zbI_s]
        · simp [h2, zbI_s]
/-- rows a = 0 at places t, t + 1, .. (f of them) -/
def clrF (r : Nat) : Nat → Nat → zI → zI
  | 0, _, I => I
  | f + 1, t, I => clrF r f (t + 1) (zu I r t 0)
theorem clrF_ne {r b : Nat} (hb : b ≠ r) (f : Nat) : ∀ t I, clrF r f t I b = I b := by
  induction f with
  | zero => intro t I; rfl
  | succ f ih =>
    intro t I
    show clrF r f (t + 1) (zu I r t 0) b = I b
    rw [ih, zu_ne hb]
theorem clrF_at {r : Nat} (f : Nat) : ∀ t I k, clrF r f t I r k = if t ≤ k ∧ k < t + f then 0 else I r k := by
  induction f with
  | zero => intro t I k; rw [if_neg (by omega)]; rfl
  | succ f ih =>
    intro t I k
    show clrF r f (t + 1) (zu I r t 0) r k = _
    rw [ih, zu_upd]
    by_cases e : k = t
    · subst e
      rw [if_neg (by omega), upd1_eq, if_pos (by omega)]
    · rw [upd1_ne e]
      by_cases e2 : t + 1 ≤ k ∧ k < t + 1 + f
      · rw [if_pos e2, if_pos (by omega)]
      · rw [if_neg e2, if_neg (by omega)]
theorem umbM_17 (g : zg) (f : Nat) : ∀ t (M : zM), t + f = 10 → zX (t_X12_umbrella g) 17 [some (.ref 72), none, none, some (.int (nI t))] [] M = some (some (.int 0), (clrF 94 f t M.1, M.2)) := by
  induction f with
  | zero =>
    intro t M ht
    rw [e_X12_umbrella_17, cLt_lit (m := t) (k := 10) (y := 10) (by omega) (by omega) rfl, decide_eq_false (by omega), bif_f]
    rfl
  | succ f ih =>
    intro t M ht
    have h10 : t < 10 := by omega
    rw [e_X12_umbrella_17, cLt_lit (m := t) (k := 10) (y := 10) (by omega) (by omega) rfl, decide_eq_true h10, bif_t, zb_nI (by omega), decide_eq_true h10, bif_t, zx_nI (by omega), nI_s1, ih (t + 1) _ (by omega)]
    rfl
theorem umbM_s (g : zg) (a b : Int32) {m n : Nat} {M : zM} (hn : n ≤ 10) (hm : m ≤ 20) (h2 : M.1 72 6 = nI n) (hc : M.1 72 45 = nI m) : X_X12_umbrella g [.ref 72, .int a, .int b] M = if a = -1 then some (some (.int 0), (clrF 94 10 0 (zu (zu M.1 72 0 0) 72 45 0), M.2)) else if hsB (nI n) a = true ∧ inb b 0 11 = true ∧ m < 20 then some (some (.int (nI (m + 1))), ((zu (zu (zu M.1 72 0 0) 94 (zx a) ((M.1 94 (zx a)) ||| ((1 : Int32) <<< (b &&& 31)))) 72 45 (nI (m + 1))), M.2)) else some (some (.int (-1)), ((zu M.1 72 0 0), M.2)) := by
  rw [x_X12_umbrella_0]
  by_cases h1 : a = -1
  · rw [if_pos h1, cEq_s h1, bif_t]
    exact umbM_17 g 10 0 _ (by omega)
  · rw [if_neg h1, cEq_n h1, bif_f, isT_s, zbI_s, cEq0_b01, isIn_s, zbI_s, cEq0_b01]
    dsimp only
    rw [zu_ne2 (show 6 ≠ 0 by omega), zu_ne2 (show 45 ≠ 0 by omega), h2, hc, cEq_lit (m := m) (k := 20) (y := 20) (by omega) (by omega) rfl, nI_s1, zu_ne1 (show 94 ≠ 72 by omega)]
    cases hi : hsB (nI n) a
    · simp
    · obtain ⟨t, ht, rfl⟩ := hsB_ex hn hi
      have h10 : t < 10 := by omega
      rw [zb_nI (by omega), decide_eq_true h10]
      cases hj : inb b 0 11
      · simp
      · by_cases h3 : m < 20
        · have h4 : ¬ m = 20 := by omega
          simp [h3, h4]
        · have h4 : m = 20 := by omega
          simp [h4]
