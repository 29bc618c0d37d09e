/-! PURE ROWS: votes (wins, weighs) -/
/-- the fear of a teller, as a number; its votes for the class (0 where it does not serve) and for the reference -/
def feN (fe : Nat → Int32) (t : Nat) : Nat := zx (fe t)
def voR (fe : Nat → Int32) (t : Nat) : Nat := 10 - feN fe t
def voC (fe rn : Nat → Int32) (n t : Nat) : Nat := if t < n ∧ cEq0 (rn (38 + t)) = true then voR fe t else 0
theorem voR_le (fe : Nat → Int32) (t : Nat) : voR fe t ≤ 10 := Nat.sub_le _ _
theorem voC_le (fe rn : Nat → Int32) (n t : Nat) : voC fe rn n t ≤ 10 := by
  unfold voC
  split
  · exact voR_le fe t
  · omega
theorem RG_fe {n d t : Nat} {rn so fe : Nat → Int32} (h : RG n d rn so fe) (ht : t < n) : fe t = nI (feN fe t) ∧ feN fe t ≤ 9 := by
  obtain ⟨_, _, _, _, w, hw, e⟩ := h.2.2.2 t ht
  unfold feN
  rw [e, zx_nI (by omega)]
  exact ⟨rfl, hw⟩
theorem servX10 (g : zg) {n t : Nat} {J : zI} {M : zM} (hc : CRJ n 7 8 M.1 J) (ht : t < 10) : X_X3_serving g [.ref 7, .int (nI t)] M = some (some (.int (b01 (decide (t < n) && cEq0 (J 73 (38 + t))))), M) := by
  have h7 : CO 7 8 := Or.inl ⟨rfl, rfl⟩
  obtain ⟨hn, hc2, _⟩ := CR_f hc
  by_cases h : t < n
  · rw [servX g h7 hn hc2 h, CR_gone hc h, decide_eq_true h, Bool.true_and]
  · rw [x_X3_serving_0, hasX g h7, zbI_s, hc2]
    have hf : hsB (nI n) (nI t) = false := by
      unfold hsB
      rw [cLtF (by omega) (by omega), Bool.and_false]
    rw [hf, cEq0_b01, decide_eq_false h]
    rfl
theorem votesC_s (g : zg) {n d t : Nat} {J : zI} {M : zM} (hc : CRJ n 7 8 M.1 J) (hr : RG n d (J 73) (J 76) (J 77)) (ht : t < 10) : X_X2_votesOf g [.ref 7, .int (nI t)] M = some (some (.int (nI (voC (J 77) (J 73) n t))), M) := by
  have h7 : CO 7 8 := Or.inl ⟨rfl, rfl⟩
  obtain ⟨hn, hc2, _⟩ := CR_f hc
  rw [x_X2_votesOf_0, servX10 g hc ht, zbI_s, cEq0_b01]
  unfold voC
  by_cases h : t < n
  · rw [decide_eq_true h, Bool.true_and]
    cases hE : cEq0 (J 73 (38 + t))
    · rw [if_neg (by simp)]
      rfl
    · obtain ⟨e1, e2⟩ := RG_fe hr h
      rw [if_pos ⟨h, rfl⟩, Bool.not_true, bif_f, getX g h7 (k := 1) (kk := 1) hn hc2 h (by omega) rfl rfl, zbI_s, CR_fe hc h, e1]
      unfold voR
      rw [show (10 : Int32) - nI (feN (J 77) t) = nI (10 - feN (J 77) t) from nI_sub (a := 10) (b := feN (J 77) t) (by omega)]
  · rw [decide_eq_false h, if_neg (by omega)]
    rfl
theorem p2_lt {t : Nat} (ht : t < 10) : 2 ^ t < 1024 ∧ 0 < 2 ^ t := by
  have : ∀ t : Fin 10, 2 ^ t.val < 1024 ∧ 0 < 2 ^ t.val := by decide
  exact this ⟨t, ht⟩
theorem p2_inj {t k : Nat} (ht : t < 10) (hk : k < 10) (h : 2 ^ t = 2 ^ k) : t = k := by
  have : ∀ t k : Fin 10, 2 ^ t.val = 2 ^ k.val → t = k := by decide
  have := this ⟨t, ht⟩ ⟨k, hk⟩ h
  exact congrArg Fin.val this
theorem cv_9 (g : zg) (h2 : g.2 = true) {n d : Nat} {J : zI} (hr : RG n d (J 73) (J 76) (J 77)) (f : Nat) : ∀ (t : Nat) (M : zM), CRJ n 7 8 M.1 J → t + f = 10 → ∃ I', zX (t_X2_countVotes g) 9 [some (.ref 240), some (.ref 7), some (.int (nI t))] [] M = zX (t_X2_countVotes g) 36 [some (.ref 240), none, some (.int 1)] [] (I', M.2) ∧ (∀ a, a ≠ 241 → I' a = M.1 a) ∧ (∀ k, t ≤ k → k < 10 → I' 241 (2 ^ k) = nI (voC (J 77) (J 73) n k)) ∧ (∀ j, (∀ k, t ≤ k → k < 10 → j ≠ 2 ^ k) → I' 241 j = M.1 241 j) := by
  induction f with
  | zero =>
    intro t M hc ht
    refine ⟨M.1, ?_, fun _ _ => rfl, fun k h1 h2 => absurd h1 (by omega), fun _ _ => rfl⟩
    rw [e_X2_countVotes_9 g h2, cLtLF (N := 10) (by omega) (by omega), bif_f]
  | succ f ih =>
    intro t M hc ht
    obtain ⟨pl, pp⟩ := p2_lt (t := t) (by omega)
    obtain ⟨I', q1, q2, q3, q4⟩ := ih (t + 1) ((zu M.1 241 (2 ^ t) (nI (voC (J 77) (J 73) n t))), M.2) (by
      unfold CRJ
      dsimp only
      rw [zu_ne (by omega), zu_ne (by omega)]
      exact hc) (by omega)
    refine ⟨I', ?_, ?_, ?_, ?_⟩
    · rw [e_X2_countVotes_9 g h2, cLtLT (N := 10) (by omega) (by omega), bif_t, votesC_s g hc hr (by omega), zbI_s, one_sh (by omega), zbT (by omega) (by omega), bif_t, zx_nI (by omega), nI_s1]
      exact q1
    · intro a ha
      rw [q2 a ha]
      exact zu_ne ha
    · intro k h1 h3
      by_cases e : k = t
      · subst e
        rw [q4 _ (fun j u1 u2 e => absurd (p2_inj (by omega) u2 e) (by omega))]
        dsimp only
        exact zu_eq
      · exact q3 k (by omega) h3
    · intro j hj
      rw [q4 j (fun k u1 u2 => hj k (by omega) u2)]
      dsimp only
      rw [zu_ne2 (hj t (Nat.le_refl t) (by omega))]
theorem cv_36 (g : zg) (h2 : g.2 = true) {v : Nat → Int32} (f : Nat) : ∀ (s : Nat) (M : zM), s + f = 1024 → 1 ≤ s → (∀ x, x < s → M.1 241 x = vsN v x) → (∀ k, k < 10 → M.1 241 (2 ^ k) = v k) → ∃ I', zX (t_X2_countVotes g) 36 [some (.ref 240), none, some (.int (nI s))] [] M = some (some (.int (vsN v 1023)), (I', M.2)) ∧ (∀ a, a ≠ 241 → I' a = M.1 a) ∧ ∀ x, x < 1024 → I' 241 x = vsN v x := by
  induction f with
  | zero =>
    intro s M hs h1 ht hp
    refine ⟨M.1, ?_, fun _ _ => rfl, fun x hx => ht x (by omega)⟩
    rw [e_X2_countVotes_36 g h2, cLtLF (N := 1024) (by omega) (by omega), bif_f, ht 1023 (by omega)]
  | succ f ih =>
    intro s M hs h1 ht hp
    have h10 : s < 1024 := by omega
    rcases low_t ⟨s, h10⟩ with e | ⟨e1, e2, e3, e4, e5, e6⟩
    · exact absurd e (by show ¬ s = 0; omega)
    · dsimp only at e1 e2 e3 e4
      obtain ⟨pl, pp⟩ := p2_lt (t := lowN s) e1
      have ev : M.1 241 (s - 2 ^ lowN s) + M.1 241 (2 ^ lowN s) = vsN v s := by
        rw [ht (s - 2 ^ lowN s) (by omega), hp _ e1, ← vsN_low h10 (by omega)]
      obtain ⟨I', q1, q2, q3⟩ := ih (s + 1) ((zu M.1 241 s (vsN v s)), M.2) (by omega) (by omega) (by
        intro x hx
        dsimp only
        by_cases e : x = s
        · subst e; exact zu_eq
        · rw [zu_ne2 e]; exact ht x (by omega)) (by
        intro k hk
        dsimp only
        by_cases e : 2 ^ k = s
        · rw [e, zu_eq, ← e]
          exact vsN_one hk
        · rw [zu_ne2 e]; exact hp k hk)
      refine ⟨I', ?_, fun a ha => (q2 a ha).trans (zu_ne ha), q3⟩
      rw [e_X2_countVotes_36 g h2, cLtLT (N := 1024) (by omega) (by omega), bif_t, e2, e3, zbT (by omega) (by omega), bif_t, zbT (by omega) (by omega), bif_t, zbT (by omega) (by omega), bif_t, zx_nI (by omega), zx_nI (by omega), zx_nI (by omega), nI_s1, ev]
      exact q1
/-- the class's table of votes -/
theorem countVotes_s (g : zg) (h2 : g.2 = true) {n d : Nat} {J : zI} {M : zM} (hc : CRJ n 7 8 M.1 J) (hr : RG n d (J 73) (J 76) (J 77)) : ∃ I', X_X2_countVotes g [.ref 240, .ref 7] M = some (some (.int (nI (wsN (voC (J 77) (J 73) n) 1023))), (I', M.2)) ∧ (∀ a, a ≠ 241 → I' a = M.1 a) ∧ ∀ x, x < 1024 → I' 241 x = nI (wsN (voC (J 77) (J 73) n) x) := by
  obtain ⟨I1, q1, q2, q3, q4⟩ := cv_9 g h2 hr 10 0 ((zu M.1 241 0 0), M.2) (by
    unfold CRJ
    dsimp only
    rw [zu_ne (by omega), zu_ne (by omega)]
    exact hc) (by omega)
  obtain ⟨I', p1, p2, p3⟩ := cv_36 g h2 (v := fun t => nI (voC (J 77) (J 73) n t)) 1023 1 (I1, M.2) (by omega) (by omega) (by
    intro x hx
    have : x = 0 := by omega
    subst this
    rw [vsN_0]
    dsimp only
    rw [q4 0 (fun k _ hk => by have := (p2_lt hk).2; omega)]
    dsimp only
    exact zu_eq) (fun k hk => q3 k (by omega) hk)
  refine ⟨I', ?_, ?_, ?_⟩
  · rw [x_X2_countVotes_0 g h2]
    have e := ws_vs (voC (J 77) (J 73) n) 1023 10 0
    unfold wsN
    rw [← e]
    exact q1.trans p1
  · intro a ha
    rw [p2 a ha]
    dsimp only
    rw [q2 a ha]
    exact zu_ne ha
  · intro x hx
    rw [p3 x hx]
    exact ws_vs _ _ 10 0
theorem win_11 (g : zg) (h2 : g.2 = true) {w : Nat → Nat} {al : Nat} {M : zM} (hw : ∀ t, w t ≤ 10) (hal : al ≤ 100) (ht : ∀ x, x < 1024 → M.1 241 x = nI (wsN w x)) (f : Nat) : ∀ (s : Nat) (b : Option Nat), s + f = 1024 → (∀ u, b = some u → u < 1024) → zX (t_X2_winners g) 11 [some (.ref 240), none, some (.int (nI al)), some (.int (bI b)), some (.int (nI s))] [] M = some (some (.int (bI (wiF (fun s => decide (al < 2 * wsN w s)) f s b))), M) := by
  induction f with
  | zero =>
    intro s b hs hb
    rw [e_X2_winners_11 g h2, cLtLF (N := 1024) (by omega) (by omega), bif_f]
    rfl
  | succ f ih =>
    intro s b hs hb
    have hle : wsN w s ≤ 100 := wsF_le hw 10 0
    rw [e_X2_winners_11 g h2, cLtLT (N := 1024) (by omega) (by omega), bif_t, zbT (by omega) (by omega), bif_t, zx_nI (by omega), ht s (by omega), ix2, cGt_nI (by omega) (by omega), nI_s1]
    show _ = some (some (Value.int (bI (wiF (fun s => decide (al < 2 * wsN w s)) f (s + 1) (if decide (al < 2 * wsN w s) = true ∧ (∀ u, b = some u → pcN s < pcN u) then some s else b)))), M)
    cases hP : decide (al < 2 * wsN w s)
    · rw [bif_f, if_neg (by simp), ih (s + 1) b (by omega) hb]
    · rw [bif_t]
      cases b with
      | none =>
        rw [if_pos ⟨rfl, fun u e => by cases e⟩, show cEq (bI none) (-1) = true from by decide, bif_t]
        exact ih (s + 1) (some s) (by omega) (fun u e => by cases e; omega)
      | some u =>
        have hu := hb u rfl
        have hpc : ∀ x, pcN x ≤ 10 := by intro x; unfold pcN; omega
        have p1 := hpc s
        have p2 := hpc u
        have eb : bI (some u) = nI u := rfl
        rw [cEq_n (bI_ne (by omega)), bif_f, bitCount_s g (by omega), zbI_s, eb, bitCount_s g hu, zbI_s]
        by_cases hq : pcN s < pcN u
        · rw [if_pos ⟨rfl, fun v e => by cases e; exact hq⟩, cLtT hq (by omega), bif_t]
          exact ih (s + 1) (some s) (by omega) (fun u e => by cases e; omega)
        · rw [if_neg (fun h => hq (h.2 u rfl)), cLtF (by omega) (by omega), bif_f]
          exact ih (s + 1) (some u) (by omega) hb
/-- the reference's votes of a set -/
theorem voM_4 (g : zg) {n d s : Nat} {N : zM} (hn : n ≤ 10) (hm : N.1 72 6 = nI n) (hr : RG n d (N.1 73) (N.1 76) (N.1 77)) (hs : s < 1024) (f : Nat) : ∀ t acc, t + f = n → zX (t_X12_votesOf g) 4 [some (.ref 72), some (.int (nI s)), some (.int (nI acc)), some (.int (nI t))] [] N = some (some (.int (nI (acc + wsF (voR (N.1 77)) s f t))), N) := by
  induction f with
  | zero =>
    intro t acc ht
    rw [e_X12_votesOf_4, hm, cLtF (by omega) (by omega), bif_f]
    rfl
  | succ f ih =>
    intro t acc ht
    obtain ⟨e1, e2⟩ := RG_fe hr (t := t) (by omega)
    have e3 : nI acc + 10 - nI (feN (N.1 77) t) = nI (acc + voR (N.1 77) t) := by
      rw [show nI acc + 10 = nI (acc + 10) from nI_ad2 acc 10, nI_sub (by omega)]
      unfold voR
      congr 1
      omega
    rw [e_X12_votesOf_4, hm, cLtT (by omega) (by omega), bif_t, has_s g (by omega) (by omega), zbI_s, cEq0_b01, zbT (by omega) (by omega), bif_t, zx_nI (by omega), nI_s1, e1, e3]
    show _ = some (some (Value.int (nI (acc + ((if bt10 s t = true then voR (N.1 77) t else 0) + wsF (voR (N.1 77)) s f (t + 1))))), N)
    cases bt10 s t
    · rw [Bool.not_false, bif_t, ih (t + 1) acc (by omega), if_neg (by decide), Nat.zero_add]
    · rw [Bool.not_true, bif_f, ih (t + 1) (acc + voR (N.1 77) t) (by omega), if_pos rfl, Nat.add_assoc]
theorem voM_s (g : zg) {n d s : Nat} {N : zM} (hn : n ≤ 10) (hm : N.1 72 6 = nI n) (hr : RG n d (N.1 73) (N.1 76) (N.1 77)) (hs : s < 1024) : X_X12_votesOf g [.ref 72, .int (nI s)] N = some (some (.int (nI (wsF (voR (N.1 77)) s n 0))), N) := by
  have e := voM_4 g hn hm hr hs n 0 0 (by omega)
  rw [Nat.zero_add] at e
  exact (x_X12_votesOf_0 g (nI s) N).trans e
theorem doesWin_s (g : zg) {n d s : Nat} {N : zM} (hn : n ≤ 10) (hm : N.1 72 6 = nI n) (hr : RG n d (N.1 73) (N.1 76) (N.1 77)) (hs : s < 1024) : X_X12_doesWin g [.ref 72, .int (nI s)] N = some (some (.int (b01 (decide (wsF (voR (N.1 77)) (hereN (N.1 73) n) n 0 < 2 * wsF (voR (N.1 77)) s n 0)))), N) := by
  have hh := (seF_set (p := fun t => cEq0 (N.1 73 (38 + t))) hn).2.1
  have l1 : ∀ s, wsF (voR (N.1 77)) s n 0 ≤ 10 * n := fun s => wsF_le (voR_le _) n 0
  have l2 := l1 s
  have l3 := l1 (hereN (N.1 73) n)
  rw [x_X12_doesWin_0, voM_s g hn hm hr hs, zbI_s, here_s g hn hm, zbI_s, voM_s g (s := hereN (N.1 73) n) hn hm hr hh, zbI_s, ix2, cGt_nI (by omega) (by omega), cif01]
/-- votes of those who serve are the same for both -/
theorem vo_same {n s : Nat} {fe rn : Nat → Int32} (hn : n ≤ 10) (h : ∀ t, bt10 s t = true → bt10 (hereN rn n) t = true) : wsN (voC fe rn n) s = wsF (voR fe) s n 0 := by
  have hb := (seF_set (p := fun t => cEq0 (rn (38 + t))) hn).2.2
  unfold wsN
  rw [show 10 = n + (10 - n) by omega, wsF_more n (10 - n) 0 (by
    intro k h1 h2
    cases hk : bt10 s k with
    | false => rfl
    | true =>
      have := h k hk
      unfold hereN at this
      rw [hb k, decide_eq_false (by omega)] at this
      cases this)]
  apply wsF_cg
  intro k h1 h2
  cases hk : bt10 s k with
  | false => rfl
  | true =>
    have := h k hk
    unfold hereN at this
    rw [hb k] at this
    simp only [Bool.and_eq_true, decide_eq_true_eq] at this
    rw [if_pos rfl, if_pos rfl]
    unfold voC
    rw [if_pos this]
theorem vo_and {n s : Nat} {fe rn : Nat → Int32} (hn : n ≤ 10) : wsN (voC fe rn n) (s &&& hereN rn n) = wsN (voC fe rn n) s := by
  have hb := (seF_set (p := fun t => cEq0 (rn (38 + t))) hn).2.2
  unfold wsN
  apply wsF_cg
  intro k _ _
  rw [and_bt]
  unfold hereN
  rw [hb k]
  unfold voC
  by_cases h : k < n ∧ cEq0 (rn (38 + k)) = true
  · rw [if_pos h, decide_eq_true h.1, h.2, Bool.true_and, Bool.and_true]
  · rw [if_neg h]
    split <;> split <;> rfl
