/-! PURE ROWS: umbrellas (leaks) -/
/-- whom teller t was told of by, as a set, out of m umbrellas -/
def unA (wo wm : Nat → Nat) (t : Nat) : Nat → Nat
  | 0 => 0
  | k + 1 => unA wo wm t k ||| (if wo k = t then 2 ^ wm k else 0)
def UM (m n : Nat) (wo wm : Nat → Nat) (I J : zI) : Prop := m ≤ 20 ∧ I 32 7 = nI m ∧ J 72 45 = nI m ∧ (∀ k, k < m → I 34 k = nI (wo k) ∧ I 35 k = nI (wm k) ∧ wo k < n ∧ wm k < 12) ∧ ∀ t, t < 10 → J 94 t = nI (unA wo wm t m)
theorem unA_lt {wo wm : Nat → Nat} {t : Nat} : ∀ m, (∀ k, k < m → wm k < 12) → unA wo wm t m < 4096 := by
  intro m
  induction m with
  | zero => intro _; show 0 < 4096; omega
  | succ m ih =>
    intro h
    have h1 := ih (fun k hk => h k (by omega))
    have h2 : (if wo m = t then 2 ^ wm m else 0) < 4096 := by
      split
      · have : ∀ j : Fin 12, 2 ^ j.val < 4096 := by decide
        exact this ⟨wm m, h m (by omega)⟩
      · omega
    exact Nat.or_lt_two_pow (n := 12) h1 h2
theorem cts_4 (g : zg) {m n t : Nat} {wo wm : Nat → Nat} {J : zI} {M : zM} (h : UM m n wo wm M.1 J) (hn : n ≤ 10) (ht : t < 10) (f : Nat) : ∀ k, k + f = m → zX (t_X6_courtiersOf g) 4 [some (.ref 32), some (.int (nI t)), some (.int (nI (unA wo wm t k))), some (.int (nI k))] [] M = some (some (.int (nI (unA wo wm t m))), M) := by
  obtain ⟨b1, b2, b3, b4, b5⟩ := h
  induction f with
  | zero =>
    intro k hk
    rw [e_X6_courtiersOf_4, b2, cLtF (by omega) (by omega), bif_f, show k = m by omega]
  | succ f ih =>
    intro k hk
    obtain ⟨c1, c2, c3, c4⟩ := b4 k (by omega)
    rw [e_X6_courtiersOf_4, b2, cLtT (by omega) (by omega), bif_t, zbT (by omega) (by omega), bif_t, bif_t, zx_nI (by omega), c1, c2, cEq_nI (by omega) (by omega), one_sh (by omega), nI_or, nI_s1]
    have ih' := ih (k + 1) (by omega)
    by_cases e : wo k = t
    · rw [decide_eq_true e, bif_t]
      have es : unA wo wm t (k + 1) = unA wo wm t k ||| 2 ^ wm k := by
        show unA wo wm t k ||| (if wo k = t then 2 ^ wm k else 0) = _
        rw [if_pos e]
      rw [es] at ih'
      exact ih'
    · rw [decide_eq_false e, bif_f]
      have es : unA wo wm t (k + 1) = unA wo wm t k := by
        show unA wo wm t k ||| (if wo k = t then 2 ^ wm k else 0) = _
        rw [if_neg e, Nat.or_zero]
      rw [es] at ih'
      exact ih'
theorem courtiers_s (g : zg) {m n t : Nat} {wo wm : Nat → Nat} {J : zI} {M : zM} (h : UM m n wo wm M.1 J) (hn : n ≤ 10) (ht : t < 10) : X_X6_courtiersOf g [.ref 32, .int (nI t)] M = some (some (.int (nI (unA wo wm t m))), M) := (x_X6_courtiersOf_0 g (nI t) M).trans (cts_4 g h hn ht m 0 (by omega))
/-- u joined over the set -/
def orS (u : Nat → Nat) (s : Nat) : Nat → Nat → Nat
  | 0, _ => 0
  | f + 1, t => (if bt10 s t = true then u t else 0) ||| orS u s f (t + 1)
def orN (u : Nat → Nat) (s : Nat) : Nat := orS u s 10 0
theorem orS_low {u : Nat → Nat} {s : Nat} (hs : s < 1024) (h0 : ¬ s = 0) (f : Nat) : ∀ t, t + f = 10 → orS u s f t = orS u (s - 2 ^ lowN s) f t ||| (if t ≤ lowN s then u (lowN s) else 0) := by
  have hb : ∀ t, t < 10 → (s - 2 ^ lowN s) / 2 ^ t % 2 = if t = lowN s then 0 else s / 2 ^ t % 2 := by
    rcases low_b ⟨s, hs⟩ with e | e
    · exact absurd e h0
    · exact fun t ht => e ⟨t, ht⟩
  have hl : lowN s < 10 ∧ s / 2 ^ lowN s % 2 = 1 := by
    rcases low_t ⟨s, hs⟩ with e | ⟨e1, _, _, _, _, e6⟩
    · exact absurd e h0
    · exact ⟨e1, e6⟩
  induction f with
  | zero =>
    intro t ht
    rw [if_neg (show ¬ t ≤ lowN s by omega), Nat.or_zero]
    rfl
  | succ f ih =>
    intro t ht
    show (if bt10 s t = true then u t else 0) ||| orS u s f (t + 1) = ((if bt10 (s - 2 ^ lowN s) t = true then u t else 0) ||| orS u (s - 2 ^ lowN s) f (t + 1)) ||| _
    rw [ih (t + 1) (by omega)]
    unfold bt10
    rw [hb t (by omega)]
    by_cases e : t = lowN s
    · rw [if_pos e, e, hl.2]
      rw [if_neg (show ¬ lowN s + 1 ≤ lowN s by omega), if_pos (Nat.le_refl _), Nat.or_zero]
      simp
      rw [Nat.or_comm]
    · rw [if_neg e]
      by_cases e2 : t + 1 ≤ lowN s
      · rw [if_pos e2, if_pos (show t ≤ lowN s by omega), Nat.or_assoc]
      · rw [if_neg e2, if_neg (show ¬ t ≤ lowN s by omega), Nat.or_assoc]
theorem orN_low {u : Nat → Nat} {s : Nat} (hs : s < 1024) (h0 : ¬ s = 0) : orN u s = orN u (s - 2 ^ lowN s) ||| u (lowN s) := by
  have e := orS_low (u := u) hs h0 10 0 (by omega)
  rw [if_pos (Nat.zero_le _)] at e
  exact e
theorem orS_cg {u u' : Nat → Nat} {s s' : Nat} (f : Nat) : ∀ t, (∀ k, t ≤ k → k < t + f → (if bt10 s k = true then u k else 0) = (if bt10 s' k = true then u' k else 0)) → orS u s f t = orS u' s' f t := by
  induction f with
  | zero => intro t _; rfl
  | succ f ih =>
    intro t h
    show (if bt10 s t = true then u t else 0) ||| orS u s f (t + 1) = (if bt10 s' t = true then u' t else 0) ||| orS u' s' f (t + 1)
    rw [h t (Nat.le_refl t) (by omega), ih (t + 1) (fun k h1 h2 => h k (by omega) (by omega))]
theorem orS_0 {u : Nat → Nat} {s : Nat} (f : Nat) : ∀ t, (∀ k, t ≤ k → k < t + f → (if bt10 s k = true then u k else 0) = 0) → orS u s f t = 0 := by
  induction f with
  | zero => intro t _; rfl
  | succ f ih =>
    intro t h
    show (if bt10 s t = true then u t else 0) ||| orS u s f (t + 1) = 0
    rw [h t (Nat.le_refl t) (by omega), ih (t + 1) (fun k h1 h2 => h k (by omega) (by omega))]
    rfl
theorem orS_more {u : Nat → Nat} {s : Nat} (f m : Nat) : ∀ t, (∀ k, t + f ≤ k → k < t + f + m → (if bt10 s k = true then u k else 0) = 0) → orS u s (f + m) t = orS u s f t := by
  induction f with
  | zero =>
    intro t h
    rw [Nat.zero_add]
    exact orS_0 m t (fun k h1 h2 => h k (by omega) (by omega))
  | succ f ih =>
    intro t h
    rw [show f + 1 + m = f + m + 1 by omega]
    show (if bt10 s t = true then u t else 0) ||| orS u s (f + m) (t + 1) = (if bt10 s t = true then u t else 0) ||| orS u s f (t + 1)
    rw [ih (t + 1) (fun k h1 h2 => h k (by omega) (by omega))]
theorem orS_lt {u : Nat → Nat} {s : Nat} (hu : ∀ t, u t < 4096) (f : Nat) : ∀ t, orS u s f t < 4096 := by
  induction f with
  | zero => intro t; show 0 < 4096; omega
  | succ f ih =>
    intro t
    have h1 : (if bt10 s t = true then u t else 0) < 4096 := by
      have := hu t
      split <;> omega
    exact Nat.or_lt_two_pow (n := 12) h1 (ih (t + 1))
theorem orN_0 (u : Nat → Nat) : orN u 0 = 0 := orS_0 10 0 (fun k _ _ => by rw [bt_big (a := 0) (k := 0) (by omega) (by omega)]; rfl)
theorem orN_one {u : Nat → Nat} {t : Nat} (ht : t < 10) : orN u (2 ^ t) = u t := by
  obtain ⟨p1, p2⟩ := p2_lt ht
  have hl : lowN (2 ^ t) = t := by
    have : ∀ t : Fin 10, lowN (2 ^ t.val) = t.val := by decide +kernel
    exact this ⟨t, ht⟩
  rw [orN_low p1 (by omega), hl, Nat.sub_self, orN_0, Nat.zero_or]
theorem lk_20 (g : zg) (h2 : g.2 = true) {m n : Nat} {wo wm : Nat → Nat} {J : zI} {tk b : Int32} (hn : n ≤ 10) (f : Nat) : ∀ (t : Nat) (M : zM), UM m n wo wm M.1 J → t + f = 10 → ∃ I', zX (t_X2_leaking g) 20 [some (.ref 240), some (.ref 32), some (.int tk), some (.int b), some (.int (nI t))] [] M = zX (t_X2_leaking g) 51 [some (.ref 240), none, some (.int tk), some (.int b), some (.int 1)] [] (I', M.2) ∧ (∀ a, a ≠ 241 → I' a = M.1 a) ∧ (∀ k, t ≤ k → k < 10 → I' 241 (2 ^ k) = nI (unA wo wm k m)) ∧ (∀ j, (∀ k, t ≤ k → k < 10 → j ≠ 2 ^ k) → I' 241 j = M.1 241 j) := by
  induction f with
  | zero =>
    intro t M hu ht
    refine ⟨M.1, ?_, fun _ _ => rfl, fun k h1 h2 => absurd h1 (by omega), fun _ _ => rfl⟩
    rw [e_X2_leaking_20 g h2, cLtLF (N := 10) (by omega) (by omega), bif_f]
  | succ f ih =>
    intro t M hu ht
    obtain ⟨pl, pp⟩ := p2_lt (t := t) (by omega)
    obtain ⟨I', q1, q2, q3, q4⟩ := ih (t + 1) ((zu M.1 241 (2 ^ t) (nI (unA wo wm t m))), M.2) (by
      obtain ⟨b1, b2, b3, b4, b5⟩ := hu
      refine ⟨b1, ?_, b3, ?_, b5⟩
      · dsimp only; rw [zu_ne (by omega)]; exact b2
      · dsimp only; rw [zu_ne (by omega), zu_ne (by omega)]; exact b4) (by omega)
    refine ⟨I', ?_, ?_, ?_, ?_⟩
    · rw [e_X2_leaking_20 g h2, cLtLT (N := 10) (by omega) (by omega), bif_t, courtiers_s g hu hn (by omega), zbI_s, one_sh (by omega), zbT (by omega) (by omega), bif_t, zx_nI (by omega), nI_s1]
      exact q1
    · intro a ha
      rw [q2 a ha]
      exact zu_ne ha
    · intro k h1 h3
      by_cases e : k = t
      · subst e
        rw [q4 _ (fun j u1 u2 e => absurd (p2_inj (by omega) u2 e) (by omega))]
        dsimp only
        exact zu_eq
      · exact q3 k (by omega) h3
    · intro j hj
      rw [q4 j (fun k u1 u2 => hj k (by omega) u2)]
      dsimp only
      rw [zu_ne2 (hj t (Nat.le_refl t) (by omega))]
theorem lk_51 (g : zg) (h2 : g.2 = true) {u : Nat → Nat} {tk : Nat} (hu : ∀ t, u t < 4096) (htk : tk < 4096) (f : Nat) : ∀ (s : Nat) (b : Option Nat) (M : zM), s + f = 1024 → 1 ≤ s → (∀ x, b = some x → x < 1024) → (∀ x, x < s → M.1 241 x = nI (orN u x)) → (∀ k, k < 10 → M.1 241 (2 ^ k) = nI (u k)) → ∃ I', zX (t_X2_leaking g) 51 [some (.ref 240), none, some (.int (nI tk)), some (.int (bI b)), some (.int (nI s))] [] M = some (some (.int (bI (wiF (fun s => decide (orN u s = tk)) f s b))), (I', M.2)) ∧ ∀ a, a ≠ 241 → I' a = M.1 a := by
  induction f with
  | zero =>
    intro s b M hs h1 hb ht hp
    refine ⟨M.1, ?_, fun _ _ => rfl⟩
    rw [e_X2_leaking_51 g h2, cLtLF (N := 1024) (by omega) (by omega), bif_f]
    rfl
  | succ f ih =>
    intro s b M hs h1 hb ht hp
    have h10 : s < 1024 := by omega
    rcases low_t ⟨s, h10⟩ with e | ⟨e1, e2, e3, e4, e5, e6⟩
    · exact absurd e (by show ¬ s = 0; omega)
    · dsimp only at e1 e2 e3 e4
      obtain ⟨pl, pp⟩ := p2_lt (t := lowN s) e1
      have ev : M.1 241 (s - 2 ^ lowN s) ||| M.1 241 (2 ^ lowN s) = nI (orN u s) := by
        rw [ht (s - 2 ^ lowN s) (by omega), hp _ e1, nI_or, ← orN_low h10 (by omega)]
      have hor : orN u s < 4096 := orS_lt hu 10 0
      have go : ∀ b' : Option Nat, (∀ x, b' = some x → x < 1024) → ∃ I', zX (t_X2_leaking g) 51 [some (.ref 240), none, some (.int (nI tk)), some (.int (bI b')), some (.int (nI (s + 1)))] [] ((zu M.1 241 s (nI (orN u s))), M.2) = some (some (.int (bI (wiF (fun s => decide (orN u s = tk)) f (s + 1) b'))), (I', M.2)) ∧ ∀ a, a ≠ 241 → I' a = M.1 a := by
        intro b' hb'
        obtain ⟨I', q1, q2⟩ := ih (s + 1) b' ((zu M.1 241 s (nI (orN u s))), M.2) (by omega) (by omega) hb' (by
          intro x hx
          dsimp only
          by_cases e : x = s
          · subst e; exact zu_eq
          · rw [zu_ne2 e]; exact ht x (by omega)) (by
          intro k hk
          dsimp only
          by_cases e : 2 ^ k = s
          · rw [e, zu_eq, ← e, orN_one hk]
          · rw [zu_ne2 e]; exact hp k hk)
        exact ⟨I', q1, fun a ha => (q2 a ha).trans (zu_ne ha)⟩
      rw [e_X2_leaking_51 g h2, cLtLT (N := 1024) (by omega) (by omega), bif_t, e2, e3, zbT (by omega) (by omega), bif_t, zbT (by omega) (by omega), bif_t, zbT (by omega) (by omega), bif_t, bif_t, zx_nI (by omega), zx_nI (by omega), zx_nI (by omega), nI_s1, ev, zu_eq, cEq_nI (by omega) (by omega)]
      have stp : wiF (fun s => decide (orN u s = tk)) (f + 1) s b = wiF (fun s => decide (orN u s = tk)) f (s + 1) (if decide (orN u s = tk) = true ∧ (∀ x, b = some x → pcN s < pcN x) then some s else b) := rfl
      rw [stp]
      cases hP : decide (orN u s = tk)
      · rw [bif_f, if_neg (by simp)]
        exact go b hb
      · rw [bif_t]
        cases b with
        | none =>
          rw [if_pos ⟨rfl, fun x e => by cases e⟩, show cEq (bI none) (-1) = true from by decide, bif_t]
          exact go (some s) (fun x e => by cases e; omega)
        | some x =>
          have hx := hb x rfl
          have hpc : ∀ x, pcN x ≤ 10 := by intro x; unfold pcN; omega
          have p1 := hpc s
          have p2 := hpc x
          have eb : bI (some x) = nI x := rfl
          rw [cEq_n (bI_ne (by omega)), bif_f, bitCount_s g (by omega), zbI_s, eb, bitCount_s g hx, zbI_s]
          by_cases hq : pcN s < pcN x
          · rw [if_pos ⟨rfl, fun v e => by cases e; exact hq⟩, cLtT hq (by omega), bif_t]
            exact go (some s) (fun x e => by cases e; omega)
          · rw [if_neg (fun h => hq (h.2 x rfl)), cLtF (by omega) (by omega), bif_f]
            exact go (some x) hb
theorem wiF_s (P : Nat → Bool) (f s : Nat) (b : Option Nat) : wiF P (f + 1) s b = wiF P f (s + 1) (if P s = true ∧ (∀ u, b = some u → pcN s < pcN u) then some s else b) := rfl
theorem leakC_s (g : zg) (h2 : g.2 = true) {m n tk : Nat} {wo wm : Nat → Nat} {J : zI} {M : zM} (hn : n ≤ 10) (hu : UM m n wo wm M.1 J) (htk : tk < 4096) : ∃ I', X_X2_leaking g [.ref 240, .ref 32, .int (nI tk)] M = some (some (.int (bI (wiF (fun s => decide (orN (fun t => unA wo wm t m) s = tk)) 1024 0 none))), (I', M.2)) ∧ ∀ a, a ≠ 241 → I' a = M.1 a := by
  have hul : ∀ t, unA wo wm t m < 4096 := fun t => unA_lt m (fun k hk => (hu.2.2.2.1 k hk).2.2.2)
  have hu0 : UM m n wo wm (zu M.1 241 0 0) J := by
    obtain ⟨b1, b2, b3, b4, b5⟩ := hu
    refine ⟨b1, ?_, b3, ?_, b5⟩
    · rw [zu_ne (by omega)]; exact b2
    · rw [zu_ne (by omega), zu_ne (by omega)]; exact b4
  have key : ∀ b : Option Nat, (∀ x, b = some x → x < 1024) → ∃ I', zX (t_X2_leaking g) 20 [some (.ref 240), some (.ref 32), some (.int (nI tk)), some (.int (bI b)), some (.int 0)] [] ((zu M.1 241 0 0), M.2) = some (some (.int (bI (wiF (fun s => decide (orN (fun t => unA wo wm t m) s = tk)) 1023 1 b))), (I', M.2)) ∧ ∀ a, a ≠ 241 → I' a = M.1 a := by
    intro b hb
    obtain ⟨I1, q1, q2, q3, q4⟩ := lk_20 g h2 (tk := nI tk) (b := bI b) hn 10 0 ((zu M.1 241 0 0), M.2) hu0 (by omega)
    obtain ⟨I', p1, p2⟩ := lk_51 g h2 (u := fun t => unA wo wm t m) hul htk 1023 1 b (I1, M.2) (by omega) (by omega) hb (by
      intro x hx
      have : x = 0 := by omega
      subst this
      rw [orN_0]
      dsimp only
      rw [q4 0 (fun k _ hk => by have := (p2_lt hk).2; omega)]
      dsimp only
      exact zu_eq) (fun k hk => q3 k (by omega) hk)
    refine ⟨I', q1.trans p1, ?_⟩
    intro a ha
    rw [p2 a ha]
    dsimp only
    rw [q2 a ha]
    exact zu_ne ha
  have stp : wiF (fun s => decide (orN (fun t => unA wo wm t m) s = tk)) (1023 + 1) 0 none = wiF (fun s => decide (orN (fun t => unA wo wm t m) s = tk)) 1023 1 (if decide (orN (fun t => unA wo wm t m) 0 = tk) = true ∧ (∀ x, (none : Option Nat) = some x → pcN 0 < pcN x) then some 0 else none) := wiF_s _ _ _ _
  rw [x_X2_leaking_0 g h2, cEq0_nI (by omega), show 1024 = 1023 + 1 from rfl, stp, orN_0]
  by_cases h0 : tk = 0
  · rw [decide_eq_true h0, bif_t, if_pos ⟨decide_eq_true h0.symm, fun x e => by cases e⟩]
    exact key (some 0) (fun x e => by cases e; omega)
  · rw [decide_eq_false h0, bif_f, if_neg (fun h => h0 (of_decide_eq_true h.1).symm)]
    exact key none (fun x e => by cases e)
