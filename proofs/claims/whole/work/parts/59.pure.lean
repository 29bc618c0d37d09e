/-! PURE ROWS: who serves where -/
/-- the greatest sum with t and what is behind it, of those who may still serve: wt what each is worth, G what is behind -/
def msF (wt : Nat → Nat) (s : Nat) (G : Nat → Nat) : Nat → Nat → Nat → Nat
  | 0, _, a => a
  | f + 1, t, a => msF wt s G f (t + 1) (if 0 < wt t ∧ bt10 s t = false then max a (wt t + G (s ||| 2 ^ t)) else a)
/-- the greatest sum from the post that has j posts behind it and itself -/
def gsN (wt : Nat → Nat → Nat) (m : Nat) : Nat → Nat → Nat
  | 0, _ => 0
  | j + 1, s => msF (wt (m - 1 - j)) s (gsN wt m j) 10 0 (gsN wt m j s)
theorem msF_le {wt : Nat → Nat} {s B : Nat} {G : Nat → Nat} (hw : ∀ t, wt t ≤ 198) (hG : ∀ s, G s ≤ B) (f : Nat) : ∀ t a, a ≤ B + 198 → msF wt s G f t a ≤ B + 198 := by
  induction f with
  | zero => intro t a h; exact h
  | succ f ih =>
    intro t a h
    apply ih
    have h1 := hw t
    have h2 := hG (s ||| 2 ^ t)
    split
    · omega
    · exact h
theorem gsN_le {wt : Nat → Nat → Nat} {m : Nat} (hw : ∀ i t, wt i t ≤ 198) : ∀ j s, gsN wt m j s ≤ 198 * j := by
  intro j
  induction j with
  | zero => intro s; exact Nat.le_refl 0
  | succ j ih =>
    intro s
    have := msF_le (wt := wt (m - 1 - j)) (s := s) (G := gsN wt m j) (B := 198 * j) (hw _) ih 10 0 (gsN wt m j s) (by have := ih s; omega)
    show msF (wt (m - 1 - j)) s (gsN wt m j) 10 0 (gsN wt m j s) ≤ _
    omega
/-- what teller t is worth at post i -/
def wtN (so ps pw : Nat → Int32) (rn : Nat → Int32) (n m i t : Nat) : Nat := if i < m ∧ t < n ∧ cEq0 (rn (38 + t)) = true then (if ps i = so t then 2 * zx (pw i) else zx (pw i)) else 0
/-- the posts alike -/
def POJ (m : Nat) (I J : zI) : Prop := m ≤ 6 ∧ I 32 8 = nI m ∧ J 72 47 = nI m ∧ ∀ k, k < m → I 36 k = J 95 k ∧ I 37 k = J 96 k ∧ inb (J 95 k) 0 5 = true ∧ inb (J 96 k) 1 99 = true
theorem POJ_w {m k : Nat} {I J : zI} (h : POJ m I J) (hk : k < m) : J 96 k = nI (zx (J 96 k)) ∧ 1 ≤ zx (J 96 k) ∧ zx (J 96 k) ≤ 99 := by
  obtain ⟨w, h1, h2, e⟩ := inb1_ex (b := 99) (by omega) rfl (h.2.2.2 k hk).2.2.2
  rw [e, zx_nI (by omega)]
  exact ⟨rfl, h1, h2⟩
theorem wtN_le {m n i t : Nat} {I J : zI} (h : POJ m I J) : wtN (J 76) (J 95) (J 96) (J 73) n m i t ≤ 198 := by
  unfold wtN
  split
  · rename_i hc
    have := POJ_w h hc.1
    split <;> omega
  · omega
theorem wtN_pos {m n i t : Nat} {I J : zI} (h : POJ m I J) (hi : i < m) : 0 < wtN (J 76) (J 95) (J 96) (J 73) n m i t ↔ t < n ∧ cEq0 (J 73 (38 + t)) = true := by
  unfold wtN
  have hw := POJ_w h hi
  by_cases hc : t < n ∧ cEq0 (J 73 (38 + t)) = true
  · rw [if_pos ⟨hi, hc⟩]
    constructor
    · intro _; exact hc
    · intro _; split <;> omega
  · rw [if_neg (fun x => hc x.2)]
    constructor
    · intro x; omega
    · intro x; exact absurd x hc
theorem worth_s (g : zg) {m i : Nat} {so : Int32} {J : zI} {M : zM} (h : POJ m M.1 J) (hi : i < 6) : X_X6_worthOf g [.ref 32, .int (nI i), .int so] M = some (some (.int (nI (if i < m then (if J 95 i = so then 2 * zx (J 96 i) else zx (J 96 i)) else 0))), M) := by
  obtain ⟨b1, b2, b3, b4⟩ := id h
  rw [x_X6_worthOf_0, within_s, zbI_s, b2, cEq0_b01]
  by_cases him : i < m
  · have hin : inb (nI i) 0 (nI m - 1) = true := by
      rw [show nI m - 1 = nI (m - 1) from nI_sub (a := m) (b := 1) (by omega)]
      exact (inb_nI (k := i) (a := 0) (b := m - 1) (by omega) (by omega) (by omega)).trans (by simp; omega)
    obtain ⟨c1, c2, _⟩ := b4 i him
    obtain ⟨e1, e2, e3⟩ := POJ_w h him
    rw [hin, Bool.not_true, bif_f, zbT (by omega) (by omega), bif_t, bif_t, bif_t, zx_nI (by omega), c1, c2, if_pos him, bif_push]
    by_cases e : J 95 i = so
    · rw [cEq_s e, bif_t, if_pos e, e1, ix2, zx_nI (by omega)]
    · rw [cEq_n e, bif_f, if_neg e, ← e1]
  · have hin : inb (nI i) 0 (nI m - 1) = false := by
      cases h1 : inb (nI i) 0 (nI m - 1) with
      | false => rfl
      | true =>
        obtain ⟨k, hk, e⟩ := inb_cnt (by omega) h1
        have := (nI_eq (by omega) (by omega)).mp e
        omega
    rw [hin, if_neg him]
    rfl
theorem cw_11 (g : zg) (h2 : g.2 = true) {m n i : Nat} {J : zI} (hi : i < 6) (f : Nat) : ∀ (t : Nat) (M : zM), CRJ n 7 8 M.1 J → POJ m M.1 J → t + f = 10 → ∃ I', zX (t_X2_countWorths g) 11 [some (.ref 240), some (.ref 7), some (.ref 32), some (.int (nI i)), some (.int (nI t)), none] [] M = zX (t_X2_countWorths g) 2 [some (.ref 240), some (.ref 7), some (.ref 32), some (.int (nI (i + 1))), none, none] [] (I', M.2) ∧ (∀ a, a ≠ 242 → I' a = M.1 a) ∧ (∀ k, t ≤ k → k < 10 → I' 242 (10 * i + k) = nI (wtN (J 76) (J 95) (J 96) (J 73) n m i k)) ∧ ∀ j, (j < 10 * i + t ∨ 10 * i + 10 ≤ j) → I' 242 j = M.1 242 j := by
  have h7 : CO 7 8 := Or.inl ⟨rfl, rfl⟩
  induction f with
  | zero =>
    intro t M hc hp ht
    refine ⟨M.1, ?_, fun _ _ => rfl, fun k h1 h2 => absurd h1 (by omega), fun _ _ => rfl⟩
    rw [e_X2_countWorths_11 g h2, cLtLF (N := 10) (by omega) (by omega), bif_f, nI_s1]
  | succ f ih =>
    intro t M hc hp ht
    obtain ⟨hn, hc2, _⟩ := CR_f hc
    have hst : zX (t_X2_countWorths g) 11 [some (.ref 240), some (.ref 7), some (.ref 32), some (.int (nI i)), some (.int (nI t)), none] [] M = zX (t_X2_countWorths g) 11 [some (.ref 240), some (.ref 7), some (.ref 32), some (.int (nI i)), some (.int (nI (t + 1))), none] [] ((zu M.1 242 (10 * i + t) (nI (wtN (J 76) (J 95) (J 96) (J 73) n m i t))), M.2) := by
      rw [e_X2_countWorths_11 g h2, cLtLT (N := 10) (by omega) (by omega), bif_t, servX10 g hc (by omega), zbI_s, cEq0_b01, ix10, zbT (by omega) (by omega), bif_t, zx_nI (by omega), nI_s1]
      unfold wtN
      by_cases hs : t < n ∧ cEq0 (J 73 (38 + t)) = true
      · rw [decide_eq_true hs.1, hs.2, Bool.and_self, Bool.not_true, bif_f, getX g h7 (k := 0) (kk := 0) hn hc2 hs.1 (by omega) rfl rfl, zbI_s, CR_so hc hs.1, worth_s g hp hi, zbI_s, bif_t]
        by_cases him : i < m
        · rw [if_pos him, if_pos (show i < m ∧ t < n ∧ true = true from ⟨him, hs.1, rfl⟩)]
        · rw [if_neg him, if_neg (show ¬ (i < m ∧ t < n ∧ true = true) from fun x => him x.1)]
      · have hb : (decide (t < n) && cEq0 (J 73 (38 + t))) = false := by
          cases h1 : decide (t < n) with
          | false => rfl
          | true =>
            cases h3 : cEq0 (J 73 (38 + t)) with
            | false => rfl
            | true => exact absurd ⟨of_decide_eq_true h1, h3⟩ hs
        rw [hb, Bool.not_false, bif_t, if_neg (fun x => hs x.2)]
        rfl
    obtain ⟨I', q1, q2, q3, q4⟩ := ih (t + 1) ((zu M.1 242 (10 * i + t) (nI (wtN (J 76) (J 95) (J 96) (J 73) n m i t))), M.2) (by
      unfold CRJ
      dsimp only
      rw [zu_ne (by omega), zu_ne (by omega)]
      exact hc) (by
      obtain ⟨b1, b2, b3, b4⟩ := hp
      refine ⟨b1, ?_, b3, ?_⟩
      · dsimp only; rw [zu_ne (by omega)]; exact b2
      · dsimp only; rw [zu_ne (by omega), zu_ne (by omega)]; exact b4) (by omega)
    refine ⟨I', hst.trans q1, ?_, ?_, ?_⟩
    · intro a ha
      rw [q2 a ha]
      exact zu_ne ha
    · intro k h1 h3
      by_cases e : k = t
      · subst e
        rw [q4 _ (by omega)]
        dsimp only
        exact zu_eq
      · exact q3 k (by omega) h3
    · intro j hj
      rw [q4 j (by omega)]
      dsimp only
      rw [zu_ne2 (by omega)]
theorem cw_2 (g : zg) (h2 : g.2 = true) {m n : Nat} {J : zI} (f : Nat) : ∀ (i : Nat) (M : zM), CRJ n 7 8 M.1 J → POJ m M.1 J → i + f = 6 → ∃ I', zX (t_X2_countWorths g) 2 [some (.ref 240), some (.ref 7), some (.ref 32), some (.int (nI i)), none, none] [] M = some (none, (I', M.2)) ∧ (∀ a, a ≠ 242 → I' a = M.1 a) ∧ (∀ i', i ≤ i' → i' < 6 → ∀ k, k < 10 → I' 242 (10 * i' + k) = nI (wtN (J 76) (J 95) (J 96) (J 73) n m i' k)) ∧ ∀ j, j < 10 * i → I' 242 j = M.1 242 j := by
  induction f with
  | zero =>
    intro i M hc hp hi
    refine ⟨M.1, ?_, fun _ _ => rfl, fun i' h1 h2 => absurd h1 (by omega), fun _ _ => rfl⟩
    rw [e_X2_countWorths_2 g h2, cLtLF (N := 6) (by omega) (by omega), bif_f]
  | succ f ih =>
    intro i M hc hp hi
    obtain ⟨I1, q1, q2, q3, q4⟩ := cw_11 g h2 (i := i) (by omega) 10 0 M hc hp (by omega)
    obtain ⟨I', p1, p2, p3, p4⟩ := ih (i + 1) (I1, M.2) (by
      unfold CRJ
      dsimp only
      rw [q2 7 (by omega), q2 8 (by omega)]
      exact hc) (by
      obtain ⟨b1, b2, b3, b4⟩ := hp
      refine ⟨b1, ?_, b3, ?_⟩
      · dsimp only; rw [q2 32 (by omega)]; exact b2
      · dsimp only; rw [q2 36 (by omega), q2 37 (by omega)]; exact b4) (by omega)
    refine ⟨I', ?_, fun a ha => (p2 a ha).trans (q2 a ha), ?_, ?_⟩
    · rw [e_X2_countWorths_2 g h2, cLtLT (N := 6) (by omega) (by omega), bif_t]
      exact q1.trans p1
    · intro i' h1 h3 k hk
      by_cases e : i' = i
      · subst e
        rw [p4 _ (by omega)]
        exact q3 k (by omega) hk
      · exact p3 i' (by omega) h3 k hk
    · intro j hj
      rw [p4 j (by omega)]
      exact q4 j (by omega)
theorem has0 {s t : Nat} (hs : s < 2147483648) (ht : t < 31) : cEq0 ((nI s >>> (nI t &&& 31)) &&& 1) = !bt10 s t := by
  rw [pk_shrN (by omega) (nI t &&& 31) t (sl32 ⟨t, by omega⟩), show nI (s / 2 ^ t) &&& 1 = nI (s / 2 ^ t % 2) from pk_andN (n := s / 2 ^ t) (by have := Nat.div_le_self s (2 ^ t); omega) (m := 1) 1 (by decide), cEq0_nI (by omega)]
  unfold bt10
  have := Nat.mod_lt (s / 2 ^ t) (show 0 < 2 by omega)
  by_cases h : s / 2 ^ t % 2 = 1
  · rw [decide_eq_true h, decide_eq_false (by omega)]; rfl
  · rw [decide_eq_false h, decide_eq_true (by omega)]; rfl
theorem ix1024 (i k : Nat) : nI i * 1024 + nI k = nI (1024 * i + k) := by
  unfold nI
  rw [show (1024 : Int32) = Int32.ofNat 1024 from rfl, ← Int32.ofNat_mul, ← Int32.ofNat_add, Nat.mul_comm]
theorem bf_18 (g : zg) (h2 : g.2 = true) {i s B : Nat} {wt : Nat → Nat} {G : Nat → Nat} {M : zM} (hi : i < 6) (hs : s < 1024) (hw : ∀ k, k < 10 → M.1 242 (10 * i + k) = nI (wt k) ∧ wt k ≤ 198) (hG : ∀ x, G x ≤ B) (hB : B ≤ 2000) (ht : ∀ k, k < 10 → bt10 s k = false → M.1 241 (1024 * (i + 1) + (s ||| 2 ^ k)) = nI (G (s ||| 2 ^ k))) (f : Nat) : ∀ t a, t + f = 10 → a ≤ 10000 → zX (t_X2_bestFrom g) 18 [some (.ref 240), some (.int (nI i)), some (.int (nI s)), some (.int (nI a)), some (.int (nI t)), none] [] M = some (some (.int (nI (msF wt s G f t a))), M) := by
  induction f with
  | zero =>
    intro t a htf ha
    rw [e_X2_bestFrom_18 g h2, cLtLF (N := 10) (by omega) (by omega), bif_f]
    rfl
  | succ f ih =>
    intro t a htf ha
    obtain ⟨e1, e2⟩ := hw t (by omega)
    have hp := p2_lt (t := t) (by omega)
    have hor := or_lt hs hp.1
    rw [e_X2_bestFrom_18 g h2, cLtLT (N := 10) (by omega) (by omega), bif_t, ix10, zbT (by omega) (by omega), bif_t, zx_nI (by omega), e1, cGt0_nI (by omega), has0 (by omega) (by omega), nI_s1, nI_s1]
    show _ = some (some (Value.int (nI (msF wt s G f (t + 1) (if 0 < wt t ∧ bt10 s t = false then max a (wt t + G (s ||| 2 ^ t)) else a)))), M)
    by_cases hpos : 0 < wt t
    · rw [decide_eq_true hpos, bif_t]
      cases hbt : bt10 s t
      · have hg := hG (s ||| 2 ^ t)
        rw [Bool.not_false, bif_t, one_sh (by omega), nI_or, ix1024, zbT (by omega) (by omega), bif_t, zx_nI (by omega), ht t (by omega) hbt, nI_ad2, max_s, zbI_s, if_pos ⟨hpos, rfl⟩]
        have em : (bif cLt (nI a) (nI (wt t + G (s ||| 2 ^ t))) then nI (wt t + G (s ||| 2 ^ t)) else nI a) = nI (max a (wt t + G (s ||| 2 ^ t))) := by
          rw [cLt_nI (by omega) (by omega)]
          by_cases hq : a < wt t + G (s ||| 2 ^ t)
          · rw [decide_eq_true hq, bif_t, Nat.max_eq_right (by omega)]
          · rw [decide_eq_false hq, bif_f, Nat.max_eq_left (by omega)]
        rw [em]
        exact ih (t + 1) _ (by omega) (by omega)
      · rw [Bool.not_true, bif_f, if_neg (fun x => by cases x.2)]
        exact ih (t + 1) a (by omega) ha
    · rw [decide_eq_false hpos, bif_f, if_neg (fun x => hpos x.1)]
      exact ih (t + 1) a (by omega) ha
